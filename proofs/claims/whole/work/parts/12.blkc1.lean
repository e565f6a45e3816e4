def A_X8_init_0 (G : GP) (X : BX) (P : Int → NS → MM → Prop) (l0 : Int) (rc rs : Nat) (w : NS) (M : MM) : Prop := WA false G X (QM G X false 4 P) 1 0 [(2, l0)] [] rc rs w M
set_option maxHeartbeats 4000000 in
set_option maxRecDepth 100000 in
theorem B_X8_init_0 {G : GP} {X : BX} {P : Int → NS → MM → Prop} {l0 : Int} {rc rs : Nat} {w : NS} {M : MM} (C : CX_X8_init G X) (h : (w.2 l0 = (9, 2)) ∧ ∀ w2 : NS, w2 = (w.1 + 1, us w.2 w.1 12 40) → (l0 < (w.1 : Int)) ∧ ∀ M8 : MM, M8 = (up M l0 0 (w.1 : Int)) → ∀ M9 : MM, M9 = (up M8 l0 1 0) → P 0 w2 M9) : A_X8_init_0 G X P l0 (rc + 1) (rs + 40) w M := by
  unfold A_X8_init_0
  refine s_aload_n C (d_of DX8_init 0 rfl) rfl ?_
  obtain ⟨o1, h⟩ := h
  refine s_objInit C o1 (by decide) (mG (wd_94) rfl) (mG (wd_81) rfl) (mG (wd_82) rfl) (by decide) (by decide) (Nat.le_of_ble_eq_true rfl) (d_of DX8_init 1 rfl) ?_
  refine s_aload_n C (d_of DX8_init 2 rfl) rfl ?_
  refine s_bipush C (d_of DX8_init 3 rfl) ⟨rfl, by decide, by decide⟩ ?_
  refine na_12 (N := 40) C rfl (by decide) (d_of DX8_init 4 rfl) ?_
  refine WA.nmW (fun w2 ew2 => ?_)
  have h := h _ ew2
  obtain ⟨o3, h⟩ := h
  have k4 : w2.2 l0 = (9, 2) := by rw [ew2]; exact us_ne o1 (Int.ne_of_lt o3)
  have b5 : l0 < (w2.1 : Int) := by have := o3; rw [ew2]; show _ < ((w.1 + 1 : Nat) : Int); omega
  have k6 : w2.2 (w.1 : Int) = (12, 40) := by rw [ew2]; exact us_new _ _ _ _
  have b7 : (w.1 : Int) < (w2.1 : Int) := by rw [ew2]; show _ < ((w.1 + 1 : Nat) : Int); omega
  refine pf_X8_11 C k4 (fun e => by cases e) (d_of DX8_init 5 rfl) ?_
  refine WA.nmM (fun M8 eM8 => ?_)
  have h := h _ eM8
  refine s_aload_n C (d_of DX8_init 6 rfl) rfl ?_
  refine s_iconst C (d_of DX8_init 7 rfl) (by decide) ?_
  refine pf_X8_15 C k4 (fun e => by cases e) (d_of DX8_init 8 rfl) ?_
  refine WA.nmM (fun M9 eM9 => ?_)
  have h := h _ eM9
  exact s_vreturn C (d_of DX8_init 9 rfl) h
theorem E_X8_init {G : GP} {l : Launch} {P : Int → NS → MM → Prop} {l0 : Int} {w : NS} {M : MM} (h : ∀ X : BX, X.2.1 = l → CX_X8_init G X → A_X8_init_0 G X P l0 1 40 w M) : CT_X8_init G l [(2, l0)] w M P :=
  CT.of RX8 "<init>" (by decide +kernel) rfl rfl rfl (Nat.le_of_ble_eq_true rfl) (fun hr X hX C => h  X hX C)
def A_X1_init_0 (G : GP) (X : BX) (P : Int → NS → MM → Prop) (l0 : Int) (rc rs : Nat) (w : NS) (M : MM) : Prop := WA false G X (QM G X false 4 P) 1 0 [(2, l0)] [] rc rs w M
set_option maxHeartbeats 4000000 in
set_option maxRecDepth 100000 in
theorem B_X1_init_0 {G : GP} {X : BX} {P : Int → NS → MM → Prop} {l0 : Int} {rc rs : Nat} {w : NS} {M : MM} (C : CX_X1_init G X) (h : (w.2 l0 = (2, 3)) ∧ ∀ M2 : MM, M2 = (up M l0 0 0) → ∀ w3 : NS, w3 = (w.1 + 1, us w.2 w.1 18 24) → (l0 < (w.1 : Int)) ∧ ∀ M9 : MM, M9 = (up M2 l0 1 (w.1 : Int)) → ∀ w10 : NS, w10 = (w3.1 + 1, us w3.2 w3.1 12 61) → ∀ M17 : MM, M17 = (up M9 l0 2 (w3.1 : Int)) → P 0 w10 M17) : A_X1_init_0 G X P l0 (rc + 2) (rs + 85) w M := by
  unfold A_X1_init_0
  refine s_aload_n C (d_of DX1_init 0 rfl) rfl ?_
  obtain ⟨o1, h⟩ := h
  refine s_objInit C o1 (by decide) (mG (wd_110) rfl) (mG (wd_81) rfl) (mG (wd_82) rfl) (by decide) (by decide) (Nat.le_of_ble_eq_true rfl) (d_of DX1_init 1 rfl) ?_
  refine s_aload_n C (d_of DX1_init 2 rfl) rfl ?_
  refine s_iconst C (d_of DX1_init 3 rfl) (by decide) ?_
  refine pf_X1_9 C o1 (by decide) (fun e => by cases e) (d_of DX1_init 4 rfl) ?_
  refine WA.nmM (fun M2 eM2 => ?_)
  have h := h _ eM2
  refine s_aload_n C (d_of DX1_init 5 rfl) rfl ?_
  refine s_bipush C (d_of DX1_init 6 rfl) ⟨rfl, by decide, by decide⟩ ?_
  refine s_newq (t := 18) (N := 24) (t0 := 6) (Cn := "CutBureau$Piece") C (by decide) rfl (mG (wd_111) rfl) (wd_86) rfl (by decide) (d_of DX1_init 7 rfl) ?_
  refine WA.nmW (fun w3 ew3 => ?_)
  have h := h _ ew3
  obtain ⟨o4, h⟩ := h
  have k5 : w3.2 l0 = (2, 3) := by rw [ew3]; exact us_ne o1 (Int.ne_of_lt o4)
  have b6 : l0 < (w3.1 : Int) := by have := o4; rw [ew3]; show _ < ((w.1 + 1 : Nat) : Int); omega
  have k7 : w3.2 (w.1 : Int) = (18, 24) := by rw [ew3]; exact us_new _ _ _ _
  have b8 : (w.1 : Int) < (w3.1 : Int) := by rw [ew3]; show _ < ((w.1 + 1 : Nat) : Int); omega
  refine pf_X1_17 C k5 (fun e => by cases e) (d_of DX1_init 8 rfl) ?_
  refine WA.nmM (fun M9 eM9 => ?_)
  have h := h _ eM9
  refine s_aload_n C (d_of DX1_init 9 rfl) rfl ?_
  refine s_bipush C (d_of DX1_init 10 rfl) ⟨rfl, by decide, by decide⟩ ?_
  refine na_12 (N := 61) C rfl (by decide) (d_of DX1_init 11 rfl) ?_
  refine WA.nmW (fun w10 ew10 => ?_)
  have h := h _ ew10
  have k11 : w10.2 l0 = (2, 3) := by rw [ew10]; exact us_ne k5 (Int.ne_of_lt b6)
  have b12 : l0 < (w10.1 : Int) := by have := b6; rw [ew10]; show _ < ((w3.1 + 1 : Nat) : Int); omega
  have k13 : w10.2 (w.1 : Int) = (18, 24) := by rw [ew10]; exact us_ne k7 (Int.ne_of_lt b8)
  have b14 : (w.1 : Int) < (w10.1 : Int) := by have := b8; rw [ew10]; show _ < ((w3.1 + 1 : Nat) : Int); omega
  have k15 : w10.2 (w3.1 : Int) = (12, 61) := by rw [ew10]; exact us_new _ _ _ _
  have b16 : (w3.1 : Int) < (w10.1 : Int) := by rw [ew10]; show _ < ((w3.1 + 1 : Nat) : Int); omega
  refine pf_X1_21 C k11 (fun e => by cases e) (d_of DX1_init 12 rfl) ?_
  refine WA.nmM (fun M17 eM17 => ?_)
  have h := h _ eM17
  exact s_vreturn C (d_of DX1_init 13 rfl) h
theorem E_X1_init {G : GP} {l : Launch} {P : Int → NS → MM → Prop} {l0 : Int} {w : NS} {M : MM} (h : ∀ X : BX, X.2.1 = l → CX_X1_init G X → A_X1_init_0 G X P l0 2 85 w M) : CT_X1_init G l [(2, l0)] w M P :=
  CT.of RX1 "<init>" (by decide +kernel) rfl rfl rfl (Nat.le_of_ble_eq_true rfl) (fun hr X hX C => h  X hX C)
def A_X0_init_0 (G : GP) (X : BX) (P : Int → NS → MM → Prop) (l0 : Int) (rc rs : Nat) (w : NS) (M : MM) : Prop := WA false G X (QM G X false 4 P) 1 0 [(2, l0)] [] rc rs w M
set_option maxHeartbeats 4000000 in
set_option maxRecDepth 100000 in
theorem B_X0_init_0 {G : GP} {X : BX} {P : Int → NS → MM → Prop} {l0 : Int} {rc rs : Nat} {w : NS} {M : MM} (C : CX_X0_init G X) (h : (w.2 l0 = (1, 5)) ∧ ∀ w2 : NS, w2 = (w.1 + 1, us w.2 w.1 12 9) → (l0 < (w.1 : Int)) ∧ ∀ M8 : MM, M8 = (up M l0 0 (w.1 : Int)) → ∀ w9 : NS, w9 = (w2.1 + 1, us w2.2 w2.1 12 9) → ∀ M16 : MM, M16 = (up M8 l0 1 (w2.1 : Int)) → ∀ M17 : MM, M17 = (up M16 l0 2 0) → ∀ w18 : NS, w18 = (w9.1 + 1, us w9.2 w9.1 12 9) → ∀ M27 : MM, M27 = (up M17 l0 3 (w9.1 : Int)) → ∀ w28 : NS, w28 = (w18.1 + 1, us w18.2 w18.1 12 512) → ∀ M39 : MM, M39 = (up M27 l0 4 (w18.1 : Int)) → P 0 w28 M39) : A_X0_init_0 G X P l0 (rc + 4) (rs + 539) w M := by
  unfold A_X0_init_0
  refine s_aload_n C (d_of DX0_init 0 rfl) rfl ?_
  obtain ⟨o1, h⟩ := h
  refine s_objInit C o1 (by decide) (mG (wd_130) rfl) (mG (wd_81) rfl) (mG (wd_82) rfl) (by decide) (by decide) (Nat.le_of_ble_eq_true rfl) (d_of DX0_init 1 rfl) ?_
  refine s_aload_n C (d_of DX0_init 2 rfl) rfl ?_
  refine s_bipush C (d_of DX0_init 3 rfl) ⟨rfl, by decide, by decide⟩ ?_
  refine na_12 (N := 9) C rfl (by decide) (d_of DX0_init 4 rfl) ?_
  refine WA.nmW (fun w2 ew2 => ?_)
  have h := h _ ew2
  obtain ⟨o3, h⟩ := h
  have k4 : w2.2 l0 = (1, 5) := by rw [ew2]; exact us_ne o1 (Int.ne_of_lt o3)
  have b5 : l0 < (w2.1 : Int) := by have := o3; rw [ew2]; show _ < ((w.1 + 1 : Nat) : Int); omega
  have k6 : w2.2 (w.1 : Int) = (12, 9) := by rw [ew2]; exact us_new _ _ _ _
  have b7 : (w.1 : Int) < (w2.1 : Int) := by rw [ew2]; show _ < ((w.1 + 1 : Nat) : Int); omega
  refine pf_X0_9 C k4 (fun e => by cases e) (d_of DX0_init 5 rfl) ?_
  refine WA.nmM (fun M8 eM8 => ?_)
  have h := h _ eM8
  refine s_aload_n C (d_of DX0_init 6 rfl) rfl ?_
  refine s_bipush C (d_of DX0_init 7 rfl) ⟨rfl, by decide, by decide⟩ ?_
  refine na_12 (N := 9) C rfl (by decide) (d_of DX0_init 8 rfl) ?_
  refine WA.nmW (fun w9 ew9 => ?_)
  have h := h _ ew9
  have k10 : w9.2 l0 = (1, 5) := by rw [ew9]; exact us_ne k4 (Int.ne_of_lt b5)
  have b11 : l0 < (w9.1 : Int) := by have := b5; rw [ew9]; show _ < ((w2.1 + 1 : Nat) : Int); omega
  have k12 : w9.2 (w.1 : Int) = (12, 9) := by rw [ew9]; exact us_ne k6 (Int.ne_of_lt b7)
  have b13 : (w.1 : Int) < (w9.1 : Int) := by have := b7; rw [ew9]; show _ < ((w2.1 + 1 : Nat) : Int); omega
  have k14 : w9.2 (w2.1 : Int) = (12, 9) := by rw [ew9]; exact us_new _ _ _ _
  have b15 : (w2.1 : Int) < (w9.1 : Int) := by rw [ew9]; show _ < ((w2.1 + 1 : Nat) : Int); omega
  refine pf_X0_13 C k10 (fun e => by cases e) (d_of DX0_init 9 rfl) ?_
  refine WA.nmM (fun M16 eM16 => ?_)
  have h := h _ eM16
  refine s_aload_n C (d_of DX0_init 10 rfl) rfl ?_
  refine s_iconst C (d_of DX0_init 11 rfl) (by decide) ?_
  refine pf_X0_16 C k10 (fun e => by cases e) (d_of DX0_init 12 rfl) ?_
  refine WA.nmM (fun M17 eM17 => ?_)
  have h := h _ eM17
  refine s_aload_n C (d_of DX0_init 13 rfl) rfl ?_
  refine s_bipush C (d_of DX0_init 14 rfl) ⟨rfl, by decide, by decide⟩ ?_
  refine na_12 (N := 9) C rfl (by decide) (d_of DX0_init 15 rfl) ?_
  refine WA.nmW (fun w18 ew18 => ?_)
  have h := h _ ew18
  have k19 : w18.2 l0 = (1, 5) := by rw [ew18]; exact us_ne k10 (Int.ne_of_lt b11)
  have b20 : l0 < (w18.1 : Int) := by have := b11; rw [ew18]; show _ < ((w9.1 + 1 : Nat) : Int); omega
  have k21 : w18.2 (w.1 : Int) = (12, 9) := by rw [ew18]; exact us_ne k12 (Int.ne_of_lt b13)
  have b22 : (w.1 : Int) < (w18.1 : Int) := by have := b13; rw [ew18]; show _ < ((w9.1 + 1 : Nat) : Int); omega
  have k23 : w18.2 (w2.1 : Int) = (12, 9) := by rw [ew18]; exact us_ne k14 (Int.ne_of_lt b15)
  have b24 : (w2.1 : Int) < (w18.1 : Int) := by have := b15; rw [ew18]; show _ < ((w9.1 + 1 : Nat) : Int); omega
  have k25 : w18.2 (w9.1 : Int) = (12, 9) := by rw [ew18]; exact us_new _ _ _ _
  have b26 : (w9.1 : Int) < (w18.1 : Int) := by rw [ew18]; show _ < ((w9.1 + 1 : Nat) : Int); omega
  refine pf_X0_20 C k19 (fun e => by cases e) (d_of DX0_init 16 rfl) ?_
  refine WA.nmM (fun M27 eM27 => ?_)
  have h := h _ eM27
  refine s_aload_n C (d_of DX0_init 17 rfl) rfl ?_
  refine s_sipush C (d_of DX0_init 18 rfl) ⟨rfl, by decide, by decide⟩ ?_
  refine na_12 (N := 512) C rfl (by decide) (d_of DX0_init 19 rfl) ?_
  refine WA.nmW (fun w28 ew28 => ?_)
  have h := h _ ew28
  have k29 : w28.2 l0 = (1, 5) := by rw [ew28]; exact us_ne k19 (Int.ne_of_lt b20)
  have b30 : l0 < (w28.1 : Int) := by have := b20; rw [ew28]; show _ < ((w18.1 + 1 : Nat) : Int); omega
  have k31 : w28.2 (w.1 : Int) = (12, 9) := by rw [ew28]; exact us_ne k21 (Int.ne_of_lt b22)
  have b32 : (w.1 : Int) < (w28.1 : Int) := by have := b22; rw [ew28]; show _ < ((w18.1 + 1 : Nat) : Int); omega
  have k33 : w28.2 (w2.1 : Int) = (12, 9) := by rw [ew28]; exact us_ne k23 (Int.ne_of_lt b24)
  have b34 : (w2.1 : Int) < (w28.1 : Int) := by have := b24; rw [ew28]; show _ < ((w18.1 + 1 : Nat) : Int); omega
  have k35 : w28.2 (w9.1 : Int) = (12, 9) := by rw [ew28]; exact us_ne k25 (Int.ne_of_lt b26)
  have b36 : (w9.1 : Int) < (w28.1 : Int) := by have := b26; rw [ew28]; show _ < ((w18.1 + 1 : Nat) : Int); omega
  have k37 : w28.2 (w18.1 : Int) = (12, 512) := by rw [ew28]; exact us_new _ _ _ _
  have b38 : (w18.1 : Int) < (w28.1 : Int) := by rw [ew28]; show _ < ((w18.1 + 1 : Nat) : Int); omega
  refine pf_X0_23 C k29 (fun e => by cases e) (d_of DX0_init 20 rfl) ?_
  refine WA.nmM (fun M39 eM39 => ?_)
  have h := h _ eM39
  exact s_vreturn C (d_of DX0_init 21 rfl) h
theorem E_X0_init {G : GP} {l : Launch} {P : Int → NS → MM → Prop} {l0 : Int} {w : NS} {M : MM} (h : ∀ X : BX, X.2.1 = l → CX_X0_init G X → A_X0_init_0 G X P l0 4 539 w M) : CT_X0_init G l [(2, l0)] w M P :=
  CT.of RX0 "<init>" (by decide +kernel) rfl rfl rfl (Nat.le_of_ble_eq_true rfl) (fun hr X hX C => h  X hX C)
def A_X5_init_0 (G : GP) (X : BX) (P : Int → NS → MM → Prop) (l0 : Int) (rc rs : Nat) (w : NS) (M : MM) : Prop := WA false G X (QM G X false 4 P) 1 0 [(2, l0)] [] rc rs w M
set_option maxHeartbeats 4000000 in
set_option maxRecDepth 100000 in
theorem B_X5_init_0 {G : GP} {X : BX} {P : Int → NS → MM → Prop} {l0 : Int} {rc rs : Nat} {w : NS} {M : MM} (C : CX_X5_init G X) (h : (w.2 l0 = (6, 3)) ∧ ∀ w2 : NS, w2 = (w.1 + 1, us w.2 w.1 12 8) → (l0 < (w.1 : Int)) ∧ ∀ M8 : MM, M8 = (up M l0 0 (w.1 : Int)) → ∀ w9 : NS, w9 = (w2.1 + 1, us w2.2 w2.1 13 256) → ∀ M16 : MM, M16 = (up M8 l0 1 (w2.1 : Int)) → ∀ w17 : NS, w17 = (w9.1 + 1, us w9.2 w9.1 13 256) → ∀ M26 : MM, M26 = (up M16 l0 2 (w9.1 : Int)) → P 0 w17 M26) : A_X5_init_0 G X P l0 (rc + 3) (rs + 520) w M := by
  unfold A_X5_init_0
  refine s_aload_n C (d_of DX5_init 0 rfl) rfl ?_
  obtain ⟨o1, h⟩ := h
  refine s_objInit C o1 (by decide) (mG (wd_157) rfl) (mG (wd_81) rfl) (mG (wd_82) rfl) (by decide) (by decide) (Nat.le_of_ble_eq_true rfl) (d_of DX5_init 1 rfl) ?_
  refine s_aload_n C (d_of DX5_init 2 rfl) rfl ?_
  refine s_bipush C (d_of DX5_init 3 rfl) ⟨rfl, by decide, by decide⟩ ?_
  refine na_12 (N := 8) C rfl (by decide) (d_of DX5_init 4 rfl) ?_
  refine WA.nmW (fun w2 ew2 => ?_)
  have h := h _ ew2
  obtain ⟨o3, h⟩ := h
  have k4 : w2.2 l0 = (6, 3) := by rw [ew2]; exact us_ne o1 (Int.ne_of_lt o3)
  have b5 : l0 < (w2.1 : Int) := by have := o3; rw [ew2]; show _ < ((w.1 + 1 : Nat) : Int); omega
  have k6 : w2.2 (w.1 : Int) = (12, 8) := by rw [ew2]; exact us_new _ _ _ _
  have b7 : (w.1 : Int) < (w2.1 : Int) := by rw [ew2]; show _ < ((w.1 + 1 : Nat) : Int); omega
  refine pf_X5_9 C k4 (fun e => by cases e) (d_of DX5_init 5 rfl) ?_
  refine WA.nmM (fun M8 eM8 => ?_)
  have h := h _ eM8
  refine s_aload_n C (d_of DX5_init 6 rfl) rfl ?_
  refine s_sipush C (d_of DX5_init 7 rfl) ⟨rfl, by decide, by decide⟩ ?_
  refine na_13 (N := 256) C rfl (by decide) (d_of DX5_init 8 rfl) ?_
  refine WA.nmW (fun w9 ew9 => ?_)
  have h := h _ ew9
  have k10 : w9.2 l0 = (6, 3) := by rw [ew9]; exact us_ne k4 (Int.ne_of_lt b5)
  have b11 : l0 < (w9.1 : Int) := by have := b5; rw [ew9]; show _ < ((w2.1 + 1 : Nat) : Int); omega
  have k12 : w9.2 (w.1 : Int) = (12, 8) := by rw [ew9]; exact us_ne k6 (Int.ne_of_lt b7)
  have b13 : (w.1 : Int) < (w9.1 : Int) := by have := b7; rw [ew9]; show _ < ((w2.1 + 1 : Nat) : Int); omega
  have k14 : w9.2 (w2.1 : Int) = (13, 256) := by rw [ew9]; exact us_new _ _ _ _
  have b15 : (w2.1 : Int) < (w9.1 : Int) := by rw [ew9]; show _ < ((w2.1 + 1 : Nat) : Int); omega
  refine pf_X5_15 C k10 (fun e => by cases e) (d_of DX5_init 9 rfl) ?_
  refine WA.nmM (fun M16 eM16 => ?_)
  have h := h _ eM16
  refine s_aload_n C (d_of DX5_init 10 rfl) rfl ?_
  refine s_sipush C (d_of DX5_init 11 rfl) ⟨rfl, by decide, by decide⟩ ?_
  refine na_13 (N := 256) C rfl (by decide) (d_of DX5_init 12 rfl) ?_
  refine WA.nmW (fun w17 ew17 => ?_)
  have h := h _ ew17
  have k18 : w17.2 l0 = (6, 3) := by rw [ew17]; exact us_ne k10 (Int.ne_of_lt b11)
  have b19 : l0 < (w17.1 : Int) := by have := b11; rw [ew17]; show _ < ((w9.1 + 1 : Nat) : Int); omega
  have k20 : w17.2 (w.1 : Int) = (12, 8) := by rw [ew17]; exact us_ne k12 (Int.ne_of_lt b13)
  have b21 : (w.1 : Int) < (w17.1 : Int) := by have := b13; rw [ew17]; show _ < ((w9.1 + 1 : Nat) : Int); omega
  have k22 : w17.2 (w2.1 : Int) = (13, 256) := by rw [ew17]; exact us_ne k14 (Int.ne_of_lt b15)
  have b23 : (w2.1 : Int) < (w17.1 : Int) := by have := b15; rw [ew17]; show _ < ((w9.1 + 1 : Nat) : Int); omega
  have k24 : w17.2 (w9.1 : Int) = (13, 256) := by rw [ew17]; exact us_new _ _ _ _
  have b25 : (w9.1 : Int) < (w17.1 : Int) := by rw [ew17]; show _ < ((w9.1 + 1 : Nat) : Int); omega
  refine pf_X5_19 C k18 (fun e => by cases e) (d_of DX5_init 13 rfl) ?_
  refine WA.nmM (fun M26 eM26 => ?_)
  have h := h _ eM26
  exact s_vreturn C (d_of DX5_init 14 rfl) h
theorem E_X5_init {G : GP} {l : Launch} {P : Int → NS → MM → Prop} {l0 : Int} {w : NS} {M : MM} (h : ∀ X : BX, X.2.1 = l → CX_X5_init G X → A_X5_init_0 G X P l0 3 520 w M) : CT_X5_init G l [(2, l0)] w M P :=
  CT.of RX5 "<init>" (by decide +kernel) rfl rfl rfl (Nat.le_of_ble_eq_true rfl) (fun hr X hX C => h  X hX C)
def A_X2_init_0 (G : GP) (X : BX) (P : Int → NS → MM → Prop) (l0 : Int) (rc rs : Nat) (w : NS) (M : MM) : Prop := WA false G X (QM G X false 4 P) 1 0 [(2, l0)] [] rc rs w M
set_option maxHeartbeats 4000000 in
set_option maxRecDepth 100000 in
theorem B_X2_init_0 {G : GP} {X : BX} {P : Int → NS → MM → Prop} {l0 : Int} {rc rs : Nat} {w : NS} {M : MM} (C : CX_X2_init G X) (h : (w.2 l0 = (3, 2)) ∧ ∀ M2 : MM, M2 = (up M l0 0 (-6)) → ∀ w3 : NS, w3 = (w.1 + 1, us w.2 w.1 12 100) → (l0 < (w.1 : Int)) ∧ ∀ M9 : MM, M9 = (up M2 l0 1 (w.1 : Int)) → P 0 w3 M9) : A_X2_init_0 G X P l0 (rc + 1) (rs + 100) w M := by
  unfold A_X2_init_0
  refine s_aload_n C (d_of DX2_init 0 rfl) rfl ?_
  obtain ⟨o1, h⟩ := h
  refine s_objInit C o1 (by decide) (mG (wd_175) rfl) (mG (wd_81) rfl) (mG (wd_82) rfl) (by decide) (by decide) (Nat.le_of_ble_eq_true rfl) (d_of DX2_init 1 rfl) ?_
  refine s_aload_n C (d_of DX2_init 2 rfl) rfl ?_
  refine s_bipush C (d_of DX2_init 3 rfl) ⟨rfl, by decide, by decide⟩ ?_
  refine pf_X2_9 C o1 (fun e => by cases e) (d_of DX2_init 4 rfl) ?_
  refine WA.nmM (fun M2 eM2 => ?_)
  have h := h _ eM2
  refine s_aload_n C (d_of DX2_init 5 rfl) rfl ?_
  refine s_bipush C (d_of DX2_init 6 rfl) ⟨rfl, by decide, by decide⟩ ?_
  refine na_12 (N := 100) C rfl (by decide) (d_of DX2_init 7 rfl) ?_
  refine WA.nmW (fun w3 ew3 => ?_)
  have h := h _ ew3
  obtain ⟨o4, h⟩ := h
  have k5 : w3.2 l0 = (3, 2) := by rw [ew3]; exact us_ne o1 (Int.ne_of_lt o4)
  have b6 : l0 < (w3.1 : Int) := by have := o4; rw [ew3]; show _ < ((w.1 + 1 : Nat) : Int); omega
  have k7 : w3.2 (w.1 : Int) = (12, 100) := by rw [ew3]; exact us_new _ _ _ _
  have b8 : (w.1 : Int) < (w3.1 : Int) := by rw [ew3]; show _ < ((w.1 + 1 : Nat) : Int); omega
  refine pf_X2_15 C k5 (fun e => by cases e) (d_of DX2_init 8 rfl) ?_
  refine WA.nmM (fun M9 eM9 => ?_)
  have h := h _ eM9
  exact s_vreturn C (d_of DX2_init 9 rfl) h
theorem E_X2_init {G : GP} {l : Launch} {P : Int → NS → MM → Prop} {l0 : Int} {w : NS} {M : MM} (h : ∀ X : BX, X.2.1 = l → CX_X2_init G X → A_X2_init_0 G X P l0 1 100 w M) : CT_X2_init G l [(2, l0)] w M P :=
  CT.of RX2 "<init>" (by decide +kernel) rfl rfl rfl (Nat.le_of_ble_eq_true rfl) (fun hr X hX C => h  X hX C)
def A_X7_init_0 (G : GP) (X : BX) (P : Int → NS → MM → Prop) (l0 : Int) (rc rs : Nat) (w : NS) (M : MM) : Prop := WA false G X (QM G X false 4 P) 1 0 [(2, l0)] [] rc rs w M
set_option maxHeartbeats 4000000 in
set_option maxRecDepth 100000 in
theorem B_X7_init_0 {G : GP} {X : BX} {P : Int → NS → MM → Prop} {l0 : Int} {rc rs : Nat} {w : NS} {M : MM} (C : CX_X7_init G X) (h : (w.2 l0 = (8, 4)) ∧ ∀ M2 : MM, M2 = (up M l0 0 50) → ∀ M3 : MM, M3 = (up M2 l0 1 100) → ∀ w4 : NS, w4 = (w.1 + 1, us w.2 w.1 12 10) → (l0 < (w.1 : Int)) ∧ ∀ M10 : MM, M10 = (up M3 l0 2 (w.1 : Int)) → ∀ M11 : MM, M11 = (up M10 l0 3 0) → P 0 w4 M11) : A_X7_init_0 G X P l0 (rc + 1) (rs + 10) w M := by
  unfold A_X7_init_0
  refine s_aload_n C (d_of DX7_init 0 rfl) rfl ?_
  obtain ⟨o1, h⟩ := h
  refine s_objInit C o1 (by decide) (mG (wd_189) rfl) (mG (wd_81) rfl) (mG (wd_82) rfl) (by decide) (by decide) (Nat.le_of_ble_eq_true rfl) (d_of DX7_init 1 rfl) ?_
  refine s_aload_n C (d_of DX7_init 2 rfl) rfl ?_
  refine s_bipush C (d_of DX7_init 3 rfl) ⟨rfl, by decide, by decide⟩ ?_
  refine pf_X7_9 C o1 (fun e => by cases e) (d_of DX7_init 4 rfl) ?_
  refine WA.nmM (fun M2 eM2 => ?_)
  have h := h _ eM2
  refine s_aload_n C (d_of DX7_init 5 rfl) rfl ?_
  refine s_bipush C (d_of DX7_init 6 rfl) ⟨rfl, by decide, by decide⟩ ?_
  refine pf_X7_15 C o1 (fun e => by cases e) (d_of DX7_init 7 rfl) ?_
  refine WA.nmM (fun M3 eM3 => ?_)
  have h := h _ eM3
  refine s_aload_n C (d_of DX7_init 8 rfl) rfl ?_
  refine s_bipush C (d_of DX7_init 9 rfl) ⟨rfl, by decide, by decide⟩ ?_
  refine na_12 (N := 10) C rfl (by decide) (d_of DX7_init 10 rfl) ?_
  refine WA.nmW (fun w4 ew4 => ?_)
  have h := h _ ew4
  obtain ⟨o5, h⟩ := h
  have k6 : w4.2 l0 = (8, 4) := by rw [ew4]; exact us_ne o1 (Int.ne_of_lt o5)
  have b7 : l0 < (w4.1 : Int) := by have := o5; rw [ew4]; show _ < ((w.1 + 1 : Nat) : Int); omega
  have k8 : w4.2 (w.1 : Int) = (12, 10) := by rw [ew4]; exact us_new _ _ _ _
  have b9 : (w.1 : Int) < (w4.1 : Int) := by rw [ew4]; show _ < ((w.1 + 1 : Nat) : Int); omega
  refine pf_X7_18 C k6 (fun e => by cases e) (d_of DX7_init 11 rfl) ?_
  refine WA.nmM (fun M10 eM10 => ?_)
  have h := h _ eM10
  refine s_aload_n C (d_of DX7_init 12 rfl) rfl ?_
  refine s_iconst C (d_of DX7_init 13 rfl) (by decide) ?_
  refine pf_X7_22 C k6 (fun e => by cases e) (d_of DX7_init 14 rfl) ?_
  refine WA.nmM (fun M11 eM11 => ?_)
  have h := h _ eM11
  exact s_vreturn C (d_of DX7_init 15 rfl) h
theorem E_X7_init {G : GP} {l : Launch} {P : Int → NS → MM → Prop} {l0 : Int} {w : NS} {M : MM} (h : ∀ X : BX, X.2.1 = l → CX_X7_init G X → A_X7_init_0 G X P l0 1 10 w M) : CT_X7_init G l [(2, l0)] w M P :=
  CT.of RX7 "<init>" (by decide +kernel) rfl rfl rfl (Nat.le_of_ble_eq_true rfl) (fun hr X hX C => h  X hX C)
def A_X9_init_0 (G : GP) (X : BX) (P : Int → NS → MM → Prop) (l0 : Int) (rc rs : Nat) (w : NS) (M : MM) : Prop := WA false G X (QM G X false 4 P) 2 0 [(2, l0), (3, 0)] [] rc rs w M
def A_X9_init_65 (G : GP) (X : BX) (P : Int → NS → MM → Prop) (l0 : Int) (rc rs : Nat) (w : NS) (M : MM) : Prop := WA false G X (QM G X false 4 P) 2 65 [(2, l0), (3, 0)] [] rc rs w M
def A_X9_init_79 (G : GP) (X : BX) (P : Int → NS → MM → Prop) (l0 : Int) (rc rs : Nat) (w : NS) (M : MM) : Prop := WA false G X (QM G X false 4 P) 2 79 [(2, l0), (3, 0)] [] rc rs w M
def A_X9_init_93 (G : GP) (X : BX) (P : Int → NS → MM → Prop) (l0 : Int) (rc rs : Nat) (w : NS) (M : MM) : Prop := WA false G X (QM G X false 4 P) 2 93 [(2, l0), (3, 0)] [] rc rs w M
def A_X9_init_107 (G : GP) (X : BX) (P : Int → NS → MM → Prop) (l0 : Int) (rc rs : Nat) (w : NS) (M : MM) : Prop := WA false G X (QM G X false 4 P) 2 107 [(2, l0), (3, 0)] [] rc rs w M
def A_X9_init_129 (G : GP) (X : BX) (P : Int → NS → MM → Prop) (l0 : Int) (rc rs : Nat) (w : NS) (M : MM) : Prop := WA false G X (QM G X false 4 P) 2 129 [(2, l0), (3, 0)] [] rc rs w M
def A_X9_init_142 (G : GP) (X : BX) (P : Int → NS → MM → Prop) (l0 : Int) (rc rs : Nat) (w : NS) (M : MM) : Prop := WA false G X (QM G X false 4 P) 2 142 [(2, l0), (3, 0)] [] rc rs w M
def A_X9_init_161 (G : GP) (X : BX) (P : Int → NS → MM → Prop) (l0 : Int) (rc rs : Nat) (w : NS) (M : MM) : Prop := WA false G X (QM G X false 4 P) 2 161 [(2, l0), (3, 0)] [] rc rs w M
def A_X9_init_180 (G : GP) (X : BX) (P : Int → NS → MM → Prop) (l0 : Int) (rc rs : Nat) (w : NS) (M : MM) : Prop := WA false G X (QM G X false 4 P) 2 180 [(2, l0), (3, 0)] [] rc rs w M
def A_X9_init_190 (G : GP) (X : BX) (P : Int → NS → MM → Prop) (l0 : Int) (l1 : Int) (rc rs : Nat) (w : NS) (M : MM) : Prop := WA false G X (QM G X false 4 P) 2 190 [(2, l0), (0, l1)] [] rc rs w M
def A_X9_init_216 (G : GP) (X : BX) (P : Int → NS → MM → Prop) (l0 : Int) (l1 : Int) (rc rs : Nat) (w : NS) (M : MM) : Prop := WA false G X (QM G X false 4 P) 2 216 [(2, l0), (0, l1)] [] rc rs w M
set_option maxHeartbeats 4000000 in
set_option maxRecDepth 100000 in
theorem B_X9_init_0 {G : GP} {X : BX} {P : Int → NS → MM → Prop} {l0 : Int} {rc rs : Nat} {w : NS} {M : MM} (C : CX_X9_init G X) (h : (w.2 l0 = (10, 17)) ∧ ∀ w2 : NS, w2 = (w.1 + 1, us w.2 w.1 12 9) → (l0 < (w.1 : Int)) ∧ ∀ M8 : MM, M8 = (up M (w.1 : Int) 0 20) → ∀ M9 : MM, M9 = (up M8 (w.1 : Int) 1 5) → ∀ M10 : MM, M10 = (up M9 (w.1 : Int) 2 10) → ∀ M11 : MM, M11 = (up M10 (w.1 : Int) 3 500) → ∀ M12 : MM, M12 = (up M11 (w.1 : Int) 4 100) → ∀ M13 : MM, M13 = (up M12 (w.1 : Int) 5 3) → ∀ M14 : MM, M14 = (up M13 (w.1 : Int) 6 2) → ∀ M15 : MM, M15 = (up M14 (w.1 : Int) 7 1) → ∀ M16 : MM, M16 = (up M15 (w.1 : Int) 8 0) → ∀ M17 : MM, M17 = (up M16 l0 0 (w.1 : Int)) → ∀ w18 : NS, w18 = (w2.1 + 1, us w2.2 w2.1 17 8) → ∀ M25 : MM, M25 = (up M17 l0 1 (w2.1 : Int)) → A_X9_init_65 G X P l0 (rc + 0) (rs + 0) w18 M25) : A_X9_init_0 G X P l0 (rc + 2) (rs + 17) w M := by
  unfold A_X9_init_0
  refine s_aload_n C (d_of DX9_init 0 rfl) rfl ?_
  obtain ⟨o1, h⟩ := h
  refine s_objInit C o1 (by decide) (mG (wd_80) rfl) (mG (wd_81) rfl) (mG (wd_82) rfl) (by decide) (by decide) (Nat.le_of_ble_eq_true rfl) (d_of DX9_init 1 rfl) ?_
  refine s_aload_n C (d_of DX9_init 2 rfl) rfl ?_
  refine s_bipush C (d_of DX9_init 3 rfl) ⟨rfl, by decide, by decide⟩ ?_
  refine na_12 (N := 9) C rfl (by decide) (d_of DX9_init 4 rfl) ?_
  refine WA.nmW (fun w2 ew2 => ?_)
  have h := h _ ew2
  obtain ⟨o3, h⟩ := h
  have k4 : w2.2 l0 = (10, 17) := by rw [ew2]; exact us_ne o1 (Int.ne_of_lt o3)
  have b5 : l0 < (w2.1 : Int) := by have := o3; rw [ew2]; show _ < ((w.1 + 1 : Nat) : Int); omega
  have k6 : w2.2 (w.1 : Int) = (12, 9) := by rw [ew2]; exact us_new _ _ _ _
  have b7 : (w.1 : Int) < (w2.1 : Int) := by rw [ew2]; show _ < ((w.1 + 1 : Nat) : Int); omega
  refine s_dup C (by simp) (d_of DX9_init 5 rfl) ?_
  refine s_iconst C (d_of DX9_init 6 rfl) (by decide) ?_
  refine s_bipush C (d_of DX9_init 7 rfl) ⟨rfl, by decide, by decide⟩ ?_
  refine s_iast C k6 (by decide) (by decide) (fun e => by cases e) (d_of DX9_init 8 rfl) ?_
  refine WA.nmM (fun M8 eM8 => ?_)
  have h := h _ eM8
  refine s_dup C (by simp) (d_of DX9_init 9 rfl) ?_
  refine s_iconst C (d_of DX9_init 10 rfl) (by decide) ?_
  refine s_iconst C (d_of DX9_init 11 rfl) (by decide) ?_
  refine s_iast C k6 (by decide) (by decide) (fun e => by cases e) (d_of DX9_init 12 rfl) ?_
  refine WA.nmM (fun M9 eM9 => ?_)
  have h := h _ eM9
  refine s_dup C (by simp) (d_of DX9_init 13 rfl) ?_
  refine s_iconst C (d_of DX9_init 14 rfl) (by decide) ?_
  refine s_bipush C (d_of DX9_init 15 rfl) ⟨rfl, by decide, by decide⟩ ?_
  refine s_iast C k6 (by decide) (by decide) (fun e => by cases e) (d_of DX9_init 16 rfl) ?_
  refine WA.nmM (fun M10 eM10 => ?_)
  have h := h _ eM10
  refine s_dup C (by simp) (d_of DX9_init 17 rfl) ?_
  refine s_iconst C (d_of DX9_init 18 rfl) (by decide) ?_
  refine s_sipush C (d_of DX9_init 19 rfl) ⟨rfl, by decide, by decide⟩ ?_
  refine s_iast C k6 (by decide) (by decide) (fun e => by cases e) (d_of DX9_init 20 rfl) ?_
  refine WA.nmM (fun M11 eM11 => ?_)
  have h := h _ eM11
  refine s_dup C (by simp) (d_of DX9_init 21 rfl) ?_
  refine s_iconst C (d_of DX9_init 22 rfl) (by decide) ?_
  refine s_bipush C (d_of DX9_init 23 rfl) ⟨rfl, by decide, by decide⟩ ?_
  refine s_iast C k6 (by decide) (by decide) (fun e => by cases e) (d_of DX9_init 24 rfl) ?_
  refine WA.nmM (fun M12 eM12 => ?_)
  have h := h _ eM12
  refine s_dup C (by simp) (d_of DX9_init 25 rfl) ?_
  refine s_iconst C (d_of DX9_init 26 rfl) (by decide) ?_
  refine s_iconst C (d_of DX9_init 27 rfl) (by decide) ?_
  refine s_iast C k6 (by decide) (by decide) (fun e => by cases e) (d_of DX9_init 28 rfl) ?_
  refine WA.nmM (fun M13 eM13 => ?_)
  have h := h _ eM13
  refine s_dup C (by simp) (d_of DX9_init 29 rfl) ?_
  refine s_bipush C (d_of DX9_init 30 rfl) ⟨rfl, by decide, by decide⟩ ?_
  refine s_iconst C (d_of DX9_init 31 rfl) (by decide) ?_
  refine s_iast C k6 (by decide) (by decide) (fun e => by cases e) (d_of DX9_init 32 rfl) ?_
  refine WA.nmM (fun M14 eM14 => ?_)
  have h := h _ eM14
  refine s_dup C (by simp) (d_of DX9_init 33 rfl) ?_
  refine s_bipush C (d_of DX9_init 34 rfl) ⟨rfl, by decide, by decide⟩ ?_
  refine s_iconst C (d_of DX9_init 35 rfl) (by decide) ?_
  refine s_iast C k6 (by decide) (by decide) (fun e => by cases e) (d_of DX9_init 36 rfl) ?_
  refine WA.nmM (fun M15 eM15 => ?_)
  have h := h _ eM15
  refine s_dup C (by simp) (d_of DX9_init 37 rfl) ?_
  refine s_bipush C (d_of DX9_init 38 rfl) ⟨rfl, by decide, by decide⟩ ?_
  refine s_iconst C (d_of DX9_init 39 rfl) (by decide) ?_
  refine s_iast C k6 (by decide) (by decide) (fun e => by cases e) (d_of DX9_init 40 rfl) ?_
  refine WA.nmM (fun M16 eM16 => ?_)
  have h := h _ eM16
  refine pf_X9_7 C k4 (fun e => by cases e) (d_of DX9_init 41 rfl) ?_
  refine WA.nmM (fun M17 eM17 => ?_)
  have h := h _ eM17
  refine s_aload_n C (d_of DX9_init 42 rfl) rfl ?_
  refine s_bipush C (d_of DX9_init 43 rfl) ⟨rfl, by decide, by decide⟩ ?_
  refine s_newq (t := 17) (N := 8) (t0 := 5) (Cn := "CutBureau$Page") C (by decide) rfl (mG (wd_83) rfl) (wd_84) rfl (by decide) (d_of DX9_init 44 rfl) ?_
  refine WA.nmW (fun w18 ew18 => ?_)
  have h := h _ ew18
  have k19 : w18.2 l0 = (10, 17) := by rw [ew18]; exact us_ne k4 (Int.ne_of_lt b5)
  have b20 : l0 < (w18.1 : Int) := by have := b5; rw [ew18]; show _ < ((w2.1 + 1 : Nat) : Int); omega
  have k21 : w18.2 (w.1 : Int) = (12, 9) := by rw [ew18]; exact us_ne k6 (Int.ne_of_lt b7)
  have b22 : (w.1 : Int) < (w18.1 : Int) := by have := b7; rw [ew18]; show _ < ((w2.1 + 1 : Nat) : Int); omega
  have k23 : w18.2 (w2.1 : Int) = (17, 8) := by rw [ew18]; exact us_new _ _ _ _
  have b24 : (w2.1 : Int) < (w18.1 : Int) := by rw [ew18]; show _ < ((w2.1 + 1 : Nat) : Int); omega
  refine pf_X9_15 C k19 (fun e => by cases e) (d_of DX9_init 45 rfl) ?_
  refine WA.nmM (fun M25 eM25 => ?_)
  have h := h _ eM25
  exact h
set_option maxHeartbeats 4000000 in
set_option maxRecDepth 100000 in
theorem B_X9_init_65 {G : GP} {X : BX} {P : Int → NS → MM → Prop} {l0 : Int} {rc rs : Nat} {w : NS} {M : MM} (C : CX_X9_init G X) (h : (w.2 l0 = (10, 17)) ∧ ∀ M2 : MM, M2 = (up M l0 2 0) → ∀ w3 : NS, w3 = (w.1 + 1, us w.2 w.1 18 24) → (l0 < (w.1 : Int)) ∧ ∀ M9 : MM, M9 = (up M2 l0 3 (w.1 : Int)) → A_X9_init_79 G X P l0 (rc + 0) (rs + 0) w3 M9) : A_X9_init_65 G X P l0 (rc + 1) (rs + 24) w M := by
  unfold A_X9_init_65
  refine s_aload_n C (d_of DX9_init 46 rfl) rfl ?_
  refine s_iconst C (d_of DX9_init 47 rfl) (by decide) ?_
  obtain ⟨o1, h⟩ := h
  refine pf_X9_19 C o1 (fun e => by cases e) (d_of DX9_init 48 rfl) ?_
  refine WA.nmM (fun M2 eM2 => ?_)
  have h := h _ eM2
  refine s_aload_n C (d_of DX9_init 49 rfl) rfl ?_
  refine s_bipush C (d_of DX9_init 50 rfl) ⟨rfl, by decide, by decide⟩ ?_
  refine s_newq (t := 18) (N := 24) (t0 := 6) (Cn := "CutBureau$Piece") C (by decide) rfl (mG (wd_85) rfl) (wd_86) rfl (by decide) (d_of DX9_init 51 rfl) ?_
  refine WA.nmW (fun w3 ew3 => ?_)
  have h := h _ ew3
  obtain ⟨o4, h⟩ := h
  have k5 : w3.2 l0 = (10, 17) := by rw [ew3]; exact us_ne o1 (Int.ne_of_lt o4)
  have b6 : l0 < (w3.1 : Int) := by have := o4; rw [ew3]; show _ < ((w.1 + 1 : Nat) : Int); omega
  have k7 : w3.2 (w.1 : Int) = (18, 24) := by rw [ew3]; exact us_new _ _ _ _
  have b8 : (w.1 : Int) < (w3.1 : Int) := by rw [ew3]; show _ < ((w.1 + 1 : Nat) : Int); omega
  refine pf_X9_25 C k5 (fun e => by cases e) (d_of DX9_init 52 rfl) ?_
  refine WA.nmM (fun M9 eM9 => ?_)
  have h := h _ eM9
  exact h
set_option maxHeartbeats 4000000 in
set_option maxRecDepth 100000 in
theorem B_X9_init_79 {G : GP} {X : BX} {P : Int → NS → MM → Prop} {l0 : Int} {rc rs : Nat} {w : NS} {M : MM} (C : CX_X9_init G X) (h : (w.2 l0 = (10, 17)) ∧ ∀ M2 : MM, M2 = (up M l0 4 0) → ∀ w3 : NS, w3 = (w.1 + 1, us w.2 w.1 18 24) → (l0 < (w.1 : Int)) ∧ ∀ M9 : MM, M9 = (up M2 l0 5 (w.1 : Int)) → A_X9_init_93 G X P l0 (rc + 0) (rs + 0) w3 M9) : A_X9_init_79 G X P l0 (rc + 1) (rs + 24) w M := by
  unfold A_X9_init_79
  refine s_aload_n C (d_of DX9_init 53 rfl) rfl ?_
  refine s_iconst C (d_of DX9_init 54 rfl) (by decide) ?_
  obtain ⟨o1, h⟩ := h
  refine pf_X9_29 C o1 (fun e => by cases e) (d_of DX9_init 55 rfl) ?_
  refine WA.nmM (fun M2 eM2 => ?_)
  have h := h _ eM2
  refine s_aload_n C (d_of DX9_init 56 rfl) rfl ?_
  refine s_bipush C (d_of DX9_init 57 rfl) ⟨rfl, by decide, by decide⟩ ?_
  refine s_newq (t := 18) (N := 24) (t0 := 6) (Cn := "CutBureau$Piece") C (by decide) rfl (mG (wd_85) rfl) (wd_86) rfl (by decide) (d_of DX9_init 58 rfl) ?_
  refine WA.nmW (fun w3 ew3 => ?_)
  have h := h _ ew3
  obtain ⟨o4, h⟩ := h
  have k5 : w3.2 l0 = (10, 17) := by rw [ew3]; exact us_ne o1 (Int.ne_of_lt o4)
  have b6 : l0 < (w3.1 : Int) := by have := o4; rw [ew3]; show _ < ((w.1 + 1 : Nat) : Int); omega
  have k7 : w3.2 (w.1 : Int) = (18, 24) := by rw [ew3]; exact us_new _ _ _ _
  have b8 : (w.1 : Int) < (w3.1 : Int) := by rw [ew3]; show _ < ((w.1 + 1 : Nat) : Int); omega
  refine pf_X9_32 C k5 (fun e => by cases e) (d_of DX9_init 59 rfl) ?_
  refine WA.nmM (fun M9 eM9 => ?_)
  have h := h _ eM9
  exact h
set_option maxHeartbeats 4000000 in
set_option maxRecDepth 100000 in
theorem B_X9_init_93 {G : GP} {X : BX} {P : Int → NS → MM → Prop} {l0 : Int} {rc rs : Nat} {w : NS} {M : MM} (C : CX_X9_init G X) (h : ∀ w1 : NS, w1 = (w.1 + 1, us w.2 w.1 16 10) → (w1.2 l0 = (10, 17)) ∧ ∀ M5 : MM, M5 = (up M l0 6 (w.1 : Int)) → ∀ M6 : MM, M6 = (up M5 l0 7 0) → A_X9_init_107 G X P l0 (rc + 0) (rs + 0) w1 M6) : A_X9_init_93 G X P l0 (rc + 1) (rs + 10) w M := by
  unfold A_X9_init_93
  refine s_aload_n C (d_of DX9_init 60 rfl) rfl ?_
  refine s_bipush C (d_of DX9_init 61 rfl) ⟨rfl, by decide, by decide⟩ ?_
  refine s_newq (t := 16) (N := 10) (t0 := 4) (Cn := "CutBureau$Order") C (by decide) rfl (mG (wd_87) rfl) (wd_88) rfl (by decide) (d_of DX9_init 62 rfl) ?_
  refine WA.nmW (fun w1 ew1 => ?_)
  have h := h _ ew1
  have k2 : w1.2 (w.1 : Int) = (16, 10) := by rw [ew1]; exact us_new _ _ _ _
  have b3 : (w.1 : Int) < (w1.1 : Int) := by rw [ew1]; show _ < ((w.1 + 1 : Nat) : Int); omega
  obtain ⟨o4, h⟩ := h
  refine pf_X9_37 C o4 (fun e => by cases e) (d_of DX9_init 63 rfl) ?_
  refine WA.nmM (fun M5 eM5 => ?_)
  have h := h _ eM5
  refine s_aload_n C (d_of DX9_init 64 rfl) rfl ?_
  refine s_iconst C (d_of DX9_init 65 rfl) (by decide) ?_
  refine pf_X9_41 C o4 (fun e => by cases e) (d_of DX9_init 66 rfl) ?_
  refine WA.nmM (fun M6 eM6 => ?_)
  have h := h _ eM6
  exact h
set_option maxHeartbeats 4000000 in
set_option maxRecDepth 100000 in
theorem B_X9_init_107 {G : GP} {X : BX} {P : Int → NS → MM → Prop} {l0 : Int} {rc rs : Nat} {w : NS} {M : MM} (C : CX_X9_init G X) (h : ∀ w1 : NS, w1 = (w.1 + 1, us w.2 w.1 9 2) → ∃ Q4 : Int → NS → MM → Prop, CT_X8_init G X.2.1 [(2, (w.1 : Int))] w1 M Q4 ∧ ∀ (z4 : Int) (w4 : NS) (M4 : MM), Q4 z4 w4 M4 → (w4.2 (w.1 : Int) = (9, 2)) ∧ ((w.1 : Int) < (w4.1 : Int)) ∧ (w4.2 l0 = (10, 17)) ∧ ∀ M8 : MM, M8 = (up M4 l0 8 (w.1 : Int)) → ∀ w9 : NS, w9 = (w4.1 + 1, us w4.2 w4.1 2 3) → (l0 < (w4.1 : Int)) ∧ ∃ Q17 : Int → NS → MM → Prop, CT_X1_init G X.2.1 [(2, (w4.1 : Int))] w9 M8 Q17 ∧ ∀ (z17 : Int) (w17 : NS) (M17 : MM), Q17 z17 w17 M17 → (w17.2 (w.1 : Int) = (9, 2)) ∧ ((w.1 : Int) < (w17.1 : Int)) ∧ (w17.2 l0 = (10, 17)) ∧ (l0 < (w17.1 : Int)) ∧ (w17.2 (w4.1 : Int) = (2, 3)) ∧ ((w4.1 : Int) < (w17.1 : Int)) ∧ ∀ M24 : MM, M24 = (up M17 l0 9 (w4.1 : Int)) → A_X9_init_129 G X P l0 (rc + 0) (rs + 0) w17 M24) : A_X9_init_107 G X P l0 (rc + 5) (rs + 130) w M := by
  unfold A_X9_init_107
  refine s_aload_n C (d_of DX9_init 67 rfl) rfl ?_
  refine nw_X9_44 C (d_of DX9_init 68 rfl) ?_
  refine WA.nmW (fun w1 ew1 => ?_)
  have h := h _ ew1
  have k2 : w1.2 (w.1 : Int) = (9, 2) := by rw [ew1]; exact us_new _ _ _ _
  have b3 : (w.1 : Int) < (w1.1 : Int) := by rw [ew1]; show _ < ((w.1 + 1 : Nat) : Int); omega
  refine s_dup C (by simp) (d_of DX9_init 69 rfl) ?_
  obtain ⟨Q4, hKQ4, h⟩ := h
  refine s_callIN (av := []) (rest := [(2, (w.1 : Int)), (2, l0)]) (mc := 1) (ms := 40) C (d_of DX9_init 70 rfl) lk_X9_46 k2 (by decide) rfl rfl (Nat.le_of_ble_eq_true rfl) (by decide) (by decide) hKQ4 (fun z4 w4 M4 hq => ?_)
  have h := h z4 w4 M4 hq
  obtain ⟨o5, h⟩ := h
  obtain ⟨o6, h⟩ := h
  obtain ⟨o7, h⟩ := h
  refine pf_X9_47 C o7 (fun e => by cases e) (d_of DX9_init 71 rfl) ?_
  refine WA.nmM (fun M8 eM8 => ?_)
  have h := h _ eM8
  refine s_aload_n C (d_of DX9_init 72 rfl) rfl ?_
  refine nw_X9_51 C (d_of DX9_init 73 rfl) ?_
  refine WA.nmW (fun w9 ew9 => ?_)
  have h := h _ ew9
  have k10 : w9.2 (w.1 : Int) = (9, 2) := by rw [ew9]; exact us_ne o5 (Int.ne_of_lt o6)
  have b11 : (w.1 : Int) < (w9.1 : Int) := by have := o6; rw [ew9]; show _ < ((w4.1 + 1 : Nat) : Int); omega
  obtain ⟨o12, h⟩ := h
  have k13 : w9.2 l0 = (10, 17) := by rw [ew9]; exact us_ne o7 (Int.ne_of_lt o12)
  have b14 : l0 < (w9.1 : Int) := by have := o12; rw [ew9]; show _ < ((w4.1 + 1 : Nat) : Int); omega
  have k15 : w9.2 (w4.1 : Int) = (2, 3) := by rw [ew9]; exact us_new _ _ _ _
  have b16 : (w4.1 : Int) < (w9.1 : Int) := by rw [ew9]; show _ < ((w4.1 + 1 : Nat) : Int); omega
  refine s_dup C (by simp) (d_of DX9_init 74 rfl) ?_
  obtain ⟨Q17, hKQ17, h⟩ := h
  refine s_callIN (av := []) (rest := [(2, (w4.1 : Int)), (2, l0)]) (mc := 2) (ms := 85) C (d_of DX9_init 75 rfl) lk_X9_53 k15 (by decide) rfl rfl (Nat.le_of_ble_eq_true rfl) (by decide) (by decide) hKQ17 (fun z17 w17 M17 hq => ?_)
  have h := h z17 w17 M17 hq
  obtain ⟨o18, h⟩ := h
  obtain ⟨o19, h⟩ := h
  obtain ⟨o20, h⟩ := h
  obtain ⟨o21, h⟩ := h
  obtain ⟨o22, h⟩ := h
  obtain ⟨o23, h⟩ := h
  refine pf_X9_54 C o20 (fun e => by cases e) (d_of DX9_init 76 rfl) ?_
  refine WA.nmM (fun M24 eM24 => ?_)
  have h := h _ eM24
  exact h
set_option maxHeartbeats 4000000 in
set_option maxRecDepth 100000 in
theorem B_X9_init_129 {G : GP} {X : BX} {P : Int → NS → MM → Prop} {l0 : Int} {rc rs : Nat} {w : NS} {M : MM} (C : CX_X9_init G X) (h : ∀ w1 : NS, w1 = (w.1 + 1, us w.2 w.1 12 24) → (w1.2 l0 = (10, 17)) ∧ ∀ M5 : MM, M5 = (up M l0 10 (w.1 : Int)) → ∀ M6 : MM, M6 = (up M5 l0 11 0) → A_X9_init_142 G X P l0 (rc + 0) (rs + 0) w1 M6) : A_X9_init_129 G X P l0 (rc + 1) (rs + 24) w M := by
  unfold A_X9_init_129
  refine s_aload_n C (d_of DX9_init 77 rfl) rfl ?_
  refine s_bipush C (d_of DX9_init 78 rfl) ⟨rfl, by decide, by decide⟩ ?_
  refine na_12 (N := 24) C rfl (by decide) (d_of DX9_init 79 rfl) ?_
  refine WA.nmW (fun w1 ew1 => ?_)
  have h := h _ ew1
  have k2 : w1.2 (w.1 : Int) = (12, 24) := by rw [ew1]; exact us_new _ _ _ _
  have b3 : (w.1 : Int) < (w1.1 : Int) := by rw [ew1]; show _ < ((w.1 + 1 : Nat) : Int); omega
  obtain ⟨o4, h⟩ := h
  refine pf_X9_58 C o4 (fun e => by cases e) (d_of DX9_init 80 rfl) ?_
  refine WA.nmM (fun M5 eM5 => ?_)
  have h := h _ eM5
  refine s_aload_n C (d_of DX9_init 81 rfl) rfl ?_
  refine s_iconst C (d_of DX9_init 82 rfl) (by decide) ?_
  refine pf_X9_61 C o4 (fun e => by cases e) (d_of DX9_init 83 rfl) ?_
  refine WA.nmM (fun M6 eM6 => ?_)
  have h := h _ eM6
  exact h
set_option maxHeartbeats 4000000 in
set_option maxRecDepth 100000 in
theorem B_X9_init_142 {G : GP} {X : BX} {P : Int → NS → MM → Prop} {l0 : Int} {rc rs : Nat} {w : NS} {M : MM} (C : CX_X9_init G X) (h : ∀ w1 : NS, w1 = (w.1 + 1, us w.2 w.1 15 4) → (w1.2 l0 = (10, 17)) ∧ ∀ M5 : MM, M5 = (up M l0 12 (w.1 : Int)) → ∀ w6 : NS, w6 = (w1.1 + 1, us w1.2 w1.1 1 5) → (l0 < (w1.1 : Int)) ∧ ∃ Q14 : Int → NS → MM → Prop, CT_X0_init G X.2.1 [(2, (w1.1 : Int))] w6 M5 Q14 ∧ ∀ (z14 : Int) (w14 : NS) (M14 : MM), Q14 z14 w14 M14 → (w14.2 (w.1 : Int) = (15, 4)) ∧ ((w.1 : Int) < (w14.1 : Int)) ∧ (w14.2 l0 = (10, 17)) ∧ (l0 < (w14.1 : Int)) ∧ (w14.2 (w1.1 : Int) = (1, 5)) ∧ ((w1.1 : Int) < (w14.1 : Int)) ∧ ∀ M21 : MM, M21 = (up M14 l0 13 (w1.1 : Int)) → A_X9_init_161 G X P l0 (rc + 0) (rs + 0) w14 M21) : A_X9_init_142 G X P l0 (rc + 6) (rs + 548) w M := by
  unfold A_X9_init_142
  refine s_aload_n C (d_of DX9_init 84 rfl) rfl ?_
  refine s_iconst C (d_of DX9_init 85 rfl) (by decide) ?_
  refine s_newq (t := 15) (N := 4) (t0 := 3) (Cn := "CutBureau$Name") C (by decide) rfl (mG (wd_123) rfl) (wd_124) rfl (by decide) (d_of DX9_init 86 rfl) ?_
  refine WA.nmW (fun w1 ew1 => ?_)
  have h := h _ ew1
  have k2 : w1.2 (w.1 : Int) = (15, 4) := by rw [ew1]; exact us_new _ _ _ _
  have b3 : (w.1 : Int) < (w1.1 : Int) := by rw [ew1]; show _ < ((w.1 + 1 : Nat) : Int); omega
  obtain ⟨o4, h⟩ := h
  refine pf_X9_66 C o4 (fun e => by cases e) (d_of DX9_init 87 rfl) ?_
  refine WA.nmM (fun M5 eM5 => ?_)
  have h := h _ eM5
  refine s_aload_n C (d_of DX9_init 88 rfl) rfl ?_
  refine nw_X9_70 C (d_of DX9_init 89 rfl) ?_
  refine WA.nmW (fun w6 ew6 => ?_)
  have h := h _ ew6
  have k7 : w6.2 (w.1 : Int) = (15, 4) := by rw [ew6]; exact us_ne k2 (Int.ne_of_lt b3)
  have b8 : (w.1 : Int) < (w6.1 : Int) := by have := b3; rw [ew6]; show _ < ((w1.1 + 1 : Nat) : Int); omega
  obtain ⟨o9, h⟩ := h
  have k10 : w6.2 l0 = (10, 17) := by rw [ew6]; exact us_ne o4 (Int.ne_of_lt o9)
  have b11 : l0 < (w6.1 : Int) := by have := o9; rw [ew6]; show _ < ((w1.1 + 1 : Nat) : Int); omega
  have k12 : w6.2 (w1.1 : Int) = (1, 5) := by rw [ew6]; exact us_new _ _ _ _
  have b13 : (w1.1 : Int) < (w6.1 : Int) := by rw [ew6]; show _ < ((w1.1 + 1 : Nat) : Int); omega
  refine s_dup C (by simp) (d_of DX9_init 90 rfl) ?_
  obtain ⟨Q14, hKQ14, h⟩ := h
  refine s_callIN (av := []) (rest := [(2, (w1.1 : Int)), (2, l0)]) (mc := 4) (ms := 539) C (d_of DX9_init 91 rfl) lk_X9_72 k12 (by decide) rfl rfl (Nat.le_of_ble_eq_true rfl) (by decide) (by decide) hKQ14 (fun z14 w14 M14 hq => ?_)
  have h := h z14 w14 M14 hq
  obtain ⟨o15, h⟩ := h
  obtain ⟨o16, h⟩ := h
  obtain ⟨o17, h⟩ := h
  obtain ⟨o18, h⟩ := h
  obtain ⟨o19, h⟩ := h
  obtain ⟨o20, h⟩ := h
  refine pf_X9_73 C o17 (fun e => by cases e) (d_of DX9_init 92 rfl) ?_
  refine WA.nmM (fun M21 eM21 => ?_)
  have h := h _ eM21
  exact h
set_option maxHeartbeats 4000000 in
set_option maxRecDepth 100000 in
theorem B_X9_init_161 {G : GP} {X : BX} {P : Int → NS → MM → Prop} {l0 : Int} {rc rs : Nat} {w : NS} {M : MM} (C : CX_X9_init G X) (h : ∀ w1 : NS, w1 = (w.1 + 1, us w.2 w.1 19 4) → (w1.2 l0 = (10, 17)) ∧ ∀ M5 : MM, M5 = (up M l0 14 (w.1 : Int)) → ∀ w6 : NS, w6 = (w1.1 + 1, us w1.2 w1.1 6 3) → (l0 < (w1.1 : Int)) ∧ ∃ Q14 : Int → NS → MM → Prop, CT_X5_init G X.2.1 [(2, (w1.1 : Int))] w6 M5 Q14 ∧ ∀ (z14 : Int) (w14 : NS) (M14 : MM), Q14 z14 w14 M14 → (w14.2 (w.1 : Int) = (19, 4)) ∧ ((w.1 : Int) < (w14.1 : Int)) ∧ (w14.2 l0 = (10, 17)) ∧ (l0 < (w14.1 : Int)) ∧ (w14.2 (w1.1 : Int) = (6, 3)) ∧ ((w1.1 : Int) < (w14.1 : Int)) ∧ ∀ M21 : MM, M21 = (up M14 l0 15 (w1.1 : Int)) → A_X9_init_180 G X P l0 (rc + 0) (rs + 0) w14 M21) : A_X9_init_161 G X P l0 (rc + 5) (rs + 527) w M := by
  unfold A_X9_init_161
  refine s_aload_n C (d_of DX9_init 93 rfl) rfl ?_
  refine s_iconst C (d_of DX9_init 94 rfl) (by decide) ?_
  refine s_newq (t := 19) (N := 4) (t0 := 7) (Cn := "CutBureau$Reader") C (by decide) rfl (mG (wd_150) rfl) (wd_151) rfl (by decide) (d_of DX9_init 95 rfl) ?_
  refine WA.nmW (fun w1 ew1 => ?_)
  have h := h _ ew1
  have k2 : w1.2 (w.1 : Int) = (19, 4) := by rw [ew1]; exact us_new _ _ _ _
  have b3 : (w.1 : Int) < (w1.1 : Int) := by rw [ew1]; show _ < ((w.1 + 1 : Nat) : Int); omega
  obtain ⟨o4, h⟩ := h
  refine pf_X9_79 C o4 (fun e => by cases e) (d_of DX9_init 96 rfl) ?_
  refine WA.nmM (fun M5 eM5 => ?_)
  have h := h _ eM5
  refine s_aload_n C (d_of DX9_init 97 rfl) rfl ?_
  refine nw_X9_83 C (d_of DX9_init 98 rfl) ?_
  refine WA.nmW (fun w6 ew6 => ?_)
  have h := h _ ew6
  have k7 : w6.2 (w.1 : Int) = (19, 4) := by rw [ew6]; exact us_ne k2 (Int.ne_of_lt b3)
  have b8 : (w.1 : Int) < (w6.1 : Int) := by have := b3; rw [ew6]; show _ < ((w1.1 + 1 : Nat) : Int); omega
  obtain ⟨o9, h⟩ := h
  have k10 : w6.2 l0 = (10, 17) := by rw [ew6]; exact us_ne o4 (Int.ne_of_lt o9)
  have b11 : l0 < (w6.1 : Int) := by have := o9; rw [ew6]; show _ < ((w1.1 + 1 : Nat) : Int); omega
  have k12 : w6.2 (w1.1 : Int) = (6, 3) := by rw [ew6]; exact us_new _ _ _ _
  have b13 : (w1.1 : Int) < (w6.1 : Int) := by rw [ew6]; show _ < ((w1.1 + 1 : Nat) : Int); omega
  refine s_dup C (by simp) (d_of DX9_init 99 rfl) ?_
  obtain ⟨Q14, hKQ14, h⟩ := h
  refine s_callIN (av := []) (rest := [(2, (w1.1 : Int)), (2, l0)]) (mc := 3) (ms := 520) C (d_of DX9_init 100 rfl) lk_X9_85 k12 (by decide) rfl rfl (Nat.le_of_ble_eq_true rfl) (by decide) (by decide) hKQ14 (fun z14 w14 M14 hq => ?_)
  have h := h z14 w14 M14 hq
  obtain ⟨o15, h⟩ := h
  obtain ⟨o16, h⟩ := h
  obtain ⟨o17, h⟩ := h
  obtain ⟨o18, h⟩ := h
  obtain ⟨o19, h⟩ := h
  obtain ⟨o20, h⟩ := h
  refine pf_X9_86 C o17 (fun e => by cases e) (d_of DX9_init 101 rfl) ?_
  refine WA.nmM (fun M21 eM21 => ?_)
  have h := h _ eM21
  exact h
set_option maxHeartbeats 4000000 in
set_option maxRecDepth 100000 in
theorem B_X9_init_180 {G : GP} {X : BX} {P : Int → NS → MM → Prop} {l0 : Int} {rc rs : Nat} {w : NS} {M : MM} (C : CX_X9_init G X) (h : ∀ w1 : NS, w1 = (w.1 + 1, us w.2 w.1 12 6) → (w1.2 l0 = (10, 17)) ∧ ∀ M5 : MM, M5 = (up M l0 16 (w.1 : Int)) → A_X9_init_190 G X P l0 0 (rc + 0) (rs + 0) w1 M5) : A_X9_init_180 G X P l0 (rc + 1) (rs + 6) w M := by
  unfold A_X9_init_180
  refine s_aload_n C (d_of DX9_init 102 rfl) rfl ?_
  refine s_bipush C (d_of DX9_init 103 rfl) ⟨rfl, by decide, by decide⟩ ?_
  refine na_12 (N := 6) C rfl (by decide) (d_of DX9_init 104 rfl) ?_
  refine WA.nmW (fun w1 ew1 => ?_)
  have h := h _ ew1
  have k2 : w1.2 (w.1 : Int) = (12, 6) := by rw [ew1]; exact us_new _ _ _ _
  have b3 : (w.1 : Int) < (w1.1 : Int) := by rw [ew1]; show _ < ((w.1 + 1 : Nat) : Int); omega
  obtain ⟨o4, h⟩ := h
  refine pf_X9_90 C o4 (fun e => by cases e) (d_of DX9_init 105 rfl) ?_
  refine WA.nmM (fun M5 eM5 => ?_)
  have h := h _ eM5
  refine s_iconst C (d_of DX9_init 106 rfl) (by decide) ?_
  refine s_istore_n (ls' := [(2, l0), (0, 0)]) C (d_of DX9_init 107 rfl) (by decide) rfl rfl ?_
  exact h
set_option maxHeartbeats 4000000 in
set_option maxRecDepth 100000 in
theorem B_X9_init_190 {G : GP} {X : BX} {P : Int → NS → MM → Prop} {l0 : Int} {l1 : Int} {rc rs : Nat} {w : NS} {M : MM} (C : CX_X9_init G X) (h : (((4 ≤ l1) → A_X9_init_216 G X P l0 0 (rc + 2) (rs + 102) w M) ∧ ((¬ (4 ≤ l1)) → (w.2 l0 = (10, 17)) ∧ ∀ w2 : NS, w2 = (w.1 + 1, us w.2 w.1 3 2) → (l0 < (w.1 : Int)) ∧ ∃ Q8 : Int → NS → MM → Prop, CT_X2_init G X.2.1 [(2, (w.1 : Int))] w2 M Q8 ∧ ∀ (z8 : Int) (w8 : NS) (M8 : MM), Q8 z8 w8 M8 → (w8.2 l0 = (10, 17)) ∧ (l0 < (w8.1 : Int)) ∧ (w8.2 (w.1 : Int) = (3, 2)) ∧ ((w.1 : Int) < (w8.1 : Int)) ∧ (w8.2 (M l0 12) = (15, 4)) ∧ (0 ≤ l1) ∧ (l1 < 4) ∧ ∀ M16 : MM, M16 = (up M8 (M l0 12) l1 (w.1 : Int)) → (inR (l1 + 1)) ∧ A_X9_init_190 G X P l0 (l1 + 1) (rc + 0) (rs + 0) w8 M16))) : A_X9_init_190 G X P l0 l1 (rc + 2) (rs + 102) w M := by
  unfold A_X9_init_190
  refine s_iload_n C (d_of DX9_init 108 rfl) rfl ?_
  refine s_iconst C (d_of DX9_init 109 rfl) (by decide) ?_
  refine s_icmpge C (d_of DX9_init 110 rfl) rfl (fun hc => ?_) (fun hc => ?_)
  · have h := h.1 hc
    refine s_iconst C (d_of DX9_init 120 rfl) (by decide) ?_
    refine s_istore_n (ls' := [(2, l0), (0, 0)]) C (d_of DX9_init 121 rfl) (by decide) rfl rfl ?_
    exact h
  · have h := h.2 hc
    refine s_aload_n C (d_of DX9_init 111 rfl) rfl ?_
    obtain ⟨o1, h⟩ := h
    refine gf_X9_66 (v0 := (M l0 12)) C o1 (d_of DX9_init 112 rfl) rfl ?_
    refine s_iload_n C (d_of DX9_init 113 rfl) rfl ?_
    refine nw_X9_64 C (d_of DX9_init 114 rfl) ?_
    refine WA.nmW (fun w2 ew2 => ?_)
    have h := h _ ew2
    obtain ⟨o3, h⟩ := h
    have k4 : w2.2 l0 = (10, 17) := by rw [ew2]; exact us_ne o1 (Int.ne_of_lt o3)
    have b5 : l0 < (w2.1 : Int) := by have := o3; rw [ew2]; show _ < ((w.1 + 1 : Nat) : Int); omega
    have k6 : w2.2 (w.1 : Int) = (3, 2) := by rw [ew2]; exact us_new _ _ _ _
    have b7 : (w.1 : Int) < (w2.1 : Int) := by rw [ew2]; show _ < ((w.1 + 1 : Nat) : Int); omega
    refine s_dup C (by simp) (d_of DX9_init 115 rfl) ?_
    obtain ⟨Q8, hKQ8, h⟩ := h
    refine s_callIN (av := []) (rest := [(2, (w.1 : Int)), (0, l1), (2, (M l0 12))]) (mc := 1) (ms := 100) C (d_of DX9_init 116 rfl) lk_X9_93 k6 (by decide) rfl rfl (Nat.le_of_ble_eq_true rfl) (by decide) (by decide) hKQ8 (fun z8 w8 M8 hq => ?_)
    have h := h z8 w8 M8 hq
    obtain ⟨o9, h⟩ := h
    obtain ⟨o10, h⟩ := h
    obtain ⟨o11, h⟩ := h
    obtain ⟨o12, h⟩ := h
    obtain ⟨o13, h⟩ := h
    obtain ⟨o14, h⟩ := h
    obtain ⟨o15, h⟩ := h
    refine s_aast (t0 := 3) (ci := 2) C o13 (by decide) rfl rfl (by decide) o11 o14 o15 (fun e => by cases e) (d_of DX9_init 117 rfl) ?_
    refine WA.nmM (fun M16 eM16 => ?_)
    have h := h _ eM16
    obtain ⟨o17, h⟩ := h
    refine s_iinc (ls' := [(2, l0), (0, (l1 + 1))]) C (d_of DX9_init 118 rfl) (by decide) rfl o17 rfl rfl ?_
    refine s_goto C (d_of DX9_init 119 rfl) rfl ?_
    exact h
set_option maxHeartbeats 4000000 in
set_option maxRecDepth 100000 in
theorem B_X9_init_216 {G : GP} {X : BX} {P : Int → NS → MM → Prop} {l0 : Int} {l1 : Int} {rc rs : Nat} {w : NS} {M : MM} (C : CX_X9_init G X) (h : (((4 ≤ l1) → P 0 w M) ∧ ((¬ (4 ≤ l1)) → (w.2 l0 = (10, 17)) ∧ ∀ w2 : NS, w2 = (w.1 + 1, us w.2 w.1 8 4) → (l0 < (w.1 : Int)) ∧ ∃ Q8 : Int → NS → MM → Prop, CT_X7_init G X.2.1 [(2, (w.1 : Int))] w2 M Q8 ∧ ∀ (z8 : Int) (w8 : NS) (M8 : MM), Q8 z8 w8 M8 → (w8.2 l0 = (10, 17)) ∧ (l0 < (w8.1 : Int)) ∧ (w8.2 (w.1 : Int) = (8, 4)) ∧ ((w.1 : Int) < (w8.1 : Int)) ∧ (w8.2 (M l0 14) = (19, 4)) ∧ (0 ≤ l1) ∧ (l1 < 4) ∧ ∀ M16 : MM, M16 = (up M8 (M l0 14) l1 (w.1 : Int)) → (inR (l1 + 1)) ∧ A_X9_init_216 G X P l0 (l1 + 1) (rc + 0) (rs + 0) w8 M16))) : A_X9_init_216 G X P l0 l1 (rc + 2) (rs + 14) w M := by
  unfold A_X9_init_216
  refine s_iload_n C (d_of DX9_init 122 rfl) rfl ?_
  refine s_iconst C (d_of DX9_init 123 rfl) (by decide) ?_
  refine s_icmpge C (d_of DX9_init 124 rfl) rfl (fun hc => ?_) (fun hc => ?_)
  · have h := h.1 hc
    exact s_vreturn C (d_of DX9_init 134 rfl) h
  · have h := h.2 hc
    refine s_aload_n C (d_of DX9_init 125 rfl) rfl ?_
    obtain ⟨o1, h⟩ := h
    refine gf_X9_79 (v0 := (M l0 14)) C o1 (d_of DX9_init 126 rfl) rfl ?_
    refine s_iload_n C (d_of DX9_init 127 rfl) rfl ?_
    refine nw_X9_77 C (d_of DX9_init 128 rfl) ?_
    refine WA.nmW (fun w2 ew2 => ?_)
    have h := h _ ew2
    obtain ⟨o3, h⟩ := h
    have k4 : w2.2 l0 = (10, 17) := by rw [ew2]; exact us_ne o1 (Int.ne_of_lt o3)
    have b5 : l0 < (w2.1 : Int) := by have := o3; rw [ew2]; show _ < ((w.1 + 1 : Nat) : Int); omega
    have k6 : w2.2 (w.1 : Int) = (8, 4) := by rw [ew2]; exact us_new _ _ _ _
    have b7 : (w.1 : Int) < (w2.1 : Int) := by rw [ew2]; show _ < ((w.1 + 1 : Nat) : Int); omega
    refine s_dup C (by simp) (d_of DX9_init 129 rfl) ?_
    obtain ⟨Q8, hKQ8, h⟩ := h
    refine s_callIN (av := []) (rest := [(2, (w.1 : Int)), (0, l1), (2, (M l0 14))]) (mc := 1) (ms := 10) C (d_of DX9_init 130 rfl) lk_X9_94 k6 (by decide) rfl rfl (Nat.le_of_ble_eq_true rfl) (by decide) (by decide) hKQ8 (fun z8 w8 M8 hq => ?_)
    have h := h z8 w8 M8 hq
    obtain ⟨o9, h⟩ := h
    obtain ⟨o10, h⟩ := h
    obtain ⟨o11, h⟩ := h
    obtain ⟨o12, h⟩ := h
    obtain ⟨o13, h⟩ := h
    obtain ⟨o14, h⟩ := h
    obtain ⟨o15, h⟩ := h
    refine s_aast (t0 := 7) (ci := 7) C o13 (by decide) rfl rfl (by decide) o11 o14 o15 (fun e => by cases e) (d_of DX9_init 131 rfl) ?_
    refine WA.nmM (fun M16 eM16 => ?_)
    have h := h _ eM16
    obtain ⟨o17, h⟩ := h
    refine s_iinc (ls' := [(2, l0), (0, (l1 + 1))]) C (d_of DX9_init 132 rfl) (by decide) rfl o17 rfl rfl ?_
    refine s_goto C (d_of DX9_init 133 rfl) rfl ?_
    exact h
theorem E_X9_init {G : GP} {l : Launch} {P : Int → NS → MM → Prop} {l0 : Int} {w : NS} {M : MM} (h : ∀ X : BX, X.2.1 = l → CX_X9_init G X → A_X9_init_0 G X P l0 39 1774 w M) : CT_X9_init G l [(2, l0)] w M P :=
  CT.of RX9 "<init>" (by decide +kernel) rfl rfl rfl (Nat.le_of_ble_eq_true rfl) (fun hr X hX C => h  X hX C)
def A_X4_init_0 (G : GP) (X : BX) (P : Int → NS → MM → Prop) (l0 : Int) (l1 : Int) (l2 : Int) (l3 : Int) (rc rs : Nat) (w : NS) (M : MM) : Prop := WA false G X (QM G X false 4 P) 5 0 [(2, l0), (0, l1), (0, l2), (0, l3), (3, 0)] [] rc rs w M
def A_X4_init_35 (G : GP) (X : BX) (P : Int → NS → MM → Prop) (l0 : Int) (l4 : Int) (rc rs : Nat) (w : NS) (M : MM) : Prop := WA false G X (QM G X false 4 P) 5 35 [(2, l0), (3, 0), (3, 0), (3, 0), (0, l4)] [] rc rs w M
set_option maxHeartbeats 4000000 in
set_option maxRecDepth 100000 in
theorem B_X4_init_0 {G : GP} {X : BX} {P : Int → NS → MM → Prop} {l0 : Int} {l1 : Int} {l2 : Int} {l3 : Int} {rc rs : Nat} {w : NS} {M : MM} (C : CX_X4_init G X) (h : (w.2 l0 = (5, 5)) ∧ ∀ w2 : NS, w2 = (w.1 + 1, us w.2 w.1 12 60) → (l0 < (w.1 : Int)) ∧ ∀ M8 : MM, M8 = (up M l0 3 (w.1 : Int)) → ∀ M9 : MM, M9 = (up M8 l0 4 0) → ∀ M10 : MM, M10 = (up M9 l0 0 l1) → ∀ M11 : MM, M11 = (up M10 l0 1 l2) → ∀ M12 : MM, M12 = (up M11 l0 2 l3) → A_X4_init_35 G X P l0 0 (rc + 0) (rs + 0) w2 M12) : A_X4_init_0 G X P l0 l1 l2 l3 (rc + 1) (rs + 60) w M := by
  unfold A_X4_init_0
  refine s_aload_n C (d_of DX4_init 0 rfl) rfl ?_
  obtain ⟨o1, h⟩ := h
  refine s_objInit C o1 (by decide) (mG (wd_275) rfl) (mG (wd_81) rfl) (mG (wd_82) rfl) (by decide) (by decide) (Nat.le_of_ble_eq_true rfl) (d_of DX4_init 1 rfl) ?_
  refine s_aload_n C (d_of DX4_init 2 rfl) rfl ?_
  refine s_bipush C (d_of DX4_init 3 rfl) ⟨rfl, by decide, by decide⟩ ?_
  refine na_12 (N := 60) C rfl (by decide) (d_of DX4_init 4 rfl) ?_
  refine WA.nmW (fun w2 ew2 => ?_)
  have h := h _ ew2
  obtain ⟨o3, h⟩ := h
  have k4 : w2.2 l0 = (5, 5) := by rw [ew2]; exact us_ne o1 (Int.ne_of_lt o3)
  have b5 : l0 < (w2.1 : Int) := by have := o3; rw [ew2]; show _ < ((w.1 + 1 : Nat) : Int); omega
  have k6 : w2.2 (w.1 : Int) = (12, 60) := by rw [ew2]; exact us_new _ _ _ _
  have b7 : (w.1 : Int) < (w2.1 : Int) := by rw [ew2]; show _ < ((w.1 + 1 : Nat) : Int); omega
  refine pf_X4_9 C k4 (fun e => by cases e) (d_of DX4_init 5 rfl) ?_
  refine WA.nmM (fun M8 eM8 => ?_)
  have h := h _ eM8
  refine s_aload_n C (d_of DX4_init 6 rfl) rfl ?_
  refine s_aconst C (d_of DX4_init 7 rfl) ?_
  refine pf_X4_15 C k4 (fun e => by cases e) (d_of DX4_init 8 rfl) ?_
  refine WA.nmM (fun M9 eM9 => ?_)
  have h := h _ eM9
  refine s_aload_n C (d_of DX4_init 9 rfl) rfl ?_
  refine s_iload_n C (d_of DX4_init 10 rfl) rfl ?_
  refine pf_X4_19 C k4 (fun e => by cases e) (d_of DX4_init 11 rfl) ?_
  refine WA.nmM (fun M10 eM10 => ?_)
  have h := h _ eM10
  refine s_aload_n C (d_of DX4_init 12 rfl) rfl ?_
  refine s_iload_n C (d_of DX4_init 13 rfl) rfl ?_
  refine pf_X4_23 C k4 (fun e => by cases e) (d_of DX4_init 14 rfl) ?_
  refine WA.nmM (fun M11 eM11 => ?_)
  have h := h _ eM11
  refine s_aload_n C (d_of DX4_init 15 rfl) rfl ?_
  refine s_iload_n C (d_of DX4_init 16 rfl) rfl ?_
  refine pf_X4_26 C k4 (fun e => by cases e) (d_of DX4_init 17 rfl) ?_
  refine WA.nmM (fun M12 eM12 => ?_)
  have h := h _ eM12
  refine s_iconst C (d_of DX4_init 18 rfl) (by decide) ?_
  refine s_istore (ls' := [(2, l0), (0, l1), (0, l2), (0, l3), (0, 0)]) C (d_of DX4_init 19 rfl) (by decide) rfl rfl ?_
  exact WA.wk h ⟨Or.inr rfl, Or.inl rfl, Or.inl rfl, Or.inl rfl, Or.inr rfl, trivial⟩
set_option maxHeartbeats 4000000 in
set_option maxRecDepth 100000 in
theorem B_X4_init_35 {G : GP} {X : BX} {P : Int → NS → MM → Prop} {l0 : Int} {l4 : Int} {rc rs : Nat} {w : NS} {M : MM} (C : CX_X4_init G X) (h : (((60 ≤ l4) → P 0 w M) ∧ ((¬ (60 ≤ l4)) → (w.2 l0 = (5, 5)) ∧ (w.2 (M l0 3) = (12, 60)) ∧ (0 ≤ l4) ∧ (l4 < 60) ∧ ∀ M5 : MM, M5 = (up M (M l0 3) l4 (-6)) → (inR (l4 + 1)) ∧ A_X4_init_35 G X P l0 (l4 + 1) (rc + 0) (rs + 0) w M5))) : A_X4_init_35 G X P l0 l4 (rc + 0) (rs + 0) w M := by
  unfold A_X4_init_35
  refine s_iload C (d_of DX4_init 20 rfl) rfl ?_
  refine s_bipush C (d_of DX4_init 21 rfl) ⟨rfl, by decide, by decide⟩ ?_
  refine s_icmpge C (d_of DX4_init 22 rfl) rfl (fun hc => ?_) (fun hc => ?_)
  · have h := h.1 hc
    exact s_vreturn C (d_of DX4_init 30 rfl) h
  · have h := h.2 hc
    refine s_aload_n C (d_of DX4_init 23 rfl) rfl ?_
    obtain ⟨o1, h⟩ := h
    refine gf_X4_9 (v0 := (M l0 3)) C o1 (d_of DX4_init 24 rfl) rfl ?_
    refine s_iload C (d_of DX4_init 25 rfl) rfl ?_
    refine s_bipush C (d_of DX4_init 26 rfl) ⟨rfl, by decide, by decide⟩ ?_
    obtain ⟨o2, h⟩ := h
    obtain ⟨o3, h⟩ := h
    obtain ⟨o4, h⟩ := h
    refine s_iast C o2 o3 o4 (fun e => by cases e) (d_of DX4_init 27 rfl) ?_
    refine WA.nmM (fun M5 eM5 => ?_)
    have h := h _ eM5
    obtain ⟨o6, h⟩ := h
    refine s_iinc (ls' := [(2, l0), (3, 0), (3, 0), (3, 0), (0, (l4 + 1))]) C (d_of DX4_init 28 rfl) (by decide) rfl o6 rfl rfl ?_
    refine s_goto C (d_of DX4_init 29 rfl) rfl ?_
    exact h
theorem E_X4_init {G : GP} {l : Launch} {P : Int → NS → MM → Prop} {l0 : Int} {l1 : Int} {l2 : Int} {l3 : Int} {w : NS} {M : MM} (h : inR l1 → inR l2 → inR l3 → ∀ X : BX, X.2.1 = l → CX_X4_init G X → A_X4_init_0 G X P l0 l1 l2 l3 1 60 w M) : CT_X4_init G l [(2, l0), (0, l1), (0, l2), (0, l3)] w M P :=
  CT.of RX4 "<init>" (by decide +kernel) rfl rfl rfl (Nat.le_of_ble_eq_true rfl) (fun hr X hX C => h (hr (0, l1) (by simp)) (hr (0, l2) (by simp)) (hr (0, l3) (by simp)) X hX C)
def A_X9_page_0 (G : GP) (X : BX) (P : Int → NS → MM → Prop) (l1 : Int) (l2 : Int) (w : NS) (M : MM) : Prop := WA true G X (QM G X true 0 P) 3 0 [(2, 1), (0, l1), (0, l2)] [] 2 65 w M
set_option maxHeartbeats 4000000 in
set_option maxRecDepth 100000 in
theorem B_X9_page_0 {G : GP} {X : BX} {P : Int → NS → MM → Prop} {l1 : Int} {l2 : Int} {w : NS} {M : MM} (C : CX_X9_page G X) (h : (((¬ (0 ≤ l1 ∧ l1 ≤ 9)) → P (-2) w M) ∧ (((0 ≤ l1 ∧ l1 ≤ 9)) → ((((0 ≤ l2 ∧ l2 ≤ 99)) → ((((M 1 2) < 8) → ∀ w4 : NS, w4 = (w.1 + 1, us w.2 w.1 5 5) → (1 < (w.1 : Int)) ∧ ∃ Q10 : Int → NS → MM → Prop, CT_X4_init G X.2.1 [(2, (w.1 : Int)), (0, (M 1 2)), (0, l1), (0, l2)] w4 M Q10 ∧ ∀ (z10 : Int) (w10 : NS) (M10 : MM), Q10 z10 w10 M10 → (FixA w10 M10) ∧ (0 ≤ (M 1 2)) ∧ ((M 1 2) < 8) ∧ (w10.2 (w.1 : Int) = (5, 5)) ∧ (inR ((M10 1 2) + 1)) ∧ P (M10 1 2) w10 (up (up M10 3 (M 1 2) (w.1 : Int)) 1 2 ((M10 1 2) + 1))) ∧ ((¬ ((M 1 2) < 8)) → P (-4) w M))) ∧ ((¬ (0 ≤ l2 ∧ l2 ≤ 99)) → P (-2) w M))))) : A_X9_page_0 G X P l1 l2 w M := by
  unfold A_X9_page_0
  refine s_iload_n C (d_of DX9_page 0 rfl) rfl ?_
  refine s_iconst C (d_of DX9_page 1 rfl) (by decide) ?_
  refine s_bipush C (d_of DX9_page 2 rfl) ⟨rfl, by decide, by decide⟩ ?_
  refine s_callS (av := [(0, l1), (0, 0), (0, 9)]) (rest := []) (mc := 0) (ms := 0) C (d_of DX9_page 3 rfl) lk_X9_95 rfl rfl (Nat.le_of_ble_eq_true rfl) (by decide) (by decide) (pc_X9_within) (fun z1 wz1 Mz1 hq => ?_)
  obtain ⟨hq1, hq2, hq3⟩ := hq
  have hq2 := hq2.symm
  have hq3 := hq3.symm
  subst hq1 hq2 hq3
  refine s_ifeq C (d_of DX9_page 4 rfl) rfl (fun hc => ?_) (fun hc => ?_)
  · have h := h.1 (b2i_0.mp hc)
    refine s_bipush C (d_of DX9_page 8 rfl) ⟨rfl, by decide, by decide⟩ ?_
    exact s_ireturn C (d_of DX9_page 9 rfl) h
  · have h := h.2 (b2i_n0 hc)
    refine s_iload_n C (d_of DX9_page 5 rfl) rfl ?_
    refine s_callS (av := [(0, l2)]) (rest := []) (mc := 0) (ms := 0) C (d_of DX9_page 6 rfl) lk_X9_99 rfl rfl (Nat.le_of_ble_eq_true rfl) (by decide) (by decide) (pc_X9_isDay) (fun z2 wz2 Mz2 hq => ?_)
    obtain ⟨hq1, hq2, hq3⟩ := hq
    have hq2 := hq2.symm
    have hq3 := hq3.symm
    subst hq1 hq2 hq3
    refine s_ifne C (d_of DX9_page 7 rfl) rfl (fun hc => ?_) (fun hc => ?_)
    · have h := h.1 (b2i_n0 hc)
      refine s_aload_n C (d_of DX9_page 10 rfl) rfl ?_
      refine WA.fix (fun hF3 => ?_)
      refine gf_X9_19 (v0 := (M 1 2)) C (sh_1 hF3) (d_of DX9_page 11 rfl) rfl ?_
      refine s_bipush C (d_of DX9_page 12 rfl) ⟨rfl, by decide, by decide⟩ ?_
      refine s_icmplt C (d_of DX9_page 13 rfl) rfl (fun hc => ?_) (fun hc => ?_)
      · have h := h.1 hc
        refine s_aload_n C (d_of DX9_page 16 rfl) rfl ?_
        refine gf_X9_15 C (sh_1 hF3) (d_of DX9_page 17 rfl) (fx_1_1 hF3) ?_
        refine s_aload_n C (d_of DX9_page 18 rfl) rfl ?_
        refine gf_X9_19 (v0 := (M 1 2)) C (sh_1 hF3) (d_of DX9_page 19 rfl) rfl ?_
        refine nw_X9_13 C (d_of DX9_page 20 rfl) ?_
        refine WA.nmW (fun w4 ew4 => ?_)
        have h := h _ ew4
        obtain ⟨o5, h⟩ := h
        have k6 : w4.2 1 = (10, 17) := by rw [ew4]; exact us_ne (sh_1 hF3) (Int.ne_of_lt o5)
        have b7 : 1 < (w4.1 : Int) := by have := o5; rw [ew4]; show _ < ((w.1 + 1 : Nat) : Int); omega
        have k8 : w4.2 (w.1 : Int) = (5, 5) := by rw [ew4]; exact us_new _ _ _ _
        have b9 : (w.1 : Int) < (w4.1 : Int) := by rw [ew4]; show _ < ((w.1 + 1 : Nat) : Int); omega
        refine s_dup C (by simp) (d_of DX9_page 21 rfl) ?_
        refine s_aload_n C (d_of DX9_page 22 rfl) rfl ?_
        refine gf_X9_19 (v0 := (M 1 2)) C k6 (d_of DX9_page 23 rfl) rfl ?_
        refine s_iload_n C (d_of DX9_page 24 rfl) rfl ?_
        refine s_iload_n C (d_of DX9_page 25 rfl) rfl ?_
        obtain ⟨Q10, hKQ10, h⟩ := h
        refine s_callI (av := [(0, (M 1 2)), (0, l1), (0, l2)]) (rest := [(2, (w.1 : Int)), (0, (M 1 2)), (2, 3)]) (mc := 1) (ms := 60) C (d_of DX9_page 26 rfl) lk_X9_103 k8 (by decide) rfl rfl (Nat.le_of_ble_eq_true rfl) (by decide) (by decide) hKQ10 (fun z10 w10 M10 hq => ?_)
        have h := h z10 w10 M10 hq
        obtain ⟨o11, h⟩ := h
        refine WA.refix o11 ?_
        refine WA.fix (fun hF12 => ?_)
        obtain ⟨o13, h⟩ := h
        obtain ⟨o14, h⟩ := h
        obtain ⟨o15, h⟩ := h
        refine s_aast (t0 := 5) (ci := 4) C (sh_3 hF12) (by decide) rfl rfl (by decide) o15 o13 o14 (fun _ => by decide) (d_of DX9_page 27 rfl) ?_
        refine s_aload_n C (d_of DX9_page 28 rfl) rfl ?_
        refine s_dup C (by simp) (d_of DX9_page 29 rfl) ?_
        refine WA.fix (fun hF16 => ?_)
        refine gf_X9_19 (v0 := (M10 1 2)) C (sh_1 hF16) (d_of DX9_page 30 rfl) (up_na (by decide)) ?_
        refine s_dup_x1 C (by simp) (by simp) (d_of DX9_page 31 rfl) ?_
        refine s_iconst C (d_of DX9_page 32 rfl) (by decide) ?_
        obtain ⟨o17, h⟩ := h
        refine s_iadd C (d_of DX9_page 33 rfl) o17 ?_
        refine pf_X9_19 C (sh_1 hF16) (fun _ => by decide) (d_of DX9_page 34 rfl) ?_
        exact s_ireturn C (d_of DX9_page 35 rfl) h
      · have h := h.2 hc
        refine s_bipush C (d_of DX9_page 14 rfl) ⟨rfl, by decide, by decide⟩ ?_
        exact s_ireturn C (d_of DX9_page 15 rfl) h
    · have h := h.2 (b2i_nn hc)
      refine s_bipush C (d_of DX9_page 8 rfl) ⟨rfl, by decide, by decide⟩ ?_
      exact s_ireturn C (d_of DX9_page 9 rfl) h
theorem E_X9_page {G : GP} {l : Launch} {P : Int → NS → MM → Prop} {l1 : Int} {l2 : Int} {w : NS} {M : MM} (h : inR l1 → inR l2 → ∀ X : BX, X.2.1 = l → CX_X9_page G X → A_X9_page_0 G X P l1 l2 w M) : CT_X9_page G l [(2, 1), (0, l1), (0, l2)] w M P :=
  CT.of RX9 "page" (by decide +kernel) rfl rfl rfl (Nat.le_of_ble_eq_true rfl) (fun hr X hX C => h (hr (0, l1) (by simp)) (hr (0, l2) (by simp)) X hX C)
def A_X9_isKept_0 (G : GP) (X : BX) (P : Int → NS → MM → Prop) (l1 : Int) (w : NS) (M : MM) : Prop := WA true G X (QM G X true 0 P) 3 0 [(2, 1), (2, l1), (3, 0)] [] 0 0 w M
def A_X9_isKept_2 (G : GP) (X : BX) (P : Int → NS → MM → Prop) (l1 : Int) (l2 : Int) (w : NS) (M : MM) : Prop := WA true G X (QM G X true 0 P) 3 2 [(2, 1), (2, l1), (0, l2)] [] 0 0 w M
set_option maxHeartbeats 4000000 in
set_option maxRecDepth 100000 in
theorem B_X9_isKept_0 {G : GP} {X : BX} {P : Int → NS → MM → Prop} {l1 : Int} {w : NS} {M : MM} (C : CX_X9_isKept G X) (h : A_X9_isKept_2 G X P l1 0 w M) : A_X9_isKept_0 G X P l1 w M := by
  unfold A_X9_isKept_0
  refine s_iconst C (d_of DX9_isKept 0 rfl) (by decide) ?_
  refine s_istore_n (ls' := [(2, 1), (2, l1), (0, 0)]) C (d_of DX9_isKept 1 rfl) (by decide) rfl rfl ?_
  exact h
set_option maxHeartbeats 4000000 in
set_option maxRecDepth 100000 in
theorem B_X9_isKept_2 {G : GP} {X : BX} {P : Int → NS → MM → Prop} {l1 : Int} {l2 : Int} {w : NS} {M : MM} (C : CX_X9_isKept G X) (h : ((((M 1 4) ≤ l2) → P 0 w M) ∧ ((¬ ((M 1 4) ≤ l2)) → (0 ≤ l2) ∧ (l2 < 24) ∧ (w.2 (M 4 l2) = (7, 12)) ∧ (0 ≤ (M (M 4 l2) 1)) ∧ (0 ≤ l1) ∧ ((((M (M 4 l2) 1) ≠ l1) → (inR (l2 + 1)) ∧ A_X9_isKept_2 G X P l1 (l2 + 1) w M) ∧ ((¬ ((M (M 4 l2) 1) ≠ l1)) → ((((M (M 4 l2) 11) ≠ 0) → P 1 w M) ∧ ((¬ ((M (M 4 l2) 11) ≠ 0)) → ((((M (M 4 l2) 10) = 0) → (inR (l2 + 1)) ∧ A_X9_isKept_2 G X P l1 (l2 + 1) w M) ∧ ((¬ ((M (M 4 l2) 10) = 0)) → P 1 w M))))))))) : A_X9_isKept_2 G X P l1 l2 w M := by
  unfold A_X9_isKept_2
  refine s_iload_n C (d_of DX9_isKept 2 rfl) rfl ?_
  refine s_aload_n C (d_of DX9_isKept 3 rfl) rfl ?_
  refine WA.fix (fun hF1 => ?_)
  refine gf_X9_29 (v0 := (M 1 4)) C (sh_1 hF1) (d_of DX9_isKept 4 rfl) rfl ?_
  refine s_icmpge C (d_of DX9_isKept 5 rfl) rfl (fun hc => ?_) (fun hc => ?_)
  · have h := h.1 hc
    refine s_iconst C (d_of DX9_isKept 29 rfl) (by decide) ?_
    exact s_zreturn C (d_of DX9_isKept 30 rfl) (by decide) h
  · have h := h.2 hc
    refine s_aload_n C (d_of DX9_isKept 6 rfl) rfl ?_
    refine gf_X9_25 C (sh_1 hF1) (d_of DX9_isKept 7 rfl) (fx_1_3 hF1) ?_
    refine s_iload_n C (d_of DX9_isKept 8 rfl) rfl ?_
    obtain ⟨o2, h⟩ := h
    obtain ⟨o3, h⟩ := h
    refine s_aald (v0 := (M 4 l2)) (t0 := 6) C (sh_4 hF1) (by decide) rfl o2 o3 (d_of DX9_isKept 9 rfl) rfl ?_
    obtain ⟨o4, h⟩ := h
    refine gf_X9_166 (v0 := (M (M 4 l2) 1)) C o4 (d_of DX9_isKept 10 rfl) rfl ?_
    refine s_aload_n C (d_of DX9_isKept 11 rfl) rfl ?_
    obtain ⟨o5, h⟩ := h
    obtain ⟨o6, h⟩ := h
    refine s_acmpne C (d_of DX9_isKept 12 rfl) rfl o5 o6 (fun hc => ?_) (fun hc => ?_)
    · have h := h.1 hc
      obtain ⟨o7, h⟩ := h
      refine s_iinc (ls' := [(2, 1), (2, l1), (0, (l2 + 1))]) C (d_of DX9_isKept 27 rfl) (by decide) rfl o7 rfl rfl ?_
      refine s_goto C (d_of DX9_isKept 28 rfl) rfl ?_
      exact h
    · have h := h.2 hc
      refine s_aload_n C (d_of DX9_isKept 13 rfl) rfl ?_
      refine gf_X9_25 C (sh_1 hF1) (d_of DX9_isKept 14 rfl) (fx_1_3 hF1) ?_
      refine s_iload_n C (d_of DX9_isKept 15 rfl) rfl ?_
      refine s_aald (v0 := (M 4 l2)) (t0 := 6) C (sh_4 hF1) (by decide) rfl o2 o3 (d_of DX9_isKept 16 rfl) rfl ?_
      refine gf_X9_174 (v0 := (M (M 4 l2) 11)) C o4 (d_of DX9_isKept 17 rfl) rfl ?_
      refine s_ifne C (d_of DX9_isKept 18 rfl) rfl (fun hc => ?_) (fun hc => ?_)
      · have h := h.1 hc
        refine s_iconst C (d_of DX9_isKept 25 rfl) (by decide) ?_
        exact s_zreturn C (d_of DX9_isKept 26 rfl) (by decide) h
      · have h := h.2 hc
        refine s_aload_n C (d_of DX9_isKept 19 rfl) rfl ?_
        refine gf_X9_25 C (sh_1 hF1) (d_of DX9_isKept 20 rfl) (fx_1_3 hF1) ?_
        refine s_iload_n C (d_of DX9_isKept 21 rfl) rfl ?_
        refine s_aald (v0 := (M 4 l2)) (t0 := 6) C (sh_4 hF1) (by decide) rfl o2 o3 (d_of DX9_isKept 22 rfl) rfl ?_
        refine gf_X9_172 (v0 := (M (M 4 l2) 10)) C o4 (d_of DX9_isKept 23 rfl) rfl ?_
        refine s_ifeq C (d_of DX9_isKept 24 rfl) rfl (fun hc => ?_) (fun hc => ?_)
        · have h := h.1 hc
          obtain ⟨o8, h⟩ := h
          refine s_iinc (ls' := [(2, 1), (2, l1), (0, (l2 + 1))]) C (d_of DX9_isKept 27 rfl) (by decide) rfl o8 rfl rfl ?_
          refine s_goto C (d_of DX9_isKept 28 rfl) rfl ?_
          exact h
        · have h := h.2 hc
          refine s_iconst C (d_of DX9_isKept 25 rfl) (by decide) ?_
          exact s_zreturn C (d_of DX9_isKept 26 rfl) (by decide) h
theorem E_X9_isKept {G : GP} {l : Launch} {P : Int → NS → MM → Prop} {l1 : Int} {w : NS} {M : MM} (h : ∀ X : BX, X.2.1 = l → CX_X9_isKept G X → A_X9_isKept_0 G X P l1 w M) : CT_X9_isKept G l [(2, 1), (2, l1)] w M P :=
  CT.of RX9 "isKept" (by decide +kernel) rfl rfl rfl (Nat.le_of_ble_eq_true rfl) (fun hr X hX C => h  X hX C)
def A_X6_readWords_0 (G : GP) (X : BX) (P : Int → NS → MM → Prop) (l0 : Int) (w : NS) (M : MM) : Prop := WA true G X (QM G X true 4 P) 4 0 [(2, l0), (3, 0), (3, 0), (3, 0)] [] 0 0 w M
def A_X6_readWords_10 (G : GP) (X : BX) (P : Int → NS → MM → Prop) (l0 : Int) (l1 : Int) (w : NS) (M : MM) : Prop := WA true G X (QM G X true 4 P) 4 10 [(2, l0), (0, l1), (3, 0), (3, 0)] [] 0 0 w M
def A_X6_readWords_23 (G : GP) (X : BX) (P : Int → NS → MM → Prop) (l0 : Int) (l1 : Int) (l2 : Int) (w : NS) (M : MM) : Prop := WA true G X (QM G X true 4 P) 4 23 [(2, l0), (0, l1), (0, l2), (3, 0)] [] 0 0 w M
set_option maxHeartbeats 4000000 in
set_option maxRecDepth 100000 in
theorem B_X6_readWords_0 {G : GP} {X : BX} {P : Int → NS → MM → Prop} {l0 : Int} {w : NS} {M : MM} (C : CX_X6_readWords G X) (h : (w.2 l0 = (7, 12)) ∧ A_X6_readWords_10 G X P l0 (M l0 2) w (up M l0 7 0)) : A_X6_readWords_0 G X P l0 w M := by
  unfold A_X6_readWords_0
  refine s_aload_n C (d_of DX6_readWords 0 rfl) rfl ?_
  refine s_iconst C (d_of DX6_readWords 1 rfl) (by decide) ?_
  obtain ⟨o1, h⟩ := h
  refine pf_X6_15 C o1 (fun _ => by decide) (d_of DX6_readWords 2 rfl) ?_
  refine s_aload_n C (d_of DX6_readWords 3 rfl) rfl ?_
  refine gf_X6_38 (v0 := (M l0 2)) C o1 (d_of DX6_readWords 4 rfl) (up_ni (by decide)) ?_
  refine s_istore_n (ls' := [(2, l0), (0, (M l0 2)), (3, 0), (3, 0)]) C (d_of DX6_readWords 5 rfl) (by decide) rfl rfl ?_
  exact h
set_option maxHeartbeats 4000000 in
set_option maxRecDepth 100000 in
theorem B_X6_readWords_10 {G : GP} {X : BX} {P : Int → NS → MM → Prop} {l0 : Int} {l1 : Int} {w : NS} {M : MM} (C : CX_X6_readWords G X) (h : (w.2 l0 = (7, 12)) ∧ ((((M l0 3) < l1) → P 0 w M) ∧ ((¬ ((M l0 3) < l1)) → A_X6_readWords_23 G X P l0 l1 (M l0 4) w M))) : A_X6_readWords_10 G X P l0 l1 w M := by
  unfold A_X6_readWords_10
  refine s_iload_n C (d_of DX6_readWords 6 rfl) rfl ?_
  refine s_aload_n C (d_of DX6_readWords 7 rfl) rfl ?_
  obtain ⟨o1, h⟩ := h
  refine gf_X6_41 (v0 := (M l0 3)) C o1 (d_of DX6_readWords 8 rfl) rfl ?_
  refine s_icmpgt C (d_of DX6_readWords 9 rfl) rfl (fun hc => ?_) (fun hc => ?_)
  · have h := h.1 hc
    exact s_vreturn C (d_of DX6_readWords 46 rfl) h
  · have h := h.2 hc
    refine s_aload_n C (d_of DX6_readWords 10 rfl) rfl ?_
    refine gf_X6_44 (v0 := (M l0 4)) C o1 (d_of DX6_readWords 11 rfl) rfl ?_
    refine s_istore_n (ls' := [(2, l0), (0, l1), (0, (M l0 4)), (3, 0)]) C (d_of DX6_readWords 12 rfl) (by decide) rfl rfl ?_
    exact h
set_option maxHeartbeats 4000000 in
set_option maxRecDepth 100000 in
theorem B_X6_readWords_23 {G : GP} {X : BX} {P : Int → NS → MM → Prop} {l0 : Int} {l1 : Int} {l2 : Int} {w : NS} {M : MM} (C : CX_X6_readWords G X) (h : (w.2 l0 = (7, 12)) ∧ ((((M l0 5) < l2) → (inR (l1 + 1)) ∧ A_X6_readWords_10 G X P l0 (l1 + 1) w M) ∧ ((¬ ((M l0 5) < l2)) → (w.2 (M l0 1) = (5, 5)) ∧ (inR (l1 * 10)) ∧ (inR ((l1 * 10) + l2)) ∧ (0 ≤ ((l1 * 10) + l2)) ∧ (((l1 * 10) + l2) < 60) ∧ ((((M ((M l0 1) + 1) ((l1 * 10) + l2)) = (-6)) → (inR (l2 + 1)) ∧ A_X6_readWords_23 G X P l0 l1 (l2 + 1) w M) ∧ ((¬ ((M ((M l0 1) + 1) ((l1 * 10) + l2)) = (-6))) → (0 ≤ (M l0 7)) ∧ ((M l0 7) < 60) ∧ (inR ((M l0 7) + 1)) ∧ (inR (l2 + 1)) ∧ A_X6_readWords_23 G X P l0 l1 (l2 + 1) w (up (up M (l0 + 1) (M l0 7) (M ((M l0 1) + 1) ((l1 * 10) + l2))) l0 7 ((M l0 7) + 1))))))) : A_X6_readWords_23 G X P l0 l1 l2 w M := by
  unfold A_X6_readWords_23
  refine s_iload_n C (d_of DX6_readWords 13 rfl) rfl ?_
  refine s_aload_n C (d_of DX6_readWords 14 rfl) rfl ?_
  obtain ⟨o1, h⟩ := h
  refine gf_X6_47 (v0 := (M l0 5)) C o1 (d_of DX6_readWords 15 rfl) rfl ?_
  refine s_icmpgt C (d_of DX6_readWords 16 rfl) rfl (fun hc => ?_) (fun hc => ?_)
  · have h := h.1 hc
    obtain ⟨o2, h⟩ := h
    refine s_iinc (ls' := [(2, l0), (0, (l1 + 1)), (0, l2), (3, 0)]) C (d_of DX6_readWords 44 rfl) (by decide) rfl o2 rfl rfl ?_
    refine s_goto C (d_of DX6_readWords 45 rfl) rfl ?_
    exact WA.wk h ⟨Or.inr rfl, Or.inr rfl, Or.inl rfl, Or.inl rfl, trivial⟩
  · have h := h.2 hc
    refine s_aload_n C (d_of DX6_readWords 17 rfl) rfl ?_
    refine gf_X6_34 (v0 := (M l0 1)) C o1 (d_of DX6_readWords 18 rfl) rfl ?_
    obtain ⟨o3, h⟩ := h
    refine WA.fix (fun hF4 => ?_)
    have hd5 := FixA.dy (t := 5) (n := 5) (k := 3) (m := 60) hF4 (by decide) o3
    refine gf_X6_50 C o3 (d_of DX6_readWords 19 rfl) hd5.1 ?_
    refine s_iload_n C (d_of DX6_readWords 20 rfl) rfl ?_
    refine s_bipush C (d_of DX6_readWords 21 rfl) ⟨rfl, by decide, by decide⟩ ?_
    obtain ⟨o6, h⟩ := h
    refine s_imul C (d_of DX6_readWords 22 rfl) o6 ?_
    refine s_iload_n C (d_of DX6_readWords 23 rfl) rfl ?_
    obtain ⟨o7, h⟩ := h
    refine s_iadd C (d_of DX6_readWords 24 rfl) o7 ?_
    obtain ⟨o8, h⟩ := h
    obtain ⟨o9, h⟩ := h
    refine s_iald (v0 := (M ((M l0 1) + 1) ((l1 * 10) + l2))) C hd5.2 o8 o9 (d_of DX6_readWords 25 rfl) rfl ?_
    refine s_istore_n (ls' := [(2, l0), (0, l1), (0, l2), (0, (M ((M l0 1) + 1) ((l1 * 10) + l2)))]) C (d_of DX6_readWords 26 rfl) (by decide) rfl rfl ?_
    refine s_iload_n C (d_of DX6_readWords 27 rfl) rfl ?_
    refine s_bipush C (d_of DX6_readWords 28 rfl) ⟨rfl, by decide, by decide⟩ ?_
    refine s_icmpeq C (d_of DX6_readWords 29 rfl) rfl (fun hc => ?_) (fun hc => ?_)
    · have h := h.1 hc
      obtain ⟨o10, h⟩ := h
      refine s_iinc (ls' := [(2, l0), (0, l1), (0, (l2 + 1)), (0, (M ((M l0 1) + 1) ((l1 * 10) + l2)))]) C (d_of DX6_readWords 42 rfl) (by decide) rfl o10 rfl rfl ?_
      refine s_goto C (d_of DX6_readWords 43 rfl) rfl ?_
      exact WA.wk h ⟨Or.inr rfl, Or.inr rfl, Or.inr rfl, Or.inl rfl, trivial⟩
    · have h := h.2 hc
      refine s_aload_n C (d_of DX6_readWords 30 rfl) rfl ?_
      have hd11 := FixA.dy (t := 7) (n := 12) (k := 6) (m := 60) hF4 (by decide) o1
      refine gf_X6_9 C o1 (d_of DX6_readWords 31 rfl) hd11.1 ?_
      refine s_aload_n C (d_of DX6_readWords 32 rfl) rfl ?_
      refine gf_X6_15 (v0 := (M l0 7)) C o1 (d_of DX6_readWords 33 rfl) rfl ?_
      refine s_iload_n C (d_of DX6_readWords 34 rfl) rfl ?_
      obtain ⟨o12, h⟩ := h
      obtain ⟨o13, h⟩ := h
      refine s_iast C hd11.2 o12 o13 (fun _ => by decide) (d_of DX6_readWords 35 rfl) ?_
      refine s_aload_n C (d_of DX6_readWords 36 rfl) rfl ?_
      refine s_dup C (by simp) (d_of DX6_readWords 37 rfl) ?_
      refine gf_X6_15 (v0 := (M l0 7)) C o1 (d_of DX6_readWords 38 rfl) (up_sh o1 hd11.2 (by decide)) ?_
      refine s_iconst C (d_of DX6_readWords 39 rfl) (by decide) ?_
      obtain ⟨o14, h⟩ := h
      refine s_iadd C (d_of DX6_readWords 40 rfl) o14 ?_
      refine pf_X6_15 C o1 (fun _ => by decide) (d_of DX6_readWords 41 rfl) ?_
      obtain ⟨o15, h⟩ := h
      refine s_iinc (ls' := [(2, l0), (0, l1), (0, (l2 + 1)), (0, (M ((M l0 1) + 1) ((l1 * 10) + l2)))]) C (d_of DX6_readWords 42 rfl) (by decide) rfl o15 rfl rfl ?_
      refine s_goto C (d_of DX6_readWords 43 rfl) rfl ?_
      exact WA.wk h ⟨Or.inr rfl, Or.inr rfl, Or.inr rfl, Or.inl rfl, trivial⟩
theorem E_X6_readWords {G : GP} {l : Launch} {P : Int → NS → MM → Prop} {l0 : Int} {w : NS} {M : MM} (h : ∀ X : BX, X.2.1 = l → CX_X6_readWords G X → A_X6_readWords_0 G X P l0 w M) : CT_X6_readWords G l [(2, l0)] w M P :=
  CT.of RX6 "readWords" (by decide +kernel) rfl rfl rfl (Nat.le_of_ble_eq_true rfl) (fun hr X hX C => h  X hX C)
def A_X9_readAgain_0 (G : GP) (X : BX) (P : Int → NS → MM → Prop) (l1 : Int) (w : NS) (M : MM) : Prop := WA true G X (QM G X true 4 P) 3 0 [(2, 1), (2, l1), (3, 0)] [] 0 0 w M
def A_X9_readAgain_2 (G : GP) (X : BX) (P : Int → NS → MM → Prop) (l1 : Int) (l2 : Int) (w : NS) (M : MM) : Prop := WA true G X (QM G X true 4 P) 3 2 [(2, 1), (2, l1), (0, l2)] [] 0 0 w M
set_option maxHeartbeats 4000000 in
set_option maxRecDepth 100000 in
theorem B_X9_readAgain_0 {G : GP} {X : BX} {P : Int → NS → MM → Prop} {l1 : Int} {w : NS} {M : MM} (C : CX_X9_readAgain G X) (h : A_X9_readAgain_2 G X P l1 0 w M) : A_X9_readAgain_0 G X P l1 w M := by
  unfold A_X9_readAgain_0
  refine s_iconst C (d_of DX9_readAgain 0 rfl) (by decide) ?_
  refine s_istore_n (ls' := [(2, 1), (2, l1), (0, 0)]) C (d_of DX9_readAgain 1 rfl) (by decide) rfl rfl ?_
  exact h
set_option maxHeartbeats 4000000 in
set_option maxRecDepth 100000 in
theorem B_X9_readAgain_2 {G : GP} {X : BX} {P : Int → NS → MM → Prop} {l1 : Int} {l2 : Int} {w : NS} {M : MM} (C : CX_X9_readAgain G X) (h : ((((M 1 4) ≤ l2) → P 0 w M) ∧ ((¬ ((M 1 4) ≤ l2)) → (0 ≤ l2) ∧ (l2 < 24) ∧ (w.2 (M 4 l2) = (7, 12)) ∧ (0 ≤ (M (M 4 l2) 1)) ∧ (0 ≤ l1) ∧ ((((M (M 4 l2) 1) ≠ l1) → (inR (l2 + 1)) ∧ A_X9_readAgain_2 G X P l1 (l2 + 1) w M) ∧ ((¬ ((M (M 4 l2) 1) ≠ l1)) → ∃ Q8 : Int → NS → MM → Prop, CT_X6_readWords G X.2.1 [(2, (M 4 l2))] w M Q8 ∧ ∀ (z8 : Int) (w8 : NS) (M8 : MM), Q8 z8 w8 M8 → (inR (l2 + 1)) ∧ A_X9_readAgain_2 G X P l1 (l2 + 1) w8 M8))))) : A_X9_readAgain_2 G X P l1 l2 w M := by
  unfold A_X9_readAgain_2
  refine s_iload_n C (d_of DX9_readAgain 2 rfl) rfl ?_
  refine s_aload_n C (d_of DX9_readAgain 3 rfl) rfl ?_
  refine WA.fix (fun hF1 => ?_)
  refine gf_X9_29 (v0 := (M 1 4)) C (sh_1 hF1) (d_of DX9_readAgain 4 rfl) rfl ?_
  refine s_icmpge C (d_of DX9_readAgain 5 rfl) rfl (fun hc => ?_) (fun hc => ?_)
  · have h := h.1 hc
    exact s_vreturn C (d_of DX9_readAgain 20 rfl) h
  · have h := h.2 hc
    refine s_aload_n C (d_of DX9_readAgain 6 rfl) rfl ?_
    refine gf_X9_25 C (sh_1 hF1) (d_of DX9_readAgain 7 rfl) (fx_1_3 hF1) ?_
    refine s_iload_n C (d_of DX9_readAgain 8 rfl) rfl ?_
    obtain ⟨o2, h⟩ := h
    obtain ⟨o3, h⟩ := h
    refine s_aald (v0 := (M 4 l2)) (t0 := 6) C (sh_4 hF1) (by decide) rfl o2 o3 (d_of DX9_readAgain 9 rfl) rfl ?_
    obtain ⟨o4, h⟩ := h
    refine gf_X9_166 (v0 := (M (M 4 l2) 1)) C o4 (d_of DX9_readAgain 10 rfl) rfl ?_
    refine s_aload_n C (d_of DX9_readAgain 11 rfl) rfl ?_
    obtain ⟨o5, h⟩ := h
    obtain ⟨o6, h⟩ := h
    refine s_acmpne C (d_of DX9_readAgain 12 rfl) rfl o5 o6 (fun hc => ?_) (fun hc => ?_)
    · have h := h.1 hc
      obtain ⟨o7, h⟩ := h
      refine s_iinc (ls' := [(2, 1), (2, l1), (0, (l2 + 1))]) C (d_of DX9_readAgain 18 rfl) (by decide) rfl o7 rfl rfl ?_
      refine s_goto C (d_of DX9_readAgain 19 rfl) rfl ?_
      exact h
    · have h := h.2 hc
      refine s_aload_n C (d_of DX9_readAgain 13 rfl) rfl ?_
      refine gf_X9_25 C (sh_1 hF1) (d_of DX9_readAgain 14 rfl) (fx_1_3 hF1) ?_
      refine s_iload_n C (d_of DX9_readAgain 15 rfl) rfl ?_
      refine s_aald (v0 := (M 4 l2)) (t0 := 6) C (sh_4 hF1) (by decide) rfl o2 o3 (d_of DX9_readAgain 16 rfl) rfl ?_
      obtain ⟨Q8, hKQ8, h⟩ := h
      refine s_callV (ci := 6) (av := []) (rest := []) (mc := 0) (ms := 0) C (d_of DX9_readAgain 17 rfl) lk_X9_151 o4 (by decide) rfl rfl rfl (Nat.le_of_ble_eq_true rfl) (by decide) (by decide) hKQ8 (fun z8 w8 M8 hq => ?_)
      have h := h z8 w8 M8 hq
      obtain ⟨o9, h⟩ := h
      refine s_iinc (ls' := [(2, 1), (2, l1), (0, (l2 + 1))]) C (d_of DX9_readAgain 18 rfl) (by decide) rfl o9 rfl rfl ?_
      refine s_goto C (d_of DX9_readAgain 19 rfl) rfl ?_
      exact h
theorem E_X9_readAgain {G : GP} {l : Launch} {P : Int → NS → MM → Prop} {l1 : Int} {w : NS} {M : MM} (h : ∀ X : BX, X.2.1 = l → CX_X9_readAgain G X → A_X9_readAgain_0 G X P l1 w M) : CT_X9_readAgain G l [(2, 1), (2, l1)] w M P :=
  CT.of RX9 "readAgain" (by decide +kernel) rfl rfl rfl (Nat.le_of_ble_eq_true rfl) (fun hr X hX C => h  X hX C)
def A_X9_write_0 (G : GP) (X : BX) (P : Int → NS → MM → Prop) (l1 : Int) (l2 : Int) (l3 : Int) (w : NS) (M : MM) : Prop := WA true G X (QM G X true 0 P) 6 0 [(2, 1), (0, l1), (0, l2), (0, l3), (3, 0), (3, 0)] [] 0 0 w M
set_option maxHeartbeats 4000000 in
set_option maxRecDepth 100000 in
theorem B_X9_write_0 {G : GP} {X : BX} {P : Int → NS → MM → Prop} {l1 : Int} {l2 : Int} {l3 : Int} {w : NS} {M : MM} (C : CX_X9_write G X) (h : (0 ≤ M 1 2) ∧ (M 1 2 ≤ 8) ∧ ((((pgO M l1) ≠ 0) → (((¬ (0 ≤ l2 ∧ l2 ≤ 59)) → P (-2) w M) ∧ (((0 ≤ l2 ∧ l2 ≤ 59)) → ((((-1 ≤ l3 ∧ l3 ≤ 99)) → ∃ Q7 : Int → NS → MM → Prop, CT_X9_isKept G X.2.1 [(2, 1), (2, (pgO M l1))] w M Q7 ∧ ∀ (z7 : Int) (w7 : NS) (M7 : MM), Q7 z7 w7 M7 → (((z7 = 0) → (w7.2 (pgO M l1) = (5, 5)) ∧ (0 ≤ l2) ∧ (l2 < 60) ∧ (((0 ≤ l3) → ∃ Q15 : Int → NS → MM → Prop, CT_X9_readAgain G X.2.1 [(2, 1), (2, (pgO M l1))] w7 (up M7 ((pgO M l1) + 1) l2 l3) Q15 ∧ ∀ (z15 : Int) (w15 : NS) (M15 : MM), Q15 z15 w15 M15 → P (M7 ((pgO M l1) + 1) l2) w15 (up M15 9 0 0)) ∧ ((¬ (0 ≤ l3)) → ∃ Q18 : Int → NS → MM → Prop, CT_X9_readAgain G X.2.1 [(2, 1), (2, (pgO M l1))] w7 (up M7 ((pgO M l1) + 1) l2 (-6)) Q18 ∧ ∀ (z18 : Int) (w18 : NS) (M18 : MM), Q18 z18 w18 M18 → P (M7 ((pgO M l1) + 1) l2) w18 (up M18 9 0 0)))) ∧ ((¬ (z7 = 0)) → P (-3) w7 M7))) ∧ ((¬ (-1 ≤ l3 ∧ l3 ≤ 99)) → P (-2) w M))))) ∧ ((¬ ((pgO M l1) ≠ 0)) → P (-1) w M))) : A_X9_write_0 G X P l1 l2 l3 w M := by
  unfold A_X9_write_0
  refine s_aload_n C (d_of DX9_write 0 rfl) rfl ?_
  refine s_iload_n C (d_of DX9_write 1 rfl) rfl ?_
  refine WA.fix (fun hF1 => ?_)
  obtain ⟨o2, h⟩ := h
  obtain ⟨o3, h⟩ := h
  refine s_callV (ci := 9) (av := [(0, l1)]) (rest := []) (mc := 0) (ms := 0) C (d_of DX9_write 2 rfl) lk_X9_106 (sh_1 hF1) (by decide) rfl rfl rfl (Nat.le_of_ble_eq_true rfl) (by decide) (by decide) (pc_X9_pageOf o2 o3) (fun z4 wz4 Mz4 hq => ?_)
  obtain ⟨hq1, hq2, hq3⟩ := hq
  have hq2 := hq2.symm
  have hq3 := hq3.symm
  subst hq1 hq2 hq3
  refine s_astore (ls' := [(2, 1), (0, l1), (0, l2), (0, l3), (2, (pgO M l1)), (3, 0)]) C (d_of DX9_write 3 rfl) (by decide) rfl rfl ?_
  refine s_aload C (d_of DX9_write 4 rfl) rfl ?_
  refine s_ifnonnull C (d_of DX9_write 5 rfl) rfl (fun hc => ?_) (fun hc => ?_)
  · have h := h.1 hc
    refine s_iload_n C (d_of DX9_write 8 rfl) rfl ?_
    refine s_iconst C (d_of DX9_write 9 rfl) (by decide) ?_
    refine s_bipush C (d_of DX9_write 10 rfl) ⟨rfl, by decide, by decide⟩ ?_
    refine s_callS (av := [(0, l2), (0, 0), (0, 59)]) (rest := []) (mc := 0) (ms := 0) C (d_of DX9_write 11 rfl) lk_X9_95 rfl rfl (Nat.le_of_ble_eq_true rfl) (by decide) (by decide) (pc_X9_within) (fun z5 wz5 Mz5 hq => ?_)
    obtain ⟨hq1, hq2, hq3⟩ := hq
    have hq2 := hq2.symm
    have hq3 := hq3.symm
    subst hq1 hq2 hq3
    refine s_ifeq C (d_of DX9_write 12 rfl) rfl (fun hc => ?_) (fun hc => ?_)
    · have h := h.1 (b2i_0.mp hc)
      refine s_bipush C (d_of DX9_write 16 rfl) ⟨rfl, by decide, by decide⟩ ?_
      exact s_ireturn C (d_of DX9_write 17 rfl) h
    · have h := h.2 (b2i_n0 hc)
      refine s_iload_n C (d_of DX9_write 13 rfl) rfl ?_
      refine s_callS (av := [(0, l3)]) (rest := []) (mc := 0) (ms := 0) C (d_of DX9_write 14 rfl) lk_X9_110 rfl rfl (Nat.le_of_ble_eq_true rfl) (by decide) (by decide) (pc_X9_isWordOrNone) (fun z6 wz6 Mz6 hq => ?_)
      obtain ⟨hq1, hq2, hq3⟩ := hq
      have hq2 := hq2.symm
      have hq3 := hq3.symm
      subst hq1 hq2 hq3
      refine s_ifne C (d_of DX9_write 15 rfl) rfl (fun hc => ?_) (fun hc => ?_)
      · have h := h.1 (b2i_n0 hc)
        refine s_aload_n C (d_of DX9_write 18 rfl) rfl ?_
        refine s_aload C (d_of DX9_write 19 rfl) rfl ?_
        obtain ⟨Q7, hKQ7, h⟩ := h
        refine s_callV (ci := 9) (av := [(2, (pgO M l1))]) (rest := []) (mc := 0) (ms := 0) C (d_of DX9_write 20 rfl) lk_X9_113 (sh_1 hF1) (by decide) rfl rfl rfl (Nat.le_of_ble_eq_true rfl) (by decide) (by decide) hKQ7 (fun z7 w7 M7 hq => ?_)
        have h := h z7 w7 M7 hq
        refine s_ifeq C (d_of DX9_write 21 rfl) rfl (fun hc => ?_) (fun hc => ?_)
        · have h := h.1 hc
          refine s_aload C (d_of DX9_write 24 rfl) rfl ?_
          obtain ⟨o8, h⟩ := h
          refine WA.fix (fun hF9 => ?_)
          have hd10 := FixA.dy (t := 5) (n := 5) (k := 3) (m := 60) hF9 (by decide) o8
          refine gf_X9_117 C o8 (d_of DX9_write 25 rfl) hd10.1 ?_
          refine s_iload_n C (d_of DX9_write 26 rfl) rfl ?_
          obtain ⟨o11, h⟩ := h
          obtain ⟨o12, h⟩ := h
          refine s_iald (v0 := (M7 ((pgO M l1) + 1) l2)) C hd10.2 o11 o12 (d_of DX9_write 27 rfl) rfl ?_
          refine s_istore (ls' := [(2, 1), (0, l1), (0, l2), (0, l3), (2, (pgO M l1)), (0, (M7 ((pgO M l1) + 1) l2))]) C (d_of DX9_write 28 rfl) (by decide) rfl rfl ?_
          refine s_aload C (d_of DX9_write 29 rfl) rfl ?_
          have hd13 := FixA.dy (t := 5) (n := 5) (k := 3) (m := 60) hF9 (by decide) o8
          refine gf_X9_117 C o8 (d_of DX9_write 30 rfl) hd13.1 ?_
          refine s_iload_n C (d_of DX9_write 31 rfl) rfl ?_
          refine s_iload_n C (d_of DX9_write 32 rfl) rfl ?_
          refine s_ifge C (d_of DX9_write 33 rfl) rfl (fun hc => ?_) (fun hc => ?_)
          · have h := h.1 hc
            refine s_iload_n C (d_of DX9_write 36 rfl) rfl ?_
            refine s_iast C hd13.2 o11 o12 (fun _ => by decide) (d_of DX9_write 37 rfl) ?_
            refine s_aload_n C (d_of DX9_write 38 rfl) rfl ?_
            refine s_aload C (d_of DX9_write 39 rfl) rfl ?_
            refine WA.fix (fun hF14 => ?_)
            obtain ⟨Q15, hKQ15, h⟩ := h
            refine s_callV (ci := 9) (av := [(2, (pgO M l1))]) (rest := []) (mc := 0) (ms := 0) C (d_of DX9_write 40 rfl) lk_X9_120 (sh_1 hF14) (by decide) rfl rfl rfl (Nat.le_of_ble_eq_true rfl) (by decide) (by decide) hKQ15 (fun z15 w15 M15 hq => ?_)
            have h := h z15 w15 M15 hq
            refine s_aload_n C (d_of DX9_write 41 rfl) rfl ?_
            refine WA.fix (fun hF16 => ?_)
            refine gf_X9_54 C (sh_1 hF16) (d_of DX9_write 42 rfl) (fx_1_9 hF16) ?_
            refine s_iconst C (d_of DX9_write 43 rfl) (by decide) ?_
            refine pf_X9_124 C (sh_9 hF16) (by decide) (fun _ => by decide) (d_of DX9_write 44 rfl) ?_
            refine s_iload C (d_of DX9_write 45 rfl) rfl ?_
            exact s_ireturn C (d_of DX9_write 46 rfl) h
          · have h := h.2 hc
            refine s_bipush C (d_of DX9_write 34 rfl) ⟨rfl, by decide, by decide⟩ ?_
            refine s_goto C (d_of DX9_write 35 rfl) rfl ?_
            refine s_iast C hd13.2 o11 o12 (fun _ => by decide) (d_of DX9_write 37 rfl) ?_
            refine s_aload_n C (d_of DX9_write 38 rfl) rfl ?_
            refine s_aload C (d_of DX9_write 39 rfl) rfl ?_
            refine WA.fix (fun hF17 => ?_)
            obtain ⟨Q18, hKQ18, h⟩ := h
            refine s_callV (ci := 9) (av := [(2, (pgO M l1))]) (rest := []) (mc := 0) (ms := 0) C (d_of DX9_write 40 rfl) lk_X9_120 (sh_1 hF17) (by decide) rfl rfl rfl (Nat.le_of_ble_eq_true rfl) (by decide) (by decide) hKQ18 (fun z18 w18 M18 hq => ?_)
            have h := h z18 w18 M18 hq
            refine s_aload_n C (d_of DX9_write 41 rfl) rfl ?_
            refine WA.fix (fun hF19 => ?_)
            refine gf_X9_54 C (sh_1 hF19) (d_of DX9_write 42 rfl) (fx_1_9 hF19) ?_
            refine s_iconst C (d_of DX9_write 43 rfl) (by decide) ?_
            refine pf_X9_124 C (sh_9 hF19) (by decide) (fun _ => by decide) (d_of DX9_write 44 rfl) ?_
            refine s_iload C (d_of DX9_write 45 rfl) rfl ?_
            exact s_ireturn C (d_of DX9_write 46 rfl) h
        · have h := h.2 hc
          refine s_bipush C (d_of DX9_write 22 rfl) ⟨rfl, by decide, by decide⟩ ?_
          exact s_ireturn C (d_of DX9_write 23 rfl) h
      · have h := h.2 (b2i_nn hc)
        refine s_bipush C (d_of DX9_write 16 rfl) ⟨rfl, by decide, by decide⟩ ?_
        exact s_ireturn C (d_of DX9_write 17 rfl) h
  · have h := h.2 hc
    refine s_iconst C (d_of DX9_write 6 rfl) (by decide) ?_
    exact s_ireturn C (d_of DX9_write 7 rfl) h
theorem E_X9_write {G : GP} {l : Launch} {P : Int → NS → MM → Prop} {l1 : Int} {l2 : Int} {l3 : Int} {w : NS} {M : MM} (h : inR l1 → inR l2 → inR l3 → ∀ X : BX, X.2.1 = l → CX_X9_write G X → A_X9_write_0 G X P l1 l2 l3 w M) : CT_X9_write G l [(2, 1), (0, l1), (0, l2), (0, l3)] w M P :=
  CT.of RX9 "write" (by decide +kernel) rfl rfl rfl (Nat.le_of_ble_eq_true rfl) (fun hr X hX C => h (hr (0, l1) (by simp)) (hr (0, l2) (by simp)) (hr (0, l3) (by simp)) X hX C)
def A_X9_sides_0 (G : GP) (X : BX) (P : Int → NS → MM → Prop) (l1 : Int) (l2 : Int) (w : NS) (M : MM) : Prop := WA true G X (QM G X true 0 P) 5 0 [(2, 1), (0, l1), (0, l2), (3, 0), (3, 0)] [] 0 0 w M
set_option maxHeartbeats 4000000 in
set_option maxRecDepth 100000 in
theorem B_X9_sides_0 {G : GP} {X : BX} {P : Int → NS → MM → Prop} {l1 : Int} {l2 : Int} {w : NS} {M : MM} (C : CX_X9_sides G X) (h : (0 ≤ M 1 2) ∧ (M 1 2 ≤ 8) ∧ ((((pgO M l1) = 0) → P (-1) w M) ∧ ((¬ ((pgO M l1) = 0)) → ((((pgO M l2) = 0) → P (-1) w M) ∧ ((¬ ((pgO M l2) = 0)) → (0 ≤ (pgO M l1)) ∧ (0 ≤ (pgO M l2)) ∧ ((((pgO M l1) ≠ (pgO M l2)) → (w.2 (pgO M l1) = (5, 5)) ∧ (w.2 (pgO M l2) = (5, 5)) ∧ ((((M (pgO M l1) 1) ≠ (M (pgO M l2) 1)) → P (-3) w M) ∧ ((¬ ((M (pgO M l1) 1) ≠ (M (pgO M l2) 1))) → ((((M (pgO M l1) 2) = (M (pgO M l2) 2)) → ((((M (pgO M l1) 4) ≠ 0) → P (-5) w M) ∧ ((¬ ((M (pgO M l1) 4) ≠ 0)) → ((((M (pgO M l2) 4) = 0) → P 1 w (up (up M (pgO M l1) 4 (pgO M l2)) (pgO M l2) 4 (pgO M l1))) ∧ ((¬ ((M (pgO M l2) 4) = 0)) → P (-5) w M))))) ∧ ((¬ ((M (pgO M l1) 2) = (M (pgO M l2) 2))) → P (-3) w M))))) ∧ ((¬ ((pgO M l1) ≠ (pgO M l2))) → P (-1) w M))))))) : A_X9_sides_0 G X P l1 l2 w M := by
  unfold A_X9_sides_0
  refine s_aload_n C (d_of DX9_sides 0 rfl) rfl ?_
  refine s_iload_n C (d_of DX9_sides 1 rfl) rfl ?_
  refine WA.fix (fun hF1 => ?_)
  obtain ⟨o2, h⟩ := h
  obtain ⟨o3, h⟩ := h
  refine s_callV (ci := 9) (av := [(0, l1)]) (rest := []) (mc := 0) (ms := 0) C (d_of DX9_sides 2 rfl) lk_X9_106 (sh_1 hF1) (by decide) rfl rfl rfl (Nat.le_of_ble_eq_true rfl) (by decide) (by decide) (pc_X9_pageOf o2 o3) (fun z4 wz4 Mz4 hq => ?_)
  obtain ⟨hq1, hq2, hq3⟩ := hq
  have hq2 := hq2.symm
  have hq3 := hq3.symm
  subst hq1 hq2 hq3
  refine s_astore_n (ls' := [(2, 1), (0, l1), (0, l2), (2, (pgO M l1)), (3, 0)]) C (d_of DX9_sides 3 rfl) (by decide) rfl rfl ?_
  refine s_aload_n C (d_of DX9_sides 4 rfl) rfl ?_
  refine s_iload_n C (d_of DX9_sides 5 rfl) rfl ?_
  refine s_callV (ci := 9) (av := [(0, l2)]) (rest := []) (mc := 0) (ms := 0) C (d_of DX9_sides 6 rfl) lk_X9_106 (sh_1 hF1) (by decide) rfl rfl rfl (Nat.le_of_ble_eq_true rfl) (by decide) (by decide) (pc_X9_pageOf o2 o3) (fun z5 wz5 Mz5 hq => ?_)
  obtain ⟨hq1, hq2, hq3⟩ := hq
  have hq2 := hq2.symm
  have hq3 := hq3.symm
  subst hq1 hq2 hq3
  refine s_astore (ls' := [(2, 1), (0, l1), (0, l2), (2, (pgO M l1)), (2, (pgO M l2))]) C (d_of DX9_sides 7 rfl) (by decide) rfl rfl ?_
  refine s_aload_n C (d_of DX9_sides 8 rfl) rfl ?_
  refine s_ifnull C (d_of DX9_sides 9 rfl) rfl (fun hc => ?_) (fun hc => ?_)
  · have h := h.1 hc
    refine s_iconst C (d_of DX9_sides 15 rfl) (by decide) ?_
    exact s_ireturn C (d_of DX9_sides 16 rfl) h
  · have h := h.2 hc
    refine s_aload C (d_of DX9_sides 10 rfl) rfl ?_
    refine s_ifnull C (d_of DX9_sides 11 rfl) rfl (fun hc => ?_) (fun hc => ?_)
    · have h := h.1 hc
      refine s_iconst C (d_of DX9_sides 15 rfl) (by decide) ?_
      exact s_ireturn C (d_of DX9_sides 16 rfl) h
    · have h := h.2 hc
      refine s_aload_n C (d_of DX9_sides 12 rfl) rfl ?_
      refine s_aload C (d_of DX9_sides 13 rfl) rfl ?_
      obtain ⟨o6, h⟩ := h
      obtain ⟨o7, h⟩ := h
      refine s_acmpne C (d_of DX9_sides 14 rfl) rfl o6 o7 (fun hc => ?_) (fun hc => ?_)
      · have h := h.1 hc
        refine s_aload_n C (d_of DX9_sides 17 rfl) rfl ?_
        obtain ⟨o8, h⟩ := h
        refine gf_X9_128 (v0 := (M (pgO M l1) 1)) C o8 (d_of DX9_sides 18 rfl) rfl ?_
        refine s_aload C (d_of DX9_sides 19 rfl) rfl ?_
        obtain ⟨o9, h⟩ := h
        refine gf_X9_128 (v0 := (M (pgO M l2) 1)) C o9 (d_of DX9_sides 20 rfl) rfl ?_
        refine s_icmpne C (d_of DX9_sides 21 rfl) rfl (fun hc => ?_) (fun hc => ?_)
        · have h := h.1 hc
          refine s_bipush C (d_of DX9_sides 27 rfl) ⟨rfl, by decide, by decide⟩ ?_
          exact s_ireturn C (d_of DX9_sides 28 rfl) h
        · have h := h.2 hc
          refine s_aload_n C (d_of DX9_sides 22 rfl) rfl ?_
          refine gf_X9_131 (v0 := (M (pgO M l1) 2)) C o8 (d_of DX9_sides 23 rfl) rfl ?_
          refine s_aload C (d_of DX9_sides 24 rfl) rfl ?_
          refine gf_X9_131 (v0 := (M (pgO M l2) 2)) C o9 (d_of DX9_sides 25 rfl) rfl ?_
          refine s_icmpeq C (d_of DX9_sides 26 rfl) rfl (fun hc => ?_) (fun hc => ?_)
          · have h := h.1 hc
            refine s_aload_n C (d_of DX9_sides 29 rfl) rfl ?_
            refine gf_X9_134 (v0 := (M (pgO M l1) 4)) C o8 (d_of DX9_sides 30 rfl) rfl ?_
            refine s_ifnonnull C (d_of DX9_sides 31 rfl) rfl (fun hc => ?_) (fun hc => ?_)
            · have h := h.1 hc
              refine s_bipush C (d_of DX9_sides 35 rfl) ⟨rfl, by decide, by decide⟩ ?_
              exact s_ireturn C (d_of DX9_sides 36 rfl) h
            · have h := h.2 hc
              refine s_aload C (d_of DX9_sides 32 rfl) rfl ?_
              refine gf_X9_134 (v0 := (M (pgO M l2) 4)) C o9 (d_of DX9_sides 33 rfl) rfl ?_
              refine s_ifnull C (d_of DX9_sides 34 rfl) rfl (fun hc => ?_) (fun hc => ?_)
              · have h := h.1 hc
                refine s_aload_n C (d_of DX9_sides 37 rfl) rfl ?_
                refine s_aload C (d_of DX9_sides 38 rfl) rfl ?_
                refine pf_X9_134 C o8 (fun _ => by decide) (d_of DX9_sides 39 rfl) ?_
                refine s_aload C (d_of DX9_sides 40 rfl) rfl ?_
                refine s_aload_n C (d_of DX9_sides 41 rfl) rfl ?_
                refine pf_X9_134 C o9 (fun _ => by decide) (d_of DX9_sides 42 rfl) ?_
                refine s_iconst C (d_of DX9_sides 43 rfl) (by decide) ?_
                exact s_ireturn C (d_of DX9_sides 44 rfl) h
              · have h := h.2 hc
                refine s_bipush C (d_of DX9_sides 35 rfl) ⟨rfl, by decide, by decide⟩ ?_
                exact s_ireturn C (d_of DX9_sides 36 rfl) h
          · have h := h.2 hc
            refine s_bipush C (d_of DX9_sides 27 rfl) ⟨rfl, by decide, by decide⟩ ?_
            exact s_ireturn C (d_of DX9_sides 28 rfl) h
      · have h := h.2 hc
        refine s_iconst C (d_of DX9_sides 15 rfl) (by decide) ?_
        exact s_ireturn C (d_of DX9_sides 16 rfl) h
theorem E_X9_sides {G : GP} {l : Launch} {P : Int → NS → MM → Prop} {l1 : Int} {l2 : Int} {w : NS} {M : MM} (h : inR l1 → inR l2 → ∀ X : BX, X.2.1 = l → CX_X9_sides G X → A_X9_sides_0 G X P l1 l2 w M) : CT_X9_sides G l [(2, 1), (0, l1), (0, l2)] w M P :=
  CT.of RX9 "sides" (by decide +kernel) rfl rfl rfl (Nat.le_of_ble_eq_true rfl) (fun hr X hX C => h (hr (0, l1) (by simp)) (hr (0, l2) (by simp)) X hX C)
def A_X9_countPieces_0 (G : GP) (X : BX) (P : Int → NS → MM → Prop) (l1 : Int) (w : NS) (M : MM) : Prop := WA true G X (QM G X true 0 P) 4 0 [(2, 1), (2, l1), (3, 0), (3, 0)] [] 0 0 w M
def A_X9_countPieces_4 (G : GP) (X : BX) (P : Int → NS → MM → Prop) (l1 : Int) (l2 : Int) (l3 : Int) (w : NS) (M : MM) : Prop := WA true G X (QM G X true 0 P) 4 4 [(2, 1), (2, l1), (0, l2), (0, l3)] [] 0 0 w M
set_option maxHeartbeats 4000000 in
set_option maxRecDepth 100000 in
theorem B_X9_countPieces_0 {G : GP} {X : BX} {P : Int → NS → MM → Prop} {l1 : Int} {w : NS} {M : MM} (C : CX_X9_countPieces G X) (h : A_X9_countPieces_4 G X P l1 0 0 w M) : A_X9_countPieces_0 G X P l1 w M := by
  unfold A_X9_countPieces_0
  refine s_iconst C (d_of DX9_countPieces 0 rfl) (by decide) ?_
  refine s_istore_n (ls' := [(2, 1), (2, l1), (0, 0), (3, 0)]) C (d_of DX9_countPieces 1 rfl) (by decide) rfl rfl ?_
  refine s_iconst C (d_of DX9_countPieces 2 rfl) (by decide) ?_
  refine s_istore_n (ls' := [(2, 1), (2, l1), (0, 0), (0, 0)]) C (d_of DX9_countPieces 3 rfl) (by decide) rfl rfl ?_
  exact h
set_option maxHeartbeats 4000000 in
set_option maxRecDepth 100000 in
theorem B_X9_countPieces_4 {G : GP} {X : BX} {P : Int → NS → MM → Prop} {l1 : Int} {l2 : Int} {l3 : Int} {w : NS} {M : MM} (C : CX_X9_countPieces G X) (h : ((((M 1 4) ≤ l3) → P l2 w M) ∧ ((¬ ((M 1 4) ≤ l3)) → (0 ≤ l3) ∧ (l3 < 24) ∧ (w.2 (M 4 l3) = (7, 12)) ∧ (0 ≤ (M (M 4 l3) 1)) ∧ (0 ≤ l1) ∧ ((((M (M 4 l3) 1) ≠ l1) → (inR (l3 + 1)) ∧ A_X9_countPieces_4 G X P l1 l2 (l3 + 1) w M) ∧ ((¬ ((M (M 4 l3) 1) ≠ l1)) → (inR (l2 + 1)) ∧ (inR (l3 + 1)) ∧ A_X9_countPieces_4 G X P l1 (l2 + 1) (l3 + 1) w M))))) : A_X9_countPieces_4 G X P l1 l2 l3 w M := by
  unfold A_X9_countPieces_4
  refine s_iload_n C (d_of DX9_countPieces 4 rfl) rfl ?_
  refine s_aload_n C (d_of DX9_countPieces 5 rfl) rfl ?_
  refine WA.fix (fun hF1 => ?_)
  refine gf_X9_29 (v0 := (M 1 4)) C (sh_1 hF1) (d_of DX9_countPieces 6 rfl) rfl ?_
  refine s_icmpge C (d_of DX9_countPieces 7 rfl) rfl (fun hc => ?_) (fun hc => ?_)
  · have h := h.1 hc
    refine s_iload_n C (d_of DX9_countPieces 18 rfl) rfl ?_
    exact s_ireturn C (d_of DX9_countPieces 19 rfl) h
  · have h := h.2 hc
    refine s_aload_n C (d_of DX9_countPieces 8 rfl) rfl ?_
    refine gf_X9_25 C (sh_1 hF1) (d_of DX9_countPieces 9 rfl) (fx_1_3 hF1) ?_
    refine s_iload_n C (d_of DX9_countPieces 10 rfl) rfl ?_
    obtain ⟨o2, h⟩ := h
    obtain ⟨o3, h⟩ := h
    refine s_aald (v0 := (M 4 l3)) (t0 := 6) C (sh_4 hF1) (by decide) rfl o2 o3 (d_of DX9_countPieces 11 rfl) rfl ?_
    obtain ⟨o4, h⟩ := h
    refine gf_X9_166 (v0 := (M (M 4 l3) 1)) C o4 (d_of DX9_countPieces 12 rfl) rfl ?_
    refine s_aload_n C (d_of DX9_countPieces 13 rfl) rfl ?_
    obtain ⟨o5, h⟩ := h
    obtain ⟨o6, h⟩ := h
    refine s_acmpne C (d_of DX9_countPieces 14 rfl) rfl o5 o6 (fun hc => ?_) (fun hc => ?_)
    · have h := h.1 hc
      obtain ⟨o7, h⟩ := h
      refine s_iinc (ls' := [(2, 1), (2, l1), (0, l2), (0, (l3 + 1))]) C (d_of DX9_countPieces 16 rfl) (by decide) rfl o7 rfl rfl ?_
      refine s_goto C (d_of DX9_countPieces 17 rfl) rfl ?_
      exact h
    · have h := h.2 hc
      obtain ⟨o8, h⟩ := h
      refine s_iinc (ls' := [(2, 1), (2, l1), (0, (l2 + 1)), (0, l3)]) C (d_of DX9_countPieces 15 rfl) (by decide) rfl o8 rfl rfl ?_
      obtain ⟨o9, h⟩ := h
      refine s_iinc (ls' := [(2, 1), (2, l1), (0, (l2 + 1)), (0, (l3 + 1))]) C (d_of DX9_countPieces 16 rfl) (by decide) rfl o9 rfl rfl ?_
      refine s_goto C (d_of DX9_countPieces 17 rfl) rfl ?_
      exact h
theorem E_X9_countPieces {G : GP} {l : Launch} {P : Int → NS → MM → Prop} {l1 : Int} {w : NS} {M : MM} (h : ∀ X : BX, X.2.1 = l → CX_X9_countPieces G X → A_X9_countPieces_0 G X P l1 w M) : CT_X9_countPieces G l [(2, 1), (2, l1)] w M P :=
  CT.of RX9 "countPieces" (by decide +kernel) rfl rfl rfl (Nat.le_of_ble_eq_true rfl) (fun hr X hX C => h  X hX C)
def A_X9_ofPage_0 (G : GP) (X : BX) (P : Int → NS → MM → Prop) (l1 : Int) (l2 : Int) (w : NS) (M : MM) : Prop := WA true G X (QM G X true 0 P) 4 0 [(2, 1), (0, l1), (0, l2), (3, 0)] [] 0 0 w M
set_option maxHeartbeats 4000000 in
set_option maxRecDepth 100000 in
theorem B_X9_ofPage_0 {G : GP} {X : BX} {P : Int → NS → MM → Prop} {l1 : Int} {l2 : Int} {w : NS} {M : MM} (C : CX_X9_ofPage G X) (h : (0 ≤ M 1 2) ∧ (M 1 2 ≤ 8) ∧ ((((pgO M l1) ≠ 0) → (((¬ (100 ≤ l2 ∧ l2 ≤ 159)) → (((l2 < 0 ∨ 3 < l2) → P (-2) w M) ∧ (l2 = 0 → (w.2 (pgO M l1) = (5, 5)) ∧ P (M (pgO M l1) 1) w M) ∧ (l2 = 1 → (w.2 (pgO M l1) = (5, 5)) ∧ P (M (pgO M l1) 2) w M) ∧ (l2 = 2 → (w.2 (pgO M l1) = (5, 5)) ∧ ((((M (pgO M l1) 4) ≠ 0) → (w.2 (M (pgO M l1) 4) = (5, 5)) ∧ P (M (M (pgO M l1) 4) 0) w M) ∧ ((¬ ((M (pgO M l1) 4) ≠ 0)) → P (-6) w M))) ∧ (l2 = 3 → ∃ Q10 : Int → NS → MM → Prop, CT_X9_countPieces G X.2.1 [(2, 1), (2, (pgO M l1))] w M Q10 ∧ ∀ (z10 : Int) (w10 : NS) (M10 : MM), Q10 z10 w10 M10 → P z10 w10 M10))) ∧ (((100 ≤ l2 ∧ l2 ≤ 159)) → (w.2 (pgO M l1) = (5, 5)) ∧ (inR (l2 - 100)) ∧ (0 ≤ (l2 - 100)) ∧ ((l2 - 100) < 60) ∧ P (M ((pgO M l1) + 1) (l2 - 100)) w M))) ∧ ((¬ ((pgO M l1) ≠ 0)) → P (-1) w M))) : A_X9_ofPage_0 G X P l1 l2 w M := by
  unfold A_X9_ofPage_0
  refine s_aload_n C (d_of DX9_ofPage 0 rfl) rfl ?_
  refine s_iload_n C (d_of DX9_ofPage 1 rfl) rfl ?_
  refine WA.fix (fun hF1 => ?_)
  obtain ⟨o2, h⟩ := h
  obtain ⟨o3, h⟩ := h
  refine s_callV (ci := 9) (av := [(0, l1)]) (rest := []) (mc := 0) (ms := 0) C (d_of DX9_ofPage 2 rfl) lk_X9_106 (sh_1 hF1) (by decide) rfl rfl rfl (Nat.le_of_ble_eq_true rfl) (by decide) (by decide) (pc_X9_pageOf o2 o3) (fun z4 wz4 Mz4 hq => ?_)
  obtain ⟨hq1, hq2, hq3⟩ := hq
  have hq2 := hq2.symm
  have hq3 := hq3.symm
  subst hq1 hq2 hq3
  refine s_astore_n (ls' := [(2, 1), (0, l1), (0, l2), (2, (pgO M l1))]) C (d_of DX9_ofPage 3 rfl) (by decide) rfl rfl ?_
  refine s_aload_n C (d_of DX9_ofPage 4 rfl) rfl ?_
  refine s_ifnonnull C (d_of DX9_ofPage 5 rfl) rfl (fun hc => ?_) (fun hc => ?_)
  · have h := h.1 hc
    refine s_iload_n C (d_of DX9_ofPage 8 rfl) rfl ?_
    refine s_bipush C (d_of DX9_ofPage 9 rfl) ⟨rfl, by decide, by decide⟩ ?_
    refine s_sipush C (d_of DX9_ofPage 10 rfl) ⟨rfl, by decide, by decide⟩ ?_
    refine s_callS (av := [(0, l2), (0, 100), (0, 159)]) (rest := []) (mc := 0) (ms := 0) C (d_of DX9_ofPage 11 rfl) lk_X9_95 rfl rfl (Nat.le_of_ble_eq_true rfl) (by decide) (by decide) (pc_X9_within) (fun z5 wz5 Mz5 hq => ?_)
    obtain ⟨hq1, hq2, hq3⟩ := hq
    have hq2 := hq2.symm
    have hq3 := hq3.symm
    subst hq1 hq2 hq3
    refine s_ifeq C (d_of DX9_ofPage 12 rfl) rfl (fun hc => ?_) (fun hc => ?_)
    · have h := h.1 (b2i_0.mp hc)
      refine s_iload_n C (d_of DX9_ofPage 20 rfl) rfl ?_
      rcases (show (l2 < 0 ∨ 3 < l2) ∨ l2 = 0 ∨ l2 = 1 ∨ l2 = 2 ∨ l2 = 3 from by omega) with hc | hc | hc | hc | hc
      · have h := h.1 hc
        refine s_tabOut C (d_of DX9_ofPage 21 rfl) hc rfl ?_
        refine s_bipush C (d_of DX9_ofPage 41 rfl) ⟨rfl, by decide, by decide⟩ ?_
        exact s_ireturn C (d_of DX9_ofPage 42 rfl) h
      · have h := h.2.1 hc
        refine s_tabIn C (d_of DX9_ofPage 21 rfl) hc (by decide) (by decide) rfl rfl ?_
        refine s_aload_n C (d_of DX9_ofPage 22 rfl) rfl ?_
        obtain ⟨o6, h⟩ := h
        refine gf_X9_128 (v0 := (M (pgO M l1) 1)) C o6 (d_of DX9_ofPage 23 rfl) rfl ?_
        exact s_ireturn C (d_of DX9_ofPage 24 rfl) h
      · have h := h.2.2.1 hc
        refine s_tabIn C (d_of DX9_ofPage 21 rfl) hc (by decide) (by decide) rfl rfl ?_
        refine s_aload_n C (d_of DX9_ofPage 25 rfl) rfl ?_
        obtain ⟨o7, h⟩ := h
        refine gf_X9_131 (v0 := (M (pgO M l1) 2)) C o7 (d_of DX9_ofPage 26 rfl) rfl ?_
        exact s_ireturn C (d_of DX9_ofPage 27 rfl) h
      · have h := h.2.2.2.1 hc
        refine s_tabIn C (d_of DX9_ofPage 21 rfl) hc (by decide) (by decide) rfl rfl ?_
        refine s_aload_n C (d_of DX9_ofPage 28 rfl) rfl ?_
        obtain ⟨o8, h⟩ := h
        refine gf_X9_134 (v0 := (M (pgO M l1) 4)) C o8 (d_of DX9_ofPage 29 rfl) rfl ?_
        refine s_ifnonnull C (d_of DX9_ofPage 30 rfl) rfl (fun hc => ?_) (fun hc => ?_)
        · have h := h.1 hc
          refine s_aload_n C (d_of DX9_ofPage 33 rfl) rfl ?_
          refine gf_X9_134 (v0 := (M (pgO M l1) 4)) C o8 (d_of DX9_ofPage 34 rfl) rfl ?_
          obtain ⟨o9, h⟩ := h
          refine gf_X9_138 (v0 := (M (M (pgO M l1) 4) 0)) C o9 (d_of DX9_ofPage 35 rfl) rfl ?_
          exact s_ireturn C (d_of DX9_ofPage 36 rfl) h
        · have h := h.2 hc
          refine s_bipush C (d_of DX9_ofPage 31 rfl) ⟨rfl, by decide, by decide⟩ ?_
          refine s_goto C (d_of DX9_ofPage 32 rfl) rfl ?_
          exact s_ireturn C (d_of DX9_ofPage 36 rfl) h
      · have h := h.2.2.2.2 hc
        refine s_tabIn C (d_of DX9_ofPage 21 rfl) hc (by decide) (by decide) rfl rfl ?_
        refine s_aload_n C (d_of DX9_ofPage 37 rfl) rfl ?_
        refine s_aload_n C (d_of DX9_ofPage 38 rfl) rfl ?_
        obtain ⟨Q10, hKQ10, h⟩ := h
        refine s_callV (ci := 9) (av := [(2, (pgO M l1))]) (rest := []) (mc := 0) (ms := 0) C (d_of DX9_ofPage 39 rfl) lk_X9_141 (sh_1 hF1) (by decide) rfl rfl rfl (Nat.le_of_ble_eq_true rfl) (by decide) (by decide) hKQ10 (fun z10 w10 M10 hq => ?_)
        have h := h z10 w10 M10 hq
        exact s_ireturn C (d_of DX9_ofPage 40 rfl) h
    · have h := h.2 (b2i_n0 hc)
      refine s_aload_n C (d_of DX9_ofPage 13 rfl) rfl ?_
      obtain ⟨o11, h⟩ := h
      have hd12 := FixA.dy (t := 5) (n := 5) (k := 3) (m := 60) hF1 (by decide) o11
      refine gf_X9_117 C o11 (d_of DX9_ofPage 14 rfl) hd12.1 ?_
      refine s_iload_n C (d_of DX9_ofPage 15 rfl) rfl ?_
      refine s_bipush C (d_of DX9_ofPage 16 rfl) ⟨rfl, by decide, by decide⟩ ?_
      obtain ⟨o13, h⟩ := h
      refine s_isub C (d_of DX9_ofPage 17 rfl) o13 ?_
      obtain ⟨o14, h⟩ := h
      obtain ⟨o15, h⟩ := h
      refine s_iald (v0 := (M ((pgO M l1) + 1) (l2 - 100))) C hd12.2 o14 o15 (d_of DX9_ofPage 18 rfl) rfl ?_
      exact s_ireturn C (d_of DX9_ofPage 19 rfl) h
  · have h := h.2 hc
    refine s_iconst C (d_of DX9_ofPage 6 rfl) (by decide) ?_
    exact s_ireturn C (d_of DX9_ofPage 7 rfl) h
theorem E_X9_ofPage {G : GP} {l : Launch} {P : Int → NS → MM → Prop} {l1 : Int} {l2 : Int} {w : NS} {M : MM} (h : inR l1 → inR l2 → ∀ X : BX, X.2.1 = l → CX_X9_ofPage G X → A_X9_ofPage_0 G X P l1 l2 w M) : CT_X9_ofPage G l [(2, 1), (0, l1), (0, l2)] w M P :=
  CT.of RX9 "ofPage" (by decide +kernel) rfl rfl rfl (Nat.le_of_ble_eq_true rfl) (fun hr X hX C => h (hr (0, l1) (by simp)) (hr (0, l2) (by simp)) X hX C)
def A_X6_init_0 (G : GP) (X : BX) (P : Int → NS → MM → Prop) (l0 : Int) (l1 : Int) (l2 : Int) (l3 : Int) (l4 : Int) (l5 : Int) (l6 : Int) (rc rs : Nat) (w : NS) (M : MM) : Prop := WA false G X (QM G X false 4 P) 7 0 [(2, l0), (0, l1), (2, l2), (0, l3), (0, l4), (0, l5), (0, l6)] [] rc rs w M
set_option maxHeartbeats 4000000 in
set_option maxRecDepth 100000 in
theorem B_X6_init_0 {G : GP} {X : BX} {P : Int → NS → MM → Prop} {l0 : Int} {l1 : Int} {l2 : Int} {l3 : Int} {l4 : Int} {l5 : Int} {l6 : Int} {rc rs : Nat} {w : NS} {M : MM} (C : CX_X6_init G X) (h : (w.2 l0 = (7, 12)) ∧ ∀ w2 : NS, w2 = (w.1 + 1, us w.2 w.1 12 60) → (l0 < (w.1 : Int)) ∧ ∀ M8 : MM, M8 = (up M l0 6 (w.1 : Int)) → ∀ M9 : MM, M9 = (up M8 l0 7 0) → ∀ M10 : MM, M10 = (up M9 l0 8 0) → ∀ M11 : MM, M11 = (up M10 l0 9 0) → ∀ M12 : MM, M12 = (up M11 l0 10 0) → ∀ M13 : MM, M13 = (up M12 l0 11 0) → ∀ M14 : MM, M14 = (up M13 l0 0 l1) → ∀ M15 : MM, M15 = (up M14 l0 1 l2) → ∀ M16 : MM, M16 = (up M15 l0 2 l3) → ∀ M17 : MM, M17 = (up M16 l0 3 l4) → ∀ M18 : MM, M18 = (up M17 l0 4 l5) → ∀ M19 : MM, M19 = (up M18 l0 5 l6) → P 0 w2 M19) : A_X6_init_0 G X P l0 l1 l2 l3 l4 l5 l6 (rc + 1) (rs + 60) w M := by
  unfold A_X6_init_0
  refine s_aload_n C (d_of DX6_init 0 rfl) rfl ?_
  obtain ⟨o1, h⟩ := h
  refine s_objInit C o1 (by decide) (mG (wd_347) rfl) (mG (wd_81) rfl) (mG (wd_82) rfl) (by decide) (by decide) (Nat.le_of_ble_eq_true rfl) (d_of DX6_init 1 rfl) ?_
  refine s_aload_n C (d_of DX6_init 2 rfl) rfl ?_
  refine s_bipush C (d_of DX6_init 3 rfl) ⟨rfl, by decide, by decide⟩ ?_
  refine na_12 (N := 60) C rfl (by decide) (d_of DX6_init 4 rfl) ?_
  refine WA.nmW (fun w2 ew2 => ?_)
  have h := h _ ew2
  obtain ⟨o3, h⟩ := h
  have k4 : w2.2 l0 = (7, 12) := by rw [ew2]; exact us_ne o1 (Int.ne_of_lt o3)
  have b5 : l0 < (w2.1 : Int) := by have := o3; rw [ew2]; show _ < ((w.1 + 1 : Nat) : Int); omega
  have k6 : w2.2 (w.1 : Int) = (12, 60) := by rw [ew2]; exact us_new _ _ _ _
  have b7 : (w.1 : Int) < (w2.1 : Int) := by rw [ew2]; show _ < ((w.1 + 1 : Nat) : Int); omega
  refine pf_X6_9 C k4 (fun e => by cases e) (d_of DX6_init 5 rfl) ?_
  refine WA.nmM (fun M8 eM8 => ?_)
  have h := h _ eM8
  refine s_aload_n C (d_of DX6_init 6 rfl) rfl ?_
  refine s_iconst C (d_of DX6_init 7 rfl) (by decide) ?_
  refine pf_X6_15 C k4 (fun e => by cases e) (d_of DX6_init 8 rfl) ?_
  refine WA.nmM (fun M9 eM9 => ?_)
  have h := h _ eM9
  refine s_aload_n C (d_of DX6_init 9 rfl) rfl ?_
  refine s_iconst C (d_of DX6_init 10 rfl) (by decide) ?_
  refine pf_X6_19 C k4 (fun e => by cases e) (d_of DX6_init 11 rfl) ?_
  refine WA.nmM (fun M10 eM10 => ?_)
  have h := h _ eM10
  refine s_aload_n C (d_of DX6_init 12 rfl) rfl ?_
  refine s_iconst C (d_of DX6_init 13 rfl) (by decide) ?_
  refine pf_X6_22 C k4 (fun e => by cases e) (d_of DX6_init 14 rfl) ?_
  refine WA.nmM (fun M11 eM11 => ?_)
  have h := h _ eM11
  refine s_aload_n C (d_of DX6_init 15 rfl) rfl ?_
  refine s_iconst C (d_of DX6_init 16 rfl) (by decide) ?_
  refine pf_X6_25 C k4 (fun e => by cases e) (d_of DX6_init 17 rfl) ?_
  refine WA.nmM (fun M12 eM12 => ?_)
  have h := h _ eM12
  refine s_aload_n C (d_of DX6_init 18 rfl) rfl ?_
  refine s_iconst C (d_of DX6_init 19 rfl) (by decide) ?_
  refine pf_X6_28 C k4 (fun e => by cases e) (d_of DX6_init 20 rfl) ?_
  refine WA.nmM (fun M13 eM13 => ?_)
  have h := h _ eM13
  refine s_aload_n C (d_of DX6_init 21 rfl) rfl ?_
  refine s_iload_n C (d_of DX6_init 22 rfl) rfl ?_
  refine pf_X6_31 C k4 (fun e => by cases e) (d_of DX6_init 23 rfl) ?_
  refine WA.nmM (fun M14 eM14 => ?_)
  have h := h _ eM14
  refine s_aload_n C (d_of DX6_init 24 rfl) rfl ?_
  refine s_aload_n C (d_of DX6_init 25 rfl) rfl ?_
  refine pf_X6_34 C k4 (fun e => by cases e) (d_of DX6_init 26 rfl) ?_
  refine WA.nmM (fun M15 eM15 => ?_)
  have h := h _ eM15
  refine s_aload_n C (d_of DX6_init 27 rfl) rfl ?_
  refine s_iload_n C (d_of DX6_init 28 rfl) rfl ?_
  refine pf_X6_38 C k4 (fun e => by cases e) (d_of DX6_init 29 rfl) ?_
  refine WA.nmM (fun M16 eM16 => ?_)
  have h := h _ eM16
  refine s_aload_n C (d_of DX6_init 30 rfl) rfl ?_
  refine s_iload C (d_of DX6_init 31 rfl) rfl ?_
  refine pf_X6_41 C k4 (fun e => by cases e) (d_of DX6_init 32 rfl) ?_
  refine WA.nmM (fun M17 eM17 => ?_)
  have h := h _ eM17
  refine s_aload_n C (d_of DX6_init 33 rfl) rfl ?_
  refine s_iload C (d_of DX6_init 34 rfl) rfl ?_
  refine pf_X6_44 C k4 (fun e => by cases e) (d_of DX6_init 35 rfl) ?_
  refine WA.nmM (fun M18 eM18 => ?_)
  have h := h _ eM18
  refine s_aload_n C (d_of DX6_init 36 rfl) rfl ?_
  refine s_iload C (d_of DX6_init 37 rfl) rfl ?_
  refine pf_X6_47 C k4 (fun e => by cases e) (d_of DX6_init 38 rfl) ?_
  refine WA.nmM (fun M19 eM19 => ?_)
  have h := h _ eM19
  exact s_vreturn C (d_of DX6_init 39 rfl) h
theorem E_X6_init {G : GP} {l : Launch} {P : Int → NS → MM → Prop} {l0 : Int} {l1 : Int} {l2 : Int} {l3 : Int} {l4 : Int} {l5 : Int} {l6 : Int} {w : NS} {M : MM} (h : inR l1 → inR l3 → inR l4 → inR l5 → inR l6 → ∀ X : BX, X.2.1 = l → CX_X6_init G X → A_X6_init_0 G X P l0 l1 l2 l3 l4 l5 l6 1 60 w M) : CT_X6_init G l [(2, l0), (0, l1), (2, l2), (0, l3), (0, l4), (0, l5), (0, l6)] w M P :=
  CT.of RX6 "<init>" (by decide +kernel) rfl rfl rfl (Nat.le_of_ble_eq_true rfl) (fun hr X hX C => h (hr (0, l1) (by simp)) (hr (0, l3) (by simp)) (hr (0, l4) (by simp)) (hr (0, l5) (by simp)) (hr (0, l6) (by simp)) X hX C)
def A_X4_isLaterThan_0 (G : GP) (X : BX) (P : Int → NS → MM → Prop) (l0 : Int) (l1 : Int) (w : NS) (M : MM) : Prop := WA true G X (QM G X true 0 P) 2 0 [(2, l0), (2, l1)] [] 0 0 w M
set_option maxHeartbeats 4000000 in
set_option maxRecDepth 100000 in
theorem B_X4_isLaterThan_0 {G : GP} {X : BX} {P : Int → NS → MM → Prop} {l0 : Int} {l1 : Int} {w : NS} {M : MM} (C : CX_X4_isLaterThan G X) (h : (w.2 l0 = (5, 5)) ∧ (w.2 l1 = (5, 5)) ∧ ((((M l0 2) = (M l1 2)) → ((((M l0 1) ≤ (M l1 1)) → P 0 w M) ∧ ((¬ ((M l0 1) ≤ (M l1 1))) → P 1 w M))) ∧ ((¬ ((M l0 2) = (M l1 2))) → ((((M l0 2) ≤ (M l1 2)) → P 0 w M) ∧ ((¬ ((M l0 2) ≤ (M l1 2))) → P 1 w M))))) : A_X4_isLaterThan_0 G X P l0 l1 w M := by
  unfold A_X4_isLaterThan_0
  refine s_aload_n C (d_of DX4_isLaterThan 0 rfl) rfl ?_
  obtain ⟨o1, h⟩ := h
  refine gf_X4_26 (v0 := (M l0 2)) C o1 (d_of DX4_isLaterThan 1 rfl) rfl ?_
  refine s_aload_n C (d_of DX4_isLaterThan 2 rfl) rfl ?_
  obtain ⟨o2, h⟩ := h
  refine gf_X4_26 (v0 := (M l1 2)) C o2 (d_of DX4_isLaterThan 3 rfl) rfl ?_
  refine s_icmpeq C (d_of DX4_isLaterThan 4 rfl) rfl (fun hc => ?_) (fun hc => ?_)
  · have h := h.1 hc
    refine s_aload_n C (d_of DX4_isLaterThan 14 rfl) rfl ?_
    refine gf_X4_23 (v0 := (M l0 1)) C o1 (d_of DX4_isLaterThan 15 rfl) rfl ?_
    refine s_aload_n C (d_of DX4_isLaterThan 16 rfl) rfl ?_
    refine gf_X4_23 (v0 := (M l1 1)) C o2 (d_of DX4_isLaterThan 17 rfl) rfl ?_
    refine s_icmple C (d_of DX4_isLaterThan 18 rfl) rfl (fun hc => ?_) (fun hc => ?_)
    · have h := h.1 hc
      refine s_iconst C (d_of DX4_isLaterThan 21 rfl) (by decide) ?_
      exact s_zreturn C (d_of DX4_isLaterThan 22 rfl) (by decide) h
    · have h := h.2 hc
      refine s_iconst C (d_of DX4_isLaterThan 19 rfl) (by decide) ?_
      refine s_goto C (d_of DX4_isLaterThan 20 rfl) rfl ?_
      exact s_zreturn C (d_of DX4_isLaterThan 22 rfl) (by decide) h
  · have h := h.2 hc
    refine s_aload_n C (d_of DX4_isLaterThan 5 rfl) rfl ?_
    refine gf_X4_26 (v0 := (M l0 2)) C o1 (d_of DX4_isLaterThan 6 rfl) rfl ?_
    refine s_aload_n C (d_of DX4_isLaterThan 7 rfl) rfl ?_
    refine gf_X4_26 (v0 := (M l1 2)) C o2 (d_of DX4_isLaterThan 8 rfl) rfl ?_
    refine s_icmple C (d_of DX4_isLaterThan 9 rfl) rfl (fun hc => ?_) (fun hc => ?_)
    · have h := h.1 hc
      refine s_iconst C (d_of DX4_isLaterThan 12 rfl) (by decide) ?_
      refine s_goto C (d_of DX4_isLaterThan 13 rfl) rfl ?_
      exact s_zreturn C (d_of DX4_isLaterThan 22 rfl) (by decide) h
    · have h := h.2 hc
      refine s_iconst C (d_of DX4_isLaterThan 10 rfl) (by decide) ?_
      refine s_goto C (d_of DX4_isLaterThan 11 rfl) rfl ?_
      exact s_zreturn C (d_of DX4_isLaterThan 22 rfl) (by decide) h
theorem E_X4_isLaterThan {G : GP} {l : Launch} {P : Int → NS → MM → Prop} {l0 : Int} {l1 : Int} {w : NS} {M : MM} (h : ∀ X : BX, X.2.1 = l → CX_X4_isLaterThan G X → A_X4_isLaterThan_0 G X P l0 l1 w M) : CT_X4_isLaterThan G l [(2, l0), (2, l1)] w M P :=
  CT.of RX4 "isLaterThan" (by decide +kernel) rfl rfl rfl (Nat.le_of_ble_eq_true rfl) (fun hr X hX C => h  X hX C)
def A_X9_putInOrder_0 (G : GP) (X : BX) (P : Int → NS → MM → Prop) (l1 : Int) (w : NS) (M : MM) : Prop := WA true G X (QM G X true 4 P) 3 0 [(2, 1), (2, l1), (3, 0)] [] 0 0 w M
def A_X9_putInOrder_5 (G : GP) (X : BX) (P : Int → NS → MM → Prop) (l1 : Int) (l2 : Int) (w : NS) (M : MM) : Prop := WA true G X (QM G X true 4 P) 3 5 [(2, 1), (2, l1), (0, l2)] [] 0 0 w M
set_option maxHeartbeats 4000000 in
set_option maxRecDepth 100000 in
theorem B_X9_putInOrder_0 {G : GP} {X : BX} {P : Int → NS → MM → Prop} {l1 : Int} {w : NS} {M : MM} (C : CX_X9_putInOrder G X) (h : A_X9_putInOrder_5 G X P l1 (M 1 4) w M) : A_X9_putInOrder_0 G X P l1 w M := by
  unfold A_X9_putInOrder_0
  refine s_aload_n C (d_of DX9_putInOrder 0 rfl) rfl ?_
  refine WA.fix (fun hF1 => ?_)
  refine gf_X9_29 (v0 := (M 1 4)) C (sh_1 hF1) (d_of DX9_putInOrder 1 rfl) rfl ?_
  refine s_istore_n (ls' := [(2, 1), (2, l1), (0, (M 1 4))]) C (d_of DX9_putInOrder 2 rfl) (by decide) rfl rfl ?_
  exact h
set_option maxHeartbeats 4000000 in
set_option maxRecDepth 100000 in
theorem B_X9_putInOrder_5 {G : GP} {X : BX} {P : Int → NS → MM → Prop} {l1 : Int} {l2 : Int} {w : NS} {M : MM} (C : CX_X9_putInOrder G X) (h : (((l2 ≤ 0) → (0 ≤ l2) ∧ (l2 < 24) ∧ (w.2 l1 = (7, 12)) ∧ P 0 w (up M 5 l2 l1)) ∧ ((¬ (l2 ≤ 0)) → (inR (l2 - 1)) ∧ (0 ≤ (l2 - 1)) ∧ ((l2 - 1) < 24) ∧ (w.2 (M 5 (l2 - 1)) = (7, 12)) ∧ (w.2 l1 = (7, 12)) ∧ (w.2 (M (M 5 (l2 - 1)) 1) = (5, 5)) ∧ ∃ Q12 : Int → NS → MM → Prop, CT_X4_isLaterThan G X.2.1 [(2, (M (M 5 (l2 - 1)) 1)), (2, (M l1 1))] w M Q12 ∧ ∀ (z12 : Int) (w12 : NS) (M12 : MM), Q12 z12 w12 M12 → (((z12 = 0) → (0 ≤ l2) ∧ (l2 < 24) ∧ (w12.2 l1 = (7, 12)) ∧ P 0 w12 (up M12 5 l2 l1)) ∧ ((¬ (z12 = 0)) → (0 ≤ l2) ∧ (l2 < 24) ∧ (w12.2 (M12 5 (l2 - 1)) = (7, 12)) ∧ (inR (l2 + (-1))) ∧ A_X9_putInOrder_5 G X P l1 (l2 + (-1)) w12 (up M12 5 l2 (M12 5 (l2 - 1)))))))) : A_X9_putInOrder_5 G X P l1 l2 w M := by
  unfold A_X9_putInOrder_5
  refine s_iload_n C (d_of DX9_putInOrder 3 rfl) rfl ?_
  refine s_ifle C (d_of DX9_putInOrder 4 rfl) rfl (fun hc => ?_) (fun hc => ?_)
  · have h := h.1 hc
    refine s_aload_n C (d_of DX9_putInOrder 28 rfl) rfl ?_
    refine WA.fix (fun hF1 => ?_)
    refine gf_X9_32 C (sh_1 hF1) (d_of DX9_putInOrder 29 rfl) (fx_1_5 hF1) ?_
    refine s_iload_n C (d_of DX9_putInOrder 30 rfl) rfl ?_
    refine s_aload_n C (d_of DX9_putInOrder 31 rfl) rfl ?_
    obtain ⟨o2, h⟩ := h
    obtain ⟨o3, h⟩ := h
    obtain ⟨o4, h⟩ := h
    refine s_aast (t0 := 6) (ci := 6) C (sh_5 hF1) (by decide) rfl rfl (by decide) o4 o2 o3 (fun _ => by decide) (d_of DX9_putInOrder 32 rfl) ?_
    exact s_vreturn C (d_of DX9_putInOrder 33 rfl) h
  · have h := h.2 hc
    refine s_aload_n C (d_of DX9_putInOrder 5 rfl) rfl ?_
    refine WA.fix (fun hF5 => ?_)
    refine gf_X9_32 C (sh_1 hF5) (d_of DX9_putInOrder 6 rfl) (fx_1_5 hF5) ?_
    refine s_iload_n C (d_of DX9_putInOrder 7 rfl) rfl ?_
    refine s_iconst C (d_of DX9_putInOrder 8 rfl) (by decide) ?_
    obtain ⟨o6, h⟩ := h
    refine s_isub C (d_of DX9_putInOrder 9 rfl) o6 ?_
    obtain ⟨o7, h⟩ := h
    obtain ⟨o8, h⟩ := h
    refine s_aald (v0 := (M 5 (l2 - 1))) (t0 := 6) C (sh_5 hF5) (by decide) rfl o7 o8 (d_of DX9_putInOrder 10 rfl) rfl ?_
    obtain ⟨o9, h⟩ := h
    refine gf_X9_166 (v0 := (M (M 5 (l2 - 1)) 1)) C o9 (d_of DX9_putInOrder 11 rfl) rfl ?_
    refine s_aload_n C (d_of DX9_putInOrder 12 rfl) rfl ?_
    obtain ⟨o10, h⟩ := h
    refine gf_X9_166 (v0 := (M l1 1)) C o10 (d_of DX9_putInOrder 13 rfl) rfl ?_
    obtain ⟨o11, h⟩ := h
    obtain ⟨Q12, hKQ12, h⟩ := h
    refine s_callV (ci := 4) (av := [(2, (M l1 1))]) (rest := []) (mc := 0) (ms := 0) C (d_of DX9_putInOrder 14 rfl) lk_X9_331 o11 (by decide) rfl rfl rfl (Nat.le_of_ble_eq_true rfl) (by decide) (by decide) hKQ12 (fun z12 w12 M12 hq => ?_)
    have h := h z12 w12 M12 hq
    refine s_ifeq C (d_of DX9_putInOrder 15 rfl) rfl (fun hc => ?_) (fun hc => ?_)
    · have h := h.1 hc
      refine s_aload_n C (d_of DX9_putInOrder 28 rfl) rfl ?_
      refine WA.fix (fun hF13 => ?_)
      refine gf_X9_32 C (sh_1 hF13) (d_of DX9_putInOrder 29 rfl) (fx_1_5 hF13) ?_
      refine s_iload_n C (d_of DX9_putInOrder 30 rfl) rfl ?_
      refine s_aload_n C (d_of DX9_putInOrder 31 rfl) rfl ?_
      obtain ⟨o14, h⟩ := h
      obtain ⟨o15, h⟩ := h
      obtain ⟨o16, h⟩ := h
      refine s_aast (t0 := 6) (ci := 6) C (sh_5 hF13) (by decide) rfl rfl (by decide) o16 o14 o15 (fun _ => by decide) (d_of DX9_putInOrder 32 rfl) ?_
      exact s_vreturn C (d_of DX9_putInOrder 33 rfl) h
    · have h := h.2 hc
      refine s_aload_n C (d_of DX9_putInOrder 16 rfl) rfl ?_
      refine WA.fix (fun hF17 => ?_)
      refine gf_X9_32 C (sh_1 hF17) (d_of DX9_putInOrder 17 rfl) (fx_1_5 hF17) ?_
      refine s_iload_n C (d_of DX9_putInOrder 18 rfl) rfl ?_
      refine s_aload_n C (d_of DX9_putInOrder 19 rfl) rfl ?_
      refine gf_X9_32 C (sh_1 hF17) (d_of DX9_putInOrder 20 rfl) (fx_1_5 hF17) ?_
      refine s_iload_n C (d_of DX9_putInOrder 21 rfl) rfl ?_
      refine s_iconst C (d_of DX9_putInOrder 22 rfl) (by decide) ?_
      refine s_isub C (d_of DX9_putInOrder 23 rfl) o6 ?_
      refine s_aald (v0 := (M12 5 (l2 - 1))) (t0 := 6) C (sh_5 hF17) (by decide) rfl o7 o8 (d_of DX9_putInOrder 24 rfl) rfl ?_
      obtain ⟨o18, h⟩ := h
      obtain ⟨o19, h⟩ := h
      obtain ⟨o20, h⟩ := h
      refine s_aast (t0 := 6) (ci := 6) C (sh_5 hF17) (by decide) rfl rfl (by decide) o20 o18 o19 (fun _ => by decide) (d_of DX9_putInOrder 25 rfl) ?_
      obtain ⟨o21, h⟩ := h
      refine s_iinc (ls' := [(2, 1), (2, l1), (0, (l2 + (-1)))]) C (d_of DX9_putInOrder 26 rfl) (by decide) rfl o21 rfl rfl ?_
      refine s_goto C (d_of DX9_putInOrder 27 rfl) rfl ?_
      exact h
theorem E_X9_putInOrder {G : GP} {l : Launch} {P : Int → NS → MM → Prop} {l1 : Int} {w : NS} {M : MM} (h : ∀ X : BX, X.2.1 = l → CX_X9_putInOrder G X → A_X9_putInOrder_0 G X P l1 w M) : CT_X9_putInOrder G l [(2, 1), (2, l1)] w M P :=
  CT.of RX9 "putInOrder" (by decide +kernel) rfl rfl rfl (Nat.le_of_ble_eq_true rfl) (fun hr X hX C => h  X hX C)
def A_X9_piece_0 (G : GP) (X : BX) (P : Int → NS → MM → Prop) (l1 : Int) (l2 : Int) (l3 : Int) (l4 : Int) (l5 : Int) (w : NS) (M : MM) : Prop := WA true G X (QM G X true 0 P) 8 0 [(2, 1), (0, l1), (0, l2), (0, l3), (0, l4), (0, l5), (3, 0), (3, 0)] [] 2 72 w M
set_option maxHeartbeats 4000000 in
set_option maxRecDepth 100000 in
theorem B_X9_piece_0 {G : GP} {X : BX} {P : Int → NS → MM → Prop} {l1 : Int} {l2 : Int} {l3 : Int} {l4 : Int} {l5 : Int} {w : NS} {M : MM} (C : CX_X9_piece G X) (h : (0 ≤ M 1 2) ∧ (M 1 2 ≤ 8) ∧ ((((pgO M l1) ≠ 0) → (((¬ (0 ≤ l2 ∧ l2 ≤ l3 ∧ l3 < 6)) → P (-2) w M) ∧ (((0 ≤ l2 ∧ l2 ≤ l3 ∧ l3 < 6)) → ((((0 ≤ l4 ∧ l4 ≤ l5 ∧ l5 < 10)) → ((((M 1 4) < 24) → ∀ w7 : NS, w7 = (w.1 + 1, us w.2 w.1 7 12) → (1 < (w.1 : Int)) ∧ ∃ Q13 : Int → NS → MM → Prop, CT_X6_init G X.2.1 [(2, (w.1 : Int)), (0, (M 1 4)), (2, (pgO M l1)), (0, l2), (0, l3), (0, l4), (0, l5)] w7 M Q13 ∧ ∀ (z13 : Int) (w13 : NS) (M13 : MM), Q13 z13 w13 M13 → (FixA w13 M13) ∧ (w13.2 (w.1 : Int) = (7, 12)) ∧ ∃ Q16 : Int → NS → MM → Prop, CT_X6_readWords G X.2.1 [(2, (w.1 : Int))] w13 M13 Q16 ∧ ∀ (z16 : Int) (w16 : NS) (M16 : MM), Q16 z16 w16 M16 → (0 ≤ (M16 1 4)) ∧ ((M16 1 4) < 24) ∧ (w16.2 (w.1 : Int) = (7, 12)) ∧ ∃ Q21 : Int → NS → MM → Prop, CT_X9_putInOrder G X.2.1 [(2, 1), (2, (w.1 : Int))] w16 (up M16 4 (M16 1 4) (w.1 : Int)) Q21 ∧ ∀ (z21 : Int) (w21 : NS) (M21 : MM), Q21 z21 w21 M21 → (inR ((M21 1 4) + 1)) ∧ P (M21 1 4) w21 (up (up M21 9 0 0) 1 4 ((M21 1 4) + 1))) ∧ ((¬ ((M 1 4) < 24)) → P (-4) w M))) ∧ ((¬ (0 ≤ l4 ∧ l4 ≤ l5 ∧ l5 < 10)) → P (-2) w M))))) ∧ ((¬ ((pgO M l1) ≠ 0)) → P (-1) w M))) : A_X9_piece_0 G X P l1 l2 l3 l4 l5 w M := by
  unfold A_X9_piece_0
  refine s_aload_n C (d_of DX9_piece 0 rfl) rfl ?_
  refine s_iload_n C (d_of DX9_piece 1 rfl) rfl ?_
  refine WA.fix (fun hF1 => ?_)
  obtain ⟨o2, h⟩ := h
  obtain ⟨o3, h⟩ := h
  refine s_callV (ci := 9) (av := [(0, l1)]) (rest := []) (mc := 0) (ms := 0) C (d_of DX9_piece 2 rfl) lk_X9_106 (sh_1 hF1) (by decide) rfl rfl rfl (Nat.le_of_ble_eq_true rfl) (by decide) (by decide) (pc_X9_pageOf o2 o3) (fun z4 wz4 Mz4 hq => ?_)
  obtain ⟨hq1, hq2, hq3⟩ := hq
  have hq2 := hq2.symm
  have hq3 := hq3.symm
  subst hq1 hq2 hq3
  refine s_astore (ls' := [(2, 1), (0, l1), (0, l2), (0, l3), (0, l4), (0, l5), (2, (pgO M l1)), (3, 0)]) C (d_of DX9_piece 3 rfl) (by decide) rfl rfl ?_
  refine s_aload C (d_of DX9_piece 4 rfl) rfl ?_
  refine s_ifnonnull C (d_of DX9_piece 5 rfl) rfl (fun hc => ?_) (fun hc => ?_)
  · have h := h.1 hc
    refine s_iload_n C (d_of DX9_piece 8 rfl) rfl ?_
    refine s_iload_n C (d_of DX9_piece 9 rfl) rfl ?_
    refine s_bipush C (d_of DX9_piece 10 rfl) ⟨rfl, by decide, by decide⟩ ?_
    refine s_callS (av := [(0, l2), (0, l3), (0, 6)]) (rest := []) (mc := 0) (ms := 0) C (d_of DX9_piece 11 rfl) lk_X9_145 rfl rfl (Nat.le_of_ble_eq_true rfl) (by decide) (by decide) (pc_X9_isRange) (fun z5 wz5 Mz5 hq => ?_)
    obtain ⟨hq1, hq2, hq3⟩ := hq
    have hq2 := hq2.symm
    have hq3 := hq3.symm
    subst hq1 hq2 hq3
    refine s_ifeq C (d_of DX9_piece 12 rfl) rfl (fun hc => ?_) (fun hc => ?_)
    · have h := h.1 (b2i_0.mp hc)
      refine s_bipush C (d_of DX9_piece 18 rfl) ⟨rfl, by decide, by decide⟩ ?_
      exact s_ireturn C (d_of DX9_piece 19 rfl) h
    · have h := h.2 (b2i_n0 hc)
      refine s_iload C (d_of DX9_piece 13 rfl) rfl ?_
      refine s_iload C (d_of DX9_piece 14 rfl) rfl ?_
      refine s_bipush C (d_of DX9_piece 15 rfl) ⟨rfl, by decide, by decide⟩ ?_
      refine s_callS (av := [(0, l4), (0, l5), (0, 10)]) (rest := []) (mc := 0) (ms := 0) C (d_of DX9_piece 16 rfl) lk_X9_145 rfl rfl (Nat.le_of_ble_eq_true rfl) (by decide) (by decide) (pc_X9_isRange) (fun z6 wz6 Mz6 hq => ?_)
      obtain ⟨hq1, hq2, hq3⟩ := hq
      have hq2 := hq2.symm
      have hq3 := hq3.symm
      subst hq1 hq2 hq3
      refine s_ifne C (d_of DX9_piece 17 rfl) rfl (fun hc => ?_) (fun hc => ?_)
      · have h := h.1 (b2i_n0 hc)
        refine s_aload_n C (d_of DX9_piece 20 rfl) rfl ?_
        refine gf_X9_29 (v0 := (M 1 4)) C (sh_1 hF1) (d_of DX9_piece 21 rfl) rfl ?_
        refine s_bipush C (d_of DX9_piece 22 rfl) ⟨rfl, by decide, by decide⟩ ?_
        refine s_icmplt C (d_of DX9_piece 23 rfl) rfl (fun hc => ?_) (fun hc => ?_)
        · have h := h.1 hc
          refine nw_X9_23 C (d_of DX9_piece 26 rfl) ?_
          refine WA.nmW (fun w7 ew7 => ?_)
          have h := h _ ew7
          obtain ⟨o8, h⟩ := h
          have k9 : w7.2 1 = (10, 17) := by rw [ew7]; exact us_ne (sh_1 hF1) (Int.ne_of_lt o8)
          have b10 : 1 < (w7.1 : Int) := by have := o8; rw [ew7]; show _ < ((w.1 + 1 : Nat) : Int); omega
          have k11 : w7.2 (w.1 : Int) = (7, 12) := by rw [ew7]; exact us_new _ _ _ _
          have b12 : (w.1 : Int) < (w7.1 : Int) := by rw [ew7]; show _ < ((w.1 + 1 : Nat) : Int); omega
          refine s_dup C (by simp) (d_of DX9_piece 27 rfl) ?_
          refine s_aload_n C (d_of DX9_piece 28 rfl) rfl ?_
          refine gf_X9_29 (v0 := (M 1 4)) C k9 (d_of DX9_piece 29 rfl) rfl ?_
          refine s_aload C (d_of DX9_piece 30 rfl) rfl ?_
          refine s_iload_n C (d_of DX9_piece 31 rfl) rfl ?_
          refine s_iload_n C (d_of DX9_piece 32 rfl) rfl ?_
          refine s_iload C (d_of DX9_piece 33 rfl) rfl ?_
          refine s_iload C (d_of DX9_piece 34 rfl) rfl ?_
          obtain ⟨Q13, hKQ13, h⟩ := h
          refine s_callI (av := [(0, (M 1 4)), (2, (pgO M l1)), (0, l2), (0, l3), (0, l4), (0, l5)]) (rest := [(2, (w.1 : Int))]) (mc := 1) (ms := 60) C (d_of DX9_piece 35 rfl) lk_X9_148 k11 (by decide) rfl rfl (Nat.le_of_ble_eq_true rfl) (by decide) (by decide) hKQ13 (fun z13 w13 M13 hq => ?_)
          have h := h z13 w13 M13 hq
          obtain ⟨o14, h⟩ := h
          refine WA.refix o14 ?_
          refine s_astore (ls' := [(2, 1), (0, l1), (0, l2), (0, l3), (0, l4), (0, l5), (2, (pgO M l1)), (2, (w.1 : Int))]) C (d_of DX9_piece 36 rfl) (by decide) rfl rfl ?_
          refine s_aload C (d_of DX9_piece 37 rfl) rfl ?_
          obtain ⟨o15, h⟩ := h
          obtain ⟨Q16, hKQ16, h⟩ := h
          refine s_callV (ci := 6) (av := []) (rest := []) (mc := 0) (ms := 0) C (d_of DX9_piece 38 rfl) lk_X9_151 o15 (by decide) rfl rfl rfl (Nat.le_of_ble_eq_true rfl) (by decide) (by decide) hKQ16 (fun z16 w16 M16 hq => ?_)
          have h := h z16 w16 M16 hq
          refine s_aload_n C (d_of DX9_piece 39 rfl) rfl ?_
          refine WA.fix (fun hF17 => ?_)
          refine gf_X9_25 C (sh_1 hF17) (d_of DX9_piece 40 rfl) (fx_1_3 hF17) ?_
          refine s_aload_n C (d_of DX9_piece 41 rfl) rfl ?_
          refine gf_X9_29 (v0 := (M16 1 4)) C (sh_1 hF17) (d_of DX9_piece 42 rfl) rfl ?_
          refine s_aload C (d_of DX9_piece 43 rfl) rfl ?_
          obtain ⟨o18, h⟩ := h
          obtain ⟨o19, h⟩ := h
          obtain ⟨o20, h⟩ := h
          refine s_aast (t0 := 6) (ci := 6) C (sh_4 hF17) (by decide) rfl rfl (by decide) o20 o18 o19 (fun _ => by decide) (d_of DX9_piece 44 rfl) ?_
          refine s_aload_n C (d_of DX9_piece 45 rfl) rfl ?_
          refine s_aload C (d_of DX9_piece 46 rfl) rfl ?_
          obtain ⟨Q21, hKQ21, h⟩ := h
          refine s_callV (ci := 9) (av := [(2, (w.1 : Int))]) (rest := []) (mc := 0) (ms := 0) C (d_of DX9_piece 47 rfl) lk_X9_154 (sh_1 hF17) (by decide) rfl rfl rfl (Nat.le_of_ble_eq_true rfl) (by decide) (by decide) hKQ21 (fun z21 w21 M21 hq => ?_)
          have h := h z21 w21 M21 hq
          refine s_aload_n C (d_of DX9_piece 48 rfl) rfl ?_
          refine WA.fix (fun hF22 => ?_)
          refine gf_X9_54 C (sh_1 hF22) (d_of DX9_piece 49 rfl) (fx_1_9 hF22) ?_
          refine s_iconst C (d_of DX9_piece 50 rfl) (by decide) ?_
          refine pf_X9_124 C (sh_9 hF22) (by decide) (fun _ => by decide) (d_of DX9_piece 51 rfl) ?_
          refine s_aload_n C (d_of DX9_piece 52 rfl) rfl ?_
          refine s_dup C (by simp) (d_of DX9_piece 53 rfl) ?_
          refine gf_X9_29 (v0 := (M21 1 4)) C (sh_1 hF22) (d_of DX9_piece 54 rfl) (up_na (by decide)) ?_
          refine s_dup_x1 C (by simp) (by simp) (d_of DX9_piece 55 rfl) ?_
          refine s_iconst C (d_of DX9_piece 56 rfl) (by decide) ?_
          obtain ⟨o23, h⟩ := h
          refine s_iadd C (d_of DX9_piece 57 rfl) o23 ?_
          refine pf_X9_29 C (sh_1 hF22) (fun _ => by decide) (d_of DX9_piece 58 rfl) ?_
          exact s_ireturn C (d_of DX9_piece 59 rfl) h
        · have h := h.2 hc
          refine s_bipush C (d_of DX9_piece 24 rfl) ⟨rfl, by decide, by decide⟩ ?_
          exact s_ireturn C (d_of DX9_piece 25 rfl) h
      · have h := h.2 (b2i_nn hc)
        refine s_bipush C (d_of DX9_piece 18 rfl) ⟨rfl, by decide, by decide⟩ ?_
        exact s_ireturn C (d_of DX9_piece 19 rfl) h
  · have h := h.2 hc
    refine s_iconst C (d_of DX9_piece 6 rfl) (by decide) ?_
    exact s_ireturn C (d_of DX9_piece 7 rfl) h
theorem E_X9_piece {G : GP} {l : Launch} {P : Int → NS → MM → Prop} {l1 : Int} {l2 : Int} {l3 : Int} {l4 : Int} {l5 : Int} {w : NS} {M : MM} (h : inR l1 → inR l2 → inR l3 → inR l4 → inR l5 → ∀ X : BX, X.2.1 = l → CX_X9_piece G X → A_X9_piece_0 G X P l1 l2 l3 l4 l5 w M) : CT_X9_piece G l [(2, 1), (0, l1), (0, l2), (0, l3), (0, l4), (0, l5)] w M P :=
  CT.of RX9 "piece" (by decide +kernel) rfl rfl rfl (Nat.le_of_ble_eq_true rfl) (fun hr X hX C => h (hr (0, l1) (by simp)) (hr (0, l2) (by simp)) (hr (0, l3) (by simp)) (hr (0, l4) (by simp)) (hr (0, l5) (by simp)) X hX C)
def A_X1_leastChanges_0 (G : GP) (X : BX) (P : Int → NS → MM → Prop) (l1 : Int) (l2 : Int) (w : NS) (M : MM) : Prop := WA true G X (QM G X true 0 P) 7 0 [(2, 9), (2, l1), (2, l2), (3, 0), (3, 0), (3, 0), (3, 0)] [] 0 0 w M
def A_X1_leastChanges_2 (G : GP) (X : BX) (P : Int → NS → MM → Prop) (l1 : Int) (l2 : Int) (l3 : Int) (w : NS) (M : MM) : Prop := WA true G X (QM G X true 0 P) 7 2 [(2, 9), (2, l1), (2, l2), (0, l3), (3, 0), (3, 0), (3, 0)] [] 0 0 w M
def A_X1_leastChanges_25 (G : GP) (X : BX) (P : Int → NS → MM → Prop) (l1 : Int) (l2 : Int) (l3 : Int) (w : NS) (M : MM) : Prop := WA true G X (QM G X true 0 P) 7 25 [(2, 9), (2, l1), (2, l2), (0, l3), (3, 0), (3, 0), (3, 0)] [] 0 0 w M
def A_X1_leastChanges_51 (G : GP) (X : BX) (P : Int → NS → MM → Prop) (l1 : Int) (l2 : Int) (l3 : Int) (l4 : Int) (l5 : Int) (w : NS) (M : MM) : Prop := WA true G X (QM G X true 0 P) 7 51 [(2, 9), (2, l1), (2, l2), (0, l3), (0, l4), (0, l5), (3, 0)] [] 0 0 w M
set_option maxHeartbeats 4000000 in
set_option maxRecDepth 100000 in
theorem B_X1_leastChanges_0 {G : GP} {X : BX} {P : Int → NS → MM → Prop} {l1 : Int} {l2 : Int} {w : NS} {M : MM} (C : CX_X1_leastChanges G X) (h : A_X1_leastChanges_2 G X P l1 l2 0 w M) : A_X1_leastChanges_0 G X P l1 l2 w M := by
  unfold A_X1_leastChanges_0
  refine s_iconst C (d_of DX1_leastChanges 0 rfl) (by decide) ?_
  refine s_istore_n (ls' := [(2, 9), (2, l1), (2, l2), (0, 0), (3, 0), (3, 0), (3, 0)]) C (d_of DX1_leastChanges 1 rfl) (by decide) rfl rfl ?_
  exact h
set_option maxHeartbeats 4000000 in
set_option maxRecDepth 100000 in
theorem B_X1_leastChanges_2 {G : GP} {X : BX} {P : Int → NS → MM → Prop} {l1 : Int} {l2 : Int} {l3 : Int} {w : NS} {M : MM} (C : CX_X1_leastChanges G X) (h : (w.2 l2 = (7, 12)) ∧ ((((M l2 7) < l3) → A_X1_leastChanges_25 G X P l1 l2 1 w M) ∧ ((¬ ((M l2 7) < l3)) → (0 ≤ l3) ∧ (l3 < 61) ∧ (inR (l3 + 1)) ∧ A_X1_leastChanges_2 G X P l1 l2 (l3 + 1) w (up M 11 l3 l3)))) : A_X1_leastChanges_2 G X P l1 l2 l3 w M := by
  unfold A_X1_leastChanges_2
  refine s_iload_n C (d_of DX1_leastChanges 2 rfl) rfl ?_
  refine s_aload_n C (d_of DX1_leastChanges 3 rfl) rfl ?_
  obtain ⟨o1, h⟩ := h
  refine gf_X1_43 (v0 := (M l2 7)) C o1 (d_of DX1_leastChanges 4 rfl) rfl ?_
  refine s_icmpgt C (d_of DX1_leastChanges 5 rfl) rfl (fun hc => ?_) (fun hc => ?_)
  · have h := h.1 hc
    refine s_iconst C (d_of DX1_leastChanges 13 rfl) (by decide) ?_
    refine s_istore_n (ls' := [(2, 9), (2, l1), (2, l2), (0, 1), (3, 0), (3, 0), (3, 0)]) C (d_of DX1_leastChanges 14 rfl) (by decide) rfl rfl ?_
    exact h
  · have h := h.2 hc
    refine s_aload_n C (d_of DX1_leastChanges 6 rfl) rfl ?_
    refine WA.fix (fun hF2 => ?_)
    refine gf_X1_21 C (sh_9 hF2) (d_of DX1_leastChanges 7 rfl) (fx_9_2 hF2) ?_
    refine s_iload_n C (d_of DX1_leastChanges 8 rfl) rfl ?_
    refine s_iload_n C (d_of DX1_leastChanges 9 rfl) rfl ?_
    obtain ⟨o3, h⟩ := h
    obtain ⟨o4, h⟩ := h
    refine s_iast C (sh_11 hF2) o3 o4 (fun _ => by decide) (d_of DX1_leastChanges 10 rfl) ?_
    obtain ⟨o5, h⟩ := h
    refine s_iinc (ls' := [(2, 9), (2, l1), (2, l2), (0, (l3 + 1)), (3, 0), (3, 0), (3, 0)]) C (d_of DX1_leastChanges 11 rfl) (by decide) rfl o5 rfl rfl ?_
    refine s_goto C (d_of DX1_leastChanges 12 rfl) rfl ?_
    exact h
set_option maxHeartbeats 4000000 in
set_option maxRecDepth 100000 in
theorem B_X1_leastChanges_25 {G : GP} {X : BX} {P : Int → NS → MM → Prop} {l1 : Int} {l2 : Int} {l3 : Int} {w : NS} {M : MM} (C : CX_X1_leastChanges G X) (h : (w.2 l1 = (7, 12)) ∧ ((((M l1 7) < l3) → (w.2 l2 = (7, 12)) ∧ (0 ≤ (M l2 7)) ∧ ((M l2 7) < 61) ∧ P (M 11 (M l2 7)) w M) ∧ ((¬ ((M l1 7) < l3)) → A_X1_leastChanges_51 G X P l1 l2 l3 (M 11 0) 1 w (up M 11 0 l3)))) : A_X1_leastChanges_25 G X P l1 l2 l3 w M := by
  unfold A_X1_leastChanges_25
  refine s_iload_n C (d_of DX1_leastChanges 15 rfl) rfl ?_
  refine s_aload_n C (d_of DX1_leastChanges 16 rfl) rfl ?_
  obtain ⟨o1, h⟩ := h
  refine gf_X1_43 (v0 := (M l1 7)) C o1 (d_of DX1_leastChanges 17 rfl) rfl ?_
  refine s_icmpgt C (d_of DX1_leastChanges 18 rfl) rfl (fun hc => ?_) (fun hc => ?_)
  · have h := h.1 hc
    refine s_aload_n C (d_of DX1_leastChanges 83 rfl) rfl ?_
    refine WA.fix (fun hF2 => ?_)
    refine gf_X1_21 C (sh_9 hF2) (d_of DX1_leastChanges 84 rfl) (fx_9_2 hF2) ?_
    refine s_aload_n C (d_of DX1_leastChanges 85 rfl) rfl ?_
    obtain ⟨o3, h⟩ := h
    refine gf_X1_43 (v0 := (M l2 7)) C o3 (d_of DX1_leastChanges 86 rfl) rfl ?_
    obtain ⟨o4, h⟩ := h
    obtain ⟨o5, h⟩ := h
    refine s_iald (v0 := (M 11 (M l2 7))) C (sh_11 hF2) o4 o5 (d_of DX1_leastChanges 87 rfl) rfl ?_
    exact s_ireturn C (d_of DX1_leastChanges 88 rfl) h
  · have h := h.2 hc
    refine s_aload_n C (d_of DX1_leastChanges 19 rfl) rfl ?_
    refine WA.fix (fun hF6 => ?_)
    refine gf_X1_21 C (sh_9 hF6) (d_of DX1_leastChanges 20 rfl) (fx_9_2 hF6) ?_
    refine s_iconst C (d_of DX1_leastChanges 21 rfl) (by decide) ?_
    refine s_iald (v0 := (M 11 0)) C (sh_11 hF6) (by decide) (by decide) (d_of DX1_leastChanges 22 rfl) rfl ?_
    refine s_istore (ls' := [(2, 9), (2, l1), (2, l2), (0, l3), (0, (M 11 0)), (3, 0), (3, 0)]) C (d_of DX1_leastChanges 23 rfl) (by decide) rfl rfl ?_
    refine s_aload_n C (d_of DX1_leastChanges 24 rfl) rfl ?_
    refine gf_X1_21 C (sh_9 hF6) (d_of DX1_leastChanges 25 rfl) (fx_9_2 hF6) ?_
    refine s_iconst C (d_of DX1_leastChanges 26 rfl) (by decide) ?_
    refine s_iload_n C (d_of DX1_leastChanges 27 rfl) rfl ?_
    refine s_iast C (sh_11 hF6) (by decide) (by decide) (fun _ => by decide) (d_of DX1_leastChanges 28 rfl) ?_
    refine s_iconst C (d_of DX1_leastChanges 29 rfl) (by decide) ?_
    refine s_istore (ls' := [(2, 9), (2, l1), (2, l2), (0, l3), (0, (M 11 0)), (0, 1), (3, 0)]) C (d_of DX1_leastChanges 30 rfl) (by decide) rfl rfl ?_
    exact h
set_option maxHeartbeats 4000000 in
set_option maxRecDepth 100000 in
theorem B_X1_leastChanges_51 {G : GP} {X : BX} {P : Int → NS → MM → Prop} {l1 : Int} {l2 : Int} {l3 : Int} {l4 : Int} {l5 : Int} {w : NS} {M : MM} (C : CX_X1_leastChanges G X) (h : (w.2 l2 = (7, 12)) ∧ ((((M l2 7) < l5) → (inR (l3 + 1)) ∧ A_X1_leastChanges_25 G X P l1 l2 (l3 + 1) w M) ∧ ((¬ ((M l2 7) < l5)) → (w.2 l1 = (7, 12)) ∧ (inR (l3 - 1)) ∧ (0 ≤ (l3 - 1)) ∧ ((l3 - 1) < 60) ∧ (inR (l5 - 1)) ∧ (0 ≤ (l5 - 1)) ∧ ((l5 - 1) < 60) ∧ ((((M (l1 + 1) (l3 - 1)) = (M (l2 + 1) (l5 - 1))) → (inR (l4 + (b2i (0 ≠ 0)))) ∧ (0 ≤ l5) ∧ (l5 < 61) ∧ ((l5 - 1) < 61) ∧ (inR (1 + (min (M 11 l5) (M 11 (l5 - 1))))) ∧ (inR (l5 + 1)) ∧ A_X1_leastChanges_51 G X P l1 l2 l3 (M 11 l5) (l5 + 1) w (up M 11 l5 (min (l4 + (b2i (0 ≠ 0))) (1 + (min (M 11 l5) (M 11 (l5 - 1))))))) ∧ ((¬ ((M (l1 + 1) (l3 - 1)) = (M (l2 + 1) (l5 - 1)))) → (inR (l4 + (b2i (1 ≠ 0)))) ∧ (0 ≤ l5) ∧ (l5 < 61) ∧ ((l5 - 1) < 61) ∧ (inR (1 + (min (M 11 l5) (M 11 (l5 - 1))))) ∧ (inR (l5 + 1)) ∧ A_X1_leastChanges_51 G X P l1 l2 l3 (M 11 l5) (l5 + 1) w (up M 11 l5 (min (l4 + (b2i (1 ≠ 0))) (1 + (min (M 11 l5) (M 11 (l5 - 1))))))))))) : A_X1_leastChanges_51 G X P l1 l2 l3 l4 l5 w M := by
  unfold A_X1_leastChanges_51
  refine s_iload C (d_of DX1_leastChanges 31 rfl) rfl ?_
  refine s_aload_n C (d_of DX1_leastChanges 32 rfl) rfl ?_
  obtain ⟨o1, h⟩ := h
  refine gf_X1_43 (v0 := (M l2 7)) C o1 (d_of DX1_leastChanges 33 rfl) rfl ?_
  refine s_icmpgt C (d_of DX1_leastChanges 34 rfl) rfl (fun hc => ?_) (fun hc => ?_)
  · have h := h.1 hc
    obtain ⟨o2, h⟩ := h
    refine s_iinc (ls' := [(2, 9), (2, l1), (2, l2), (0, (l3 + 1)), (0, l4), (0, l5), (3, 0)]) C (d_of DX1_leastChanges 81 rfl) (by decide) rfl o2 rfl rfl ?_
    refine s_goto C (d_of DX1_leastChanges 82 rfl) rfl ?_
    exact WA.wk h ⟨Or.inr rfl, Or.inr rfl, Or.inr rfl, Or.inr rfl, Or.inl rfl, Or.inl rfl, Or.inl rfl, trivial⟩
  · have h := h.2 hc
    refine s_iload C (d_of DX1_leastChanges 35 rfl) rfl ?_
    refine s_aload_n C (d_of DX1_leastChanges 36 rfl) rfl ?_
    obtain ⟨o3, h⟩ := h
    refine WA.fix (fun hF4 => ?_)
    have hd5 := FixA.dy (t := 7) (n := 12) (k := 6) (m := 60) hF4 (by decide) o3
    refine gf_X1_50 C o3 (d_of DX1_leastChanges 37 rfl) hd5.1 ?_
    refine s_iload_n C (d_of DX1_leastChanges 38 rfl) rfl ?_
    refine s_iconst C (d_of DX1_leastChanges 39 rfl) (by decide) ?_
    obtain ⟨o6, h⟩ := h
    refine s_isub C (d_of DX1_leastChanges 40 rfl) o6 ?_
    obtain ⟨o7, h⟩ := h
    obtain ⟨o8, h⟩ := h
    refine s_iald (v0 := (M (l1 + 1) (l3 - 1))) C hd5.2 o7 o8 (d_of DX1_leastChanges 41 rfl) rfl ?_
    refine s_aload_n C (d_of DX1_leastChanges 42 rfl) rfl ?_
    have hd9 := FixA.dy (t := 7) (n := 12) (k := 6) (m := 60) hF4 (by decide) o1
    refine gf_X1_50 C o1 (d_of DX1_leastChanges 43 rfl) hd9.1 ?_
    refine s_iload C (d_of DX1_leastChanges 44 rfl) rfl ?_
    refine s_iconst C (d_of DX1_leastChanges 45 rfl) (by decide) ?_
    obtain ⟨o10, h⟩ := h
    refine s_isub C (d_of DX1_leastChanges 46 rfl) o10 ?_
    obtain ⟨o11, h⟩ := h
    obtain ⟨o12, h⟩ := h
    refine s_iald (v0 := (M (l2 + 1) (l5 - 1))) C hd9.2 o11 o12 (d_of DX1_leastChanges 47 rfl) rfl ?_
    refine s_icmpeq C (d_of DX1_leastChanges 48 rfl) rfl (fun hc => ?_) (fun hc => ?_)
    · have h := h.1 hc
      refine s_iconst C (d_of DX1_leastChanges 51 rfl) (by decide) ?_
      refine s_callSN (av := [(0, 0)]) (rest := [(0, l4)]) (mc := 0) (ms := 0) C (d_of DX1_leastChanges 52 rfl) lk_X1_53 rfl rfl (Nat.le_of_ble_eq_true rfl) (by decide) (by decide) (pc_X9_oneIf) (fun z13 wz13 Mz13 hq => ?_)
      obtain ⟨hq1, hq2, hq3⟩ := hq
      have hq2 := hq2.symm
      have hq3 := hq3.symm
      subst hq1 hq2 hq3
      obtain ⟨o14, h⟩ := h
      refine s_iadd C (d_of DX1_leastChanges 53 rfl) o14 ?_
      refine s_istore (ls' := [(2, 9), (2, l1), (2, l2), (0, l3), (0, l4), (0, l5), (0, (l4 + (b2i (0 ≠ 0))))]) C (d_of DX1_leastChanges 54 rfl) (by decide) rfl rfl ?_
      refine s_aload_n C (d_of DX1_leastChanges 55 rfl) rfl ?_
      refine gf_X1_21 C (sh_9 hF4) (d_of DX1_leastChanges 56 rfl) (fx_9_2 hF4) ?_
      refine s_iload C (d_of DX1_leastChanges 57 rfl) rfl ?_
      obtain ⟨o15, h⟩ := h
      obtain ⟨o16, h⟩ := h
      refine s_iald (v0 := (M 11 l5)) C (sh_11 hF4) o15 o16 (d_of DX1_leastChanges 58 rfl) rfl ?_
      refine s_istore (ls' := [(2, 9), (2, l1), (2, l2), (0, l3), (0, (M 11 l5)), (0, l5), (0, (l4 + (b2i (0 ≠ 0))))]) C (d_of DX1_leastChanges 59 rfl) (by decide) rfl rfl ?_
      refine s_aload_n C (d_of DX1_leastChanges 60 rfl) rfl ?_
      refine gf_X1_21 C (sh_9 hF4) (d_of DX1_leastChanges 61 rfl) (fx_9_2 hF4) ?_
      refine s_iload C (d_of DX1_leastChanges 62 rfl) rfl ?_
      refine s_iload C (d_of DX1_leastChanges 63 rfl) rfl ?_
      refine s_iconst C (d_of DX1_leastChanges 64 rfl) (by decide) ?_
      refine s_aload_n C (d_of DX1_leastChanges 65 rfl) rfl ?_
      refine gf_X1_21 C (sh_9 hF4) (d_of DX1_leastChanges 66 rfl) (fx_9_2 hF4) ?_
      refine s_iload C (d_of DX1_leastChanges 67 rfl) rfl ?_
      refine s_iald (v0 := (M 11 l5)) C (sh_11 hF4) o15 o16 (d_of DX1_leastChanges 68 rfl) rfl ?_
      refine s_aload_n C (d_of DX1_leastChanges 69 rfl) rfl ?_
      refine gf_X1_21 C (sh_9 hF4) (d_of DX1_leastChanges 70 rfl) (fx_9_2 hF4) ?_
      refine s_iload C (d_of DX1_leastChanges 71 rfl) rfl ?_
      refine s_iconst C (d_of DX1_leastChanges 72 rfl) (by decide) ?_
      refine s_isub C (d_of DX1_leastChanges 73 rfl) o10 ?_
      obtain ⟨o17, h⟩ := h
      refine s_iald (v0 := (M 11 (l5 - 1))) C (sh_11 hF4) o11 o17 (d_of DX1_leastChanges 74 rfl) rfl ?_
      refine s_mmin (st := [(0, 1), (0, (l4 + (b2i (0 ≠ 0)))), (0, l5), (2, 11)]) C (d_of DX1_leastChanges 75 rfl) wd_436 (Nat.le_of_ble_eq_true rfl) (by decide) (by decide) ?_
      obtain ⟨o18, h⟩ := h
      refine s_iadd C (d_of DX1_leastChanges 76 rfl) o18 ?_
      refine s_mmin (st := [(0, l5), (2, 11)]) C (d_of DX1_leastChanges 77 rfl) wd_436 (Nat.le_of_ble_eq_true rfl) (by decide) (by decide) ?_
      refine s_iast C (sh_11 hF4) o15 o16 (fun _ => by decide) (d_of DX1_leastChanges 78 rfl) ?_
      obtain ⟨o19, h⟩ := h
      refine s_iinc (ls' := [(2, 9), (2, l1), (2, l2), (0, l3), (0, (M 11 l5)), (0, (l5 + 1)), (0, (l4 + (b2i (0 ≠ 0))))]) C (d_of DX1_leastChanges 79 rfl) (by decide) rfl o19 rfl rfl ?_
      refine s_goto C (d_of DX1_leastChanges 80 rfl) rfl ?_
      exact WA.wk h ⟨Or.inr rfl, Or.inr rfl, Or.inr rfl, Or.inr rfl, Or.inr rfl, Or.inr rfl, Or.inl rfl, trivial⟩
    · have h := h.2 hc
      refine s_iconst C (d_of DX1_leastChanges 49 rfl) (by decide) ?_
      refine s_goto C (d_of DX1_leastChanges 50 rfl) rfl ?_
      refine s_callSN (av := [(0, 1)]) (rest := [(0, l4)]) (mc := 0) (ms := 0) C (d_of DX1_leastChanges 52 rfl) lk_X1_53 rfl rfl (Nat.le_of_ble_eq_true rfl) (by decide) (by decide) (pc_X9_oneIf) (fun z20 wz20 Mz20 hq => ?_)
      obtain ⟨hq1, hq2, hq3⟩ := hq
      have hq2 := hq2.symm
      have hq3 := hq3.symm
      subst hq1 hq2 hq3
      obtain ⟨o21, h⟩ := h
      refine s_iadd C (d_of DX1_leastChanges 53 rfl) o21 ?_
      refine s_istore (ls' := [(2, 9), (2, l1), (2, l2), (0, l3), (0, l4), (0, l5), (0, (l4 + (b2i (1 ≠ 0))))]) C (d_of DX1_leastChanges 54 rfl) (by decide) rfl rfl ?_
      refine s_aload_n C (d_of DX1_leastChanges 55 rfl) rfl ?_
      refine gf_X1_21 C (sh_9 hF4) (d_of DX1_leastChanges 56 rfl) (fx_9_2 hF4) ?_
      refine s_iload C (d_of DX1_leastChanges 57 rfl) rfl ?_
      obtain ⟨o22, h⟩ := h
      obtain ⟨o23, h⟩ := h
      refine s_iald (v0 := (M 11 l5)) C (sh_11 hF4) o22 o23 (d_of DX1_leastChanges 58 rfl) rfl ?_
      refine s_istore (ls' := [(2, 9), (2, l1), (2, l2), (0, l3), (0, (M 11 l5)), (0, l5), (0, (l4 + (b2i (1 ≠ 0))))]) C (d_of DX1_leastChanges 59 rfl) (by decide) rfl rfl ?_
      refine s_aload_n C (d_of DX1_leastChanges 60 rfl) rfl ?_
      refine gf_X1_21 C (sh_9 hF4) (d_of DX1_leastChanges 61 rfl) (fx_9_2 hF4) ?_
      refine s_iload C (d_of DX1_leastChanges 62 rfl) rfl ?_
      refine s_iload C (d_of DX1_leastChanges 63 rfl) rfl ?_
      refine s_iconst C (d_of DX1_leastChanges 64 rfl) (by decide) ?_
      refine s_aload_n C (d_of DX1_leastChanges 65 rfl) rfl ?_
      refine gf_X1_21 C (sh_9 hF4) (d_of DX1_leastChanges 66 rfl) (fx_9_2 hF4) ?_
      refine s_iload C (d_of DX1_leastChanges 67 rfl) rfl ?_
      refine s_iald (v0 := (M 11 l5)) C (sh_11 hF4) o22 o23 (d_of DX1_leastChanges 68 rfl) rfl ?_
      refine s_aload_n C (d_of DX1_leastChanges 69 rfl) rfl ?_
      refine gf_X1_21 C (sh_9 hF4) (d_of DX1_leastChanges 70 rfl) (fx_9_2 hF4) ?_
      refine s_iload C (d_of DX1_leastChanges 71 rfl) rfl ?_
      refine s_iconst C (d_of DX1_leastChanges 72 rfl) (by decide) ?_
      refine s_isub C (d_of DX1_leastChanges 73 rfl) o10 ?_
      obtain ⟨o24, h⟩ := h
      refine s_iald (v0 := (M 11 (l5 - 1))) C (sh_11 hF4) o11 o24 (d_of DX1_leastChanges 74 rfl) rfl ?_
      refine s_mmin (st := [(0, 1), (0, (l4 + (b2i (1 ≠ 0)))), (0, l5), (2, 11)]) C (d_of DX1_leastChanges 75 rfl) wd_436 (Nat.le_of_ble_eq_true rfl) (by decide) (by decide) ?_
      obtain ⟨o25, h⟩ := h
      refine s_iadd C (d_of DX1_leastChanges 76 rfl) o25 ?_
      refine s_mmin (st := [(0, l5), (2, 11)]) C (d_of DX1_leastChanges 77 rfl) wd_436 (Nat.le_of_ble_eq_true rfl) (by decide) (by decide) ?_
      refine s_iast C (sh_11 hF4) o22 o23 (fun _ => by decide) (d_of DX1_leastChanges 78 rfl) ?_
      obtain ⟨o26, h⟩ := h
      refine s_iinc (ls' := [(2, 9), (2, l1), (2, l2), (0, l3), (0, (M 11 l5)), (0, (l5 + 1)), (0, (l4 + (b2i (1 ≠ 0))))]) C (d_of DX1_leastChanges 79 rfl) (by decide) rfl o26 rfl rfl ?_
      refine s_goto C (d_of DX1_leastChanges 80 rfl) rfl ?_
      exact WA.wk h ⟨Or.inr rfl, Or.inr rfl, Or.inr rfl, Or.inr rfl, Or.inr rfl, Or.inr rfl, Or.inl rfl, trivial⟩
theorem E_X1_leastChanges {G : GP} {l : Launch} {P : Int → NS → MM → Prop} {l1 : Int} {l2 : Int} {w : NS} {M : MM} (h : ∀ X : BX, X.2.1 = l → CX_X1_leastChanges G X → A_X1_leastChanges_0 G X P l1 l2 w M) : CT_X1_leastChanges G l [(2, 9), (2, l1), (2, l2)] w M P :=
  CT.of RX1 "leastChanges" (by decide +kernel) rfl rfl rfl (Nat.le_of_ble_eq_true rfl) (fun hr X hX C => h  X hX C)
def A_X1_areDoubles_0 (G : GP) (X : BX) (P : Int → NS → MM → Prop) (l1 : Int) (l2 : Int) (l3 : Int) (w : NS) (M : MM) : Prop := WA true G X (QM G X true 0 P) 7 0 [(2, 9), (2, l1), (2, l2), (0, l3), (3, 0), (3, 0), (3, 0)] [] 0 0 w M
set_option maxHeartbeats 4000000 in
set_option maxRecDepth 100000 in
theorem B_X1_areDoubles_0 {G : GP} {X : BX} {P : Int → NS → MM → Prop} {l1 : Int} {l2 : Int} {l3 : Int} {w : NS} {M : MM} (C : CX_X1_areDoubles G X) (h : (w.2 l1 = (7, 12)) ∧ ((((M l1 7) = 0) → P 0 w M) ∧ ((¬ ((M l1 7) = 0)) → (w.2 l2 = (7, 12)) ∧ ((((M l2 7) ≠ 0) → ((((M l1 7) ≤ (M l2 7)) → (inR ((M l1 7) + (M l2 7))) ∧ (inR (((M l1 7) + (M l2 7)) - (M l2 7))) ∧ (inR (l3 * (M l2 7))) ∧ (inR ((M l2 7) - (((M l1 7) + (M l2 7)) - (M l2 7)))) ∧ (inR (((M l2 7) - (((M l1 7) + (M l2 7)) - (M l2 7))) * 100)) ∧ ((((l3 * (M l2 7)) < (((M l2 7) - (((M l1 7) + (M l2 7)) - (M l2 7))) * 100)) → P 0 w M) ∧ ((¬ ((l3 * (M l2 7)) < (((M l2 7) - (((M l1 7) + (M l2 7)) - (M l2 7))) * 100))) → ∃ Q9 : Int → NS → MM → Prop, CT_X1_leastChanges G X.2.1 [(2, 9), (2, l1), (2, l2)] w M Q9 ∧ ∀ (z9 : Int) (w9 : NS) (M9 : MM), Q9 z9 w9 M9 → (inR (z9 * 100)) ∧ ((((l3 * (M l2 7)) < (z9 * 100)) → P 0 w9 M9) ∧ ((¬ ((l3 * (M l2 7)) < (z9 * 100))) → P 1 w9 M9))))) ∧ ((¬ ((M l1 7) ≤ (M l2 7))) → (inR ((M l1 7) + (M l2 7))) ∧ (inR (((M l1 7) + (M l2 7)) - (M l1 7))) ∧ (inR (l3 * (M l1 7))) ∧ (inR ((M l1 7) - (((M l1 7) + (M l2 7)) - (M l1 7)))) ∧ (inR (((M l1 7) - (((M l1 7) + (M l2 7)) - (M l1 7))) * 100)) ∧ ((((l3 * (M l1 7)) < (((M l1 7) - (((M l1 7) + (M l2 7)) - (M l1 7))) * 100)) → P 0 w M) ∧ ((¬ ((l3 * (M l1 7)) < (((M l1 7) - (((M l1 7) + (M l2 7)) - (M l1 7))) * 100))) → ∃ Q17 : Int → NS → MM → Prop, CT_X1_leastChanges G X.2.1 [(2, 9), (2, l1), (2, l2)] w M Q17 ∧ ∀ (z17 : Int) (w17 : NS) (M17 : MM), Q17 z17 w17 M17 → (inR (z17 * 100)) ∧ ((((l3 * (M l1 7)) < (z17 * 100)) → P 0 w17 M17) ∧ ((¬ ((l3 * (M l1 7)) < (z17 * 100))) → P 1 w17 M17))))))) ∧ ((¬ ((M l2 7) ≠ 0)) → P 0 w M))))) : A_X1_areDoubles_0 G X P l1 l2 l3 w M := by
  unfold A_X1_areDoubles_0
  refine s_aload_n C (d_of DX1_areDoubles 0 rfl) rfl ?_
  obtain ⟨o1, h⟩ := h
  refine gf_X1_43 (v0 := (M l1 7)) C o1 (d_of DX1_areDoubles 1 rfl) rfl ?_
  refine s_ifeq C (d_of DX1_areDoubles 2 rfl) rfl (fun hc => ?_) (fun hc => ?_)
  · have h := h.1 hc
    refine s_iconst C (d_of DX1_areDoubles 6 rfl) (by decide) ?_
    exact s_zreturn C (d_of DX1_areDoubles 7 rfl) (by decide) h
  · have h := h.2 hc
    refine s_aload_n C (d_of DX1_areDoubles 3 rfl) rfl ?_
    obtain ⟨o2, h⟩ := h
    refine gf_X1_43 (v0 := (M l2 7)) C o2 (d_of DX1_areDoubles 4 rfl) rfl ?_
    refine s_ifne C (d_of DX1_areDoubles 5 rfl) rfl (fun hc => ?_) (fun hc => ?_)
    · have h := h.1 hc
      refine s_aload_n C (d_of DX1_areDoubles 8 rfl) rfl ?_
      refine gf_X1_43 (v0 := (M l1 7)) C o1 (d_of DX1_areDoubles 9 rfl) rfl ?_
      refine s_aload_n C (d_of DX1_areDoubles 10 rfl) rfl ?_
      refine gf_X1_43 (v0 := (M l2 7)) C o2 (d_of DX1_areDoubles 11 rfl) rfl ?_
      refine s_icmple C (d_of DX1_areDoubles 12 rfl) rfl (fun hc => ?_) (fun hc => ?_)
      · have h := h.1 hc
        refine s_aload_n C (d_of DX1_areDoubles 16 rfl) rfl ?_
        refine gf_X1_43 (v0 := (M l2 7)) C o2 (d_of DX1_areDoubles 17 rfl) rfl ?_
        refine s_istore (ls' := [(2, 9), (2, l1), (2, l2), (0, l3), (0, (M l2 7)), (3, 0), (3, 0)]) C (d_of DX1_areDoubles 18 rfl) (by decide) rfl rfl ?_
        refine s_aload_n C (d_of DX1_areDoubles 19 rfl) rfl ?_
        refine gf_X1_43 (v0 := (M l1 7)) C o1 (d_of DX1_areDoubles 20 rfl) rfl ?_
        refine s_aload_n C (d_of DX1_areDoubles 21 rfl) rfl ?_
        refine gf_X1_43 (v0 := (M l2 7)) C o2 (d_of DX1_areDoubles 22 rfl) rfl ?_
        obtain ⟨o3, h⟩ := h
        refine s_iadd C (d_of DX1_areDoubles 23 rfl) o3 ?_
        refine s_iload C (d_of DX1_areDoubles 24 rfl) rfl ?_
        obtain ⟨o4, h⟩ := h
        refine s_isub C (d_of DX1_areDoubles 25 rfl) o4 ?_
        refine s_istore (ls' := [(2, 9), (2, l1), (2, l2), (0, l3), (0, (M l2 7)), (0, (((M l1 7) + (M l2 7)) - (M l2 7))), (3, 0)]) C (d_of DX1_areDoubles 26 rfl) (by decide) rfl rfl ?_
        refine s_iload_n C (d_of DX1_areDoubles 27 rfl) rfl ?_
        refine s_iload C (d_of DX1_areDoubles 28 rfl) rfl ?_
        obtain ⟨o5, h⟩ := h
        refine s_imul C (d_of DX1_areDoubles 29 rfl) o5 ?_
        refine s_istore (ls' := [(2, 9), (2, l1), (2, l2), (0, l3), (0, (M l2 7)), (0, (((M l1 7) + (M l2 7)) - (M l2 7))), (0, (l3 * (M l2 7)))]) C (d_of DX1_areDoubles 30 rfl) (by decide) rfl rfl ?_
        refine s_iload C (d_of DX1_areDoubles 31 rfl) rfl ?_
        refine s_iload C (d_of DX1_areDoubles 32 rfl) rfl ?_
        obtain ⟨o6, h⟩ := h
        refine s_isub C (d_of DX1_areDoubles 33 rfl) o6 ?_
        refine s_bipush C (d_of DX1_areDoubles 34 rfl) ⟨rfl, by decide, by decide⟩ ?_
        obtain ⟨o7, h⟩ := h
        refine s_imul C (d_of DX1_areDoubles 35 rfl) o7 ?_
        refine s_iload C (d_of DX1_areDoubles 36 rfl) rfl ?_
        refine s_icmpgt C (d_of DX1_areDoubles 37 rfl) rfl (fun hc => ?_) (fun hc => ?_)
        · have h := h.1 hc
          refine s_iconst C (d_of DX1_areDoubles 48 rfl) (by decide) ?_
          exact s_zreturn C (d_of DX1_areDoubles 49 rfl) (by decide) h
        · have h := h.2 hc
          refine s_aload_n C (d_of DX1_areDoubles 38 rfl) rfl ?_
          refine s_aload_n C (d_of DX1_areDoubles 39 rfl) rfl ?_
          refine s_aload_n C (d_of DX1_areDoubles 40 rfl) rfl ?_
          refine WA.fix (fun hF8 => ?_)
          obtain ⟨Q9, hKQ9, h⟩ := h
          refine s_callV (ci := 1) (av := [(2, l1), (2, l2)]) (rest := []) (mc := 0) (ms := 0) C (d_of DX1_areDoubles 41 rfl) lk_X1_46 (sh_9 hF8) (by decide) rfl rfl rfl (Nat.le_of_ble_eq_true rfl) (by decide) (by decide) hKQ9 (fun z9 w9 M9 hq => ?_)
          have h := h z9 w9 M9 hq
          refine s_bipush C (d_of DX1_areDoubles 42 rfl) ⟨rfl, by decide, by decide⟩ ?_
          obtain ⟨o10, h⟩ := h
          refine s_imul C (d_of DX1_areDoubles 43 rfl) o10 ?_
          refine s_iload C (d_of DX1_areDoubles 44 rfl) rfl ?_
          refine s_icmpgt C (d_of DX1_areDoubles 45 rfl) rfl (fun hc => ?_) (fun hc => ?_)
          · have h := h.1 hc
            refine s_iconst C (d_of DX1_areDoubles 48 rfl) (by decide) ?_
            exact s_zreturn C (d_of DX1_areDoubles 49 rfl) (by decide) h
          · have h := h.2 hc
            refine s_iconst C (d_of DX1_areDoubles 46 rfl) (by decide) ?_
            refine s_goto C (d_of DX1_areDoubles 47 rfl) rfl ?_
            exact s_zreturn C (d_of DX1_areDoubles 49 rfl) (by decide) h
      · have h := h.2 hc
        refine s_aload_n C (d_of DX1_areDoubles 13 rfl) rfl ?_
        refine gf_X1_43 (v0 := (M l1 7)) C o1 (d_of DX1_areDoubles 14 rfl) rfl ?_
        refine s_goto C (d_of DX1_areDoubles 15 rfl) rfl ?_
        refine s_istore (ls' := [(2, 9), (2, l1), (2, l2), (0, l3), (0, (M l1 7)), (3, 0), (3, 0)]) C (d_of DX1_areDoubles 18 rfl) (by decide) rfl rfl ?_
        refine s_aload_n C (d_of DX1_areDoubles 19 rfl) rfl ?_
        refine gf_X1_43 (v0 := (M l1 7)) C o1 (d_of DX1_areDoubles 20 rfl) rfl ?_
        refine s_aload_n C (d_of DX1_areDoubles 21 rfl) rfl ?_
        refine gf_X1_43 (v0 := (M l2 7)) C o2 (d_of DX1_areDoubles 22 rfl) rfl ?_
        obtain ⟨o11, h⟩ := h
        refine s_iadd C (d_of DX1_areDoubles 23 rfl) o11 ?_
        refine s_iload C (d_of DX1_areDoubles 24 rfl) rfl ?_
        obtain ⟨o12, h⟩ := h
        refine s_isub C (d_of DX1_areDoubles 25 rfl) o12 ?_
        refine s_istore (ls' := [(2, 9), (2, l1), (2, l2), (0, l3), (0, (M l1 7)), (0, (((M l1 7) + (M l2 7)) - (M l1 7))), (3, 0)]) C (d_of DX1_areDoubles 26 rfl) (by decide) rfl rfl ?_
        refine s_iload_n C (d_of DX1_areDoubles 27 rfl) rfl ?_
        refine s_iload C (d_of DX1_areDoubles 28 rfl) rfl ?_
        obtain ⟨o13, h⟩ := h
        refine s_imul C (d_of DX1_areDoubles 29 rfl) o13 ?_
        refine s_istore (ls' := [(2, 9), (2, l1), (2, l2), (0, l3), (0, (M l1 7)), (0, (((M l1 7) + (M l2 7)) - (M l1 7))), (0, (l3 * (M l1 7)))]) C (d_of DX1_areDoubles 30 rfl) (by decide) rfl rfl ?_
        refine s_iload C (d_of DX1_areDoubles 31 rfl) rfl ?_
        refine s_iload C (d_of DX1_areDoubles 32 rfl) rfl ?_
        obtain ⟨o14, h⟩ := h
        refine s_isub C (d_of DX1_areDoubles 33 rfl) o14 ?_
        refine s_bipush C (d_of DX1_areDoubles 34 rfl) ⟨rfl, by decide, by decide⟩ ?_
        obtain ⟨o15, h⟩ := h
        refine s_imul C (d_of DX1_areDoubles 35 rfl) o15 ?_
        refine s_iload C (d_of DX1_areDoubles 36 rfl) rfl ?_
        refine s_icmpgt C (d_of DX1_areDoubles 37 rfl) rfl (fun hc => ?_) (fun hc => ?_)
        · have h := h.1 hc
          refine s_iconst C (d_of DX1_areDoubles 48 rfl) (by decide) ?_
          exact s_zreturn C (d_of DX1_areDoubles 49 rfl) (by decide) h
        · have h := h.2 hc
          refine s_aload_n C (d_of DX1_areDoubles 38 rfl) rfl ?_
          refine s_aload_n C (d_of DX1_areDoubles 39 rfl) rfl ?_
          refine s_aload_n C (d_of DX1_areDoubles 40 rfl) rfl ?_
          refine WA.fix (fun hF16 => ?_)
          obtain ⟨Q17, hKQ17, h⟩ := h
          refine s_callV (ci := 1) (av := [(2, l1), (2, l2)]) (rest := []) (mc := 0) (ms := 0) C (d_of DX1_areDoubles 41 rfl) lk_X1_46 (sh_9 hF16) (by decide) rfl rfl rfl (Nat.le_of_ble_eq_true rfl) (by decide) (by decide) hKQ17 (fun z17 w17 M17 hq => ?_)
          have h := h z17 w17 M17 hq
          refine s_bipush C (d_of DX1_areDoubles 42 rfl) ⟨rfl, by decide, by decide⟩ ?_
          obtain ⟨o18, h⟩ := h
          refine s_imul C (d_of DX1_areDoubles 43 rfl) o18 ?_
          refine s_iload C (d_of DX1_areDoubles 44 rfl) rfl ?_
          refine s_icmpgt C (d_of DX1_areDoubles 45 rfl) rfl (fun hc => ?_) (fun hc => ?_)
          · have h := h.1 hc
            refine s_iconst C (d_of DX1_areDoubles 48 rfl) (by decide) ?_
            exact s_zreturn C (d_of DX1_areDoubles 49 rfl) (by decide) h
          · have h := h.2 hc
            refine s_iconst C (d_of DX1_areDoubles 46 rfl) (by decide) ?_
            refine s_goto C (d_of DX1_areDoubles 47 rfl) rfl ?_
            exact s_zreturn C (d_of DX1_areDoubles 49 rfl) (by decide) h
    · have h := h.2 hc
      refine s_iconst C (d_of DX1_areDoubles 6 rfl) (by decide) ?_
      exact s_zreturn C (d_of DX1_areDoubles 7 rfl) (by decide) h
theorem E_X1_areDoubles {G : GP} {l : Launch} {P : Int → NS → MM → Prop} {l1 : Int} {l2 : Int} {l3 : Int} {w : NS} {M : MM} (h : inR l3 → ∀ X : BX, X.2.1 = l → CX_X1_areDoubles G X → A_X1_areDoubles_0 G X P l1 l2 l3 w M) : CT_X1_areDoubles G l [(2, 9), (2, l1), (2, l2), (0, l3)] w M P :=
  CT.of RX1 "areDoubles" (by decide +kernel) rfl rfl rfl (Nat.le_of_ble_eq_true rfl) (fun hr X hX C => h (hr (0, l3) (by simp)) X hX C)
def A_X1_gatherOne_0 (G : GP) (X : BX) (P : Int → NS → MM → Prop) (l1 : Int) (l2 : Int) (l3 : Int) (l4 : Int) (w : NS) (M : MM) : Prop := WA true G X (QM G X true 4 P) 10 0 [(2, 9), (2, l1), (0, l2), (0, l3), (0, l4), (3, 0), (3, 0), (3, 0), (3, 0), (3, 0)] [] 0 0 w M
def A_X1_gatherOne_29 (G : GP) (X : BX) (P : Int → NS → MM → Prop) (l1 : Int) (l2 : Int) (l3 : Int) (l4 : Int) (l5 : Int) (l6 : Int) (l7 : Int) (w : NS) (M : MM) : Prop := WA true G X (QM G X true 4 P) 10 29 [(2, 9), (2, l1), (0, l2), (0, l3), (0, l4), (2, l5), (0, l6), (0, l7), (3, 0), (3, 0)] [] 0 0 w M
def A_X1_gatherOne_124 (G : GP) (X : BX) (P : Int → NS → MM → Prop) (l6 : Int) (l7 : Int) (w : NS) (M : MM) : Prop := WA true G X (QM G X true 4 P) 10 124 [(2, 9), (3, 0), (3, 0), (3, 0), (3, 0), (3, 0), (0, l6), (0, l7), (3, 0), (3, 0)] [] 0 0 w M
def A_X1_gatherOne_47 (G : GP) (X : BX) (P : Int → NS → MM → Prop) (l1 : Int) (l2 : Int) (l3 : Int) (l4 : Int) (l5 : Int) (l6 : Int) (l7 : Int) (l8 : Int) (w : NS) (M : MM) : Prop := WA true G X (QM G X true 4 P) 10 47 [(2, 9), (2, l1), (0, l2), (0, l3), (0, l4), (2, l5), (0, l6), (0, l7), (0, l8), (3, 0)] [] 0 0 w M
set_option maxHeartbeats 4000000 in
set_option maxRecDepth 100000 in
theorem B_X1_gatherOne_0 {G : GP} {X : BX} {P : Int → NS → MM → Prop} {l1 : Int} {l2 : Int} {l3 : Int} {l4 : Int} {w : NS} {M : MM} (C : CX_X1_gatherOne G X) (h : (w.2 l1 = (18, 24)) ∧ (0 ≤ l3) ∧ (l3 < 24) ∧ (w.2 (M l1 l3) = (7, 12)) ∧ A_X1_gatherOne_29 G X P l1 l2 l3 l4 (M l1 l3) 1 0 w (up (up M (M l1 l3) 8 (M (M l1 l3) 0)) 10 0 (M l1 l3))) : A_X1_gatherOne_0 G X P l1 l2 l3 l4 w M := by
  unfold A_X1_gatherOne_0
  refine s_aload_n C (d_of DX1_gatherOne 0 rfl) rfl ?_
  refine s_iload_n C (d_of DX1_gatherOne 1 rfl) rfl ?_
  obtain ⟨o1, h⟩ := h
  obtain ⟨o2, h⟩ := h
  obtain ⟨o3, h⟩ := h
  refine s_aald (v0 := (M l1 l3)) (t0 := 6) C o1 (by decide) rfl o2 o3 (d_of DX1_gatherOne 2 rfl) rfl ?_
  refine s_astore (ls' := [(2, 9), (2, l1), (0, l2), (0, l3), (0, l4), (2, (M l1 l3)), (3, 0), (3, 0), (3, 0), (3, 0)]) C (d_of DX1_gatherOne 3 rfl) (by decide) rfl rfl ?_
  refine s_aload C (d_of DX1_gatherOne 4 rfl) rfl ?_
  refine s_aload C (d_of DX1_gatherOne 5 rfl) rfl ?_
  obtain ⟨o4, h⟩ := h
  refine gf_X1_33 (v0 := (M (M l1 l3) 0)) C o4 (d_of DX1_gatherOne 6 rfl) rfl ?_
  refine pf_X1_25 C o4 (fun _ => by decide) (d_of DX1_gatherOne 7 rfl) ?_
  refine s_aload_n C (d_of DX1_gatherOne 8 rfl) rfl ?_
  refine WA.fix (fun hF5 => ?_)
  refine gf_X1_17 C (sh_9 hF5) (d_of DX1_gatherOne 9 rfl) (fx_9_1 hF5) ?_
  refine s_iconst C (d_of DX1_gatherOne 10 rfl) (by decide) ?_
  refine s_aload C (d_of DX1_gatherOne 11 rfl) rfl ?_
  refine s_aast (t0 := 6) (ci := 6) C (sh_10 hF5) (by decide) rfl rfl (by decide) o4 (by decide) (by decide) (fun _ => by decide) (d_of DX1_gatherOne 12 rfl) ?_
  refine s_iconst C (d_of DX1_gatherOne 13 rfl) (by decide) ?_
  refine s_istore (ls' := [(2, 9), (2, l1), (0, l2), (0, l3), (0, l4), (2, (M l1 l3)), (0, 1), (3, 0), (3, 0), (3, 0)]) C (d_of DX1_gatherOne 14 rfl) (by decide) rfl rfl ?_
  refine s_iconst C (d_of DX1_gatherOne 15 rfl) (by decide) ?_
  refine s_istore (ls' := [(2, 9), (2, l1), (0, l2), (0, l3), (0, l4), (2, (M l1 l3)), (0, 1), (0, 0), (3, 0), (3, 0)]) C (d_of DX1_gatherOne 16 rfl) (by decide) rfl rfl ?_
  exact h
set_option maxHeartbeats 4000000 in
set_option maxRecDepth 100000 in
theorem B_X1_gatherOne_29 {G : GP} {X : BX} {P : Int → NS → MM → Prop} {l1 : Int} {l2 : Int} {l3 : Int} {l4 : Int} {l5 : Int} {l6 : Int} {l7 : Int} {w : NS} {M : MM} (C : CX_X1_gatherOne G X) (h : (((l6 ≤ l7) → A_X1_gatherOne_124 G X P l6 0 w M) ∧ ((¬ (l6 ≤ l7)) → (((l2 ≤ l7) → A_X1_gatherOne_124 G X P l6 0 w M) ∧ ((¬ (l2 ≤ l7)) → (inR (l3 + 1)) ∧ A_X1_gatherOne_47 G X P l1 l2 l3 l4 l5 l6 l7 (l3 + 1) w M))))) : A_X1_gatherOne_29 G X P l1 l2 l3 l4 l5 l6 l7 w M := by
  unfold A_X1_gatherOne_29
  refine s_iload C (d_of DX1_gatherOne 17 rfl) rfl ?_
  refine s_iload C (d_of DX1_gatherOne 18 rfl) rfl ?_
  refine s_icmpge C (d_of DX1_gatherOne 19 rfl) rfl (fun hc => ?_) (fun hc => ?_)
  · have h := h.1 hc
    refine s_iconst C (d_of DX1_gatherOne 61 rfl) (by decide) ?_
    refine s_istore (ls' := [(2, 9), (2, l1), (0, l2), (0, l3), (0, l4), (2, l5), (0, l6), (0, 0), (3, 0), (3, 0)]) C (d_of DX1_gatherOne 62 rfl) (by decide) rfl rfl ?_
    exact WA.wk h ⟨Or.inr rfl, Or.inl rfl, Or.inl rfl, Or.inl rfl, Or.inl rfl, Or.inl rfl, Or.inr rfl, Or.inr rfl, Or.inl rfl, Or.inl rfl, trivial⟩
  · have h := h.2 hc
    refine s_iload C (d_of DX1_gatherOne 20 rfl) rfl ?_
    refine s_iload_n C (d_of DX1_gatherOne 21 rfl) rfl ?_
    refine s_icmpge C (d_of DX1_gatherOne 22 rfl) rfl (fun hc => ?_) (fun hc => ?_)
    · have h := h.1 hc
      refine s_iconst C (d_of DX1_gatherOne 61 rfl) (by decide) ?_
      refine s_istore (ls' := [(2, 9), (2, l1), (0, l2), (0, l3), (0, l4), (2, l5), (0, l6), (0, 0), (3, 0), (3, 0)]) C (d_of DX1_gatherOne 62 rfl) (by decide) rfl rfl ?_
      exact WA.wk h ⟨Or.inr rfl, Or.inl rfl, Or.inl rfl, Or.inl rfl, Or.inl rfl, Or.inl rfl, Or.inr rfl, Or.inr rfl, Or.inl rfl, Or.inl rfl, trivial⟩
    · have h := h.2 hc
      refine s_iload_n C (d_of DX1_gatherOne 23 rfl) rfl ?_
      refine s_iconst C (d_of DX1_gatherOne 24 rfl) (by decide) ?_
      obtain ⟨o1, h⟩ := h
      refine s_iadd C (d_of DX1_gatherOne 25 rfl) o1 ?_
      refine s_istore (ls' := [(2, 9), (2, l1), (0, l2), (0, l3), (0, l4), (2, l5), (0, l6), (0, l7), (0, (l3 + 1)), (3, 0)]) C (d_of DX1_gatherOne 26 rfl) (by decide) rfl rfl ?_
      exact h
set_option maxHeartbeats 4000000 in
set_option maxRecDepth 100000 in
theorem B_X1_gatherOne_124 {G : GP} {X : BX} {P : Int → NS → MM → Prop} {l6 : Int} {l7 : Int} {w : NS} {M : MM} (C : CX_X1_gatherOne G X) (h : (((l6 ≤ l7) → P 0 w M) ∧ ((¬ (l6 ≤ l7)) → (0 ≤ l7) ∧ (l7 < 24) ∧ (w.2 (M 10 l7) = (7, 12)) ∧ (inR (l7 + 1)) ∧ A_X1_gatherOne_124 G X P l6 (l7 + 1) w (up M (M 10 l7) 9 l6)))) : A_X1_gatherOne_124 G X P l6 l7 w M := by
  unfold A_X1_gatherOne_124
  refine s_iload C (d_of DX1_gatherOne 63 rfl) rfl ?_
  refine s_iload C (d_of DX1_gatherOne 64 rfl) rfl ?_
  refine s_icmpge C (d_of DX1_gatherOne 65 rfl) rfl (fun hc => ?_) (fun hc => ?_)
  · have h := h.1 hc
    exact s_vreturn C (d_of DX1_gatherOne 74 rfl) h
  · have h := h.2 hc
    refine s_aload_n C (d_of DX1_gatherOne 66 rfl) rfl ?_
    refine WA.fix (fun hF1 => ?_)
    refine gf_X1_17 C (sh_9 hF1) (d_of DX1_gatherOne 67 rfl) (fx_9_1 hF1) ?_
    refine s_iload C (d_of DX1_gatherOne 68 rfl) rfl ?_
    obtain ⟨o2, h⟩ := h
    obtain ⟨o3, h⟩ := h
    refine s_aald (v0 := (M 10 l7)) (t0 := 6) C (sh_10 hF1) (by decide) rfl o2 o3 (d_of DX1_gatherOne 69 rfl) rfl ?_
    refine s_iload C (d_of DX1_gatherOne 70 rfl) rfl ?_
    obtain ⟨o4, h⟩ := h
    refine pf_X1_40 C o4 (fun _ => by decide) (d_of DX1_gatherOne 71 rfl) ?_
    obtain ⟨o5, h⟩ := h
    refine s_iinc (ls' := [(2, 9), (3, 0), (3, 0), (3, 0), (3, 0), (3, 0), (0, l6), (0, (l7 + 1)), (3, 0), (3, 0)]) C (d_of DX1_gatherOne 72 rfl) (by decide) rfl o5 rfl rfl ?_
    refine s_goto C (d_of DX1_gatherOne 73 rfl) rfl ?_
    exact h
set_option maxHeartbeats 4000000 in
set_option maxRecDepth 100000 in
theorem B_X1_gatherOne_47 {G : GP} {X : BX} {P : Int → NS → MM → Prop} {l1 : Int} {l2 : Int} {l3 : Int} {l4 : Int} {l5 : Int} {l6 : Int} {l7 : Int} {l8 : Int} {w : NS} {M : MM} (C : CX_X1_gatherOne G X) (h : (((l2 ≤ l8) → (inR (l7 + 1)) ∧ A_X1_gatherOne_29 G X P l1 l2 l3 l4 l5 l6 (l7 + 1) w M) ∧ ((¬ (l2 ≤ l8)) → (w.2 l1 = (18, 24)) ∧ (0 ≤ l8) ∧ (l8 < 24) ∧ (w.2 (M l1 l8) = (7, 12)) ∧ ((((M (M l1 l8) 8) ≠ (-6)) → (inR (l8 + 1)) ∧ A_X1_gatherOne_47 G X P l1 l2 l3 l4 l5 l6 l7 (l8 + 1) w M) ∧ ((¬ ((M (M l1 l8) 8) ≠ (-6))) → (0 ≤ l7) ∧ (l7 < 24) ∧ ∃ Q10 : Int → NS → MM → Prop, CT_X1_areDoubles G X.2.1 [(2, 9), (2, (M 10 l7)), (2, (M l1 l8)), (0, l4)] w M Q10 ∧ ∀ (z10 : Int) (w10 : NS) (M10 : MM), Q10 z10 w10 M10 → (((z10 = 0) → (inR (l8 + 1)) ∧ A_X1_gatherOne_47 G X P l1 l2 l3 l4 l5 l6 l7 (l8 + 1) w10 M10) ∧ ((¬ (z10 = 0)) → (w10.2 l5 = (7, 12)) ∧ (w10.2 (M l1 l8) = (7, 12)) ∧ (0 ≤ l6) ∧ (l6 < 24) ∧ (inR (l6 + 1)) ∧ (inR (l8 + 1)) ∧ A_X1_gatherOne_47 G X P l1 l2 l3 l4 l5 (l6 + 1) l7 (l8 + 1) w10 (up (up M10 (M l1 l8) 8 (M10 l5 0)) 10 l6 (M l1 l8))))))))) : A_X1_gatherOne_47 G X P l1 l2 l3 l4 l5 l6 l7 l8 w M := by
  unfold A_X1_gatherOne_47
  refine s_iload C (d_of DX1_gatherOne 27 rfl) rfl ?_
  refine s_iload_n C (d_of DX1_gatherOne 28 rfl) rfl ?_
  refine s_icmpge C (d_of DX1_gatherOne 29 rfl) rfl (fun hc => ?_) (fun hc => ?_)
  · have h := h.1 hc
    obtain ⟨o1, h⟩ := h
    refine s_iinc (ls' := [(2, 9), (2, l1), (0, l2), (0, l3), (0, l4), (2, l5), (0, l6), (0, (l7 + 1)), (0, l8), (3, 0)]) C (d_of DX1_gatherOne 59 rfl) (by decide) rfl o1 rfl rfl ?_
    refine s_goto C (d_of DX1_gatherOne 60 rfl) rfl ?_
    exact WA.wk h ⟨Or.inr rfl, Or.inr rfl, Or.inr rfl, Or.inr rfl, Or.inr rfl, Or.inr rfl, Or.inr rfl, Or.inr rfl, Or.inl rfl, Or.inl rfl, trivial⟩
  · have h := h.2 hc
    refine s_aload_n C (d_of DX1_gatherOne 30 rfl) rfl ?_
    refine s_iload C (d_of DX1_gatherOne 31 rfl) rfl ?_
    obtain ⟨o2, h⟩ := h
    obtain ⟨o3, h⟩ := h
    obtain ⟨o4, h⟩ := h
    refine s_aald (v0 := (M l1 l8)) (t0 := 6) C o2 (by decide) rfl o3 o4 (d_of DX1_gatherOne 32 rfl) rfl ?_
    refine s_astore (ls' := [(2, 9), (2, l1), (0, l2), (0, l3), (0, l4), (2, l5), (0, l6), (0, l7), (0, l8), (2, (M l1 l8))]) C (d_of DX1_gatherOne 33 rfl) (by decide) rfl rfl ?_
    refine s_aload C (d_of DX1_gatherOne 34 rfl) rfl ?_
    obtain ⟨o5, h⟩ := h
    refine gf_X1_25 (v0 := (M (M l1 l8) 8)) C o5 (d_of DX1_gatherOne 35 rfl) rfl ?_
    refine s_bipush C (d_of DX1_gatherOne 36 rfl) ⟨rfl, by decide, by decide⟩ ?_
    refine s_icmpne C (d_of DX1_gatherOne 37 rfl) rfl (fun hc => ?_) (fun hc => ?_)
    · have h := h.1 hc
      obtain ⟨o6, h⟩ := h
      refine s_iinc (ls' := [(2, 9), (2, l1), (0, l2), (0, l3), (0, l4), (2, l5), (0, l6), (0, l7), (0, (l8 + 1)), (2, (M l1 l8))]) C (d_of DX1_gatherOne 57 rfl) (by decide) rfl o6 rfl rfl ?_
      refine s_goto C (d_of DX1_gatherOne 58 rfl) rfl ?_
      exact WA.wk h ⟨Or.inr rfl, Or.inr rfl, Or.inr rfl, Or.inr rfl, Or.inr rfl, Or.inr rfl, Or.inr rfl, Or.inr rfl, Or.inr rfl, Or.inl rfl, trivial⟩
    · have h := h.2 hc
      refine s_aload_n C (d_of DX1_gatherOne 38 rfl) rfl ?_
      refine s_aload_n C (d_of DX1_gatherOne 39 rfl) rfl ?_
      refine WA.fix (fun hF7 => ?_)
      refine gf_X1_17 C (sh_9 hF7) (d_of DX1_gatherOne 40 rfl) (fx_9_1 hF7) ?_
      refine s_iload C (d_of DX1_gatherOne 41 rfl) rfl ?_
      obtain ⟨o8, h⟩ := h
      obtain ⟨o9, h⟩ := h
      refine s_aald (v0 := (M 10 l7)) (t0 := 6) C (sh_10 hF7) (by decide) rfl o8 o9 (d_of DX1_gatherOne 42 rfl) rfl ?_
      refine s_aload C (d_of DX1_gatherOne 43 rfl) rfl ?_
      refine s_iload C (d_of DX1_gatherOne 44 rfl) rfl ?_
      obtain ⟨Q10, hKQ10, h⟩ := h
      refine s_callV (ci := 1) (av := [(2, (M 10 l7)), (2, (M l1 l8)), (0, l4)]) (rest := []) (mc := 0) (ms := 0) C (d_of DX1_gatherOne 45 rfl) lk_X1_36 (sh_9 hF7) (by decide) rfl rfl rfl (Nat.le_of_ble_eq_true rfl) (by decide) (by decide) hKQ10 (fun z10 w10 M10 hq => ?_)
      have h := h z10 w10 M10 hq
      refine s_ifeq C (d_of DX1_gatherOne 46 rfl) rfl (fun hc => ?_) (fun hc => ?_)
      · have h := h.1 hc
        obtain ⟨o11, h⟩ := h
        refine s_iinc (ls' := [(2, 9), (2, l1), (0, l2), (0, l3), (0, l4), (2, l5), (0, l6), (0, l7), (0, (l8 + 1)), (2, (M l1 l8))]) C (d_of DX1_gatherOne 57 rfl) (by decide) rfl o11 rfl rfl ?_
        refine s_goto C (d_of DX1_gatherOne 58 rfl) rfl ?_
        exact WA.wk h ⟨Or.inr rfl, Or.inr rfl, Or.inr rfl, Or.inr rfl, Or.inr rfl, Or.inr rfl, Or.inr rfl, Or.inr rfl, Or.inr rfl, Or.inl rfl, trivial⟩
      · have h := h.2 hc
        refine s_aload C (d_of DX1_gatherOne 47 rfl) rfl ?_
        refine s_aload C (d_of DX1_gatherOne 48 rfl) rfl ?_
        obtain ⟨o12, h⟩ := h
        refine gf_X1_33 (v0 := (M10 l5 0)) C o12 (d_of DX1_gatherOne 49 rfl) rfl ?_
        obtain ⟨o13, h⟩ := h
        refine pf_X1_25 C o13 (fun _ => by decide) (d_of DX1_gatherOne 50 rfl) ?_
        refine s_aload_n C (d_of DX1_gatherOne 51 rfl) rfl ?_
        refine WA.fix (fun hF14 => ?_)
        refine gf_X1_17 C (sh_9 hF14) (d_of DX1_gatherOne 52 rfl) (fx_9_1 hF14) ?_
        refine s_iload C (d_of DX1_gatherOne 53 rfl) rfl ?_
        refine s_aload C (d_of DX1_gatherOne 54 rfl) rfl ?_
        obtain ⟨o15, h⟩ := h
        obtain ⟨o16, h⟩ := h
        refine s_aast (t0 := 6) (ci := 6) C (sh_10 hF14) (by decide) rfl rfl (by decide) o13 o15 o16 (fun _ => by decide) (d_of DX1_gatherOne 55 rfl) ?_
        obtain ⟨o17, h⟩ := h
        refine s_iinc (ls' := [(2, 9), (2, l1), (0, l2), (0, l3), (0, l4), (2, l5), (0, (l6 + 1)), (0, l7), (0, l8), (2, (M l1 l8))]) C (d_of DX1_gatherOne 56 rfl) (by decide) rfl o17 rfl rfl ?_
        obtain ⟨o18, h⟩ := h
        refine s_iinc (ls' := [(2, 9), (2, l1), (0, l2), (0, l3), (0, l4), (2, l5), (0, (l6 + 1)), (0, l7), (0, (l8 + 1)), (2, (M l1 l8))]) C (d_of DX1_gatherOne 57 rfl) (by decide) rfl o18 rfl rfl ?_
        refine s_goto C (d_of DX1_gatherOne 58 rfl) rfl ?_
        exact WA.wk h ⟨Or.inr rfl, Or.inr rfl, Or.inr rfl, Or.inr rfl, Or.inr rfl, Or.inr rfl, Or.inr rfl, Or.inr rfl, Or.inr rfl, Or.inl rfl, trivial⟩
theorem E_X1_gatherOne {G : GP} {l : Launch} {P : Int → NS → MM → Prop} {l1 : Int} {l2 : Int} {l3 : Int} {l4 : Int} {w : NS} {M : MM} (h : inR l2 → inR l3 → inR l4 → ∀ X : BX, X.2.1 = l → CX_X1_gatherOne G X → A_X1_gatherOne_0 G X P l1 l2 l3 l4 w M) : CT_X1_gatherOne G l [(2, 9), (2, l1), (0, l2), (0, l3), (0, l4)] w M P :=
  CT.of RX1 "gatherOne" (by decide +kernel) rfl rfl rfl (Nat.le_of_ble_eq_true rfl) (fun hr X hX C => h (hr (0, l2) (by simp)) (hr (0, l3) (by simp)) (hr (0, l4) (by simp)) X hX C)
def A_X1_gather_0 (G : GP) (X : BX) (P : Int → NS → MM → Prop) (l1 : Int) (l2 : Int) (l3 : Int) (w : NS) (M : MM) : Prop := WA true G X (QM G X true 4 P) 5 0 [(2, 9), (2, l1), (0, l2), (0, l3), (3, 0)] [] 0 0 w M
def A_X1_gather_11 (G : GP) (X : BX) (P : Int → NS → MM → Prop) (l1 : Int) (l2 : Int) (l3 : Int) (l4 : Int) (w : NS) (M : MM) : Prop := WA true G X (QM G X true 4 P) 5 11 [(2, 9), (2, l1), (0, l2), (0, l3), (0, l4)] [] 0 0 w M
def A_X1_gather_35 (G : GP) (X : BX) (P : Int → NS → MM → Prop) (l1 : Int) (l2 : Int) (l3 : Int) (l4 : Int) (w : NS) (M : MM) : Prop := WA true G X (QM G X true 4 P) 5 35 [(2, 9), (2, l1), (0, l2), (0, l3), (0, l4)] [] 0 0 w M
set_option maxHeartbeats 4000000 in
set_option maxRecDepth 100000 in
theorem B_X1_gather_0 {G : GP} {X : BX} {P : Int → NS → MM → Prop} {l1 : Int} {l2 : Int} {l3 : Int} {w : NS} {M : MM} (C : CX_X1_gather G X) (h : ((((M 9 0) = 0) → A_X1_gather_11 G X P l1 l2 l3 0 w M) ∧ ((¬ ((M 9 0) = 0)) → P 0 w M))) : A_X1_gather_0 G X P l1 l2 l3 w M := by
  unfold A_X1_gather_0
  refine s_aload_n C (d_of DX1_gather 0 rfl) rfl ?_
  refine WA.fix (fun hF1 => ?_)
  refine gf_X1_9 (v0 := (M 9 0)) C (sh_9 hF1) (d_of DX1_gather 1 rfl) rfl ?_
  refine s_ifeq C (d_of DX1_gather 2 rfl) rfl (fun hc => ?_) (fun hc => ?_)
  · have h := h.1 hc
    refine s_iconst C (d_of DX1_gather 4 rfl) (by decide) ?_
    refine s_istore (ls' := [(2, 9), (2, l1), (0, l2), (0, l3), (0, 0)]) C (d_of DX1_gather 5 rfl) (by decide) rfl rfl ?_
    exact h
  · have h := h.2 hc
    exact s_vreturn C (d_of DX1_gather 3 rfl) h
set_option maxHeartbeats 4000000 in
set_option maxRecDepth 100000 in
theorem B_X1_gather_11 {G : GP} {X : BX} {P : Int → NS → MM → Prop} {l1 : Int} {l2 : Int} {l3 : Int} {l4 : Int} {w : NS} {M : MM} (C : CX_X1_gather G X) (h : (((l2 ≤ l4) → A_X1_gather_35 G X P l1 l2 l3 0 w M) ∧ ((¬ (l2 ≤ l4)) → (w.2 l1 = (18, 24)) ∧ (0 ≤ l4) ∧ (l4 < 24) ∧ (w.2 (M l1 l4) = (7, 12)) ∧ (inR (l4 + 1)) ∧ A_X1_gather_11 G X P l1 l2 l3 (l4 + 1) w (up M (M l1 l4) 8 (-6))))) : A_X1_gather_11 G X P l1 l2 l3 l4 w M := by
  unfold A_X1_gather_11
  refine s_iload C (d_of DX1_gather 6 rfl) rfl ?_
  refine s_iload_n C (d_of DX1_gather 7 rfl) rfl ?_
  refine s_icmpge C (d_of DX1_gather 8 rfl) rfl (fun hc => ?_) (fun hc => ?_)
  · have h := h.1 hc
    refine s_iconst C (d_of DX1_gather 16 rfl) (by decide) ?_
    refine s_istore (ls' := [(2, 9), (2, l1), (0, l2), (0, l3), (0, 0)]) C (d_of DX1_gather 17 rfl) (by decide) rfl rfl ?_
    exact h
  · have h := h.2 hc
    refine s_aload_n C (d_of DX1_gather 9 rfl) rfl ?_
    refine s_iload C (d_of DX1_gather 10 rfl) rfl ?_
    obtain ⟨o1, h⟩ := h
    obtain ⟨o2, h⟩ := h
    obtain ⟨o3, h⟩ := h
    refine s_aald (v0 := (M l1 l4)) (t0 := 6) C o1 (by decide) rfl o2 o3 (d_of DX1_gather 11 rfl) rfl ?_
    refine s_bipush C (d_of DX1_gather 12 rfl) ⟨rfl, by decide, by decide⟩ ?_
    obtain ⟨o4, h⟩ := h
    refine pf_X1_25 C o4 (fun _ => by decide) (d_of DX1_gather 13 rfl) ?_
    obtain ⟨o5, h⟩ := h
    refine s_iinc (ls' := [(2, 9), (2, l1), (0, l2), (0, l3), (0, (l4 + 1))]) C (d_of DX1_gather 14 rfl) (by decide) rfl o5 rfl rfl ?_
    refine s_goto C (d_of DX1_gather 15 rfl) rfl ?_
    exact h
set_option maxHeartbeats 4000000 in
set_option maxRecDepth 100000 in
theorem B_X1_gather_35 {G : GP} {X : BX} {P : Int → NS → MM → Prop} {l1 : Int} {l2 : Int} {l3 : Int} {l4 : Int} {w : NS} {M : MM} (C : CX_X1_gather G X) (h : (((l2 ≤ l4) → P 0 w (up M 9 0 1)) ∧ ((¬ (l2 ≤ l4)) → (w.2 l1 = (18, 24)) ∧ (0 ≤ l4) ∧ (l4 < 24) ∧ (w.2 (M l1 l4) = (7, 12)) ∧ ((((M (M l1 l4) 8) ≠ (-6)) → (inR (l4 + 1)) ∧ A_X1_gather_35 G X P l1 l2 l3 (l4 + 1) w M) ∧ ((¬ ((M (M l1 l4) 8) ≠ (-6))) → ∃ Q8 : Int → NS → MM → Prop, CT_X1_gatherOne G X.2.1 [(2, 9), (2, l1), (0, l2), (0, l4), (0, l3)] w M Q8 ∧ ∀ (z8 : Int) (w8 : NS) (M8 : MM), Q8 z8 w8 M8 → (inR (l4 + 1)) ∧ A_X1_gather_35 G X P l1 l2 l3 (l4 + 1) w8 M8))))) : A_X1_gather_35 G X P l1 l2 l3 l4 w M := by
  unfold A_X1_gather_35
  refine s_iload C (d_of DX1_gather 18 rfl) rfl ?_
  refine s_iload_n C (d_of DX1_gather 19 rfl) rfl ?_
  refine s_icmpge C (d_of DX1_gather 20 rfl) rfl (fun hc => ?_) (fun hc => ?_)
  · have h := h.1 hc
    refine s_aload_n C (d_of DX1_gather 35 rfl) rfl ?_
    refine s_iconst C (d_of DX1_gather 36 rfl) (by decide) ?_
    refine WA.fix (fun hF1 => ?_)
    refine pf_X1_9 C (sh_9 hF1) (by decide) (fun _ => by decide) (d_of DX1_gather 37 rfl) ?_
    exact s_vreturn C (d_of DX1_gather 38 rfl) h
  · have h := h.2 hc
    refine s_aload_n C (d_of DX1_gather 21 rfl) rfl ?_
    refine s_iload C (d_of DX1_gather 22 rfl) rfl ?_
    obtain ⟨o2, h⟩ := h
    obtain ⟨o3, h⟩ := h
    obtain ⟨o4, h⟩ := h
    refine s_aald (v0 := (M l1 l4)) (t0 := 6) C o2 (by decide) rfl o3 o4 (d_of DX1_gather 23 rfl) rfl ?_
    obtain ⟨o5, h⟩ := h
    refine gf_X1_25 (v0 := (M (M l1 l4) 8)) C o5 (d_of DX1_gather 24 rfl) rfl ?_
    refine s_bipush C (d_of DX1_gather 25 rfl) ⟨rfl, by decide, by decide⟩ ?_
    refine s_icmpne C (d_of DX1_gather 26 rfl) rfl (fun hc => ?_) (fun hc => ?_)
    · have h := h.1 hc
      obtain ⟨o6, h⟩ := h
      refine s_iinc (ls' := [(2, 9), (2, l1), (0, l2), (0, l3), (0, (l4 + 1))]) C (d_of DX1_gather 33 rfl) (by decide) rfl o6 rfl rfl ?_
      refine s_goto C (d_of DX1_gather 34 rfl) rfl ?_
      exact h
    · have h := h.2 hc
      refine s_aload_n C (d_of DX1_gather 27 rfl) rfl ?_
      refine s_aload_n C (d_of DX1_gather 28 rfl) rfl ?_
      refine s_iload_n C (d_of DX1_gather 29 rfl) rfl ?_
      refine s_iload C (d_of DX1_gather 30 rfl) rfl ?_
      refine s_iload_n C (d_of DX1_gather 31 rfl) rfl ?_
      refine WA.fix (fun hF7 => ?_)
      obtain ⟨Q8, hKQ8, h⟩ := h
      refine s_callV (ci := 1) (av := [(2, l1), (0, l2), (0, l4), (0, l3)]) (rest := []) (mc := 0) (ms := 0) C (d_of DX1_gather 32 rfl) lk_X1_29 (sh_9 hF7) (by decide) rfl rfl rfl (Nat.le_of_ble_eq_true rfl) (by decide) (by decide) hKQ8 (fun z8 w8 M8 hq => ?_)
      have h := h z8 w8 M8 hq
      obtain ⟨o9, h⟩ := h
      refine s_iinc (ls' := [(2, 9), (2, l1), (0, l2), (0, l3), (0, (l4 + 1))]) C (d_of DX1_gather 33 rfl) (by decide) rfl o9 rfl rfl ?_
      refine s_goto C (d_of DX1_gather 34 rfl) rfl ?_
      exact h
theorem E_X1_gather {G : GP} {l : Launch} {P : Int → NS → MM → Prop} {l1 : Int} {l2 : Int} {l3 : Int} {w : NS} {M : MM} (h : inR l2 → inR l3 → ∀ X : BX, X.2.1 = l → CX_X1_gather G X → A_X1_gather_0 G X P l1 l2 l3 w M) : CT_X1_gather G l [(2, 9), (2, l1), (0, l2), (0, l3)] w M P :=
  CT.of RX1 "gather" (by decide +kernel) rfl rfl rfl (Nat.le_of_ble_eq_true rfl) (fun hr X hX C => h (hr (0, l2) (by simp)) (hr (0, l3) (by simp)) X hX C)
def A_X9_about_0 (G : GP) (X : BX) (P : Int → NS → MM → Prop) (l1 : Int) (l2 : Int) (w : NS) (M : MM) : Prop := WA true G X (QM G X true 0 P) 4 0 [(2, 1), (0, l1), (0, l2), (3, 0)] [] 0 0 w M
set_option maxHeartbeats 4000000 in
set_option maxRecDepth 100000 in
theorem B_X9_about_0 {G : GP} {X : BX} {P : Int → NS → MM → Prop} {l1 : Int} {l2 : Int} {w : NS} {M : MM} (C : CX_X9_about G X) (h : (0 ≤ M 1 4) ∧ (M 1 4 ≤ 24) ∧ ((((pcO M l1) ≠ 0) → (((l2 = 4) → ∃ Q5 : Int → NS → MM → Prop, CT_X1_gather G X.2.1 [(2, 9), (2, 5), (0, (M 1 4)), (0, (M 2 0))] w M Q5 ∧ ∀ (z5 : Int) (w5 : NS) (M5 : MM), Q5 z5 w5 M5 → (((l2 < 0 ∨ 5 < l2) → P (-2) w5 M5) ∧ (l2 = 0 → (w5.2 (pcO M l1) = (7, 12)) ∧ (w5.2 (M5 (pcO M l1) 1) = (5, 5)) ∧ P (M5 (M5 (pcO M l1) 1) 0) w5 M5) ∧ (l2 = 1 → (w5.2 (pcO M l1) = (7, 12)) ∧ P (M5 (pcO M l1) 7) w5 M5) ∧ (l2 = 2 → (w5.2 (pcO M l1) = (7, 12)) ∧ P (M5 (pcO M l1) 10) w5 M5) ∧ (l2 = 3 → (w5.2 (pcO M l1) = (7, 12)) ∧ P (M5 (pcO M l1) 11) w5 M5) ∧ (l2 = 4 → (w5.2 (pcO M l1) = (7, 12)) ∧ P (M5 (pcO M l1) 8) w5 M5) ∧ (l2 = 5 → (w5.2 (pcO M l1) = (7, 12)) ∧ P (M5 (pcO M l1) 9) w5 M5))) ∧ ((¬ (l2 = 4)) → (((l2 ≠ 5) → (((l2 < 0 ∨ 5 < l2) → P (-2) w M) ∧ (l2 = 0 → (w.2 (pcO M l1) = (7, 12)) ∧ (w.2 (M (pcO M l1) 1) = (5, 5)) ∧ P (M (M (pcO M l1) 1) 0) w M) ∧ (l2 = 1 → (w.2 (pcO M l1) = (7, 12)) ∧ P (M (pcO M l1) 7) w M) ∧ (l2 = 2 → (w.2 (pcO M l1) = (7, 12)) ∧ P (M (pcO M l1) 10) w M) ∧ (l2 = 3 → (w.2 (pcO M l1) = (7, 12)) ∧ P (M (pcO M l1) 11) w M) ∧ (l2 = 4 → (w.2 (pcO M l1) = (7, 12)) ∧ P (M (pcO M l1) 8) w M) ∧ (l2 = 5 → (w.2 (pcO M l1) = (7, 12)) ∧ P (M (pcO M l1) 9) w M))) ∧ ((¬ (l2 ≠ 5)) → ∃ Q20 : Int → NS → MM → Prop, CT_X1_gather G X.2.1 [(2, 9), (2, 5), (0, (M 1 4)), (0, (M 2 0))] w M Q20 ∧ ∀ (z20 : Int) (w20 : NS) (M20 : MM), Q20 z20 w20 M20 → (((l2 < 0 ∨ 5 < l2) → P (-2) w20 M20) ∧ (l2 = 0 → (w20.2 (pcO M l1) = (7, 12)) ∧ (w20.2 (M20 (pcO M l1) 1) = (5, 5)) ∧ P (M20 (M20 (pcO M l1) 1) 0) w20 M20) ∧ (l2 = 1 → (w20.2 (pcO M l1) = (7, 12)) ∧ P (M20 (pcO M l1) 7) w20 M20) ∧ (l2 = 2 → (w20.2 (pcO M l1) = (7, 12)) ∧ P (M20 (pcO M l1) 10) w20 M20) ∧ (l2 = 3 → (w20.2 (pcO M l1) = (7, 12)) ∧ P (M20 (pcO M l1) 11) w20 M20) ∧ (l2 = 4 → (w20.2 (pcO M l1) = (7, 12)) ∧ P (M20 (pcO M l1) 8) w20 M20) ∧ (l2 = 5 → (w20.2 (pcO M l1) = (7, 12)) ∧ P (M20 (pcO M l1) 9) w20 M20))))))) ∧ ((¬ ((pcO M l1) ≠ 0)) → P (-1) w M))) : A_X9_about_0 G X P l1 l2 w M := by
  unfold A_X9_about_0
  refine s_aload_n C (d_of DX9_about 0 rfl) rfl ?_
  refine s_iload_n C (d_of DX9_about 1 rfl) rfl ?_
  refine WA.fix (fun hF1 => ?_)
  obtain ⟨o2, h⟩ := h
  obtain ⟨o3, h⟩ := h
  refine s_callV (ci := 9) (av := [(0, l1)]) (rest := []) (mc := 0) (ms := 0) C (d_of DX9_about 2 rfl) lk_X9_158 (sh_1 hF1) (by decide) rfl rfl rfl (Nat.le_of_ble_eq_true rfl) (by decide) (by decide) (pc_X9_pieceOf o2 o3) (fun z4 wz4 Mz4 hq => ?_)
  obtain ⟨hq1, hq2, hq3⟩ := hq
  have hq2 := hq2.symm
  have hq3 := hq3.symm
  subst hq1 hq2 hq3
  refine s_astore_n (ls' := [(2, 1), (0, l1), (0, l2), (2, (pcO M l1))]) C (d_of DX9_about 3 rfl) (by decide) rfl rfl ?_
  refine s_aload_n C (d_of DX9_about 4 rfl) rfl ?_
  refine s_ifnonnull C (d_of DX9_about 5 rfl) rfl (fun hc => ?_) (fun hc => ?_)
  · have h := h.1 hc
    refine s_iload_n C (d_of DX9_about 8 rfl) rfl ?_
    refine s_iconst C (d_of DX9_about 9 rfl) (by decide) ?_
    refine s_icmpeq C (d_of DX9_about 10 rfl) rfl (fun hc => ?_) (fun hc => ?_)
    · have h := h.1 hc
      refine s_aload_n C (d_of DX9_about 14 rfl) rfl ?_
      refine gf_X9_54 C (sh_1 hF1) (d_of DX9_about 15 rfl) (fx_1_9 hF1) ?_
      refine s_aload_n C (d_of DX9_about 16 rfl) rfl ?_
      refine gf_X9_32 C (sh_1 hF1) (d_of DX9_about 17 rfl) (fx_1_5 hF1) ?_
      refine s_aload_n C (d_of DX9_about 18 rfl) rfl ?_
      refine gf_X9_29 (v0 := (M 1 4)) C (sh_1 hF1) (d_of DX9_about 19 rfl) rfl ?_
      refine s_aload_n C (d_of DX9_about 20 rfl) rfl ?_
      refine gf_X9_7 C (sh_1 hF1) (d_of DX9_about 21 rfl) (fx_1_0 hF1) ?_
      refine s_iconst C (d_of DX9_about 22 rfl) (by decide) ?_
      refine s_iald (v0 := (M 2 0)) C (sh_2 hF1) (by decide) (by decide) (d_of DX9_about 23 rfl) rfl ?_
      obtain ⟨Q5, hKQ5, h⟩ := h
      refine s_callV (ci := 1) (av := [(2, 5), (0, (M 1 4)), (0, (M 2 0))]) (rest := []) (mc := 0) (ms := 0) C (d_of DX9_about 24 rfl) lk_X9_162 (sh_9 hF1) (by decide) rfl rfl rfl (Nat.le_of_ble_eq_true rfl) (by decide) (by decide) hKQ5 (fun z5 w5 M5 hq => ?_)
      have h := h z5 w5 M5 hq
      refine s_iload_n C (d_of DX9_about 25 rfl) rfl ?_
      rcases (show (l2 < 0 ∨ 5 < l2) ∨ l2 = 0 ∨ l2 = 1 ∨ l2 = 2 ∨ l2 = 3 ∨ l2 = 4 ∨ l2 = 5 from by omega) with hc | hc | hc | hc | hc | hc | hc
      · have h := h.1 hc
        refine s_tabOut C (d_of DX9_about 26 rfl) hc rfl ?_
        refine s_bipush C (d_of DX9_about 46 rfl) ⟨rfl, by decide, by decide⟩ ?_
        exact s_ireturn C (d_of DX9_about 47 rfl) h
      · have h := h.2.1 hc
        refine s_tabIn C (d_of DX9_about 26 rfl) hc (by decide) (by decide) rfl rfl ?_
        refine s_aload_n C (d_of DX9_about 27 rfl) rfl ?_
        obtain ⟨o6, h⟩ := h
        refine gf_X9_166 (v0 := (M5 (pcO M l1) 1)) C o6 (d_of DX9_about 28 rfl) rfl ?_
        obtain ⟨o7, h⟩ := h
        refine gf_X9_138 (v0 := (M5 (M5 (pcO M l1) 1) 0)) C o7 (d_of DX9_about 29 rfl) rfl ?_
        exact s_ireturn C (d_of DX9_about 30 rfl) h
      · have h := h.2.2.1 hc
        refine s_tabIn C (d_of DX9_about 26 rfl) hc (by decide) (by decide) rfl rfl ?_
        refine s_aload_n C (d_of DX9_about 31 rfl) rfl ?_
        obtain ⟨o8, h⟩ := h
        refine gf_X9_169 (v0 := (M5 (pcO M l1) 7)) C o8 (d_of DX9_about 32 rfl) rfl ?_
        exact s_ireturn C (d_of DX9_about 33 rfl) h
      · have h := h.2.2.2.1 hc
        refine s_tabIn C (d_of DX9_about 26 rfl) hc (by decide) (by decide) rfl rfl ?_
        refine s_aload_n C (d_of DX9_about 34 rfl) rfl ?_
        obtain ⟨o9, h⟩ := h
        refine gf_X9_172 (v0 := (M5 (pcO M l1) 10)) C o9 (d_of DX9_about 35 rfl) rfl ?_
        exact s_ireturn C (d_of DX9_about 36 rfl) h
      · have h := h.2.2.2.2.1 hc
        refine s_tabIn C (d_of DX9_about 26 rfl) hc (by decide) (by decide) rfl rfl ?_
        refine s_aload_n C (d_of DX9_about 37 rfl) rfl ?_
        obtain ⟨o10, h⟩ := h
        refine gf_X9_174 (v0 := (M5 (pcO M l1) 11)) C o10 (d_of DX9_about 38 rfl) rfl ?_
        exact s_ireturn C (d_of DX9_about 39 rfl) h
      · have h := h.2.2.2.2.2.1 hc
        refine s_tabIn C (d_of DX9_about 26 rfl) hc (by decide) (by decide) rfl rfl ?_
        refine s_aload_n C (d_of DX9_about 40 rfl) rfl ?_
        obtain ⟨o11, h⟩ := h
        refine gf_X9_177 (v0 := (M5 (pcO M l1) 8)) C o11 (d_of DX9_about 41 rfl) rfl ?_
        exact s_ireturn C (d_of DX9_about 42 rfl) h
      · have h := h.2.2.2.2.2.2 hc
        refine s_tabIn C (d_of DX9_about 26 rfl) hc (by decide) (by decide) rfl rfl ?_
        refine s_aload_n C (d_of DX9_about 43 rfl) rfl ?_
        obtain ⟨o12, h⟩ := h
        refine gf_X9_180 (v0 := (M5 (pcO M l1) 9)) C o12 (d_of DX9_about 44 rfl) rfl ?_
        exact s_ireturn C (d_of DX9_about 45 rfl) h
    · have h := h.2 hc
      refine s_iload_n C (d_of DX9_about 11 rfl) rfl ?_
      refine s_iconst C (d_of DX9_about 12 rfl) (by decide) ?_
      refine s_icmpne C (d_of DX9_about 13 rfl) rfl (fun hc => ?_) (fun hc => ?_)
      · have h := h.1 hc
        refine s_iload_n C (d_of DX9_about 25 rfl) rfl ?_
        rcases (show (l2 < 0 ∨ 5 < l2) ∨ l2 = 0 ∨ l2 = 1 ∨ l2 = 2 ∨ l2 = 3 ∨ l2 = 4 ∨ l2 = 5 from by omega) with hc | hc | hc | hc | hc | hc | hc
        · have h := h.1 hc
          refine s_tabOut C (d_of DX9_about 26 rfl) hc rfl ?_
          refine s_bipush C (d_of DX9_about 46 rfl) ⟨rfl, by decide, by decide⟩ ?_
          exact s_ireturn C (d_of DX9_about 47 rfl) h
        · have h := h.2.1 hc
          refine s_tabIn C (d_of DX9_about 26 rfl) hc (by decide) (by decide) rfl rfl ?_
          refine s_aload_n C (d_of DX9_about 27 rfl) rfl ?_
          obtain ⟨o13, h⟩ := h
          refine gf_X9_166 (v0 := (M (pcO M l1) 1)) C o13 (d_of DX9_about 28 rfl) rfl ?_
          obtain ⟨o14, h⟩ := h
          refine gf_X9_138 (v0 := (M (M (pcO M l1) 1) 0)) C o14 (d_of DX9_about 29 rfl) rfl ?_
          exact s_ireturn C (d_of DX9_about 30 rfl) h
        · have h := h.2.2.1 hc
          refine s_tabIn C (d_of DX9_about 26 rfl) hc (by decide) (by decide) rfl rfl ?_
          refine s_aload_n C (d_of DX9_about 31 rfl) rfl ?_
          obtain ⟨o15, h⟩ := h
          refine gf_X9_169 (v0 := (M (pcO M l1) 7)) C o15 (d_of DX9_about 32 rfl) rfl ?_
          exact s_ireturn C (d_of DX9_about 33 rfl) h
        · have h := h.2.2.2.1 hc
          refine s_tabIn C (d_of DX9_about 26 rfl) hc (by decide) (by decide) rfl rfl ?_
          refine s_aload_n C (d_of DX9_about 34 rfl) rfl ?_
          obtain ⟨o16, h⟩ := h
          refine gf_X9_172 (v0 := (M (pcO M l1) 10)) C o16 (d_of DX9_about 35 rfl) rfl ?_
          exact s_ireturn C (d_of DX9_about 36 rfl) h
        · have h := h.2.2.2.2.1 hc
          refine s_tabIn C (d_of DX9_about 26 rfl) hc (by decide) (by decide) rfl rfl ?_
          refine s_aload_n C (d_of DX9_about 37 rfl) rfl ?_
          obtain ⟨o17, h⟩ := h
          refine gf_X9_174 (v0 := (M (pcO M l1) 11)) C o17 (d_of DX9_about 38 rfl) rfl ?_
          exact s_ireturn C (d_of DX9_about 39 rfl) h
        · have h := h.2.2.2.2.2.1 hc
          refine s_tabIn C (d_of DX9_about 26 rfl) hc (by decide) (by decide) rfl rfl ?_
          refine s_aload_n C (d_of DX9_about 40 rfl) rfl ?_
          obtain ⟨o18, h⟩ := h
          refine gf_X9_177 (v0 := (M (pcO M l1) 8)) C o18 (d_of DX9_about 41 rfl) rfl ?_
          exact s_ireturn C (d_of DX9_about 42 rfl) h
        · have h := h.2.2.2.2.2.2 hc
          refine s_tabIn C (d_of DX9_about 26 rfl) hc (by decide) (by decide) rfl rfl ?_
          refine s_aload_n C (d_of DX9_about 43 rfl) rfl ?_
          obtain ⟨o19, h⟩ := h
          refine gf_X9_180 (v0 := (M (pcO M l1) 9)) C o19 (d_of DX9_about 44 rfl) rfl ?_
          exact s_ireturn C (d_of DX9_about 45 rfl) h
      · have h := h.2 hc
        refine s_aload_n C (d_of DX9_about 14 rfl) rfl ?_
        refine gf_X9_54 C (sh_1 hF1) (d_of DX9_about 15 rfl) (fx_1_9 hF1) ?_
        refine s_aload_n C (d_of DX9_about 16 rfl) rfl ?_
        refine gf_X9_32 C (sh_1 hF1) (d_of DX9_about 17 rfl) (fx_1_5 hF1) ?_
        refine s_aload_n C (d_of DX9_about 18 rfl) rfl ?_
        refine gf_X9_29 (v0 := (M 1 4)) C (sh_1 hF1) (d_of DX9_about 19 rfl) rfl ?_
        refine s_aload_n C (d_of DX9_about 20 rfl) rfl ?_
        refine gf_X9_7 C (sh_1 hF1) (d_of DX9_about 21 rfl) (fx_1_0 hF1) ?_
        refine s_iconst C (d_of DX9_about 22 rfl) (by decide) ?_
        refine s_iald (v0 := (M 2 0)) C (sh_2 hF1) (by decide) (by decide) (d_of DX9_about 23 rfl) rfl ?_
        obtain ⟨Q20, hKQ20, h⟩ := h
        refine s_callV (ci := 1) (av := [(2, 5), (0, (M 1 4)), (0, (M 2 0))]) (rest := []) (mc := 0) (ms := 0) C (d_of DX9_about 24 rfl) lk_X9_162 (sh_9 hF1) (by decide) rfl rfl rfl (Nat.le_of_ble_eq_true rfl) (by decide) (by decide) hKQ20 (fun z20 w20 M20 hq => ?_)
        have h := h z20 w20 M20 hq
        refine s_iload_n C (d_of DX9_about 25 rfl) rfl ?_
        rcases (show (l2 < 0 ∨ 5 < l2) ∨ l2 = 0 ∨ l2 = 1 ∨ l2 = 2 ∨ l2 = 3 ∨ l2 = 4 ∨ l2 = 5 from by omega) with hc | hc | hc | hc | hc | hc | hc
        · have h := h.1 hc
          refine s_tabOut C (d_of DX9_about 26 rfl) hc rfl ?_
          refine s_bipush C (d_of DX9_about 46 rfl) ⟨rfl, by decide, by decide⟩ ?_
          exact s_ireturn C (d_of DX9_about 47 rfl) h
        · have h := h.2.1 hc
          refine s_tabIn C (d_of DX9_about 26 rfl) hc (by decide) (by decide) rfl rfl ?_
          refine s_aload_n C (d_of DX9_about 27 rfl) rfl ?_
          obtain ⟨o21, h⟩ := h
          refine gf_X9_166 (v0 := (M20 (pcO M l1) 1)) C o21 (d_of DX9_about 28 rfl) rfl ?_
          obtain ⟨o22, h⟩ := h
          refine gf_X9_138 (v0 := (M20 (M20 (pcO M l1) 1) 0)) C o22 (d_of DX9_about 29 rfl) rfl ?_
          exact s_ireturn C (d_of DX9_about 30 rfl) h
        · have h := h.2.2.1 hc
          refine s_tabIn C (d_of DX9_about 26 rfl) hc (by decide) (by decide) rfl rfl ?_
          refine s_aload_n C (d_of DX9_about 31 rfl) rfl ?_
          obtain ⟨o23, h⟩ := h
          refine gf_X9_169 (v0 := (M20 (pcO M l1) 7)) C o23 (d_of DX9_about 32 rfl) rfl ?_
          exact s_ireturn C (d_of DX9_about 33 rfl) h
        · have h := h.2.2.2.1 hc
          refine s_tabIn C (d_of DX9_about 26 rfl) hc (by decide) (by decide) rfl rfl ?_
          refine s_aload_n C (d_of DX9_about 34 rfl) rfl ?_
          obtain ⟨o24, h⟩ := h
          refine gf_X9_172 (v0 := (M20 (pcO M l1) 10)) C o24 (d_of DX9_about 35 rfl) rfl ?_
          exact s_ireturn C (d_of DX9_about 36 rfl) h
        · have h := h.2.2.2.2.1 hc
          refine s_tabIn C (d_of DX9_about 26 rfl) hc (by decide) (by decide) rfl rfl ?_
          refine s_aload_n C (d_of DX9_about 37 rfl) rfl ?_
          obtain ⟨o25, h⟩ := h
          refine gf_X9_174 (v0 := (M20 (pcO M l1) 11)) C o25 (d_of DX9_about 38 rfl) rfl ?_
          exact s_ireturn C (d_of DX9_about 39 rfl) h
        · have h := h.2.2.2.2.2.1 hc
          refine s_tabIn C (d_of DX9_about 26 rfl) hc (by decide) (by decide) rfl rfl ?_
          refine s_aload_n C (d_of DX9_about 40 rfl) rfl ?_
          obtain ⟨o26, h⟩ := h
          refine gf_X9_177 (v0 := (M20 (pcO M l1) 8)) C o26 (d_of DX9_about 41 rfl) rfl ?_
          exact s_ireturn C (d_of DX9_about 42 rfl) h
        · have h := h.2.2.2.2.2.2 hc
          refine s_tabIn C (d_of DX9_about 26 rfl) hc (by decide) (by decide) rfl rfl ?_
          refine s_aload_n C (d_of DX9_about 43 rfl) rfl ?_
          obtain ⟨o27, h⟩ := h
          refine gf_X9_180 (v0 := (M20 (pcO M l1) 9)) C o27 (d_of DX9_about 44 rfl) rfl ?_
          exact s_ireturn C (d_of DX9_about 45 rfl) h
  · have h := h.2 hc
    refine s_iconst C (d_of DX9_about 6 rfl) (by decide) ?_
    exact s_ireturn C (d_of DX9_about 7 rfl) h
theorem E_X9_about {G : GP} {l : Launch} {P : Int → NS → MM → Prop} {l1 : Int} {l2 : Int} {w : NS} {M : MM} (h : inR l1 → inR l2 → ∀ X : BX, X.2.1 = l → CX_X9_about G X → A_X9_about_0 G X P l1 l2 w M) : CT_X9_about G l [(2, 1), (0, l1), (0, l2)] w M P :=
  CT.of RX9 "about" (by decide +kernel) rfl rfl rfl (Nat.le_of_ble_eq_true rfl) (fun hr X hX C => h (hr (0, l1) (by simp)) (hr (0, l2) (by simp)) X hX C)
def A_X9_word_0 (G : GP) (X : BX) (P : Int → NS → MM → Prop) (l1 : Int) (l2 : Int) (w : NS) (M : MM) : Prop := WA true G X (QM G X true 0 P) 4 0 [(2, 1), (0, l1), (0, l2), (3, 0)] [] 0 0 w M
set_option maxHeartbeats 4000000 in
set_option maxRecDepth 100000 in
theorem B_X9_word_0 {G : GP} {X : BX} {P : Int → NS → MM → Prop} {l1 : Int} {l2 : Int} {w : NS} {M : MM} (C : CX_X9_word G X) (h : (0 ≤ M 1 4) ∧ (M 1 4 ≤ 24) ∧ ((((pcO M l1) ≠ 0) → (w.2 (pcO M l1) = (7, 12)) ∧ (inR ((M (pcO M l1) 7) - 1)) ∧ (((¬ (0 ≤ l2 ∧ l2 ≤ ((M (pcO M l1) 7) - 1))) → P (-6) w M) ∧ (((0 ≤ l2 ∧ l2 ≤ ((M (pcO M l1) 7) - 1))) → (0 ≤ l2) ∧ (l2 < 60) ∧ P (M ((pcO M l1) + 1) l2) w M))) ∧ ((¬ ((pcO M l1) ≠ 0)) → P (-1) w M))) : A_X9_word_0 G X P l1 l2 w M := by
  unfold A_X9_word_0
  refine s_aload_n C (d_of DX9_word 0 rfl) rfl ?_
  refine s_iload_n C (d_of DX9_word 1 rfl) rfl ?_
  refine WA.fix (fun hF1 => ?_)
  obtain ⟨o2, h⟩ := h
  obtain ⟨o3, h⟩ := h
  refine s_callV (ci := 9) (av := [(0, l1)]) (rest := []) (mc := 0) (ms := 0) C (d_of DX9_word 2 rfl) lk_X9_158 (sh_1 hF1) (by decide) rfl rfl rfl (Nat.le_of_ble_eq_true rfl) (by decide) (by decide) (pc_X9_pieceOf o2 o3) (fun z4 wz4 Mz4 hq => ?_)
  obtain ⟨hq1, hq2, hq3⟩ := hq
  have hq2 := hq2.symm
  have hq3 := hq3.symm
  subst hq1 hq2 hq3
  refine s_astore_n (ls' := [(2, 1), (0, l1), (0, l2), (2, (pcO M l1))]) C (d_of DX9_word 3 rfl) (by decide) rfl rfl ?_
  refine s_aload_n C (d_of DX9_word 4 rfl) rfl ?_
  refine s_ifnonnull C (d_of DX9_word 5 rfl) rfl (fun hc => ?_) (fun hc => ?_)
  · have h := h.1 hc
    refine s_iload_n C (d_of DX9_word 8 rfl) rfl ?_
    refine s_iconst C (d_of DX9_word 9 rfl) (by decide) ?_
    refine s_aload_n C (d_of DX9_word 10 rfl) rfl ?_
    obtain ⟨o5, h⟩ := h
    refine gf_X9_169 (v0 := (M (pcO M l1) 7)) C o5 (d_of DX9_word 11 rfl) rfl ?_
    refine s_iconst C (d_of DX9_word 12 rfl) (by decide) ?_
    obtain ⟨o6, h⟩ := h
    refine s_isub C (d_of DX9_word 13 rfl) o6 ?_
    refine s_callS (av := [(0, l2), (0, 0), (0, ((M (pcO M l1) 7) - 1))]) (rest := []) (mc := 0) (ms := 0) C (d_of DX9_word 14 rfl) lk_X9_95 rfl rfl (Nat.le_of_ble_eq_true rfl) (by decide) (by decide) (pc_X9_within) (fun z7 wz7 Mz7 hq => ?_)
    obtain ⟨hq1, hq2, hq3⟩ := hq
    have hq2 := hq2.symm
    have hq3 := hq3.symm
    subst hq1 hq2 hq3
    refine s_ifeq C (d_of DX9_word 15 rfl) rfl (fun hc => ?_) (fun hc => ?_)
    · have h := h.1 (b2i_0.mp hc)
      refine s_bipush C (d_of DX9_word 21 rfl) ⟨rfl, by decide, by decide⟩ ?_
      exact s_ireturn C (d_of DX9_word 22 rfl) h
    · have h := h.2 (b2i_n0 hc)
      refine s_aload_n C (d_of DX9_word 16 rfl) rfl ?_
      have hd8 := FixA.dy (t := 7) (n := 12) (k := 6) (m := 60) hF1 (by decide) o5
      refine gf_X9_183 C o5 (d_of DX9_word 17 rfl) hd8.1 ?_
      refine s_iload_n C (d_of DX9_word 18 rfl) rfl ?_
      obtain ⟨o9, h⟩ := h
      obtain ⟨o10, h⟩ := h
      refine s_iald (v0 := (M ((pcO M l1) + 1) l2)) C hd8.2 o9 o10 (d_of DX9_word 19 rfl) rfl ?_
      refine s_goto C (d_of DX9_word 20 rfl) rfl ?_
      exact s_ireturn C (d_of DX9_word 22 rfl) h
  · have h := h.2 hc
    refine s_iconst C (d_of DX9_word 6 rfl) (by decide) ?_
    exact s_ireturn C (d_of DX9_word 7 rfl) h
theorem E_X9_word {G : GP} {l : Launch} {P : Int → NS → MM → Prop} {l1 : Int} {l2 : Int} {w : NS} {M : MM} (h : inR l1 → inR l2 → ∀ X : BX, X.2.1 = l → CX_X9_word G X → A_X9_word_0 G X P l1 l2 w M) : CT_X9_word G l [(2, 1), (0, l1), (0, l2)] w M P :=
  CT.of RX9 "word" (by decide +kernel) rfl rfl rfl (Nat.le_of_ble_eq_true rfl) (fun hr X hX C => h (hr (0, l1) (by simp)) (hr (0, l2) (by simp)) X hX C)
def A_X6_clashesWith_0 (G : GP) (X : BX) (P : Int → NS → MM → Prop) (l0 : Int) (l1 : Int) (w : NS) (M : MM) : Prop := WA true G X (QM G X true 0 P) 3 0 [(2, l0), (2, l1), (3, 0)] [] 0 0 w M
set_option maxHeartbeats 4000000 in
set_option maxRecDepth 100000 in
theorem B_X6_clashesWith_0 {G : GP} {X : BX} {P : Int → NS → MM → Prop} {l0 : Int} {l1 : Int} {w : NS} {M : MM} (C : CX_X6_clashesWith G X) (h : (w.2 l0 = (7, 12)) ∧ (w.2 l1 = (7, 12)) ∧ ((((M l1 3) < (M l0 2)) → P 0 w M) ∧ ((¬ ((M l1 3) < (M l0 2))) → ((((M l1 2) ≤ (M l0 3)) → (0 ≤ (M l0 1)) ∧ (0 ≤ (M l1 1)) ∧ ((((M l0 1) ≠ (M l1 1)) → (w.2 (M l0 1) = (5, 5)) ∧ (0 ≤ (M (M l0 1) 4)) ∧ ((((M (M l0 1) 4) ≠ (M l1 1)) → P 0 w M) ∧ ((¬ ((M (M l0 1) 4) ≠ (M l1 1))) → (inR (9 - (M l1 4))) ∧ ((((9 - (M l1 4)) < (M l0 4)) → P 0 w M) ∧ ((¬ ((9 - (M l1 4)) < (M l0 4))) → (inR (9 - (M l1 5))) ∧ ((((M l0 5) < (9 - (M l1 5))) → P 0 w M) ∧ ((¬ ((M l0 5) < (9 - (M l1 5)))) → P 1 w M))))))) ∧ ((¬ ((M l0 1) ≠ (M l1 1))) → ((((M l1 5) < (M l0 4)) → P 0 w M) ∧ ((¬ ((M l1 5) < (M l0 4))) → ((((M l0 5) < (M l1 4)) → P 0 w M) ∧ ((¬ ((M l0 5) < (M l1 4))) → P 1 w M))))))) ∧ ((¬ ((M l1 2) ≤ (M l0 3))) → P 0 w M))))) : A_X6_clashesWith_0 G X P l0 l1 w M := by
  unfold A_X6_clashesWith_0
  refine s_aload_n C (d_of DX6_clashesWith 0 rfl) rfl ?_
  obtain ⟨o1, h⟩ := h
  refine gf_X6_38 (v0 := (M l0 2)) C o1 (d_of DX6_clashesWith 1 rfl) rfl ?_
  refine s_aload_n C (d_of DX6_clashesWith 2 rfl) rfl ?_
  obtain ⟨o2, h⟩ := h
  refine gf_X6_41 (v0 := (M l1 3)) C o2 (d_of DX6_clashesWith 3 rfl) rfl ?_
  refine s_icmpgt C (d_of DX6_clashesWith 4 rfl) rfl (fun hc => ?_) (fun hc => ?_)
  · have h := h.1 hc
    refine s_iconst C (d_of DX6_clashesWith 10 rfl) (by decide) ?_
    exact s_zreturn C (d_of DX6_clashesWith 11 rfl) (by decide) h
  · have h := h.2 hc
    refine s_aload_n C (d_of DX6_clashesWith 5 rfl) rfl ?_
    refine gf_X6_38 (v0 := (M l1 2)) C o2 (d_of DX6_clashesWith 6 rfl) rfl ?_
    refine s_aload_n C (d_of DX6_clashesWith 7 rfl) rfl ?_
    refine gf_X6_41 (v0 := (M l0 3)) C o1 (d_of DX6_clashesWith 8 rfl) rfl ?_
    refine s_icmple C (d_of DX6_clashesWith 9 rfl) rfl (fun hc => ?_) (fun hc => ?_)
    · have h := h.1 hc
      refine s_aload_n C (d_of DX6_clashesWith 12 rfl) rfl ?_
      refine gf_X6_34 (v0 := (M l0 1)) C o1 (d_of DX6_clashesWith 13 rfl) rfl ?_
      refine s_aload_n C (d_of DX6_clashesWith 14 rfl) rfl ?_
      refine gf_X6_34 (v0 := (M l1 1)) C o2 (d_of DX6_clashesWith 15 rfl) rfl ?_
      obtain ⟨o3, h⟩ := h
      obtain ⟨o4, h⟩ := h
      refine s_acmpne C (d_of DX6_clashesWith 16 rfl) rfl o3 o4 (fun hc => ?_) (fun hc => ?_)
      · have h := h.1 hc
        refine s_bipush C (d_of DX6_clashesWith 31 rfl) ⟨rfl, by decide, by decide⟩ ?_
        refine s_istore_n (ls' := [(2, l0), (2, l1), (0, 9)]) C (d_of DX6_clashesWith 32 rfl) (by decide) rfl rfl ?_
        refine s_aload_n C (d_of DX6_clashesWith 33 rfl) rfl ?_
        refine gf_X6_34 (v0 := (M l0 1)) C o1 (d_of DX6_clashesWith 34 rfl) rfl ?_
        obtain ⟨o5, h⟩ := h
        refine gf_X6_53 (v0 := (M (M l0 1) 4)) C o5 (d_of DX6_clashesWith 35 rfl) rfl ?_
        refine s_aload_n C (d_of DX6_clashesWith 36 rfl) rfl ?_
        refine gf_X6_34 (v0 := (M l1 1)) C o2 (d_of DX6_clashesWith 37 rfl) rfl ?_
        obtain ⟨o6, h⟩ := h
        refine s_acmpne C (d_of DX6_clashesWith 38 rfl) rfl o6 o4 (fun hc => ?_) (fun hc => ?_)
        · have h := h.1 hc
          refine s_iconst C (d_of DX6_clashesWith 55 rfl) (by decide) ?_
          exact s_zreturn C (d_of DX6_clashesWith 56 rfl) (by decide) h
        · have h := h.2 hc
          refine s_aload_n C (d_of DX6_clashesWith 39 rfl) rfl ?_
          refine gf_X6_44 (v0 := (M l0 4)) C o1 (d_of DX6_clashesWith 40 rfl) rfl ?_
          refine s_iload_n C (d_of DX6_clashesWith 41 rfl) rfl ?_
          refine s_aload_n C (d_of DX6_clashesWith 42 rfl) rfl ?_
          refine gf_X6_44 (v0 := (M l1 4)) C o2 (d_of DX6_clashesWith 43 rfl) rfl ?_
          obtain ⟨o7, h⟩ := h
          refine s_isub C (d_of DX6_clashesWith 44 rfl) o7 ?_
          refine s_icmpgt C (d_of DX6_clashesWith 45 rfl) rfl (fun hc => ?_) (fun hc => ?_)
          · have h := h.1 hc
            refine s_iconst C (d_of DX6_clashesWith 55 rfl) (by decide) ?_
            exact s_zreturn C (d_of DX6_clashesWith 56 rfl) (by decide) h
          · have h := h.2 hc
            refine s_iload_n C (d_of DX6_clashesWith 46 rfl) rfl ?_
            refine s_aload_n C (d_of DX6_clashesWith 47 rfl) rfl ?_
            refine gf_X6_47 (v0 := (M l1 5)) C o2 (d_of DX6_clashesWith 48 rfl) rfl ?_
            obtain ⟨o8, h⟩ := h
            refine s_isub C (d_of DX6_clashesWith 49 rfl) o8 ?_
            refine s_aload_n C (d_of DX6_clashesWith 50 rfl) rfl ?_
            refine gf_X6_47 (v0 := (M l0 5)) C o1 (d_of DX6_clashesWith 51 rfl) rfl ?_
            refine s_icmpgt C (d_of DX6_clashesWith 52 rfl) rfl (fun hc => ?_) (fun hc => ?_)
            · have h := h.1 hc
              refine s_iconst C (d_of DX6_clashesWith 55 rfl) (by decide) ?_
              exact s_zreturn C (d_of DX6_clashesWith 56 rfl) (by decide) h
            · have h := h.2 hc
              refine s_iconst C (d_of DX6_clashesWith 53 rfl) (by decide) ?_
              refine s_goto C (d_of DX6_clashesWith 54 rfl) rfl ?_
              exact s_zreturn C (d_of DX6_clashesWith 56 rfl) (by decide) h
      · have h := h.2 hc
        refine s_aload_n C (d_of DX6_clashesWith 17 rfl) rfl ?_
        refine gf_X6_44 (v0 := (M l0 4)) C o1 (d_of DX6_clashesWith 18 rfl) rfl ?_
        refine s_aload_n C (d_of DX6_clashesWith 19 rfl) rfl ?_
        refine gf_X6_47 (v0 := (M l1 5)) C o2 (d_of DX6_clashesWith 20 rfl) rfl ?_
        refine s_icmpgt C (d_of DX6_clashesWith 21 rfl) rfl (fun hc => ?_) (fun hc => ?_)
        · have h := h.1 hc
          refine s_iconst C (d_of DX6_clashesWith 29 rfl) (by decide) ?_
          exact s_zreturn C (d_of DX6_clashesWith 30 rfl) (by decide) h
        · have h := h.2 hc
          refine s_aload_n C (d_of DX6_clashesWith 22 rfl) rfl ?_
          refine gf_X6_44 (v0 := (M l1 4)) C o2 (d_of DX6_clashesWith 23 rfl) rfl ?_
          refine s_aload_n C (d_of DX6_clashesWith 24 rfl) rfl ?_
          refine gf_X6_47 (v0 := (M l0 5)) C o1 (d_of DX6_clashesWith 25 rfl) rfl ?_
          refine s_icmpgt C (d_of DX6_clashesWith 26 rfl) rfl (fun hc => ?_) (fun hc => ?_)
          · have h := h.1 hc
            refine s_iconst C (d_of DX6_clashesWith 29 rfl) (by decide) ?_
            exact s_zreturn C (d_of DX6_clashesWith 30 rfl) (by decide) h
          · have h := h.2 hc
            refine s_iconst C (d_of DX6_clashesWith 27 rfl) (by decide) ?_
            refine s_goto C (d_of DX6_clashesWith 28 rfl) rfl ?_
            exact s_zreturn C (d_of DX6_clashesWith 30 rfl) (by decide) h
    · have h := h.2 hc
      refine s_iconst C (d_of DX6_clashesWith 10 rfl) (by decide) ?_
      exact s_zreturn C (d_of DX6_clashesWith 11 rfl) (by decide) h
theorem E_X6_clashesWith {G : GP} {l : Launch} {P : Int → NS → MM → Prop} {l0 : Int} {l1 : Int} {w : NS} {M : MM} (h : ∀ X : BX, X.2.1 = l → CX_X6_clashesWith G X → A_X6_clashesWith_0 G X P l0 l1 w M) : CT_X6_clashesWith G l [(2, l0), (2, l1)] w M P :=
  CT.of RX6 "clashesWith" (by decide +kernel) rfl rfl rfl (Nat.le_of_ble_eq_true rfl) (fun hr X hX C => h  X hX C)
def A_X9_clash_0 (G : GP) (X : BX) (P : Int → NS → MM → Prop) (l1 : Int) (l2 : Int) (w : NS) (M : MM) : Prop := WA true G X (QM G X true 0 P) 5 0 [(2, 1), (0, l1), (0, l2), (3, 0), (3, 0)] [] 0 0 w M
set_option maxHeartbeats 4000000 in
set_option maxRecDepth 100000 in
theorem B_X9_clash_0 {G : GP} {X : BX} {P : Int → NS → MM → Prop} {l1 : Int} {l2 : Int} {w : NS} {M : MM} (C : CX_X9_clash G X) (h : (0 ≤ M 1 4) ∧ (M 1 4 ≤ 24) ∧ ((((pcO M l1) = 0) → P (-1) w M) ∧ ((¬ ((pcO M l1) = 0)) → ((((pcO M l2) ≠ 0) → (w.2 (pcO M l1) = (7, 12)) ∧ ∃ Q7 : Int → NS → MM → Prop, CT_X6_clashesWith G X.2.1 [(2, (pcO M l1)), (2, (pcO M l2))] w M Q7 ∧ ∀ (z7 : Int) (w7 : NS) (M7 : MM), Q7 z7 w7 M7 → P (b2i (z7 ≠ 0)) w7 M7) ∧ ((¬ ((pcO M l2) ≠ 0)) → P (-1) w M))))) : A_X9_clash_0 G X P l1 l2 w M := by
  unfold A_X9_clash_0
  refine s_aload_n C (d_of DX9_clash 0 rfl) rfl ?_
  refine s_iload_n C (d_of DX9_clash 1 rfl) rfl ?_
  refine WA.fix (fun hF1 => ?_)
  obtain ⟨o2, h⟩ := h
  obtain ⟨o3, h⟩ := h
  refine s_callV (ci := 9) (av := [(0, l1)]) (rest := []) (mc := 0) (ms := 0) C (d_of DX9_clash 2 rfl) lk_X9_158 (sh_1 hF1) (by decide) rfl rfl rfl (Nat.le_of_ble_eq_true rfl) (by decide) (by decide) (pc_X9_pieceOf o2 o3) (fun z4 wz4 Mz4 hq => ?_)
  obtain ⟨hq1, hq2, hq3⟩ := hq
  have hq2 := hq2.symm
  have hq3 := hq3.symm
  subst hq1 hq2 hq3
  refine s_astore_n (ls' := [(2, 1), (0, l1), (0, l2), (2, (pcO M l1)), (3, 0)]) C (d_of DX9_clash 3 rfl) (by decide) rfl rfl ?_
  refine s_aload_n C (d_of DX9_clash 4 rfl) rfl ?_
  refine s_iload_n C (d_of DX9_clash 5 rfl) rfl ?_
  refine s_callV (ci := 9) (av := [(0, l2)]) (rest := []) (mc := 0) (ms := 0) C (d_of DX9_clash 6 rfl) lk_X9_158 (sh_1 hF1) (by decide) rfl rfl rfl (Nat.le_of_ble_eq_true rfl) (by decide) (by decide) (pc_X9_pieceOf o2 o3) (fun z5 wz5 Mz5 hq => ?_)
  obtain ⟨hq1, hq2, hq3⟩ := hq
  have hq2 := hq2.symm
  have hq3 := hq3.symm
  subst hq1 hq2 hq3
  refine s_astore (ls' := [(2, 1), (0, l1), (0, l2), (2, (pcO M l1)), (2, (pcO M l2))]) C (d_of DX9_clash 7 rfl) (by decide) rfl rfl ?_
  refine s_aload_n C (d_of DX9_clash 8 rfl) rfl ?_
  refine s_ifnull C (d_of DX9_clash 9 rfl) rfl (fun hc => ?_) (fun hc => ?_)
  · have h := h.1 hc
    refine s_iconst C (d_of DX9_clash 12 rfl) (by decide) ?_
    exact s_ireturn C (d_of DX9_clash 13 rfl) h
  · have h := h.2 hc
    refine s_aload C (d_of DX9_clash 10 rfl) rfl ?_
    refine s_ifnonnull C (d_of DX9_clash 11 rfl) rfl (fun hc => ?_) (fun hc => ?_)
    · have h := h.1 hc
      refine s_aload_n C (d_of DX9_clash 14 rfl) rfl ?_
      refine s_aload C (d_of DX9_clash 15 rfl) rfl ?_
      obtain ⟨o6, h⟩ := h
      obtain ⟨Q7, hKQ7, h⟩ := h
      refine s_callV (ci := 6) (av := [(2, (pcO M l2))]) (rest := []) (mc := 0) (ms := 0) C (d_of DX9_clash 16 rfl) lk_X9_184 o6 (by decide) rfl rfl rfl (Nat.le_of_ble_eq_true rfl) (by decide) (by decide) hKQ7 (fun z7 w7 M7 hq => ?_)
      have h := h z7 w7 M7 hq
      refine s_callS (av := [(0, z7)]) (rest := []) (mc := 0) (ms := 0) C (d_of DX9_clash 17 rfl) lk_X9_188 rfl rfl (Nat.le_of_ble_eq_true rfl) (by decide) (by decide) (pc_X9_oneIf) (fun z8 wz8 Mz8 hq => ?_)
      obtain ⟨hq1, hq2, hq3⟩ := hq
      have hq2 := hq2.symm
      have hq3 := hq3.symm
      subst hq1 hq2 hq3
      exact s_ireturn C (d_of DX9_clash 18 rfl) h
    · have h := h.2 hc
      refine s_iconst C (d_of DX9_clash 12 rfl) (by decide) ?_
      exact s_ireturn C (d_of DX9_clash 13 rfl) h
theorem E_X9_clash {G : GP} {l : Launch} {P : Int → NS → MM → Prop} {l1 : Int} {l2 : Int} {w : NS} {M : MM} (h : inR l1 → inR l2 → ∀ X : BX, X.2.1 = l → CX_X9_clash G X → A_X9_clash_0 G X P l1 l2 w M) : CT_X9_clash G l [(2, 1), (0, l1), (0, l2)] w M P :=
  CT.of RX9 "clash" (by decide +kernel) rfl rfl rfl (Nat.le_of_ble_eq_true rfl) (fun hr X hX C => h (hr (0, l1) (by simp)) (hr (0, l2) (by simp)) X hX C)
def A_X9_say_0 (G : GP) (X : BX) (P : Int → NS → MM → Prop) (l1 : Int) (w : NS) (M : MM) : Prop := WA true G X (QM G X true 0 P) 2 0 [(2, 1), (0, l1)] [] 0 0 w M
set_option maxHeartbeats 4000000 in
set_option maxRecDepth 100000 in
theorem B_X9_say_0 {G : GP} {X : BX} {P : Int → NS → MM → Prop} {l1 : Int} {w : NS} {M : MM} (C : CX_X9_say G X) (h : ((((33 ≤ l1 ∧ l1 ≤ 126)) → (w.2 (M 1 8) = (9, 2)) ∧ ((((M (M 1 8) 1) < 40) → (0 ≤ (M (M 1 8) 1)) ∧ ((M (M 1 8) 1) < 40) ∧ (inR ((M (M 1 8) 1) + 1)) ∧ P ((M (M 1 8) 1) + 1) w (up (up M ((M 1 8) + 1) (M (M 1 8) 1) l1) (M 1 8) 1 ((M (M 1 8) 1) + 1))) ∧ ((¬ ((M (M 1 8) 1) < 40)) → P (-4) w M))) ∧ ((¬ (33 ≤ l1 ∧ l1 ≤ 126)) → P (-2) w M))) : A_X9_say_0 G X P l1 w M := by
  unfold A_X9_say_0
  refine s_iload_n C (d_of DX9_say 0 rfl) rfl ?_
  refine s_bipush C (d_of DX9_say 1 rfl) ⟨rfl, by decide, by decide⟩ ?_
  refine s_bipush C (d_of DX9_say 2 rfl) ⟨rfl, by decide, by decide⟩ ?_
  refine s_callS (av := [(0, l1), (0, 33), (0, 126)]) (rest := []) (mc := 0) (ms := 0) C (d_of DX9_say 3 rfl) lk_X9_95 rfl rfl (Nat.le_of_ble_eq_true rfl) (by decide) (by decide) (pc_X9_within) (fun z1 wz1 Mz1 hq => ?_)
  obtain ⟨hq1, hq2, hq3⟩ := hq
  have hq2 := hq2.symm
  have hq3 := hq3.symm
  subst hq1 hq2 hq3
  refine s_ifne C (d_of DX9_say 4 rfl) rfl (fun hc => ?_) (fun hc => ?_)
  · have h := h.1 (b2i_n0 hc)
    refine s_aload_n C (d_of DX9_say 7 rfl) rfl ?_
    refine WA.fix (fun hF2 => ?_)
    refine gf_X9_47 (v0 := (M 1 8)) C (sh_1 hF2) (d_of DX9_say 8 rfl) rfl ?_
    obtain ⟨o3, h⟩ := h
    refine gf_X9_192 (v0 := (M (M 1 8) 1)) C o3 (d_of DX9_say 9 rfl) rfl ?_
    refine s_bipush C (d_of DX9_say 10 rfl) ⟨rfl, by decide, by decide⟩ ?_
    refine s_icmplt C (d_of DX9_say 11 rfl) rfl (fun hc => ?_) (fun hc => ?_)
    · have h := h.1 hc
      refine s_aload_n C (d_of DX9_say 14 rfl) rfl ?_
      refine gf_X9_47 (v0 := (M 1 8)) C (sh_1 hF2) (d_of DX9_say 15 rfl) rfl ?_
      have hd4 := FixA.dy (t := 9) (n := 2) (k := 0) (m := 40) hF2 (by decide) o3
      refine gf_X9_195 C o3 (d_of DX9_say 16 rfl) hd4.1 ?_
      refine s_aload_n C (d_of DX9_say 17 rfl) rfl ?_
      refine gf_X9_47 (v0 := (M 1 8)) C (sh_1 hF2) (d_of DX9_say 18 rfl) rfl ?_
      refine gf_X9_192 (v0 := (M (M 1 8) 1)) C o3 (d_of DX9_say 19 rfl) rfl ?_
      refine s_iload_n C (d_of DX9_say 20 rfl) rfl ?_
      obtain ⟨o5, h⟩ := h
      obtain ⟨o6, h⟩ := h
      refine s_iast C hd4.2 o5 o6 (fun _ => by decide) (d_of DX9_say 21 rfl) ?_
      refine s_aload_n C (d_of DX9_say 22 rfl) rfl ?_
      refine gf_X9_47 (v0 := (M 1 8)) C (sh_1 hF2) (d_of DX9_say 23 rfl) (up_sh (sh_1 hF2) hd4.2 (by decide)) ?_
      refine s_dup C (by simp) (d_of DX9_say 24 rfl) ?_
      refine gf_X9_192 (v0 := (M (M 1 8) 1)) C o3 (d_of DX9_say 25 rfl) (up_sh o3 hd4.2 (by decide)) ?_
      refine s_iconst C (d_of DX9_say 26 rfl) (by decide) ?_
      obtain ⟨o7, h⟩ := h
      refine s_iadd C (d_of DX9_say 27 rfl) o7 ?_
      refine pf_X9_192 C o3 (fun _ => by decide) (d_of DX9_say 28 rfl) ?_
      refine s_aload_n C (d_of DX9_say 29 rfl) rfl ?_
      refine gf_X9_47 (v0 := (M 1 8)) C (sh_1 hF2) (d_of DX9_say 30 rfl) ((up_ni (by decide)).trans (up_sh (sh_1 hF2) hd4.2 (by decide))) ?_
      refine gf_X9_192 (v0 := ((M (M 1 8) 1) + 1)) C o3 (d_of DX9_say 31 rfl) (up_eq) ?_
      exact s_ireturn C (d_of DX9_say 32 rfl) h
    · have h := h.2 hc
      refine s_bipush C (d_of DX9_say 12 rfl) ⟨rfl, by decide, by decide⟩ ?_
      exact s_ireturn C (d_of DX9_say 13 rfl) h
  · have h := h.2 (b2i_nn hc)
    refine s_bipush C (d_of DX9_say 5 rfl) ⟨rfl, by decide, by decide⟩ ?_
    exact s_ireturn C (d_of DX9_say 6 rfl) h
theorem E_X9_say {G : GP} {l : Launch} {P : Int → NS → MM → Prop} {l1 : Int} {w : NS} {M : MM} (h : inR l1 → ∀ X : BX, X.2.1 = l → CX_X9_say G X → A_X9_say_0 G X P l1 w M) : CT_X9_say G l [(2, 1), (0, l1)] w M P :=
  CT.of RX9 "say" (by decide +kernel) rfl rfl rfl (Nat.le_of_ble_eq_true rfl) (fun hr X hX C => h (hr (0, l1) (by simp)) X hX C)
def A_X9_wipe_0 (G : GP) (X : BX) (P : Int → NS → MM → Prop) (w : NS) (M : MM) : Prop := WA true G X (QM G X true 0 P) 2 0 [(2, 1), (3, 0)] [] 0 0 w M
set_option maxHeartbeats 4000000 in
set_option maxRecDepth 100000 in
theorem B_X9_wipe_0 {G : GP} {X : BX} {P : Int → NS → MM → Prop} {w : NS} {M : MM} (C : CX_X9_wipe G X) (h : (w.2 (M 1 8) = (9, 2)) ∧ P (M (M 1 8) 1) w (up M (M 1 8) 1 0)) : A_X9_wipe_0 G X P w M := by
  unfold A_X9_wipe_0
  refine s_aload_n C (d_of DX9_wipe 0 rfl) rfl ?_
  refine WA.fix (fun hF1 => ?_)
  refine gf_X9_47 (v0 := (M 1 8)) C (sh_1 hF1) (d_of DX9_wipe 1 rfl) rfl ?_
  obtain ⟨o2, h⟩ := h
  refine gf_X9_192 (v0 := (M (M 1 8) 1)) C o2 (d_of DX9_wipe 2 rfl) rfl ?_
  refine s_istore_n (ls' := [(2, 1), (0, (M (M 1 8) 1))]) C (d_of DX9_wipe 3 rfl) (by decide) rfl rfl ?_
  refine s_aload_n C (d_of DX9_wipe 4 rfl) rfl ?_
  refine gf_X9_47 (v0 := (M 1 8)) C (sh_1 hF1) (d_of DX9_wipe 5 rfl) rfl ?_
  refine s_iconst C (d_of DX9_wipe 6 rfl) (by decide) ?_
  refine pf_X9_192 C o2 (fun _ => by decide) (d_of DX9_wipe 7 rfl) ?_
  refine s_iload_n C (d_of DX9_wipe 8 rfl) rfl ?_
  exact s_ireturn C (d_of DX9_wipe 9 rfl) h
theorem E_X9_wipe {G : GP} {l : Launch} {P : Int → NS → MM → Prop} {w : NS} {M : MM} (h : ∀ X : BX, X.2.1 = l → CX_X9_wipe G X → A_X9_wipe_0 G X P w M) : CT_X9_wipe G l [(2, 1)] w M P :=
  CT.of RX9 "wipe" (by decide +kernel) rfl rfl rfl (Nat.le_of_ble_eq_true rfl) (fun hr X hX C => h  X hX C)
def A_X8_stateAfterItem_0 (G : GP) (X : BX) (P : Int → NS → MM → Prop) (l0 : Int) (l1 : Int) (w : NS) (M : MM) : Prop := WA true G X (QM G X true 0 P) 2 0 [(0, l0), (0, l1)] [] 0 0 w M
set_option maxHeartbeats 4000000 in
set_option maxRecDepth 100000 in
theorem B_X8_stateAfterItem_0 {G : GP} {X : BX} {P : Int → NS → MM → Prop} {l0 : Int} {l1 : Int} {w : NS} {M : MM} (C : CX_X8_stateAfterItem G X) (h : (((l0 = 38) → P 0 w M) ∧ ((¬ (l0 = 38)) → (((l0 ≠ 124) → (((l0 ≠ 41) → P (-1) w M) ∧ ((¬ (l0 ≠ 41)) → (((l1 ≤ 0) → P (-1) w M) ∧ ((¬ (l1 ≤ 0)) → P 8 w M))))) ∧ ((¬ (l0 ≠ 124)) → P 0 w M))))) : A_X8_stateAfterItem_0 G X P l0 l1 w M := by
  unfold A_X8_stateAfterItem_0
  refine s_iload_n C (d_of DX8_stateAfterItem 0 rfl) rfl ?_
  refine s_bipush C (d_of DX8_stateAfterItem 1 rfl) ⟨rfl, by decide, by decide⟩ ?_
  refine s_icmpeq C (d_of DX8_stateAfterItem 2 rfl) rfl (fun hc => ?_) (fun hc => ?_)
  · have h := h.1 hc
    refine s_iconst C (d_of DX8_stateAfterItem 6 rfl) (by decide) ?_
    exact s_ireturn C (d_of DX8_stateAfterItem 7 rfl) h
  · have h := h.2 hc
    refine s_iload_n C (d_of DX8_stateAfterItem 3 rfl) rfl ?_
    refine s_bipush C (d_of DX8_stateAfterItem 4 rfl) ⟨rfl, by decide, by decide⟩ ?_
    refine s_icmpne C (d_of DX8_stateAfterItem 5 rfl) rfl (fun hc => ?_) (fun hc => ?_)
    · have h := h.1 hc
      refine s_iload_n C (d_of DX8_stateAfterItem 8 rfl) rfl ?_
      refine s_bipush C (d_of DX8_stateAfterItem 9 rfl) ⟨rfl, by decide, by decide⟩ ?_
      refine s_icmpne C (d_of DX8_stateAfterItem 10 rfl) rfl (fun hc => ?_) (fun hc => ?_)
      · have h := h.1 hc
        refine s_iconst C (d_of DX8_stateAfterItem 15 rfl) (by decide) ?_
        exact s_ireturn C (d_of DX8_stateAfterItem 16 rfl) h
      · have h := h.2 hc
        refine s_iload_n C (d_of DX8_stateAfterItem 11 rfl) rfl ?_
        refine s_ifle C (d_of DX8_stateAfterItem 12 rfl) rfl (fun hc => ?_) (fun hc => ?_)
        · have h := h.1 hc
          refine s_iconst C (d_of DX8_stateAfterItem 15 rfl) (by decide) ?_
          exact s_ireturn C (d_of DX8_stateAfterItem 16 rfl) h
        · have h := h.2 hc
          refine s_bipush C (d_of DX8_stateAfterItem 13 rfl) ⟨rfl, by decide, by decide⟩ ?_
          refine s_goto C (d_of DX8_stateAfterItem 14 rfl) rfl ?_
          exact s_ireturn C (d_of DX8_stateAfterItem 16 rfl) h
    · have h := h.2 hc
      refine s_iconst C (d_of DX8_stateAfterItem 6 rfl) (by decide) ?_
      exact s_ireturn C (d_of DX8_stateAfterItem 7 rfl) h
theorem E_X8_stateAfterItem {G : GP} {l : Launch} {P : Int → NS → MM → Prop} {l0 : Int} {l1 : Int} {w : NS} {M : MM} (h : inR l0 → inR l1 → ∀ X : BX, X.2.1 = l → CX_X8_stateAfterItem G X → A_X8_stateAfterItem_0 G X P l0 l1 w M) : CT_X8_stateAfterItem G l [(0, l0), (0, l1)] w M P :=
  CT.of RX8 "stateAfterItem" (by decide +kernel) rfl rfl rfl (Nat.le_of_ble_eq_true rfl) (fun hr X hX C => h (hr (0, l0) (by simp)) (hr (0, l1) (by simp)) X hX C)
def A_X8_stateAfterWord_0 (G : GP) (X : BX) (P : Int → NS → MM → Prop) (l0 : Int) (l1 : Int) (w : NS) (M : MM) : Prop := WA true G X (QM G X true 0 P) 2 0 [(0, l0), (0, l1)] [] 0 0 w M
set_option maxHeartbeats 4000000 in
set_option maxRecDepth 100000 in
theorem B_X8_stateAfterWord_0 {G : GP} {X : BX} {P : Int → NS → MM → Prop} {l0 : Int} {l1 : Int} {w : NS} {M : MM} (C : CX_X8_stateAfterWord G X) (h : (((l0 ≠ 126) → (((l0 ≠ 62) → ∃ Q1 : Int → NS → MM → Prop, CT_X8_stateAfterItem G X.2.1 [(0, l0), (0, l1)] w M Q1 ∧ ∀ (z1 : Int) (w1 : NS) (M1 : MM), Q1 z1 w1 M1 → P z1 w1 M1) ∧ ((¬ (l0 ≠ 62)) → P 7 w M))) ∧ ((¬ (l0 ≠ 126)) → P 3 w M))) : A_X8_stateAfterWord_0 G X P l0 l1 w M := by
  unfold A_X8_stateAfterWord_0
  refine s_iload_n C (d_of DX8_stateAfterWord 0 rfl) rfl ?_
  refine s_bipush C (d_of DX8_stateAfterWord 1 rfl) ⟨rfl, by decide, by decide⟩ ?_
  refine s_icmpne C (d_of DX8_stateAfterWord 2 rfl) rfl (fun hc => ?_) (fun hc => ?_)
  · have h := h.1 hc
    refine s_iload_n C (d_of DX8_stateAfterWord 5 rfl) rfl ?_
    refine s_bipush C (d_of DX8_stateAfterWord 6 rfl) ⟨rfl, by decide, by decide⟩ ?_
    refine s_icmpne C (d_of DX8_stateAfterWord 7 rfl) rfl (fun hc => ?_) (fun hc => ?_)
    · have h := h.1 hc
      refine s_iload_n C (d_of DX8_stateAfterWord 10 rfl) rfl ?_
      refine s_iload_n C (d_of DX8_stateAfterWord 11 rfl) rfl ?_
      obtain ⟨Q1, hKQ1, h⟩ := h
      refine s_callS (av := [(0, l0), (0, l1)]) (rest := []) (mc := 0) (ms := 0) C (d_of DX8_stateAfterWord 12 rfl) lk_X8_27 rfl rfl (Nat.le_of_ble_eq_true rfl) (by decide) (by decide) hKQ1 (fun z1 w1 M1 hq => ?_)
      have h := h z1 w1 M1 hq
      exact s_ireturn C (d_of DX8_stateAfterWord 13 rfl) h
    · have h := h.2 hc
      refine s_bipush C (d_of DX8_stateAfterWord 8 rfl) ⟨rfl, by decide, by decide⟩ ?_
      refine s_goto C (d_of DX8_stateAfterWord 9 rfl) rfl ?_
      exact s_ireturn C (d_of DX8_stateAfterWord 13 rfl) h
  · have h := h.2 hc
    refine s_iconst C (d_of DX8_stateAfterWord 3 rfl) (by decide) ?_
    exact s_ireturn C (d_of DX8_stateAfterWord 4 rfl) h
theorem E_X8_stateAfterWord {G : GP} {l : Launch} {P : Int → NS → MM → Prop} {l0 : Int} {l1 : Int} {w : NS} {M : MM} (h : inR l0 → inR l1 → ∀ X : BX, X.2.1 = l → CX_X8_stateAfterWord G X → A_X8_stateAfterWord_0 G X P l0 l1 w M) : CT_X8_stateAfterWord G l [(0, l0), (0, l1)] w M P :=
  CT.of RX8 "stateAfterWord" (by decide +kernel) rfl rfl rfl (Nat.le_of_ble_eq_true rfl) (fun hr X hX C => h (hr (0, l0) (by simp)) (hr (0, l1) (by simp)) X hX C)
def A_X8_stateAfter_0 (G : GP) (X : BX) (P : Int → NS → MM → Prop) (l0 : Int) (l1 : Int) (l2 : Int) (w : NS) (M : MM) : Prop := WA true G X (QM G X true 0 P) 4 0 [(0, l0), (0, l1), (0, l2), (3, 0)] [] 0 0 w M
set_option maxHeartbeats 4000000 in
set_option maxRecDepth 100000 in
theorem B_X8_stateAfter_0 {G : GP} {X : BX} {P : Int → NS → MM → Prop} {l0 : Int} {l1 : Int} {l2 : Int} {w : NS} {M : MM} (C : CX_X8_stateAfter G X) (h : (((l1 < 48) → (((l0 < 0 ∨ 7 < l0) → ∃ Q1 : Int → NS → MM → Prop, CT_X8_stateAfterItem G X.2.1 [(0, l1), (0, l2)] w M Q1 ∧ ∀ (z1 : Int) (w1 : NS) (M1 : MM), Q1 z1 w1 M1 → P z1 w1 M1) ∧ (l0 = 0 → (((l1 = 33) → P 0 w M) ∧ ((¬ (l1 = 33)) → (((l1 ≠ 40) → P (-1) w M) ∧ ((¬ (l1 ≠ 40)) → (((8 ≤ l2) → P (-1) w M) ∧ ((¬ (8 ≤ l2)) → P 0 w M))))))) ∧ (l0 = 1 → ∃ Q2 : Int → NS → MM → Prop, CT_X8_stateAfterWord G X.2.1 [(0, l1), (0, l2)] w M Q2 ∧ ∀ (z2 : Int) (w2 : NS) (M2 : MM), Q2 z2 w2 M2 → P z2 w2 M2) ∧ (l0 = 2 → ∃ Q3 : Int → NS → MM → Prop, CT_X8_stateAfterWord G X.2.1 [(0, l1), (0, l2)] w M Q3 ∧ ∀ (z3 : Int) (w3 : NS) (M3 : MM), Q3 z3 w3 M3 → P z3 w3 M3) ∧ (l0 = 3 → P (-1) w M) ∧ (l0 = 4 → (((l1 ≠ 58) → P (-1) w M) ∧ ((¬ (l1 ≠ 58)) → P 5 w M))) ∧ (l0 = 5 → P (-1) w M) ∧ (l0 = 6 → ∃ Q4 : Int → NS → MM → Prop, CT_X8_stateAfterItem G X.2.1 [(0, l1), (0, l2)] w M Q4 ∧ ∀ (z4 : Int) (w4 : NS) (M4 : MM), Q4 z4 w4 M4 → P z4 w4 M4) ∧ (l0 = 7 → P (-1) w M))) ∧ ((¬ (l1 < 48)) → (((57 < l1) → (((l0 < 0 ∨ 7 < l0) → ∃ Q5 : Int → NS → MM → Prop, CT_X8_stateAfterItem G X.2.1 [(0, l1), (0, l2)] w M Q5 ∧ ∀ (z5 : Int) (w5 : NS) (M5 : MM), Q5 z5 w5 M5 → P z5 w5 M5) ∧ (l0 = 0 → (((l1 = 33) → P 0 w M) ∧ ((¬ (l1 = 33)) → (((l1 ≠ 40) → P (-1) w M) ∧ ((¬ (l1 ≠ 40)) → (((8 ≤ l2) → P (-1) w M) ∧ ((¬ (8 ≤ l2)) → P 0 w M))))))) ∧ (l0 = 1 → ∃ Q6 : Int → NS → MM → Prop, CT_X8_stateAfterWord G X.2.1 [(0, l1), (0, l2)] w M Q6 ∧ ∀ (z6 : Int) (w6 : NS) (M6 : MM), Q6 z6 w6 M6 → P z6 w6 M6) ∧ (l0 = 2 → ∃ Q7 : Int → NS → MM → Prop, CT_X8_stateAfterWord G X.2.1 [(0, l1), (0, l2)] w M Q7 ∧ ∀ (z7 : Int) (w7 : NS) (M7 : MM), Q7 z7 w7 M7 → P z7 w7 M7) ∧ (l0 = 3 → P (-1) w M) ∧ (l0 = 4 → (((l1 ≠ 58) → P (-1) w M) ∧ ((¬ (l1 ≠ 58)) → P 5 w M))) ∧ (l0 = 5 → P (-1) w M) ∧ (l0 = 6 → ∃ Q8 : Int → NS → MM → Prop, CT_X8_stateAfterItem G X.2.1 [(0, l1), (0, l2)] w M Q8 ∧ ∀ (z8 : Int) (w8 : NS) (M8 : MM), Q8 z8 w8 M8 → P z8 w8 M8) ∧ (l0 = 7 → P (-1) w M))) ∧ ((¬ (57 < l1)) → (((l0 < 0 ∨ 7 < l0) → ∃ Q9 : Int → NS → MM → Prop, CT_X8_stateAfterItem G X.2.1 [(0, l1), (0, l2)] w M Q9 ∧ ∀ (z9 : Int) (w9 : NS) (M9 : MM), Q9 z9 w9 M9 → P z9 w9 M9) ∧ (l0 = 0 → (((l1 = 33) → P 0 w M) ∧ ((¬ (l1 = 33)) → (((l1 ≠ 40) → P 1 w M) ∧ ((¬ (l1 ≠ 40)) → (((8 ≤ l2) → P 1 w M) ∧ ((¬ (8 ≤ l2)) → P 0 w M))))))) ∧ (l0 = 1 → P 2 w M) ∧ (l0 = 2 → ∃ Q10 : Int → NS → MM → Prop, CT_X8_stateAfterWord G X.2.1 [(0, l1), (0, l2)] w M Q10 ∧ ∀ (z10 : Int) (w10 : NS) (M10 : MM), Q10 z10 w10 M10 → P z10 w10 M10) ∧ (l0 = 3 → P 4 w M) ∧ (l0 = 4 → (((l1 ≠ 58) → P (-1) w M) ∧ ((¬ (l1 ≠ 58)) → P 5 w M))) ∧ (l0 = 5 → P 6 w M) ∧ (l0 = 6 → P 8 w M) ∧ (l0 = 7 → P 8 w M))))))) : A_X8_stateAfter_0 G X P l0 l1 l2 w M := by
  unfold A_X8_stateAfter_0
  refine s_iload_n C (d_of DX8_stateAfter 0 rfl) rfl ?_
  refine s_bipush C (d_of DX8_stateAfter 1 rfl) ⟨rfl, by decide, by decide⟩ ?_
  refine s_icmplt C (d_of DX8_stateAfter 2 rfl) rfl (fun hc => ?_) (fun hc => ?_)
  · have h := h.1 hc
    refine s_iconst C (d_of DX8_stateAfter 8 rfl) (by decide) ?_
    refine s_istore_n (ls' := [(0, l0), (0, l1), (0, l2), (0, 0)]) C (d_of DX8_stateAfter 9 rfl) (by decide) rfl rfl ?_
    refine s_iload_n C (d_of DX8_stateAfter 10 rfl) rfl ?_
    rcases (show (l0 < 0 ∨ 7 < l0) ∨ l0 = 0 ∨ l0 = 1 ∨ l0 = 2 ∨ l0 = 3 ∨ l0 = 4 ∨ l0 = 5 ∨ l0 = 6 ∨ l0 = 7 from by omega) with hc | hc | hc | hc | hc | hc | hc | hc | hc
    · have h := h.1 hc
      refine s_tabOut C (d_of DX8_stateAfter 11 rfl) hc rfl ?_
      refine s_iload_n C (d_of DX8_stateAfter 74 rfl) rfl ?_
      refine s_iload_n C (d_of DX8_stateAfter 75 rfl) rfl ?_
      obtain ⟨Q1, hKQ1, h⟩ := h
      refine s_callS (av := [(0, l1), (0, l2)]) (rest := []) (mc := 0) (ms := 0) C (d_of DX8_stateAfter 76 rfl) lk_X8_27 rfl rfl (Nat.le_of_ble_eq_true rfl) (by decide) (by decide) hKQ1 (fun z1 w1 M1 hq => ?_)
      have h := h z1 w1 M1 hq
      exact s_ireturn C (d_of DX8_stateAfter 77 rfl) h
    · have h := h.2.1 hc
      refine s_tabIn C (d_of DX8_stateAfter 11 rfl) hc (by decide) (by decide) rfl rfl ?_
      refine s_iload_n C (d_of DX8_stateAfter 12 rfl) rfl ?_
      refine s_bipush C (d_of DX8_stateAfter 13 rfl) ⟨rfl, by decide, by decide⟩ ?_
      refine s_icmpeq C (d_of DX8_stateAfter 14 rfl) rfl (fun hc => ?_) (fun hc => ?_)
      · have h := h.1 hc
        refine s_iconst C (d_of DX8_stateAfter 21 rfl) (by decide) ?_
        exact s_ireturn C (d_of DX8_stateAfter 22 rfl) h
      · have h := h.2 hc
        refine s_iload_n C (d_of DX8_stateAfter 15 rfl) rfl ?_
        refine s_bipush C (d_of DX8_stateAfter 16 rfl) ⟨rfl, by decide, by decide⟩ ?_
        refine s_icmpne C (d_of DX8_stateAfter 17 rfl) rfl (fun hc => ?_) (fun hc => ?_)
        · have h := h.1 hc
          refine s_iload_n C (d_of DX8_stateAfter 23 rfl) rfl ?_
          refine s_ifeq C (d_of DX8_stateAfter 24 rfl) rfl (fun hc => ?_) (fun hc => absurd (by decide) hc)
          refine s_iconst C (d_of DX8_stateAfter 27 rfl) (by decide) ?_
          exact s_ireturn C (d_of DX8_stateAfter 28 rfl) h
        · have h := h.2 hc
          refine s_iload_n C (d_of DX8_stateAfter 18 rfl) rfl ?_
          refine s_bipush C (d_of DX8_stateAfter 19 rfl) ⟨rfl, by decide, by decide⟩ ?_
          refine s_icmpge C (d_of DX8_stateAfter 20 rfl) rfl (fun hc => ?_) (fun hc => ?_)
          · have h := h.1 hc
            refine s_iload_n C (d_of DX8_stateAfter 23 rfl) rfl ?_
            refine s_ifeq C (d_of DX8_stateAfter 24 rfl) rfl (fun hc => ?_) (fun hc => absurd (by decide) hc)
            refine s_iconst C (d_of DX8_stateAfter 27 rfl) (by decide) ?_
            exact s_ireturn C (d_of DX8_stateAfter 28 rfl) h
          · have h := h.2 hc
            refine s_iconst C (d_of DX8_stateAfter 21 rfl) (by decide) ?_
            exact s_ireturn C (d_of DX8_stateAfter 22 rfl) h
    · have h := h.2.2.1 hc
      refine s_tabIn C (d_of DX8_stateAfter 11 rfl) hc (by decide) (by decide) rfl rfl ?_
      refine s_iload_n C (d_of DX8_stateAfter 29 rfl) rfl ?_
      refine s_ifeq C (d_of DX8_stateAfter 30 rfl) rfl (fun hc => ?_) (fun hc => absurd (by decide) hc)
      refine s_iload_n C (d_of DX8_stateAfter 33 rfl) rfl ?_
      refine s_iload_n C (d_of DX8_stateAfter 34 rfl) rfl ?_
      obtain ⟨Q2, hKQ2, h⟩ := h
      refine s_callS (av := [(0, l1), (0, l2)]) (rest := []) (mc := 0) (ms := 0) C (d_of DX8_stateAfter 35 rfl) lk_X8_23 rfl rfl (Nat.le_of_ble_eq_true rfl) (by decide) (by decide) hKQ2 (fun z2 w2 M2 hq => ?_)
      have h := h z2 w2 M2 hq
      exact s_ireturn C (d_of DX8_stateAfter 36 rfl) h
    · have h := h.2.2.2.1 hc
      refine s_tabIn C (d_of DX8_stateAfter 11 rfl) hc (by decide) (by decide) rfl rfl ?_
      refine s_iload_n C (d_of DX8_stateAfter 37 rfl) rfl ?_
      refine s_iload_n C (d_of DX8_stateAfter 38 rfl) rfl ?_
      obtain ⟨Q3, hKQ3, h⟩ := h
      refine s_callS (av := [(0, l1), (0, l2)]) (rest := []) (mc := 0) (ms := 0) C (d_of DX8_stateAfter 39 rfl) lk_X8_23 rfl rfl (Nat.le_of_ble_eq_true rfl) (by decide) (by decide) hKQ3 (fun z3 w3 M3 hq => ?_)
      have h := h z3 w3 M3 hq
      exact s_ireturn C (d_of DX8_stateAfter 40 rfl) h
    · have h := h.2.2.2.2.1 hc
      refine s_tabIn C (d_of DX8_stateAfter 11 rfl) hc (by decide) (by decide) rfl rfl ?_
      refine s_iload_n C (d_of DX8_stateAfter 41 rfl) rfl ?_
      refine s_ifeq C (d_of DX8_stateAfter 42 rfl) rfl (fun hc => ?_) (fun hc => absurd (by decide) hc)
      refine s_iconst C (d_of DX8_stateAfter 45 rfl) (by decide) ?_
      exact s_ireturn C (d_of DX8_stateAfter 46 rfl) h
    · have h := h.2.2.2.2.2.1 hc
      refine s_tabIn C (d_of DX8_stateAfter 11 rfl) hc (by decide) (by decide) rfl rfl ?_
      refine s_iload_n C (d_of DX8_stateAfter 47 rfl) rfl ?_
      refine s_bipush C (d_of DX8_stateAfter 48 rfl) ⟨rfl, by decide, by decide⟩ ?_
      refine s_icmpne C (d_of DX8_stateAfter 49 rfl) rfl (fun hc => ?_) (fun hc => ?_)
      · have h := h.1 hc
        refine s_iconst C (d_of DX8_stateAfter 52 rfl) (by decide) ?_
        exact s_ireturn C (d_of DX8_stateAfter 53 rfl) h
      · have h := h.2 hc
        refine s_iconst C (d_of DX8_stateAfter 50 rfl) (by decide) ?_
        refine s_goto C (d_of DX8_stateAfter 51 rfl) rfl ?_
        exact s_ireturn C (d_of DX8_stateAfter 53 rfl) h
    · have h := h.2.2.2.2.2.2.1 hc
      refine s_tabIn C (d_of DX8_stateAfter 11 rfl) hc (by decide) (by decide) rfl rfl ?_
      refine s_iload_n C (d_of DX8_stateAfter 54 rfl) rfl ?_
      refine s_ifeq C (d_of DX8_stateAfter 55 rfl) rfl (fun hc => ?_) (fun hc => absurd (by decide) hc)
      refine s_iconst C (d_of DX8_stateAfter 58 rfl) (by decide) ?_
      exact s_ireturn C (d_of DX8_stateAfter 59 rfl) h
    · have h := h.2.2.2.2.2.2.2.1 hc
      refine s_tabIn C (d_of DX8_stateAfter 11 rfl) hc (by decide) (by decide) rfl rfl ?_
      refine s_iload_n C (d_of DX8_stateAfter 60 rfl) rfl ?_
      refine s_ifeq C (d_of DX8_stateAfter 61 rfl) rfl (fun hc => ?_) (fun hc => absurd (by decide) hc)
      refine s_iload_n C (d_of DX8_stateAfter 64 rfl) rfl ?_
      refine s_iload_n C (d_of DX8_stateAfter 65 rfl) rfl ?_
      obtain ⟨Q4, hKQ4, h⟩ := h
      refine s_callS (av := [(0, l1), (0, l2)]) (rest := []) (mc := 0) (ms := 0) C (d_of DX8_stateAfter 66 rfl) lk_X8_27 rfl rfl (Nat.le_of_ble_eq_true rfl) (by decide) (by decide) hKQ4 (fun z4 w4 M4 hq => ?_)
      have h := h z4 w4 M4 hq
      exact s_ireturn C (d_of DX8_stateAfter 67 rfl) h
    · have h := h.2.2.2.2.2.2.2.2 hc
      refine s_tabIn C (d_of DX8_stateAfter 11 rfl) hc (by decide) (by decide) rfl rfl ?_
      refine s_iload_n C (d_of DX8_stateAfter 68 rfl) rfl ?_
      refine s_ifeq C (d_of DX8_stateAfter 69 rfl) rfl (fun hc => ?_) (fun hc => absurd (by decide) hc)
      refine s_iconst C (d_of DX8_stateAfter 72 rfl) (by decide) ?_
      exact s_ireturn C (d_of DX8_stateAfter 73 rfl) h
  · have h := h.2 hc
    refine s_iload_n C (d_of DX8_stateAfter 3 rfl) rfl ?_
    refine s_bipush C (d_of DX8_stateAfter 4 rfl) ⟨rfl, by decide, by decide⟩ ?_
    refine s_icmpgt C (d_of DX8_stateAfter 5 rfl) rfl (fun hc => ?_) (fun hc => ?_)
    · have h := h.1 hc
      refine s_iconst C (d_of DX8_stateAfter 8 rfl) (by decide) ?_
      refine s_istore_n (ls' := [(0, l0), (0, l1), (0, l2), (0, 0)]) C (d_of DX8_stateAfter 9 rfl) (by decide) rfl rfl ?_
      refine s_iload_n C (d_of DX8_stateAfter 10 rfl) rfl ?_
      rcases (show (l0 < 0 ∨ 7 < l0) ∨ l0 = 0 ∨ l0 = 1 ∨ l0 = 2 ∨ l0 = 3 ∨ l0 = 4 ∨ l0 = 5 ∨ l0 = 6 ∨ l0 = 7 from by omega) with hc | hc | hc | hc | hc | hc | hc | hc | hc
      · have h := h.1 hc
        refine s_tabOut C (d_of DX8_stateAfter 11 rfl) hc rfl ?_
        refine s_iload_n C (d_of DX8_stateAfter 74 rfl) rfl ?_
        refine s_iload_n C (d_of DX8_stateAfter 75 rfl) rfl ?_
        obtain ⟨Q5, hKQ5, h⟩ := h
        refine s_callS (av := [(0, l1), (0, l2)]) (rest := []) (mc := 0) (ms := 0) C (d_of DX8_stateAfter 76 rfl) lk_X8_27 rfl rfl (Nat.le_of_ble_eq_true rfl) (by decide) (by decide) hKQ5 (fun z5 w5 M5 hq => ?_)
        have h := h z5 w5 M5 hq
        exact s_ireturn C (d_of DX8_stateAfter 77 rfl) h
      · have h := h.2.1 hc
        refine s_tabIn C (d_of DX8_stateAfter 11 rfl) hc (by decide) (by decide) rfl rfl ?_
        refine s_iload_n C (d_of DX8_stateAfter 12 rfl) rfl ?_
        refine s_bipush C (d_of DX8_stateAfter 13 rfl) ⟨rfl, by decide, by decide⟩ ?_
        refine s_icmpeq C (d_of DX8_stateAfter 14 rfl) rfl (fun hc => ?_) (fun hc => ?_)
        · have h := h.1 hc
          refine s_iconst C (d_of DX8_stateAfter 21 rfl) (by decide) ?_
          exact s_ireturn C (d_of DX8_stateAfter 22 rfl) h
        · have h := h.2 hc
          refine s_iload_n C (d_of DX8_stateAfter 15 rfl) rfl ?_
          refine s_bipush C (d_of DX8_stateAfter 16 rfl) ⟨rfl, by decide, by decide⟩ ?_
          refine s_icmpne C (d_of DX8_stateAfter 17 rfl) rfl (fun hc => ?_) (fun hc => ?_)
          · have h := h.1 hc
            refine s_iload_n C (d_of DX8_stateAfter 23 rfl) rfl ?_
            refine s_ifeq C (d_of DX8_stateAfter 24 rfl) rfl (fun hc => ?_) (fun hc => absurd (by decide) hc)
            refine s_iconst C (d_of DX8_stateAfter 27 rfl) (by decide) ?_
            exact s_ireturn C (d_of DX8_stateAfter 28 rfl) h
          · have h := h.2 hc
            refine s_iload_n C (d_of DX8_stateAfter 18 rfl) rfl ?_
            refine s_bipush C (d_of DX8_stateAfter 19 rfl) ⟨rfl, by decide, by decide⟩ ?_
            refine s_icmpge C (d_of DX8_stateAfter 20 rfl) rfl (fun hc => ?_) (fun hc => ?_)
            · have h := h.1 hc
              refine s_iload_n C (d_of DX8_stateAfter 23 rfl) rfl ?_
              refine s_ifeq C (d_of DX8_stateAfter 24 rfl) rfl (fun hc => ?_) (fun hc => absurd (by decide) hc)
              refine s_iconst C (d_of DX8_stateAfter 27 rfl) (by decide) ?_
              exact s_ireturn C (d_of DX8_stateAfter 28 rfl) h
            · have h := h.2 hc
              refine s_iconst C (d_of DX8_stateAfter 21 rfl) (by decide) ?_
              exact s_ireturn C (d_of DX8_stateAfter 22 rfl) h
      · have h := h.2.2.1 hc
        refine s_tabIn C (d_of DX8_stateAfter 11 rfl) hc (by decide) (by decide) rfl rfl ?_
        refine s_iload_n C (d_of DX8_stateAfter 29 rfl) rfl ?_
        refine s_ifeq C (d_of DX8_stateAfter 30 rfl) rfl (fun hc => ?_) (fun hc => absurd (by decide) hc)
        refine s_iload_n C (d_of DX8_stateAfter 33 rfl) rfl ?_
        refine s_iload_n C (d_of DX8_stateAfter 34 rfl) rfl ?_
        obtain ⟨Q6, hKQ6, h⟩ := h
        refine s_callS (av := [(0, l1), (0, l2)]) (rest := []) (mc := 0) (ms := 0) C (d_of DX8_stateAfter 35 rfl) lk_X8_23 rfl rfl (Nat.le_of_ble_eq_true rfl) (by decide) (by decide) hKQ6 (fun z6 w6 M6 hq => ?_)
        have h := h z6 w6 M6 hq
        exact s_ireturn C (d_of DX8_stateAfter 36 rfl) h
      · have h := h.2.2.2.1 hc
        refine s_tabIn C (d_of DX8_stateAfter 11 rfl) hc (by decide) (by decide) rfl rfl ?_
        refine s_iload_n C (d_of DX8_stateAfter 37 rfl) rfl ?_
        refine s_iload_n C (d_of DX8_stateAfter 38 rfl) rfl ?_
        obtain ⟨Q7, hKQ7, h⟩ := h
        refine s_callS (av := [(0, l1), (0, l2)]) (rest := []) (mc := 0) (ms := 0) C (d_of DX8_stateAfter 39 rfl) lk_X8_23 rfl rfl (Nat.le_of_ble_eq_true rfl) (by decide) (by decide) hKQ7 (fun z7 w7 M7 hq => ?_)
        have h := h z7 w7 M7 hq
        exact s_ireturn C (d_of DX8_stateAfter 40 rfl) h
      · have h := h.2.2.2.2.1 hc
        refine s_tabIn C (d_of DX8_stateAfter 11 rfl) hc (by decide) (by decide) rfl rfl ?_
        refine s_iload_n C (d_of DX8_stateAfter 41 rfl) rfl ?_
        refine s_ifeq C (d_of DX8_stateAfter 42 rfl) rfl (fun hc => ?_) (fun hc => absurd (by decide) hc)
        refine s_iconst C (d_of DX8_stateAfter 45 rfl) (by decide) ?_
        exact s_ireturn C (d_of DX8_stateAfter 46 rfl) h
      · have h := h.2.2.2.2.2.1 hc
        refine s_tabIn C (d_of DX8_stateAfter 11 rfl) hc (by decide) (by decide) rfl rfl ?_
        refine s_iload_n C (d_of DX8_stateAfter 47 rfl) rfl ?_
        refine s_bipush C (d_of DX8_stateAfter 48 rfl) ⟨rfl, by decide, by decide⟩ ?_
        refine s_icmpne C (d_of DX8_stateAfter 49 rfl) rfl (fun hc => ?_) (fun hc => ?_)
        · have h := h.1 hc
          refine s_iconst C (d_of DX8_stateAfter 52 rfl) (by decide) ?_
          exact s_ireturn C (d_of DX8_stateAfter 53 rfl) h
        · have h := h.2 hc
          refine s_iconst C (d_of DX8_stateAfter 50 rfl) (by decide) ?_
          refine s_goto C (d_of DX8_stateAfter 51 rfl) rfl ?_
          exact s_ireturn C (d_of DX8_stateAfter 53 rfl) h
      · have h := h.2.2.2.2.2.2.1 hc
        refine s_tabIn C (d_of DX8_stateAfter 11 rfl) hc (by decide) (by decide) rfl rfl ?_
        refine s_iload_n C (d_of DX8_stateAfter 54 rfl) rfl ?_
        refine s_ifeq C (d_of DX8_stateAfter 55 rfl) rfl (fun hc => ?_) (fun hc => absurd (by decide) hc)
        refine s_iconst C (d_of DX8_stateAfter 58 rfl) (by decide) ?_
        exact s_ireturn C (d_of DX8_stateAfter 59 rfl) h
      · have h := h.2.2.2.2.2.2.2.1 hc
        refine s_tabIn C (d_of DX8_stateAfter 11 rfl) hc (by decide) (by decide) rfl rfl ?_
        refine s_iload_n C (d_of DX8_stateAfter 60 rfl) rfl ?_
        refine s_ifeq C (d_of DX8_stateAfter 61 rfl) rfl (fun hc => ?_) (fun hc => absurd (by decide) hc)
        refine s_iload_n C (d_of DX8_stateAfter 64 rfl) rfl ?_
        refine s_iload_n C (d_of DX8_stateAfter 65 rfl) rfl ?_
        obtain ⟨Q8, hKQ8, h⟩ := h
        refine s_callS (av := [(0, l1), (0, l2)]) (rest := []) (mc := 0) (ms := 0) C (d_of DX8_stateAfter 66 rfl) lk_X8_27 rfl rfl (Nat.le_of_ble_eq_true rfl) (by decide) (by decide) hKQ8 (fun z8 w8 M8 hq => ?_)
        have h := h z8 w8 M8 hq
        exact s_ireturn C (d_of DX8_stateAfter 67 rfl) h
      · have h := h.2.2.2.2.2.2.2.2 hc
        refine s_tabIn C (d_of DX8_stateAfter 11 rfl) hc (by decide) (by decide) rfl rfl ?_
        refine s_iload_n C (d_of DX8_stateAfter 68 rfl) rfl ?_
        refine s_ifeq C (d_of DX8_stateAfter 69 rfl) rfl (fun hc => ?_) (fun hc => absurd (by decide) hc)
        refine s_iconst C (d_of DX8_stateAfter 72 rfl) (by decide) ?_
        exact s_ireturn C (d_of DX8_stateAfter 73 rfl) h
    · have h := h.2 hc
      refine s_iconst C (d_of DX8_stateAfter 6 rfl) (by decide) ?_
      refine s_goto C (d_of DX8_stateAfter 7 rfl) rfl ?_
      refine s_istore_n (ls' := [(0, l0), (0, l1), (0, l2), (0, 1)]) C (d_of DX8_stateAfter 9 rfl) (by decide) rfl rfl ?_
      refine s_iload_n C (d_of DX8_stateAfter 10 rfl) rfl ?_
      rcases (show (l0 < 0 ∨ 7 < l0) ∨ l0 = 0 ∨ l0 = 1 ∨ l0 = 2 ∨ l0 = 3 ∨ l0 = 4 ∨ l0 = 5 ∨ l0 = 6 ∨ l0 = 7 from by omega) with hc | hc | hc | hc | hc | hc | hc | hc | hc
      · have h := h.1 hc
        refine s_tabOut C (d_of DX8_stateAfter 11 rfl) hc rfl ?_
        refine s_iload_n C (d_of DX8_stateAfter 74 rfl) rfl ?_
        refine s_iload_n C (d_of DX8_stateAfter 75 rfl) rfl ?_
        obtain ⟨Q9, hKQ9, h⟩ := h
        refine s_callS (av := [(0, l1), (0, l2)]) (rest := []) (mc := 0) (ms := 0) C (d_of DX8_stateAfter 76 rfl) lk_X8_27 rfl rfl (Nat.le_of_ble_eq_true rfl) (by decide) (by decide) hKQ9 (fun z9 w9 M9 hq => ?_)
        have h := h z9 w9 M9 hq
        exact s_ireturn C (d_of DX8_stateAfter 77 rfl) h
      · have h := h.2.1 hc
        refine s_tabIn C (d_of DX8_stateAfter 11 rfl) hc (by decide) (by decide) rfl rfl ?_
        refine s_iload_n C (d_of DX8_stateAfter 12 rfl) rfl ?_
        refine s_bipush C (d_of DX8_stateAfter 13 rfl) ⟨rfl, by decide, by decide⟩ ?_
        refine s_icmpeq C (d_of DX8_stateAfter 14 rfl) rfl (fun hc => ?_) (fun hc => ?_)
        · have h := h.1 hc
          refine s_iconst C (d_of DX8_stateAfter 21 rfl) (by decide) ?_
          exact s_ireturn C (d_of DX8_stateAfter 22 rfl) h
        · have h := h.2 hc
          refine s_iload_n C (d_of DX8_stateAfter 15 rfl) rfl ?_
          refine s_bipush C (d_of DX8_stateAfter 16 rfl) ⟨rfl, by decide, by decide⟩ ?_
          refine s_icmpne C (d_of DX8_stateAfter 17 rfl) rfl (fun hc => ?_) (fun hc => ?_)
          · have h := h.1 hc
            refine s_iload_n C (d_of DX8_stateAfter 23 rfl) rfl ?_
            refine s_ifeq C (d_of DX8_stateAfter 24 rfl) rfl (fun hc => absurd hc (by decide)) (fun hc => ?_)
            refine s_iconst C (d_of DX8_stateAfter 25 rfl) (by decide) ?_
            refine s_goto C (d_of DX8_stateAfter 26 rfl) rfl ?_
            exact s_ireturn C (d_of DX8_stateAfter 28 rfl) h
          · have h := h.2 hc
            refine s_iload_n C (d_of DX8_stateAfter 18 rfl) rfl ?_
            refine s_bipush C (d_of DX8_stateAfter 19 rfl) ⟨rfl, by decide, by decide⟩ ?_
            refine s_icmpge C (d_of DX8_stateAfter 20 rfl) rfl (fun hc => ?_) (fun hc => ?_)
            · have h := h.1 hc
              refine s_iload_n C (d_of DX8_stateAfter 23 rfl) rfl ?_
              refine s_ifeq C (d_of DX8_stateAfter 24 rfl) rfl (fun hc => absurd hc (by decide)) (fun hc => ?_)
              refine s_iconst C (d_of DX8_stateAfter 25 rfl) (by decide) ?_
              refine s_goto C (d_of DX8_stateAfter 26 rfl) rfl ?_
              exact s_ireturn C (d_of DX8_stateAfter 28 rfl) h
            · have h := h.2 hc
              refine s_iconst C (d_of DX8_stateAfter 21 rfl) (by decide) ?_
              exact s_ireturn C (d_of DX8_stateAfter 22 rfl) h
      · have h := h.2.2.1 hc
        refine s_tabIn C (d_of DX8_stateAfter 11 rfl) hc (by decide) (by decide) rfl rfl ?_
        refine s_iload_n C (d_of DX8_stateAfter 29 rfl) rfl ?_
        refine s_ifeq C (d_of DX8_stateAfter 30 rfl) rfl (fun hc => absurd hc (by decide)) (fun hc => ?_)
        refine s_iconst C (d_of DX8_stateAfter 31 rfl) (by decide) ?_
        refine s_goto C (d_of DX8_stateAfter 32 rfl) rfl ?_
        exact s_ireturn C (d_of DX8_stateAfter 36 rfl) h
      · have h := h.2.2.2.1 hc
        refine s_tabIn C (d_of DX8_stateAfter 11 rfl) hc (by decide) (by decide) rfl rfl ?_
        refine s_iload_n C (d_of DX8_stateAfter 37 rfl) rfl ?_
        refine s_iload_n C (d_of DX8_stateAfter 38 rfl) rfl ?_
        obtain ⟨Q10, hKQ10, h⟩ := h
        refine s_callS (av := [(0, l1), (0, l2)]) (rest := []) (mc := 0) (ms := 0) C (d_of DX8_stateAfter 39 rfl) lk_X8_23 rfl rfl (Nat.le_of_ble_eq_true rfl) (by decide) (by decide) hKQ10 (fun z10 w10 M10 hq => ?_)
        have h := h z10 w10 M10 hq
        exact s_ireturn C (d_of DX8_stateAfter 40 rfl) h
      · have h := h.2.2.2.2.1 hc
        refine s_tabIn C (d_of DX8_stateAfter 11 rfl) hc (by decide) (by decide) rfl rfl ?_
        refine s_iload_n C (d_of DX8_stateAfter 41 rfl) rfl ?_
        refine s_ifeq C (d_of DX8_stateAfter 42 rfl) rfl (fun hc => absurd hc (by decide)) (fun hc => ?_)
        refine s_iconst C (d_of DX8_stateAfter 43 rfl) (by decide) ?_
        refine s_goto C (d_of DX8_stateAfter 44 rfl) rfl ?_
        exact s_ireturn C (d_of DX8_stateAfter 46 rfl) h
      · have h := h.2.2.2.2.2.1 hc
        refine s_tabIn C (d_of DX8_stateAfter 11 rfl) hc (by decide) (by decide) rfl rfl ?_
        refine s_iload_n C (d_of DX8_stateAfter 47 rfl) rfl ?_
        refine s_bipush C (d_of DX8_stateAfter 48 rfl) ⟨rfl, by decide, by decide⟩ ?_
        refine s_icmpne C (d_of DX8_stateAfter 49 rfl) rfl (fun hc => ?_) (fun hc => ?_)
        · have h := h.1 hc
          refine s_iconst C (d_of DX8_stateAfter 52 rfl) (by decide) ?_
          exact s_ireturn C (d_of DX8_stateAfter 53 rfl) h
        · have h := h.2 hc
          refine s_iconst C (d_of DX8_stateAfter 50 rfl) (by decide) ?_
          refine s_goto C (d_of DX8_stateAfter 51 rfl) rfl ?_
          exact s_ireturn C (d_of DX8_stateAfter 53 rfl) h
      · have h := h.2.2.2.2.2.2.1 hc
        refine s_tabIn C (d_of DX8_stateAfter 11 rfl) hc (by decide) (by decide) rfl rfl ?_
        refine s_iload_n C (d_of DX8_stateAfter 54 rfl) rfl ?_
        refine s_ifeq C (d_of DX8_stateAfter 55 rfl) rfl (fun hc => absurd hc (by decide)) (fun hc => ?_)
        refine s_bipush C (d_of DX8_stateAfter 56 rfl) ⟨rfl, by decide, by decide⟩ ?_
        refine s_goto C (d_of DX8_stateAfter 57 rfl) rfl ?_
        exact s_ireturn C (d_of DX8_stateAfter 59 rfl) h
      · have h := h.2.2.2.2.2.2.2.1 hc
        refine s_tabIn C (d_of DX8_stateAfter 11 rfl) hc (by decide) (by decide) rfl rfl ?_
        refine s_iload_n C (d_of DX8_stateAfter 60 rfl) rfl ?_
        refine s_ifeq C (d_of DX8_stateAfter 61 rfl) rfl (fun hc => absurd hc (by decide)) (fun hc => ?_)
        refine s_bipush C (d_of DX8_stateAfter 62 rfl) ⟨rfl, by decide, by decide⟩ ?_
        refine s_goto C (d_of DX8_stateAfter 63 rfl) rfl ?_
        exact s_ireturn C (d_of DX8_stateAfter 67 rfl) h
      · have h := h.2.2.2.2.2.2.2.2 hc
        refine s_tabIn C (d_of DX8_stateAfter 11 rfl) hc (by decide) (by decide) rfl rfl ?_
        refine s_iload_n C (d_of DX8_stateAfter 68 rfl) rfl ?_
        refine s_ifeq C (d_of DX8_stateAfter 69 rfl) rfl (fun hc => absurd hc (by decide)) (fun hc => ?_)
        refine s_bipush C (d_of DX8_stateAfter 70 rfl) ⟨rfl, by decide, by decide⟩ ?_
        refine s_goto C (d_of DX8_stateAfter 71 rfl) rfl ?_
        exact s_ireturn C (d_of DX8_stateAfter 73 rfl) h
theorem E_X8_stateAfter {G : GP} {l : Launch} {P : Int → NS → MM → Prop} {l0 : Int} {l1 : Int} {l2 : Int} {w : NS} {M : MM} (h : inR l0 → inR l1 → inR l2 → ∀ X : BX, X.2.1 = l → CX_X8_stateAfter G X → A_X8_stateAfter_0 G X P l0 l1 l2 w M) : CT_X8_stateAfter G l [(0, l0), (0, l1), (0, l2)] w M P :=
  CT.of RX8 "stateAfter" (by decide +kernel) rfl rfl rfl (Nat.le_of_ble_eq_true rfl) (fun hr X hX C => h (hr (0, l0) (by simp)) (hr (0, l1) (by simp)) (hr (0, l2) (by simp)) X hX C)
def A_X8_faultPlace_0 (G : GP) (X : BX) (P : Int → NS → MM → Prop) (l0 : Int) (w : NS) (M : MM) : Prop := WA true G X (QM G X true 0 P) 4 0 [(2, l0), (3, 0), (3, 0), (3, 0)] [] 0 0 w M
def A_X8_faultPlace_6 (G : GP) (X : BX) (P : Int → NS → MM → Prop) (l0 : Int) (l1 : Int) (l2 : Int) (l3 : Int) (w : NS) (M : MM) : Prop := WA true G X (QM G X true 0 P) 4 6 [(2, l0), (0, l1), (0, l2), (0, l3)] [] 0 0 w M
set_option maxHeartbeats 4000000 in
set_option maxRecDepth 100000 in
theorem B_X8_faultPlace_0 {G : GP} {X : BX} {P : Int → NS → MM → Prop} {l0 : Int} {w : NS} {M : MM} (C : CX_X8_faultPlace G X) (h : A_X8_faultPlace_6 G X P l0 0 0 0 w M) : A_X8_faultPlace_0 G X P l0 w M := by
  unfold A_X8_faultPlace_0
  refine s_iconst C (d_of DX8_faultPlace 0 rfl) (by decide) ?_
  refine s_istore_n (ls' := [(2, l0), (0, 0), (3, 0), (3, 0)]) C (d_of DX8_faultPlace 1 rfl) (by decide) rfl rfl ?_
  refine s_iconst C (d_of DX8_faultPlace 2 rfl) (by decide) ?_
  refine s_istore_n (ls' := [(2, l0), (0, 0), (0, 0), (3, 0)]) C (d_of DX8_faultPlace 3 rfl) (by decide) rfl rfl ?_
  refine s_iconst C (d_of DX8_faultPlace 4 rfl) (by decide) ?_
  refine s_istore_n (ls' := [(2, l0), (0, 0), (0, 0), (0, 0)]) C (d_of DX8_faultPlace 5 rfl) (by decide) rfl rfl ?_
  exact h
set_option maxHeartbeats 4000000 in
set_option maxRecDepth 100000 in
theorem B_X8_faultPlace_6 {G : GP} {X : BX} {P : Int → NS → MM → Prop} {l0 : Int} {l1 : Int} {l2 : Int} {l3 : Int} {w : NS} {M : MM} (C : CX_X8_faultPlace G X) (h : (w.2 l0 = (9, 2)) ∧ ((((M l0 1) ≤ l3) → (((l1 = 1) → (((l2 ≠ 0) → P (M l0 1) w M) ∧ ((¬ (l2 ≠ 0)) → P (-6) w M))) ∧ ((¬ (l1 = 1)) → (((l1 = 2) → (((l2 ≠ 0) → P (M l0 1) w M) ∧ ((¬ (l2 ≠ 0)) → P (-6) w M))) ∧ ((¬ (l1 = 2)) → (((l1 = 6) → (((l2 ≠ 0) → P (M l0 1) w M) ∧ ((¬ (l2 ≠ 0)) → P (-6) w M))) ∧ ((¬ (l1 = 6)) → (((l1 ≠ 8) → P (M l0 1) w M) ∧ ((¬ (l1 ≠ 8)) → (((l2 ≠ 0) → P (M l0 1) w M) ∧ ((¬ (l2 ≠ 0)) → P (-6) w M))))))))))) ∧ ((¬ ((M l0 1) ≤ l3)) → (0 ≤ l3) ∧ (l3 < 40) ∧ ∃ Q6 : Int → NS → MM → Prop, CT_X8_stateAfter G X.2.1 [(0, l1), (0, (M (l0 + 1) l3)), (0, l2)] w M Q6 ∧ ∀ (z6 : Int) (w6 : NS) (M6 : MM), Q6 z6 w6 M6 → (((z6 ≠ (-1)) → (w6.2 l0 = (9, 2)) ∧ ((((M6 (l0 + 1) l3) ≠ 40) → ((((M6 (l0 + 1) l3) ≠ 41) → (inR (l3 + 1)) ∧ A_X8_faultPlace_6 G X P l0 z6 l2 (l3 + 1) w6 M6) ∧ ((¬ ((M6 (l0 + 1) l3) ≠ 41)) → (inR (l2 + (-1))) ∧ (inR (l3 + 1)) ∧ A_X8_faultPlace_6 G X P l0 z6 (l2 + (-1)) (l3 + 1) w6 M6))) ∧ ((¬ ((M6 (l0 + 1) l3) ≠ 40)) → (inR (l2 + 1)) ∧ (inR (l3 + 1)) ∧ A_X8_faultPlace_6 G X P l0 z6 (l2 + 1) (l3 + 1) w6 M6))) ∧ ((¬ (z6 ≠ (-1))) → P l3 w6 M6))))) : A_X8_faultPlace_6 G X P l0 l1 l2 l3 w M := by
  unfold A_X8_faultPlace_6
  refine s_iload_n C (d_of DX8_faultPlace 6 rfl) rfl ?_
  refine s_aload_n C (d_of DX8_faultPlace 7 rfl) rfl ?_
  obtain ⟨o1, h⟩ := h
  refine gf_X8_15 (v0 := (M l0 1)) C o1 (d_of DX8_faultPlace 8 rfl) rfl ?_
  refine s_icmpge C (d_of DX8_faultPlace 9 rfl) rfl (fun hc => ?_) (fun hc => ?_)
  · have h := h.1 hc
    refine s_iload_n C (d_of DX8_faultPlace 40 rfl) rfl ?_
    refine s_iconst C (d_of DX8_faultPlace 41 rfl) (by decide) ?_
    refine s_icmpeq C (d_of DX8_faultPlace 42 rfl) rfl (fun hc => ?_) (fun hc => ?_)
    · have h := h.1 hc
      refine s_iconst C (d_of DX8_faultPlace 52 rfl) (by decide) ?_
      refine s_goto C (d_of DX8_faultPlace 53 rfl) rfl ?_
      refine s_istore_n (ls' := [(2, l0), (0, l1), (0, l2), (0, 1)]) C (d_of DX8_faultPlace 55 rfl) (by decide) rfl rfl ?_
      refine s_iload_n C (d_of DX8_faultPlace 56 rfl) rfl ?_
      refine s_ifeq C (d_of DX8_faultPlace 57 rfl) rfl (fun hc => absurd hc (by decide)) (fun hc => ?_)
      refine s_iload_n C (d_of DX8_faultPlace 58 rfl) rfl ?_
      refine s_ifne C (d_of DX8_faultPlace 59 rfl) rfl (fun hc => ?_) (fun hc => ?_)
      · have h := h.1 hc
        refine s_aload_n C (d_of DX8_faultPlace 62 rfl) rfl ?_
        refine gf_X8_15 (v0 := (M l0 1)) C o1 (d_of DX8_faultPlace 63 rfl) rfl ?_
        exact s_ireturn C (d_of DX8_faultPlace 64 rfl) h
      · have h := h.2 hc
        refine s_bipush C (d_of DX8_faultPlace 60 rfl) ⟨rfl, by decide, by decide⟩ ?_
        refine s_goto C (d_of DX8_faultPlace 61 rfl) rfl ?_
        exact s_ireturn C (d_of DX8_faultPlace 64 rfl) h
    · have h := h.2 hc
      refine s_iload_n C (d_of DX8_faultPlace 43 rfl) rfl ?_
      refine s_iconst C (d_of DX8_faultPlace 44 rfl) (by decide) ?_
      refine s_icmpeq C (d_of DX8_faultPlace 45 rfl) rfl (fun hc => ?_) (fun hc => ?_)
      · have h := h.1 hc
        refine s_iconst C (d_of DX8_faultPlace 52 rfl) (by decide) ?_
        refine s_goto C (d_of DX8_faultPlace 53 rfl) rfl ?_
        refine s_istore_n (ls' := [(2, l0), (0, l1), (0, l2), (0, 1)]) C (d_of DX8_faultPlace 55 rfl) (by decide) rfl rfl ?_
        refine s_iload_n C (d_of DX8_faultPlace 56 rfl) rfl ?_
        refine s_ifeq C (d_of DX8_faultPlace 57 rfl) rfl (fun hc => absurd hc (by decide)) (fun hc => ?_)
        refine s_iload_n C (d_of DX8_faultPlace 58 rfl) rfl ?_
        refine s_ifne C (d_of DX8_faultPlace 59 rfl) rfl (fun hc => ?_) (fun hc => ?_)
        · have h := h.1 hc
          refine s_aload_n C (d_of DX8_faultPlace 62 rfl) rfl ?_
          refine gf_X8_15 (v0 := (M l0 1)) C o1 (d_of DX8_faultPlace 63 rfl) rfl ?_
          exact s_ireturn C (d_of DX8_faultPlace 64 rfl) h
        · have h := h.2 hc
          refine s_bipush C (d_of DX8_faultPlace 60 rfl) ⟨rfl, by decide, by decide⟩ ?_
          refine s_goto C (d_of DX8_faultPlace 61 rfl) rfl ?_
          exact s_ireturn C (d_of DX8_faultPlace 64 rfl) h
      · have h := h.2 hc
        refine s_iload_n C (d_of DX8_faultPlace 46 rfl) rfl ?_
        refine s_bipush C (d_of DX8_faultPlace 47 rfl) ⟨rfl, by decide, by decide⟩ ?_
        refine s_icmpeq C (d_of DX8_faultPlace 48 rfl) rfl (fun hc => ?_) (fun hc => ?_)
        · have h := h.1 hc
          refine s_iconst C (d_of DX8_faultPlace 52 rfl) (by decide) ?_
          refine s_goto C (d_of DX8_faultPlace 53 rfl) rfl ?_
          refine s_istore_n (ls' := [(2, l0), (0, l1), (0, l2), (0, 1)]) C (d_of DX8_faultPlace 55 rfl) (by decide) rfl rfl ?_
          refine s_iload_n C (d_of DX8_faultPlace 56 rfl) rfl ?_
          refine s_ifeq C (d_of DX8_faultPlace 57 rfl) rfl (fun hc => absurd hc (by decide)) (fun hc => ?_)
          refine s_iload_n C (d_of DX8_faultPlace 58 rfl) rfl ?_
          refine s_ifne C (d_of DX8_faultPlace 59 rfl) rfl (fun hc => ?_) (fun hc => ?_)
          · have h := h.1 hc
            refine s_aload_n C (d_of DX8_faultPlace 62 rfl) rfl ?_
            refine gf_X8_15 (v0 := (M l0 1)) C o1 (d_of DX8_faultPlace 63 rfl) rfl ?_
            exact s_ireturn C (d_of DX8_faultPlace 64 rfl) h
          · have h := h.2 hc
            refine s_bipush C (d_of DX8_faultPlace 60 rfl) ⟨rfl, by decide, by decide⟩ ?_
            refine s_goto C (d_of DX8_faultPlace 61 rfl) rfl ?_
            exact s_ireturn C (d_of DX8_faultPlace 64 rfl) h
        · have h := h.2 hc
          refine s_iload_n C (d_of DX8_faultPlace 49 rfl) rfl ?_
          refine s_bipush C (d_of DX8_faultPlace 50 rfl) ⟨rfl, by decide, by decide⟩ ?_
          refine s_icmpne C (d_of DX8_faultPlace 51 rfl) rfl (fun hc => ?_) (fun hc => ?_)
          · have h := h.1 hc
            refine s_iconst C (d_of DX8_faultPlace 54 rfl) (by decide) ?_
            refine s_istore_n (ls' := [(2, l0), (0, l1), (0, l2), (0, 0)]) C (d_of DX8_faultPlace 55 rfl) (by decide) rfl rfl ?_
            refine s_iload_n C (d_of DX8_faultPlace 56 rfl) rfl ?_
            refine s_ifeq C (d_of DX8_faultPlace 57 rfl) rfl (fun hc => ?_) (fun hc => absurd (by decide) hc)
            refine s_aload_n C (d_of DX8_faultPlace 62 rfl) rfl ?_
            refine gf_X8_15 (v0 := (M l0 1)) C o1 (d_of DX8_faultPlace 63 rfl) rfl ?_
            exact s_ireturn C (d_of DX8_faultPlace 64 rfl) h
          · have h := h.2 hc
            refine s_iconst C (d_of DX8_faultPlace 52 rfl) (by decide) ?_
            refine s_goto C (d_of DX8_faultPlace 53 rfl) rfl ?_
            refine s_istore_n (ls' := [(2, l0), (0, l1), (0, l2), (0, 1)]) C (d_of DX8_faultPlace 55 rfl) (by decide) rfl rfl ?_
            refine s_iload_n C (d_of DX8_faultPlace 56 rfl) rfl ?_
            refine s_ifeq C (d_of DX8_faultPlace 57 rfl) rfl (fun hc => absurd hc (by decide)) (fun hc => ?_)
            refine s_iload_n C (d_of DX8_faultPlace 58 rfl) rfl ?_
            refine s_ifne C (d_of DX8_faultPlace 59 rfl) rfl (fun hc => ?_) (fun hc => ?_)
            · have h := h.1 hc
              refine s_aload_n C (d_of DX8_faultPlace 62 rfl) rfl ?_
              refine gf_X8_15 (v0 := (M l0 1)) C o1 (d_of DX8_faultPlace 63 rfl) rfl ?_
              exact s_ireturn C (d_of DX8_faultPlace 64 rfl) h
            · have h := h.2 hc
              refine s_bipush C (d_of DX8_faultPlace 60 rfl) ⟨rfl, by decide, by decide⟩ ?_
              refine s_goto C (d_of DX8_faultPlace 61 rfl) rfl ?_
              exact s_ireturn C (d_of DX8_faultPlace 64 rfl) h
  · have h := h.2 hc
    refine s_iload_n C (d_of DX8_faultPlace 10 rfl) rfl ?_
    refine s_aload_n C (d_of DX8_faultPlace 11 rfl) rfl ?_
    refine WA.fix (fun hF2 => ?_)
    have hd3 := FixA.dy (t := 9) (n := 2) (k := 0) (m := 40) hF2 (by decide) o1
    refine gf_X8_11 C o1 (d_of DX8_faultPlace 12 rfl) hd3.1 ?_
    refine s_iload_n C (d_of DX8_faultPlace 13 rfl) rfl ?_
    obtain ⟨o4, h⟩ := h
    obtain ⟨o5, h⟩ := h
    refine s_iald (v0 := (M (l0 + 1) l3)) C hd3.2 o4 o5 (d_of DX8_faultPlace 14 rfl) rfl ?_
    refine s_iload_n C (d_of DX8_faultPlace 15 rfl) rfl ?_
    obtain ⟨Q6, hKQ6, h⟩ := h
    refine s_callS (av := [(0, l1), (0, (M (l0 + 1) l3)), (0, l2)]) (rest := []) (mc := 0) (ms := 0) C (d_of DX8_faultPlace 16 rfl) lk_X8_19 rfl rfl (Nat.le_of_ble_eq_true rfl) (by decide) (by decide) hKQ6 (fun z6 w6 M6 hq => ?_)
    have h := h z6 w6 M6 hq
    refine s_istore_n (ls' := [(2, l0), (0, z6), (0, l2), (0, l3)]) C (d_of DX8_faultPlace 17 rfl) (by decide) rfl rfl ?_
    refine s_iload_n C (d_of DX8_faultPlace 18 rfl) rfl ?_
    refine s_iconst C (d_of DX8_faultPlace 19 rfl) (by decide) ?_
    refine s_icmpne C (d_of DX8_faultPlace 20 rfl) rfl (fun hc => ?_) (fun hc => ?_)
    · have h := h.1 hc
      refine s_aload_n C (d_of DX8_faultPlace 23 rfl) rfl ?_
      obtain ⟨o7, h⟩ := h
      refine WA.fix (fun hF8 => ?_)
      have hd9 := FixA.dy (t := 9) (n := 2) (k := 0) (m := 40) hF8 (by decide) o7
      refine gf_X8_11 C o7 (d_of DX8_faultPlace 24 rfl) hd9.1 ?_
      refine s_iload_n C (d_of DX8_faultPlace 25 rfl) rfl ?_
      refine s_iald (v0 := (M6 (l0 + 1) l3)) C hd9.2 o4 o5 (d_of DX8_faultPlace 26 rfl) rfl ?_
      refine s_bipush C (d_of DX8_faultPlace 27 rfl) ⟨rfl, by decide, by decide⟩ ?_
      refine s_icmpne C (d_of DX8_faultPlace 28 rfl) rfl (fun hc => ?_) (fun hc => ?_)
      · have h := h.1 hc
        refine s_aload_n C (d_of DX8_faultPlace 31 rfl) rfl ?_
        have hd10 := FixA.dy (t := 9) (n := 2) (k := 0) (m := 40) hF8 (by decide) o7
        refine gf_X8_11 C o7 (d_of DX8_faultPlace 32 rfl) hd10.1 ?_
        refine s_iload_n C (d_of DX8_faultPlace 33 rfl) rfl ?_
        refine s_iald (v0 := (M6 (l0 + 1) l3)) C hd10.2 o4 o5 (d_of DX8_faultPlace 34 rfl) rfl ?_
        refine s_bipush C (d_of DX8_faultPlace 35 rfl) ⟨rfl, by decide, by decide⟩ ?_
        refine s_icmpne C (d_of DX8_faultPlace 36 rfl) rfl (fun hc => ?_) (fun hc => ?_)
        · have h := h.1 hc
          obtain ⟨o11, h⟩ := h
          refine s_iinc (ls' := [(2, l0), (0, z6), (0, l2), (0, (l3 + 1))]) C (d_of DX8_faultPlace 38 rfl) (by decide) rfl o11 rfl rfl ?_
          refine s_goto C (d_of DX8_faultPlace 39 rfl) rfl ?_
          exact h
        · have h := h.2 hc
          obtain ⟨o12, h⟩ := h
          refine s_iinc (ls' := [(2, l0), (0, z6), (0, (l2 + (-1))), (0, l3)]) C (d_of DX8_faultPlace 37 rfl) (by decide) rfl o12 rfl rfl ?_
          obtain ⟨o13, h⟩ := h
          refine s_iinc (ls' := [(2, l0), (0, z6), (0, (l2 + (-1))), (0, (l3 + 1))]) C (d_of DX8_faultPlace 38 rfl) (by decide) rfl o13 rfl rfl ?_
          refine s_goto C (d_of DX8_faultPlace 39 rfl) rfl ?_
          exact h
      · have h := h.2 hc
        obtain ⟨o14, h⟩ := h
        refine s_iinc (ls' := [(2, l0), (0, z6), (0, (l2 + 1)), (0, l3)]) C (d_of DX8_faultPlace 29 rfl) (by decide) rfl o14 rfl rfl ?_
        refine s_goto C (d_of DX8_faultPlace 30 rfl) rfl ?_
        obtain ⟨o15, h⟩ := h
        refine s_iinc (ls' := [(2, l0), (0, z6), (0, (l2 + 1)), (0, (l3 + 1))]) C (d_of DX8_faultPlace 38 rfl) (by decide) rfl o15 rfl rfl ?_
        refine s_goto C (d_of DX8_faultPlace 39 rfl) rfl ?_
        exact h
    · have h := h.2 hc
      refine s_iload_n C (d_of DX8_faultPlace 21 rfl) rfl ?_
      exact s_ireturn C (d_of DX8_faultPlace 22 rfl) h
theorem E_X8_faultPlace {G : GP} {l : Launch} {P : Int → NS → MM → Prop} {l0 : Int} {w : NS} {M : MM} (h : ∀ X : BX, X.2.1 = l → CX_X8_faultPlace G X → A_X8_faultPlace_0 G X P l0 w M) : CT_X8_faultPlace G l [(2, l0)] w M P :=
  CT.of RX8 "faultPlace" (by decide +kernel) rfl rfl rfl (Nat.le_of_ble_eq_true rfl) (fun hr X hX C => h  X hX C)
def A_X9_fault_0 (G : GP) (X : BX) (P : Int → NS → MM → Prop) (w : NS) (M : MM) : Prop := WA true G X (QM G X true 0 P) 1 0 [(2, 1)] [] 0 0 w M
set_option maxHeartbeats 4000000 in
set_option maxRecDepth 100000 in
theorem B_X9_fault_0 {G : GP} {X : BX} {P : Int → NS → MM → Prop} {w : NS} {M : MM} (C : CX_X9_fault G X) (h : (w.2 (M 1 8) = (9, 2)) ∧ ∃ Q3 : Int → NS → MM → Prop, CT_X8_faultPlace G X.2.1 [(2, (M 1 8))] w M Q3 ∧ ∀ (z3 : Int) (w3 : NS) (M3 : MM), Q3 z3 w3 M3 → P z3 w3 M3) : A_X9_fault_0 G X P w M := by
  unfold A_X9_fault_0
  refine s_aload_n C (d_of DX9_fault 0 rfl) rfl ?_
  refine WA.fix (fun hF1 => ?_)
  refine gf_X9_47 (v0 := (M 1 8)) C (sh_1 hF1) (d_of DX9_fault 1 rfl) rfl ?_
  obtain ⟨o2, h⟩ := h
  obtain ⟨Q3, hKQ3, h⟩ := h
  refine s_callV (ci := 8) (av := []) (rest := []) (mc := 0) (ms := 0) C (d_of DX9_fault 2 rfl) lk_X9_198 o2 (by decide) rfl rfl rfl (Nat.le_of_ble_eq_true rfl) (by decide) (by decide) hKQ3 (fun z3 w3 M3 hq => ?_)
  have h := h z3 w3 M3 hq
  exact s_ireturn C (d_of DX9_fault 3 rfl) h
theorem E_X9_fault {G : GP} {l : Launch} {P : Int → NS → MM → Prop} {w : NS} {M : MM} (h : ∀ X : BX, X.2.1 = l → CX_X9_fault G X → A_X9_fault_0 G X P w M) : CT_X9_fault G l [(2, 1)] w M P :=
  CT.of RX9 "fault" (by decide +kernel) rfl rfl rfl (Nat.le_of_ble_eq_true rfl) (fun hr X hX C => h  X hX C)
def A_X3_init_0 (G : GP) (X : BX) (P : Int → NS → MM → Prop) (l0 : Int) (l1 : Int) (l2 : Int) (l3 : Int) (l4 : Int) (l5 : Int) (l6 : Int) (l7 : Int) (rc rs : Nat) (w : NS) (M : MM) : Prop := WA false G X (QM G X false 4 P) 8 0 [(2, l0), (0, l1), (2, l2), (0, l3), (0, l4), (0, l5), (0, l6), (0, l7)] [] rc rs w M
set_option maxHeartbeats 4000000 in
set_option maxRecDepth 100000 in
theorem B_X3_init_0 {G : GP} {X : BX} {P : Int → NS → MM → Prop} {l0 : Int} {l1 : Int} {l2 : Int} {l3 : Int} {l4 : Int} {l5 : Int} {l6 : Int} {l7 : Int} {rc rs : Nat} {w : NS} {M : MM} (C : CX_X3_init G X) (h : (w.2 l0 = (4, 7)) ∧ ∀ M2 : MM, M2 = (up M l0 0 l1) → ∀ M3 : MM, M3 = (up M2 l0 1 l2) → ∀ M4 : MM, M4 = (up M3 l0 2 l3) → ∀ M5 : MM, M5 = (up M4 l0 3 l4) → ∀ M6 : MM, M6 = (up M5 l0 4 l5) → ∀ M7 : MM, M7 = (up M6 l0 5 l6) → (l7 = 0 ∨ l7 = 1) ∧ ∀ M9 : MM, M9 = (up M7 l0 6 l7) → P 0 w M9) : A_X3_init_0 G X P l0 l1 l2 l3 l4 l5 l6 l7 (rc + 0) (rs + 0) w M := by
  unfold A_X3_init_0
  refine s_aload_n C (d_of DX3_init 0 rfl) rfl ?_
  obtain ⟨o1, h⟩ := h
  refine s_objInit C o1 (by decide) (mG (wd_488) rfl) (mG (wd_81) rfl) (mG (wd_82) rfl) (by decide) (by decide) (Nat.le_of_ble_eq_true rfl) (d_of DX3_init 1 rfl) ?_
  refine s_aload_n C (d_of DX3_init 2 rfl) rfl ?_
  refine s_iload_n C (d_of DX3_init 3 rfl) rfl ?_
  refine pf_X3_7 C o1 (fun e => by cases e) (d_of DX3_init 4 rfl) ?_
  refine WA.nmM (fun M2 eM2 => ?_)
  have h := h _ eM2
  refine s_aload_n C (d_of DX3_init 5 rfl) rfl ?_
  refine s_aload_n C (d_of DX3_init 6 rfl) rfl ?_
  refine pf_X3_13 C o1 (fun e => by cases e) (d_of DX3_init 7 rfl) ?_
  refine WA.nmM (fun M3 eM3 => ?_)
  have h := h _ eM3
  refine s_aload_n C (d_of DX3_init 8 rfl) rfl ?_
  refine s_iload_n C (d_of DX3_init 9 rfl) rfl ?_
  refine pf_X3_17 C o1 (fun e => by cases e) (d_of DX3_init 10 rfl) ?_
  refine WA.nmM (fun M4 eM4 => ?_)
  have h := h _ eM4
  refine s_aload_n C (d_of DX3_init 11 rfl) rfl ?_
  refine s_iload C (d_of DX3_init 12 rfl) rfl ?_
  refine pf_X3_20 C o1 (fun e => by cases e) (d_of DX3_init 13 rfl) ?_
  refine WA.nmM (fun M5 eM5 => ?_)
  have h := h _ eM5
  refine s_aload_n C (d_of DX3_init 14 rfl) rfl ?_
  refine s_iload C (d_of DX3_init 15 rfl) rfl ?_
  refine pf_X3_23 C o1 (fun e => by cases e) (d_of DX3_init 16 rfl) ?_
  refine WA.nmM (fun M6 eM6 => ?_)
  have h := h _ eM6
  refine s_aload_n C (d_of DX3_init 17 rfl) rfl ?_
  refine s_iload C (d_of DX3_init 18 rfl) rfl ?_
  refine pf_X3_26 C o1 (fun e => by cases e) (d_of DX3_init 19 rfl) ?_
  refine WA.nmM (fun M7 eM7 => ?_)
  have h := h _ eM7
  refine s_aload_n C (d_of DX3_init 20 rfl) rfl ?_
  refine s_iload C (d_of DX3_init 21 rfl) rfl ?_
  obtain ⟨o8, h⟩ := h
  refine pf_X3_29 C o1 o8 (fun e => by cases e) (d_of DX3_init 22 rfl) ?_
  refine WA.nmM (fun M9 eM9 => ?_)
  have h := h _ eM9
  exact s_vreturn C (d_of DX3_init 23 rfl) h
theorem E_X3_init {G : GP} {l : Launch} {P : Int → NS → MM → Prop} {l0 : Int} {l1 : Int} {l2 : Int} {l3 : Int} {l4 : Int} {l5 : Int} {l6 : Int} {l7 : Int} {w : NS} {M : MM} (h : inR l1 → inR l3 → inR l4 → inR l5 → inR l6 → inR l7 → ∀ X : BX, X.2.1 = l → CX_X3_init G X → A_X3_init_0 G X P l0 l1 l2 l3 l4 l5 l6 l7 0 0 w M) : CT_X3_init G l [(2, l0), (0, l1), (2, l2), (0, l3), (0, l4), (0, l5), (0, l6), (0, l7)] w M P :=
  CT.of RX3 "<init>" (by decide +kernel) rfl rfl rfl (Nat.le_of_ble_eq_true rfl) (fun hr X hX C => h (hr (0, l1) (by simp)) (hr (0, l3) (by simp)) (hr (0, l4) (by simp)) (hr (0, l5) (by simp)) (hr (0, l6) (by simp)) (hr (0, l7) (by simp)) X hX C)
def A_X9_order_0 (G : GP) (X : BX) (P : Int → NS → MM → Prop) (l1 : Int) (l2 : Int) (l3 : Int) (l4 : Int) (l5 : Int) (l6 : Int) (w : NS) (M : MM) : Prop := WA true G X (QM G X true 0 P) 7 0 [(2, 1), (0, l1), (0, l2), (0, l3), (0, l4), (0, l5), (0, l6)] [] 3 49 w M
set_option maxHeartbeats 4000000 in
set_option maxRecDepth 100000 in
theorem B_X9_order_0 {G : GP} {X : BX} {P : Int → NS → MM → Prop} {l1 : Int} {l2 : Int} {l3 : Int} {l4 : Int} {l5 : Int} {l6 : Int} {w : NS} {M : MM} (C : CX_X9_order G X) (h : (((¬ (0 ≤ l1 ∧ l1 ≤ 5)) → P (-2) w M) ∧ (((0 ≤ l1 ∧ l1 ≤ 5)) → (((¬ (0 ≤ l2 ∧ l2 ≤ 1023)) → P (-2) w M) ∧ (((0 ≤ l2 ∧ l2 ≤ 1023)) → (((¬ (0 ≤ l3 ∧ l3 ≤ l4 ∧ l4 < 100)) → P (-2) w M) ∧ (((0 ≤ l3 ∧ l3 ≤ l4 ∧ l4 < 100)) → ((((0 ≤ l5 ∧ l5 ≤ 20)) → ((((M 1 7) < 10) → (w.2 (M 1 8) = (9, 2)) ∧ ∃ Q7 : Int → NS → MM → Prop, CT_X8_faultPlace G X.2.1 [(2, (M 1 8))] w M Q7 ∧ ∀ (z7 : Int) (w7 : NS) (M7 : MM), Q7 z7 w7 M7 → (((z7 = (-6)) → ∀ w9 : NS, w9 = (w7.1 + 1, us w7.2 w7.1 4 7) → (1 < (w7.1 : Int)) ∧ ∃ Q15 : Int → NS → MM → Prop, CT_X3_init G X.2.1 [(2, (w7.1 : Int)), (0, l1), (2, (M7 1 8)), (0, l2), (0, l3), (0, l4), (0, l5), (0, l6)] w9 M7 Q15 ∧ ∀ (z15 : Int) (w15 : NS) (M15 : MM), Q15 z15 w15 M15 → (FixA w15 M15) ∧ (0 ≤ (M7 1 7)) ∧ ((M7 1 7) < 10) ∧ (w15.2 (w7.1 : Int) = (4, 7)) ∧ ∀ w21 : NS, w21 = (w15.1 + 1, us w15.2 w15.1 9 2) → (6 < (w15.1 : Int)) ∧ ((w7.1 : Int) < (w15.1 : Int)) ∧ ∃ Q30 : Int → NS → MM → Prop, CT_X8_init G X.2.1 [(2, (w15.1 : Int))] w21 (up M15 6 (M7 1 7) (w7.1 : Int)) Q30 ∧ ∀ (z30 : Int) (w30 : NS) (M30 : MM), Q30 z30 w30 M30 → (FixA w30 M30) ∧ (inR ((M30 1 7) + 1)) ∧ P (M30 1 7) w30 (up (up M30 1 8 (w15.1 : Int)) 1 7 ((M30 1 7) + 1))) ∧ ((¬ (z7 = (-6))) → P (-5) w7 M7))) ∧ ((¬ ((M 1 7) < 10)) → P (-4) w M))) ∧ ((¬ (0 ≤ l5 ∧ l5 ≤ 20)) → P (-2) w M))))))))) : A_X9_order_0 G X P l1 l2 l3 l4 l5 l6 w M := by
  unfold A_X9_order_0
  refine s_iload_n C (d_of DX9_order 0 rfl) rfl ?_
  refine s_callS (av := [(0, l1)]) (rest := []) (mc := 0) (ms := 0) C (d_of DX9_order 1 rfl) lk_X9_202 rfl rfl (Nat.le_of_ble_eq_true rfl) (by decide) (by decide) (pc_X9_isClient) (fun z1 wz1 Mz1 hq => ?_)
  obtain ⟨hq1, hq2, hq3⟩ := hq
  have hq2 := hq2.symm
  have hq3 := hq3.symm
  subst hq1 hq2 hq3
  refine s_ifeq C (d_of DX9_order 2 rfl) rfl (fun hc => ?_) (fun hc => ?_)
  · have h := h.1 (b2i_0.mp hc)
    refine s_bipush C (d_of DX9_order 18 rfl) ⟨rfl, by decide, by decide⟩ ?_
    exact s_ireturn C (d_of DX9_order 19 rfl) h
  · have h := h.2 (b2i_n0 hc)
    refine s_iload_n C (d_of DX9_order 3 rfl) rfl ?_
    refine s_iconst C (d_of DX9_order 4 rfl) (by decide) ?_
    refine s_sipush C (d_of DX9_order 5 rfl) ⟨rfl, by decide, by decide⟩ ?_
    refine s_callS (av := [(0, l2), (0, 0), (0, 1023)]) (rest := []) (mc := 0) (ms := 0) C (d_of DX9_order 6 rfl) lk_X9_95 rfl rfl (Nat.le_of_ble_eq_true rfl) (by decide) (by decide) (pc_X9_within) (fun z2 wz2 Mz2 hq => ?_)
    obtain ⟨hq1, hq2, hq3⟩ := hq
    have hq2 := hq2.symm
    have hq3 := hq3.symm
    subst hq1 hq2 hq3
    refine s_ifeq C (d_of DX9_order 7 rfl) rfl (fun hc => ?_) (fun hc => ?_)
    · have h := h.1 (b2i_0.mp hc)
      refine s_bipush C (d_of DX9_order 18 rfl) ⟨rfl, by decide, by decide⟩ ?_
      exact s_ireturn C (d_of DX9_order 19 rfl) h
    · have h := h.2 (b2i_n0 hc)
      refine s_iload_n C (d_of DX9_order 8 rfl) rfl ?_
      refine s_iload C (d_of DX9_order 9 rfl) rfl ?_
      refine s_bipush C (d_of DX9_order 10 rfl) ⟨rfl, by decide, by decide⟩ ?_
      refine s_callS (av := [(0, l3), (0, l4), (0, 100)]) (rest := []) (mc := 0) (ms := 0) C (d_of DX9_order 11 rfl) lk_X9_145 rfl rfl (Nat.le_of_ble_eq_true rfl) (by decide) (by decide) (pc_X9_isRange) (fun z3 wz3 Mz3 hq => ?_)
      obtain ⟨hq1, hq2, hq3⟩ := hq
      have hq2 := hq2.symm
      have hq3 := hq3.symm
      subst hq1 hq2 hq3
      refine s_ifeq C (d_of DX9_order 12 rfl) rfl (fun hc => ?_) (fun hc => ?_)
      · have h := h.1 (b2i_0.mp hc)
        refine s_bipush C (d_of DX9_order 18 rfl) ⟨rfl, by decide, by decide⟩ ?_
        exact s_ireturn C (d_of DX9_order 19 rfl) h
      · have h := h.2 (b2i_n0 hc)
        refine s_iload C (d_of DX9_order 13 rfl) rfl ?_
        refine s_iconst C (d_of DX9_order 14 rfl) (by decide) ?_
        refine s_bipush C (d_of DX9_order 15 rfl) ⟨rfl, by decide, by decide⟩ ?_
        refine s_callS (av := [(0, l5), (0, 0), (0, 20)]) (rest := []) (mc := 0) (ms := 0) C (d_of DX9_order 16 rfl) lk_X9_95 rfl rfl (Nat.le_of_ble_eq_true rfl) (by decide) (by decide) (pc_X9_within) (fun z4 wz4 Mz4 hq => ?_)
        obtain ⟨hq1, hq2, hq3⟩ := hq
        have hq2 := hq2.symm
        have hq3 := hq3.symm
        subst hq1 hq2 hq3
        refine s_ifne C (d_of DX9_order 17 rfl) rfl (fun hc => ?_) (fun hc => ?_)
        · have h := h.1 (b2i_n0 hc)
          refine s_aload_n C (d_of DX9_order 20 rfl) rfl ?_
          refine WA.fix (fun hF5 => ?_)
          refine gf_X9_41 (v0 := (M 1 7)) C (sh_1 hF5) (d_of DX9_order 21 rfl) rfl ?_
          refine s_bipush C (d_of DX9_order 22 rfl) ⟨rfl, by decide, by decide⟩ ?_
          refine s_icmplt C (d_of DX9_order 23 rfl) rfl (fun hc => ?_) (fun hc => ?_)
          · have h := h.1 hc
            refine s_aload_n C (d_of DX9_order 26 rfl) rfl ?_
            refine gf_X9_47 (v0 := (M 1 8)) C (sh_1 hF5) (d_of DX9_order 27 rfl) rfl ?_
            obtain ⟨o6, h⟩ := h
            obtain ⟨Q7, hKQ7, h⟩ := h
            refine s_callV (ci := 8) (av := []) (rest := []) (mc := 0) (ms := 0) C (d_of DX9_order 28 rfl) lk_X9_198 o6 (by decide) rfl rfl rfl (Nat.le_of_ble_eq_true rfl) (by decide) (by decide) hKQ7 (fun z7 w7 M7 hq => ?_)
            have h := h z7 w7 M7 hq
            refine s_bipush C (d_of DX9_order 29 rfl) ⟨rfl, by decide, by decide⟩ ?_
            refine s_icmpeq C (d_of DX9_order 30 rfl) rfl (fun hc => ?_) (fun hc => ?_)
            · have h := h.1 hc
              refine s_aload_n C (d_of DX9_order 33 rfl) rfl ?_
              refine WA.fix (fun hF8 => ?_)
              refine gf_X9_37 C (sh_1 hF8) (d_of DX9_order 34 rfl) (fx_1_6 hF8) ?_
              refine s_aload_n C (d_of DX9_order 35 rfl) rfl ?_
              refine gf_X9_41 (v0 := (M7 1 7)) C (sh_1 hF8) (d_of DX9_order 36 rfl) rfl ?_
              refine nw_X9_35 C (d_of DX9_order 37 rfl) ?_
              refine WA.nmW (fun w9 ew9 => ?_)
              have h := h _ ew9
              obtain ⟨o10, h⟩ := h
              have k11 : w9.2 1 = (10, 17) := by rw [ew9]; exact us_ne (sh_1 hF8) (Int.ne_of_lt o10)
              have b12 : 1 < (w9.1 : Int) := by have := o10; rw [ew9]; show _ < ((w7.1 + 1 : Nat) : Int); omega
              have k13 : w9.2 (w7.1 : Int) = (4, 7) := by rw [ew9]; exact us_new _ _ _ _
              have b14 : (w7.1 : Int) < (w9.1 : Int) := by rw [ew9]; show _ < ((w7.1 + 1 : Nat) : Int); omega
              refine s_dup C (by simp) (d_of DX9_order 38 rfl) ?_
              refine s_iload_n C (d_of DX9_order 39 rfl) rfl ?_
              refine s_aload_n C (d_of DX9_order 40 rfl) rfl ?_
              refine gf_X9_47 (v0 := (M7 1 8)) C k11 (d_of DX9_order 41 rfl) rfl ?_
              refine s_iload_n C (d_of DX9_order 42 rfl) rfl ?_
              refine s_iload_n C (d_of DX9_order 43 rfl) rfl ?_
              refine s_iload C (d_of DX9_order 44 rfl) rfl ?_
              refine s_iload C (d_of DX9_order 45 rfl) rfl ?_
              refine s_iload C (d_of DX9_order 46 rfl) rfl ?_
              obtain ⟨Q15, hKQ15, h⟩ := h
              refine s_callI (av := [(0, l1), (2, (M7 1 8)), (0, l2), (0, l3), (0, l4), (0, l5), (0, l6)]) (rest := [(2, (w7.1 : Int)), (0, (M7 1 7)), (2, 6)]) (mc := 0) (ms := 0) C (d_of DX9_order 47 rfl) lk_X9_205 k13 (by decide) rfl rfl (Nat.le_of_ble_eq_true rfl) (by decide) (by decide) hKQ15 (fun z15 w15 M15 hq => ?_)
              have h := h z15 w15 M15 hq
              obtain ⟨o16, h⟩ := h
              refine WA.refix o16 ?_
              refine WA.fix (fun hF17 => ?_)
              obtain ⟨o18, h⟩ := h
              obtain ⟨o19, h⟩ := h
              obtain ⟨o20, h⟩ := h
              refine s_aast (t0 := 4) (ci := 3) C (sh_6 hF17) (by decide) rfl rfl (by decide) o20 o18 o19 (fun _ => by decide) (d_of DX9_order 48 rfl) ?_
              refine s_aload_n C (d_of DX9_order 49 rfl) rfl ?_
              refine nw_X9_44 C (d_of DX9_order 50 rfl) ?_
              refine WA.nmW (fun w21 ew21 => ?_)
              have h := h _ ew21
              obtain ⟨o22, h⟩ := h
              have k23 : w21.2 6 = (16, 10) := by rw [ew21]; exact us_ne (sh_6 hF17) (Int.ne_of_lt o22)
              have b24 : 6 < (w21.1 : Int) := by have := o22; rw [ew21]; show _ < ((w15.1 + 1 : Nat) : Int); omega
              obtain ⟨o25, h⟩ := h
              have k26 : w21.2 (w7.1 : Int) = (4, 7) := by rw [ew21]; exact us_ne o20 (Int.ne_of_lt o25)
              have b27 : (w7.1 : Int) < (w21.1 : Int) := by have := o25; rw [ew21]; show _ < ((w15.1 + 1 : Nat) : Int); omega
              have k28 : w21.2 (w15.1 : Int) = (9, 2) := by rw [ew21]; exact us_new _ _ _ _
              have b29 : (w15.1 : Int) < (w21.1 : Int) := by rw [ew21]; show _ < ((w15.1 + 1 : Nat) : Int); omega
              refine s_dup C (by simp) (d_of DX9_order 51 rfl) ?_
              obtain ⟨Q30, hKQ30, h⟩ := h
              refine s_callIN (av := []) (rest := [(2, (w15.1 : Int)), (2, 1)]) (mc := 1) (ms := 40) C (d_of DX9_order 52 rfl) lk_X9_46 k28 (by decide) rfl rfl (Nat.le_of_ble_eq_true rfl) (by decide) (by decide) hKQ30 (fun z30 w30 M30 hq => ?_)
              have h := h z30 w30 M30 hq
              obtain ⟨o31, h⟩ := h
              refine WA.refix o31 ?_
              refine WA.fix (fun hF32 => ?_)
              refine pf_X9_47 C (sh_1 hF32) (fun _ => by decide) (d_of DX9_order 53 rfl) ?_
              refine s_aload_n C (d_of DX9_order 54 rfl) rfl ?_
              refine s_dup C (by simp) (d_of DX9_order 55 rfl) ?_
              refine gf_X9_41 (v0 := (M30 1 7)) C (sh_1 hF32) (d_of DX9_order 56 rfl) (up_ni (by decide)) ?_
              refine s_dup_x1 C (by simp) (by simp) (d_of DX9_order 57 rfl) ?_
              refine s_iconst C (d_of DX9_order 58 rfl) (by decide) ?_
              obtain ⟨o33, h⟩ := h
              refine s_iadd C (d_of DX9_order 59 rfl) o33 ?_
              refine pf_X9_41 C (sh_1 hF32) (fun _ => by decide) (d_of DX9_order 60 rfl) ?_
              exact s_ireturn C (d_of DX9_order 61 rfl) h
            · have h := h.2 hc
              refine s_bipush C (d_of DX9_order 31 rfl) ⟨rfl, by decide, by decide⟩ ?_
              exact s_ireturn C (d_of DX9_order 32 rfl) h
          · have h := h.2 hc
            refine s_bipush C (d_of DX9_order 24 rfl) ⟨rfl, by decide, by decide⟩ ?_
            exact s_ireturn C (d_of DX9_order 25 rfl) h
        · have h := h.2 (b2i_nn hc)
          refine s_bipush C (d_of DX9_order 18 rfl) ⟨rfl, by decide, by decide⟩ ?_
          exact s_ireturn C (d_of DX9_order 19 rfl) h
theorem E_X9_order {G : GP} {l : Launch} {P : Int → NS → MM → Prop} {l1 : Int} {l2 : Int} {l3 : Int} {l4 : Int} {l5 : Int} {l6 : Int} {w : NS} {M : MM} (h : inR l1 → inR l2 → inR l3 → inR l4 → inR l5 → inR l6 → ∀ X : BX, X.2.1 = l → CX_X9_order G X → A_X9_order_0 G X P l1 l2 l3 l4 l5 l6 w M) : CT_X9_order G l [(2, 1), (0, l1), (0, l2), (0, l3), (0, l4), (0, l5), (0, l6)] w M P :=
  CT.of RX9 "order" (by decide +kernel) rfl rfl rfl (Nat.le_of_ble_eq_true rfl) (fun hr X hX C => h (hr (0, l1) (by simp)) (hr (0, l2) (by simp)) (hr (0, l3) (by simp)) (hr (0, l4) (by simp)) (hr (0, l5) (by simp)) (hr (0, l6) (by simp)) X hX C)
def A_X8_signAt_0 (G : GP) (X : BX) (P : Int → NS → MM → Prop) (l0 : Int) (l1 : Int) (w : NS) (M : MM) : Prop := WA true G X (QM G X true 0 P) 2 0 [(2, l0), (0, l1)] [] 0 0 w M
set_option maxHeartbeats 4000000 in
set_option maxRecDepth 100000 in
theorem B_X8_signAt_0 {G : GP} {X : BX} {P : Int → NS → MM → Prop} {l0 : Int} {l1 : Int} {w : NS} {M : MM} (C : CX_X8_signAt G X) (h : (((l1 < 0) → P 0 w M) ∧ ((¬ (l1 < 0)) → (w.2 l0 = (9, 2)) ∧ ((((M l0 1) ≤ l1) → P 0 w M) ∧ ((¬ ((M l0 1) ≤ l1)) → (0 ≤ l1) ∧ (l1 < 40) ∧ P (M (l0 + 1) l1) w M))))) : A_X8_signAt_0 G X P l0 l1 w M := by
  unfold A_X8_signAt_0
  refine s_iload_n C (d_of DX8_signAt 0 rfl) rfl ?_
  refine s_iflt C (d_of DX8_signAt 1 rfl) rfl (fun hc => ?_) (fun hc => ?_)
  · have h := h.1 hc
    refine s_iconst C (d_of DX8_signAt 11 rfl) (by decide) ?_
    exact s_ireturn C (d_of DX8_signAt 12 rfl) h
  · have h := h.2 hc
    refine s_iload_n C (d_of DX8_signAt 2 rfl) rfl ?_
    refine s_aload_n C (d_of DX8_signAt 3 rfl) rfl ?_
    obtain ⟨o1, h⟩ := h
    refine gf_X8_15 (v0 := (M l0 1)) C o1 (d_of DX8_signAt 4 rfl) rfl ?_
    refine s_icmpge C (d_of DX8_signAt 5 rfl) rfl (fun hc => ?_) (fun hc => ?_)
    · have h := h.1 hc
      refine s_iconst C (d_of DX8_signAt 11 rfl) (by decide) ?_
      exact s_ireturn C (d_of DX8_signAt 12 rfl) h
    · have h := h.2 hc
      refine s_aload_n C (d_of DX8_signAt 6 rfl) rfl ?_
      refine WA.fix (fun hF2 => ?_)
      have hd3 := FixA.dy (t := 9) (n := 2) (k := 0) (m := 40) hF2 (by decide) o1
      refine gf_X8_11 C o1 (d_of DX8_signAt 7 rfl) hd3.1 ?_
      refine s_iload_n C (d_of DX8_signAt 8 rfl) rfl ?_
      obtain ⟨o4, h⟩ := h
      obtain ⟨o5, h⟩ := h
      refine s_iald (v0 := (M (l0 + 1) l1)) C hd3.2 o4 o5 (d_of DX8_signAt 9 rfl) rfl ?_
      refine s_goto C (d_of DX8_signAt 10 rfl) rfl ?_
      exact s_ireturn C (d_of DX8_signAt 12 rfl) h
theorem E_X8_signAt {G : GP} {l : Launch} {P : Int → NS → MM → Prop} {l0 : Int} {l1 : Int} {w : NS} {M : MM} (h : inR l1 → ∀ X : BX, X.2.1 = l → CX_X8_signAt G X → A_X8_signAt_0 G X P l0 l1 w M) : CT_X8_signAt G l [(2, l0), (0, l1)] w M P :=
  CT.of RX8 "signAt" (by decide +kernel) rfl rfl rfl (Nat.le_of_ble_eq_true rfl) (fun hr X hX C => h (hr (0, l1) (by simp)) X hX C)
def A_X8_digitAt_0 (G : GP) (X : BX) (P : Int → NS → MM → Prop) (l0 : Int) (l1 : Int) (w : NS) (M : MM) : Prop := WA true G X (QM G X true 0 P) 3 0 [(2, l0), (0, l1), (3, 0)] [] 0 0 w M
set_option maxHeartbeats 4000000 in
set_option maxRecDepth 100000 in
theorem B_X8_digitAt_0 {G : GP} {X : BX} {P : Int → NS → MM → Prop} {l0 : Int} {l1 : Int} {w : NS} {M : MM} (C : CX_X8_digitAt G X) (h : (((l1 < 0) → P (-1) w M) ∧ ((¬ (l1 < 0)) → (w.2 l0 = (9, 2)) ∧ ((((M l0 1) ≤ l1) → P (-1) w M) ∧ ((¬ ((M l0 1) ≤ l1)) → (0 ≤ l1) ∧ (l1 < 40) ∧ ((((M (l0 + 1) l1) < 48) → P (-1) w M) ∧ ((¬ ((M (l0 + 1) l1) < 48)) → (((57 < (M (l0 + 1) l1)) → P (-1) w M) ∧ ((¬ (57 < (M (l0 + 1) l1))) → (inR ((M (l0 + 1) l1) - 48)) ∧ P ((M (l0 + 1) l1) - 48) w M))))))))) : A_X8_digitAt_0 G X P l0 l1 w M := by
  unfold A_X8_digitAt_0
  refine s_iload_n C (d_of DX8_digitAt 0 rfl) rfl ?_
  refine s_iflt C (d_of DX8_digitAt 1 rfl) rfl (fun hc => ?_) (fun hc => ?_)
  · have h := h.1 hc
    refine s_iconst C (d_of DX8_digitAt 20 rfl) (by decide) ?_
    refine s_istore_n (ls' := [(2, l0), (0, l1), (0, 0)]) C (d_of DX8_digitAt 21 rfl) (by decide) rfl rfl ?_
    refine s_iload_n C (d_of DX8_digitAt 22 rfl) rfl ?_
    refine s_ifeq C (d_of DX8_digitAt 23 rfl) rfl (fun hc => ?_) (fun hc => absurd (by decide) hc)
    refine s_iconst C (d_of DX8_digitAt 31 rfl) (by decide) ?_
    exact s_ireturn C (d_of DX8_digitAt 32 rfl) h
  · have h := h.2 hc
    refine s_iload_n C (d_of DX8_digitAt 2 rfl) rfl ?_
    refine s_aload_n C (d_of DX8_digitAt 3 rfl) rfl ?_
    obtain ⟨o1, h⟩ := h
    refine gf_X8_15 (v0 := (M l0 1)) C o1 (d_of DX8_digitAt 4 rfl) rfl ?_
    refine s_icmpge C (d_of DX8_digitAt 5 rfl) rfl (fun hc => ?_) (fun hc => ?_)
    · have h := h.1 hc
      refine s_iconst C (d_of DX8_digitAt 20 rfl) (by decide) ?_
      refine s_istore_n (ls' := [(2, l0), (0, l1), (0, 0)]) C (d_of DX8_digitAt 21 rfl) (by decide) rfl rfl ?_
      refine s_iload_n C (d_of DX8_digitAt 22 rfl) rfl ?_
      refine s_ifeq C (d_of DX8_digitAt 23 rfl) rfl (fun hc => ?_) (fun hc => absurd (by decide) hc)
      refine s_iconst C (d_of DX8_digitAt 31 rfl) (by decide) ?_
      exact s_ireturn C (d_of DX8_digitAt 32 rfl) h
    · have h := h.2 hc
      refine s_aload_n C (d_of DX8_digitAt 6 rfl) rfl ?_
      refine WA.fix (fun hF2 => ?_)
      have hd3 := FixA.dy (t := 9) (n := 2) (k := 0) (m := 40) hF2 (by decide) o1
      refine gf_X8_11 C o1 (d_of DX8_digitAt 7 rfl) hd3.1 ?_
      refine s_iload_n C (d_of DX8_digitAt 8 rfl) rfl ?_
      obtain ⟨o4, h⟩ := h
      obtain ⟨o5, h⟩ := h
      refine s_iald (v0 := (M (l0 + 1) l1)) C hd3.2 o4 o5 (d_of DX8_digitAt 9 rfl) rfl ?_
      refine s_bipush C (d_of DX8_digitAt 10 rfl) ⟨rfl, by decide, by decide⟩ ?_
      refine s_icmplt C (d_of DX8_digitAt 11 rfl) rfl (fun hc => ?_) (fun hc => ?_)
      · have h := h.1 hc
        refine s_iconst C (d_of DX8_digitAt 20 rfl) (by decide) ?_
        refine s_istore_n (ls' := [(2, l0), (0, l1), (0, 0)]) C (d_of DX8_digitAt 21 rfl) (by decide) rfl rfl ?_
        refine s_iload_n C (d_of DX8_digitAt 22 rfl) rfl ?_
        refine s_ifeq C (d_of DX8_digitAt 23 rfl) rfl (fun hc => ?_) (fun hc => absurd (by decide) hc)
        refine s_iconst C (d_of DX8_digitAt 31 rfl) (by decide) ?_
        exact s_ireturn C (d_of DX8_digitAt 32 rfl) h
      · have h := h.2 hc
        refine s_aload_n C (d_of DX8_digitAt 12 rfl) rfl ?_
        have hd6 := FixA.dy (t := 9) (n := 2) (k := 0) (m := 40) hF2 (by decide) o1
        refine gf_X8_11 C o1 (d_of DX8_digitAt 13 rfl) hd6.1 ?_
        refine s_iload_n C (d_of DX8_digitAt 14 rfl) rfl ?_
        refine s_iald (v0 := (M (l0 + 1) l1)) C hd6.2 o4 o5 (d_of DX8_digitAt 15 rfl) rfl ?_
        refine s_bipush C (d_of DX8_digitAt 16 rfl) ⟨rfl, by decide, by decide⟩ ?_
        refine s_icmpgt C (d_of DX8_digitAt 17 rfl) rfl (fun hc => ?_) (fun hc => ?_)
        · have h := h.1 hc
          refine s_iconst C (d_of DX8_digitAt 20 rfl) (by decide) ?_
          refine s_istore_n (ls' := [(2, l0), (0, l1), (0, 0)]) C (d_of DX8_digitAt 21 rfl) (by decide) rfl rfl ?_
          refine s_iload_n C (d_of DX8_digitAt 22 rfl) rfl ?_
          refine s_ifeq C (d_of DX8_digitAt 23 rfl) rfl (fun hc => ?_) (fun hc => absurd (by decide) hc)
          refine s_iconst C (d_of DX8_digitAt 31 rfl) (by decide) ?_
          exact s_ireturn C (d_of DX8_digitAt 32 rfl) h
        · have h := h.2 hc
          refine s_iconst C (d_of DX8_digitAt 18 rfl) (by decide) ?_
          refine s_goto C (d_of DX8_digitAt 19 rfl) rfl ?_
          refine s_istore_n (ls' := [(2, l0), (0, l1), (0, 1)]) C (d_of DX8_digitAt 21 rfl) (by decide) rfl rfl ?_
          refine s_iload_n C (d_of DX8_digitAt 22 rfl) rfl ?_
          refine s_ifeq C (d_of DX8_digitAt 23 rfl) rfl (fun hc => absurd hc (by decide)) (fun hc => ?_)
          refine s_aload_n C (d_of DX8_digitAt 24 rfl) rfl ?_
          have hd7 := FixA.dy (t := 9) (n := 2) (k := 0) (m := 40) hF2 (by decide) o1
          refine gf_X8_11 C o1 (d_of DX8_digitAt 25 rfl) hd7.1 ?_
          refine s_iload_n C (d_of DX8_digitAt 26 rfl) rfl ?_
          refine s_iald (v0 := (M (l0 + 1) l1)) C hd7.2 o4 o5 (d_of DX8_digitAt 27 rfl) rfl ?_
          refine s_bipush C (d_of DX8_digitAt 28 rfl) ⟨rfl, by decide, by decide⟩ ?_
          obtain ⟨o8, h⟩ := h
          refine s_isub C (d_of DX8_digitAt 29 rfl) o8 ?_
          refine s_goto C (d_of DX8_digitAt 30 rfl) rfl ?_
          exact s_ireturn C (d_of DX8_digitAt 32 rfl) h
theorem E_X8_digitAt {G : GP} {l : Launch} {P : Int → NS → MM → Prop} {l0 : Int} {l1 : Int} {w : NS} {M : MM} (h : inR l1 → ∀ X : BX, X.2.1 = l → CX_X8_digitAt G X → A_X8_digitAt_0 G X P l0 l1 w M) : CT_X8_digitAt G l [(2, l0), (0, l1)] w M P :=
  CT.of RX8 "digitAt" (by decide +kernel) rfl rfl rfl (Nat.le_of_ble_eq_true rfl) (fun hr X hX C => h (hr (0, l1) (by simp)) X hX C)
def A_X8_startsItem_0 (G : GP) (X : BX) (P : Int → NS → MM → Prop) (l0 : Int) (l1 : Int) (w : NS) (M : MM) : Prop := WA true G X (QM G X true 0 P) 4 0 [(2, l0), (0, l1), (3, 0), (3, 0)] [] 0 0 w M
set_option maxHeartbeats 4000000 in
set_option maxRecDepth 100000 in
theorem B_X8_startsItem_0 {G : GP} {X : BX} {P : Int → NS → MM → Prop} {l0 : Int} {l1 : Int} {w : NS} {M : MM} (C : CX_X8_startsItem G X) (h : (inR (l1 - 1)) ∧ (w.2 l0 = (9, 2)) ∧ ∃ Q3 : Int → NS → MM → Prop, CT_X8_signAt G X.2.1 [(2, l0), (0, (l1 - 1))] w M Q3 ∧ ∀ (z3 : Int) (w3 : NS) (M3 : MM), Q3 z3 w3 M3 → (w3.2 l0 = (9, 2)) ∧ ∃ Q5 : Int → NS → MM → Prop, CT_X8_digitAt G X.2.1 [(2, l0), (0, (l1 - 1))] w3 M3 Q5 ∧ ∀ (z5 : Int) (w5 : NS) (M5 : MM), Q5 z5 w5 M5 → (((0 ≤ z5) → (w5.2 l0 = (9, 2)) ∧ ∃ Q7 : Int → NS → MM → Prop, CT_X8_digitAt G X.2.1 [(2, l0), (0, l1)] w5 M5 Q7 ∧ ∀ (z7 : Int) (w7 : NS) (M7 : MM), Q7 z7 w7 M7 → (((z7 < 0) → P 0 w7 M7) ∧ ((¬ (z7 < 0)) → P 0 w7 M7))) ∧ ((¬ (0 ≤ z5)) → (((z3 = 126) → (w5.2 l0 = (9, 2)) ∧ ∃ Q9 : Int → NS → MM → Prop, CT_X8_digitAt G X.2.1 [(2, l0), (0, l1)] w5 M5 Q9 ∧ ∀ (z9 : Int) (w9 : NS) (M9 : MM), Q9 z9 w9 M9 → (((z9 < 0) → P 0 w9 M9) ∧ ((¬ (z9 < 0)) → P 0 w9 M9))) ∧ ((¬ (z3 = 126)) → (((z3 = 58) → (w5.2 l0 = (9, 2)) ∧ ∃ Q11 : Int → NS → MM → Prop, CT_X8_digitAt G X.2.1 [(2, l0), (0, l1)] w5 M5 Q11 ∧ ∀ (z11 : Int) (w11 : NS) (M11 : MM), Q11 z11 w11 M11 → (((z11 < 0) → P 0 w11 M11) ∧ ((¬ (z11 < 0)) → P 0 w11 M11))) ∧ ((¬ (z3 = 58)) → (((z3 ≠ 62) → (w5.2 l0 = (9, 2)) ∧ ∃ Q13 : Int → NS → MM → Prop, CT_X8_digitAt G X.2.1 [(2, l0), (0, l1)] w5 M5 Q13 ∧ ∀ (z13 : Int) (w13 : NS) (M13 : MM), Q13 z13 w13 M13 → (((z13 < 0) → P 0 w13 M13) ∧ ((¬ (z13 < 0)) → P 1 w13 M13))) ∧ ((¬ (z3 ≠ 62)) → (w5.2 l0 = (9, 2)) ∧ ∃ Q15 : Int → NS → MM → Prop, CT_X8_digitAt G X.2.1 [(2, l0), (0, l1)] w5 M5 Q15 ∧ ∀ (z15 : Int) (w15 : NS) (M15 : MM), Q15 z15 w15 M15 → (((z15 < 0) → P 0 w15 M15) ∧ ((¬ (z15 < 0)) → P 0 w15 M15))))))))))) : A_X8_startsItem_0 G X P l0 l1 w M := by
  unfold A_X8_startsItem_0
  refine s_aload_n C (d_of DX8_startsItem 0 rfl) rfl ?_
  refine s_iload_n C (d_of DX8_startsItem 1 rfl) rfl ?_
  refine s_iconst C (d_of DX8_startsItem 2 rfl) (by decide) ?_
  obtain ⟨o1, h⟩ := h
  refine s_isub C (d_of DX8_startsItem 3 rfl) o1 ?_
  obtain ⟨o2, h⟩ := h
  obtain ⟨Q3, hKQ3, h⟩ := h
  refine s_callV (ci := 8) (av := [(0, (l1 - 1))]) (rest := []) (mc := 0) (ms := 0) C (d_of DX8_startsItem 4 rfl) lk_X8_42 o2 (by decide) rfl rfl rfl (Nat.le_of_ble_eq_true rfl) (by decide) (by decide) hKQ3 (fun z3 w3 M3 hq => ?_)
  have h := h z3 w3 M3 hq
  refine s_istore_n (ls' := [(2, l0), (0, l1), (0, z3), (3, 0)]) C (d_of DX8_startsItem 5 rfl) (by decide) rfl rfl ?_
  refine s_aload_n C (d_of DX8_startsItem 6 rfl) rfl ?_
  refine s_iload_n C (d_of DX8_startsItem 7 rfl) rfl ?_
  refine s_iconst C (d_of DX8_startsItem 8 rfl) (by decide) ?_
  refine s_isub C (d_of DX8_startsItem 9 rfl) o1 ?_
  obtain ⟨o4, h⟩ := h
  obtain ⟨Q5, hKQ5, h⟩ := h
  refine s_callV (ci := 8) (av := [(0, (l1 - 1))]) (rest := []) (mc := 0) (ms := 0) C (d_of DX8_startsItem 10 rfl) lk_X8_46 o4 (by decide) rfl rfl rfl (Nat.le_of_ble_eq_true rfl) (by decide) (by decide) hKQ5 (fun z5 w5 M5 hq => ?_)
  have h := h z5 w5 M5 hq
  refine s_ifge C (d_of DX8_startsItem 11 rfl) rfl (fun hc => ?_) (fun hc => ?_)
  · have h := h.1 hc
    refine s_iconst C (d_of DX8_startsItem 21 rfl) (by decide) ?_
    refine s_goto C (d_of DX8_startsItem 22 rfl) rfl ?_
    refine s_istore_n (ls' := [(2, l0), (0, l1), (0, z3), (0, 1)]) C (d_of DX8_startsItem 24 rfl) (by decide) rfl rfl ?_
    refine s_aload_n C (d_of DX8_startsItem 25 rfl) rfl ?_
    refine s_iload_n C (d_of DX8_startsItem 26 rfl) rfl ?_
    obtain ⟨o6, h⟩ := h
    obtain ⟨Q7, hKQ7, h⟩ := h
    refine s_callV (ci := 8) (av := [(0, l1)]) (rest := []) (mc := 0) (ms := 0) C (d_of DX8_startsItem 27 rfl) lk_X8_46 o6 (by decide) rfl rfl rfl (Nat.le_of_ble_eq_true rfl) (by decide) (by decide) hKQ7 (fun z7 w7 M7 hq => ?_)
    have h := h z7 w7 M7 hq
    refine s_iflt C (d_of DX8_startsItem 28 rfl) rfl (fun hc => ?_) (fun hc => ?_)
    · have h := h.1 hc
      refine s_iconst C (d_of DX8_startsItem 33 rfl) (by decide) ?_
      exact s_zreturn C (d_of DX8_startsItem 34 rfl) (by decide) h
    · have h := h.2 hc
      refine s_iload_n C (d_of DX8_startsItem 29 rfl) rfl ?_
      refine s_ifne C (d_of DX8_startsItem 30 rfl) rfl (fun hc => ?_) (fun hc => absurd (by decide) hc)
      refine s_iconst C (d_of DX8_startsItem 33 rfl) (by decide) ?_
      exact s_zreturn C (d_of DX8_startsItem 34 rfl) (by decide) h
  · have h := h.2 hc
    refine s_iload_n C (d_of DX8_startsItem 12 rfl) rfl ?_
    refine s_bipush C (d_of DX8_startsItem 13 rfl) ⟨rfl, by decide, by decide⟩ ?_
    refine s_icmpeq C (d_of DX8_startsItem 14 rfl) rfl (fun hc => ?_) (fun hc => ?_)
    · have h := h.1 hc
      refine s_iconst C (d_of DX8_startsItem 21 rfl) (by decide) ?_
      refine s_goto C (d_of DX8_startsItem 22 rfl) rfl ?_
      refine s_istore_n (ls' := [(2, l0), (0, l1), (0, z3), (0, 1)]) C (d_of DX8_startsItem 24 rfl) (by decide) rfl rfl ?_
      refine s_aload_n C (d_of DX8_startsItem 25 rfl) rfl ?_
      refine s_iload_n C (d_of DX8_startsItem 26 rfl) rfl ?_
      obtain ⟨o8, h⟩ := h
      obtain ⟨Q9, hKQ9, h⟩ := h
      refine s_callV (ci := 8) (av := [(0, l1)]) (rest := []) (mc := 0) (ms := 0) C (d_of DX8_startsItem 27 rfl) lk_X8_46 o8 (by decide) rfl rfl rfl (Nat.le_of_ble_eq_true rfl) (by decide) (by decide) hKQ9 (fun z9 w9 M9 hq => ?_)
      have h := h z9 w9 M9 hq
      refine s_iflt C (d_of DX8_startsItem 28 rfl) rfl (fun hc => ?_) (fun hc => ?_)
      · have h := h.1 hc
        refine s_iconst C (d_of DX8_startsItem 33 rfl) (by decide) ?_
        exact s_zreturn C (d_of DX8_startsItem 34 rfl) (by decide) h
      · have h := h.2 hc
        refine s_iload_n C (d_of DX8_startsItem 29 rfl) rfl ?_
        refine s_ifne C (d_of DX8_startsItem 30 rfl) rfl (fun hc => ?_) (fun hc => absurd (by decide) hc)
        refine s_iconst C (d_of DX8_startsItem 33 rfl) (by decide) ?_
        exact s_zreturn C (d_of DX8_startsItem 34 rfl) (by decide) h
    · have h := h.2 hc
      refine s_iload_n C (d_of DX8_startsItem 15 rfl) rfl ?_
      refine s_bipush C (d_of DX8_startsItem 16 rfl) ⟨rfl, by decide, by decide⟩ ?_
      refine s_icmpeq C (d_of DX8_startsItem 17 rfl) rfl (fun hc => ?_) (fun hc => ?_)
      · have h := h.1 hc
        refine s_iconst C (d_of DX8_startsItem 21 rfl) (by decide) ?_
        refine s_goto C (d_of DX8_startsItem 22 rfl) rfl ?_
        refine s_istore_n (ls' := [(2, l0), (0, l1), (0, z3), (0, 1)]) C (d_of DX8_startsItem 24 rfl) (by decide) rfl rfl ?_
        refine s_aload_n C (d_of DX8_startsItem 25 rfl) rfl ?_
        refine s_iload_n C (d_of DX8_startsItem 26 rfl) rfl ?_
        obtain ⟨o10, h⟩ := h
        obtain ⟨Q11, hKQ11, h⟩ := h
        refine s_callV (ci := 8) (av := [(0, l1)]) (rest := []) (mc := 0) (ms := 0) C (d_of DX8_startsItem 27 rfl) lk_X8_46 o10 (by decide) rfl rfl rfl (Nat.le_of_ble_eq_true rfl) (by decide) (by decide) hKQ11 (fun z11 w11 M11 hq => ?_)
        have h := h z11 w11 M11 hq
        refine s_iflt C (d_of DX8_startsItem 28 rfl) rfl (fun hc => ?_) (fun hc => ?_)
        · have h := h.1 hc
          refine s_iconst C (d_of DX8_startsItem 33 rfl) (by decide) ?_
          exact s_zreturn C (d_of DX8_startsItem 34 rfl) (by decide) h
        · have h := h.2 hc
          refine s_iload_n C (d_of DX8_startsItem 29 rfl) rfl ?_
          refine s_ifne C (d_of DX8_startsItem 30 rfl) rfl (fun hc => ?_) (fun hc => absurd (by decide) hc)
          refine s_iconst C (d_of DX8_startsItem 33 rfl) (by decide) ?_
          exact s_zreturn C (d_of DX8_startsItem 34 rfl) (by decide) h
      · have h := h.2 hc
        refine s_iload_n C (d_of DX8_startsItem 18 rfl) rfl ?_
        refine s_bipush C (d_of DX8_startsItem 19 rfl) ⟨rfl, by decide, by decide⟩ ?_
        refine s_icmpne C (d_of DX8_startsItem 20 rfl) rfl (fun hc => ?_) (fun hc => ?_)
        · have h := h.1 hc
          refine s_iconst C (d_of DX8_startsItem 23 rfl) (by decide) ?_
          refine s_istore_n (ls' := [(2, l0), (0, l1), (0, z3), (0, 0)]) C (d_of DX8_startsItem 24 rfl) (by decide) rfl rfl ?_
          refine s_aload_n C (d_of DX8_startsItem 25 rfl) rfl ?_
          refine s_iload_n C (d_of DX8_startsItem 26 rfl) rfl ?_
          obtain ⟨o12, h⟩ := h
          obtain ⟨Q13, hKQ13, h⟩ := h
          refine s_callV (ci := 8) (av := [(0, l1)]) (rest := []) (mc := 0) (ms := 0) C (d_of DX8_startsItem 27 rfl) lk_X8_46 o12 (by decide) rfl rfl rfl (Nat.le_of_ble_eq_true rfl) (by decide) (by decide) hKQ13 (fun z13 w13 M13 hq => ?_)
          have h := h z13 w13 M13 hq
          refine s_iflt C (d_of DX8_startsItem 28 rfl) rfl (fun hc => ?_) (fun hc => ?_)
          · have h := h.1 hc
            refine s_iconst C (d_of DX8_startsItem 33 rfl) (by decide) ?_
            exact s_zreturn C (d_of DX8_startsItem 34 rfl) (by decide) h
          · have h := h.2 hc
            refine s_iload_n C (d_of DX8_startsItem 29 rfl) rfl ?_
            refine s_ifne C (d_of DX8_startsItem 30 rfl) rfl (fun hc => absurd hc (by decide)) (fun hc => ?_)
            refine s_iconst C (d_of DX8_startsItem 31 rfl) (by decide) ?_
            refine s_goto C (d_of DX8_startsItem 32 rfl) rfl ?_
            exact s_zreturn C (d_of DX8_startsItem 34 rfl) (by decide) h
        · have h := h.2 hc
          refine s_iconst C (d_of DX8_startsItem 21 rfl) (by decide) ?_
          refine s_goto C (d_of DX8_startsItem 22 rfl) rfl ?_
          refine s_istore_n (ls' := [(2, l0), (0, l1), (0, z3), (0, 1)]) C (d_of DX8_startsItem 24 rfl) (by decide) rfl rfl ?_
          refine s_aload_n C (d_of DX8_startsItem 25 rfl) rfl ?_
          refine s_iload_n C (d_of DX8_startsItem 26 rfl) rfl ?_
          obtain ⟨o14, h⟩ := h
          obtain ⟨Q15, hKQ15, h⟩ := h
          refine s_callV (ci := 8) (av := [(0, l1)]) (rest := []) (mc := 0) (ms := 0) C (d_of DX8_startsItem 27 rfl) lk_X8_46 o14 (by decide) rfl rfl rfl (Nat.le_of_ble_eq_true rfl) (by decide) (by decide) hKQ15 (fun z15 w15 M15 hq => ?_)
          have h := h z15 w15 M15 hq
          refine s_iflt C (d_of DX8_startsItem 28 rfl) rfl (fun hc => ?_) (fun hc => ?_)
          · have h := h.1 hc
            refine s_iconst C (d_of DX8_startsItem 33 rfl) (by decide) ?_
            exact s_zreturn C (d_of DX8_startsItem 34 rfl) (by decide) h
          · have h := h.2 hc
            refine s_iload_n C (d_of DX8_startsItem 29 rfl) rfl ?_
            refine s_ifne C (d_of DX8_startsItem 30 rfl) rfl (fun hc => ?_) (fun hc => absurd (by decide) hc)
            refine s_iconst C (d_of DX8_startsItem 33 rfl) (by decide) ?_
            exact s_zreturn C (d_of DX8_startsItem 34 rfl) (by decide) h
theorem E_X8_startsItem {G : GP} {l : Launch} {P : Int → NS → MM → Prop} {l0 : Int} {l1 : Int} {w : NS} {M : MM} (h : inR l1 → ∀ X : BX, X.2.1 = l → CX_X8_startsItem G X → A_X8_startsItem_0 G X P l0 l1 w M) : CT_X8_startsItem G l [(2, l0), (0, l1)] w M P :=
  CT.of RX8 "startsItem" (by decide +kernel) rfl rfl rfl (Nat.le_of_ble_eq_true rfl) (fun hr X hX C => h (hr (0, l1) (by simp)) X hX C)
def A_X8_wordAt_0 (G : GP) (X : BX) (P : Int → NS → MM → Prop) (l0 : Int) (l1 : Int) (w : NS) (M : MM) : Prop := WA true G X (QM G X true 0 P) 4 0 [(2, l0), (0, l1), (3, 0), (3, 0)] [] 0 0 w M
set_option maxHeartbeats 4000000 in
set_option maxRecDepth 100000 in
theorem B_X8_wordAt_0 {G : GP} {X : BX} {P : Int → NS → MM → Prop} {l0 : Int} {l1 : Int} {w : NS} {M : MM} (C : CX_X8_wordAt G X) (h : (w.2 l0 = (9, 2)) ∧ ∃ Q2 : Int → NS → MM → Prop, CT_X8_digitAt G X.2.1 [(2, l0), (0, l1)] w M Q2 ∧ ∀ (z2 : Int) (w2 : NS) (M2 : MM), Q2 z2 w2 M2 → (inR (l1 + 1)) ∧ (w2.2 l0 = (9, 2)) ∧ ∃ Q5 : Int → NS → MM → Prop, CT_X8_digitAt G X.2.1 [(2, l0), (0, (l1 + 1))] w2 M2 Q5 ∧ ∀ (z5 : Int) (w5 : NS) (M5 : MM), Q5 z5 w5 M5 → (((0 ≤ z5) → (inR (10 * z2)) ∧ (inR ((10 * z2) + z5)) ∧ P ((10 * z2) + z5) w5 M5) ∧ ((¬ (0 ≤ z5)) → P z2 w5 M5))) : A_X8_wordAt_0 G X P l0 l1 w M := by
  unfold A_X8_wordAt_0
  refine s_aload_n C (d_of DX8_wordAt 0 rfl) rfl ?_
  refine s_iload_n C (d_of DX8_wordAt 1 rfl) rfl ?_
  obtain ⟨o1, h⟩ := h
  obtain ⟨Q2, hKQ2, h⟩ := h
  refine s_callV (ci := 8) (av := [(0, l1)]) (rest := []) (mc := 0) (ms := 0) C (d_of DX8_wordAt 2 rfl) lk_X8_46 o1 (by decide) rfl rfl rfl (Nat.le_of_ble_eq_true rfl) (by decide) (by decide) hKQ2 (fun z2 w2 M2 hq => ?_)
  have h := h z2 w2 M2 hq
  refine s_istore_n (ls' := [(2, l0), (0, l1), (0, z2), (3, 0)]) C (d_of DX8_wordAt 3 rfl) (by decide) rfl rfl ?_
  refine s_aload_n C (d_of DX8_wordAt 4 rfl) rfl ?_
  refine s_iload_n C (d_of DX8_wordAt 5 rfl) rfl ?_
  refine s_iconst C (d_of DX8_wordAt 6 rfl) (by decide) ?_
  obtain ⟨o3, h⟩ := h
  refine s_iadd C (d_of DX8_wordAt 7 rfl) o3 ?_
  obtain ⟨o4, h⟩ := h
  obtain ⟨Q5, hKQ5, h⟩ := h
  refine s_callV (ci := 8) (av := [(0, (l1 + 1))]) (rest := []) (mc := 0) (ms := 0) C (d_of DX8_wordAt 8 rfl) lk_X8_46 o4 (by decide) rfl rfl rfl (Nat.le_of_ble_eq_true rfl) (by decide) (by decide) hKQ5 (fun z5 w5 M5 hq => ?_)
  have h := h z5 w5 M5 hq
  refine s_istore_n (ls' := [(2, l0), (0, l1), (0, z2), (0, z5)]) C (d_of DX8_wordAt 9 rfl) (by decide) rfl rfl ?_
  refine s_iload_n C (d_of DX8_wordAt 10 rfl) rfl ?_
  refine s_ifge C (d_of DX8_wordAt 11 rfl) rfl (fun hc => ?_) (fun hc => ?_)
  · have h := h.1 hc
    refine s_bipush C (d_of DX8_wordAt 14 rfl) ⟨rfl, by decide, by decide⟩ ?_
    refine s_iload_n C (d_of DX8_wordAt 15 rfl) rfl ?_
    obtain ⟨o6, h⟩ := h
    refine s_imul C (d_of DX8_wordAt 16 rfl) o6 ?_
    refine s_iload_n C (d_of DX8_wordAt 17 rfl) rfl ?_
    obtain ⟨o7, h⟩ := h
    refine s_iadd C (d_of DX8_wordAt 18 rfl) o7 ?_
    exact s_ireturn C (d_of DX8_wordAt 19 rfl) h
  · have h := h.2 hc
    refine s_iload_n C (d_of DX8_wordAt 12 rfl) rfl ?_
    refine s_goto C (d_of DX8_wordAt 13 rfl) rfl ?_
    exact s_ireturn C (d_of DX8_wordAt 19 rfl) h
theorem E_X8_wordAt {G : GP} {l : Launch} {P : Int → NS → MM → Prop} {l0 : Int} {l1 : Int} {w : NS} {M : MM} (h : inR l1 → ∀ X : BX, X.2.1 = l → CX_X8_wordAt G X → A_X8_wordAt_0 G X P l0 l1 w M) : CT_X8_wordAt G l [(2, l0), (0, l1)] w M P :=
  CT.of RX8 "wordAt" (by decide +kernel) rfl rfl rfl (Nat.le_of_ble_eq_true rfl) (fun hr X hX C => h (hr (0, l1) (by simp)) X hX C)
def A_X6_hasNear_0 (G : GP) (X : BX) (P : Int → NS → MM → Prop) (l0 : Int) (l1 : Int) (l2 : Int) (l3 : Int) (w : NS) (M : MM) : Prop := WA true G X (QM G X true 0 P) 6 0 [(2, l0), (0, l1), (0, l2), (0, l3), (3, 0), (3, 0)] [] 0 0 w M
def A_X6_hasNear_3 (G : GP) (X : BX) (P : Int → NS → MM → Prop) (l0 : Int) (l1 : Int) (l2 : Int) (l3 : Int) (l4 : Int) (w : NS) (M : MM) : Prop := WA true G X (QM G X true 0 P) 6 3 [(2, l0), (0, l1), (0, l2), (0, l3), (0, l4), (3, 0)] [] 0 0 w M
def A_X6_hasNear_18 (G : GP) (X : BX) (P : Int → NS → MM → Prop) (l0 : Int) (l1 : Int) (l2 : Int) (l3 : Int) (l4 : Int) (l5 : Int) (w : NS) (M : MM) : Prop := WA true G X (QM G X true 0 P) 6 18 [(2, l0), (0, l1), (0, l2), (0, l3), (0, l4), (0, l5)] [] 0 0 w M
set_option maxHeartbeats 4000000 in
set_option maxRecDepth 100000 in
theorem B_X6_hasNear_0 {G : GP} {X : BX} {P : Int → NS → MM → Prop} {l0 : Int} {l1 : Int} {l2 : Int} {l3 : Int} {w : NS} {M : MM} (C : CX_X6_hasNear G X) (h : A_X6_hasNear_3 G X P l0 l1 l2 l3 0 w M) : A_X6_hasNear_0 G X P l0 l1 l2 l3 w M := by
  unfold A_X6_hasNear_0
  refine s_iconst C (d_of DX6_hasNear 0 rfl) (by decide) ?_
  refine s_istore (ls' := [(2, l0), (0, l1), (0, l2), (0, l3), (0, 0), (3, 0)]) C (d_of DX6_hasNear 1 rfl) (by decide) rfl rfl ?_
  exact h
set_option maxHeartbeats 4000000 in
set_option maxRecDepth 100000 in
theorem B_X6_hasNear_3 {G : GP} {X : BX} {P : Int → NS → MM → Prop} {l0 : Int} {l1 : Int} {l2 : Int} {l3 : Int} {l4 : Int} {w : NS} {M : MM} (C : CX_X6_hasNear G X) (h : (w.2 l0 = (7, 12)) ∧ ((((M l0 7) ≤ l4) → P 0 w M) ∧ ((¬ ((M l0 7) ≤ l4)) → (inR (l4 + 1)) ∧ A_X6_hasNear_18 G X P l0 l1 l2 l3 l4 (l4 + 1) w M))) : A_X6_hasNear_3 G X P l0 l1 l2 l3 l4 w M := by
  unfold A_X6_hasNear_3
  refine s_iload C (d_of DX6_hasNear 2 rfl) rfl ?_
  refine s_aload_n C (d_of DX6_hasNear 3 rfl) rfl ?_
  obtain ⟨o1, h⟩ := h
  refine gf_X6_15 (v0 := (M l0 7)) C o1 (d_of DX6_hasNear 4 rfl) rfl ?_
  refine s_icmpge C (d_of DX6_hasNear 5 rfl) rfl (fun hc => ?_) (fun hc => ?_)
  · have h := h.1 hc
    refine s_iconst C (d_of DX6_hasNear 49 rfl) (by decide) ?_
    exact s_zreturn C (d_of DX6_hasNear 50 rfl) (by decide) h
  · have h := h.2 hc
    refine s_iload C (d_of DX6_hasNear 6 rfl) rfl ?_
    refine s_iconst C (d_of DX6_hasNear 7 rfl) (by decide) ?_
    obtain ⟨o2, h⟩ := h
    refine s_iadd C (d_of DX6_hasNear 8 rfl) o2 ?_
    refine s_istore (ls' := [(2, l0), (0, l1), (0, l2), (0, l3), (0, l4), (0, (l4 + 1))]) C (d_of DX6_hasNear 9 rfl) (by decide) rfl rfl ?_
    exact h
set_option maxHeartbeats 4000000 in
set_option maxRecDepth 100000 in
theorem B_X6_hasNear_18 {G : GP} {X : BX} {P : Int → NS → MM → Prop} {l0 : Int} {l1 : Int} {l2 : Int} {l3 : Int} {l4 : Int} {l5 : Int} {w : NS} {M : MM} (C : CX_X6_hasNear G X) (h : (w.2 l0 = (7, 12)) ∧ ((((M l0 7) ≤ l5) → (inR (l4 + 1)) ∧ A_X6_hasNear_3 G X P l0 l1 l2 l3 (l4 + 1) w M) ∧ ((¬ ((M l0 7) ≤ l5)) → (inR (l4 + l3)) ∧ ((((l4 + l3) < l5) → (inR (l4 + 1)) ∧ A_X6_hasNear_3 G X P l0 l1 l2 l3 (l4 + 1) w M) ∧ ((¬ ((l4 + l3) < l5)) → (0 ≤ l4) ∧ (l4 < 60) ∧ ((((M (l0 + 1) l4) ≠ l1) → ((((M (l0 + 1) l4) ≠ l2) → (inR (l5 + 1)) ∧ A_X6_hasNear_18 G X P l0 l1 l2 l3 l4 (l5 + 1) w M) ∧ ((¬ ((M (l0 + 1) l4) ≠ l2)) → (0 ≤ l5) ∧ (l5 < 60) ∧ ((((M (l0 + 1) l5) ≠ l1) → (inR (l5 + 1)) ∧ A_X6_hasNear_18 G X P l0 l1 l2 l3 l4 (l5 + 1) w M) ∧ ((¬ ((M (l0 + 1) l5) ≠ l1)) → P 1 w M))))) ∧ ((¬ ((M (l0 + 1) l4) ≠ l1)) → (0 ≤ l5) ∧ (l5 < 60) ∧ ((((M (l0 + 1) l5) = l2) → P 1 w M) ∧ ((¬ ((M (l0 + 1) l5) = l2)) → ((((M (l0 + 1) l4) ≠ l2) → (inR (l5 + 1)) ∧ A_X6_hasNear_18 G X P l0 l1 l2 l3 l4 (l5 + 1) w M) ∧ ((¬ ((M (l0 + 1) l4) ≠ l2)) → ((((M (l0 + 1) l5) ≠ l1) → (inR (l5 + 1)) ∧ A_X6_hasNear_18 G X P l0 l1 l2 l3 l4 (l5 + 1) w M) ∧ ((¬ ((M (l0 + 1) l5) ≠ l1)) → P 1 w M))))))))))))) : A_X6_hasNear_18 G X P l0 l1 l2 l3 l4 l5 w M := by
  unfold A_X6_hasNear_18
  refine s_iload C (d_of DX6_hasNear 10 rfl) rfl ?_
  refine s_aload_n C (d_of DX6_hasNear 11 rfl) rfl ?_
  obtain ⟨o1, h⟩ := h
  refine gf_X6_15 (v0 := (M l0 7)) C o1 (d_of DX6_hasNear 12 rfl) rfl ?_
  refine s_icmpge C (d_of DX6_hasNear 13 rfl) rfl (fun hc => ?_) (fun hc => ?_)
  · have h := h.1 hc
    obtain ⟨o2, h⟩ := h
    refine s_iinc (ls' := [(2, l0), (0, l1), (0, l2), (0, l3), (0, (l4 + 1)), (0, l5)]) C (d_of DX6_hasNear 47 rfl) (by decide) rfl o2 rfl rfl ?_
    refine s_goto C (d_of DX6_hasNear 48 rfl) rfl ?_
    exact WA.wk h ⟨Or.inr rfl, Or.inr rfl, Or.inr rfl, Or.inr rfl, Or.inr rfl, Or.inl rfl, trivial⟩
  · have h := h.2 hc
    refine s_iload C (d_of DX6_hasNear 14 rfl) rfl ?_
    refine s_iload C (d_of DX6_hasNear 15 rfl) rfl ?_
    refine s_iload_n C (d_of DX6_hasNear 16 rfl) rfl ?_
    obtain ⟨o3, h⟩ := h
    refine s_iadd C (d_of DX6_hasNear 17 rfl) o3 ?_
    refine s_icmpgt C (d_of DX6_hasNear 18 rfl) rfl (fun hc => ?_) (fun hc => ?_)
    · have h := h.1 hc
      obtain ⟨o4, h⟩ := h
      refine s_iinc (ls' := [(2, l0), (0, l1), (0, l2), (0, l3), (0, (l4 + 1)), (0, l5)]) C (d_of DX6_hasNear 47 rfl) (by decide) rfl o4 rfl rfl ?_
      refine s_goto C (d_of DX6_hasNear 48 rfl) rfl ?_
      exact WA.wk h ⟨Or.inr rfl, Or.inr rfl, Or.inr rfl, Or.inr rfl, Or.inr rfl, Or.inl rfl, trivial⟩
    · have h := h.2 hc
      refine s_aload_n C (d_of DX6_hasNear 19 rfl) rfl ?_
      refine WA.fix (fun hF5 => ?_)
      have hd6 := FixA.dy (t := 7) (n := 12) (k := 6) (m := 60) hF5 (by decide) o1
      refine gf_X6_9 C o1 (d_of DX6_hasNear 20 rfl) hd6.1 ?_
      refine s_iload C (d_of DX6_hasNear 21 rfl) rfl ?_
      obtain ⟨o7, h⟩ := h
      obtain ⟨o8, h⟩ := h
      refine s_iald (v0 := (M (l0 + 1) l4)) C hd6.2 o7 o8 (d_of DX6_hasNear 22 rfl) rfl ?_
      refine s_iload_n C (d_of DX6_hasNear 23 rfl) rfl ?_
      refine s_icmpne C (d_of DX6_hasNear 24 rfl) rfl (fun hc => ?_) (fun hc => ?_)
      · have h := h.1 hc
        refine s_aload_n C (d_of DX6_hasNear 31 rfl) rfl ?_
        have hd9 := FixA.dy (t := 7) (n := 12) (k := 6) (m := 60) hF5 (by decide) o1
        refine gf_X6_9 C o1 (d_of DX6_hasNear 32 rfl) hd9.1 ?_
        refine s_iload C (d_of DX6_hasNear 33 rfl) rfl ?_
        refine s_iald (v0 := (M (l0 + 1) l4)) C hd9.2 o7 o8 (d_of DX6_hasNear 34 rfl) rfl ?_
        refine s_iload_n C (d_of DX6_hasNear 35 rfl) rfl ?_
        refine s_icmpne C (d_of DX6_hasNear 36 rfl) rfl (fun hc => ?_) (fun hc => ?_)
        · have h := h.1 hc
          obtain ⟨o10, h⟩ := h
          refine s_iinc (ls' := [(2, l0), (0, l1), (0, l2), (0, l3), (0, l4), (0, (l5 + 1))]) C (d_of DX6_hasNear 45 rfl) (by decide) rfl o10 rfl rfl ?_
          refine s_goto C (d_of DX6_hasNear 46 rfl) rfl ?_
          exact h
        · have h := h.2 hc
          refine s_aload_n C (d_of DX6_hasNear 37 rfl) rfl ?_
          have hd11 := FixA.dy (t := 7) (n := 12) (k := 6) (m := 60) hF5 (by decide) o1
          refine gf_X6_9 C o1 (d_of DX6_hasNear 38 rfl) hd11.1 ?_
          refine s_iload C (d_of DX6_hasNear 39 rfl) rfl ?_
          obtain ⟨o12, h⟩ := h
          obtain ⟨o13, h⟩ := h
          refine s_iald (v0 := (M (l0 + 1) l5)) C hd11.2 o12 o13 (d_of DX6_hasNear 40 rfl) rfl ?_
          refine s_iload_n C (d_of DX6_hasNear 41 rfl) rfl ?_
          refine s_icmpne C (d_of DX6_hasNear 42 rfl) rfl (fun hc => ?_) (fun hc => ?_)
          · have h := h.1 hc
            obtain ⟨o14, h⟩ := h
            refine s_iinc (ls' := [(2, l0), (0, l1), (0, l2), (0, l3), (0, l4), (0, (l5 + 1))]) C (d_of DX6_hasNear 45 rfl) (by decide) rfl o14 rfl rfl ?_
            refine s_goto C (d_of DX6_hasNear 46 rfl) rfl ?_
            exact h
          · have h := h.2 hc
            refine s_iconst C (d_of DX6_hasNear 43 rfl) (by decide) ?_
            exact s_zreturn C (d_of DX6_hasNear 44 rfl) (by decide) h
      · have h := h.2 hc
        refine s_aload_n C (d_of DX6_hasNear 25 rfl) rfl ?_
        have hd15 := FixA.dy (t := 7) (n := 12) (k := 6) (m := 60) hF5 (by decide) o1
        refine gf_X6_9 C o1 (d_of DX6_hasNear 26 rfl) hd15.1 ?_
        refine s_iload C (d_of DX6_hasNear 27 rfl) rfl ?_
        obtain ⟨o16, h⟩ := h
        obtain ⟨o17, h⟩ := h
        refine s_iald (v0 := (M (l0 + 1) l5)) C hd15.2 o16 o17 (d_of DX6_hasNear 28 rfl) rfl ?_
        refine s_iload_n C (d_of DX6_hasNear 29 rfl) rfl ?_
        refine s_icmpeq C (d_of DX6_hasNear 30 rfl) rfl (fun hc => ?_) (fun hc => ?_)
        · have h := h.1 hc
          refine s_iconst C (d_of DX6_hasNear 43 rfl) (by decide) ?_
          exact s_zreturn C (d_of DX6_hasNear 44 rfl) (by decide) h
        · have h := h.2 hc
          refine s_aload_n C (d_of DX6_hasNear 31 rfl) rfl ?_
          have hd18 := FixA.dy (t := 7) (n := 12) (k := 6) (m := 60) hF5 (by decide) o1
          refine gf_X6_9 C o1 (d_of DX6_hasNear 32 rfl) hd18.1 ?_
          refine s_iload C (d_of DX6_hasNear 33 rfl) rfl ?_
          refine s_iald (v0 := (M (l0 + 1) l4)) C hd18.2 o7 o8 (d_of DX6_hasNear 34 rfl) rfl ?_
          refine s_iload_n C (d_of DX6_hasNear 35 rfl) rfl ?_
          refine s_icmpne C (d_of DX6_hasNear 36 rfl) rfl (fun hc => ?_) (fun hc => ?_)
          · have h := h.1 hc
            obtain ⟨o19, h⟩ := h
            refine s_iinc (ls' := [(2, l0), (0, l1), (0, l2), (0, l3), (0, l4), (0, (l5 + 1))]) C (d_of DX6_hasNear 45 rfl) (by decide) rfl o19 rfl rfl ?_
            refine s_goto C (d_of DX6_hasNear 46 rfl) rfl ?_
            exact h
          · have h := h.2 hc
            refine s_aload_n C (d_of DX6_hasNear 37 rfl) rfl ?_
            have hd20 := FixA.dy (t := 7) (n := 12) (k := 6) (m := 60) hF5 (by decide) o1
            refine gf_X6_9 C o1 (d_of DX6_hasNear 38 rfl) hd20.1 ?_
            refine s_iload C (d_of DX6_hasNear 39 rfl) rfl ?_
            refine s_iald (v0 := (M (l0 + 1) l5)) C hd20.2 o16 o17 (d_of DX6_hasNear 40 rfl) rfl ?_
            refine s_iload_n C (d_of DX6_hasNear 41 rfl) rfl ?_
            refine s_icmpne C (d_of DX6_hasNear 42 rfl) rfl (fun hc => ?_) (fun hc => ?_)
            · have h := h.1 hc
              obtain ⟨o21, h⟩ := h
              refine s_iinc (ls' := [(2, l0), (0, l1), (0, l2), (0, l3), (0, l4), (0, (l5 + 1))]) C (d_of DX6_hasNear 45 rfl) (by decide) rfl o21 rfl rfl ?_
              refine s_goto C (d_of DX6_hasNear 46 rfl) rfl ?_
              exact h
            · have h := h.2 hc
              refine s_iconst C (d_of DX6_hasNear 43 rfl) (by decide) ?_
              exact s_zreturn C (d_of DX6_hasNear 44 rfl) (by decide) h
theorem E_X6_hasNear {G : GP} {l : Launch} {P : Int → NS → MM → Prop} {l0 : Int} {l1 : Int} {l2 : Int} {l3 : Int} {w : NS} {M : MM} (h : inR l1 → inR l2 → inR l3 → ∀ X : BX, X.2.1 = l → CX_X6_hasNear G X → A_X6_hasNear_0 G X P l0 l1 l2 l3 w M) : CT_X6_hasNear G l [(2, l0), (0, l1), (0, l2), (0, l3)] w M P :=
  CT.of RX6 "hasNear" (by decide +kernel) rfl rfl rfl (Nat.le_of_ble_eq_true rfl) (fun hr X hX C => h (hr (0, l1) (by simp)) (hr (0, l2) (by simp)) (hr (0, l3) (by simp)) X hX C)
def A_X6_howOften_0 (G : GP) (X : BX) (P : Int → NS → MM → Prop) (l0 : Int) (l1 : Int) (w : NS) (M : MM) : Prop := WA true G X (QM G X true 0 P) 4 0 [(2, l0), (0, l1), (3, 0), (3, 0)] [] 0 0 w M
def A_X6_howOften_4 (G : GP) (X : BX) (P : Int → NS → MM → Prop) (l0 : Int) (l1 : Int) (l2 : Int) (l3 : Int) (w : NS) (M : MM) : Prop := WA true G X (QM G X true 0 P) 4 4 [(2, l0), (0, l1), (0, l2), (0, l3)] [] 0 0 w M
set_option maxHeartbeats 4000000 in
set_option maxRecDepth 100000 in
theorem B_X6_howOften_0 {G : GP} {X : BX} {P : Int → NS → MM → Prop} {l0 : Int} {l1 : Int} {w : NS} {M : MM} (C : CX_X6_howOften G X) (h : A_X6_howOften_4 G X P l0 l1 0 0 w M) : A_X6_howOften_0 G X P l0 l1 w M := by
  unfold A_X6_howOften_0
  refine s_iconst C (d_of DX6_howOften 0 rfl) (by decide) ?_
  refine s_istore_n (ls' := [(2, l0), (0, l1), (0, 0), (3, 0)]) C (d_of DX6_howOften 1 rfl) (by decide) rfl rfl ?_
  refine s_iconst C (d_of DX6_howOften 2 rfl) (by decide) ?_
  refine s_istore_n (ls' := [(2, l0), (0, l1), (0, 0), (0, 0)]) C (d_of DX6_howOften 3 rfl) (by decide) rfl rfl ?_
  exact h
set_option maxHeartbeats 4000000 in
set_option maxRecDepth 100000 in
theorem B_X6_howOften_4 {G : GP} {X : BX} {P : Int → NS → MM → Prop} {l0 : Int} {l1 : Int} {l2 : Int} {l3 : Int} {w : NS} {M : MM} (C : CX_X6_howOften G X) (h : (w.2 l0 = (7, 12)) ∧ ((((M l0 7) ≤ l3) → P l2 w M) ∧ ((¬ ((M l0 7) ≤ l3)) → (0 ≤ l3) ∧ (l3 < 60) ∧ ((((M (l0 + 1) l3) ≠ l1) → (inR (l3 + 1)) ∧ A_X6_howOften_4 G X P l0 l1 l2 (l3 + 1) w M) ∧ ((¬ ((M (l0 + 1) l3) ≠ l1)) → (inR (l2 + 1)) ∧ (inR (l3 + 1)) ∧ A_X6_howOften_4 G X P l0 l1 (l2 + 1) (l3 + 1) w M))))) : A_X6_howOften_4 G X P l0 l1 l2 l3 w M := by
  unfold A_X6_howOften_4
  refine s_iload_n C (d_of DX6_howOften 4 rfl) rfl ?_
  refine s_aload_n C (d_of DX6_howOften 5 rfl) rfl ?_
  obtain ⟨o1, h⟩ := h
  refine gf_X6_15 (v0 := (M l0 7)) C o1 (d_of DX6_howOften 6 rfl) rfl ?_
  refine s_icmpge C (d_of DX6_howOften 7 rfl) rfl (fun hc => ?_) (fun hc => ?_)
  · have h := h.1 hc
    refine s_iload_n C (d_of DX6_howOften 17 rfl) rfl ?_
    exact s_ireturn C (d_of DX6_howOften 18 rfl) h
  · have h := h.2 hc
    refine s_aload_n C (d_of DX6_howOften 8 rfl) rfl ?_
    refine WA.fix (fun hF2 => ?_)
    have hd3 := FixA.dy (t := 7) (n := 12) (k := 6) (m := 60) hF2 (by decide) o1
    refine gf_X6_9 C o1 (d_of DX6_howOften 9 rfl) hd3.1 ?_
    refine s_iload_n C (d_of DX6_howOften 10 rfl) rfl ?_
    obtain ⟨o4, h⟩ := h
    obtain ⟨o5, h⟩ := h
    refine s_iald (v0 := (M (l0 + 1) l3)) C hd3.2 o4 o5 (d_of DX6_howOften 11 rfl) rfl ?_
    refine s_iload_n C (d_of DX6_howOften 12 rfl) rfl ?_
    refine s_icmpne C (d_of DX6_howOften 13 rfl) rfl (fun hc => ?_) (fun hc => ?_)
    · have h := h.1 hc
      obtain ⟨o6, h⟩ := h
      refine s_iinc (ls' := [(2, l0), (0, l1), (0, l2), (0, (l3 + 1))]) C (d_of DX6_howOften 15 rfl) (by decide) rfl o6 rfl rfl ?_
      refine s_goto C (d_of DX6_howOften 16 rfl) rfl ?_
      exact h
    · have h := h.2 hc
      obtain ⟨o7, h⟩ := h
      refine s_iinc (ls' := [(2, l0), (0, l1), (0, (l2 + 1)), (0, l3)]) C (d_of DX6_howOften 14 rfl) (by decide) rfl o7 rfl rfl ?_
      obtain ⟨o8, h⟩ := h
      refine s_iinc (ls' := [(2, l0), (0, l1), (0, (l2 + 1)), (0, (l3 + 1))]) C (d_of DX6_howOften 15 rfl) (by decide) rfl o8 rfl rfl ?_
      refine s_goto C (d_of DX6_howOften 16 rfl) rfl ?_
      exact h
theorem E_X6_howOften {G : GP} {l : Launch} {P : Int → NS → MM → Prop} {l0 : Int} {l1 : Int} {w : NS} {M : MM} (h : inR l1 → ∀ X : BX, X.2.1 = l → CX_X6_howOften G X → A_X6_howOften_0 G X P l0 l1 w M) : CT_X6_howOften G l [(2, l0), (0, l1)] w M P :=
  CT.of RX6 "howOften" (by decide +kernel) rfl rfl rfl (Nat.le_of_ble_eq_true rfl) (fun hr X hX C => h (hr (0, l1) (by simp)) X hX C)
def A_X8_itemIsSo_0 (G : GP) (X : BX) (P : Int → NS → MM → Prop) (l0 : Int) (l1 : Int) (l2 : Int) (w : NS) (M : MM) : Prop := WA true G X (QM G X true 0 P) 5 0 [(2, l0), (2, l1), (0, l2), (3, 0), (3, 0)] [] 0 0 w M
set_option maxHeartbeats 4000000 in
set_option maxRecDepth 100000 in
theorem B_X8_itemIsSo_0 {G : GP} {X : BX} {P : Int → NS → MM → Prop} {l0 : Int} {l1 : Int} {l2 : Int} {w : NS} {M : MM} (C : CX_X8_itemIsSo G X) (h : (w.2 l0 = (9, 2)) ∧ ∃ Q2 : Int → NS → MM → Prop, CT_X8_wordAt G X.2.1 [(2, l0), (0, l2)] w M Q2 ∧ ∀ (z2 : Int) (w2 : NS) (M2 : MM), Q2 z2 w2 M2 → (inR (l2 + 1)) ∧ (w2.2 l0 = (9, 2)) ∧ ∃ Q5 : Int → NS → MM → Prop, CT_X8_digitAt G X.2.1 [(2, l0), (0, (l2 + 1))] w2 M2 Q5 ∧ ∀ (z5 : Int) (w5 : NS) (M5 : MM), Q5 z5 w5 M5 → (((0 ≤ z5) → (inR (l2 + 2)) ∧ (w5.2 l0 = (9, 2)) ∧ ∃ Q8 : Int → NS → MM → Prop, CT_X8_signAt G X.2.1 [(2, l0), (0, (l2 + 2))] w5 M5 Q8 ∧ ∀ (z8 : Int) (w8 : NS) (M8 : MM), Q8 z8 w8 M8 → (((z8 ≠ 126) → (w8.2 l0 = (9, 2)) ∧ ∃ Q10 : Int → NS → MM → Prop, CT_X8_signAt G X.2.1 [(2, l0), (0, (l2 + 2))] w8 M8 Q10 ∧ ∀ (z10 : Int) (w10 : NS) (M10 : MM), Q10 z10 w10 M10 → (((z10 ≠ 62) → (w10.2 l1 = (7, 12)) ∧ ∃ Q12 : Int → NS → MM → Prop, CT_X6_howOften G X.2.1 [(2, l1), (0, z2)] w10 M10 Q12 ∧ ∀ (z12 : Int) (w12 : NS) (M12 : MM), Q12 z12 w12 M12 → (((z12 ≤ 0) → P 0 w12 M12) ∧ ((¬ (z12 ≤ 0)) → P 1 w12 M12))) ∧ ((¬ (z10 ≠ 62)) → (w10.2 l1 = (7, 12)) ∧ ∃ Q14 : Int → NS → MM → Prop, CT_X6_howOften G X.2.1 [(2, l1), (0, z2)] w10 M10 Q14 ∧ ∀ (z14 : Int) (w14 : NS) (M14 : MM), Q14 z14 w14 M14 → (inR ((l2 + 2) + 1)) ∧ (w14.2 l0 = (9, 2)) ∧ ∃ Q17 : Int → NS → MM → Prop, CT_X8_digitAt G X.2.1 [(2, l0), (0, ((l2 + 2) + 1))] w14 M14 Q17 ∧ ∀ (z17 : Int) (w17 : NS) (M17 : MM), Q17 z17 w17 M17 → (((z14 ≤ z17) → P 0 w17 M17) ∧ ((¬ (z14 ≤ z17)) → P 1 w17 M17))))) ∧ ((¬ (z8 ≠ 126)) → (inR ((l2 + 2) + 3)) ∧ (w8.2 l0 = (9, 2)) ∧ ∃ Q20 : Int → NS → MM → Prop, CT_X8_wordAt G X.2.1 [(2, l0), (0, ((l2 + 2) + 3))] w8 M8 Q20 ∧ ∀ (z20 : Int) (w20 : NS) (M20 : MM), Q20 z20 w20 M20 → (inR ((l2 + 2) + 1)) ∧ (w20.2 l0 = (9, 2)) ∧ ∃ Q23 : Int → NS → MM → Prop, CT_X8_digitAt G X.2.1 [(2, l0), (0, ((l2 + 2) + 1))] w20 M20 Q23 ∧ ∀ (z23 : Int) (w23 : NS) (M23 : MM), Q23 z23 w23 M23 → (w23.2 l1 = (7, 12)) ∧ ∃ Q25 : Int → NS → MM → Prop, CT_X6_hasNear G X.2.1 [(2, l1), (0, z2), (0, z20), (0, z23)] w23 M23 Q25 ∧ ∀ (z25 : Int) (w25 : NS) (M25 : MM), Q25 z25 w25 M25 → (z25 = 0 ∨ z25 = 1) ∧ P z25 w25 M25))) ∧ ((¬ (0 ≤ z5)) → (w5.2 l0 = (9, 2)) ∧ ∃ Q28 : Int → NS → MM → Prop, CT_X8_signAt G X.2.1 [(2, l0), (0, (l2 + 1))] w5 M5 Q28 ∧ ∀ (z28 : Int) (w28 : NS) (M28 : MM), Q28 z28 w28 M28 → (((z28 ≠ 126) → (w28.2 l0 = (9, 2)) ∧ ∃ Q30 : Int → NS → MM → Prop, CT_X8_signAt G X.2.1 [(2, l0), (0, (l2 + 1))] w28 M28 Q30 ∧ ∀ (z30 : Int) (w30 : NS) (M30 : MM), Q30 z30 w30 M30 → (((z30 ≠ 62) → (w30.2 l1 = (7, 12)) ∧ ∃ Q32 : Int → NS → MM → Prop, CT_X6_howOften G X.2.1 [(2, l1), (0, z2)] w30 M30 Q32 ∧ ∀ (z32 : Int) (w32 : NS) (M32 : MM), Q32 z32 w32 M32 → (((z32 ≤ 0) → P 0 w32 M32) ∧ ((¬ (z32 ≤ 0)) → P 1 w32 M32))) ∧ ((¬ (z30 ≠ 62)) → (w30.2 l1 = (7, 12)) ∧ ∃ Q34 : Int → NS → MM → Prop, CT_X6_howOften G X.2.1 [(2, l1), (0, z2)] w30 M30 Q34 ∧ ∀ (z34 : Int) (w34 : NS) (M34 : MM), Q34 z34 w34 M34 → (inR ((l2 + 1) + 1)) ∧ (w34.2 l0 = (9, 2)) ∧ ∃ Q37 : Int → NS → MM → Prop, CT_X8_digitAt G X.2.1 [(2, l0), (0, ((l2 + 1) + 1))] w34 M34 Q37 ∧ ∀ (z37 : Int) (w37 : NS) (M37 : MM), Q37 z37 w37 M37 → (((z34 ≤ z37) → P 0 w37 M37) ∧ ((¬ (z34 ≤ z37)) → P 1 w37 M37))))) ∧ ((¬ (z28 ≠ 126)) → (inR ((l2 + 1) + 3)) ∧ (w28.2 l0 = (9, 2)) ∧ ∃ Q40 : Int → NS → MM → Prop, CT_X8_wordAt G X.2.1 [(2, l0), (0, ((l2 + 1) + 3))] w28 M28 Q40 ∧ ∀ (z40 : Int) (w40 : NS) (M40 : MM), Q40 z40 w40 M40 → (inR ((l2 + 1) + 1)) ∧ (w40.2 l0 = (9, 2)) ∧ ∃ Q43 : Int → NS → MM → Prop, CT_X8_digitAt G X.2.1 [(2, l0), (0, ((l2 + 1) + 1))] w40 M40 Q43 ∧ ∀ (z43 : Int) (w43 : NS) (M43 : MM), Q43 z43 w43 M43 → (w43.2 l1 = (7, 12)) ∧ ∃ Q45 : Int → NS → MM → Prop, CT_X6_hasNear G X.2.1 [(2, l1), (0, z2), (0, z40), (0, z43)] w43 M43 Q45 ∧ ∀ (z45 : Int) (w45 : NS) (M45 : MM), Q45 z45 w45 M45 → (z45 = 0 ∨ z45 = 1) ∧ P z45 w45 M45))))) : A_X8_itemIsSo_0 G X P l0 l1 l2 w M := by
  unfold A_X8_itemIsSo_0
  refine s_aload_n C (d_of DX8_itemIsSo 0 rfl) rfl ?_
  refine s_iload_n C (d_of DX8_itemIsSo 1 rfl) rfl ?_
  obtain ⟨o1, h⟩ := h
  obtain ⟨Q2, hKQ2, h⟩ := h
  refine s_callV (ci := 8) (av := [(0, l2)]) (rest := []) (mc := 0) (ms := 0) C (d_of DX8_itemIsSo 2 rfl) lk_X8_49 o1 (by decide) rfl rfl rfl (Nat.le_of_ble_eq_true rfl) (by decide) (by decide) hKQ2 (fun z2 w2 M2 hq => ?_)
  have h := h z2 w2 M2 hq
  refine s_istore_n (ls' := [(2, l0), (2, l1), (0, l2), (0, z2), (3, 0)]) C (d_of DX8_itemIsSo 3 rfl) (by decide) rfl rfl ?_
  refine s_aload_n C (d_of DX8_itemIsSo 4 rfl) rfl ?_
  refine s_iload_n C (d_of DX8_itemIsSo 5 rfl) rfl ?_
  refine s_iconst C (d_of DX8_itemIsSo 6 rfl) (by decide) ?_
  obtain ⟨o3, h⟩ := h
  refine s_iadd C (d_of DX8_itemIsSo 7 rfl) o3 ?_
  obtain ⟨o4, h⟩ := h
  obtain ⟨Q5, hKQ5, h⟩ := h
  refine s_callV (ci := 8) (av := [(0, (l2 + 1))]) (rest := []) (mc := 0) (ms := 0) C (d_of DX8_itemIsSo 8 rfl) lk_X8_46 o4 (by decide) rfl rfl rfl (Nat.le_of_ble_eq_true rfl) (by decide) (by decide) hKQ5 (fun z5 w5 M5 hq => ?_)
  have h := h z5 w5 M5 hq
  refine s_ifge C (d_of DX8_itemIsSo 9 rfl) rfl (fun hc => ?_) (fun hc => ?_)
  · have h := h.1 hc
    refine s_iload_n C (d_of DX8_itemIsSo 14 rfl) rfl ?_
    refine s_iconst C (d_of DX8_itemIsSo 15 rfl) (by decide) ?_
    obtain ⟨o6, h⟩ := h
    refine s_iadd C (d_of DX8_itemIsSo 16 rfl) o6 ?_
    refine s_istore (ls' := [(2, l0), (2, l1), (0, l2), (0, z2), (0, (l2 + 2))]) C (d_of DX8_itemIsSo 17 rfl) (by decide) rfl rfl ?_
    refine s_aload_n C (d_of DX8_itemIsSo 18 rfl) rfl ?_
    refine s_iload C (d_of DX8_itemIsSo 19 rfl) rfl ?_
    obtain ⟨o7, h⟩ := h
    obtain ⟨Q8, hKQ8, h⟩ := h
    refine s_callV (ci := 8) (av := [(0, (l2 + 2))]) (rest := []) (mc := 0) (ms := 0) C (d_of DX8_itemIsSo 20 rfl) lk_X8_42 o7 (by decide) rfl rfl rfl (Nat.le_of_ble_eq_true rfl) (by decide) (by decide) hKQ8 (fun z8 w8 M8 hq => ?_)
    have h := h z8 w8 M8 hq
    refine s_bipush C (d_of DX8_itemIsSo 21 rfl) ⟨rfl, by decide, by decide⟩ ?_
    refine s_icmpne C (d_of DX8_itemIsSo 22 rfl) rfl (fun hc => ?_) (fun hc => ?_)
    · have h := h.1 hc
      refine s_aload_n C (d_of DX8_itemIsSo 37 rfl) rfl ?_
      refine s_iload C (d_of DX8_itemIsSo 38 rfl) rfl ?_
      obtain ⟨o9, h⟩ := h
      obtain ⟨Q10, hKQ10, h⟩ := h
      refine s_callV (ci := 8) (av := [(0, (l2 + 2))]) (rest := []) (mc := 0) (ms := 0) C (d_of DX8_itemIsSo 39 rfl) lk_X8_42 o9 (by decide) rfl rfl rfl (Nat.le_of_ble_eq_true rfl) (by decide) (by decide) hKQ10 (fun z10 w10 M10 hq => ?_)
      have h := h z10 w10 M10 hq
      refine s_bipush C (d_of DX8_itemIsSo 40 rfl) ⟨rfl, by decide, by decide⟩ ?_
      refine s_icmpne C (d_of DX8_itemIsSo 41 rfl) rfl (fun hc => ?_) (fun hc => ?_)
      · have h := h.1 hc
        refine s_aload_n C (d_of DX8_itemIsSo 55 rfl) rfl ?_
        refine s_iload_n C (d_of DX8_itemIsSo 56 rfl) rfl ?_
        obtain ⟨o11, h⟩ := h
        obtain ⟨Q12, hKQ12, h⟩ := h
        refine s_callV (ci := 6) (av := [(0, z2)]) (rest := []) (mc := 0) (ms := 0) C (d_of DX8_itemIsSo 57 rfl) lk_X8_58 o11 (by decide) rfl rfl rfl (Nat.le_of_ble_eq_true rfl) (by decide) (by decide) hKQ12 (fun z12 w12 M12 hq => ?_)
        have h := h z12 w12 M12 hq
        refine s_ifle C (d_of DX8_itemIsSo 58 rfl) rfl (fun hc => ?_) (fun hc => ?_)
        · have h := h.1 hc
          refine s_iconst C (d_of DX8_itemIsSo 61 rfl) (by decide) ?_
          exact s_zreturn C (d_of DX8_itemIsSo 62 rfl) (by decide) h
        · have h := h.2 hc
          refine s_iconst C (d_of DX8_itemIsSo 59 rfl) (by decide) ?_
          refine s_goto C (d_of DX8_itemIsSo 60 rfl) rfl ?_
          exact s_zreturn C (d_of DX8_itemIsSo 62 rfl) (by decide) h
      · have h := h.2 hc
        refine s_aload_n C (d_of DX8_itemIsSo 42 rfl) rfl ?_
        refine s_iload_n C (d_of DX8_itemIsSo 43 rfl) rfl ?_
        obtain ⟨o13, h⟩ := h
        obtain ⟨Q14, hKQ14, h⟩ := h
        refine s_callV (ci := 6) (av := [(0, z2)]) (rest := []) (mc := 0) (ms := 0) C (d_of DX8_itemIsSo 44 rfl) lk_X8_58 o13 (by decide) rfl rfl rfl (Nat.le_of_ble_eq_true rfl) (by decide) (by decide) hKQ14 (fun z14 w14 M14 hq => ?_)
        have h := h z14 w14 M14 hq
        refine s_aload_n C (d_of DX8_itemIsSo 45 rfl) rfl ?_
        refine s_iload C (d_of DX8_itemIsSo 46 rfl) rfl ?_
        refine s_iconst C (d_of DX8_itemIsSo 47 rfl) (by decide) ?_
        obtain ⟨o15, h⟩ := h
        refine s_iadd C (d_of DX8_itemIsSo 48 rfl) o15 ?_
        obtain ⟨o16, h⟩ := h
        obtain ⟨Q17, hKQ17, h⟩ := h
        refine s_callV (ci := 8) (av := [(0, ((l2 + 2) + 1))]) (rest := [(0, z14)]) (mc := 0) (ms := 0) C (d_of DX8_itemIsSo 49 rfl) lk_X8_46 o16 (by decide) rfl rfl rfl (Nat.le_of_ble_eq_true rfl) (by decide) (by decide) hKQ17 (fun z17 w17 M17 hq => ?_)
        have h := h z17 w17 M17 hq
        refine s_icmple C (d_of DX8_itemIsSo 50 rfl) rfl (fun hc => ?_) (fun hc => ?_)
        · have h := h.1 hc
          refine s_iconst C (d_of DX8_itemIsSo 53 rfl) (by decide) ?_
          exact s_zreturn C (d_of DX8_itemIsSo 54 rfl) (by decide) h
        · have h := h.2 hc
          refine s_iconst C (d_of DX8_itemIsSo 51 rfl) (by decide) ?_
          refine s_goto C (d_of DX8_itemIsSo 52 rfl) rfl ?_
          exact s_zreturn C (d_of DX8_itemIsSo 54 rfl) (by decide) h
    · have h := h.2 hc
      refine s_aload_n C (d_of DX8_itemIsSo 23 rfl) rfl ?_
      refine s_iload_n C (d_of DX8_itemIsSo 24 rfl) rfl ?_
      refine s_aload_n C (d_of DX8_itemIsSo 25 rfl) rfl ?_
      refine s_iload C (d_of DX8_itemIsSo 26 rfl) rfl ?_
      refine s_iconst C (d_of DX8_itemIsSo 27 rfl) (by decide) ?_
      obtain ⟨o18, h⟩ := h
      refine s_iadd C (d_of DX8_itemIsSo 28 rfl) o18 ?_
      obtain ⟨o19, h⟩ := h
      obtain ⟨Q20, hKQ20, h⟩ := h
      refine s_callV (ci := 8) (av := [(0, ((l2 + 2) + 3))]) (rest := [(0, z2), (2, l1)]) (mc := 0) (ms := 0) C (d_of DX8_itemIsSo 29 rfl) lk_X8_49 o19 (by decide) rfl rfl rfl (Nat.le_of_ble_eq_true rfl) (by decide) (by decide) hKQ20 (fun z20 w20 M20 hq => ?_)
      have h := h z20 w20 M20 hq
      refine s_aload_n C (d_of DX8_itemIsSo 30 rfl) rfl ?_
      refine s_iload C (d_of DX8_itemIsSo 31 rfl) rfl ?_
      refine s_iconst C (d_of DX8_itemIsSo 32 rfl) (by decide) ?_
      obtain ⟨o21, h⟩ := h
      refine s_iadd C (d_of DX8_itemIsSo 33 rfl) o21 ?_
      obtain ⟨o22, h⟩ := h
      obtain ⟨Q23, hKQ23, h⟩ := h
      refine s_callV (ci := 8) (av := [(0, ((l2 + 2) + 1))]) (rest := [(0, z20), (0, z2), (2, l1)]) (mc := 0) (ms := 0) C (d_of DX8_itemIsSo 34 rfl) lk_X8_46 o22 (by decide) rfl rfl rfl (Nat.le_of_ble_eq_true rfl) (by decide) (by decide) hKQ23 (fun z23 w23 M23 hq => ?_)
      have h := h z23 w23 M23 hq
      obtain ⟨o24, h⟩ := h
      obtain ⟨Q25, hKQ25, h⟩ := h
      refine s_callV (ci := 6) (av := [(0, z2), (0, z20), (0, z23)]) (rest := []) (mc := 0) (ms := 0) C (d_of DX8_itemIsSo 35 rfl) lk_X8_52 o24 (by decide) rfl rfl rfl (Nat.le_of_ble_eq_true rfl) (by decide) (by decide) hKQ25 (fun z25 w25 M25 hq => ?_)
      have h := h z25 w25 M25 hq
      obtain ⟨o26, h⟩ := h
      exact s_zreturn C (d_of DX8_itemIsSo 36 rfl) o26 h
  · have h := h.2 hc
    refine s_iload_n C (d_of DX8_itemIsSo 10 rfl) rfl ?_
    refine s_iconst C (d_of DX8_itemIsSo 11 rfl) (by decide) ?_
    refine s_iadd C (d_of DX8_itemIsSo 12 rfl) o3 ?_
    refine s_goto C (d_of DX8_itemIsSo 13 rfl) rfl ?_
    refine s_istore (ls' := [(2, l0), (2, l1), (0, l2), (0, z2), (0, (l2 + 1))]) C (d_of DX8_itemIsSo 17 rfl) (by decide) rfl rfl ?_
    refine s_aload_n C (d_of DX8_itemIsSo 18 rfl) rfl ?_
    refine s_iload C (d_of DX8_itemIsSo 19 rfl) rfl ?_
    obtain ⟨o27, h⟩ := h
    obtain ⟨Q28, hKQ28, h⟩ := h
    refine s_callV (ci := 8) (av := [(0, (l2 + 1))]) (rest := []) (mc := 0) (ms := 0) C (d_of DX8_itemIsSo 20 rfl) lk_X8_42 o27 (by decide) rfl rfl rfl (Nat.le_of_ble_eq_true rfl) (by decide) (by decide) hKQ28 (fun z28 w28 M28 hq => ?_)
    have h := h z28 w28 M28 hq
    refine s_bipush C (d_of DX8_itemIsSo 21 rfl) ⟨rfl, by decide, by decide⟩ ?_
    refine s_icmpne C (d_of DX8_itemIsSo 22 rfl) rfl (fun hc => ?_) (fun hc => ?_)
    · have h := h.1 hc
      refine s_aload_n C (d_of DX8_itemIsSo 37 rfl) rfl ?_
      refine s_iload C (d_of DX8_itemIsSo 38 rfl) rfl ?_
      obtain ⟨o29, h⟩ := h
      obtain ⟨Q30, hKQ30, h⟩ := h
      refine s_callV (ci := 8) (av := [(0, (l2 + 1))]) (rest := []) (mc := 0) (ms := 0) C (d_of DX8_itemIsSo 39 rfl) lk_X8_42 o29 (by decide) rfl rfl rfl (Nat.le_of_ble_eq_true rfl) (by decide) (by decide) hKQ30 (fun z30 w30 M30 hq => ?_)
      have h := h z30 w30 M30 hq
      refine s_bipush C (d_of DX8_itemIsSo 40 rfl) ⟨rfl, by decide, by decide⟩ ?_
      refine s_icmpne C (d_of DX8_itemIsSo 41 rfl) rfl (fun hc => ?_) (fun hc => ?_)
      · have h := h.1 hc
        refine s_aload_n C (d_of DX8_itemIsSo 55 rfl) rfl ?_
        refine s_iload_n C (d_of DX8_itemIsSo 56 rfl) rfl ?_
        obtain ⟨o31, h⟩ := h
        obtain ⟨Q32, hKQ32, h⟩ := h
        refine s_callV (ci := 6) (av := [(0, z2)]) (rest := []) (mc := 0) (ms := 0) C (d_of DX8_itemIsSo 57 rfl) lk_X8_58 o31 (by decide) rfl rfl rfl (Nat.le_of_ble_eq_true rfl) (by decide) (by decide) hKQ32 (fun z32 w32 M32 hq => ?_)
        have h := h z32 w32 M32 hq
        refine s_ifle C (d_of DX8_itemIsSo 58 rfl) rfl (fun hc => ?_) (fun hc => ?_)
        · have h := h.1 hc
          refine s_iconst C (d_of DX8_itemIsSo 61 rfl) (by decide) ?_
          exact s_zreturn C (d_of DX8_itemIsSo 62 rfl) (by decide) h
        · have h := h.2 hc
          refine s_iconst C (d_of DX8_itemIsSo 59 rfl) (by decide) ?_
          refine s_goto C (d_of DX8_itemIsSo 60 rfl) rfl ?_
          exact s_zreturn C (d_of DX8_itemIsSo 62 rfl) (by decide) h
      · have h := h.2 hc
        refine s_aload_n C (d_of DX8_itemIsSo 42 rfl) rfl ?_
        refine s_iload_n C (d_of DX8_itemIsSo 43 rfl) rfl ?_
        obtain ⟨o33, h⟩ := h
        obtain ⟨Q34, hKQ34, h⟩ := h
        refine s_callV (ci := 6) (av := [(0, z2)]) (rest := []) (mc := 0) (ms := 0) C (d_of DX8_itemIsSo 44 rfl) lk_X8_58 o33 (by decide) rfl rfl rfl (Nat.le_of_ble_eq_true rfl) (by decide) (by decide) hKQ34 (fun z34 w34 M34 hq => ?_)
        have h := h z34 w34 M34 hq
        refine s_aload_n C (d_of DX8_itemIsSo 45 rfl) rfl ?_
        refine s_iload C (d_of DX8_itemIsSo 46 rfl) rfl ?_
        refine s_iconst C (d_of DX8_itemIsSo 47 rfl) (by decide) ?_
        obtain ⟨o35, h⟩ := h
        refine s_iadd C (d_of DX8_itemIsSo 48 rfl) o35 ?_
        obtain ⟨o36, h⟩ := h
        obtain ⟨Q37, hKQ37, h⟩ := h
        refine s_callV (ci := 8) (av := [(0, ((l2 + 1) + 1))]) (rest := [(0, z34)]) (mc := 0) (ms := 0) C (d_of DX8_itemIsSo 49 rfl) lk_X8_46 o36 (by decide) rfl rfl rfl (Nat.le_of_ble_eq_true rfl) (by decide) (by decide) hKQ37 (fun z37 w37 M37 hq => ?_)
        have h := h z37 w37 M37 hq
        refine s_icmple C (d_of DX8_itemIsSo 50 rfl) rfl (fun hc => ?_) (fun hc => ?_)
        · have h := h.1 hc
          refine s_iconst C (d_of DX8_itemIsSo 53 rfl) (by decide) ?_
          exact s_zreturn C (d_of DX8_itemIsSo 54 rfl) (by decide) h
        · have h := h.2 hc
          refine s_iconst C (d_of DX8_itemIsSo 51 rfl) (by decide) ?_
          refine s_goto C (d_of DX8_itemIsSo 52 rfl) rfl ?_
          exact s_zreturn C (d_of DX8_itemIsSo 54 rfl) (by decide) h
    · have h := h.2 hc
      refine s_aload_n C (d_of DX8_itemIsSo 23 rfl) rfl ?_
      refine s_iload_n C (d_of DX8_itemIsSo 24 rfl) rfl ?_
      refine s_aload_n C (d_of DX8_itemIsSo 25 rfl) rfl ?_
      refine s_iload C (d_of DX8_itemIsSo 26 rfl) rfl ?_
      refine s_iconst C (d_of DX8_itemIsSo 27 rfl) (by decide) ?_
      obtain ⟨o38, h⟩ := h
      refine s_iadd C (d_of DX8_itemIsSo 28 rfl) o38 ?_
      obtain ⟨o39, h⟩ := h
      obtain ⟨Q40, hKQ40, h⟩ := h
      refine s_callV (ci := 8) (av := [(0, ((l2 + 1) + 3))]) (rest := [(0, z2), (2, l1)]) (mc := 0) (ms := 0) C (d_of DX8_itemIsSo 29 rfl) lk_X8_49 o39 (by decide) rfl rfl rfl (Nat.le_of_ble_eq_true rfl) (by decide) (by decide) hKQ40 (fun z40 w40 M40 hq => ?_)
      have h := h z40 w40 M40 hq
      refine s_aload_n C (d_of DX8_itemIsSo 30 rfl) rfl ?_
      refine s_iload C (d_of DX8_itemIsSo 31 rfl) rfl ?_
      refine s_iconst C (d_of DX8_itemIsSo 32 rfl) (by decide) ?_
      obtain ⟨o41, h⟩ := h
      refine s_iadd C (d_of DX8_itemIsSo 33 rfl) o41 ?_
      obtain ⟨o42, h⟩ := h
      obtain ⟨Q43, hKQ43, h⟩ := h
      refine s_callV (ci := 8) (av := [(0, ((l2 + 1) + 1))]) (rest := [(0, z40), (0, z2), (2, l1)]) (mc := 0) (ms := 0) C (d_of DX8_itemIsSo 34 rfl) lk_X8_46 o42 (by decide) rfl rfl rfl (Nat.le_of_ble_eq_true rfl) (by decide) (by decide) hKQ43 (fun z43 w43 M43 hq => ?_)
      have h := h z43 w43 M43 hq
      obtain ⟨o44, h⟩ := h
      obtain ⟨Q45, hKQ45, h⟩ := h
      refine s_callV (ci := 6) (av := [(0, z2), (0, z40), (0, z43)]) (rest := []) (mc := 0) (ms := 0) C (d_of DX8_itemIsSo 35 rfl) lk_X8_52 o44 (by decide) rfl rfl rfl (Nat.le_of_ble_eq_true rfl) (by decide) (by decide) hKQ45 (fun z45 w45 M45 hq => ?_)
      have h := h z45 w45 M45 hq
      obtain ⟨o46, h⟩ := h
      exact s_zreturn C (d_of DX8_itemIsSo 36 rfl) o46 h
theorem E_X8_itemIsSo {G : GP} {l : Launch} {P : Int → NS → MM → Prop} {l0 : Int} {l1 : Int} {l2 : Int} {w : NS} {M : MM} (h : inR l2 → ∀ X : BX, X.2.1 = l → CX_X8_itemIsSo G X → A_X8_itemIsSo_0 G X P l0 l1 l2 w M) : CT_X8_itemIsSo G l [(2, l0), (2, l1), (0, l2)] w M P :=
  CT.of RX8 "itemIsSo" (by decide +kernel) rfl rfl rfl (Nat.le_of_ble_eq_true rfl) (fun hr X hX C => h (hr (0, l2) (by simp)) X hX C)
def A_X8_isSo_0 (G : GP) (X : BX) (P : Int → NS → MM → Prop) (l0 : Int) (l1 : Int) (w : NS) (M : MM) : Prop := WA true G X (QM G X true 0 P) 9 0 [(2, l0), (2, l1), (3, 0), (3, 0), (3, 0), (3, 0), (3, 0), (3, 0), (3, 0)] [] 0 0 w M
def A_X8_isSo_13 (G : GP) (X : BX) (P : Int → NS → MM → Prop) (l0 : Int) (l1 : Int) (l2 : Int) (l3 : Int) (l4 : Int) (l5 : Int) (l6 : Int) (w : NS) (M : MM) : Prop := WA true G X (QM G X true 0 P) 9 13 [(2, l0), (2, l1), (0, l2), (0, l3), (0, l4), (0, l5), (0, l6), (3, 0), (3, 0)] [] 0 0 w M
set_option maxHeartbeats 4000000 in
set_option maxRecDepth 100000 in
theorem B_X8_isSo_0 {G : GP} {X : BX} {P : Int → NS → MM → Prop} {l0 : Int} {l1 : Int} {w : NS} {M : MM} (C : CX_X8_isSo G X) (h : A_X8_isSo_13 G X P l0 l1 0 1 0 0 0 w M) : A_X8_isSo_0 G X P l0 l1 w M := by
  unfold A_X8_isSo_0
  refine s_iconst C (d_of DX8_isSo 0 rfl) (by decide) ?_
  refine s_istore_n (ls' := [(2, l0), (2, l1), (0, 0), (3, 0), (3, 0), (3, 0), (3, 0), (3, 0), (3, 0)]) C (d_of DX8_isSo 1 rfl) (by decide) rfl rfl ?_
  refine s_iconst C (d_of DX8_isSo 2 rfl) (by decide) ?_
  refine s_istore_n (ls' := [(2, l0), (2, l1), (0, 0), (0, 1), (3, 0), (3, 0), (3, 0), (3, 0), (3, 0)]) C (d_of DX8_isSo 3 rfl) (by decide) rfl rfl ?_
  refine s_iconst C (d_of DX8_isSo 4 rfl) (by decide) ?_
  refine s_istore (ls' := [(2, l0), (2, l1), (0, 0), (0, 1), (0, 0), (3, 0), (3, 0), (3, 0), (3, 0)]) C (d_of DX8_isSo 5 rfl) (by decide) rfl rfl ?_
  refine s_iconst C (d_of DX8_isSo 6 rfl) (by decide) ?_
  refine s_istore (ls' := [(2, l0), (2, l1), (0, 0), (0, 1), (0, 0), (0, 0), (3, 0), (3, 0), (3, 0)]) C (d_of DX8_isSo 7 rfl) (by decide) rfl rfl ?_
  refine s_iconst C (d_of DX8_isSo 8 rfl) (by decide) ?_
  refine s_istore (ls' := [(2, l0), (2, l1), (0, 0), (0, 1), (0, 0), (0, 0), (0, 0), (3, 0), (3, 0)]) C (d_of DX8_isSo 9 rfl) (by decide) rfl rfl ?_
  exact h
set_option maxHeartbeats 4000000 in
set_option maxRecDepth 100000 in
theorem B_X8_isSo_13 {G : GP} {X : BX} {P : Int → NS → MM → Prop} {l0 : Int} {l1 : Int} {l2 : Int} {l3 : Int} {l4 : Int} {l5 : Int} {l6 : Int} {w : NS} {M : MM} (C : CX_X8_isSo G X) (h : (w.2 l0 = (9, 2)) ∧ ((((M l0 1) ≤ l6) → P (b2i (zand (zshr (zor l2 l3) 0) 1 = 1)) w M) ∧ ((¬ ((M l0 1) ≤ l6)) → (0 ≤ l6) ∧ (l6 < 40) ∧ ((((M (l0 + 1) l6) ≠ 40) → ((((M (l0 + 1) l6) ≠ 33) → ((((M (l0 + 1) l6) ≠ 124) → ((((M (l0 + 1) l6) = 41) → ((((M (l0 + 1) l6) ≠ 41) → ∃ Q7 : Int → NS → MM → Prop, CT_X8_itemIsSo G X.2.1 [(2, l0), (2, l1), (0, l6)] w M Q7 ∧ ∀ (z7 : Int) (w7 : NS) (M7 : MM), Q7 z7 w7 M7 → ((((M (l0 + 1) l6) ≠ 41) → (inR (l5 - 0)) ∧ (((z7 ≠ (b2i (zand (zshr l4 (l5 - 0)) 1 = 1))) → (inR (l6 + 1)) ∧ A_X8_isSo_13 G X P l0 l1 l2 l3 (zand l4 (zxor (zshl 1 (l5 - 0)) (-1))) (l5 - 0) (l6 + 1) w7 M7) ∧ ((¬ (z7 ≠ (b2i (zand (zshr l4 (l5 - 0)) 1 = 1)))) → (inR (l6 + 1)) ∧ A_X8_isSo_13 G X P l0 l1 l2 (zand l3 (zxor (zshl 1 (l5 - 0)) (-1))) (zand l4 (zxor (zshl 1 (l5 - 0)) (-1))) (l5 - 0) (l6 + 1) w7 M7))) ∧ ((¬ ((M (l0 + 1) l6) ≠ 41)) → (inR (l5 - 1)) ∧ (((z7 ≠ (b2i (zand (zshr l4 (l5 - 1)) 1 = 1))) → (inR (l6 + 1)) ∧ A_X8_isSo_13 G X P l0 l1 l2 l3 (zand l4 (zxor (zshl 1 (l5 - 1)) (-1))) (l5 - 1) (l6 + 1) w7 M7) ∧ ((¬ (z7 ≠ (b2i (zand (zshr l4 (l5 - 1)) 1 = 1)))) → (inR (l6 + 1)) ∧ A_X8_isSo_13 G X P l0 l1 l2 (zand l3 (zxor (zshl 1 (l5 - 1)) (-1))) (zand l4 (zxor (zshl 1 (l5 - 1)) (-1))) (l5 - 1) (l6 + 1) w7 M7))))) ∧ ((¬ ((M (l0 + 1) l6) ≠ 41)) → ((((M (l0 + 1) l6) ≠ 41) → (inR (l5 - 0)) ∧ ((((b2i (zand (zshr (zor l2 l3) l5) 1 = 1)) ≠ (b2i (zand (zshr l4 (l5 - 0)) 1 = 1))) → (inR (l6 + 1)) ∧ A_X8_isSo_13 G X P l0 l1 l2 l3 (zand l4 (zxor (zshl 1 (l5 - 0)) (-1))) (l5 - 0) (l6 + 1) w M) ∧ ((¬ ((b2i (zand (zshr (zor l2 l3) l5) 1 = 1)) ≠ (b2i (zand (zshr l4 (l5 - 0)) 1 = 1)))) → (inR (l6 + 1)) ∧ A_X8_isSo_13 G X P l0 l1 l2 (zand l3 (zxor (zshl 1 (l5 - 0)) (-1))) (zand l4 (zxor (zshl 1 (l5 - 0)) (-1))) (l5 - 0) (l6 + 1) w M))) ∧ ((¬ ((M (l0 + 1) l6) ≠ 41)) → (inR (l5 - 1)) ∧ ((((b2i (zand (zshr (zor l2 l3) l5) 1 = 1)) ≠ (b2i (zand (zshr l4 (l5 - 1)) 1 = 1))) → (inR (l6 + 1)) ∧ A_X8_isSo_13 G X P l0 l1 l2 l3 (zand l4 (zxor (zshl 1 (l5 - 1)) (-1))) (l5 - 1) (l6 + 1) w M) ∧ ((¬ ((b2i (zand (zshr (zor l2 l3) l5) 1 = 1)) ≠ (b2i (zand (zshr l4 (l5 - 1)) 1 = 1)))) → (inR (l6 + 1)) ∧ A_X8_isSo_13 G X P l0 l1 l2 (zand l3 (zxor (zshl 1 (l5 - 1)) (-1))) (zand l4 (zxor (zshl 1 (l5 - 1)) (-1))) (l5 - 1) (l6 + 1) w M))))))) ∧ ((¬ ((M (l0 + 1) l6) = 41)) → ∃ Q25 : Int → NS → MM → Prop, CT_X8_startsItem G X.2.1 [(2, l0), (0, l6)] w M Q25 ∧ ∀ (z25 : Int) (w25 : NS) (M25 : MM), Q25 z25 w25 M25 → (((z25 = 0) → (inR (l6 + 1)) ∧ A_X8_isSo_13 G X P l0 l1 l2 l3 l4 l5 (l6 + 1) w25 M25) ∧ ((¬ (z25 = 0)) → ((((M (l0 + 1) l6) ≠ 41) → (w25.2 l0 = (9, 2)) ∧ ∃ Q28 : Int → NS → MM → Prop, CT_X8_itemIsSo G X.2.1 [(2, l0), (2, l1), (0, l6)] w25 M25 Q28 ∧ ∀ (z28 : Int) (w28 : NS) (M28 : MM), Q28 z28 w28 M28 → ((((M (l0 + 1) l6) ≠ 41) → (inR (l5 - 0)) ∧ (((z28 ≠ (b2i (zand (zshr l4 (l5 - 0)) 1 = 1))) → (inR (l6 + 1)) ∧ A_X8_isSo_13 G X P l0 l1 l2 l3 (zand l4 (zxor (zshl 1 (l5 - 0)) (-1))) (l5 - 0) (l6 + 1) w28 M28) ∧ ((¬ (z28 ≠ (b2i (zand (zshr l4 (l5 - 0)) 1 = 1)))) → (inR (l6 + 1)) ∧ A_X8_isSo_13 G X P l0 l1 l2 (zand l3 (zxor (zshl 1 (l5 - 0)) (-1))) (zand l4 (zxor (zshl 1 (l5 - 0)) (-1))) (l5 - 0) (l6 + 1) w28 M28))) ∧ ((¬ ((M (l0 + 1) l6) ≠ 41)) → (inR (l5 - 1)) ∧ (((z28 ≠ (b2i (zand (zshr l4 (l5 - 1)) 1 = 1))) → (inR (l6 + 1)) ∧ A_X8_isSo_13 G X P l0 l1 l2 l3 (zand l4 (zxor (zshl 1 (l5 - 1)) (-1))) (l5 - 1) (l6 + 1) w28 M28) ∧ ((¬ (z28 ≠ (b2i (zand (zshr l4 (l5 - 1)) 1 = 1)))) → (inR (l6 + 1)) ∧ A_X8_isSo_13 G X P l0 l1 l2 (zand l3 (zxor (zshl 1 (l5 - 1)) (-1))) (zand l4 (zxor (zshl 1 (l5 - 1)) (-1))) (l5 - 1) (l6 + 1) w28 M28))))) ∧ ((¬ ((M (l0 + 1) l6) ≠ 41)) → ((((M (l0 + 1) l6) ≠ 41) → (inR (l5 - 0)) ∧ ((((b2i (zand (zshr (zor l2 l3) l5) 1 = 1)) ≠ (b2i (zand (zshr l4 (l5 - 0)) 1 = 1))) → (inR (l6 + 1)) ∧ A_X8_isSo_13 G X P l0 l1 l2 l3 (zand l4 (zxor (zshl 1 (l5 - 0)) (-1))) (l5 - 0) (l6 + 1) w25 M25) ∧ ((¬ ((b2i (zand (zshr (zor l2 l3) l5) 1 = 1)) ≠ (b2i (zand (zshr l4 (l5 - 0)) 1 = 1)))) → (inR (l6 + 1)) ∧ A_X8_isSo_13 G X P l0 l1 l2 (zand l3 (zxor (zshl 1 (l5 - 0)) (-1))) (zand l4 (zxor (zshl 1 (l5 - 0)) (-1))) (l5 - 0) (l6 + 1) w25 M25))) ∧ ((¬ ((M (l0 + 1) l6) ≠ 41)) → (inR (l5 - 1)) ∧ ((((b2i (zand (zshr (zor l2 l3) l5) 1 = 1)) ≠ (b2i (zand (zshr l4 (l5 - 1)) 1 = 1))) → (inR (l6 + 1)) ∧ A_X8_isSo_13 G X P l0 l1 l2 l3 (zand l4 (zxor (zshl 1 (l5 - 1)) (-1))) (l5 - 1) (l6 + 1) w25 M25) ∧ ((¬ ((b2i (zand (zshr (zor l2 l3) l5) 1 = 1)) ≠ (b2i (zand (zshr l4 (l5 - 1)) 1 = 1)))) → (inR (l6 + 1)) ∧ A_X8_isSo_13 G X P l0 l1 l2 (zand l3 (zxor (zshl 1 (l5 - 1)) (-1))) (zand l4 (zxor (zshl 1 (l5 - 1)) (-1))) (l5 - 1) (l6 + 1) w25 M25))))))))))) ∧ ((¬ ((M (l0 + 1) l6) ≠ 124)) → (inR (l6 + 1)) ∧ A_X8_isSo_13 G X P l0 l1 (zor l2 (zand l3 (zshl 1 l5))) (zor l3 (zshl 1 l5)) l4 l5 (l6 + 1) w M))) ∧ ((¬ ((M (l0 + 1) l6) ≠ 33)) → (inR (l6 + 1)) ∧ A_X8_isSo_13 G X P l0 l1 l2 l3 (zxor l4 (zshl 1 l5)) l5 (l6 + 1) w M))) ∧ ((¬ ((M (l0 + 1) l6) ≠ 40)) → (inR (l5 + 1)) ∧ (inR (l6 + 1)) ∧ A_X8_isSo_13 G X P l0 l1 (zand l2 (zxor (zshl 1 (l5 + 1)) (-1))) (zor l3 (zshl 1 (l5 + 1))) l4 (l5 + 1) (l6 + 1) w M))))) : A_X8_isSo_13 G X P l0 l1 l2 l3 l4 l5 l6 w M := by
  unfold A_X8_isSo_13
  refine s_iload C (d_of DX8_isSo 10 rfl) rfl ?_
  refine s_aload_n C (d_of DX8_isSo 11 rfl) rfl ?_
  obtain ⟨o1, h⟩ := h
  refine gf_X8_15 (v0 := (M l0 1)) C o1 (d_of DX8_isSo 12 rfl) rfl ?_
  refine s_icmpge C (d_of DX8_isSo 13 rfl) rfl (fun hc => ?_) (fun hc => ?_)
  · have h := h.1 hc
    refine s_iload_n C (d_of DX8_isSo 119 rfl) rfl ?_
    refine s_iload_n C (d_of DX8_isSo 120 rfl) rfl ?_
    refine s_ior C (d_of DX8_isSo 121 rfl) ?_
    refine s_iconst C (d_of DX8_isSo 122 rfl) (by decide) ?_
    refine s_callSN (av := [(0, (zor l2 l3)), (0, 0)]) (rest := []) (mc := 0) (ms := 0) C (d_of DX8_isSo 123 rfl) lk_X8_34 rfl rfl (Nat.le_of_ble_eq_true rfl) (by decide) (by decide) (pc_X9_hasBit) (fun z2 wz2 Mz2 hq => ?_)
    obtain ⟨hq1, hq2, hq3⟩ := hq
    have hq2 := hq2.symm
    have hq3 := hq3.symm
    subst hq1 hq2 hq3
    exact s_zreturn C (d_of DX8_isSo 124 rfl) (b2i_01 _) h
  · have h := h.2 hc
    refine s_aload_n C (d_of DX8_isSo 14 rfl) rfl ?_
    refine WA.fix (fun hF3 => ?_)
    have hd4 := FixA.dy (t := 9) (n := 2) (k := 0) (m := 40) hF3 (by decide) o1
    refine gf_X8_11 C o1 (d_of DX8_isSo 15 rfl) hd4.1 ?_
    refine s_iload C (d_of DX8_isSo 16 rfl) rfl ?_
    obtain ⟨o5, h⟩ := h
    obtain ⟨o6, h⟩ := h
    refine s_iald (v0 := (M (l0 + 1) l6)) C hd4.2 o5 o6 (d_of DX8_isSo 17 rfl) rfl ?_
    refine s_istore (ls' := [(2, l0), (2, l1), (0, l2), (0, l3), (0, l4), (0, l5), (0, l6), (0, (M (l0 + 1) l6)), (3, 0)]) C (d_of DX8_isSo 18 rfl) (by decide) rfl rfl ?_
    refine s_iload C (d_of DX8_isSo 19 rfl) rfl ?_
    refine s_bipush C (d_of DX8_isSo 20 rfl) ⟨rfl, by decide, by decide⟩ ?_
    refine s_icmpne C (d_of DX8_isSo 21 rfl) rfl (fun hc => ?_) (fun hc => ?_)
    · have h := h.1 hc
      refine s_iload C (d_of DX8_isSo 38 rfl) rfl ?_
      refine s_bipush C (d_of DX8_isSo 39 rfl) ⟨rfl, by decide, by decide⟩ ?_
      refine s_icmpne C (d_of DX8_isSo 40 rfl) rfl (fun hc => ?_) (fun hc => ?_)
      · have h := h.1 hc
        refine s_iload C (d_of DX8_isSo 48 rfl) rfl ?_
        refine s_bipush C (d_of DX8_isSo 49 rfl) ⟨rfl, by decide, by decide⟩ ?_
        refine s_icmpne C (d_of DX8_isSo 50 rfl) rfl (fun hc => ?_) (fun hc => ?_)
        · have h := h.1 hc
          refine s_iload C (d_of DX8_isSo 66 rfl) rfl ?_
          refine s_bipush C (d_of DX8_isSo 67 rfl) ⟨rfl, by decide, by decide⟩ ?_
          refine s_icmpeq C (d_of DX8_isSo 68 rfl) rfl (fun hc => ?_) (fun hc => ?_)
          · have h := h.1 hc
            refine s_iload C (d_of DX8_isSo 73 rfl) rfl ?_
            refine s_bipush C (d_of DX8_isSo 74 rfl) ⟨rfl, by decide, by decide⟩ ?_
            refine s_icmpne C (d_of DX8_isSo 75 rfl) rfl (fun hc => ?_) (fun hc => ?_)
            · have h := h.1 hc
              refine s_aload_n C (d_of DX8_isSo 82 rfl) rfl ?_
              refine s_aload_n C (d_of DX8_isSo 83 rfl) rfl ?_
              refine s_iload C (d_of DX8_isSo 84 rfl) rfl ?_
              obtain ⟨Q7, hKQ7, h⟩ := h
              refine s_callV (ci := 8) (av := [(2, l1), (0, l6)]) (rest := []) (mc := 0) (ms := 0) C (d_of DX8_isSo 85 rfl) lk_X8_38 o1 (by decide) rfl rfl rfl (Nat.le_of_ble_eq_true rfl) (by decide) (by decide) hKQ7 (fun z7 w7 M7 hq => ?_)
              have h := h z7 w7 M7 hq
              refine s_istore (ls' := [(2, l0), (2, l1), (0, l2), (0, l3), (0, l4), (0, l5), (0, l6), (0, (M (l0 + 1) l6)), (0, z7)]) C (d_of DX8_isSo 86 rfl) (by decide) rfl rfl ?_
              refine s_iload C (d_of DX8_isSo 87 rfl) rfl ?_
              refine s_iload C (d_of DX8_isSo 88 rfl) rfl ?_
              refine s_bipush C (d_of DX8_isSo 89 rfl) ⟨rfl, by decide, by decide⟩ ?_
              refine s_icmpne C (d_of DX8_isSo 90 rfl) rfl (fun hc => ?_) (fun hc => ?_)
              · have h := h.1 hc
                refine s_iconst C (d_of DX8_isSo 93 rfl) (by decide) ?_
                obtain ⟨o8, h⟩ := h
                refine s_isub C (d_of DX8_isSo 94 rfl) o8 ?_
                refine s_istore (ls' := [(2, l0), (2, l1), (0, l2), (0, l3), (0, l4), (0, (l5 - 0)), (0, l6), (0, (M (l0 + 1) l6)), (0, z7)]) C (d_of DX8_isSo 95 rfl) (by decide) rfl rfl ?_
                refine s_iload C (d_of DX8_isSo 96 rfl) rfl ?_
                refine s_iload C (d_of DX8_isSo 97 rfl) rfl ?_
                refine s_iload C (d_of DX8_isSo 98 rfl) rfl ?_
                refine s_callSN (av := [(0, l4), (0, (l5 - 0))]) (rest := [(0, z7)]) (mc := 0) (ms := 0) C (d_of DX8_isSo 99 rfl) lk_X8_34 rfl rfl (Nat.le_of_ble_eq_true rfl) (by decide) (by decide) (pc_X9_hasBit) (fun z9 wz9 Mz9 hq => ?_)
                obtain ⟨hq1, hq2, hq3⟩ := hq
                have hq2 := hq2.symm
                have hq3 := hq3.symm
                subst hq1 hq2 hq3
                refine s_icmpne C (d_of DX8_isSo 100 rfl) rfl (fun hc => ?_) (fun hc => ?_)
                · have h := h.1 hc
                  refine s_iload C (d_of DX8_isSo 109 rfl) rfl ?_
                  refine s_iconst C (d_of DX8_isSo 110 rfl) (by decide) ?_
                  refine s_iload C (d_of DX8_isSo 111 rfl) rfl ?_
                  refine s_ishl C (d_of DX8_isSo 112 rfl) ?_
                  refine s_iconst C (d_of DX8_isSo 113 rfl) (by decide) ?_
                  refine s_ixor C (d_of DX8_isSo 114 rfl) ?_
                  refine s_iand C (d_of DX8_isSo 115 rfl) ?_
                  refine s_istore (ls' := [(2, l0), (2, l1), (0, l2), (0, l3), (0, (zand l4 (zxor (zshl 1 (l5 - 0)) (-1)))), (0, (l5 - 0)), (0, l6), (0, (M (l0 + 1) l6)), (0, z7)]) C (d_of DX8_isSo 116 rfl) (by decide) rfl rfl ?_
                  obtain ⟨o10, h⟩ := h
                  refine s_iinc (ls' := [(2, l0), (2, l1), (0, l2), (0, l3), (0, (zand l4 (zxor (zshl 1 (l5 - 0)) (-1)))), (0, (l5 - 0)), (0, (l6 + 1)), (0, (M (l0 + 1) l6)), (0, z7)]) C (d_of DX8_isSo 117 rfl) (by decide) rfl o10 rfl rfl ?_
                  refine s_goto C (d_of DX8_isSo 118 rfl) rfl ?_
                  exact WA.wk h ⟨Or.inr rfl, Or.inr rfl, Or.inr rfl, Or.inr rfl, Or.inr rfl, Or.inr rfl, Or.inr rfl, Or.inl rfl, Or.inl rfl, trivial⟩
                · have h := h.2 hc
                  refine s_iload_n C (d_of DX8_isSo 101 rfl) rfl ?_
                  refine s_iconst C (d_of DX8_isSo 102 rfl) (by decide) ?_
                  refine s_iload C (d_of DX8_isSo 103 rfl) rfl ?_
                  refine s_ishl C (d_of DX8_isSo 104 rfl) ?_
                  refine s_iconst C (d_of DX8_isSo 105 rfl) (by decide) ?_
                  refine s_ixor C (d_of DX8_isSo 106 rfl) ?_
                  refine s_iand C (d_of DX8_isSo 107 rfl) ?_
                  refine s_istore_n (ls' := [(2, l0), (2, l1), (0, l2), (0, (zand l3 (zxor (zshl 1 (l5 - 0)) (-1)))), (0, l4), (0, (l5 - 0)), (0, l6), (0, (M (l0 + 1) l6)), (0, z7)]) C (d_of DX8_isSo 108 rfl) (by decide) rfl rfl ?_
                  refine s_iload C (d_of DX8_isSo 109 rfl) rfl ?_
                  refine s_iconst C (d_of DX8_isSo 110 rfl) (by decide) ?_
                  refine s_iload C (d_of DX8_isSo 111 rfl) rfl ?_
                  refine s_ishl C (d_of DX8_isSo 112 rfl) ?_
                  refine s_iconst C (d_of DX8_isSo 113 rfl) (by decide) ?_
                  refine s_ixor C (d_of DX8_isSo 114 rfl) ?_
                  refine s_iand C (d_of DX8_isSo 115 rfl) ?_
                  refine s_istore (ls' := [(2, l0), (2, l1), (0, l2), (0, (zand l3 (zxor (zshl 1 (l5 - 0)) (-1)))), (0, (zand l4 (zxor (zshl 1 (l5 - 0)) (-1)))), (0, (l5 - 0)), (0, l6), (0, (M (l0 + 1) l6)), (0, z7)]) C (d_of DX8_isSo 116 rfl) (by decide) rfl rfl ?_
                  obtain ⟨o11, h⟩ := h
                  refine s_iinc (ls' := [(2, l0), (2, l1), (0, l2), (0, (zand l3 (zxor (zshl 1 (l5 - 0)) (-1)))), (0, (zand l4 (zxor (zshl 1 (l5 - 0)) (-1)))), (0, (l5 - 0)), (0, (l6 + 1)), (0, (M (l0 + 1) l6)), (0, z7)]) C (d_of DX8_isSo 117 rfl) (by decide) rfl o11 rfl rfl ?_
                  refine s_goto C (d_of DX8_isSo 118 rfl) rfl ?_
                  exact WA.wk h ⟨Or.inr rfl, Or.inr rfl, Or.inr rfl, Or.inr rfl, Or.inr rfl, Or.inr rfl, Or.inr rfl, Or.inl rfl, Or.inl rfl, trivial⟩
              · have h := h.2 hc
                refine s_iconst C (d_of DX8_isSo 91 rfl) (by decide) ?_
                refine s_goto C (d_of DX8_isSo 92 rfl) rfl ?_
                obtain ⟨o12, h⟩ := h
                refine s_isub C (d_of DX8_isSo 94 rfl) o12 ?_
                refine s_istore (ls' := [(2, l0), (2, l1), (0, l2), (0, l3), (0, l4), (0, (l5 - 1)), (0, l6), (0, (M (l0 + 1) l6)), (0, z7)]) C (d_of DX8_isSo 95 rfl) (by decide) rfl rfl ?_
                refine s_iload C (d_of DX8_isSo 96 rfl) rfl ?_
                refine s_iload C (d_of DX8_isSo 97 rfl) rfl ?_
                refine s_iload C (d_of DX8_isSo 98 rfl) rfl ?_
                refine s_callSN (av := [(0, l4), (0, (l5 - 1))]) (rest := [(0, z7)]) (mc := 0) (ms := 0) C (d_of DX8_isSo 99 rfl) lk_X8_34 rfl rfl (Nat.le_of_ble_eq_true rfl) (by decide) (by decide) (pc_X9_hasBit) (fun z13 wz13 Mz13 hq => ?_)
                obtain ⟨hq1, hq2, hq3⟩ := hq
                have hq2 := hq2.symm
                have hq3 := hq3.symm
                subst hq1 hq2 hq3
                refine s_icmpne C (d_of DX8_isSo 100 rfl) rfl (fun hc => ?_) (fun hc => ?_)
                · have h := h.1 hc
                  refine s_iload C (d_of DX8_isSo 109 rfl) rfl ?_
                  refine s_iconst C (d_of DX8_isSo 110 rfl) (by decide) ?_
                  refine s_iload C (d_of DX8_isSo 111 rfl) rfl ?_
                  refine s_ishl C (d_of DX8_isSo 112 rfl) ?_
                  refine s_iconst C (d_of DX8_isSo 113 rfl) (by decide) ?_
                  refine s_ixor C (d_of DX8_isSo 114 rfl) ?_
                  refine s_iand C (d_of DX8_isSo 115 rfl) ?_
                  refine s_istore (ls' := [(2, l0), (2, l1), (0, l2), (0, l3), (0, (zand l4 (zxor (zshl 1 (l5 - 1)) (-1)))), (0, (l5 - 1)), (0, l6), (0, (M (l0 + 1) l6)), (0, z7)]) C (d_of DX8_isSo 116 rfl) (by decide) rfl rfl ?_
                  obtain ⟨o14, h⟩ := h
                  refine s_iinc (ls' := [(2, l0), (2, l1), (0, l2), (0, l3), (0, (zand l4 (zxor (zshl 1 (l5 - 1)) (-1)))), (0, (l5 - 1)), (0, (l6 + 1)), (0, (M (l0 + 1) l6)), (0, z7)]) C (d_of DX8_isSo 117 rfl) (by decide) rfl o14 rfl rfl ?_
                  refine s_goto C (d_of DX8_isSo 118 rfl) rfl ?_
                  exact WA.wk h ⟨Or.inr rfl, Or.inr rfl, Or.inr rfl, Or.inr rfl, Or.inr rfl, Or.inr rfl, Or.inr rfl, Or.inl rfl, Or.inl rfl, trivial⟩
                · have h := h.2 hc
                  refine s_iload_n C (d_of DX8_isSo 101 rfl) rfl ?_
                  refine s_iconst C (d_of DX8_isSo 102 rfl) (by decide) ?_
                  refine s_iload C (d_of DX8_isSo 103 rfl) rfl ?_
                  refine s_ishl C (d_of DX8_isSo 104 rfl) ?_
                  refine s_iconst C (d_of DX8_isSo 105 rfl) (by decide) ?_
                  refine s_ixor C (d_of DX8_isSo 106 rfl) ?_
                  refine s_iand C (d_of DX8_isSo 107 rfl) ?_
                  refine s_istore_n (ls' := [(2, l0), (2, l1), (0, l2), (0, (zand l3 (zxor (zshl 1 (l5 - 1)) (-1)))), (0, l4), (0, (l5 - 1)), (0, l6), (0, (M (l0 + 1) l6)), (0, z7)]) C (d_of DX8_isSo 108 rfl) (by decide) rfl rfl ?_
                  refine s_iload C (d_of DX8_isSo 109 rfl) rfl ?_
                  refine s_iconst C (d_of DX8_isSo 110 rfl) (by decide) ?_
                  refine s_iload C (d_of DX8_isSo 111 rfl) rfl ?_
                  refine s_ishl C (d_of DX8_isSo 112 rfl) ?_
                  refine s_iconst C (d_of DX8_isSo 113 rfl) (by decide) ?_
                  refine s_ixor C (d_of DX8_isSo 114 rfl) ?_
                  refine s_iand C (d_of DX8_isSo 115 rfl) ?_
                  refine s_istore (ls' := [(2, l0), (2, l1), (0, l2), (0, (zand l3 (zxor (zshl 1 (l5 - 1)) (-1)))), (0, (zand l4 (zxor (zshl 1 (l5 - 1)) (-1)))), (0, (l5 - 1)), (0, l6), (0, (M (l0 + 1) l6)), (0, z7)]) C (d_of DX8_isSo 116 rfl) (by decide) rfl rfl ?_
                  obtain ⟨o15, h⟩ := h
                  refine s_iinc (ls' := [(2, l0), (2, l1), (0, l2), (0, (zand l3 (zxor (zshl 1 (l5 - 1)) (-1)))), (0, (zand l4 (zxor (zshl 1 (l5 - 1)) (-1)))), (0, (l5 - 1)), (0, (l6 + 1)), (0, (M (l0 + 1) l6)), (0, z7)]) C (d_of DX8_isSo 117 rfl) (by decide) rfl o15 rfl rfl ?_
                  refine s_goto C (d_of DX8_isSo 118 rfl) rfl ?_
                  exact WA.wk h ⟨Or.inr rfl, Or.inr rfl, Or.inr rfl, Or.inr rfl, Or.inr rfl, Or.inr rfl, Or.inr rfl, Or.inl rfl, Or.inl rfl, trivial⟩
            · have h := h.2 hc
              refine s_iload_n C (d_of DX8_isSo 76 rfl) rfl ?_
              refine s_iload_n C (d_of DX8_isSo 77 rfl) rfl ?_
              refine s_ior C (d_of DX8_isSo 78 rfl) ?_
              refine s_iload C (d_of DX8_isSo 79 rfl) rfl ?_
              refine s_callSN (av := [(0, (zor l2 l3)), (0, l5)]) (rest := []) (mc := 0) (ms := 0) C (d_of DX8_isSo 80 rfl) lk_X8_34 rfl rfl (Nat.le_of_ble_eq_true rfl) (by decide) (by decide) (pc_X9_hasBit) (fun z16 wz16 Mz16 hq => ?_)
              obtain ⟨hq1, hq2, hq3⟩ := hq
              have hq2 := hq2.symm
              have hq3 := hq3.symm
              subst hq1 hq2 hq3
              refine s_goto C (d_of DX8_isSo 81 rfl) rfl ?_
              refine s_istore (ls' := [(2, l0), (2, l1), (0, l2), (0, l3), (0, l4), (0, l5), (0, l6), (0, (M (l0 + 1) l6)), (0, (b2i (zand (zshr (zor l2 l3) l5) 1 = 1)))]) C (d_of DX8_isSo 86 rfl) (by decide) rfl rfl ?_
              refine s_iload C (d_of DX8_isSo 87 rfl) rfl ?_
              refine s_iload C (d_of DX8_isSo 88 rfl) rfl ?_
              refine s_bipush C (d_of DX8_isSo 89 rfl) ⟨rfl, by decide, by decide⟩ ?_
              refine s_icmpne C (d_of DX8_isSo 90 rfl) rfl (fun hc => ?_) (fun hc => ?_)
              · have h := h.1 hc
                refine s_iconst C (d_of DX8_isSo 93 rfl) (by decide) ?_
                obtain ⟨o17, h⟩ := h
                refine s_isub C (d_of DX8_isSo 94 rfl) o17 ?_
                refine s_istore (ls' := [(2, l0), (2, l1), (0, l2), (0, l3), (0, l4), (0, (l5 - 0)), (0, l6), (0, (M (l0 + 1) l6)), (0, (b2i (zand (zshr (zor l2 l3) l5) 1 = 1)))]) C (d_of DX8_isSo 95 rfl) (by decide) rfl rfl ?_
                refine s_iload C (d_of DX8_isSo 96 rfl) rfl ?_
                refine s_iload C (d_of DX8_isSo 97 rfl) rfl ?_
                refine s_iload C (d_of DX8_isSo 98 rfl) rfl ?_
                refine s_callSN (av := [(0, l4), (0, (l5 - 0))]) (rest := [(0, (b2i (zand (zshr (zor l2 l3) l5) 1 = 1)))]) (mc := 0) (ms := 0) C (d_of DX8_isSo 99 rfl) lk_X8_34 rfl rfl (Nat.le_of_ble_eq_true rfl) (by decide) (by decide) (pc_X9_hasBit) (fun z18 wz18 Mz18 hq => ?_)
                obtain ⟨hq1, hq2, hq3⟩ := hq
                have hq2 := hq2.symm
                have hq3 := hq3.symm
                subst hq1 hq2 hq3
                refine s_icmpne C (d_of DX8_isSo 100 rfl) rfl (fun hc => ?_) (fun hc => ?_)
                · have h := h.1 hc
                  refine s_iload C (d_of DX8_isSo 109 rfl) rfl ?_
                  refine s_iconst C (d_of DX8_isSo 110 rfl) (by decide) ?_
                  refine s_iload C (d_of DX8_isSo 111 rfl) rfl ?_
                  refine s_ishl C (d_of DX8_isSo 112 rfl) ?_
                  refine s_iconst C (d_of DX8_isSo 113 rfl) (by decide) ?_
                  refine s_ixor C (d_of DX8_isSo 114 rfl) ?_
                  refine s_iand C (d_of DX8_isSo 115 rfl) ?_
                  refine s_istore (ls' := [(2, l0), (2, l1), (0, l2), (0, l3), (0, (zand l4 (zxor (zshl 1 (l5 - 0)) (-1)))), (0, (l5 - 0)), (0, l6), (0, (M (l0 + 1) l6)), (0, (b2i (zand (zshr (zor l2 l3) l5) 1 = 1)))]) C (d_of DX8_isSo 116 rfl) (by decide) rfl rfl ?_
                  obtain ⟨o19, h⟩ := h
                  refine s_iinc (ls' := [(2, l0), (2, l1), (0, l2), (0, l3), (0, (zand l4 (zxor (zshl 1 (l5 - 0)) (-1)))), (0, (l5 - 0)), (0, (l6 + 1)), (0, (M (l0 + 1) l6)), (0, (b2i (zand (zshr (zor l2 l3) l5) 1 = 1)))]) C (d_of DX8_isSo 117 rfl) (by decide) rfl o19 rfl rfl ?_
                  refine s_goto C (d_of DX8_isSo 118 rfl) rfl ?_
                  exact WA.wk h ⟨Or.inr rfl, Or.inr rfl, Or.inr rfl, Or.inr rfl, Or.inr rfl, Or.inr rfl, Or.inr rfl, Or.inl rfl, Or.inl rfl, trivial⟩
                · have h := h.2 hc
                  refine s_iload_n C (d_of DX8_isSo 101 rfl) rfl ?_
                  refine s_iconst C (d_of DX8_isSo 102 rfl) (by decide) ?_
                  refine s_iload C (d_of DX8_isSo 103 rfl) rfl ?_
                  refine s_ishl C (d_of DX8_isSo 104 rfl) ?_
                  refine s_iconst C (d_of DX8_isSo 105 rfl) (by decide) ?_
                  refine s_ixor C (d_of DX8_isSo 106 rfl) ?_
                  refine s_iand C (d_of DX8_isSo 107 rfl) ?_
                  refine s_istore_n (ls' := [(2, l0), (2, l1), (0, l2), (0, (zand l3 (zxor (zshl 1 (l5 - 0)) (-1)))), (0, l4), (0, (l5 - 0)), (0, l6), (0, (M (l0 + 1) l6)), (0, (b2i (zand (zshr (zor l2 l3) l5) 1 = 1)))]) C (d_of DX8_isSo 108 rfl) (by decide) rfl rfl ?_
                  refine s_iload C (d_of DX8_isSo 109 rfl) rfl ?_
                  refine s_iconst C (d_of DX8_isSo 110 rfl) (by decide) ?_
                  refine s_iload C (d_of DX8_isSo 111 rfl) rfl ?_
                  refine s_ishl C (d_of DX8_isSo 112 rfl) ?_
                  refine s_iconst C (d_of DX8_isSo 113 rfl) (by decide) ?_
                  refine s_ixor C (d_of DX8_isSo 114 rfl) ?_
                  refine s_iand C (d_of DX8_isSo 115 rfl) ?_
                  refine s_istore (ls' := [(2, l0), (2, l1), (0, l2), (0, (zand l3 (zxor (zshl 1 (l5 - 0)) (-1)))), (0, (zand l4 (zxor (zshl 1 (l5 - 0)) (-1)))), (0, (l5 - 0)), (0, l6), (0, (M (l0 + 1) l6)), (0, (b2i (zand (zshr (zor l2 l3) l5) 1 = 1)))]) C (d_of DX8_isSo 116 rfl) (by decide) rfl rfl ?_
                  obtain ⟨o20, h⟩ := h
                  refine s_iinc (ls' := [(2, l0), (2, l1), (0, l2), (0, (zand l3 (zxor (zshl 1 (l5 - 0)) (-1)))), (0, (zand l4 (zxor (zshl 1 (l5 - 0)) (-1)))), (0, (l5 - 0)), (0, (l6 + 1)), (0, (M (l0 + 1) l6)), (0, (b2i (zand (zshr (zor l2 l3) l5) 1 = 1)))]) C (d_of DX8_isSo 117 rfl) (by decide) rfl o20 rfl rfl ?_
                  refine s_goto C (d_of DX8_isSo 118 rfl) rfl ?_
                  exact WA.wk h ⟨Or.inr rfl, Or.inr rfl, Or.inr rfl, Or.inr rfl, Or.inr rfl, Or.inr rfl, Or.inr rfl, Or.inl rfl, Or.inl rfl, trivial⟩
              · have h := h.2 hc
                refine s_iconst C (d_of DX8_isSo 91 rfl) (by decide) ?_
                refine s_goto C (d_of DX8_isSo 92 rfl) rfl ?_
                obtain ⟨o21, h⟩ := h
                refine s_isub C (d_of DX8_isSo 94 rfl) o21 ?_
                refine s_istore (ls' := [(2, l0), (2, l1), (0, l2), (0, l3), (0, l4), (0, (l5 - 1)), (0, l6), (0, (M (l0 + 1) l6)), (0, (b2i (zand (zshr (zor l2 l3) l5) 1 = 1)))]) C (d_of DX8_isSo 95 rfl) (by decide) rfl rfl ?_
                refine s_iload C (d_of DX8_isSo 96 rfl) rfl ?_
                refine s_iload C (d_of DX8_isSo 97 rfl) rfl ?_
                refine s_iload C (d_of DX8_isSo 98 rfl) rfl ?_
                refine s_callSN (av := [(0, l4), (0, (l5 - 1))]) (rest := [(0, (b2i (zand (zshr (zor l2 l3) l5) 1 = 1)))]) (mc := 0) (ms := 0) C (d_of DX8_isSo 99 rfl) lk_X8_34 rfl rfl (Nat.le_of_ble_eq_true rfl) (by decide) (by decide) (pc_X9_hasBit) (fun z22 wz22 Mz22 hq => ?_)
                obtain ⟨hq1, hq2, hq3⟩ := hq
                have hq2 := hq2.symm
                have hq3 := hq3.symm
                subst hq1 hq2 hq3
                refine s_icmpne C (d_of DX8_isSo 100 rfl) rfl (fun hc => ?_) (fun hc => ?_)
                · have h := h.1 hc
                  refine s_iload C (d_of DX8_isSo 109 rfl) rfl ?_
                  refine s_iconst C (d_of DX8_isSo 110 rfl) (by decide) ?_
                  refine s_iload C (d_of DX8_isSo 111 rfl) rfl ?_
                  refine s_ishl C (d_of DX8_isSo 112 rfl) ?_
                  refine s_iconst C (d_of DX8_isSo 113 rfl) (by decide) ?_
                  refine s_ixor C (d_of DX8_isSo 114 rfl) ?_
                  refine s_iand C (d_of DX8_isSo 115 rfl) ?_
                  refine s_istore (ls' := [(2, l0), (2, l1), (0, l2), (0, l3), (0, (zand l4 (zxor (zshl 1 (l5 - 1)) (-1)))), (0, (l5 - 1)), (0, l6), (0, (M (l0 + 1) l6)), (0, (b2i (zand (zshr (zor l2 l3) l5) 1 = 1)))]) C (d_of DX8_isSo 116 rfl) (by decide) rfl rfl ?_
                  obtain ⟨o23, h⟩ := h
                  refine s_iinc (ls' := [(2, l0), (2, l1), (0, l2), (0, l3), (0, (zand l4 (zxor (zshl 1 (l5 - 1)) (-1)))), (0, (l5 - 1)), (0, (l6 + 1)), (0, (M (l0 + 1) l6)), (0, (b2i (zand (zshr (zor l2 l3) l5) 1 = 1)))]) C (d_of DX8_isSo 117 rfl) (by decide) rfl o23 rfl rfl ?_
                  refine s_goto C (d_of DX8_isSo 118 rfl) rfl ?_
                  exact WA.wk h ⟨Or.inr rfl, Or.inr rfl, Or.inr rfl, Or.inr rfl, Or.inr rfl, Or.inr rfl, Or.inr rfl, Or.inl rfl, Or.inl rfl, trivial⟩
                · have h := h.2 hc
                  refine s_iload_n C (d_of DX8_isSo 101 rfl) rfl ?_
                  refine s_iconst C (d_of DX8_isSo 102 rfl) (by decide) ?_
                  refine s_iload C (d_of DX8_isSo 103 rfl) rfl ?_
                  refine s_ishl C (d_of DX8_isSo 104 rfl) ?_
                  refine s_iconst C (d_of DX8_isSo 105 rfl) (by decide) ?_
                  refine s_ixor C (d_of DX8_isSo 106 rfl) ?_
                  refine s_iand C (d_of DX8_isSo 107 rfl) ?_
                  refine s_istore_n (ls' := [(2, l0), (2, l1), (0, l2), (0, (zand l3 (zxor (zshl 1 (l5 - 1)) (-1)))), (0, l4), (0, (l5 - 1)), (0, l6), (0, (M (l0 + 1) l6)), (0, (b2i (zand (zshr (zor l2 l3) l5) 1 = 1)))]) C (d_of DX8_isSo 108 rfl) (by decide) rfl rfl ?_
                  refine s_iload C (d_of DX8_isSo 109 rfl) rfl ?_
                  refine s_iconst C (d_of DX8_isSo 110 rfl) (by decide) ?_
                  refine s_iload C (d_of DX8_isSo 111 rfl) rfl ?_
                  refine s_ishl C (d_of DX8_isSo 112 rfl) ?_
                  refine s_iconst C (d_of DX8_isSo 113 rfl) (by decide) ?_
                  refine s_ixor C (d_of DX8_isSo 114 rfl) ?_
                  refine s_iand C (d_of DX8_isSo 115 rfl) ?_
                  refine s_istore (ls' := [(2, l0), (2, l1), (0, l2), (0, (zand l3 (zxor (zshl 1 (l5 - 1)) (-1)))), (0, (zand l4 (zxor (zshl 1 (l5 - 1)) (-1)))), (0, (l5 - 1)), (0, l6), (0, (M (l0 + 1) l6)), (0, (b2i (zand (zshr (zor l2 l3) l5) 1 = 1)))]) C (d_of DX8_isSo 116 rfl) (by decide) rfl rfl ?_
                  obtain ⟨o24, h⟩ := h
                  refine s_iinc (ls' := [(2, l0), (2, l1), (0, l2), (0, (zand l3 (zxor (zshl 1 (l5 - 1)) (-1)))), (0, (zand l4 (zxor (zshl 1 (l5 - 1)) (-1)))), (0, (l5 - 1)), (0, (l6 + 1)), (0, (M (l0 + 1) l6)), (0, (b2i (zand (zshr (zor l2 l3) l5) 1 = 1)))]) C (d_of DX8_isSo 117 rfl) (by decide) rfl o24 rfl rfl ?_
                  refine s_goto C (d_of DX8_isSo 118 rfl) rfl ?_
                  exact WA.wk h ⟨Or.inr rfl, Or.inr rfl, Or.inr rfl, Or.inr rfl, Or.inr rfl, Or.inr rfl, Or.inr rfl, Or.inl rfl, Or.inl rfl, trivial⟩
          · have h := h.2 hc
            refine s_aload_n C (d_of DX8_isSo 69 rfl) rfl ?_
            refine s_iload C (d_of DX8_isSo 70 rfl) rfl ?_
            obtain ⟨Q25, hKQ25, h⟩ := h
            refine s_callV (ci := 8) (av := [(0, l6)]) (rest := []) (mc := 0) (ms := 0) C (d_of DX8_isSo 71 rfl) lk_X8_30 o1 (by decide) rfl rfl rfl (Nat.le_of_ble_eq_true rfl) (by decide) (by decide) hKQ25 (fun z25 w25 M25 hq => ?_)
            have h := h z25 w25 M25 hq
            refine s_ifeq C (d_of DX8_isSo 72 rfl) rfl (fun hc => ?_) (fun hc => ?_)
            · have h := h.1 hc
              obtain ⟨o26, h⟩ := h
              refine s_iinc (ls' := [(2, l0), (2, l1), (0, l2), (0, l3), (0, l4), (0, l5), (0, (l6 + 1)), (0, (M (l0 + 1) l6)), (3, 0)]) C (d_of DX8_isSo 117 rfl) (by decide) rfl o26 rfl rfl ?_
              refine s_goto C (d_of DX8_isSo 118 rfl) rfl ?_
              exact WA.wk h ⟨Or.inr rfl, Or.inr rfl, Or.inr rfl, Or.inr rfl, Or.inr rfl, Or.inr rfl, Or.inr rfl, Or.inl rfl, Or.inl rfl, trivial⟩
            · have h := h.2 hc
              refine s_iload C (d_of DX8_isSo 73 rfl) rfl ?_
              refine s_bipush C (d_of DX8_isSo 74 rfl) ⟨rfl, by decide, by decide⟩ ?_
              refine s_icmpne C (d_of DX8_isSo 75 rfl) rfl (fun hc => ?_) (fun hc => ?_)
              · have h := h.1 hc
                refine s_aload_n C (d_of DX8_isSo 82 rfl) rfl ?_
                refine s_aload_n C (d_of DX8_isSo 83 rfl) rfl ?_
                refine s_iload C (d_of DX8_isSo 84 rfl) rfl ?_
                obtain ⟨o27, h⟩ := h
                obtain ⟨Q28, hKQ28, h⟩ := h
                refine s_callV (ci := 8) (av := [(2, l1), (0, l6)]) (rest := []) (mc := 0) (ms := 0) C (d_of DX8_isSo 85 rfl) lk_X8_38 o27 (by decide) rfl rfl rfl (Nat.le_of_ble_eq_true rfl) (by decide) (by decide) hKQ28 (fun z28 w28 M28 hq => ?_)
                have h := h z28 w28 M28 hq
                refine s_istore (ls' := [(2, l0), (2, l1), (0, l2), (0, l3), (0, l4), (0, l5), (0, l6), (0, (M (l0 + 1) l6)), (0, z28)]) C (d_of DX8_isSo 86 rfl) (by decide) rfl rfl ?_
                refine s_iload C (d_of DX8_isSo 87 rfl) rfl ?_
                refine s_iload C (d_of DX8_isSo 88 rfl) rfl ?_
                refine s_bipush C (d_of DX8_isSo 89 rfl) ⟨rfl, by decide, by decide⟩ ?_
                refine s_icmpne C (d_of DX8_isSo 90 rfl) rfl (fun hc => ?_) (fun hc => ?_)
                · have h := h.1 hc
                  refine s_iconst C (d_of DX8_isSo 93 rfl) (by decide) ?_
                  obtain ⟨o29, h⟩ := h
                  refine s_isub C (d_of DX8_isSo 94 rfl) o29 ?_
                  refine s_istore (ls' := [(2, l0), (2, l1), (0, l2), (0, l3), (0, l4), (0, (l5 - 0)), (0, l6), (0, (M (l0 + 1) l6)), (0, z28)]) C (d_of DX8_isSo 95 rfl) (by decide) rfl rfl ?_
                  refine s_iload C (d_of DX8_isSo 96 rfl) rfl ?_
                  refine s_iload C (d_of DX8_isSo 97 rfl) rfl ?_
                  refine s_iload C (d_of DX8_isSo 98 rfl) rfl ?_
                  refine s_callSN (av := [(0, l4), (0, (l5 - 0))]) (rest := [(0, z28)]) (mc := 0) (ms := 0) C (d_of DX8_isSo 99 rfl) lk_X8_34 rfl rfl (Nat.le_of_ble_eq_true rfl) (by decide) (by decide) (pc_X9_hasBit) (fun z30 wz30 Mz30 hq => ?_)
                  obtain ⟨hq1, hq2, hq3⟩ := hq
                  have hq2 := hq2.symm
                  have hq3 := hq3.symm
                  subst hq1 hq2 hq3
                  refine s_icmpne C (d_of DX8_isSo 100 rfl) rfl (fun hc => ?_) (fun hc => ?_)
                  · have h := h.1 hc
                    refine s_iload C (d_of DX8_isSo 109 rfl) rfl ?_
                    refine s_iconst C (d_of DX8_isSo 110 rfl) (by decide) ?_
                    refine s_iload C (d_of DX8_isSo 111 rfl) rfl ?_
                    refine s_ishl C (d_of DX8_isSo 112 rfl) ?_
                    refine s_iconst C (d_of DX8_isSo 113 rfl) (by decide) ?_
                    refine s_ixor C (d_of DX8_isSo 114 rfl) ?_
                    refine s_iand C (d_of DX8_isSo 115 rfl) ?_
                    refine s_istore (ls' := [(2, l0), (2, l1), (0, l2), (0, l3), (0, (zand l4 (zxor (zshl 1 (l5 - 0)) (-1)))), (0, (l5 - 0)), (0, l6), (0, (M (l0 + 1) l6)), (0, z28)]) C (d_of DX8_isSo 116 rfl) (by decide) rfl rfl ?_
                    obtain ⟨o31, h⟩ := h
                    refine s_iinc (ls' := [(2, l0), (2, l1), (0, l2), (0, l3), (0, (zand l4 (zxor (zshl 1 (l5 - 0)) (-1)))), (0, (l5 - 0)), (0, (l6 + 1)), (0, (M (l0 + 1) l6)), (0, z28)]) C (d_of DX8_isSo 117 rfl) (by decide) rfl o31 rfl rfl ?_
                    refine s_goto C (d_of DX8_isSo 118 rfl) rfl ?_
                    exact WA.wk h ⟨Or.inr rfl, Or.inr rfl, Or.inr rfl, Or.inr rfl, Or.inr rfl, Or.inr rfl, Or.inr rfl, Or.inl rfl, Or.inl rfl, trivial⟩
                  · have h := h.2 hc
                    refine s_iload_n C (d_of DX8_isSo 101 rfl) rfl ?_
                    refine s_iconst C (d_of DX8_isSo 102 rfl) (by decide) ?_
                    refine s_iload C (d_of DX8_isSo 103 rfl) rfl ?_
                    refine s_ishl C (d_of DX8_isSo 104 rfl) ?_
                    refine s_iconst C (d_of DX8_isSo 105 rfl) (by decide) ?_
                    refine s_ixor C (d_of DX8_isSo 106 rfl) ?_
                    refine s_iand C (d_of DX8_isSo 107 rfl) ?_
                    refine s_istore_n (ls' := [(2, l0), (2, l1), (0, l2), (0, (zand l3 (zxor (zshl 1 (l5 - 0)) (-1)))), (0, l4), (0, (l5 - 0)), (0, l6), (0, (M (l0 + 1) l6)), (0, z28)]) C (d_of DX8_isSo 108 rfl) (by decide) rfl rfl ?_
                    refine s_iload C (d_of DX8_isSo 109 rfl) rfl ?_
                    refine s_iconst C (d_of DX8_isSo 110 rfl) (by decide) ?_
                    refine s_iload C (d_of DX8_isSo 111 rfl) rfl ?_
                    refine s_ishl C (d_of DX8_isSo 112 rfl) ?_
                    refine s_iconst C (d_of DX8_isSo 113 rfl) (by decide) ?_
                    refine s_ixor C (d_of DX8_isSo 114 rfl) ?_
                    refine s_iand C (d_of DX8_isSo 115 rfl) ?_
                    refine s_istore (ls' := [(2, l0), (2, l1), (0, l2), (0, (zand l3 (zxor (zshl 1 (l5 - 0)) (-1)))), (0, (zand l4 (zxor (zshl 1 (l5 - 0)) (-1)))), (0, (l5 - 0)), (0, l6), (0, (M (l0 + 1) l6)), (0, z28)]) C (d_of DX8_isSo 116 rfl) (by decide) rfl rfl ?_
                    obtain ⟨o32, h⟩ := h
                    refine s_iinc (ls' := [(2, l0), (2, l1), (0, l2), (0, (zand l3 (zxor (zshl 1 (l5 - 0)) (-1)))), (0, (zand l4 (zxor (zshl 1 (l5 - 0)) (-1)))), (0, (l5 - 0)), (0, (l6 + 1)), (0, (M (l0 + 1) l6)), (0, z28)]) C (d_of DX8_isSo 117 rfl) (by decide) rfl o32 rfl rfl ?_
                    refine s_goto C (d_of DX8_isSo 118 rfl) rfl ?_
                    exact WA.wk h ⟨Or.inr rfl, Or.inr rfl, Or.inr rfl, Or.inr rfl, Or.inr rfl, Or.inr rfl, Or.inr rfl, Or.inl rfl, Or.inl rfl, trivial⟩
                · have h := h.2 hc
                  refine s_iconst C (d_of DX8_isSo 91 rfl) (by decide) ?_
                  refine s_goto C (d_of DX8_isSo 92 rfl) rfl ?_
                  obtain ⟨o33, h⟩ := h
                  refine s_isub C (d_of DX8_isSo 94 rfl) o33 ?_
                  refine s_istore (ls' := [(2, l0), (2, l1), (0, l2), (0, l3), (0, l4), (0, (l5 - 1)), (0, l6), (0, (M (l0 + 1) l6)), (0, z28)]) C (d_of DX8_isSo 95 rfl) (by decide) rfl rfl ?_
                  refine s_iload C (d_of DX8_isSo 96 rfl) rfl ?_
                  refine s_iload C (d_of DX8_isSo 97 rfl) rfl ?_
                  refine s_iload C (d_of DX8_isSo 98 rfl) rfl ?_
                  refine s_callSN (av := [(0, l4), (0, (l5 - 1))]) (rest := [(0, z28)]) (mc := 0) (ms := 0) C (d_of DX8_isSo 99 rfl) lk_X8_34 rfl rfl (Nat.le_of_ble_eq_true rfl) (by decide) (by decide) (pc_X9_hasBit) (fun z34 wz34 Mz34 hq => ?_)
                  obtain ⟨hq1, hq2, hq3⟩ := hq
                  have hq2 := hq2.symm
                  have hq3 := hq3.symm
                  subst hq1 hq2 hq3
                  refine s_icmpne C (d_of DX8_isSo 100 rfl) rfl (fun hc => ?_) (fun hc => ?_)
                  · have h := h.1 hc
                    refine s_iload C (d_of DX8_isSo 109 rfl) rfl ?_
                    refine s_iconst C (d_of DX8_isSo 110 rfl) (by decide) ?_
                    refine s_iload C (d_of DX8_isSo 111 rfl) rfl ?_
                    refine s_ishl C (d_of DX8_isSo 112 rfl) ?_
                    refine s_iconst C (d_of DX8_isSo 113 rfl) (by decide) ?_
                    refine s_ixor C (d_of DX8_isSo 114 rfl) ?_
                    refine s_iand C (d_of DX8_isSo 115 rfl) ?_
                    refine s_istore (ls' := [(2, l0), (2, l1), (0, l2), (0, l3), (0, (zand l4 (zxor (zshl 1 (l5 - 1)) (-1)))), (0, (l5 - 1)), (0, l6), (0, (M (l0 + 1) l6)), (0, z28)]) C (d_of DX8_isSo 116 rfl) (by decide) rfl rfl ?_
                    obtain ⟨o35, h⟩ := h
                    refine s_iinc (ls' := [(2, l0), (2, l1), (0, l2), (0, l3), (0, (zand l4 (zxor (zshl 1 (l5 - 1)) (-1)))), (0, (l5 - 1)), (0, (l6 + 1)), (0, (M (l0 + 1) l6)), (0, z28)]) C (d_of DX8_isSo 117 rfl) (by decide) rfl o35 rfl rfl ?_
                    refine s_goto C (d_of DX8_isSo 118 rfl) rfl ?_
                    exact WA.wk h ⟨Or.inr rfl, Or.inr rfl, Or.inr rfl, Or.inr rfl, Or.inr rfl, Or.inr rfl, Or.inr rfl, Or.inl rfl, Or.inl rfl, trivial⟩
                  · have h := h.2 hc
                    refine s_iload_n C (d_of DX8_isSo 101 rfl) rfl ?_
                    refine s_iconst C (d_of DX8_isSo 102 rfl) (by decide) ?_
                    refine s_iload C (d_of DX8_isSo 103 rfl) rfl ?_
                    refine s_ishl C (d_of DX8_isSo 104 rfl) ?_
                    refine s_iconst C (d_of DX8_isSo 105 rfl) (by decide) ?_
                    refine s_ixor C (d_of DX8_isSo 106 rfl) ?_
                    refine s_iand C (d_of DX8_isSo 107 rfl) ?_
                    refine s_istore_n (ls' := [(2, l0), (2, l1), (0, l2), (0, (zand l3 (zxor (zshl 1 (l5 - 1)) (-1)))), (0, l4), (0, (l5 - 1)), (0, l6), (0, (M (l0 + 1) l6)), (0, z28)]) C (d_of DX8_isSo 108 rfl) (by decide) rfl rfl ?_
                    refine s_iload C (d_of DX8_isSo 109 rfl) rfl ?_
                    refine s_iconst C (d_of DX8_isSo 110 rfl) (by decide) ?_
                    refine s_iload C (d_of DX8_isSo 111 rfl) rfl ?_
                    refine s_ishl C (d_of DX8_isSo 112 rfl) ?_
                    refine s_iconst C (d_of DX8_isSo 113 rfl) (by decide) ?_
                    refine s_ixor C (d_of DX8_isSo 114 rfl) ?_
                    refine s_iand C (d_of DX8_isSo 115 rfl) ?_
                    refine s_istore (ls' := [(2, l0), (2, l1), (0, l2), (0, (zand l3 (zxor (zshl 1 (l5 - 1)) (-1)))), (0, (zand l4 (zxor (zshl 1 (l5 - 1)) (-1)))), (0, (l5 - 1)), (0, l6), (0, (M (l0 + 1) l6)), (0, z28)]) C (d_of DX8_isSo 116 rfl) (by decide) rfl rfl ?_
                    obtain ⟨o36, h⟩ := h
                    refine s_iinc (ls' := [(2, l0), (2, l1), (0, l2), (0, (zand l3 (zxor (zshl 1 (l5 - 1)) (-1)))), (0, (zand l4 (zxor (zshl 1 (l5 - 1)) (-1)))), (0, (l5 - 1)), (0, (l6 + 1)), (0, (M (l0 + 1) l6)), (0, z28)]) C (d_of DX8_isSo 117 rfl) (by decide) rfl o36 rfl rfl ?_
                    refine s_goto C (d_of DX8_isSo 118 rfl) rfl ?_
                    exact WA.wk h ⟨Or.inr rfl, Or.inr rfl, Or.inr rfl, Or.inr rfl, Or.inr rfl, Or.inr rfl, Or.inr rfl, Or.inl rfl, Or.inl rfl, trivial⟩
              · have h := h.2 hc
                refine s_iload_n C (d_of DX8_isSo 76 rfl) rfl ?_
                refine s_iload_n C (d_of DX8_isSo 77 rfl) rfl ?_
                refine s_ior C (d_of DX8_isSo 78 rfl) ?_
                refine s_iload C (d_of DX8_isSo 79 rfl) rfl ?_
                refine s_callSN (av := [(0, (zor l2 l3)), (0, l5)]) (rest := []) (mc := 0) (ms := 0) C (d_of DX8_isSo 80 rfl) lk_X8_34 rfl rfl (Nat.le_of_ble_eq_true rfl) (by decide) (by decide) (pc_X9_hasBit) (fun z37 wz37 Mz37 hq => ?_)
                obtain ⟨hq1, hq2, hq3⟩ := hq
                have hq2 := hq2.symm
                have hq3 := hq3.symm
                subst hq1 hq2 hq3
                refine s_goto C (d_of DX8_isSo 81 rfl) rfl ?_
                refine s_istore (ls' := [(2, l0), (2, l1), (0, l2), (0, l3), (0, l4), (0, l5), (0, l6), (0, (M (l0 + 1) l6)), (0, (b2i (zand (zshr (zor l2 l3) l5) 1 = 1)))]) C (d_of DX8_isSo 86 rfl) (by decide) rfl rfl ?_
                refine s_iload C (d_of DX8_isSo 87 rfl) rfl ?_
                refine s_iload C (d_of DX8_isSo 88 rfl) rfl ?_
                refine s_bipush C (d_of DX8_isSo 89 rfl) ⟨rfl, by decide, by decide⟩ ?_
                refine s_icmpne C (d_of DX8_isSo 90 rfl) rfl (fun hc => ?_) (fun hc => ?_)
                · have h := h.1 hc
                  refine s_iconst C (d_of DX8_isSo 93 rfl) (by decide) ?_
                  obtain ⟨o38, h⟩ := h
                  refine s_isub C (d_of DX8_isSo 94 rfl) o38 ?_
                  refine s_istore (ls' := [(2, l0), (2, l1), (0, l2), (0, l3), (0, l4), (0, (l5 - 0)), (0, l6), (0, (M (l0 + 1) l6)), (0, (b2i (zand (zshr (zor l2 l3) l5) 1 = 1)))]) C (d_of DX8_isSo 95 rfl) (by decide) rfl rfl ?_
                  refine s_iload C (d_of DX8_isSo 96 rfl) rfl ?_
                  refine s_iload C (d_of DX8_isSo 97 rfl) rfl ?_
                  refine s_iload C (d_of DX8_isSo 98 rfl) rfl ?_
                  refine s_callSN (av := [(0, l4), (0, (l5 - 0))]) (rest := [(0, (b2i (zand (zshr (zor l2 l3) l5) 1 = 1)))]) (mc := 0) (ms := 0) C (d_of DX8_isSo 99 rfl) lk_X8_34 rfl rfl (Nat.le_of_ble_eq_true rfl) (by decide) (by decide) (pc_X9_hasBit) (fun z39 wz39 Mz39 hq => ?_)
                  obtain ⟨hq1, hq2, hq3⟩ := hq
                  have hq2 := hq2.symm
                  have hq3 := hq3.symm
                  subst hq1 hq2 hq3
                  refine s_icmpne C (d_of DX8_isSo 100 rfl) rfl (fun hc => ?_) (fun hc => ?_)
                  · have h := h.1 hc
                    refine s_iload C (d_of DX8_isSo 109 rfl) rfl ?_
                    refine s_iconst C (d_of DX8_isSo 110 rfl) (by decide) ?_
                    refine s_iload C (d_of DX8_isSo 111 rfl) rfl ?_
                    refine s_ishl C (d_of DX8_isSo 112 rfl) ?_
                    refine s_iconst C (d_of DX8_isSo 113 rfl) (by decide) ?_
                    refine s_ixor C (d_of DX8_isSo 114 rfl) ?_
                    refine s_iand C (d_of DX8_isSo 115 rfl) ?_
                    refine s_istore (ls' := [(2, l0), (2, l1), (0, l2), (0, l3), (0, (zand l4 (zxor (zshl 1 (l5 - 0)) (-1)))), (0, (l5 - 0)), (0, l6), (0, (M (l0 + 1) l6)), (0, (b2i (zand (zshr (zor l2 l3) l5) 1 = 1)))]) C (d_of DX8_isSo 116 rfl) (by decide) rfl rfl ?_
                    obtain ⟨o40, h⟩ := h
                    refine s_iinc (ls' := [(2, l0), (2, l1), (0, l2), (0, l3), (0, (zand l4 (zxor (zshl 1 (l5 - 0)) (-1)))), (0, (l5 - 0)), (0, (l6 + 1)), (0, (M (l0 + 1) l6)), (0, (b2i (zand (zshr (zor l2 l3) l5) 1 = 1)))]) C (d_of DX8_isSo 117 rfl) (by decide) rfl o40 rfl rfl ?_
                    refine s_goto C (d_of DX8_isSo 118 rfl) rfl ?_
                    exact WA.wk h ⟨Or.inr rfl, Or.inr rfl, Or.inr rfl, Or.inr rfl, Or.inr rfl, Or.inr rfl, Or.inr rfl, Or.inl rfl, Or.inl rfl, trivial⟩
                  · have h := h.2 hc
                    refine s_iload_n C (d_of DX8_isSo 101 rfl) rfl ?_
                    refine s_iconst C (d_of DX8_isSo 102 rfl) (by decide) ?_
                    refine s_iload C (d_of DX8_isSo 103 rfl) rfl ?_
                    refine s_ishl C (d_of DX8_isSo 104 rfl) ?_
                    refine s_iconst C (d_of DX8_isSo 105 rfl) (by decide) ?_
                    refine s_ixor C (d_of DX8_isSo 106 rfl) ?_
                    refine s_iand C (d_of DX8_isSo 107 rfl) ?_
                    refine s_istore_n (ls' := [(2, l0), (2, l1), (0, l2), (0, (zand l3 (zxor (zshl 1 (l5 - 0)) (-1)))), (0, l4), (0, (l5 - 0)), (0, l6), (0, (M (l0 + 1) l6)), (0, (b2i (zand (zshr (zor l2 l3) l5) 1 = 1)))]) C (d_of DX8_isSo 108 rfl) (by decide) rfl rfl ?_
                    refine s_iload C (d_of DX8_isSo 109 rfl) rfl ?_
                    refine s_iconst C (d_of DX8_isSo 110 rfl) (by decide) ?_
                    refine s_iload C (d_of DX8_isSo 111 rfl) rfl ?_
                    refine s_ishl C (d_of DX8_isSo 112 rfl) ?_
                    refine s_iconst C (d_of DX8_isSo 113 rfl) (by decide) ?_
                    refine s_ixor C (d_of DX8_isSo 114 rfl) ?_
                    refine s_iand C (d_of DX8_isSo 115 rfl) ?_
                    refine s_istore (ls' := [(2, l0), (2, l1), (0, l2), (0, (zand l3 (zxor (zshl 1 (l5 - 0)) (-1)))), (0, (zand l4 (zxor (zshl 1 (l5 - 0)) (-1)))), (0, (l5 - 0)), (0, l6), (0, (M (l0 + 1) l6)), (0, (b2i (zand (zshr (zor l2 l3) l5) 1 = 1)))]) C (d_of DX8_isSo 116 rfl) (by decide) rfl rfl ?_
                    obtain ⟨o41, h⟩ := h
                    refine s_iinc (ls' := [(2, l0), (2, l1), (0, l2), (0, (zand l3 (zxor (zshl 1 (l5 - 0)) (-1)))), (0, (zand l4 (zxor (zshl 1 (l5 - 0)) (-1)))), (0, (l5 - 0)), (0, (l6 + 1)), (0, (M (l0 + 1) l6)), (0, (b2i (zand (zshr (zor l2 l3) l5) 1 = 1)))]) C (d_of DX8_isSo 117 rfl) (by decide) rfl o41 rfl rfl ?_
                    refine s_goto C (d_of DX8_isSo 118 rfl) rfl ?_
                    exact WA.wk h ⟨Or.inr rfl, Or.inr rfl, Or.inr rfl, Or.inr rfl, Or.inr rfl, Or.inr rfl, Or.inr rfl, Or.inl rfl, Or.inl rfl, trivial⟩
                · have h := h.2 hc
                  refine s_iconst C (d_of DX8_isSo 91 rfl) (by decide) ?_
                  refine s_goto C (d_of DX8_isSo 92 rfl) rfl ?_
                  obtain ⟨o42, h⟩ := h
                  refine s_isub C (d_of DX8_isSo 94 rfl) o42 ?_
                  refine s_istore (ls' := [(2, l0), (2, l1), (0, l2), (0, l3), (0, l4), (0, (l5 - 1)), (0, l6), (0, (M (l0 + 1) l6)), (0, (b2i (zand (zshr (zor l2 l3) l5) 1 = 1)))]) C (d_of DX8_isSo 95 rfl) (by decide) rfl rfl ?_
                  refine s_iload C (d_of DX8_isSo 96 rfl) rfl ?_
                  refine s_iload C (d_of DX8_isSo 97 rfl) rfl ?_
                  refine s_iload C (d_of DX8_isSo 98 rfl) rfl ?_
                  refine s_callSN (av := [(0, l4), (0, (l5 - 1))]) (rest := [(0, (b2i (zand (zshr (zor l2 l3) l5) 1 = 1)))]) (mc := 0) (ms := 0) C (d_of DX8_isSo 99 rfl) lk_X8_34 rfl rfl (Nat.le_of_ble_eq_true rfl) (by decide) (by decide) (pc_X9_hasBit) (fun z43 wz43 Mz43 hq => ?_)
                  obtain ⟨hq1, hq2, hq3⟩ := hq
                  have hq2 := hq2.symm
                  have hq3 := hq3.symm
                  subst hq1 hq2 hq3
                  refine s_icmpne C (d_of DX8_isSo 100 rfl) rfl (fun hc => ?_) (fun hc => ?_)
                  · have h := h.1 hc
                    refine s_iload C (d_of DX8_isSo 109 rfl) rfl ?_
                    refine s_iconst C (d_of DX8_isSo 110 rfl) (by decide) ?_
                    refine s_iload C (d_of DX8_isSo 111 rfl) rfl ?_
                    refine s_ishl C (d_of DX8_isSo 112 rfl) ?_
                    refine s_iconst C (d_of DX8_isSo 113 rfl) (by decide) ?_
                    refine s_ixor C (d_of DX8_isSo 114 rfl) ?_
                    refine s_iand C (d_of DX8_isSo 115 rfl) ?_
                    refine s_istore (ls' := [(2, l0), (2, l1), (0, l2), (0, l3), (0, (zand l4 (zxor (zshl 1 (l5 - 1)) (-1)))), (0, (l5 - 1)), (0, l6), (0, (M (l0 + 1) l6)), (0, (b2i (zand (zshr (zor l2 l3) l5) 1 = 1)))]) C (d_of DX8_isSo 116 rfl) (by decide) rfl rfl ?_
                    obtain ⟨o44, h⟩ := h
                    refine s_iinc (ls' := [(2, l0), (2, l1), (0, l2), (0, l3), (0, (zand l4 (zxor (zshl 1 (l5 - 1)) (-1)))), (0, (l5 - 1)), (0, (l6 + 1)), (0, (M (l0 + 1) l6)), (0, (b2i (zand (zshr (zor l2 l3) l5) 1 = 1)))]) C (d_of DX8_isSo 117 rfl) (by decide) rfl o44 rfl rfl ?_
                    refine s_goto C (d_of DX8_isSo 118 rfl) rfl ?_
                    exact WA.wk h ⟨Or.inr rfl, Or.inr rfl, Or.inr rfl, Or.inr rfl, Or.inr rfl, Or.inr rfl, Or.inr rfl, Or.inl rfl, Or.inl rfl, trivial⟩
                  · have h := h.2 hc
                    refine s_iload_n C (d_of DX8_isSo 101 rfl) rfl ?_
                    refine s_iconst C (d_of DX8_isSo 102 rfl) (by decide) ?_
                    refine s_iload C (d_of DX8_isSo 103 rfl) rfl ?_
                    refine s_ishl C (d_of DX8_isSo 104 rfl) ?_
                    refine s_iconst C (d_of DX8_isSo 105 rfl) (by decide) ?_
                    refine s_ixor C (d_of DX8_isSo 106 rfl) ?_
                    refine s_iand C (d_of DX8_isSo 107 rfl) ?_
                    refine s_istore_n (ls' := [(2, l0), (2, l1), (0, l2), (0, (zand l3 (zxor (zshl 1 (l5 - 1)) (-1)))), (0, l4), (0, (l5 - 1)), (0, l6), (0, (M (l0 + 1) l6)), (0, (b2i (zand (zshr (zor l2 l3) l5) 1 = 1)))]) C (d_of DX8_isSo 108 rfl) (by decide) rfl rfl ?_
                    refine s_iload C (d_of DX8_isSo 109 rfl) rfl ?_
                    refine s_iconst C (d_of DX8_isSo 110 rfl) (by decide) ?_
                    refine s_iload C (d_of DX8_isSo 111 rfl) rfl ?_
                    refine s_ishl C (d_of DX8_isSo 112 rfl) ?_
                    refine s_iconst C (d_of DX8_isSo 113 rfl) (by decide) ?_
                    refine s_ixor C (d_of DX8_isSo 114 rfl) ?_
                    refine s_iand C (d_of DX8_isSo 115 rfl) ?_
                    refine s_istore (ls' := [(2, l0), (2, l1), (0, l2), (0, (zand l3 (zxor (zshl 1 (l5 - 1)) (-1)))), (0, (zand l4 (zxor (zshl 1 (l5 - 1)) (-1)))), (0, (l5 - 1)), (0, l6), (0, (M (l0 + 1) l6)), (0, (b2i (zand (zshr (zor l2 l3) l5) 1 = 1)))]) C (d_of DX8_isSo 116 rfl) (by decide) rfl rfl ?_
                    obtain ⟨o45, h⟩ := h
                    refine s_iinc (ls' := [(2, l0), (2, l1), (0, l2), (0, (zand l3 (zxor (zshl 1 (l5 - 1)) (-1)))), (0, (zand l4 (zxor (zshl 1 (l5 - 1)) (-1)))), (0, (l5 - 1)), (0, (l6 + 1)), (0, (M (l0 + 1) l6)), (0, (b2i (zand (zshr (zor l2 l3) l5) 1 = 1)))]) C (d_of DX8_isSo 117 rfl) (by decide) rfl o45 rfl rfl ?_
                    refine s_goto C (d_of DX8_isSo 118 rfl) rfl ?_
                    exact WA.wk h ⟨Or.inr rfl, Or.inr rfl, Or.inr rfl, Or.inr rfl, Or.inr rfl, Or.inr rfl, Or.inr rfl, Or.inl rfl, Or.inl rfl, trivial⟩
        · have h := h.2 hc
          refine s_iload_n C (d_of DX8_isSo 51 rfl) rfl ?_
          refine s_iload_n C (d_of DX8_isSo 52 rfl) rfl ?_
          refine s_iconst C (d_of DX8_isSo 53 rfl) (by decide) ?_
          refine s_iload C (d_of DX8_isSo 54 rfl) rfl ?_
          refine s_ishl C (d_of DX8_isSo 55 rfl) ?_
          refine s_iand C (d_of DX8_isSo 56 rfl) ?_
          refine s_ior C (d_of DX8_isSo 57 rfl) ?_
          refine s_istore_n (ls' := [(2, l0), (2, l1), (0, (zor l2 (zand l3 (zshl 1 l5)))), (0, l3), (0, l4), (0, l5), (0, l6), (0, (M (l0 + 1) l6)), (3, 0)]) C (d_of DX8_isSo 58 rfl) (by decide) rfl rfl ?_
          refine s_iload_n C (d_of DX8_isSo 59 rfl) rfl ?_
          refine s_iconst C (d_of DX8_isSo 60 rfl) (by decide) ?_
          refine s_iload C (d_of DX8_isSo 61 rfl) rfl ?_
          refine s_ishl C (d_of DX8_isSo 62 rfl) ?_
          refine s_ior C (d_of DX8_isSo 63 rfl) ?_
          refine s_istore_n (ls' := [(2, l0), (2, l1), (0, (zor l2 (zand l3 (zshl 1 l5)))), (0, (zor l3 (zshl 1 l5))), (0, l4), (0, l5), (0, l6), (0, (M (l0 + 1) l6)), (3, 0)]) C (d_of DX8_isSo 64 rfl) (by decide) rfl rfl ?_
          refine s_goto C (d_of DX8_isSo 65 rfl) rfl ?_
          obtain ⟨o46, h⟩ := h
          refine s_iinc (ls' := [(2, l0), (2, l1), (0, (zor l2 (zand l3 (zshl 1 l5)))), (0, (zor l3 (zshl 1 l5))), (0, l4), (0, l5), (0, (l6 + 1)), (0, (M (l0 + 1) l6)), (3, 0)]) C (d_of DX8_isSo 117 rfl) (by decide) rfl o46 rfl rfl ?_
          refine s_goto C (d_of DX8_isSo 118 rfl) rfl ?_
          exact WA.wk h ⟨Or.inr rfl, Or.inr rfl, Or.inr rfl, Or.inr rfl, Or.inr rfl, Or.inr rfl, Or.inr rfl, Or.inl rfl, Or.inl rfl, trivial⟩
      · have h := h.2 hc
        refine s_iload C (d_of DX8_isSo 41 rfl) rfl ?_
        refine s_iconst C (d_of DX8_isSo 42 rfl) (by decide) ?_
        refine s_iload C (d_of DX8_isSo 43 rfl) rfl ?_
        refine s_ishl C (d_of DX8_isSo 44 rfl) ?_
        refine s_ixor C (d_of DX8_isSo 45 rfl) ?_
        refine s_istore (ls' := [(2, l0), (2, l1), (0, l2), (0, l3), (0, (zxor l4 (zshl 1 l5))), (0, l5), (0, l6), (0, (M (l0 + 1) l6)), (3, 0)]) C (d_of DX8_isSo 46 rfl) (by decide) rfl rfl ?_
        refine s_goto C (d_of DX8_isSo 47 rfl) rfl ?_
        obtain ⟨o47, h⟩ := h
        refine s_iinc (ls' := [(2, l0), (2, l1), (0, l2), (0, l3), (0, (zxor l4 (zshl 1 l5))), (0, l5), (0, (l6 + 1)), (0, (M (l0 + 1) l6)), (3, 0)]) C (d_of DX8_isSo 117 rfl) (by decide) rfl o47 rfl rfl ?_
        refine s_goto C (d_of DX8_isSo 118 rfl) rfl ?_
        exact WA.wk h ⟨Or.inr rfl, Or.inr rfl, Or.inr rfl, Or.inr rfl, Or.inr rfl, Or.inr rfl, Or.inr rfl, Or.inl rfl, Or.inl rfl, trivial⟩
    · have h := h.2 hc
      obtain ⟨o48, h⟩ := h
      refine s_iinc (ls' := [(2, l0), (2, l1), (0, l2), (0, l3), (0, l4), (0, (l5 + 1)), (0, l6), (0, (M (l0 + 1) l6)), (3, 0)]) C (d_of DX8_isSo 22 rfl) (by decide) rfl o48 rfl rfl ?_
      refine s_iload_n C (d_of DX8_isSo 23 rfl) rfl ?_
      refine s_iconst C (d_of DX8_isSo 24 rfl) (by decide) ?_
      refine s_iload C (d_of DX8_isSo 25 rfl) rfl ?_
      refine s_ishl C (d_of DX8_isSo 26 rfl) ?_
      refine s_iconst C (d_of DX8_isSo 27 rfl) (by decide) ?_
      refine s_ixor C (d_of DX8_isSo 28 rfl) ?_
      refine s_iand C (d_of DX8_isSo 29 rfl) ?_
      refine s_istore_n (ls' := [(2, l0), (2, l1), (0, (zand l2 (zxor (zshl 1 (l5 + 1)) (-1)))), (0, l3), (0, l4), (0, (l5 + 1)), (0, l6), (0, (M (l0 + 1) l6)), (3, 0)]) C (d_of DX8_isSo 30 rfl) (by decide) rfl rfl ?_
      refine s_iload_n C (d_of DX8_isSo 31 rfl) rfl ?_
      refine s_iconst C (d_of DX8_isSo 32 rfl) (by decide) ?_
      refine s_iload C (d_of DX8_isSo 33 rfl) rfl ?_
      refine s_ishl C (d_of DX8_isSo 34 rfl) ?_
      refine s_ior C (d_of DX8_isSo 35 rfl) ?_
      refine s_istore_n (ls' := [(2, l0), (2, l1), (0, (zand l2 (zxor (zshl 1 (l5 + 1)) (-1)))), (0, (zor l3 (zshl 1 (l5 + 1)))), (0, l4), (0, (l5 + 1)), (0, l6), (0, (M (l0 + 1) l6)), (3, 0)]) C (d_of DX8_isSo 36 rfl) (by decide) rfl rfl ?_
      refine s_goto C (d_of DX8_isSo 37 rfl) rfl ?_
      obtain ⟨o49, h⟩ := h
      refine s_iinc (ls' := [(2, l0), (2, l1), (0, (zand l2 (zxor (zshl 1 (l5 + 1)) (-1)))), (0, (zor l3 (zshl 1 (l5 + 1)))), (0, l4), (0, (l5 + 1)), (0, (l6 + 1)), (0, (M (l0 + 1) l6)), (3, 0)]) C (d_of DX8_isSo 117 rfl) (by decide) rfl o49 rfl rfl ?_
      refine s_goto C (d_of DX8_isSo 118 rfl) rfl ?_
      exact WA.wk h ⟨Or.inr rfl, Or.inr rfl, Or.inr rfl, Or.inr rfl, Or.inr rfl, Or.inr rfl, Or.inr rfl, Or.inl rfl, Or.inl rfl, trivial⟩
theorem E_X8_isSo {G : GP} {l : Launch} {P : Int → NS → MM → Prop} {l0 : Int} {l1 : Int} {w : NS} {M : MM} (h : ∀ X : BX, X.2.1 = l → CX_X8_isSo G X → A_X8_isSo_0 G X P l0 l1 w M) : CT_X8_isSo G l [(2, l0), (2, l1)] w M P :=
  CT.of RX8 "isSo" (by decide +kernel) rfl rfl rfl (Nat.le_of_ble_eq_true rfl) (fun hr X hX C => h  X hX C)
