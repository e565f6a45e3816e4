def A_X10_init_0 (G : GP) (X : BX) (P : Int → NS → MM → Prop) (l0 : Int) (rc rs : Nat) (w : NS) (M : MM) : Prop := WA false G X (QM G X false 4 P) 2 0 [(2, l0), (3, 0)] [] rc rs w M
def A_X10_init_37 (G : GP) (X : BX) (P : Int → NS → MM → Prop) (l0 : Int) (rc rs : Nat) (w : NS) (M : MM) : Prop := WA false G X (QM G X false 4 P) 2 37 [(2, l0), (3, 0)] [] rc rs w M
def A_X10_init_69 (G : GP) (X : BX) (P : Int → NS → MM → Prop) (l0 : Int) (rc rs : Nat) (w : NS) (M : MM) : Prop := WA false G X (QM G X false 4 P) 2 69 [(2, l0), (3, 0)] [] rc rs w M
def A_X10_init_101 (G : GP) (X : BX) (P : Int → NS → MM → Prop) (l0 : Int) (rc rs : Nat) (w : NS) (M : MM) : Prop := WA false G X (QM G X false 4 P) 2 101 [(2, l0), (3, 0)] [] rc rs w M
def A_X10_init_134 (G : GP) (X : BX) (P : Int → NS → MM → Prop) (l0 : Int) (rc rs : Nat) (w : NS) (M : MM) : Prop := WA false G X (QM G X false 4 P) 2 134 [(2, l0), (3, 0)] [] rc rs w M
def A_X10_init_166 (G : GP) (X : BX) (P : Int → NS → MM → Prop) (l0 : Int) (rc rs : Nat) (w : NS) (M : MM) : Prop := WA false G X (QM G X false 4 P) 2 166 [(2, l0), (3, 0)] [] rc rs w M
def A_X10_init_198 (G : GP) (X : BX) (P : Int → NS → MM → Prop) (l0 : Int) (rc rs : Nat) (w : NS) (M : MM) : Prop := WA false G X (QM G X false 4 P) 2 198 [(2, l0), (3, 0)] [] rc rs w M
def A_X10_init_231 (G : GP) (X : BX) (P : Int → NS → MM → Prop) (l0 : Int) (rc rs : Nat) (w : NS) (M : MM) : Prop := WA false G X (QM G X false 4 P) 2 231 [(2, l0), (3, 0)] [] rc rs w M
def A_X10_init_263 (G : GP) (X : BX) (P : Int → NS → MM → Prop) (l0 : Int) (rc rs : Nat) (w : NS) (M : MM) : Prop := WA false G X (QM G X false 4 P) 2 263 [(2, l0), (3, 0)] [] rc rs w M
def A_X10_init_295 (G : GP) (X : BX) (P : Int → NS → MM → Prop) (l0 : Int) (rc rs : Nat) (w : NS) (M : MM) : Prop := WA false G X (QM G X false 4 P) 2 295 [(2, l0), (3, 0)] [] rc rs w M
def A_X10_init_327 (G : GP) (X : BX) (P : Int → NS → MM → Prop) (l0 : Int) (rc rs : Nat) (w : NS) (M : MM) : Prop := WA false G X (QM G X false 4 P) 2 327 [(2, l0), (3, 0)] [] rc rs w M
def A_X10_init_344 (G : GP) (X : BX) (P : Int → NS → MM → Prop) (l0 : Int) (l1 : Int) (rc rs : Nat) (w : NS) (M : MM) : Prop := WA false G X (QM G X false 4 P) 2 344 [(2, l0), (0, l1)] [] rc rs w M
def A_X10_init_430 (G : GP) (X : BX) (P : Int → NS → MM → Prop) (l0 : Int) (l1 : Int) (rc rs : Nat) (w : NS) (M : MM) : Prop := WA false G X (QM G X false 4 P) 2 430 [(2, l0), (0, l1)] [] rc rs w M
def A_X10_init_451 (G : GP) (X : BX) (P : Int → NS → MM → Prop) (l0 : Int) (l1 : Int) (rc rs : Nat) (w : NS) (M : MM) : Prop := WA false G X (QM G X false 4 P) 2 451 [(2, l0), (0, l1)] [] rc rs w M
set_option maxHeartbeats 4000000 in
set_option maxRecDepth 100000 in
theorem B_X10_init_0 {G : GP} {X : BX} {P : Int → NS → MM → Prop} {l0 : Int} {rc rs : Nat} {w : NS} {M : MM} (C : CX_X10_init G X) (h : (w.2 l0 = (11, 51)) ∧ ∀ w2 : NS, w2 = (w.1 + 1, us w.2 w.1 12 480) → (l0 < (w.1 : Int)) ∧ ∀ M8 : MM, M8 = (up M l0 0 (w.1 : Int)) → ∀ w9 : NS, w9 = (w2.1 + 1, us w2.2 w2.1 12 8) → ∀ M16 : MM, M16 = (up M8 l0 1 (w2.1 : Int)) → ∀ w17 : NS, w17 = (w9.1 + 1, us w9.2 w9.1 12 8) → ∀ M26 : MM, M26 = (up M16 l0 2 (w9.1 : Int)) → ∀ w27 : NS, w27 = (w17.1 + 1, us w17.2 w17.1 12 8) → ∀ M38 : MM, M38 = (up M26 l0 3 (w17.1 : Int)) → A_X10_init_37 G X P l0 (rc + 0) (rs + 0) w27 M38) : A_X10_init_0 G X P l0 (rc + 4) (rs + 504) w M := by
  unfold A_X10_init_0
  refine s_aload_n C dX10_init_0 rfl ?_
  obtain ⟨o1, h⟩ := h
  refine s_objInit C o1 (by decide) (mG (wd_769) rfl) (mG (wd_81) rfl) (mG (wd_82) rfl) (by decide) (by decide) (Nat.le_of_ble_eq_true rfl) dX10_init_1 ?_
  refine s_aload_n C dX10_init_4 rfl ?_
  refine s_sipush C dX10_init_5 ⟨rfl, by decide, by decide⟩ ?_
  refine na_12 (N := 480) C rfl (by decide) dX10_init_8 ?_
  refine WA.nmW (fun w2 ew2 => ?_)
  have h := h _ ew2
  obtain ⟨o3, h⟩ := h
  have k4 : w2.2 l0 = (11, 51) := by rw [ew2]; exact us_ne o1 (Int.ne_of_lt o3)
  have b5 : l0 < (w2.1 : Int) := by have := o3; rw [ew2]; show _ < ((w.1 + 1 : Nat) : Int); omega
  have k6 : w2.2 (w.1 : Int) = (12, 480) := by rw [ew2]; exact us_new _ _ _ _
  have b7 : (w.1 : Int) < (w2.1 : Int) := by rw [ew2]; show _ < ((w.1 + 1 : Nat) : Int); omega
  refine pf_X10_7 C k4 (fun e => by cases e) dX10_init_10 ?_
  refine WA.nmM (fun M8 eM8 => ?_)
  have h := h _ eM8
  refine s_aload_n C dX10_init_13 rfl ?_
  refine s_bipush C dX10_init_14 ⟨rfl, by decide, by decide⟩ ?_
  refine na_12 (N := 8) C rfl (by decide) dX10_init_16 ?_
  refine WA.nmW (fun w9 ew9 => ?_)
  have h := h _ ew9
  have k10 : w9.2 l0 = (11, 51) := by rw [ew9]; exact us_ne k4 (Int.ne_of_lt b5)
  have b11 : l0 < (w9.1 : Int) := by have := b5; rw [ew9]; show _ < ((w2.1 + 1 : Nat) : Int); omega
  have k12 : w9.2 (w.1 : Int) = (12, 480) := by rw [ew9]; exact us_ne k6 (Int.ne_of_lt b7)
  have b13 : (w.1 : Int) < (w9.1 : Int) := by have := b7; rw [ew9]; show _ < ((w2.1 + 1 : Nat) : Int); omega
  have k14 : w9.2 (w2.1 : Int) = (12, 8) := by rw [ew9]; exact us_new _ _ _ _
  have b15 : (w2.1 : Int) < (w9.1 : Int) := by rw [ew9]; show _ < ((w2.1 + 1 : Nat) : Int); omega
  refine pf_X10_13 C k10 (fun e => by cases e) dX10_init_18 ?_
  refine WA.nmM (fun M16 eM16 => ?_)
  have h := h _ eM16
  refine s_aload_n C dX10_init_21 rfl ?_
  refine s_bipush C dX10_init_22 ⟨rfl, by decide, by decide⟩ ?_
  refine na_12 (N := 8) C rfl (by decide) dX10_init_24 ?_
  refine WA.nmW (fun w17 ew17 => ?_)
  have h := h _ ew17
  have k18 : w17.2 l0 = (11, 51) := by rw [ew17]; exact us_ne k10 (Int.ne_of_lt b11)
  have b19 : l0 < (w17.1 : Int) := by have := b11; rw [ew17]; show _ < ((w9.1 + 1 : Nat) : Int); omega
  have k20 : w17.2 (w.1 : Int) = (12, 480) := by rw [ew17]; exact us_ne k12 (Int.ne_of_lt b13)
  have b21 : (w.1 : Int) < (w17.1 : Int) := by have := b13; rw [ew17]; show _ < ((w9.1 + 1 : Nat) : Int); omega
  have k22 : w17.2 (w2.1 : Int) = (12, 8) := by rw [ew17]; exact us_ne k14 (Int.ne_of_lt b15)
  have b23 : (w2.1 : Int) < (w17.1 : Int) := by have := b15; rw [ew17]; show _ < ((w9.1 + 1 : Nat) : Int); omega
  have k24 : w17.2 (w9.1 : Int) = (12, 8) := by rw [ew17]; exact us_new _ _ _ _
  have b25 : (w9.1 : Int) < (w17.1 : Int) := by rw [ew17]; show _ < ((w9.1 + 1 : Nat) : Int); omega
  refine pf_X10_16 C k18 (fun e => by cases e) dX10_init_26 ?_
  refine WA.nmM (fun M26 eM26 => ?_)
  have h := h _ eM26
  refine s_aload_n C dX10_init_29 rfl ?_
  refine s_bipush C dX10_init_30 ⟨rfl, by decide, by decide⟩ ?_
  refine na_12 (N := 8) C rfl (by decide) dX10_init_32 ?_
  refine WA.nmW (fun w27 ew27 => ?_)
  have h := h _ ew27
  have k28 : w27.2 l0 = (11, 51) := by rw [ew27]; exact us_ne k18 (Int.ne_of_lt b19)
  have b29 : l0 < (w27.1 : Int) := by have := b19; rw [ew27]; show _ < ((w17.1 + 1 : Nat) : Int); omega
  have k30 : w27.2 (w.1 : Int) = (12, 480) := by rw [ew27]; exact us_ne k20 (Int.ne_of_lt b21)
  have b31 : (w.1 : Int) < (w27.1 : Int) := by have := b21; rw [ew27]; show _ < ((w17.1 + 1 : Nat) : Int); omega
  have k32 : w27.2 (w2.1 : Int) = (12, 8) := by rw [ew27]; exact us_ne k22 (Int.ne_of_lt b23)
  have b33 : (w2.1 : Int) < (w27.1 : Int) := by have := b23; rw [ew27]; show _ < ((w17.1 + 1 : Nat) : Int); omega
  have k34 : w27.2 (w9.1 : Int) = (12, 8) := by rw [ew27]; exact us_ne k24 (Int.ne_of_lt b25)
  have b35 : (w9.1 : Int) < (w27.1 : Int) := by have := b25; rw [ew27]; show _ < ((w17.1 + 1 : Nat) : Int); omega
  have k36 : w27.2 (w17.1 : Int) = (12, 8) := by rw [ew27]; exact us_new _ _ _ _
  have b37 : (w17.1 : Int) < (w27.1 : Int) := by rw [ew27]; show _ < ((w17.1 + 1 : Nat) : Int); omega
  refine pf_X10_19 C k28 (fun e => by cases e) dX10_init_34 ?_
  refine WA.nmM (fun M38 eM38 => ?_)
  have h := h _ eM38
  exact h
set_option maxHeartbeats 4000000 in
set_option maxRecDepth 100000 in
theorem B_X10_init_37 {G : GP} {X : BX} {P : Int → NS → MM → Prop} {l0 : Int} {rc rs : Nat} {w : NS} {M : MM} (C : CX_X10_init G X) (h : ∀ w1 : NS, w1 = (w.1 + 1, us w.2 w.1 12 24) → (w1.2 l0 = (11, 51)) ∧ ∀ M5 : MM, M5 = (up M l0 5 (w.1 : Int)) → ∀ w6 : NS, w6 = (w1.1 + 1, us w1.2 w1.1 12 24) → (l0 < (w1.1 : Int)) ∧ ∀ M14 : MM, M14 = (up M5 l0 6 (w1.1 : Int)) → ∀ w15 : NS, w15 = (w6.1 + 1, us w6.2 w6.1 12 24) → ∀ M24 : MM, M24 = (up M14 l0 7 (w6.1 : Int)) → ∀ w25 : NS, w25 = (w15.1 + 1, us w15.2 w15.1 12 24) → ∀ M36 : MM, M36 = (up M24 l0 8 (w15.1 : Int)) → A_X10_init_69 G X P l0 (rc + 0) (rs + 0) w25 M36) : A_X10_init_37 G X P l0 (rc + 4) (rs + 96) w M := by
  unfold A_X10_init_37
  refine s_aload_n C dX10_init_37 rfl ?_
  refine s_bipush C dX10_init_38 ⟨rfl, by decide, by decide⟩ ?_
  refine na_12 (N := 24) C rfl (by decide) dX10_init_40 ?_
  refine WA.nmW (fun w1 ew1 => ?_)
  have h := h _ ew1
  have k2 : w1.2 (w.1 : Int) = (12, 24) := by rw [ew1]; exact us_new _ _ _ _
  have b3 : (w.1 : Int) < (w1.1 : Int) := by rw [ew1]; show _ < ((w.1 + 1 : Nat) : Int); omega
  obtain ⟨o4, h⟩ := h
  refine pf_X10_22 C o4 (fun e => by cases e) dX10_init_42 ?_
  refine WA.nmM (fun M5 eM5 => ?_)
  have h := h _ eM5
  refine s_aload_n C dX10_init_45 rfl ?_
  refine s_bipush C dX10_init_46 ⟨rfl, by decide, by decide⟩ ?_
  refine na_12 (N := 24) C rfl (by decide) dX10_init_48 ?_
  refine WA.nmW (fun w6 ew6 => ?_)
  have h := h _ ew6
  have k7 : w6.2 (w.1 : Int) = (12, 24) := by rw [ew6]; exact us_ne k2 (Int.ne_of_lt b3)
  have b8 : (w.1 : Int) < (w6.1 : Int) := by have := b3; rw [ew6]; show _ < ((w1.1 + 1 : Nat) : Int); omega
  obtain ⟨o9, h⟩ := h
  have k10 : w6.2 l0 = (11, 51) := by rw [ew6]; exact us_ne o4 (Int.ne_of_lt o9)
  have b11 : l0 < (w6.1 : Int) := by have := o9; rw [ew6]; show _ < ((w1.1 + 1 : Nat) : Int); omega
  have k12 : w6.2 (w1.1 : Int) = (12, 24) := by rw [ew6]; exact us_new _ _ _ _
  have b13 : (w1.1 : Int) < (w6.1 : Int) := by rw [ew6]; show _ < ((w1.1 + 1 : Nat) : Int); omega
  refine pf_X10_25 C k10 (fun e => by cases e) dX10_init_50 ?_
  refine WA.nmM (fun M14 eM14 => ?_)
  have h := h _ eM14
  refine s_aload_n C dX10_init_53 rfl ?_
  refine s_bipush C dX10_init_54 ⟨rfl, by decide, by decide⟩ ?_
  refine na_12 (N := 24) C rfl (by decide) dX10_init_56 ?_
  refine WA.nmW (fun w15 ew15 => ?_)
  have h := h _ ew15
  have k16 : w15.2 (w.1 : Int) = (12, 24) := by rw [ew15]; exact us_ne k7 (Int.ne_of_lt b8)
  have b17 : (w.1 : Int) < (w15.1 : Int) := by have := b8; rw [ew15]; show _ < ((w6.1 + 1 : Nat) : Int); omega
  have k18 : w15.2 l0 = (11, 51) := by rw [ew15]; exact us_ne k10 (Int.ne_of_lt b11)
  have b19 : l0 < (w15.1 : Int) := by have := b11; rw [ew15]; show _ < ((w6.1 + 1 : Nat) : Int); omega
  have k20 : w15.2 (w1.1 : Int) = (12, 24) := by rw [ew15]; exact us_ne k12 (Int.ne_of_lt b13)
  have b21 : (w1.1 : Int) < (w15.1 : Int) := by have := b13; rw [ew15]; show _ < ((w6.1 + 1 : Nat) : Int); omega
  have k22 : w15.2 (w6.1 : Int) = (12, 24) := by rw [ew15]; exact us_new _ _ _ _
  have b23 : (w6.1 : Int) < (w15.1 : Int) := by rw [ew15]; show _ < ((w6.1 + 1 : Nat) : Int); omega
  refine pf_X10_28 C k18 (fun e => by cases e) dX10_init_58 ?_
  refine WA.nmM (fun M24 eM24 => ?_)
  have h := h _ eM24
  refine s_aload_n C dX10_init_61 rfl ?_
  refine s_bipush C dX10_init_62 ⟨rfl, by decide, by decide⟩ ?_
  refine na_12 (N := 24) C rfl (by decide) dX10_init_64 ?_
  refine WA.nmW (fun w25 ew25 => ?_)
  have h := h _ ew25
  have k26 : w25.2 (w.1 : Int) = (12, 24) := by rw [ew25]; exact us_ne k16 (Int.ne_of_lt b17)
  have b27 : (w.1 : Int) < (w25.1 : Int) := by have := b17; rw [ew25]; show _ < ((w15.1 + 1 : Nat) : Int); omega
  have k28 : w25.2 l0 = (11, 51) := by rw [ew25]; exact us_ne k18 (Int.ne_of_lt b19)
  have b29 : l0 < (w25.1 : Int) := by have := b19; rw [ew25]; show _ < ((w15.1 + 1 : Nat) : Int); omega
  have k30 : w25.2 (w1.1 : Int) = (12, 24) := by rw [ew25]; exact us_ne k20 (Int.ne_of_lt b21)
  have b31 : (w1.1 : Int) < (w25.1 : Int) := by have := b21; rw [ew25]; show _ < ((w15.1 + 1 : Nat) : Int); omega
  have k32 : w25.2 (w6.1 : Int) = (12, 24) := by rw [ew25]; exact us_ne k22 (Int.ne_of_lt b23)
  have b33 : (w6.1 : Int) < (w25.1 : Int) := by have := b23; rw [ew25]; show _ < ((w15.1 + 1 : Nat) : Int); omega
  have k34 : w25.2 (w15.1 : Int) = (12, 24) := by rw [ew25]; exact us_new _ _ _ _
  have b35 : (w15.1 : Int) < (w25.1 : Int) := by rw [ew25]; show _ < ((w15.1 + 1 : Nat) : Int); omega
  refine pf_X10_31 C k28 (fun e => by cases e) dX10_init_66 ?_
  refine WA.nmM (fun M36 eM36 => ?_)
  have h := h _ eM36
  exact h
set_option maxHeartbeats 4000000 in
set_option maxRecDepth 100000 in
theorem B_X10_init_69 {G : GP} {X : BX} {P : Int → NS → MM → Prop} {l0 : Int} {rc rs : Nat} {w : NS} {M : MM} (C : CX_X10_init G X) (h : ∀ w1 : NS, w1 = (w.1 + 1, us w.2 w.1 12 24) → (w1.2 l0 = (11, 51)) ∧ ∀ M5 : MM, M5 = (up M l0 9 (w.1 : Int)) → ∀ w6 : NS, w6 = (w1.1 + 1, us w1.2 w1.1 12 24) → (l0 < (w1.1 : Int)) ∧ ∀ M14 : MM, M14 = (up M5 l0 10 (w1.1 : Int)) → ∀ w15 : NS, w15 = (w6.1 + 1, us w6.2 w6.1 12 24) → ∀ M24 : MM, M24 = (up M14 l0 11 (w6.1 : Int)) → ∀ w25 : NS, w25 = (w15.1 + 1, us w15.2 w15.1 12 9) → ∀ M36 : MM, M36 = (up M24 l0 13 (w15.1 : Int)) → A_X10_init_101 G X P l0 (rc + 0) (rs + 0) w25 M36) : A_X10_init_69 G X P l0 (rc + 4) (rs + 81) w M := by
  unfold A_X10_init_69
  refine s_aload_n C dX10_init_69 rfl ?_
  refine s_bipush C dX10_init_70 ⟨rfl, by decide, by decide⟩ ?_
  refine na_12 (N := 24) C rfl (by decide) dX10_init_72 ?_
  refine WA.nmW (fun w1 ew1 => ?_)
  have h := h _ ew1
  have k2 : w1.2 (w.1 : Int) = (12, 24) := by rw [ew1]; exact us_new _ _ _ _
  have b3 : (w.1 : Int) < (w1.1 : Int) := by rw [ew1]; show _ < ((w.1 + 1 : Nat) : Int); omega
  obtain ⟨o4, h⟩ := h
  refine pf_X10_34 C o4 (fun e => by cases e) dX10_init_74 ?_
  refine WA.nmM (fun M5 eM5 => ?_)
  have h := h _ eM5
  refine s_aload_n C dX10_init_77 rfl ?_
  refine s_bipush C dX10_init_78 ⟨rfl, by decide, by decide⟩ ?_
  refine na_12 (N := 24) C rfl (by decide) dX10_init_80 ?_
  refine WA.nmW (fun w6 ew6 => ?_)
  have h := h _ ew6
  have k7 : w6.2 (w.1 : Int) = (12, 24) := by rw [ew6]; exact us_ne k2 (Int.ne_of_lt b3)
  have b8 : (w.1 : Int) < (w6.1 : Int) := by have := b3; rw [ew6]; show _ < ((w1.1 + 1 : Nat) : Int); omega
  obtain ⟨o9, h⟩ := h
  have k10 : w6.2 l0 = (11, 51) := by rw [ew6]; exact us_ne o4 (Int.ne_of_lt o9)
  have b11 : l0 < (w6.1 : Int) := by have := o9; rw [ew6]; show _ < ((w1.1 + 1 : Nat) : Int); omega
  have k12 : w6.2 (w1.1 : Int) = (12, 24) := by rw [ew6]; exact us_new _ _ _ _
  have b13 : (w1.1 : Int) < (w6.1 : Int) := by rw [ew6]; show _ < ((w1.1 + 1 : Nat) : Int); omega
  refine pf_X10_37 C k10 (fun e => by cases e) dX10_init_82 ?_
  refine WA.nmM (fun M14 eM14 => ?_)
  have h := h _ eM14
  refine s_aload_n C dX10_init_85 rfl ?_
  refine s_bipush C dX10_init_86 ⟨rfl, by decide, by decide⟩ ?_
  refine na_12 (N := 24) C rfl (by decide) dX10_init_88 ?_
  refine WA.nmW (fun w15 ew15 => ?_)
  have h := h _ ew15
  have k16 : w15.2 (w.1 : Int) = (12, 24) := by rw [ew15]; exact us_ne k7 (Int.ne_of_lt b8)
  have b17 : (w.1 : Int) < (w15.1 : Int) := by have := b8; rw [ew15]; show _ < ((w6.1 + 1 : Nat) : Int); omega
  have k18 : w15.2 l0 = (11, 51) := by rw [ew15]; exact us_ne k10 (Int.ne_of_lt b11)
  have b19 : l0 < (w15.1 : Int) := by have := b11; rw [ew15]; show _ < ((w6.1 + 1 : Nat) : Int); omega
  have k20 : w15.2 (w1.1 : Int) = (12, 24) := by rw [ew15]; exact us_ne k12 (Int.ne_of_lt b13)
  have b21 : (w1.1 : Int) < (w15.1 : Int) := by have := b13; rw [ew15]; show _ < ((w6.1 + 1 : Nat) : Int); omega
  have k22 : w15.2 (w6.1 : Int) = (12, 24) := by rw [ew15]; exact us_new _ _ _ _
  have b23 : (w6.1 : Int) < (w15.1 : Int) := by rw [ew15]; show _ < ((w6.1 + 1 : Nat) : Int); omega
  refine pf_X10_40 C k18 (fun e => by cases e) dX10_init_90 ?_
  refine WA.nmM (fun M24 eM24 => ?_)
  have h := h _ eM24
  refine s_aload_n C dX10_init_93 rfl ?_
  refine s_bipush C dX10_init_94 ⟨rfl, by decide, by decide⟩ ?_
  refine na_12 (N := 9) C rfl (by decide) dX10_init_96 ?_
  refine WA.nmW (fun w25 ew25 => ?_)
  have h := h _ ew25
  have k26 : w25.2 (w.1 : Int) = (12, 24) := by rw [ew25]; exact us_ne k16 (Int.ne_of_lt b17)
  have b27 : (w.1 : Int) < (w25.1 : Int) := by have := b17; rw [ew25]; show _ < ((w15.1 + 1 : Nat) : Int); omega
  have k28 : w25.2 l0 = (11, 51) := by rw [ew25]; exact us_ne k18 (Int.ne_of_lt b19)
  have b29 : l0 < (w25.1 : Int) := by have := b19; rw [ew25]; show _ < ((w15.1 + 1 : Nat) : Int); omega
  have k30 : w25.2 (w1.1 : Int) = (12, 24) := by rw [ew25]; exact us_ne k20 (Int.ne_of_lt b21)
  have b31 : (w1.1 : Int) < (w25.1 : Int) := by have := b21; rw [ew25]; show _ < ((w15.1 + 1 : Nat) : Int); omega
  have k32 : w25.2 (w6.1 : Int) = (12, 24) := by rw [ew25]; exact us_ne k22 (Int.ne_of_lt b23)
  have b33 : (w6.1 : Int) < (w25.1 : Int) := by have := b23; rw [ew25]; show _ < ((w15.1 + 1 : Nat) : Int); omega
  have k34 : w25.2 (w15.1 : Int) = (12, 9) := by rw [ew25]; exact us_new _ _ _ _
  have b35 : (w15.1 : Int) < (w25.1 : Int) := by rw [ew25]; show _ < ((w15.1 + 1 : Nat) : Int); omega
  refine pf_X10_43 C k28 (fun e => by cases e) dX10_init_98 ?_
  refine WA.nmM (fun M36 eM36 => ?_)
  have h := h _ eM36
  exact h
set_option maxHeartbeats 4000000 in
set_option maxRecDepth 100000 in
theorem B_X10_init_101 {G : GP} {X : BX} {P : Int → NS → MM → Prop} {l0 : Int} {rc rs : Nat} {w : NS} {M : MM} (C : CX_X10_init G X) (h : ∀ w1 : NS, w1 = (w.1 + 1, us w.2 w.1 12 60) → (w1.2 l0 = (11, 51)) ∧ ∀ M5 : MM, M5 = (up M l0 14 (w.1 : Int)) → ∀ w6 : NS, w6 = (w1.1 + 1, us w1.2 w1.1 12 60) → (l0 < (w1.1 : Int)) ∧ ∀ M14 : MM, M14 = (up M5 l0 15 (w1.1 : Int)) → ∀ w15 : NS, w15 = (w6.1 + 1, us w6.2 w6.1 12 440) → ∀ M24 : MM, M24 = (up M14 l0 18 (w6.1 : Int)) → ∀ w25 : NS, w25 = (w15.1 + 1, us w15.2 w15.1 12 11) → ∀ M36 : MM, M36 = (up M24 l0 19 (w15.1 : Int)) → A_X10_init_134 G X P l0 (rc + 0) (rs + 0) w25 M36) : A_X10_init_101 G X P l0 (rc + 4) (rs + 571) w M := by
  unfold A_X10_init_101
  refine s_aload_n C dX10_init_101 rfl ?_
  refine s_bipush C dX10_init_102 ⟨rfl, by decide, by decide⟩ ?_
  refine na_12 (N := 60) C rfl (by decide) dX10_init_104 ?_
  refine WA.nmW (fun w1 ew1 => ?_)
  have h := h _ ew1
  have k2 : w1.2 (w.1 : Int) = (12, 60) := by rw [ew1]; exact us_new _ _ _ _
  have b3 : (w.1 : Int) < (w1.1 : Int) := by rw [ew1]; show _ < ((w.1 + 1 : Nat) : Int); omega
  obtain ⟨o4, h⟩ := h
  refine pf_X10_46 C o4 (fun e => by cases e) dX10_init_106 ?_
  refine WA.nmM (fun M5 eM5 => ?_)
  have h := h _ eM5
  refine s_aload_n C dX10_init_109 rfl ?_
  refine s_bipush C dX10_init_110 ⟨rfl, by decide, by decide⟩ ?_
  refine na_12 (N := 60) C rfl (by decide) dX10_init_112 ?_
  refine WA.nmW (fun w6 ew6 => ?_)
  have h := h _ ew6
  have k7 : w6.2 (w.1 : Int) = (12, 60) := by rw [ew6]; exact us_ne k2 (Int.ne_of_lt b3)
  have b8 : (w.1 : Int) < (w6.1 : Int) := by have := b3; rw [ew6]; show _ < ((w1.1 + 1 : Nat) : Int); omega
  obtain ⟨o9, h⟩ := h
  have k10 : w6.2 l0 = (11, 51) := by rw [ew6]; exact us_ne o4 (Int.ne_of_lt o9)
  have b11 : l0 < (w6.1 : Int) := by have := o9; rw [ew6]; show _ < ((w1.1 + 1 : Nat) : Int); omega
  have k12 : w6.2 (w1.1 : Int) = (12, 60) := by rw [ew6]; exact us_new _ _ _ _
  have b13 : (w1.1 : Int) < (w6.1 : Int) := by rw [ew6]; show _ < ((w1.1 + 1 : Nat) : Int); omega
  refine pf_X10_49 C k10 (fun e => by cases e) dX10_init_114 ?_
  refine WA.nmM (fun M14 eM14 => ?_)
  have h := h _ eM14
  refine s_aload_n C dX10_init_117 rfl ?_
  refine s_sipush C dX10_init_118 ⟨rfl, by decide, by decide⟩ ?_
  refine na_12 (N := 440) C rfl (by decide) dX10_init_121 ?_
  refine WA.nmW (fun w15 ew15 => ?_)
  have h := h _ ew15
  have k16 : w15.2 (w.1 : Int) = (12, 60) := by rw [ew15]; exact us_ne k7 (Int.ne_of_lt b8)
  have b17 : (w.1 : Int) < (w15.1 : Int) := by have := b8; rw [ew15]; show _ < ((w6.1 + 1 : Nat) : Int); omega
  have k18 : w15.2 l0 = (11, 51) := by rw [ew15]; exact us_ne k10 (Int.ne_of_lt b11)
  have b19 : l0 < (w15.1 : Int) := by have := b11; rw [ew15]; show _ < ((w6.1 + 1 : Nat) : Int); omega
  have k20 : w15.2 (w1.1 : Int) = (12, 60) := by rw [ew15]; exact us_ne k12 (Int.ne_of_lt b13)
  have b21 : (w1.1 : Int) < (w15.1 : Int) := by have := b13; rw [ew15]; show _ < ((w6.1 + 1 : Nat) : Int); omega
  have k22 : w15.2 (w6.1 : Int) = (12, 440) := by rw [ew15]; exact us_new _ _ _ _
  have b23 : (w6.1 : Int) < (w15.1 : Int) := by rw [ew15]; show _ < ((w6.1 + 1 : Nat) : Int); omega
  refine pf_X10_52 C k18 (fun e => by cases e) dX10_init_123 ?_
  refine WA.nmM (fun M24 eM24 => ?_)
  have h := h _ eM24
  refine s_aload_n C dX10_init_126 rfl ?_
  refine s_bipush C dX10_init_127 ⟨rfl, by decide, by decide⟩ ?_
  refine na_12 (N := 11) C rfl (by decide) dX10_init_129 ?_
  refine WA.nmW (fun w25 ew25 => ?_)
  have h := h _ ew25
  have k26 : w25.2 (w.1 : Int) = (12, 60) := by rw [ew25]; exact us_ne k16 (Int.ne_of_lt b17)
  have b27 : (w.1 : Int) < (w25.1 : Int) := by have := b17; rw [ew25]; show _ < ((w15.1 + 1 : Nat) : Int); omega
  have k28 : w25.2 l0 = (11, 51) := by rw [ew25]; exact us_ne k18 (Int.ne_of_lt b19)
  have b29 : l0 < (w25.1 : Int) := by have := b19; rw [ew25]; show _ < ((w15.1 + 1 : Nat) : Int); omega
  have k30 : w25.2 (w1.1 : Int) = (12, 60) := by rw [ew25]; exact us_ne k20 (Int.ne_of_lt b21)
  have b31 : (w1.1 : Int) < (w25.1 : Int) := by have := b21; rw [ew25]; show _ < ((w15.1 + 1 : Nat) : Int); omega
  have k32 : w25.2 (w6.1 : Int) = (12, 440) := by rw [ew25]; exact us_ne k22 (Int.ne_of_lt b23)
  have b33 : (w6.1 : Int) < (w25.1 : Int) := by have := b23; rw [ew25]; show _ < ((w15.1 + 1 : Nat) : Int); omega
  have k34 : w25.2 (w15.1 : Int) = (12, 11) := by rw [ew25]; exact us_new _ _ _ _
  have b35 : (w15.1 : Int) < (w25.1 : Int) := by rw [ew25]; show _ < ((w15.1 + 1 : Nat) : Int); omega
  refine pf_X10_55 C k28 (fun e => by cases e) dX10_init_131 ?_
  refine WA.nmM (fun M36 eM36 => ?_)
  have h := h _ eM36
  exact h
set_option maxHeartbeats 4000000 in
set_option maxRecDepth 100000 in
theorem B_X10_init_134 {G : GP} {X : BX} {P : Int → NS → MM → Prop} {l0 : Int} {rc rs : Nat} {w : NS} {M : MM} (C : CX_X10_init G X) (h : ∀ w1 : NS, w1 = (w.1 + 1, us w.2 w.1 12 10) → (w1.2 l0 = (11, 51)) ∧ ∀ M5 : MM, M5 = (up M l0 20 (w.1 : Int)) → ∀ w6 : NS, w6 = (w1.1 + 1, us w1.2 w1.1 12 10) → (l0 < (w1.1 : Int)) ∧ ∀ M14 : MM, M14 = (up M5 l0 21 (w1.1 : Int)) → ∀ w15 : NS, w15 = (w6.1 + 1, us w6.2 w6.1 12 10) → ∀ M24 : MM, M24 = (up M14 l0 22 (w6.1 : Int)) → ∀ w25 : NS, w25 = (w15.1 + 1, us w15.2 w15.1 12 10) → ∀ M36 : MM, M36 = (up M24 l0 23 (w15.1 : Int)) → A_X10_init_166 G X P l0 (rc + 0) (rs + 0) w25 M36) : A_X10_init_134 G X P l0 (rc + 4) (rs + 40) w M := by
  unfold A_X10_init_134
  refine s_aload_n C dX10_init_134 rfl ?_
  refine s_bipush C dX10_init_135 ⟨rfl, by decide, by decide⟩ ?_
  refine na_12 (N := 10) C rfl (by decide) dX10_init_137 ?_
  refine WA.nmW (fun w1 ew1 => ?_)
  have h := h _ ew1
  have k2 : w1.2 (w.1 : Int) = (12, 10) := by rw [ew1]; exact us_new _ _ _ _
  have b3 : (w.1 : Int) < (w1.1 : Int) := by rw [ew1]; show _ < ((w.1 + 1 : Nat) : Int); omega
  obtain ⟨o4, h⟩ := h
  refine pf_X10_58 C o4 (fun e => by cases e) dX10_init_139 ?_
  refine WA.nmM (fun M5 eM5 => ?_)
  have h := h _ eM5
  refine s_aload_n C dX10_init_142 rfl ?_
  refine s_bipush C dX10_init_143 ⟨rfl, by decide, by decide⟩ ?_
  refine na_12 (N := 10) C rfl (by decide) dX10_init_145 ?_
  refine WA.nmW (fun w6 ew6 => ?_)
  have h := h _ ew6
  have k7 : w6.2 (w.1 : Int) = (12, 10) := by rw [ew6]; exact us_ne k2 (Int.ne_of_lt b3)
  have b8 : (w.1 : Int) < (w6.1 : Int) := by have := b3; rw [ew6]; show _ < ((w1.1 + 1 : Nat) : Int); omega
  obtain ⟨o9, h⟩ := h
  have k10 : w6.2 l0 = (11, 51) := by rw [ew6]; exact us_ne o4 (Int.ne_of_lt o9)
  have b11 : l0 < (w6.1 : Int) := by have := o9; rw [ew6]; show _ < ((w1.1 + 1 : Nat) : Int); omega
  have k12 : w6.2 (w1.1 : Int) = (12, 10) := by rw [ew6]; exact us_new _ _ _ _
  have b13 : (w1.1 : Int) < (w6.1 : Int) := by rw [ew6]; show _ < ((w1.1 + 1 : Nat) : Int); omega
  refine pf_X10_61 C k10 (fun e => by cases e) dX10_init_147 ?_
  refine WA.nmM (fun M14 eM14 => ?_)
  have h := h _ eM14
  refine s_aload_n C dX10_init_150 rfl ?_
  refine s_bipush C dX10_init_151 ⟨rfl, by decide, by decide⟩ ?_
  refine na_12 (N := 10) C rfl (by decide) dX10_init_153 ?_
  refine WA.nmW (fun w15 ew15 => ?_)
  have h := h _ ew15
  have k16 : w15.2 (w.1 : Int) = (12, 10) := by rw [ew15]; exact us_ne k7 (Int.ne_of_lt b8)
  have b17 : (w.1 : Int) < (w15.1 : Int) := by have := b8; rw [ew15]; show _ < ((w6.1 + 1 : Nat) : Int); omega
  have k18 : w15.2 l0 = (11, 51) := by rw [ew15]; exact us_ne k10 (Int.ne_of_lt b11)
  have b19 : l0 < (w15.1 : Int) := by have := b11; rw [ew15]; show _ < ((w6.1 + 1 : Nat) : Int); omega
  have k20 : w15.2 (w1.1 : Int) = (12, 10) := by rw [ew15]; exact us_ne k12 (Int.ne_of_lt b13)
  have b21 : (w1.1 : Int) < (w15.1 : Int) := by have := b13; rw [ew15]; show _ < ((w6.1 + 1 : Nat) : Int); omega
  have k22 : w15.2 (w6.1 : Int) = (12, 10) := by rw [ew15]; exact us_new _ _ _ _
  have b23 : (w6.1 : Int) < (w15.1 : Int) := by rw [ew15]; show _ < ((w6.1 + 1 : Nat) : Int); omega
  refine pf_X10_64 C k18 (fun e => by cases e) dX10_init_155 ?_
  refine WA.nmM (fun M24 eM24 => ?_)
  have h := h _ eM24
  refine s_aload_n C dX10_init_158 rfl ?_
  refine s_bipush C dX10_init_159 ⟨rfl, by decide, by decide⟩ ?_
  refine na_12 (N := 10) C rfl (by decide) dX10_init_161 ?_
  refine WA.nmW (fun w25 ew25 => ?_)
  have h := h _ ew25
  have k26 : w25.2 (w.1 : Int) = (12, 10) := by rw [ew25]; exact us_ne k16 (Int.ne_of_lt b17)
  have b27 : (w.1 : Int) < (w25.1 : Int) := by have := b17; rw [ew25]; show _ < ((w15.1 + 1 : Nat) : Int); omega
  have k28 : w25.2 l0 = (11, 51) := by rw [ew25]; exact us_ne k18 (Int.ne_of_lt b19)
  have b29 : l0 < (w25.1 : Int) := by have := b19; rw [ew25]; show _ < ((w15.1 + 1 : Nat) : Int); omega
  have k30 : w25.2 (w1.1 : Int) = (12, 10) := by rw [ew25]; exact us_ne k20 (Int.ne_of_lt b21)
  have b31 : (w1.1 : Int) < (w25.1 : Int) := by have := b21; rw [ew25]; show _ < ((w15.1 + 1 : Nat) : Int); omega
  have k32 : w25.2 (w6.1 : Int) = (12, 10) := by rw [ew25]; exact us_ne k22 (Int.ne_of_lt b23)
  have b33 : (w6.1 : Int) < (w25.1 : Int) := by have := b23; rw [ew25]; show _ < ((w15.1 + 1 : Nat) : Int); omega
  have k34 : w25.2 (w15.1 : Int) = (12, 10) := by rw [ew25]; exact us_new _ _ _ _
  have b35 : (w15.1 : Int) < (w25.1 : Int) := by rw [ew25]; show _ < ((w15.1 + 1 : Nat) : Int); omega
  refine pf_X10_67 C k28 (fun e => by cases e) dX10_init_163 ?_
  refine WA.nmM (fun M36 eM36 => ?_)
  have h := h _ eM36
  exact h
set_option maxHeartbeats 4000000 in
set_option maxRecDepth 100000 in
theorem B_X10_init_166 {G : GP} {X : BX} {P : Int → NS → MM → Prop} {l0 : Int} {rc rs : Nat} {w : NS} {M : MM} (C : CX_X10_init G X) (h : ∀ w1 : NS, w1 = (w.1 + 1, us w.2 w.1 12 10) → (w1.2 l0 = (11, 51)) ∧ ∀ M5 : MM, M5 = (up M l0 24 (w.1 : Int)) → ∀ w6 : NS, w6 = (w1.1 + 1, us w1.2 w1.1 14 10) → (l0 < (w1.1 : Int)) ∧ ∀ M14 : MM, M14 = (up M5 l0 25 (w1.1 : Int)) → ∀ w15 : NS, w15 = (w6.1 + 1, us w6.2 w6.1 14 10) → ∀ M24 : MM, M24 = (up M14 l0 27 (w6.1 : Int)) → ∀ w25 : NS, w25 = (w15.1 + 1, us w15.2 w15.1 14 10) → ∀ M36 : MM, M36 = (up M24 l0 28 (w15.1 : Int)) → A_X10_init_198 G X P l0 (rc + 0) (rs + 0) w25 M36) : A_X10_init_166 G X P l0 (rc + 4) (rs + 40) w M := by
  unfold A_X10_init_166
  refine s_aload_n C dX10_init_166 rfl ?_
  refine s_bipush C dX10_init_167 ⟨rfl, by decide, by decide⟩ ?_
  refine na_12 (N := 10) C rfl (by decide) dX10_init_169 ?_
  refine WA.nmW (fun w1 ew1 => ?_)
  have h := h _ ew1
  have k2 : w1.2 (w.1 : Int) = (12, 10) := by rw [ew1]; exact us_new _ _ _ _
  have b3 : (w.1 : Int) < (w1.1 : Int) := by rw [ew1]; show _ < ((w.1 + 1 : Nat) : Int); omega
  obtain ⟨o4, h⟩ := h
  refine pf_X10_70 C o4 (fun e => by cases e) dX10_init_171 ?_
  refine WA.nmM (fun M5 eM5 => ?_)
  have h := h _ eM5
  refine s_aload_n C dX10_init_174 rfl ?_
  refine s_bipush C dX10_init_175 ⟨rfl, by decide, by decide⟩ ?_
  refine na_14 (N := 10) C rfl (by decide) dX10_init_177 ?_
  refine WA.nmW (fun w6 ew6 => ?_)
  have h := h _ ew6
  have k7 : w6.2 (w.1 : Int) = (12, 10) := by rw [ew6]; exact us_ne k2 (Int.ne_of_lt b3)
  have b8 : (w.1 : Int) < (w6.1 : Int) := by have := b3; rw [ew6]; show _ < ((w1.1 + 1 : Nat) : Int); omega
  obtain ⟨o9, h⟩ := h
  have k10 : w6.2 l0 = (11, 51) := by rw [ew6]; exact us_ne o4 (Int.ne_of_lt o9)
  have b11 : l0 < (w6.1 : Int) := by have := o9; rw [ew6]; show _ < ((w1.1 + 1 : Nat) : Int); omega
  have k12 : w6.2 (w1.1 : Int) = (14, 10) := by rw [ew6]; exact us_new _ _ _ _
  have b13 : (w1.1 : Int) < (w6.1 : Int) := by rw [ew6]; show _ < ((w1.1 + 1 : Nat) : Int); omega
  refine pf_X10_73 C k10 (fun e => by cases e) dX10_init_179 ?_
  refine WA.nmM (fun M14 eM14 => ?_)
  have h := h _ eM14
  refine s_aload_n C dX10_init_182 rfl ?_
  refine s_bipush C dX10_init_183 ⟨rfl, by decide, by decide⟩ ?_
  refine na_14 (N := 10) C rfl (by decide) dX10_init_185 ?_
  refine WA.nmW (fun w15 ew15 => ?_)
  have h := h _ ew15
  have k16 : w15.2 (w.1 : Int) = (12, 10) := by rw [ew15]; exact us_ne k7 (Int.ne_of_lt b8)
  have b17 : (w.1 : Int) < (w15.1 : Int) := by have := b8; rw [ew15]; show _ < ((w6.1 + 1 : Nat) : Int); omega
  have k18 : w15.2 l0 = (11, 51) := by rw [ew15]; exact us_ne k10 (Int.ne_of_lt b11)
  have b19 : l0 < (w15.1 : Int) := by have := b11; rw [ew15]; show _ < ((w6.1 + 1 : Nat) : Int); omega
  have k20 : w15.2 (w1.1 : Int) = (14, 10) := by rw [ew15]; exact us_ne k12 (Int.ne_of_lt b13)
  have b21 : (w1.1 : Int) < (w15.1 : Int) := by have := b13; rw [ew15]; show _ < ((w6.1 + 1 : Nat) : Int); omega
  have k22 : w15.2 (w6.1 : Int) = (14, 10) := by rw [ew15]; exact us_new _ _ _ _
  have b23 : (w6.1 : Int) < (w15.1 : Int) := by rw [ew15]; show _ < ((w6.1 + 1 : Nat) : Int); omega
  refine pf_X10_77 C k18 (fun e => by cases e) dX10_init_187 ?_
  refine WA.nmM (fun M24 eM24 => ?_)
  have h := h _ eM24
  refine s_aload_n C dX10_init_190 rfl ?_
  refine s_bipush C dX10_init_191 ⟨rfl, by decide, by decide⟩ ?_
  refine na_14 (N := 10) C rfl (by decide) dX10_init_193 ?_
  refine WA.nmW (fun w25 ew25 => ?_)
  have h := h _ ew25
  have k26 : w25.2 (w.1 : Int) = (12, 10) := by rw [ew25]; exact us_ne k16 (Int.ne_of_lt b17)
  have b27 : (w.1 : Int) < (w25.1 : Int) := by have := b17; rw [ew25]; show _ < ((w15.1 + 1 : Nat) : Int); omega
  have k28 : w25.2 l0 = (11, 51) := by rw [ew25]; exact us_ne k18 (Int.ne_of_lt b19)
  have b29 : l0 < (w25.1 : Int) := by have := b19; rw [ew25]; show _ < ((w15.1 + 1 : Nat) : Int); omega
  have k30 : w25.2 (w1.1 : Int) = (14, 10) := by rw [ew25]; exact us_ne k20 (Int.ne_of_lt b21)
  have b31 : (w1.1 : Int) < (w25.1 : Int) := by have := b21; rw [ew25]; show _ < ((w15.1 + 1 : Nat) : Int); omega
  have k32 : w25.2 (w6.1 : Int) = (14, 10) := by rw [ew25]; exact us_ne k22 (Int.ne_of_lt b23)
  have b33 : (w6.1 : Int) < (w25.1 : Int) := by have := b23; rw [ew25]; show _ < ((w15.1 + 1 : Nat) : Int); omega
  have k34 : w25.2 (w15.1 : Int) = (14, 10) := by rw [ew25]; exact us_new _ _ _ _
  have b35 : (w15.1 : Int) < (w25.1 : Int) := by rw [ew25]; show _ < ((w15.1 + 1 : Nat) : Int); omega
  refine pf_X10_80 C k28 (fun e => by cases e) dX10_init_195 ?_
  refine WA.nmM (fun M36 eM36 => ?_)
  have h := h _ eM36
  exact h
set_option maxHeartbeats 4000000 in
set_option maxRecDepth 100000 in
theorem B_X10_init_198 {G : GP} {X : BX} {P : Int → NS → MM → Prop} {l0 : Int} {rc rs : Nat} {w : NS} {M : MM} (C : CX_X10_init G X) (h : ∀ w1 : NS, w1 = (w.1 + 1, us w.2 w.1 14 10) → (w1.2 l0 = (11, 51)) ∧ ∀ M5 : MM, M5 = (up M l0 29 (w.1 : Int)) → ∀ w6 : NS, w6 = (w1.1 + 1, us w1.2 w1.1 12 61) → (l0 < (w1.1 : Int)) ∧ ∀ M14 : MM, M14 = (up M5 l0 31 (w1.1 : Int)) → ∀ w15 : NS, w15 = (w6.1 + 1, us w6.2 w6.1 14 24) → ∀ M24 : MM, M24 = (up M14 l0 32 (w6.1 : Int)) → ∀ w25 : NS, w25 = (w15.1 + 1, us w15.2 w15.1 14 576) → ∀ M36 : MM, M36 = (up M24 l0 33 (w15.1 : Int)) → A_X10_init_231 G X P l0 (rc + 0) (rs + 0) w25 M36) : A_X10_init_198 G X P l0 (rc + 4) (rs + 671) w M := by
  unfold A_X10_init_198
  refine s_aload_n C dX10_init_198 rfl ?_
  refine s_bipush C dX10_init_199 ⟨rfl, by decide, by decide⟩ ?_
  refine na_14 (N := 10) C rfl (by decide) dX10_init_201 ?_
  refine WA.nmW (fun w1 ew1 => ?_)
  have h := h _ ew1
  have k2 : w1.2 (w.1 : Int) = (14, 10) := by rw [ew1]; exact us_new _ _ _ _
  have b3 : (w.1 : Int) < (w1.1 : Int) := by rw [ew1]; show _ < ((w.1 + 1 : Nat) : Int); omega
  obtain ⟨o4, h⟩ := h
  refine pf_X10_83 C o4 (fun e => by cases e) dX10_init_203 ?_
  refine WA.nmM (fun M5 eM5 => ?_)
  have h := h _ eM5
  refine s_aload_n C dX10_init_206 rfl ?_
  refine s_bipush C dX10_init_207 ⟨rfl, by decide, by decide⟩ ?_
  refine na_12 (N := 61) C rfl (by decide) dX10_init_209 ?_
  refine WA.nmW (fun w6 ew6 => ?_)
  have h := h _ ew6
  have k7 : w6.2 (w.1 : Int) = (14, 10) := by rw [ew6]; exact us_ne k2 (Int.ne_of_lt b3)
  have b8 : (w.1 : Int) < (w6.1 : Int) := by have := b3; rw [ew6]; show _ < ((w1.1 + 1 : Nat) : Int); omega
  obtain ⟨o9, h⟩ := h
  have k10 : w6.2 l0 = (11, 51) := by rw [ew6]; exact us_ne o4 (Int.ne_of_lt o9)
  have b11 : l0 < (w6.1 : Int) := by have := o9; rw [ew6]; show _ < ((w1.1 + 1 : Nat) : Int); omega
  have k12 : w6.2 (w1.1 : Int) = (12, 61) := by rw [ew6]; exact us_new _ _ _ _
  have b13 : (w1.1 : Int) < (w6.1 : Int) := by rw [ew6]; show _ < ((w1.1 + 1 : Nat) : Int); omega
  refine pf_X10_86 C k10 (fun e => by cases e) dX10_init_211 ?_
  refine WA.nmM (fun M14 eM14 => ?_)
  have h := h _ eM14
  refine s_aload_n C dX10_init_214 rfl ?_
  refine s_bipush C dX10_init_215 ⟨rfl, by decide, by decide⟩ ?_
  refine na_14 (N := 24) C rfl (by decide) dX10_init_217 ?_
  refine WA.nmW (fun w15 ew15 => ?_)
  have h := h _ ew15
  have k16 : w15.2 (w.1 : Int) = (14, 10) := by rw [ew15]; exact us_ne k7 (Int.ne_of_lt b8)
  have b17 : (w.1 : Int) < (w15.1 : Int) := by have := b8; rw [ew15]; show _ < ((w6.1 + 1 : Nat) : Int); omega
  have k18 : w15.2 l0 = (11, 51) := by rw [ew15]; exact us_ne k10 (Int.ne_of_lt b11)
  have b19 : l0 < (w15.1 : Int) := by have := b11; rw [ew15]; show _ < ((w6.1 + 1 : Nat) : Int); omega
  have k20 : w15.2 (w1.1 : Int) = (12, 61) := by rw [ew15]; exact us_ne k12 (Int.ne_of_lt b13)
  have b21 : (w1.1 : Int) < (w15.1 : Int) := by have := b13; rw [ew15]; show _ < ((w6.1 + 1 : Nat) : Int); omega
  have k22 : w15.2 (w6.1 : Int) = (14, 24) := by rw [ew15]; exact us_new _ _ _ _
  have b23 : (w6.1 : Int) < (w15.1 : Int) := by rw [ew15]; show _ < ((w6.1 + 1 : Nat) : Int); omega
  refine pf_X10_89 C k18 (fun e => by cases e) dX10_init_219 ?_
  refine WA.nmM (fun M24 eM24 => ?_)
  have h := h _ eM24
  refine s_aload_n C dX10_init_222 rfl ?_
  refine s_sipush C dX10_init_223 ⟨rfl, by decide, by decide⟩ ?_
  refine na_14 (N := 576) C rfl (by decide) dX10_init_226 ?_
  refine WA.nmW (fun w25 ew25 => ?_)
  have h := h _ ew25
  have k26 : w25.2 (w.1 : Int) = (14, 10) := by rw [ew25]; exact us_ne k16 (Int.ne_of_lt b17)
  have b27 : (w.1 : Int) < (w25.1 : Int) := by have := b17; rw [ew25]; show _ < ((w15.1 + 1 : Nat) : Int); omega
  have k28 : w25.2 l0 = (11, 51) := by rw [ew25]; exact us_ne k18 (Int.ne_of_lt b19)
  have b29 : l0 < (w25.1 : Int) := by have := b19; rw [ew25]; show _ < ((w15.1 + 1 : Nat) : Int); omega
  have k30 : w25.2 (w1.1 : Int) = (12, 61) := by rw [ew25]; exact us_ne k20 (Int.ne_of_lt b21)
  have b31 : (w1.1 : Int) < (w25.1 : Int) := by have := b21; rw [ew25]; show _ < ((w15.1 + 1 : Nat) : Int); omega
  have k32 : w25.2 (w6.1 : Int) = (14, 24) := by rw [ew25]; exact us_ne k22 (Int.ne_of_lt b23)
  have b33 : (w6.1 : Int) < (w25.1 : Int) := by have := b23; rw [ew25]; show _ < ((w15.1 + 1 : Nat) : Int); omega
  have k34 : w25.2 (w15.1 : Int) = (14, 576) := by rw [ew25]; exact us_new _ _ _ _
  have b35 : (w15.1 : Int) < (w25.1 : Int) := by rw [ew25]; show _ < ((w15.1 + 1 : Nat) : Int); omega
  refine pf_X10_92 C k28 (fun e => by cases e) dX10_init_228 ?_
  refine WA.nmM (fun M36 eM36 => ?_)
  have h := h _ eM36
  exact h
set_option maxHeartbeats 4000000 in
set_option maxRecDepth 100000 in
theorem B_X10_init_231 {G : GP} {X : BX} {P : Int → NS → MM → Prop} {l0 : Int} {rc rs : Nat} {w : NS} {M : MM} (C : CX_X10_init G X) (h : ∀ w1 : NS, w1 = (w.1 + 1, us w.2 w.1 12 24) → (w1.2 l0 = (11, 51)) ∧ ∀ M5 : MM, M5 = (up M l0 35 (w.1 : Int)) → ∀ w6 : NS, w6 = (w1.1 + 1, us w1.2 w1.1 14 24) → (l0 < (w1.1 : Int)) ∧ ∀ M14 : MM, M14 = (up M5 l0 37 (w1.1 : Int)) → ∀ w15 : NS, w15 = (w6.1 + 1, us w6.2 w6.1 12 4) → ∀ M24 : MM, M24 = (up M14 l0 38 (w6.1 : Int)) → ∀ w25 : NS, w25 = (w15.1 + 1, us w15.2 w15.1 12 400) → ∀ M36 : MM, M36 = (up M24 l0 39 (w15.1 : Int)) → A_X10_init_263 G X P l0 (rc + 0) (rs + 0) w25 M36) : A_X10_init_231 G X P l0 (rc + 4) (rs + 452) w M := by
  unfold A_X10_init_231
  refine s_aload_n C dX10_init_231 rfl ?_
  refine s_bipush C dX10_init_232 ⟨rfl, by decide, by decide⟩ ?_
  refine na_12 (N := 24) C rfl (by decide) dX10_init_234 ?_
  refine WA.nmW (fun w1 ew1 => ?_)
  have h := h _ ew1
  have k2 : w1.2 (w.1 : Int) = (12, 24) := by rw [ew1]; exact us_new _ _ _ _
  have b3 : (w.1 : Int) < (w1.1 : Int) := by rw [ew1]; show _ < ((w.1 + 1 : Nat) : Int); omega
  obtain ⟨o4, h⟩ := h
  refine pf_X10_95 C o4 (fun e => by cases e) dX10_init_236 ?_
  refine WA.nmM (fun M5 eM5 => ?_)
  have h := h _ eM5
  refine s_aload_n C dX10_init_239 rfl ?_
  refine s_bipush C dX10_init_240 ⟨rfl, by decide, by decide⟩ ?_
  refine na_14 (N := 24) C rfl (by decide) dX10_init_242 ?_
  refine WA.nmW (fun w6 ew6 => ?_)
  have h := h _ ew6
  have k7 : w6.2 (w.1 : Int) = (12, 24) := by rw [ew6]; exact us_ne k2 (Int.ne_of_lt b3)
  have b8 : (w.1 : Int) < (w6.1 : Int) := by have := b3; rw [ew6]; show _ < ((w1.1 + 1 : Nat) : Int); omega
  obtain ⟨o9, h⟩ := h
  have k10 : w6.2 l0 = (11, 51) := by rw [ew6]; exact us_ne o4 (Int.ne_of_lt o9)
  have b11 : l0 < (w6.1 : Int) := by have := o9; rw [ew6]; show _ < ((w1.1 + 1 : Nat) : Int); omega
  have k12 : w6.2 (w1.1 : Int) = (14, 24) := by rw [ew6]; exact us_new _ _ _ _
  have b13 : (w1.1 : Int) < (w6.1 : Int) := by rw [ew6]; show _ < ((w1.1 + 1 : Nat) : Int); omega
  refine pf_X10_98 C k10 (fun e => by cases e) dX10_init_244 ?_
  refine WA.nmM (fun M14 eM14 => ?_)
  have h := h _ eM14
  refine s_aload_n C dX10_init_247 rfl ?_
  refine s_iconst C dX10_init_248 (by decide) ?_
  refine na_12 (N := 4) C rfl (by decide) dX10_init_249 ?_
  refine WA.nmW (fun w15 ew15 => ?_)
  have h := h _ ew15
  have k16 : w15.2 (w.1 : Int) = (12, 24) := by rw [ew15]; exact us_ne k7 (Int.ne_of_lt b8)
  have b17 : (w.1 : Int) < (w15.1 : Int) := by have := b8; rw [ew15]; show _ < ((w6.1 + 1 : Nat) : Int); omega
  have k18 : w15.2 l0 = (11, 51) := by rw [ew15]; exact us_ne k10 (Int.ne_of_lt b11)
  have b19 : l0 < (w15.1 : Int) := by have := b11; rw [ew15]; show _ < ((w6.1 + 1 : Nat) : Int); omega
  have k20 : w15.2 (w1.1 : Int) = (14, 24) := by rw [ew15]; exact us_ne k12 (Int.ne_of_lt b13)
  have b21 : (w1.1 : Int) < (w15.1 : Int) := by have := b13; rw [ew15]; show _ < ((w6.1 + 1 : Nat) : Int); omega
  have k22 : w15.2 (w6.1 : Int) = (12, 4) := by rw [ew15]; exact us_new _ _ _ _
  have b23 : (w6.1 : Int) < (w15.1 : Int) := by rw [ew15]; show _ < ((w6.1 + 1 : Nat) : Int); omega
  refine pf_X10_101 C k18 (fun e => by cases e) dX10_init_251 ?_
  refine WA.nmM (fun M24 eM24 => ?_)
  have h := h _ eM24
  refine s_aload_n C dX10_init_254 rfl ?_
  refine s_sipush C dX10_init_255 ⟨rfl, by decide, by decide⟩ ?_
  refine na_12 (N := 400) C rfl (by decide) dX10_init_258 ?_
  refine WA.nmW (fun w25 ew25 => ?_)
  have h := h _ ew25
  have k26 : w25.2 (w.1 : Int) = (12, 24) := by rw [ew25]; exact us_ne k16 (Int.ne_of_lt b17)
  have b27 : (w.1 : Int) < (w25.1 : Int) := by have := b17; rw [ew25]; show _ < ((w15.1 + 1 : Nat) : Int); omega
  have k28 : w25.2 l0 = (11, 51) := by rw [ew25]; exact us_ne k18 (Int.ne_of_lt b19)
  have b29 : l0 < (w25.1 : Int) := by have := b19; rw [ew25]; show _ < ((w15.1 + 1 : Nat) : Int); omega
  have k30 : w25.2 (w1.1 : Int) = (14, 24) := by rw [ew25]; exact us_ne k20 (Int.ne_of_lt b21)
  have b31 : (w1.1 : Int) < (w25.1 : Int) := by have := b21; rw [ew25]; show _ < ((w15.1 + 1 : Nat) : Int); omega
  have k32 : w25.2 (w6.1 : Int) = (12, 4) := by rw [ew25]; exact us_ne k22 (Int.ne_of_lt b23)
  have b33 : (w6.1 : Int) < (w25.1 : Int) := by have := b23; rw [ew25]; show _ < ((w15.1 + 1 : Nat) : Int); omega
  have k34 : w25.2 (w15.1 : Int) = (12, 400) := by rw [ew25]; exact us_new _ _ _ _
  have b35 : (w15.1 : Int) < (w25.1 : Int) := by rw [ew25]; show _ < ((w15.1 + 1 : Nat) : Int); omega
  refine pf_X10_104 C k28 (fun e => by cases e) dX10_init_260 ?_
  refine WA.nmM (fun M36 eM36 => ?_)
  have h := h _ eM36
  exact h
set_option maxHeartbeats 4000000 in
set_option maxRecDepth 100000 in
theorem B_X10_init_263 {G : GP} {X : BX} {P : Int → NS → MM → Prop} {l0 : Int} {rc rs : Nat} {w : NS} {M : MM} (C : CX_X10_init G X) (h : ∀ w1 : NS, w1 = (w.1 + 1, us w.2 w.1 12 9) → (w1.2 l0 = (11, 51)) ∧ ∀ M5 : MM, M5 = (up M l0 40 (w.1 : Int)) → ∀ w6 : NS, w6 = (w1.1 + 1, us w1.2 w1.1 12 9) → (l0 < (w1.1 : Int)) ∧ ∀ M14 : MM, M14 = (up M5 l0 41 (w1.1 : Int)) → ∀ w15 : NS, w15 = (w6.1 + 1, us w6.2 w6.1 14 2560) → ∀ M24 : MM, M24 = (up M14 l0 43 (w6.1 : Int)) → ∀ w25 : NS, w25 = (w15.1 + 1, us w15.2 w15.1 12 4) → ∀ M36 : MM, M36 = (up M24 l0 44 (w15.1 : Int)) → A_X10_init_295 G X P l0 (rc + 0) (rs + 0) w25 M36) : A_X10_init_263 G X P l0 (rc + 4) (rs + 2582) w M := by
  unfold A_X10_init_263
  refine s_aload_n C dX10_init_263 rfl ?_
  refine s_bipush C dX10_init_264 ⟨rfl, by decide, by decide⟩ ?_
  refine na_12 (N := 9) C rfl (by decide) dX10_init_266 ?_
  refine WA.nmW (fun w1 ew1 => ?_)
  have h := h _ ew1
  have k2 : w1.2 (w.1 : Int) = (12, 9) := by rw [ew1]; exact us_new _ _ _ _
  have b3 : (w.1 : Int) < (w1.1 : Int) := by rw [ew1]; show _ < ((w.1 + 1 : Nat) : Int); omega
  obtain ⟨o4, h⟩ := h
  refine pf_X10_107 C o4 (fun e => by cases e) dX10_init_268 ?_
  refine WA.nmM (fun M5 eM5 => ?_)
  have h := h _ eM5
  refine s_aload_n C dX10_init_271 rfl ?_
  refine s_bipush C dX10_init_272 ⟨rfl, by decide, by decide⟩ ?_
  refine na_12 (N := 9) C rfl (by decide) dX10_init_274 ?_
  refine WA.nmW (fun w6 ew6 => ?_)
  have h := h _ ew6
  have k7 : w6.2 (w.1 : Int) = (12, 9) := by rw [ew6]; exact us_ne k2 (Int.ne_of_lt b3)
  have b8 : (w.1 : Int) < (w6.1 : Int) := by have := b3; rw [ew6]; show _ < ((w1.1 + 1 : Nat) : Int); omega
  obtain ⟨o9, h⟩ := h
  have k10 : w6.2 l0 = (11, 51) := by rw [ew6]; exact us_ne o4 (Int.ne_of_lt o9)
  have b11 : l0 < (w6.1 : Int) := by have := o9; rw [ew6]; show _ < ((w1.1 + 1 : Nat) : Int); omega
  have k12 : w6.2 (w1.1 : Int) = (12, 9) := by rw [ew6]; exact us_new _ _ _ _
  have b13 : (w1.1 : Int) < (w6.1 : Int) := by rw [ew6]; show _ < ((w1.1 + 1 : Nat) : Int); omega
  refine pf_X10_110 C k10 (fun e => by cases e) dX10_init_276 ?_
  refine WA.nmM (fun M14 eM14 => ?_)
  have h := h _ eM14
  refine s_aload_n C dX10_init_279 rfl ?_
  refine s_sipush C dX10_init_280 ⟨rfl, by decide, by decide⟩ ?_
  refine na_14 (N := 2560) C rfl (by decide) dX10_init_283 ?_
  refine WA.nmW (fun w15 ew15 => ?_)
  have h := h _ ew15
  have k16 : w15.2 (w.1 : Int) = (12, 9) := by rw [ew15]; exact us_ne k7 (Int.ne_of_lt b8)
  have b17 : (w.1 : Int) < (w15.1 : Int) := by have := b8; rw [ew15]; show _ < ((w6.1 + 1 : Nat) : Int); omega
  have k18 : w15.2 l0 = (11, 51) := by rw [ew15]; exact us_ne k10 (Int.ne_of_lt b11)
  have b19 : l0 < (w15.1 : Int) := by have := b11; rw [ew15]; show _ < ((w6.1 + 1 : Nat) : Int); omega
  have k20 : w15.2 (w1.1 : Int) = (12, 9) := by rw [ew15]; exact us_ne k12 (Int.ne_of_lt b13)
  have b21 : (w1.1 : Int) < (w15.1 : Int) := by have := b13; rw [ew15]; show _ < ((w6.1 + 1 : Nat) : Int); omega
  have k22 : w15.2 (w6.1 : Int) = (14, 2560) := by rw [ew15]; exact us_new _ _ _ _
  have b23 : (w6.1 : Int) < (w15.1 : Int) := by rw [ew15]; show _ < ((w6.1 + 1 : Nat) : Int); omega
  refine pf_X10_113 C k18 (fun e => by cases e) dX10_init_285 ?_
  refine WA.nmM (fun M24 eM24 => ?_)
  have h := h _ eM24
  refine s_aload_n C dX10_init_288 rfl ?_
  refine s_iconst C dX10_init_289 (by decide) ?_
  refine na_12 (N := 4) C rfl (by decide) dX10_init_290 ?_
  refine WA.nmW (fun w25 ew25 => ?_)
  have h := h _ ew25
  have k26 : w25.2 (w.1 : Int) = (12, 9) := by rw [ew25]; exact us_ne k16 (Int.ne_of_lt b17)
  have b27 : (w.1 : Int) < (w25.1 : Int) := by have := b17; rw [ew25]; show _ < ((w15.1 + 1 : Nat) : Int); omega
  have k28 : w25.2 l0 = (11, 51) := by rw [ew25]; exact us_ne k18 (Int.ne_of_lt b19)
  have b29 : l0 < (w25.1 : Int) := by have := b19; rw [ew25]; show _ < ((w15.1 + 1 : Nat) : Int); omega
  have k30 : w25.2 (w1.1 : Int) = (12, 9) := by rw [ew25]; exact us_ne k20 (Int.ne_of_lt b21)
  have b31 : (w1.1 : Int) < (w25.1 : Int) := by have := b21; rw [ew25]; show _ < ((w15.1 + 1 : Nat) : Int); omega
  have k32 : w25.2 (w6.1 : Int) = (14, 2560) := by rw [ew25]; exact us_ne k22 (Int.ne_of_lt b23)
  have b33 : (w6.1 : Int) < (w25.1 : Int) := by have := b23; rw [ew25]; show _ < ((w15.1 + 1 : Nat) : Int); omega
  have k34 : w25.2 (w15.1 : Int) = (12, 4) := by rw [ew25]; exact us_new _ _ _ _
  have b35 : (w15.1 : Int) < (w25.1 : Int) := by rw [ew25]; show _ < ((w15.1 + 1 : Nat) : Int); omega
  refine pf_X10_116 C k28 (fun e => by cases e) dX10_init_292 ?_
  refine WA.nmM (fun M36 eM36 => ?_)
  have h := h _ eM36
  exact h
set_option maxHeartbeats 4000000 in
set_option maxRecDepth 100000 in
theorem B_X10_init_295 {G : GP} {X : BX} {P : Int → NS → MM → Prop} {l0 : Int} {rc rs : Nat} {w : NS} {M : MM} (C : CX_X10_init G X) (h : ∀ w1 : NS, w1 = (w.1 + 1, us w.2 w.1 12 8) → (w1.2 l0 = (11, 51)) ∧ ∀ M5 : MM, M5 = (up M l0 45 (w.1 : Int)) → ∀ w6 : NS, w6 = (w1.1 + 1, us w1.2 w1.1 12 40) → (l0 < (w1.1 : Int)) ∧ ∀ M14 : MM, M14 = (up M5 l0 46 (w1.1 : Int)) → ∀ w15 : NS, w15 = (w6.1 + 1, us w6.2 w6.1 12 8) → ∀ M24 : MM, M24 = (up M14 l0 47 (w6.1 : Int)) → ∀ w25 : NS, w25 = (w15.1 + 1, us w15.2 w15.1 12 8) → ∀ M36 : MM, M36 = (up M24 l0 48 (w15.1 : Int)) → A_X10_init_327 G X P l0 (rc + 0) (rs + 0) w25 M36) : A_X10_init_295 G X P l0 (rc + 4) (rs + 64) w M := by
  unfold A_X10_init_295
  refine s_aload_n C dX10_init_295 rfl ?_
  refine s_bipush C dX10_init_296 ⟨rfl, by decide, by decide⟩ ?_
  refine na_12 (N := 8) C rfl (by decide) dX10_init_298 ?_
  refine WA.nmW (fun w1 ew1 => ?_)
  have h := h _ ew1
  have k2 : w1.2 (w.1 : Int) = (12, 8) := by rw [ew1]; exact us_new _ _ _ _
  have b3 : (w.1 : Int) < (w1.1 : Int) := by rw [ew1]; show _ < ((w.1 + 1 : Nat) : Int); omega
  obtain ⟨o4, h⟩ := h
  refine pf_X10_119 C o4 (fun e => by cases e) dX10_init_300 ?_
  refine WA.nmM (fun M5 eM5 => ?_)
  have h := h _ eM5
  refine s_aload_n C dX10_init_303 rfl ?_
  refine s_bipush C dX10_init_304 ⟨rfl, by decide, by decide⟩ ?_
  refine na_12 (N := 40) C rfl (by decide) dX10_init_306 ?_
  refine WA.nmW (fun w6 ew6 => ?_)
  have h := h _ ew6
  have k7 : w6.2 (w.1 : Int) = (12, 8) := by rw [ew6]; exact us_ne k2 (Int.ne_of_lt b3)
  have b8 : (w.1 : Int) < (w6.1 : Int) := by have := b3; rw [ew6]; show _ < ((w1.1 + 1 : Nat) : Int); omega
  obtain ⟨o9, h⟩ := h
  have k10 : w6.2 l0 = (11, 51) := by rw [ew6]; exact us_ne o4 (Int.ne_of_lt o9)
  have b11 : l0 < (w6.1 : Int) := by have := o9; rw [ew6]; show _ < ((w1.1 + 1 : Nat) : Int); omega
  have k12 : w6.2 (w1.1 : Int) = (12, 40) := by rw [ew6]; exact us_new _ _ _ _
  have b13 : (w1.1 : Int) < (w6.1 : Int) := by rw [ew6]; show _ < ((w1.1 + 1 : Nat) : Int); omega
  refine pf_X10_122 C k10 (fun e => by cases e) dX10_init_308 ?_
  refine WA.nmM (fun M14 eM14 => ?_)
  have h := h _ eM14
  refine s_aload_n C dX10_init_311 rfl ?_
  refine s_bipush C dX10_init_312 ⟨rfl, by decide, by decide⟩ ?_
  refine na_12 (N := 8) C rfl (by decide) dX10_init_314 ?_
  refine WA.nmW (fun w15 ew15 => ?_)
  have h := h _ ew15
  have k16 : w15.2 (w.1 : Int) = (12, 8) := by rw [ew15]; exact us_ne k7 (Int.ne_of_lt b8)
  have b17 : (w.1 : Int) < (w15.1 : Int) := by have := b8; rw [ew15]; show _ < ((w6.1 + 1 : Nat) : Int); omega
  have k18 : w15.2 l0 = (11, 51) := by rw [ew15]; exact us_ne k10 (Int.ne_of_lt b11)
  have b19 : l0 < (w15.1 : Int) := by have := b11; rw [ew15]; show _ < ((w6.1 + 1 : Nat) : Int); omega
  have k20 : w15.2 (w1.1 : Int) = (12, 40) := by rw [ew15]; exact us_ne k12 (Int.ne_of_lt b13)
  have b21 : (w1.1 : Int) < (w15.1 : Int) := by have := b13; rw [ew15]; show _ < ((w6.1 + 1 : Nat) : Int); omega
  have k22 : w15.2 (w6.1 : Int) = (12, 8) := by rw [ew15]; exact us_new _ _ _ _
  have b23 : (w6.1 : Int) < (w15.1 : Int) := by rw [ew15]; show _ < ((w6.1 + 1 : Nat) : Int); omega
  refine pf_X10_125 C k18 (fun e => by cases e) dX10_init_316 ?_
  refine WA.nmM (fun M24 eM24 => ?_)
  have h := h _ eM24
  refine s_aload_n C dX10_init_319 rfl ?_
  refine s_bipush C dX10_init_320 ⟨rfl, by decide, by decide⟩ ?_
  refine na_12 (N := 8) C rfl (by decide) dX10_init_322 ?_
  refine WA.nmW (fun w25 ew25 => ?_)
  have h := h _ ew25
  have k26 : w25.2 (w.1 : Int) = (12, 8) := by rw [ew25]; exact us_ne k16 (Int.ne_of_lt b17)
  have b27 : (w.1 : Int) < (w25.1 : Int) := by have := b17; rw [ew25]; show _ < ((w15.1 + 1 : Nat) : Int); omega
  have k28 : w25.2 l0 = (11, 51) := by rw [ew25]; exact us_ne k18 (Int.ne_of_lt b19)
  have b29 : l0 < (w25.1 : Int) := by have := b19; rw [ew25]; show _ < ((w15.1 + 1 : Nat) : Int); omega
  have k30 : w25.2 (w1.1 : Int) = (12, 40) := by rw [ew25]; exact us_ne k20 (Int.ne_of_lt b21)
  have b31 : (w1.1 : Int) < (w25.1 : Int) := by have := b21; rw [ew25]; show _ < ((w15.1 + 1 : Nat) : Int); omega
  have k32 : w25.2 (w6.1 : Int) = (12, 8) := by rw [ew25]; exact us_ne k22 (Int.ne_of_lt b23)
  have b33 : (w6.1 : Int) < (w25.1 : Int) := by have := b23; rw [ew25]; show _ < ((w15.1 + 1 : Nat) : Int); omega
  have k34 : w25.2 (w15.1 : Int) = (12, 8) := by rw [ew25]; exact us_new _ _ _ _
  have b35 : (w15.1 : Int) < (w25.1 : Int) := by rw [ew25]; show _ < ((w15.1 + 1 : Nat) : Int); omega
  refine pf_X10_128 C k28 (fun e => by cases e) dX10_init_324 ?_
  refine WA.nmM (fun M36 eM36 => ?_)
  have h := h _ eM36
  exact h
set_option maxHeartbeats 4000000 in
set_option maxRecDepth 100000 in
theorem B_X10_init_327 {G : GP} {X : BX} {P : Int → NS → MM → Prop} {l0 : Int} {rc rs : Nat} {w : NS} {M : MM} (C : CX_X10_init G X) (h : ∀ w1 : NS, w1 = (w.1 + 1, us w.2 w.1 12 5) → (w1.2 l0 = (11, 51)) ∧ ∀ M5 : MM, M5 = (up M l0 49 (w.1 : Int)) → ∀ w6 : NS, w6 = (w1.1 + 1, us w1.2 w1.1 12 6) → (l0 < (w1.1 : Int)) ∧ ∀ M14 : MM, M14 = (up M5 l0 50 (w1.1 : Int)) → A_X10_init_344 G X P l0 0 (rc + 0) (rs + 0) w6 M14) : A_X10_init_327 G X P l0 (rc + 2) (rs + 11) w M := by
  unfold A_X10_init_327
  refine s_aload_n C dX10_init_327 rfl ?_
  refine s_iconst C dX10_init_328 (by decide) ?_
  refine na_12 (N := 5) C rfl (by decide) dX10_init_329 ?_
  refine WA.nmW (fun w1 ew1 => ?_)
  have h := h _ ew1
  have k2 : w1.2 (w.1 : Int) = (12, 5) := by rw [ew1]; exact us_new _ _ _ _
  have b3 : (w.1 : Int) < (w1.1 : Int) := by rw [ew1]; show _ < ((w.1 + 1 : Nat) : Int); omega
  obtain ⟨o4, h⟩ := h
  refine pf_X10_131 C o4 (fun e => by cases e) dX10_init_331 ?_
  refine WA.nmM (fun M5 eM5 => ?_)
  have h := h _ eM5
  refine s_aload_n C dX10_init_334 rfl ?_
  refine s_bipush C dX10_init_335 ⟨rfl, by decide, by decide⟩ ?_
  refine na_12 (N := 6) C rfl (by decide) dX10_init_337 ?_
  refine WA.nmW (fun w6 ew6 => ?_)
  have h := h _ ew6
  have k7 : w6.2 (w.1 : Int) = (12, 5) := by rw [ew6]; exact us_ne k2 (Int.ne_of_lt b3)
  have b8 : (w.1 : Int) < (w6.1 : Int) := by have := b3; rw [ew6]; show _ < ((w1.1 + 1 : Nat) : Int); omega
  obtain ⟨o9, h⟩ := h
  have k10 : w6.2 l0 = (11, 51) := by rw [ew6]; exact us_ne o4 (Int.ne_of_lt o9)
  have b11 : l0 < (w6.1 : Int) := by have := o9; rw [ew6]; show _ < ((w1.1 + 1 : Nat) : Int); omega
  have k12 : w6.2 (w1.1 : Int) = (12, 6) := by rw [ew6]; exact us_new _ _ _ _
  have b13 : (w1.1 : Int) < (w6.1 : Int) := by rw [ew6]; show _ < ((w1.1 + 1 : Nat) : Int); omega
  refine pf_X10_134 C k10 (fun e => by cases e) dX10_init_339 ?_
  refine WA.nmM (fun M14 eM14 => ?_)
  have h := h _ eM14
  refine s_iconst C dX10_init_342 (by decide) ?_
  refine s_istore_n (ls' := [(2, l0), (0, 0)]) C dX10_init_343 (by decide) rfl rfl ?_
  exact h
set_option maxHeartbeats 4000000 in
set_option maxRecDepth 100000 in
theorem B_X10_init_344 {G : GP} {X : BX} {P : Int → NS → MM → Prop} {l0 : Int} {l1 : Int} {rc rs : Nat} {w : NS} {M : MM} (C : CX_X10_init G X) (h : (((480 ≤ l1) → (w.2 l0 = (11, 51)) ∧ (w.2 (M l0 13) = (12, 9)) ∧ ∀ M3 : MM, M3 = (up M (M l0 13) 0 20) → (w.2 (M3 l0 13) = (12, 9)) ∧ ∀ M5 : MM, M5 = (up M3 (M3 l0 13) 1 5) → (w.2 (M5 l0 13) = (12, 9)) ∧ ∀ M7 : MM, M7 = (up M5 (M5 l0 13) 2 10) → (w.2 (M7 l0 13) = (12, 9)) ∧ ∀ M9 : MM, M9 = (up M7 (M7 l0 13) 3 500) → (w.2 (M9 l0 13) = (12, 9)) ∧ ∀ M11 : MM, M11 = (up M9 (M9 l0 13) 4 100) → (w.2 (M11 l0 13) = (12, 9)) ∧ ∀ M13 : MM, M13 = (up M11 (M11 l0 13) 5 3) → (w.2 (M13 l0 13) = (12, 9)) ∧ ∀ M15 : MM, M15 = (up M13 (M13 l0 13) 6 2) → (w.2 (M15 l0 13) = (12, 9)) ∧ ∀ M17 : MM, M17 = (up M15 (M15 l0 13) 7 1) → A_X10_init_430 G X P l0 0 (rc + 0) (rs + 0) w M17) ∧ ((¬ (480 ≤ l1)) → (w.2 l0 = (11, 51)) ∧ (w.2 (M l0 0) = (12, 480)) ∧ (0 ≤ l1) ∧ (l1 < 480) ∧ ∀ M22 : MM, M22 = (up M (M l0 0) l1 (-6)) → (inR (l1 + 1)) ∧ A_X10_init_344 G X P l0 (l1 + 1) (rc + 0) (rs + 0) w M22))) : A_X10_init_344 G X P l0 l1 (rc + 0) (rs + 0) w M := by
  unfold A_X10_init_344
  refine s_iload_n C dX10_init_344 rfl ?_
  refine s_sipush C dX10_init_345 ⟨rfl, by decide, by decide⟩ ?_
  refine s_icmpge C dX10_init_348 rfl (fun hc => ?_) (fun hc => ?_)
  · have h := h.1 hc
    refine s_aload_n C dX10_init_365 rfl ?_
    obtain ⟨o1, h⟩ := h
    refine gf_X10_43 (v0 := (M l0 13)) C o1 dX10_init_366 rfl ?_
    refine s_iconst C dX10_init_369 (by decide) ?_
    refine s_bipush C dX10_init_370 ⟨rfl, by decide, by decide⟩ ?_
    obtain ⟨o2, h⟩ := h
    refine s_iast C o2 (by decide) (by decide) (fun e => by cases e) dX10_init_372 ?_
    refine WA.nmM (fun M3 eM3 => ?_)
    have h := h _ eM3
    refine s_aload_n C dX10_init_373 rfl ?_
    refine gf_X10_43 (v0 := (M3 l0 13)) C o1 dX10_init_374 rfl ?_
    refine s_iconst C dX10_init_377 (by decide) ?_
    refine s_iconst C dX10_init_378 (by decide) ?_
    obtain ⟨o4, h⟩ := h
    refine s_iast C o4 (by decide) (by decide) (fun e => by cases e) dX10_init_379 ?_
    refine WA.nmM (fun M5 eM5 => ?_)
    have h := h _ eM5
    refine s_aload_n C dX10_init_380 rfl ?_
    refine gf_X10_43 (v0 := (M5 l0 13)) C o1 dX10_init_381 rfl ?_
    refine s_iconst C dX10_init_384 (by decide) ?_
    refine s_bipush C dX10_init_385 ⟨rfl, by decide, by decide⟩ ?_
    obtain ⟨o6, h⟩ := h
    refine s_iast C o6 (by decide) (by decide) (fun e => by cases e) dX10_init_387 ?_
    refine WA.nmM (fun M7 eM7 => ?_)
    have h := h _ eM7
    refine s_aload_n C dX10_init_388 rfl ?_
    refine gf_X10_43 (v0 := (M7 l0 13)) C o1 dX10_init_389 rfl ?_
    refine s_iconst C dX10_init_392 (by decide) ?_
    refine s_sipush C dX10_init_393 ⟨rfl, by decide, by decide⟩ ?_
    obtain ⟨o8, h⟩ := h
    refine s_iast C o8 (by decide) (by decide) (fun e => by cases e) dX10_init_396 ?_
    refine WA.nmM (fun M9 eM9 => ?_)
    have h := h _ eM9
    refine s_aload_n C dX10_init_397 rfl ?_
    refine gf_X10_43 (v0 := (M9 l0 13)) C o1 dX10_init_398 rfl ?_
    refine s_iconst C dX10_init_401 (by decide) ?_
    refine s_bipush C dX10_init_402 ⟨rfl, by decide, by decide⟩ ?_
    obtain ⟨o10, h⟩ := h
    refine s_iast C o10 (by decide) (by decide) (fun e => by cases e) dX10_init_404 ?_
    refine WA.nmM (fun M11 eM11 => ?_)
    have h := h _ eM11
    refine s_aload_n C dX10_init_405 rfl ?_
    refine gf_X10_43 (v0 := (M11 l0 13)) C o1 dX10_init_406 rfl ?_
    refine s_iconst C dX10_init_409 (by decide) ?_
    refine s_iconst C dX10_init_410 (by decide) ?_
    obtain ⟨o12, h⟩ := h
    refine s_iast C o12 (by decide) (by decide) (fun e => by cases e) dX10_init_411 ?_
    refine WA.nmM (fun M13 eM13 => ?_)
    have h := h _ eM13
    refine s_aload_n C dX10_init_412 rfl ?_
    refine gf_X10_43 (v0 := (M13 l0 13)) C o1 dX10_init_413 rfl ?_
    refine s_bipush C dX10_init_416 ⟨rfl, by decide, by decide⟩ ?_
    refine s_iconst C dX10_init_418 (by decide) ?_
    obtain ⟨o14, h⟩ := h
    refine s_iast C o14 (by decide) (by decide) (fun e => by cases e) dX10_init_419 ?_
    refine WA.nmM (fun M15 eM15 => ?_)
    have h := h _ eM15
    refine s_aload_n C dX10_init_420 rfl ?_
    refine gf_X10_43 (v0 := (M15 l0 13)) C o1 dX10_init_421 rfl ?_
    refine s_bipush C dX10_init_424 ⟨rfl, by decide, by decide⟩ ?_
    refine s_iconst C dX10_init_426 (by decide) ?_
    obtain ⟨o16, h⟩ := h
    refine s_iast C o16 (by decide) (by decide) (fun e => by cases e) dX10_init_427 ?_
    refine WA.nmM (fun M17 eM17 => ?_)
    have h := h _ eM17
    refine s_iconst C dX10_init_428 (by decide) ?_
    refine s_istore_n (ls' := [(2, l0), (0, 0)]) C dX10_init_429 (by decide) rfl rfl ?_
    exact h
  · have h := h.2 hc
    refine s_aload_n C dX10_init_351 rfl ?_
    obtain ⟨o18, h⟩ := h
    refine gf_X10_7 (v0 := (M l0 0)) C o18 dX10_init_352 rfl ?_
    refine s_iload_n C dX10_init_355 rfl ?_
    refine s_bipush C dX10_init_356 ⟨rfl, by decide, by decide⟩ ?_
    obtain ⟨o19, h⟩ := h
    obtain ⟨o20, h⟩ := h
    obtain ⟨o21, h⟩ := h
    refine s_iast C o19 o20 o21 (fun e => by cases e) dX10_init_358 ?_
    refine WA.nmM (fun M22 eM22 => ?_)
    have h := h _ eM22
    obtain ⟨o23, h⟩ := h
    refine s_iinc (ls' := [(2, l0), (0, (l1 + 1))]) C dX10_init_359 (by decide) rfl o23 rfl rfl ?_
    refine s_goto C dX10_init_362 rfl ?_
    exact h
set_option maxHeartbeats 4000000 in
set_option maxRecDepth 100000 in
theorem B_X10_init_430 {G : GP} {X : BX} {P : Int → NS → MM → Prop} {l0 : Int} {l1 : Int} {rc rs : Nat} {w : NS} {M : MM} (C : CX_X10_init G X) (h : (((4 ≤ l1) → A_X10_init_451 G X P l0 0 (rc + 0) (rs + 0) w M) ∧ ((¬ (4 ≤ l1)) → (w.2 l0 = (11, 51)) ∧ (w.2 (M l0 38) = (12, 4)) ∧ (0 ≤ l1) ∧ (l1 < 4) ∧ ∀ M5 : MM, M5 = (up M (M l0 38) l1 (-6)) → (inR (l1 + 1)) ∧ A_X10_init_430 G X P l0 (l1 + 1) (rc + 0) (rs + 0) w M5))) : A_X10_init_430 G X P l0 l1 (rc + 0) (rs + 0) w M := by
  unfold A_X10_init_430
  refine s_iload_n C dX10_init_430 rfl ?_
  refine s_iconst C dX10_init_431 (by decide) ?_
  refine s_icmpge C dX10_init_432 rfl (fun hc => ?_) (fun hc => ?_)
  · have h := h.1 hc
    refine s_iconst C dX10_init_449 (by decide) ?_
    refine s_istore_n (ls' := [(2, l0), (0, 0)]) C dX10_init_450 (by decide) rfl rfl ?_
    exact h
  · have h := h.2 hc
    refine s_aload_n C dX10_init_435 rfl ?_
    obtain ⟨o1, h⟩ := h
    refine gf_X10_101 (v0 := (M l0 38)) C o1 dX10_init_436 rfl ?_
    refine s_iload_n C dX10_init_439 rfl ?_
    refine s_bipush C dX10_init_440 ⟨rfl, by decide, by decide⟩ ?_
    obtain ⟨o2, h⟩ := h
    obtain ⟨o3, h⟩ := h
    obtain ⟨o4, h⟩ := h
    refine s_iast C o2 o3 o4 (fun e => by cases e) dX10_init_442 ?_
    refine WA.nmM (fun M5 eM5 => ?_)
    have h := h _ eM5
    obtain ⟨o6, h⟩ := h
    refine s_iinc (ls' := [(2, l0), (0, (l1 + 1))]) C dX10_init_443 (by decide) rfl o6 rfl rfl ?_
    refine s_goto C dX10_init_446 rfl ?_
    exact h
set_option maxHeartbeats 4000000 in
set_option maxRecDepth 100000 in
theorem B_X10_init_451 {G : GP} {X : BX} {P : Int → NS → MM → Prop} {l0 : Int} {l1 : Int} {rc rs : Nat} {w : NS} {M : MM} (C : CX_X10_init G X) (h : (((4 ≤ l1) → P 0 w M) ∧ ((¬ (4 ≤ l1)) → (w.2 l0 = (11, 51)) ∧ (inR (2 * l1)) ∧ (w.2 (M l0 45) = (12, 8)) ∧ (0 ≤ (2 * l1)) ∧ ((2 * l1) < 8) ∧ ∀ M6 : MM, M6 = (up M (M l0 45) (2 * l1) 50) → (inR ((2 * l1) + 1)) ∧ (w.2 (M6 l0 45) = (12, 8)) ∧ (0 ≤ ((2 * l1) + 1)) ∧ (((2 * l1) + 1) < 8) ∧ ∀ M11 : MM, M11 = (up M6 (M6 l0 45) ((2 * l1) + 1) 100) → (inR (l1 + 1)) ∧ A_X10_init_451 G X P l0 (l1 + 1) (rc + 0) (rs + 0) w M11))) : A_X10_init_451 G X P l0 l1 (rc + 0) (rs + 0) w M := by
  unfold A_X10_init_451
  refine s_iload_n C dX10_init_451 rfl ?_
  refine s_iconst C dX10_init_452 (by decide) ?_
  refine s_icmpge C dX10_init_453 rfl (fun hc => ?_) (fun hc => ?_)
  · have h := h.1 hc
    exact s_vreturn C dX10_init_484 h
  · have h := h.2 hc
    refine s_aload_n C dX10_init_456 rfl ?_
    obtain ⟨o1, h⟩ := h
    refine gf_X10_119 (v0 := (M l0 45)) C o1 dX10_init_457 rfl ?_
    refine s_iconst C dX10_init_460 (by decide) ?_
    refine s_iload_n C dX10_init_461 rfl ?_
    obtain ⟨o2, h⟩ := h
    refine s_imul C dX10_init_462 o2 ?_
    refine s_bipush C dX10_init_463 ⟨rfl, by decide, by decide⟩ ?_
    obtain ⟨o3, h⟩ := h
    obtain ⟨o4, h⟩ := h
    obtain ⟨o5, h⟩ := h
    refine s_iast C o3 o4 o5 (fun e => by cases e) dX10_init_465 ?_
    refine WA.nmM (fun M6 eM6 => ?_)
    have h := h _ eM6
    refine s_aload_n C dX10_init_466 rfl ?_
    refine gf_X10_119 (v0 := (M6 l0 45)) C o1 dX10_init_467 rfl ?_
    refine s_iconst C dX10_init_470 (by decide) ?_
    refine s_iload_n C dX10_init_471 rfl ?_
    refine s_imul C dX10_init_472 o2 ?_
    refine s_iconst C dX10_init_473 (by decide) ?_
    obtain ⟨o7, h⟩ := h
    refine s_iadd C dX10_init_474 o7 ?_
    refine s_bipush C dX10_init_475 ⟨rfl, by decide, by decide⟩ ?_
    obtain ⟨o8, h⟩ := h
    obtain ⟨o9, h⟩ := h
    obtain ⟨o10, h⟩ := h
    refine s_iast C o8 o9 o10 (fun e => by cases e) dX10_init_477 ?_
    refine WA.nmM (fun M11 eM11 => ?_)
    have h := h _ eM11
    obtain ⟨o12, h⟩ := h
    refine s_iinc (ls' := [(2, l0), (0, (l1 + 1))]) C dX10_init_478 (by decide) rfl o12 rfl rfl ?_
    refine s_goto C dX10_init_481 rfl ?_
    exact h
theorem E_X10_init {G : GP} {l : Launch} {P : Int → NS → MM → Prop} {l0 : Int} {w : NS} {M : MM} (h : ∀ X : BX, X.2.1 = l → CX_X10_init G X → A_X10_init_0 G X P l0 42 5112 w M) : CT_X10_init G l [(2, l0)] w M P :=
  CT.of RX10 "<init>" (by decide +kernel) rfl rfl rfl (Nat.le_of_ble_eq_true rfl) (fun hr X hX C => h  X hX C)
def A_X10_page_0 (G : GP) (X : BX) (P : Int → NS → MM → Prop) (l1 : Int) (l2 : Int) (w : NS) (M : MM) : Prop := WA true G X (QM G X true 0 P) 3 0 [(2, 41), (0, l1), (0, l2)] [] 0 0 w M
set_option maxHeartbeats 4000000 in
set_option maxRecDepth 100000 in
theorem B_X10_page_0 {G : GP} {X : BX} {P : Int → NS → MM → Prop} {l1 : Int} {l2 : Int} {w : NS} {M : MM} (C : CX_X10_page G X) (h : (((¬ (0 ≤ l1 ∧ l1 ≤ 9)) → P (-2) w M) ∧ (((0 ≤ l1 ∧ l1 ≤ 9)) → ((((0 ≤ l2 ∧ l2 ≤ 99)) → ((((M 41 4) ≠ 8) → (0 ≤ (M 41 4)) ∧ ((M 41 4) < 8) ∧ (inR ((M 41 4) + 1)) ∧ (inR (((M 41 4) + 1) - 1)) ∧ P (((M 41 4) + 1) - 1) w (up (up (up (up M 43 (M 41 4) l1) 44 (M 41 4) l2) 45 (M 41 4) (-6)) 41 4 ((M 41 4) + 1))) ∧ ((¬ ((M 41 4) ≠ 8)) → P (-4) w M))) ∧ ((¬ (0 ≤ l2 ∧ l2 ≤ 99)) → P (-2) w M))))) : A_X10_page_0 G X P l1 l2 w M := by
  unfold A_X10_page_0
  refine s_iload_n C dX10_page_0 rfl ?_
  refine s_i2l C dX10_page_1 ?_
  refine s_lconst (z := 0) C dX10_page_2 ⟨rfl, by decide⟩ ?_
  refine s_ldc2 (z := 9) C dX10_page_3 (mG (wd_929) rfl) ⟨rfl, by decide⟩ ?_
  refine s_callS (av := [(1, l1), (1, 0), (1, 9)]) (rest := []) (mc := 0) (ms := 0) C dX10_page_6 lk_X10_139 rfl rfl (Nat.le_of_ble_eq_true rfl) (by decide) (by decide) (pc_X10_in) (fun z1 wz1 Mz1 hq => ?_)
  obtain ⟨hq1, hq2, hq3⟩ := hq
  have hq2 := hq2.symm
  have hq3 := hq3.symm
  subst hq1 hq2 hq3
  refine s_ifeq C dX10_page_9 rfl (fun hc => ?_) (fun hc => ?_)
  · have h := h.1 (b2i_0.mp hc)
    refine s_bipush C dX10_page_19 ⟨rfl, by decide, by decide⟩ ?_
    exact s_ireturn C dX10_page_21 h
  · have h := h.2 (b2i_n0 hc)
    refine s_iload_n C dX10_page_12 rfl ?_
    refine s_callS (av := [(0, l2)]) (rest := []) (mc := 0) (ms := 0) C dX10_page_13 lk_X10_152 rfl rfl (Nat.le_of_ble_eq_true rfl) (by decide) (by decide) (pc_X10_isDay) (fun z2 wz2 Mz2 hq => ?_)
    obtain ⟨hq1, hq2, hq3⟩ := hq
    have hq2 := hq2.symm
    have hq3 := hq3.symm
    subst hq1 hq2 hq3
    refine s_ifne C dX10_page_16 rfl (fun hc => ?_) (fun hc => ?_)
    · have h := h.1 (b2i_n0 hc)
      refine s_aload_n C dX10_page_22 rfl ?_
      refine WA.fix (fun hF3 => ?_)
      refine gf_X10_143 (v0 := (M 41 4)) C (sh_41 hF3) dX10_page_23 rfl ?_
      refine s_bipush C dX10_page_26 ⟨rfl, by decide, by decide⟩ ?_
      refine s_icmpne C dX10_page_28 rfl (fun hc => ?_) (fun hc => ?_)
      · have h := h.1 hc
        refine s_aload_n C dX10_page_34 rfl ?_
        refine gf_X10_13 C (sh_41 hF3) dX10_page_35 (fx_41_1 hF3) ?_
        refine s_aload_n C dX10_page_38 rfl ?_
        refine gf_X10_143 (v0 := (M 41 4)) C (sh_41 hF3) dX10_page_39 rfl ?_
        refine s_iload_n C dX10_page_42 rfl ?_
        obtain ⟨o4, h⟩ := h
        obtain ⟨o5, h⟩ := h
        refine s_iast C (sh_43 hF3) o4 o5 (fun _ => by decide) dX10_page_43 ?_
        refine s_aload_n C dX10_page_44 rfl ?_
        refine WA.fix (fun hF6 => ?_)
        refine gf_X10_16 C (sh_41 hF3) dX10_page_45 (fx_41_2 hF6) ?_
        refine s_aload_n C dX10_page_48 rfl ?_
        refine gf_X10_143 (v0 := (M 41 4)) C (sh_41 hF3) dX10_page_49 (up_na (by decide)) ?_
        refine s_iload_n C dX10_page_52 rfl ?_
        refine s_iast C (sh_44 hF6) o4 o5 (fun _ => by decide) dX10_page_53 ?_
        refine s_aload_n C dX10_page_54 rfl ?_
        refine WA.fix (fun hF7 => ?_)
        refine gf_X10_19 C (sh_41 hF3) dX10_page_55 (fx_41_3 hF7) ?_
        refine s_aload_n C dX10_page_58 rfl ?_
        refine gf_X10_143 (v0 := (M 41 4)) C (sh_41 hF3) dX10_page_59 ((up_na (by decide)).trans (up_na (by decide))) ?_
        refine s_bipush C dX10_page_62 ⟨rfl, by decide, by decide⟩ ?_
        refine s_iast C (sh_45 hF7) o4 o5 (fun _ => by decide) dX10_page_64 ?_
        refine s_aload_n C dX10_page_65 rfl ?_
        refine s_dup C (by simp) dX10_page_66 ?_
        refine gf_X10_143 (v0 := (M 41 4)) C (sh_41 hF3) dX10_page_67 ((up_na (by decide)).trans ((up_na (by decide)).trans (up_na (by decide)))) ?_
        refine s_iconst C dX10_page_70 (by decide) ?_
        obtain ⟨o8, h⟩ := h
        refine s_iadd C dX10_page_71 o8 ?_
        refine pf_X10_143 C (sh_41 hF3) (fun _ => by decide) dX10_page_72 ?_
        refine s_aload_n C dX10_page_75 rfl ?_
        refine gf_X10_143 (v0 := ((M 41 4) + 1)) C (sh_41 hF3) dX10_page_76 (up_eq) ?_
        refine s_iconst C dX10_page_79 (by decide) ?_
        obtain ⟨o9, h⟩ := h
        refine s_isub C dX10_page_80 o9 ?_
        exact s_ireturn C dX10_page_81 h
      · have h := h.2 hc
        refine s_bipush C dX10_page_31 ⟨rfl, by decide, by decide⟩ ?_
        exact s_ireturn C dX10_page_33 h
    · have h := h.2 (b2i_nn hc)
      refine s_bipush C dX10_page_19 ⟨rfl, by decide, by decide⟩ ?_
      exact s_ireturn C dX10_page_21 h
theorem E_X10_page {G : GP} {l : Launch} {P : Int → NS → MM → Prop} {l1 : Int} {l2 : Int} {w : NS} {M : MM} (h : inR l1 → inR l2 → ∀ X : BX, X.2.1 = l → CX_X10_page G X → A_X10_page_0 G X P l1 l2 w M) : CT_X10_page G l [(2, 41), (0, l1), (0, l2)] w M P :=
  CT.of RX10 "page" (by decide +kernel) rfl rfl rfl (Nat.le_of_ble_eq_true rfl) (fun hr X hX C => h (hr (0, l1) (by simp)) (hr (0, l2) (by simp)) X hX C)
def A_X10_isKept_0 (G : GP) (X : BX) (P : Int → NS → MM → Prop) (l1 : Int) (w : NS) (M : MM) : Prop := WA true G X (QM G X true 0 P) 4 0 [(2, 41), (0, l1), (3, 0), (3, 0)] [] 0 0 w M
def A_X10_isKept_4 (G : GP) (X : BX) (P : Int → NS → MM → Prop) (l1 : Int) (l2 : Int) (l3 : Int) (w : NS) (M : MM) : Prop := WA true G X (QM G X true 0 P) 4 4 [(2, 41), (0, l1), (0, l2), (0, l3)] [] 0 0 w M
set_option maxHeartbeats 4000000 in
set_option maxRecDepth 100000 in
theorem B_X10_isKept_0 {G : GP} {X : BX} {P : Int → NS → MM → Prop} {l1 : Int} {w : NS} {M : MM} (C : CX_X10_isKept G X) (h : A_X10_isKept_4 G X P l1 0 0 w M) : A_X10_isKept_0 G X P l1 w M := by
  unfold A_X10_isKept_0
  refine s_iconst C dX10_isKept_0 (by decide) ?_
  refine s_istore_n (ls' := [(2, 41), (0, l1), (0, 0), (3, 0)]) C dX10_isKept_1 (by decide) rfl rfl ?_
  refine s_iconst C dX10_isKept_2 (by decide) ?_
  refine s_istore_n (ls' := [(2, 41), (0, l1), (0, 0), (0, 0)]) C dX10_isKept_3 (by decide) rfl rfl ?_
  exact h
set_option maxHeartbeats 4000000 in
set_option maxRecDepth 100000 in
theorem B_X10_isKept_4 {G : GP} {X : BX} {P : Int → NS → MM → Prop} {l1 : Int} {l2 : Int} {l3 : Int} {w : NS} {M : MM} (C : CX_X10_isKept G X) (h : ((((M 41 12) ≤ l3) → (l2 = 0 ∨ l2 = 1) ∧ P l2 w M) ∧ ((¬ ((M 41 12) ≤ l3)) → (((l2 ≠ 0) → (inR (l3 + 1)) ∧ A_X10_isKept_4 G X P l1 1 (l3 + 1) w M) ∧ ((¬ (l2 ≠ 0)) → (0 ≤ l3) ∧ (l3 < 24) ∧ ((((M 46 l3) ≠ l1) → (inR (l3 + 1)) ∧ A_X10_isKept_4 G X P l1 0 (l3 + 1) w M) ∧ ((¬ ((M 46 l3) ≠ l1)) → ((((M 52 l3) ≠ 0) → (inR (l3 + 1)) ∧ A_X10_isKept_4 G X P l1 1 (l3 + 1) w M) ∧ ((¬ ((M 52 l3) ≠ 0)) → ((((M 51 l3) = 0) → (inR (l3 + 1)) ∧ A_X10_isKept_4 G X P l1 0 (l3 + 1) w M) ∧ ((¬ ((M 51 l3) = 0)) → (inR (l3 + 1)) ∧ A_X10_isKept_4 G X P l1 1 (l3 + 1) w M))))))))))) : A_X10_isKept_4 G X P l1 l2 l3 w M := by
  unfold A_X10_isKept_4
  refine s_iload_n C dX10_isKept_4 rfl ?_
  refine s_aload_n C dX10_isKept_5 rfl ?_
  refine WA.fix (fun hF1 => ?_)
  refine gf_X10_147 (v0 := (M 41 12)) C (sh_41 hF1) dX10_isKept_6 rfl ?_
  refine s_icmpge C dX10_isKept_9 rfl (fun hc => ?_) (fun hc => ?_)
  · have h := h.1 hc
    refine s_iload_n C dX10_isKept_56 rfl ?_
    obtain ⟨o2, h⟩ := h
    exact s_zreturn C dX10_isKept_57 o2 h
  · have h := h.2 hc
    refine s_iload_n C dX10_isKept_12 rfl ?_
    refine s_ifne C dX10_isKept_13 rfl (fun hc => ?_) (fun hc => ?_)
    · have h := h.1 hc
      refine s_iconst C dX10_isKept_44 (by decide) ?_
      refine s_goto C dX10_isKept_45 rfl ?_
      refine s_istore_n (ls' := [(2, 41), (0, l1), (0, 1), (0, l3)]) C dX10_isKept_49 (by decide) rfl rfl ?_
      obtain ⟨o3, h⟩ := h
      refine s_iinc (ls' := [(2, 41), (0, l1), (0, 1), (0, (l3 + 1))]) C dX10_isKept_50 (by decide) rfl o3 rfl rfl ?_
      refine s_goto C dX10_isKept_53 rfl ?_
      exact h
    · have h := h.2 hc
      refine s_aload_n C dX10_isKept_16 rfl ?_
      refine gf_X10_22 C (sh_41 hF1) dX10_isKept_17 (fx_41_5 hF1) ?_
      refine s_iload_n C dX10_isKept_20 rfl ?_
      obtain ⟨o4, h⟩ := h
      obtain ⟨o5, h⟩ := h
      refine s_iald (v0 := (M 46 l3)) C (sh_46 hF1) o4 o5 dX10_isKept_21 rfl ?_
      refine s_iload_n C dX10_isKept_22 rfl ?_
      refine s_icmpne C dX10_isKept_23 rfl (fun hc => ?_) (fun hc => ?_)
      · have h := h.1 hc
        refine s_iconst C dX10_isKept_48 (by decide) ?_
        refine s_istore_n (ls' := [(2, 41), (0, l1), (0, 0), (0, l3)]) C dX10_isKept_49 (by decide) rfl rfl ?_
        obtain ⟨o6, h⟩ := h
        refine s_iinc (ls' := [(2, 41), (0, l1), (0, 0), (0, (l3 + 1))]) C dX10_isKept_50 (by decide) rfl o6 rfl rfl ?_
        refine s_goto C dX10_isKept_53 rfl ?_
        exact h
      · have h := h.2 hc
        refine s_aload_n C dX10_isKept_26 rfl ?_
        refine gf_X10_40 C (sh_41 hF1) dX10_isKept_27 (fx_41_11 hF1) ?_
        refine s_iload_n C dX10_isKept_30 rfl ?_
        refine s_iald (v0 := (M 52 l3)) C (sh_52 hF1) o4 o5 dX10_isKept_31 rfl ?_
        refine s_ifne C dX10_isKept_32 rfl (fun hc => ?_) (fun hc => ?_)
        · have h := h.1 hc
          refine s_iconst C dX10_isKept_44 (by decide) ?_
          refine s_goto C dX10_isKept_45 rfl ?_
          refine s_istore_n (ls' := [(2, 41), (0, l1), (0, 1), (0, l3)]) C dX10_isKept_49 (by decide) rfl rfl ?_
          obtain ⟨o7, h⟩ := h
          refine s_iinc (ls' := [(2, 41), (0, l1), (0, 1), (0, (l3 + 1))]) C dX10_isKept_50 (by decide) rfl o7 rfl rfl ?_
          refine s_goto C dX10_isKept_53 rfl ?_
          exact h
        · have h := h.2 hc
          refine s_aload_n C dX10_isKept_35 rfl ?_
          refine gf_X10_37 C (sh_41 hF1) dX10_isKept_36 (fx_41_10 hF1) ?_
          refine s_iload_n C dX10_isKept_39 rfl ?_
          refine s_iald (v0 := (M 51 l3)) C (sh_51 hF1) o4 o5 dX10_isKept_40 rfl ?_
          refine s_ifeq C dX10_isKept_41 rfl (fun hc => ?_) (fun hc => ?_)
          · have h := h.1 hc
            refine s_iconst C dX10_isKept_48 (by decide) ?_
            refine s_istore_n (ls' := [(2, 41), (0, l1), (0, 0), (0, l3)]) C dX10_isKept_49 (by decide) rfl rfl ?_
            obtain ⟨o8, h⟩ := h
            refine s_iinc (ls' := [(2, 41), (0, l1), (0, 0), (0, (l3 + 1))]) C dX10_isKept_50 (by decide) rfl o8 rfl rfl ?_
            refine s_goto C dX10_isKept_53 rfl ?_
            exact h
          · have h := h.2 hc
            refine s_iconst C dX10_isKept_44 (by decide) ?_
            refine s_goto C dX10_isKept_45 rfl ?_
            refine s_istore_n (ls' := [(2, 41), (0, l1), (0, 1), (0, l3)]) C dX10_isKept_49 (by decide) rfl rfl ?_
            obtain ⟨o9, h⟩ := h
            refine s_iinc (ls' := [(2, 41), (0, l1), (0, 1), (0, (l3 + 1))]) C dX10_isKept_50 (by decide) rfl o9 rfl rfl ?_
            refine s_goto C dX10_isKept_53 rfl ?_
            exact h
theorem E_X10_isKept {G : GP} {l : Launch} {P : Int → NS → MM → Prop} {l1 : Int} {w : NS} {M : MM} (h : inR l1 → ∀ X : BX, X.2.1 = l → CX_X10_isKept G X → A_X10_isKept_0 G X P l1 w M) : CT_X10_isKept G l [(2, 41), (0, l1)] w M P :=
  CT.of RX10 "isKept" (by decide +kernel) rfl rfl rfl (Nat.le_of_ble_eq_true rfl) (fun hr X hX C => h (hr (0, l1) (by simp)) X hX C)
def A_X10_write_0 (G : GP) (X : BX) (P : Int → NS → MM → Prop) (l1 : Int) (l2 : Int) (l3 : Int) (w : NS) (M : MM) : Prop := WA true G X (QM G X true 0 P) 5 0 [(2, 41), (0, l1), (0, l2), (0, l3), (3, 0)] [] 0 0 w M
set_option maxHeartbeats 4000000 in
set_option maxRecDepth 100000 in
theorem B_X10_write_0 {G : GP} {X : BX} {P : Int → NS → MM → Prop} {l1 : Int} {l2 : Int} {l3 : Int} {w : NS} {M : MM} (C : CX_X10_write G X) (h : (0 ≤ M 41 4) ∧ ((((0 ≤ l1 ∧ l1 < M 41 4)) → (((¬ (0 ≤ l2 ∧ l2 ≤ 59)) → P (-2) w M) ∧ (((0 ≤ l2 ∧ l2 ≤ 59)) → (((((-1) ≤ l3 ∧ l3 ≤ 99)) → ∃ Q6 : Int → NS → MM → Prop, CT_X10_isKept G X.2.1 [(2, 41), (0, l1)] w M Q6 ∧ ∀ (z6 : Int) (w6 : NS) (M6 : MM), Q6 z6 w6 M6 → (((z6 = 0) → (inR (60 * l1)) ∧ (inR ((60 * l1) + l2)) ∧ (0 ≤ ((60 * l1) + l2)) ∧ (((60 * l1) + l2) < 480) ∧ (((0 ≤ l3) → P (M6 42 ((60 * l1) + l2)) w6 (up (up M6 42 ((60 * l1) + l2) l3) 41 34 0)) ∧ ((¬ (0 ≤ l3)) → P (M6 42 ((60 * l1) + l2)) w6 (up (up M6 42 ((60 * l1) + l2) (-6)) 41 34 0)))) ∧ ((¬ (z6 = 0)) → P (-3) w6 M6))) ∧ ((¬ ((-1) ≤ l3 ∧ l3 ≤ 99)) → P (-2) w M))))) ∧ ((¬ (0 ≤ l1 ∧ l1 < M 41 4)) → P (-1) w M))) : A_X10_write_0 G X P l1 l2 l3 w M := by
  unfold A_X10_write_0
  refine s_aload_n C dX10_write_0 rfl ?_
  refine s_iload_n C dX10_write_1 rfl ?_
  refine WA.fix (fun hF1 => ?_)
  obtain ⟨o2, h⟩ := h
  refine s_callV (ci := 10) (av := [(0, l1)]) (rest := []) (mc := 0) (ms := 0) C dX10_write_2 lk_X10_156 (sh_41 hF1) (by decide) rfl rfl rfl (Nat.le_of_ble_eq_true rfl) (by decide) (by decide) (pc_X10_isPage o2) (fun z3 wz3 Mz3 hq => ?_)
  obtain ⟨hq1, hq2, hq3⟩ := hq
  have hq2 := hq2.symm
  have hq3 := hq3.symm
  subst hq1 hq2 hq3
  refine s_ifne C dX10_write_5 rfl (fun hc => ?_) (fun hc => ?_)
  · have h := h.1 (b2i_n0 hc)
    refine s_iload_n C dX10_write_10 rfl ?_
    refine s_i2l C dX10_write_11 ?_
    refine s_lconst (z := 0) C dX10_write_12 ⟨rfl, by decide⟩ ?_
    refine s_ldc2 (z := 59) C dX10_write_13 (mG (wd_945) rfl) ⟨rfl, by decide⟩ ?_
    refine s_callS (av := [(1, l2), (1, 0), (1, 59)]) (rest := []) (mc := 0) (ms := 0) C dX10_write_16 lk_X10_139 rfl rfl (Nat.le_of_ble_eq_true rfl) (by decide) (by decide) (pc_X10_in) (fun z4 wz4 Mz4 hq => ?_)
    obtain ⟨hq1, hq2, hq3⟩ := hq
    have hq2 := hq2.symm
    have hq3 := hq3.symm
    subst hq1 hq2 hq3
    refine s_ifeq C dX10_write_19 rfl (fun hc => ?_) (fun hc => ?_)
    · have h := h.1 (b2i_0.mp hc)
      refine s_bipush C dX10_write_36 ⟨rfl, by decide, by decide⟩ ?_
      exact s_ireturn C dX10_write_38 h
    · have h := h.2 (b2i_n0 hc)
      refine s_iload_n C dX10_write_22 rfl ?_
      refine s_i2l C dX10_write_23 ?_
      refine s_ldc2 (z := -1) C dX10_write_24 (mG (wd_946) rfl) ⟨rfl, by decide⟩ ?_
      refine s_ldc2 (z := 99) C dX10_write_27 (mG (wd_936) rfl) ⟨rfl, by decide⟩ ?_
      refine s_callS (av := [(1, l3), (1, (-1)), (1, 99)]) (rest := []) (mc := 0) (ms := 0) C dX10_write_30 lk_X10_139 rfl rfl (Nat.le_of_ble_eq_true rfl) (by decide) (by decide) (pc_X10_in) (fun z5 wz5 Mz5 hq => ?_)
      obtain ⟨hq1, hq2, hq3⟩ := hq
      have hq2 := hq2.symm
      have hq3 := hq3.symm
      subst hq1 hq2 hq3
      refine s_ifne C dX10_write_33 rfl (fun hc => ?_) (fun hc => ?_)
      · have h := h.1 (b2i_n0 hc)
        refine s_aload_n C dX10_write_39 rfl ?_
        refine s_iload_n C dX10_write_40 rfl ?_
        obtain ⟨Q6, hKQ6, h⟩ := h
        refine s_callV (ci := 10) (av := [(0, l1)]) (rest := []) (mc := 0) (ms := 0) C dX10_write_41 lk_X10_163 (sh_41 hF1) (by decide) rfl rfl rfl (Nat.le_of_ble_eq_true rfl) (by decide) (by decide) hKQ6 (fun z6 w6 M6 hq => ?_)
        have h := h z6 w6 M6 hq
        refine s_ifeq C dX10_write_44 rfl (fun hc => ?_) (fun hc => ?_)
        · have h := h.1 hc
          refine s_aload_n C dX10_write_50 rfl ?_
          refine WA.fix (fun hF7 => ?_)
          refine gf_X10_7 C (sh_41 hF7) dX10_write_51 (fx_41_0 hF7) ?_
          refine s_bipush C dX10_write_54 ⟨rfl, by decide, by decide⟩ ?_
          refine s_iload_n C dX10_write_56 rfl ?_
          obtain ⟨o8, h⟩ := h
          refine s_imul C dX10_write_57 o8 ?_
          refine s_iload_n C dX10_write_58 rfl ?_
          obtain ⟨o9, h⟩ := h
          refine s_iadd C dX10_write_59 o9 ?_
          obtain ⟨o10, h⟩ := h
          obtain ⟨o11, h⟩ := h
          refine s_iald (v0 := (M6 42 ((60 * l1) + l2))) C (sh_42 hF7) o10 o11 dX10_write_60 rfl ?_
          refine s_istore (ls' := [(2, 41), (0, l1), (0, l2), (0, l3), (0, (M6 42 ((60 * l1) + l2)))]) C dX10_write_61 (by decide) rfl rfl ?_
          refine s_aload_n C dX10_write_63 rfl ?_
          refine gf_X10_7 C (sh_41 hF7) dX10_write_64 (fx_41_0 hF7) ?_
          refine s_bipush C dX10_write_67 ⟨rfl, by decide, by decide⟩ ?_
          refine s_iload_n C dX10_write_69 rfl ?_
          refine s_imul C dX10_write_70 o8 ?_
          refine s_iload_n C dX10_write_71 rfl ?_
          refine s_iadd C dX10_write_72 o9 ?_
          refine s_iload_n C dX10_write_73 rfl ?_
          refine s_ifge C dX10_write_74 rfl (fun hc => ?_) (fun hc => ?_)
          · have h := h.1 hc
            refine s_iload_n C dX10_write_82 rfl ?_
            refine s_iast C (sh_42 hF7) o10 o11 (fun _ => by decide) dX10_write_83 ?_
            refine s_aload_n C dX10_write_84 rfl ?_
            refine s_iconst C dX10_write_85 (by decide) ?_
            refine pf_X10_166 C (sh_41 hF7) (by decide) (fun _ => by decide) dX10_write_86 ?_
            refine s_iload C dX10_write_89 rfl ?_
            exact s_ireturn C dX10_write_91 h
          · have h := h.2 hc
            refine s_bipush C dX10_write_77 ⟨rfl, by decide, by decide⟩ ?_
            refine s_goto C dX10_write_79 rfl ?_
            refine s_iast C (sh_42 hF7) o10 o11 (fun _ => by decide) dX10_write_83 ?_
            refine s_aload_n C dX10_write_84 rfl ?_
            refine s_iconst C dX10_write_85 (by decide) ?_
            refine pf_X10_166 C (sh_41 hF7) (by decide) (fun _ => by decide) dX10_write_86 ?_
            refine s_iload C dX10_write_89 rfl ?_
            exact s_ireturn C dX10_write_91 h
        · have h := h.2 hc
          refine s_bipush C dX10_write_47 ⟨rfl, by decide, by decide⟩ ?_
          exact s_ireturn C dX10_write_49 h
      · have h := h.2 (b2i_nn hc)
        refine s_bipush C dX10_write_36 ⟨rfl, by decide, by decide⟩ ?_
        exact s_ireturn C dX10_write_38 h
  · have h := h.2 (b2i_nn hc)
    refine s_iconst C dX10_write_8 (by decide) ?_
    exact s_ireturn C dX10_write_9 h
theorem E_X10_write {G : GP} {l : Launch} {P : Int → NS → MM → Prop} {l1 : Int} {l2 : Int} {l3 : Int} {w : NS} {M : MM} (h : inR l1 → inR l2 → inR l3 → ∀ X : BX, X.2.1 = l → CX_X10_write G X → A_X10_write_0 G X P l1 l2 l3 w M) : CT_X10_write G l [(2, 41), (0, l1), (0, l2), (0, l3)] w M P :=
  CT.of RX10 "write" (by decide +kernel) rfl rfl rfl (Nat.le_of_ble_eq_true rfl) (fun hr X hX C => h (hr (0, l1) (by simp)) (hr (0, l2) (by simp)) (hr (0, l3) (by simp)) X hX C)
def A_X10_sides_0 (G : GP) (X : BX) (P : Int → NS → MM → Prop) (l1 : Int) (l2 : Int) (w : NS) (M : MM) : Prop := WA true G X (QM G X true 0 P) 3 0 [(2, 41), (0, l1), (0, l2)] [] 0 0 w M
set_option maxHeartbeats 4000000 in
set_option maxRecDepth 100000 in
theorem B_X10_sides_0 {G : GP} {X : BX} {P : Int → NS → MM → Prop} {l1 : Int} {l2 : Int} {w : NS} {M : MM} (C : CX_X10_sides G X) (h : (0 ≤ M 41 4) ∧ (((¬ (0 ≤ l1 ∧ l1 < M 41 4)) → P (-1) w M) ∧ (((0 ≤ l1 ∧ l1 < M 41 4)) → (((¬ (0 ≤ l2 ∧ l2 < M 41 4)) → P (-1) w M) ∧ (((0 ≤ l2 ∧ l2 < M 41 4)) → (((l1 ≠ l2) → (0 ≤ l1) ∧ (l1 < 8) ∧ (0 ≤ l2) ∧ (l2 < 8) ∧ ((((M 43 l1) ≠ (M 43 l2)) → P (-3) w M) ∧ ((¬ ((M 43 l1) ≠ (M 43 l2))) → ((((M 44 l1) = (M 44 l2)) → (((0 ≤ (M 45 l1)) → P (-5) w M) ∧ ((¬ (0 ≤ (M 45 l1))) → ((((M 45 l2) < 0) → P 1 w (up (up M 45 l1 l2) 45 l2 l1)) ∧ ((¬ ((M 45 l2) < 0)) → P (-5) w M))))) ∧ ((¬ ((M 44 l1) = (M 44 l2))) → P (-3) w M))))) ∧ ((¬ (l1 ≠ l2)) → P (-1) w M))))))) : A_X10_sides_0 G X P l1 l2 w M := by
  unfold A_X10_sides_0
  refine s_aload_n C dX10_sides_0 rfl ?_
  refine s_iload_n C dX10_sides_1 rfl ?_
  refine WA.fix (fun hF1 => ?_)
  obtain ⟨o2, h⟩ := h
  refine s_callV (ci := 10) (av := [(0, l1)]) (rest := []) (mc := 0) (ms := 0) C dX10_sides_2 lk_X10_156 (sh_41 hF1) (by decide) rfl rfl rfl (Nat.le_of_ble_eq_true rfl) (by decide) (by decide) (pc_X10_isPage o2) (fun z3 wz3 Mz3 hq => ?_)
  obtain ⟨hq1, hq2, hq3⟩ := hq
  have hq2 := hq2.symm
  have hq3 := hq3.symm
  subst hq1 hq2 hq3
  refine s_ifeq C dX10_sides_5 rfl (fun hc => ?_) (fun hc => ?_)
  · have h := h.1 (b2i_0.mp hc)
    refine s_iconst C dX10_sides_21 (by decide) ?_
    exact s_ireturn C dX10_sides_22 h
  · have h := h.2 (b2i_n0 hc)
    refine s_aload_n C dX10_sides_8 rfl ?_
    refine s_iload_n C dX10_sides_9 rfl ?_
    refine s_callV (ci := 10) (av := [(0, l2)]) (rest := []) (mc := 0) (ms := 0) C dX10_sides_10 lk_X10_156 (sh_41 hF1) (by decide) rfl rfl rfl (Nat.le_of_ble_eq_true rfl) (by decide) (by decide) (pc_X10_isPage o2) (fun z4 wz4 Mz4 hq => ?_)
    obtain ⟨hq1, hq2, hq3⟩ := hq
    have hq2 := hq2.symm
    have hq3 := hq3.symm
    subst hq1 hq2 hq3
    refine s_ifeq C dX10_sides_13 rfl (fun hc => ?_) (fun hc => ?_)
    · have h := h.1 (b2i_0.mp hc)
      refine s_iconst C dX10_sides_21 (by decide) ?_
      exact s_ireturn C dX10_sides_22 h
    · have h := h.2 (b2i_n0 hc)
      refine s_iload_n C dX10_sides_16 rfl ?_
      refine s_iload_n C dX10_sides_17 rfl ?_
      refine s_icmpne C dX10_sides_18 rfl (fun hc => ?_) (fun hc => ?_)
      · have h := h.1 hc
        refine s_aload_n C dX10_sides_23 rfl ?_
        refine gf_X10_13 C (sh_41 hF1) dX10_sides_24 (fx_41_1 hF1) ?_
        refine s_iload_n C dX10_sides_27 rfl ?_
        obtain ⟨o5, h⟩ := h
        obtain ⟨o6, h⟩ := h
        refine s_iald (v0 := (M 43 l1)) C (sh_43 hF1) o5 o6 dX10_sides_28 rfl ?_
        refine s_aload_n C dX10_sides_29 rfl ?_
        refine gf_X10_13 C (sh_41 hF1) dX10_sides_30 (fx_41_1 hF1) ?_
        refine s_iload_n C dX10_sides_33 rfl ?_
        obtain ⟨o7, h⟩ := h
        obtain ⟨o8, h⟩ := h
        refine s_iald (v0 := (M 43 l2)) C (sh_43 hF1) o7 o8 dX10_sides_34 rfl ?_
        refine s_icmpne C dX10_sides_35 rfl (fun hc => ?_) (fun hc => ?_)
        · have h := h.1 hc
          refine s_bipush C dX10_sides_53 ⟨rfl, by decide, by decide⟩ ?_
          exact s_ireturn C dX10_sides_55 h
        · have h := h.2 hc
          refine s_aload_n C dX10_sides_38 rfl ?_
          refine gf_X10_16 C (sh_41 hF1) dX10_sides_39 (fx_41_2 hF1) ?_
          refine s_iload_n C dX10_sides_42 rfl ?_
          refine s_iald (v0 := (M 44 l1)) C (sh_44 hF1) o5 o6 dX10_sides_43 rfl ?_
          refine s_aload_n C dX10_sides_44 rfl ?_
          refine gf_X10_16 C (sh_41 hF1) dX10_sides_45 (fx_41_2 hF1) ?_
          refine s_iload_n C dX10_sides_48 rfl ?_
          refine s_iald (v0 := (M 44 l2)) C (sh_44 hF1) o7 o8 dX10_sides_49 rfl ?_
          refine s_icmpeq C dX10_sides_50 rfl (fun hc => ?_) (fun hc => ?_)
          · have h := h.1 hc
            refine s_aload_n C dX10_sides_56 rfl ?_
            refine gf_X10_19 C (sh_41 hF1) dX10_sides_57 (fx_41_3 hF1) ?_
            refine s_iload_n C dX10_sides_60 rfl ?_
            refine s_iald (v0 := (M 45 l1)) C (sh_45 hF1) o5 o6 dX10_sides_61 rfl ?_
            refine s_ifge C dX10_sides_62 rfl (fun hc => ?_) (fun hc => ?_)
            · have h := h.1 hc
              refine s_bipush C dX10_sides_74 ⟨rfl, by decide, by decide⟩ ?_
              exact s_ireturn C dX10_sides_76 h
            · have h := h.2 hc
              refine s_aload_n C dX10_sides_65 rfl ?_
              refine gf_X10_19 C (sh_41 hF1) dX10_sides_66 (fx_41_3 hF1) ?_
              refine s_iload_n C dX10_sides_69 rfl ?_
              refine s_iald (v0 := (M 45 l2)) C (sh_45 hF1) o7 o8 dX10_sides_70 rfl ?_
              refine s_iflt C dX10_sides_71 rfl (fun hc => ?_) (fun hc => ?_)
              · have h := h.1 hc
                refine s_aload_n C dX10_sides_77 rfl ?_
                refine gf_X10_19 C (sh_41 hF1) dX10_sides_78 (fx_41_3 hF1) ?_
                refine s_iload_n C dX10_sides_81 rfl ?_
                refine s_iload_n C dX10_sides_82 rfl ?_
                refine s_iast C (sh_45 hF1) o5 o6 (fun _ => by decide) dX10_sides_83 ?_
                refine s_aload_n C dX10_sides_84 rfl ?_
                refine WA.fix (fun hF9 => ?_)
                refine gf_X10_19 C (sh_41 hF1) dX10_sides_85 (fx_41_3 hF9) ?_
                refine s_iload_n C dX10_sides_88 rfl ?_
                refine s_iload_n C dX10_sides_89 rfl ?_
                refine s_iast C (sh_45 hF1) o7 o8 (fun _ => by decide) dX10_sides_90 ?_
                refine s_iconst C dX10_sides_91 (by decide) ?_
                exact s_ireturn C dX10_sides_92 h
              · have h := h.2 hc
                refine s_bipush C dX10_sides_74 ⟨rfl, by decide, by decide⟩ ?_
                exact s_ireturn C dX10_sides_76 h
          · have h := h.2 hc
            refine s_bipush C dX10_sides_53 ⟨rfl, by decide, by decide⟩ ?_
            exact s_ireturn C dX10_sides_55 h
      · have h := h.2 hc
        refine s_iconst C dX10_sides_21 (by decide) ?_
        exact s_ireturn C dX10_sides_22 h
theorem E_X10_sides {G : GP} {l : Launch} {P : Int → NS → MM → Prop} {l1 : Int} {l2 : Int} {w : NS} {M : MM} (h : inR l1 → inR l2 → ∀ X : BX, X.2.1 = l → CX_X10_sides G X → A_X10_sides_0 G X P l1 l2 w M) : CT_X10_sides G l [(2, 41), (0, l1), (0, l2)] w M P :=
  CT.of RX10 "sides" (by decide +kernel) rfl rfl rfl (Nat.le_of_ble_eq_true rfl) (fun hr X hX C => h (hr (0, l1) (by simp)) (hr (0, l2) (by simp)) X hX C)
def A_X10_ofPage_0 (G : GP) (X : BX) (P : Int → NS → MM → Prop) (l1 : Int) (l2 : Int) (w : NS) (M : MM) : Prop := WA true G X (QM G X true 0 P) 5 0 [(2, 41), (0, l1), (0, l2), (3, 0), (3, 0)] [] 0 0 w M
def A_X10_ofPage_44 (G : GP) (X : BX) (P : Int → NS → MM → Prop) (l1 : Int) (l2 : Int) (l3 : Int) (l4 : Int) (w : NS) (M : MM) : Prop := WA true G X (QM G X true 0 P) 5 44 [(2, 41), (0, l1), (0, l2), (0, l3), (0, l4)] [] 0 0 w M
set_option maxHeartbeats 4000000 in
set_option maxRecDepth 100000 in
theorem B_X10_ofPage_0 {G : GP} {X : BX} {P : Int → NS → MM → Prop} {l1 : Int} {l2 : Int} {w : NS} {M : MM} (C : CX_X10_ofPage G X) (h : (0 ≤ M 41 4) ∧ ((((0 ≤ l1 ∧ l1 < M 41 4)) → (((¬ (100 ≤ l2 ∧ l2 ≤ 159)) → A_X10_ofPage_44 G X P l1 l2 0 0 w M) ∧ (((100 ≤ l2 ∧ l2 ≤ 159)) → (inR (60 * l1)) ∧ (inR ((60 * l1) + l2)) ∧ (inR (((60 * l1) + l2) - 100)) ∧ (0 ≤ (((60 * l1) + l2) - 100)) ∧ ((((60 * l1) + l2) - 100) < 480) ∧ P (M 42 (((60 * l1) + l2) - 100)) w M))) ∧ ((¬ (0 ≤ l1 ∧ l1 < M 41 4)) → P (-1) w M))) : A_X10_ofPage_0 G X P l1 l2 w M := by
  unfold A_X10_ofPage_0
  refine s_aload_n C dX10_ofPage_0 rfl ?_
  refine s_iload_n C dX10_ofPage_1 rfl ?_
  refine WA.fix (fun hF1 => ?_)
  obtain ⟨o2, h⟩ := h
  refine s_callV (ci := 10) (av := [(0, l1)]) (rest := []) (mc := 0) (ms := 0) C dX10_ofPage_2 lk_X10_156 (sh_41 hF1) (by decide) rfl rfl rfl (Nat.le_of_ble_eq_true rfl) (by decide) (by decide) (pc_X10_isPage o2) (fun z3 wz3 Mz3 hq => ?_)
  obtain ⟨hq1, hq2, hq3⟩ := hq
  have hq2 := hq2.symm
  have hq3 := hq3.symm
  subst hq1 hq2 hq3
  refine s_ifne C dX10_ofPage_5 rfl (fun hc => ?_) (fun hc => ?_)
  · have h := h.1 (b2i_n0 hc)
    refine s_iload_n C dX10_ofPage_10 rfl ?_
    refine s_i2l C dX10_ofPage_11 ?_
    refine s_ldc2 (z := 100) C dX10_ofPage_12 (mG (wd_959) rfl) ⟨rfl, by decide⟩ ?_
    refine s_ldc2 (z := 159) C dX10_ofPage_15 (mG (wd_960) rfl) ⟨rfl, by decide⟩ ?_
    refine s_callS (av := [(1, l2), (1, 100), (1, 159)]) (rest := []) (mc := 0) (ms := 0) C dX10_ofPage_18 lk_X10_139 rfl rfl (Nat.le_of_ble_eq_true rfl) (by decide) (by decide) (pc_X10_in) (fun z4 wz4 Mz4 hq => ?_)
    obtain ⟨hq1, hq2, hq3⟩ := hq
    have hq2 := hq2.symm
    have hq3 := hq3.symm
    subst hq1 hq2 hq3
    refine s_ifeq C dX10_ofPage_21 rfl (fun hc => ?_) (fun hc => ?_)
    · have h := h.1 (b2i_0.mp hc)
      refine s_iconst C dX10_ofPage_39 (by decide) ?_
      refine s_istore_n (ls' := [(2, 41), (0, l1), (0, l2), (0, 0), (3, 0)]) C dX10_ofPage_40 (by decide) rfl rfl ?_
      refine s_iconst C dX10_ofPage_41 (by decide) ?_
      refine s_istore (ls' := [(2, 41), (0, l1), (0, l2), (0, 0), (0, 0)]) C dX10_ofPage_42 (by decide) rfl rfl ?_
      exact h
    · have h := h.2 (b2i_n0 hc)
      refine s_aload_n C dX10_ofPage_24 rfl ?_
      refine gf_X10_7 C (sh_41 hF1) dX10_ofPage_25 (fx_41_0 hF1) ?_
      refine s_bipush C dX10_ofPage_28 ⟨rfl, by decide, by decide⟩ ?_
      refine s_iload_n C dX10_ofPage_30 rfl ?_
      obtain ⟨o5, h⟩ := h
      refine s_imul C dX10_ofPage_31 o5 ?_
      refine s_iload_n C dX10_ofPage_32 rfl ?_
      obtain ⟨o6, h⟩ := h
      refine s_iadd C dX10_ofPage_33 o6 ?_
      refine s_bipush C dX10_ofPage_34 ⟨rfl, by decide, by decide⟩ ?_
      obtain ⟨o7, h⟩ := h
      refine s_isub C dX10_ofPage_36 o7 ?_
      obtain ⟨o8, h⟩ := h
      obtain ⟨o9, h⟩ := h
      refine s_iald (v0 := (M 42 (((60 * l1) + l2) - 100))) C (sh_42 hF1) o8 o9 dX10_ofPage_37 rfl ?_
      exact s_ireturn C dX10_ofPage_38 h
  · have h := h.2 (b2i_nn hc)
    refine s_iconst C dX10_ofPage_8 (by decide) ?_
    exact s_ireturn C dX10_ofPage_9 h
set_option maxHeartbeats 4000000 in
set_option maxRecDepth 100000 in
theorem B_X10_ofPage_44 {G : GP} {X : BX} {P : Int → NS → MM → Prop} {l1 : Int} {l2 : Int} {l3 : Int} {l4 : Int} {w : NS} {M : MM} (C : CX_X10_ofPage G X) (h : ((((M 41 12) ≤ l4) → (((l2 ≠ 0) → (((l2 ≠ 1) → (((l2 ≠ 2) → (((l2 ≠ 3) → P (-2) w M) ∧ ((¬ (l2 ≠ 3)) → P l3 w M))) ∧ ((¬ (l2 ≠ 2)) → (0 ≤ l1) ∧ (l1 < 8) ∧ P (M 45 l1) w M))) ∧ ((¬ (l2 ≠ 1)) → (0 ≤ l1) ∧ (l1 < 8) ∧ P (M 44 l1) w M))) ∧ ((¬ (l2 ≠ 0)) → (0 ≤ l1) ∧ (l1 < 8) ∧ P (M 43 l1) w M))) ∧ ((¬ ((M 41 12) ≤ l4)) → (0 ≤ l4) ∧ (l4 < 24) ∧ ((((M 46 l4) ≠ l1) → (inR (l3 + 0)) ∧ (inR (l4 + 1)) ∧ A_X10_ofPage_44 G X P l1 l2 (l3 + 0) (l4 + 1) w M) ∧ ((¬ ((M 46 l4) ≠ l1)) → (inR (l3 + 1)) ∧ (inR (l4 + 1)) ∧ A_X10_ofPage_44 G X P l1 l2 (l3 + 1) (l4 + 1) w M))))) : A_X10_ofPage_44 G X P l1 l2 l3 l4 w M := by
  unfold A_X10_ofPage_44
  refine s_iload C dX10_ofPage_44 rfl ?_
  refine s_aload_n C dX10_ofPage_46 rfl ?_
  refine WA.fix (fun hF1 => ?_)
  refine gf_X10_147 (v0 := (M 41 12)) C (sh_41 hF1) dX10_ofPage_47 rfl ?_
  refine s_icmpge C dX10_ofPage_50 rfl (fun hc => ?_) (fun hc => ?_)
  · have h := h.1 hc
    refine s_iload_n C dX10_ofPage_78 rfl ?_
    refine s_ifne C dX10_ofPage_79 rfl (fun hc => ?_) (fun hc => ?_)
    · have h := h.1 hc
      refine s_iload_n C dX10_ofPage_91 rfl ?_
      refine s_iconst C dX10_ofPage_92 (by decide) ?_
      refine s_icmpne C dX10_ofPage_93 rfl (fun hc => ?_) (fun hc => ?_)
      · have h := h.1 hc
        refine s_iload_n C dX10_ofPage_105 rfl ?_
        refine s_iconst C dX10_ofPage_106 (by decide) ?_
        refine s_icmpne C dX10_ofPage_107 rfl (fun hc => ?_) (fun hc => ?_)
        · have h := h.1 hc
          refine s_iload_n C dX10_ofPage_119 rfl ?_
          refine s_iconst C dX10_ofPage_120 (by decide) ?_
          refine s_icmpne C dX10_ofPage_121 rfl (fun hc => ?_) (fun hc => ?_)
          · have h := h.1 hc
            refine s_bipush C dX10_ofPage_128 ⟨rfl, by decide, by decide⟩ ?_
            exact s_ireturn C dX10_ofPage_130 h
          · have h := h.2 hc
            refine s_iload_n C dX10_ofPage_124 rfl ?_
            refine s_goto C dX10_ofPage_125 rfl ?_
            exact s_ireturn C dX10_ofPage_130 h
        · have h := h.2 hc
          refine s_aload_n C dX10_ofPage_110 rfl ?_
          refine gf_X10_19 C (sh_41 hF1) dX10_ofPage_111 (fx_41_3 hF1) ?_
          refine s_iload_n C dX10_ofPage_114 rfl ?_
          obtain ⟨o2, h⟩ := h
          obtain ⟨o3, h⟩ := h
          refine s_iald (v0 := (M 45 l1)) C (sh_45 hF1) o2 o3 dX10_ofPage_115 rfl ?_
          refine s_goto C dX10_ofPage_116 rfl ?_
          exact s_ireturn C dX10_ofPage_130 h
      · have h := h.2 hc
        refine s_aload_n C dX10_ofPage_96 rfl ?_
        refine gf_X10_16 C (sh_41 hF1) dX10_ofPage_97 (fx_41_2 hF1) ?_
        refine s_iload_n C dX10_ofPage_100 rfl ?_
        obtain ⟨o4, h⟩ := h
        obtain ⟨o5, h⟩ := h
        refine s_iald (v0 := (M 44 l1)) C (sh_44 hF1) o4 o5 dX10_ofPage_101 rfl ?_
        refine s_goto C dX10_ofPage_102 rfl ?_
        exact s_ireturn C dX10_ofPage_130 h
    · have h := h.2 hc
      refine s_aload_n C dX10_ofPage_82 rfl ?_
      refine gf_X10_13 C (sh_41 hF1) dX10_ofPage_83 (fx_41_1 hF1) ?_
      refine s_iload_n C dX10_ofPage_86 rfl ?_
      obtain ⟨o6, h⟩ := h
      obtain ⟨o7, h⟩ := h
      refine s_iald (v0 := (M 43 l1)) C (sh_43 hF1) o6 o7 dX10_ofPage_87 rfl ?_
      refine s_goto C dX10_ofPage_88 rfl ?_
      exact s_ireturn C dX10_ofPage_130 h
  · have h := h.2 hc
    refine s_iload_n C dX10_ofPage_53 rfl ?_
    refine s_aload_n C dX10_ofPage_54 rfl ?_
    refine gf_X10_22 C (sh_41 hF1) dX10_ofPage_55 (fx_41_5 hF1) ?_
    refine s_iload C dX10_ofPage_58 rfl ?_
    obtain ⟨o8, h⟩ := h
    obtain ⟨o9, h⟩ := h
    refine s_iald (v0 := (M 46 l4)) C (sh_46 hF1) o8 o9 dX10_ofPage_60 rfl ?_
    refine s_iload_n C dX10_ofPage_61 rfl ?_
    refine s_icmpne C dX10_ofPage_62 rfl (fun hc => ?_) (fun hc => ?_)
    · have h := h.1 hc
      refine s_iconst C dX10_ofPage_69 (by decide) ?_
      obtain ⟨o10, h⟩ := h
      refine s_iadd C dX10_ofPage_70 o10 ?_
      refine s_istore_n (ls' := [(2, 41), (0, l1), (0, l2), (0, (l3 + 0)), (0, l4)]) C dX10_ofPage_71 (by decide) rfl rfl ?_
      obtain ⟨o11, h⟩ := h
      refine s_iinc (ls' := [(2, 41), (0, l1), (0, l2), (0, (l3 + 0)), (0, (l4 + 1))]) C dX10_ofPage_72 (by decide) rfl o11 rfl rfl ?_
      refine s_goto C dX10_ofPage_75 rfl ?_
      exact h
    · have h := h.2 hc
      refine s_iconst C dX10_ofPage_65 (by decide) ?_
      refine s_goto C dX10_ofPage_66 rfl ?_
      obtain ⟨o12, h⟩ := h
      refine s_iadd C dX10_ofPage_70 o12 ?_
      refine s_istore_n (ls' := [(2, 41), (0, l1), (0, l2), (0, (l3 + 1)), (0, l4)]) C dX10_ofPage_71 (by decide) rfl rfl ?_
      obtain ⟨o13, h⟩ := h
      refine s_iinc (ls' := [(2, 41), (0, l1), (0, l2), (0, (l3 + 1)), (0, (l4 + 1))]) C dX10_ofPage_72 (by decide) rfl o13 rfl rfl ?_
      refine s_goto C dX10_ofPage_75 rfl ?_
      exact h
theorem E_X10_ofPage {G : GP} {l : Launch} {P : Int → NS → MM → Prop} {l1 : Int} {l2 : Int} {w : NS} {M : MM} (h : inR l1 → inR l2 → ∀ X : BX, X.2.1 = l → CX_X10_ofPage G X → A_X10_ofPage_0 G X P l1 l2 w M) : CT_X10_ofPage G l [(2, 41), (0, l1), (0, l2)] w M P :=
  CT.of RX10 "ofPage" (by decide +kernel) rfl rfl rfl (Nat.le_of_ble_eq_true rfl) (fun hr X hX C => h (hr (0, l1) (by simp)) (hr (0, l2) (by simp)) X hX C)
def A_X10_piece_0 (G : GP) (X : BX) (P : Int → NS → MM → Prop) (l1 : Int) (l2 : Int) (l3 : Int) (l4 : Int) (l5 : Int) (w : NS) (M : MM) : Prop := WA true G X (QM G X true 0 P) 6 0 [(2, 41), (0, l1), (0, l2), (0, l3), (0, l4), (0, l5)] [] 0 0 w M
set_option maxHeartbeats 4000000 in
set_option maxRecDepth 100000 in
theorem B_X10_piece_0 {G : GP} {X : BX} {P : Int → NS → MM → Prop} {l1 : Int} {l2 : Int} {l3 : Int} {l4 : Int} {l5 : Int} {w : NS} {M : MM} (C : CX_X10_piece G X) (h : (0 ≤ M 41 4) ∧ ((((0 ≤ l1 ∧ l1 < M 41 4)) → (((¬ (0 ≤ l2 ∧ l2 ≤ l3)) → P (-2) w M) ∧ (((0 ≤ l2 ∧ l2 ≤ l3)) → (((¬ (0 ≤ l3 ∧ l3 ≤ 5)) → P (-2) w M) ∧ (((0 ≤ l3 ∧ l3 ≤ 5)) → (((¬ (0 ≤ l4 ∧ l4 ≤ l5)) → P (-2) w M) ∧ (((0 ≤ l4 ∧ l4 ≤ l5)) → ((((0 ≤ l5 ∧ l5 ≤ 9)) → ((((M 41 12) ≠ 24) → (0 ≤ (M 41 12)) ∧ ((M 41 12) < 24) ∧ (inR ((M 41 12) + 1)) ∧ (inR (((M 41 12) + 1) - 1)) ∧ P (((M 41 12) + 1) - 1) w (up (up (up (up (up (up (up M 46 (M 41 12) l1) 41 34 0) 47 (M 41 12) l2) 48 (M 41 12) l3) 49 (M 41 12) l4) 50 (M 41 12) l5) 41 12 ((M 41 12) + 1))) ∧ ((¬ ((M 41 12) ≠ 24)) → P (-4) w M))) ∧ ((¬ (0 ≤ l5 ∧ l5 ≤ 9)) → P (-2) w M))))))))) ∧ ((¬ (0 ≤ l1 ∧ l1 < M 41 4)) → P (-1) w M))) : A_X10_piece_0 G X P l1 l2 l3 l4 l5 w M := by
  unfold A_X10_piece_0
  refine s_aload_n C dX10_piece_0 rfl ?_
  refine s_iload_n C dX10_piece_1 rfl ?_
  refine WA.fix (fun hF1 => ?_)
  obtain ⟨o2, h⟩ := h
  refine s_callV (ci := 10) (av := [(0, l1)]) (rest := []) (mc := 0) (ms := 0) C dX10_piece_2 lk_X10_156 (sh_41 hF1) (by decide) rfl rfl rfl (Nat.le_of_ble_eq_true rfl) (by decide) (by decide) (pc_X10_isPage o2) (fun z3 wz3 Mz3 hq => ?_)
  obtain ⟨hq1, hq2, hq3⟩ := hq
  have hq2 := hq2.symm
  have hq3 := hq3.symm
  subst hq1 hq2 hq3
  refine s_ifne C dX10_piece_5 rfl (fun hc => ?_) (fun hc => ?_)
  · have h := h.1 (b2i_n0 hc)
    refine s_iload_n C dX10_piece_10 rfl ?_
    refine s_i2l C dX10_piece_11 ?_
    refine s_lconst (z := 0) C dX10_piece_12 ⟨rfl, by decide⟩ ?_
    refine s_iload_n C dX10_piece_13 rfl ?_
    refine s_i2l C dX10_piece_14 ?_
    refine s_callS (av := [(1, l2), (1, 0), (1, l3)]) (rest := []) (mc := 0) (ms := 0) C dX10_piece_15 lk_X10_139 rfl rfl (Nat.le_of_ble_eq_true rfl) (by decide) (by decide) (pc_X10_in) (fun z4 wz4 Mz4 hq => ?_)
    obtain ⟨hq1, hq2, hq3⟩ := hq
    have hq2 := hq2.symm
    have hq3 := hq3.symm
    subst hq1 hq2 hq3
    refine s_ifeq C dX10_piece_18 rfl (fun hc => ?_) (fun hc => ?_)
    · have h := h.1 (b2i_0.mp hc)
      refine s_bipush C dX10_piece_59 ⟨rfl, by decide, by decide⟩ ?_
      exact s_ireturn C dX10_piece_61 h
    · have h := h.2 (b2i_n0 hc)
      refine s_iload_n C dX10_piece_21 rfl ?_
      refine s_i2l C dX10_piece_22 ?_
      refine s_lconst (z := 0) C dX10_piece_23 ⟨rfl, by decide⟩ ?_
      refine s_ldc2 (z := 5) C dX10_piece_24 (mG (wd_965) rfl) ⟨rfl, by decide⟩ ?_
      refine s_callS (av := [(1, l3), (1, 0), (1, 5)]) (rest := []) (mc := 0) (ms := 0) C dX10_piece_27 lk_X10_139 rfl rfl (Nat.le_of_ble_eq_true rfl) (by decide) (by decide) (pc_X10_in) (fun z5 wz5 Mz5 hq => ?_)
      obtain ⟨hq1, hq2, hq3⟩ := hq
      have hq2 := hq2.symm
      have hq3 := hq3.symm
      subst hq1 hq2 hq3
      refine s_ifeq C dX10_piece_30 rfl (fun hc => ?_) (fun hc => ?_)
      · have h := h.1 (b2i_0.mp hc)
        refine s_bipush C dX10_piece_59 ⟨rfl, by decide, by decide⟩ ?_
        exact s_ireturn C dX10_piece_61 h
      · have h := h.2 (b2i_n0 hc)
        refine s_iload C dX10_piece_33 rfl ?_
        refine s_i2l C dX10_piece_35 ?_
        refine s_lconst (z := 0) C dX10_piece_36 ⟨rfl, by decide⟩ ?_
        refine s_iload C dX10_piece_37 rfl ?_
        refine s_i2l C dX10_piece_39 ?_
        refine s_callS (av := [(1, l4), (1, 0), (1, l5)]) (rest := []) (mc := 0) (ms := 0) C dX10_piece_40 lk_X10_139 rfl rfl (Nat.le_of_ble_eq_true rfl) (by decide) (by decide) (pc_X10_in) (fun z6 wz6 Mz6 hq => ?_)
        obtain ⟨hq1, hq2, hq3⟩ := hq
        have hq2 := hq2.symm
        have hq3 := hq3.symm
        subst hq1 hq2 hq3
        refine s_ifeq C dX10_piece_43 rfl (fun hc => ?_) (fun hc => ?_)
        · have h := h.1 (b2i_0.mp hc)
          refine s_bipush C dX10_piece_59 ⟨rfl, by decide, by decide⟩ ?_
          exact s_ireturn C dX10_piece_61 h
        · have h := h.2 (b2i_n0 hc)
          refine s_iload C dX10_piece_46 rfl ?_
          refine s_i2l C dX10_piece_48 ?_
          refine s_lconst (z := 0) C dX10_piece_49 ⟨rfl, by decide⟩ ?_
          refine s_ldc2 (z := 9) C dX10_piece_50 (mG (wd_929) rfl) ⟨rfl, by decide⟩ ?_
          refine s_callS (av := [(1, l5), (1, 0), (1, 9)]) (rest := []) (mc := 0) (ms := 0) C dX10_piece_53 lk_X10_139 rfl rfl (Nat.le_of_ble_eq_true rfl) (by decide) (by decide) (pc_X10_in) (fun z7 wz7 Mz7 hq => ?_)
          obtain ⟨hq1, hq2, hq3⟩ := hq
          have hq2 := hq2.symm
          have hq3 := hq3.symm
          subst hq1 hq2 hq3
          refine s_ifne C dX10_piece_56 rfl (fun hc => ?_) (fun hc => ?_)
          · have h := h.1 (b2i_n0 hc)
            refine s_aload_n C dX10_piece_62 rfl ?_
            refine gf_X10_147 (v0 := (M 41 12)) C (sh_41 hF1) dX10_piece_63 rfl ?_
            refine s_bipush C dX10_piece_66 ⟨rfl, by decide, by decide⟩ ?_
            refine s_icmpne C dX10_piece_68 rfl (fun hc => ?_) (fun hc => ?_)
            · have h := h.1 hc
              refine s_aload_n C dX10_piece_74 rfl ?_
              refine gf_X10_22 C (sh_41 hF1) dX10_piece_75 (fx_41_5 hF1) ?_
              refine s_aload_n C dX10_piece_78 rfl ?_
              refine gf_X10_147 (v0 := (M 41 12)) C (sh_41 hF1) dX10_piece_79 rfl ?_
              refine s_iload_n C dX10_piece_82 rfl ?_
              obtain ⟨o8, h⟩ := h
              obtain ⟨o9, h⟩ := h
              refine s_iast C (sh_46 hF1) o8 o9 (fun _ => by decide) dX10_piece_83 ?_
              refine s_aload_n C dX10_piece_84 rfl ?_
              refine s_iconst C dX10_piece_85 (by decide) ?_
              refine pf_X10_166 C (sh_41 hF1) (by decide) (fun _ => by decide) dX10_piece_86 ?_
              refine s_aload_n C dX10_piece_89 rfl ?_
              refine WA.fix (fun hF10 => ?_)
              refine gf_X10_25 C (sh_41 hF1) dX10_piece_90 (fx_41_6 hF10) ?_
              refine s_aload_n C dX10_piece_93 rfl ?_
              refine gf_X10_147 (v0 := (M 41 12)) C (sh_41 hF1) dX10_piece_94 ((up_ni (by decide)).trans (up_na (by decide))) ?_
              refine s_iload_n C dX10_piece_97 rfl ?_
              refine s_iast C (sh_47 hF10) o8 o9 (fun _ => by decide) dX10_piece_98 ?_
              refine s_aload_n C dX10_piece_99 rfl ?_
              refine WA.fix (fun hF11 => ?_)
              refine gf_X10_28 C (sh_41 hF1) dX10_piece_100 (fx_41_7 hF11) ?_
              refine s_aload_n C dX10_piece_103 rfl ?_
              refine gf_X10_147 (v0 := (M 41 12)) C (sh_41 hF1) dX10_piece_104 ((up_na (by decide)).trans ((up_ni (by decide)).trans (up_na (by decide)))) ?_
              refine s_iload_n C dX10_piece_107 rfl ?_
              refine s_iast C (sh_48 hF11) o8 o9 (fun _ => by decide) dX10_piece_108 ?_
              refine s_aload_n C dX10_piece_109 rfl ?_
              refine WA.fix (fun hF12 => ?_)
              refine gf_X10_31 C (sh_41 hF1) dX10_piece_110 (fx_41_8 hF12) ?_
              refine s_aload_n C dX10_piece_113 rfl ?_
              refine gf_X10_147 (v0 := (M 41 12)) C (sh_41 hF1) dX10_piece_114 ((up_na (by decide)).trans ((up_na (by decide)).trans ((up_ni (by decide)).trans (up_na (by decide))))) ?_
              refine s_iload C dX10_piece_117 rfl ?_
              refine s_iast C (sh_49 hF12) o8 o9 (fun _ => by decide) dX10_piece_119 ?_
              refine s_aload_n C dX10_piece_120 rfl ?_
              refine WA.fix (fun hF13 => ?_)
              refine gf_X10_34 C (sh_41 hF1) dX10_piece_121 (fx_41_9 hF13) ?_
              refine s_aload_n C dX10_piece_124 rfl ?_
              refine gf_X10_147 (v0 := (M 41 12)) C (sh_41 hF1) dX10_piece_125 ((up_na (by decide)).trans ((up_na (by decide)).trans ((up_na (by decide)).trans ((up_ni (by decide)).trans (up_na (by decide)))))) ?_
              refine s_iload C dX10_piece_128 rfl ?_
              refine s_iast C (sh_50 hF13) o8 o9 (fun _ => by decide) dX10_piece_130 ?_
              refine s_aload_n C dX10_piece_131 rfl ?_
              refine s_dup C (by simp) dX10_piece_132 ?_
              refine gf_X10_147 (v0 := (M 41 12)) C (sh_41 hF1) dX10_piece_133 ((up_na (by decide)).trans ((up_na (by decide)).trans ((up_na (by decide)).trans ((up_na (by decide)).trans ((up_ni (by decide)).trans (up_na (by decide))))))) ?_
              refine s_iconst C dX10_piece_136 (by decide) ?_
              obtain ⟨o14, h⟩ := h
              refine s_iadd C dX10_piece_137 o14 ?_
              refine pf_X10_147 C (sh_41 hF1) (fun _ => by decide) dX10_piece_138 ?_
              refine s_aload_n C dX10_piece_141 rfl ?_
              refine gf_X10_147 (v0 := ((M 41 12) + 1)) C (sh_41 hF1) dX10_piece_142 (up_eq) ?_
              refine s_iconst C dX10_piece_145 (by decide) ?_
              obtain ⟨o15, h⟩ := h
              refine s_isub C dX10_piece_146 o15 ?_
              exact s_ireturn C dX10_piece_147 h
            · have h := h.2 hc
              refine s_bipush C dX10_piece_71 ⟨rfl, by decide, by decide⟩ ?_
              exact s_ireturn C dX10_piece_73 h
          · have h := h.2 (b2i_nn hc)
            refine s_bipush C dX10_piece_59 ⟨rfl, by decide, by decide⟩ ?_
            exact s_ireturn C dX10_piece_61 h
  · have h := h.2 (b2i_nn hc)
    refine s_iconst C dX10_piece_8 (by decide) ?_
    exact s_ireturn C dX10_piece_9 h
theorem E_X10_piece {G : GP} {l : Launch} {P : Int → NS → MM → Prop} {l1 : Int} {l2 : Int} {l3 : Int} {l4 : Int} {l5 : Int} {w : NS} {M : MM} (h : inR l1 → inR l2 → inR l3 → inR l4 → inR l5 → ∀ X : BX, X.2.1 = l → CX_X10_piece G X → A_X10_piece_0 G X P l1 l2 l3 l4 l5 w M) : CT_X10_piece G l [(2, 41), (0, l1), (0, l2), (0, l3), (0, l4), (0, l5)] w M P :=
  CT.of RX10 "piece" (by decide +kernel) rfl rfl rfl (Nat.le_of_ble_eq_true rfl) (fun hr X hX C => h (hr (0, l1) (by simp)) (hr (0, l2) (by simp)) (hr (0, l3) (by simp)) (hr (0, l4) (by simp)) (hr (0, l5) (by simp)) X hX C)
def A_X10_layOne_0 (G : GP) (X : BX) (P : Int → NS → MM → Prop) (l1 : Int) (w : NS) (M : MM) : Prop := WA true G X (QM G X true 4 P) 5 0 [(2, 41), (0, l1), (3, 0), (3, 0), (3, 0)] [] 0 0 w M
def A_X10_layOne_12 (G : GP) (X : BX) (P : Int → NS → MM → Prop) (l1 : Int) (l2 : Int) (w : NS) (M : MM) : Prop := WA true G X (QM G X true 4 P) 5 12 [(2, 41), (0, l1), (0, l2), (3, 0), (3, 0)] [] 0 0 w M
def A_X10_layOne_29 (G : GP) (X : BX) (P : Int → NS → MM → Prop) (l1 : Int) (l2 : Int) (l3 : Int) (w : NS) (M : MM) : Prop := WA true G X (QM G X true 4 P) 5 29 [(2, 41), (0, l1), (0, l2), (0, l3), (3, 0)] [] 0 0 w M
set_option maxHeartbeats 4000000 in
set_option maxRecDepth 100000 in
theorem B_X10_layOne_0 {G : GP} {X : BX} {P : Int → NS → MM → Prop} {l1 : Int} {w : NS} {M : MM} (C : CX_X10_layOne G X) (h : (0 ≤ l1) ∧ (l1 < 24) ∧ A_X10_layOne_12 G X P l1 (M 47 l1) w (up M 41 16 0)) : A_X10_layOne_0 G X P l1 w M := by
  unfold A_X10_layOne_0
  refine s_aload_n C dX10_layOne_0 rfl ?_
  refine s_iconst C dX10_layOne_1 (by decide) ?_
  refine WA.fix (fun hF1 => ?_)
  refine pf_X10_176 C (sh_41 hF1) (fun _ => by decide) dX10_layOne_2 ?_
  refine s_aload_n C dX10_layOne_5 rfl ?_
  refine WA.fix (fun hF2 => ?_)
  refine gf_X10_25 C (sh_41 hF1) dX10_layOne_6 (fx_41_6 hF2) ?_
  refine s_iload_n C dX10_layOne_9 rfl ?_
  obtain ⟨o3, h⟩ := h
  obtain ⟨o4, h⟩ := h
  refine s_iald (v0 := (M 47 l1)) C (sh_47 hF2) o3 o4 dX10_layOne_10 (up_na (by decide)) ?_
  refine s_istore_n (ls' := [(2, 41), (0, l1), (0, (M 47 l1)), (3, 0), (3, 0)]) C dX10_layOne_11 (by decide) rfl rfl ?_
  exact h
set_option maxHeartbeats 4000000 in
set_option maxRecDepth 100000 in
theorem B_X10_layOne_12 {G : GP} {X : BX} {P : Int → NS → MM → Prop} {l1 : Int} {l2 : Int} {w : NS} {M : MM} (C : CX_X10_layOne G X) (h : (0 ≤ l1) ∧ (l1 < 24) ∧ ((((M 48 l1) < l2) → P 0 w M) ∧ ((¬ ((M 48 l1) < l2)) → A_X10_layOne_29 G X P l1 l2 (M 49 l1) w M))) : A_X10_layOne_12 G X P l1 l2 w M := by
  unfold A_X10_layOne_12
  refine s_iload_n C dX10_layOne_12 rfl ?_
  refine s_aload_n C dX10_layOne_13 rfl ?_
  refine WA.fix (fun hF1 => ?_)
  refine gf_X10_28 C (sh_41 hF1) dX10_layOne_14 (fx_41_7 hF1) ?_
  refine s_iload_n C dX10_layOne_17 rfl ?_
  obtain ⟨o2, h⟩ := h
  obtain ⟨o3, h⟩ := h
  refine s_iald (v0 := (M 48 l1)) C (sh_48 hF1) o2 o3 dX10_layOne_18 rfl ?_
  refine s_icmpgt C dX10_layOne_19 rfl (fun hc => ?_) (fun hc => ?_)
  · have h := h.1 hc
    exact s_vreturn C dX10_layOne_100 h
  · have h := h.2 hc
    refine s_aload_n C dX10_layOne_22 rfl ?_
    refine gf_X10_31 C (sh_41 hF1) dX10_layOne_23 (fx_41_8 hF1) ?_
    refine s_iload_n C dX10_layOne_26 rfl ?_
    refine s_iald (v0 := (M 49 l1)) C (sh_49 hF1) o2 o3 dX10_layOne_27 rfl ?_
    refine s_istore_n (ls' := [(2, 41), (0, l1), (0, l2), (0, (M 49 l1)), (3, 0)]) C dX10_layOne_28 (by decide) rfl rfl ?_
    exact h
set_option maxHeartbeats 4000000 in
set_option maxRecDepth 100000 in
theorem B_X10_layOne_29 {G : GP} {X : BX} {P : Int → NS → MM → Prop} {l1 : Int} {l2 : Int} {l3 : Int} {w : NS} {M : MM} (C : CX_X10_layOne G X) (h : (0 ≤ l1) ∧ (l1 < 24) ∧ ((((M 50 l1) < l3) → (inR (l2 + 1)) ∧ A_X10_layOne_12 G X P l1 (l2 + 1) w M) ∧ ((¬ ((M 50 l1) < l3)) → (inR (60 * (M 46 l1))) ∧ (inR (10 * l2)) ∧ (inR ((60 * (M 46 l1)) + (10 * l2))) ∧ (inR (((60 * (M 46 l1)) + (10 * l2)) + l3)) ∧ (0 ≤ (((60 * (M 46 l1)) + (10 * l2)) + l3)) ∧ ((((60 * (M 46 l1)) + (10 * l2)) + l3) < 480) ∧ ((((M 42 (((60 * (M 46 l1)) + (10 * l2)) + l3)) < 0) → (inR (l3 + 1)) ∧ A_X10_layOne_29 G X P l1 l2 (l3 + 1) w M) ∧ ((¬ ((M 42 (((60 * (M 46 l1)) + (10 * l2)) + l3)) < 0)) → (0 ≤ (M 41 16)) ∧ ((M 41 16) < 60) ∧ (inR ((M 41 16) + 1)) ∧ (inR (l3 + 1)) ∧ A_X10_layOne_29 G X P l1 l2 (l3 + 1) w (up (up M 54 (M 41 16) (M 42 (((60 * (M 46 l1)) + (10 * l2)) + l3))) 41 16 ((M 41 16) + 1))))))) : A_X10_layOne_29 G X P l1 l2 l3 w M := by
  unfold A_X10_layOne_29
  refine s_iload_n C dX10_layOne_29 rfl ?_
  refine s_aload_n C dX10_layOne_30 rfl ?_
  refine WA.fix (fun hF1 => ?_)
  refine gf_X10_34 C (sh_41 hF1) dX10_layOne_31 (fx_41_9 hF1) ?_
  refine s_iload_n C dX10_layOne_34 rfl ?_
  obtain ⟨o2, h⟩ := h
  obtain ⟨o3, h⟩ := h
  refine s_iald (v0 := (M 50 l1)) C (sh_50 hF1) o2 o3 dX10_layOne_35 rfl ?_
  refine s_icmpgt C dX10_layOne_36 rfl (fun hc => ?_) (fun hc => ?_)
  · have h := h.1 hc
    obtain ⟨o4, h⟩ := h
    refine s_iinc (ls' := [(2, 41), (0, l1), (0, (l2 + 1)), (0, l3), (3, 0)]) C dX10_layOne_94 (by decide) rfl o4 rfl rfl ?_
    refine s_goto C dX10_layOne_97 rfl ?_
    exact WA.wk h ⟨Or.inr rfl, Or.inr rfl, Or.inr rfl, Or.inl rfl, Or.inl rfl, trivial⟩
  · have h := h.2 hc
    refine s_aload_n C dX10_layOne_39 rfl ?_
    refine gf_X10_7 C (sh_41 hF1) dX10_layOne_40 (fx_41_0 hF1) ?_
    refine s_bipush C dX10_layOne_43 ⟨rfl, by decide, by decide⟩ ?_
    refine s_aload_n C dX10_layOne_45 rfl ?_
    refine gf_X10_22 C (sh_41 hF1) dX10_layOne_46 (fx_41_5 hF1) ?_
    refine s_iload_n C dX10_layOne_49 rfl ?_
    refine s_iald (v0 := (M 46 l1)) C (sh_46 hF1) o2 o3 dX10_layOne_50 rfl ?_
    obtain ⟨o5, h⟩ := h
    refine s_imul C dX10_layOne_51 o5 ?_
    refine s_bipush C dX10_layOne_52 ⟨rfl, by decide, by decide⟩ ?_
    refine s_iload_n C dX10_layOne_54 rfl ?_
    obtain ⟨o6, h⟩ := h
    refine s_imul C dX10_layOne_55 o6 ?_
    obtain ⟨o7, h⟩ := h
    refine s_iadd C dX10_layOne_56 o7 ?_
    refine s_iload_n C dX10_layOne_57 rfl ?_
    obtain ⟨o8, h⟩ := h
    refine s_iadd C dX10_layOne_58 o8 ?_
    obtain ⟨o9, h⟩ := h
    obtain ⟨o10, h⟩ := h
    refine s_iald (v0 := (M 42 (((60 * (M 46 l1)) + (10 * l2)) + l3))) C (sh_42 hF1) o9 o10 dX10_layOne_59 rfl ?_
    refine s_istore (ls' := [(2, 41), (0, l1), (0, l2), (0, l3), (0, (M 42 (((60 * (M 46 l1)) + (10 * l2)) + l3)))]) C dX10_layOne_60 (by decide) rfl rfl ?_
    refine s_iload C dX10_layOne_62 rfl ?_
    refine s_iflt C dX10_layOne_64 rfl (fun hc => ?_) (fun hc => ?_)
    · have h := h.1 hc
      obtain ⟨o11, h⟩ := h
      refine s_iinc (ls' := [(2, 41), (0, l1), (0, l2), (0, (l3 + 1)), (0, (M 42 (((60 * (M 46 l1)) + (10 * l2)) + l3)))]) C dX10_layOne_88 (by decide) rfl o11 rfl rfl ?_
      refine s_goto C dX10_layOne_91 rfl ?_
      exact WA.wk h ⟨Or.inr rfl, Or.inr rfl, Or.inr rfl, Or.inr rfl, Or.inl rfl, trivial⟩
    · have h := h.2 hc
      refine s_aload_n C dX10_layOne_67 rfl ?_
      refine gf_X10_46 C (sh_41 hF1) dX10_layOne_68 (fx_41_14 hF1) ?_
      refine s_aload_n C dX10_layOne_71 rfl ?_
      refine gf_X10_176 (v0 := (M 41 16)) C (sh_41 hF1) dX10_layOne_72 rfl ?_
      refine s_iload C dX10_layOne_75 rfl ?_
      obtain ⟨o12, h⟩ := h
      obtain ⟨o13, h⟩ := h
      refine s_iast C (sh_54 hF1) o12 o13 (fun _ => by decide) dX10_layOne_77 ?_
      refine s_aload_n C dX10_layOne_78 rfl ?_
      refine s_dup C (by simp) dX10_layOne_79 ?_
      refine gf_X10_176 (v0 := (M 41 16)) C (sh_41 hF1) dX10_layOne_80 (up_na (by decide)) ?_
      refine s_iconst C dX10_layOne_83 (by decide) ?_
      obtain ⟨o14, h⟩ := h
      refine s_iadd C dX10_layOne_84 o14 ?_
      refine pf_X10_176 C (sh_41 hF1) (fun _ => by decide) dX10_layOne_85 ?_
      obtain ⟨o15, h⟩ := h
      refine s_iinc (ls' := [(2, 41), (0, l1), (0, l2), (0, (l3 + 1)), (0, (M 42 (((60 * (M 46 l1)) + (10 * l2)) + l3)))]) C dX10_layOne_88 (by decide) rfl o15 rfl rfl ?_
      refine s_goto C dX10_layOne_91 rfl ?_
      exact WA.wk h ⟨Or.inr rfl, Or.inr rfl, Or.inr rfl, Or.inr rfl, Or.inl rfl, trivial⟩
theorem E_X10_layOne {G : GP} {l : Launch} {P : Int → NS → MM → Prop} {l1 : Int} {w : NS} {M : MM} (h : inR l1 → ∀ X : BX, X.2.1 = l → CX_X10_layOne G X → A_X10_layOne_0 G X P l1 w M) : CT_X10_layOne G l [(2, 41), (0, l1)] w M P :=
  CT.of RX10 "layOne" (by decide +kernel) rfl rfl rfl (Nat.le_of_ble_eq_true rfl) (fun hr X hX C => h (hr (0, l1) (by simp)) X hX C)
def A_X10_layBoth_0 (G : GP) (X : BX) (P : Int → NS → MM → Prop) (l1 : Int) (l2 : Int) (w : NS) (M : MM) : Prop := WA true G X (QM G X true 4 P) 4 0 [(2, 41), (0, l1), (0, l2), (3, 0)] [] 0 0 w M
def A_X10_layBoth_7 (G : GP) (X : BX) (P : Int → NS → MM → Prop) (l1 : Int) (l3 : Int) (w : NS) (M : MM) : Prop := WA true G X (QM G X true 4 P) 4 7 [(2, 41), (0, l1), (3, 0), (0, l3)] [] 0 0 w M
set_option maxHeartbeats 4000000 in
set_option maxRecDepth 100000 in
theorem B_X10_layBoth_0 {G : GP} {X : BX} {P : Int → NS → MM → Prop} {l1 : Int} {l2 : Int} {w : NS} {M : MM} (C : CX_X10_layBoth G X) (h : ∃ Q2 : Int → NS → MM → Prop, CT_X10_layOne G X.2.1 [(2, 41), (0, l2)] w M Q2 ∧ ∀ (z2 : Int) (w2 : NS) (M2 : MM), Q2 z2 w2 M2 → A_X10_layBoth_7 G X P l1 0 w2 M2) : A_X10_layBoth_0 G X P l1 l2 w M := by
  unfold A_X10_layBoth_0
  refine s_aload_n C dX10_layBoth_0 rfl ?_
  refine s_iload_n C dX10_layBoth_1 rfl ?_
  refine WA.fix (fun hF1 => ?_)
  obtain ⟨Q2, hKQ2, h⟩ := h
  refine s_callV (ci := 10) (av := [(0, l2)]) (rest := []) (mc := 0) (ms := 0) C dX10_layBoth_2 lk_X10_179 (sh_41 hF1) (by decide) rfl rfl rfl (Nat.le_of_ble_eq_true rfl) (by decide) (by decide) hKQ2 (fun z2 w2 M2 hq => ?_)
  have h := h z2 w2 M2 hq
  refine s_iconst C dX10_layBoth_5 (by decide) ?_
  refine s_istore_n (ls' := [(2, 41), (0, l1), (0, l2), (0, 0)]) C dX10_layBoth_6 (by decide) rfl rfl ?_
  exact WA.wk h ⟨Or.inr rfl, Or.inr rfl, Or.inl rfl, Or.inr rfl, trivial⟩
set_option maxHeartbeats 4000000 in
set_option maxRecDepth 100000 in
theorem B_X10_layBoth_7 {G : GP} {X : BX} {P : Int → NS → MM → Prop} {l1 : Int} {l3 : Int} {w : NS} {M : MM} (C : CX_X10_layBoth G X) (h : ((((M 41 16) ≤ l3) → ∃ Q2 : Int → NS → MM → Prop, CT_X10_layOne G X.2.1 [(2, 41), (0, l1)] w (up M 41 17 (M 41 16)) Q2 ∧ ∀ (z2 : Int) (w2 : NS) (M2 : MM), Q2 z2 w2 M2 → P 0 w2 M2) ∧ ((¬ ((M 41 16) ≤ l3)) → (0 ≤ l3) ∧ (l3 < 60) ∧ (inR (l3 + 1)) ∧ A_X10_layBoth_7 G X P l1 (l3 + 1) w (up M 55 l3 (M 54 l3))))) : A_X10_layBoth_7 G X P l1 l3 w M := by
  unfold A_X10_layBoth_7
  refine s_iload_n C dX10_layBoth_7 rfl ?_
  refine s_aload_n C dX10_layBoth_8 rfl ?_
  refine WA.fix (fun hF1 => ?_)
  refine gf_X10_176 (v0 := (M 41 16)) C (sh_41 hF1) dX10_layBoth_9 rfl ?_
  refine s_icmpge C dX10_layBoth_12 rfl (fun hc => ?_) (fun hc => ?_)
  · have h := h.1 hc
    refine s_aload_n C dX10_layBoth_33 rfl ?_
    refine s_aload_n C dX10_layBoth_34 rfl ?_
    refine gf_X10_176 (v0 := (M 41 16)) C (sh_41 hF1) dX10_layBoth_35 rfl ?_
    refine pf_X10_183 C (sh_41 hF1) (fun _ => by decide) dX10_layBoth_38 ?_
    refine s_aload_n C dX10_layBoth_41 rfl ?_
    refine s_iload_n C dX10_layBoth_42 rfl ?_
    obtain ⟨Q2, hKQ2, h⟩ := h
    refine s_callV (ci := 10) (av := [(0, l1)]) (rest := []) (mc := 0) (ms := 0) C dX10_layBoth_43 lk_X10_179 (sh_41 hF1) (by decide) rfl rfl rfl (Nat.le_of_ble_eq_true rfl) (by decide) (by decide) hKQ2 (fun z2 w2 M2 hq => ?_)
    have h := h z2 w2 M2 hq
    exact s_vreturn C dX10_layBoth_46 h
  · have h := h.2 hc
    refine s_aload_n C dX10_layBoth_15 rfl ?_
    refine gf_X10_49 C (sh_41 hF1) dX10_layBoth_16 (fx_41_15 hF1) ?_
    refine s_iload_n C dX10_layBoth_19 rfl ?_
    refine s_aload_n C dX10_layBoth_20 rfl ?_
    refine gf_X10_46 C (sh_41 hF1) dX10_layBoth_21 (fx_41_14 hF1) ?_
    refine s_iload_n C dX10_layBoth_24 rfl ?_
    obtain ⟨o3, h⟩ := h
    obtain ⟨o4, h⟩ := h
    refine s_iald (v0 := (M 54 l3)) C (sh_54 hF1) o3 o4 dX10_layBoth_25 rfl ?_
    refine s_iast C (sh_55 hF1) o3 o4 (fun _ => by decide) dX10_layBoth_26 ?_
    obtain ⟨o5, h⟩ := h
    refine s_iinc (ls' := [(2, 41), (0, l1), (3, 0), (0, (l3 + 1))]) C dX10_layBoth_27 (by decide) rfl o5 rfl rfl ?_
    refine s_goto C dX10_layBoth_30 rfl ?_
    exact h
theorem E_X10_layBoth {G : GP} {l : Launch} {P : Int → NS → MM → Prop} {l1 : Int} {l2 : Int} {w : NS} {M : MM} (h : inR l1 → inR l2 → ∀ X : BX, X.2.1 = l → CX_X10_layBoth G X → A_X10_layBoth_0 G X P l1 l2 w M) : CT_X10_layBoth G l [(2, 41), (0, l1), (0, l2)] w M P :=
  CT.of RX10 "layBoth" (by decide +kernel) rfl rfl rfl (Nat.le_of_ble_eq_true rfl) (fun hr X hX C => h (hr (0, l1) (by simp)) (hr (0, l2) (by simp)) X hX C)
def A_X10_changesOf_0 (G : GP) (X : BX) (P : Int → NS → MM → Prop) (l1 : Int) (l2 : Int) (w : NS) (M : MM) : Prop := WA true G X (QM G X true 0 P) 8 0 [(2, 41), (0, l1), (0, l2), (3, 0), (3, 0), (3, 0), (3, 0), (3, 0)] [] 0 0 w M
def A_X10_changesOf_8 (G : GP) (X : BX) (P : Int → NS → MM → Prop) (l3 : Int) (w : NS) (M : MM) : Prop := WA true G X (QM G X true 0 P) 8 8 [(2, 41), (3, 0), (3, 0), (0, l3), (3, 0), (3, 0), (3, 0), (3, 0)] [] 0 0 w M
def A_X10_changesOf_31 (G : GP) (X : BX) (P : Int → NS → MM → Prop) (l3 : Int) (w : NS) (M : MM) : Prop := WA true G X (QM G X true 0 P) 8 31 [(2, 41), (3, 0), (3, 0), (0, l3), (3, 0), (3, 0), (3, 0), (3, 0)] [] 0 0 w M
def A_X10_changesOf_57 (G : GP) (X : BX) (P : Int → NS → MM → Prop) (l3 : Int) (l4 : Int) (l5 : Int) (w : NS) (M : MM) : Prop := WA true G X (QM G X true 0 P) 8 57 [(2, 41), (3, 0), (3, 0), (0, l3), (0, l4), (0, l5), (3, 0), (3, 0)] [] 0 0 w M
set_option maxHeartbeats 4000000 in
set_option maxRecDepth 100000 in
theorem B_X10_changesOf_0 {G : GP} {X : BX} {P : Int → NS → MM → Prop} {l1 : Int} {l2 : Int} {w : NS} {M : MM} (C : CX_X10_changesOf G X) (h : ∃ Q2 : Int → NS → MM → Prop, CT_X10_layBoth G X.2.1 [(2, 41), (0, l1), (0, l2)] w M Q2 ∧ ∀ (z2 : Int) (w2 : NS) (M2 : MM), Q2 z2 w2 M2 → A_X10_changesOf_8 G X P 0 w2 M2) : A_X10_changesOf_0 G X P l1 l2 w M := by
  unfold A_X10_changesOf_0
  refine s_aload_n C dX10_changesOf_0 rfl ?_
  refine s_iload_n C dX10_changesOf_1 rfl ?_
  refine s_iload_n C dX10_changesOf_2 rfl ?_
  refine WA.fix (fun hF1 => ?_)
  obtain ⟨Q2, hKQ2, h⟩ := h
  refine s_callV (ci := 10) (av := [(0, l1), (0, l2)]) (rest := []) (mc := 0) (ms := 0) C dX10_changesOf_3 lk_X10_258 (sh_41 hF1) (by decide) rfl rfl rfl (Nat.le_of_ble_eq_true rfl) (by decide) (by decide) hKQ2 (fun z2 w2 M2 hq => ?_)
  have h := h z2 w2 M2 hq
  refine s_iconst C dX10_changesOf_6 (by decide) ?_
  refine s_istore_n (ls' := [(2, 41), (0, l1), (0, l2), (0, 0), (3, 0), (3, 0), (3, 0), (3, 0)]) C dX10_changesOf_7 (by decide) rfl rfl ?_
  exact WA.wk h ⟨Or.inr rfl, Or.inl rfl, Or.inl rfl, Or.inr rfl, Or.inl rfl, Or.inl rfl, Or.inl rfl, Or.inl rfl, trivial⟩
set_option maxHeartbeats 4000000 in
set_option maxRecDepth 100000 in
theorem B_X10_changesOf_8 {G : GP} {X : BX} {P : Int → NS → MM → Prop} {l3 : Int} {w : NS} {M : MM} (C : CX_X10_changesOf G X) (h : ((((M 41 17) < l3) → A_X10_changesOf_31 G X P 1 w M) ∧ ((¬ ((M 41 17) < l3)) → (0 ≤ l3) ∧ (l3 < 61) ∧ (inR (l3 + 1)) ∧ A_X10_changesOf_8 G X P (l3 + 1) w (up M 67 l3 l3)))) : A_X10_changesOf_8 G X P l3 w M := by
  unfold A_X10_changesOf_8
  refine s_iload_n C dX10_changesOf_8 rfl ?_
  refine s_aload_n C dX10_changesOf_9 rfl ?_
  refine WA.fix (fun hF1 => ?_)
  refine gf_X10_183 (v0 := (M 41 17)) C (sh_41 hF1) dX10_changesOf_10 rfl ?_
  refine s_icmpgt C dX10_changesOf_13 rfl (fun hc => ?_) (fun hc => ?_)
  · have h := h.1 hc
    refine s_iconst C dX10_changesOf_29 (by decide) ?_
    refine s_istore_n (ls' := [(2, 41), (3, 0), (3, 0), (0, 1), (3, 0), (3, 0), (3, 0), (3, 0)]) C dX10_changesOf_30 (by decide) rfl rfl ?_
    exact h
  · have h := h.2 hc
    refine s_aload_n C dX10_changesOf_16 rfl ?_
    refine gf_X10_86 C (sh_41 hF1) dX10_changesOf_17 (fx_41_31 hF1) ?_
    refine s_iload_n C dX10_changesOf_20 rfl ?_
    refine s_iload_n C dX10_changesOf_21 rfl ?_
    obtain ⟨o2, h⟩ := h
    obtain ⟨o3, h⟩ := h
    refine s_iast C (sh_67 hF1) o2 o3 (fun _ => by decide) dX10_changesOf_22 ?_
    obtain ⟨o4, h⟩ := h
    refine s_iinc (ls' := [(2, 41), (3, 0), (3, 0), (0, (l3 + 1)), (3, 0), (3, 0), (3, 0), (3, 0)]) C dX10_changesOf_23 (by decide) rfl o4 rfl rfl ?_
    refine s_goto C dX10_changesOf_26 rfl ?_
    exact h
set_option maxHeartbeats 4000000 in
set_option maxRecDepth 100000 in
theorem B_X10_changesOf_31 {G : GP} {X : BX} {P : Int → NS → MM → Prop} {l3 : Int} {w : NS} {M : MM} (C : CX_X10_changesOf G X) (h : ((((M 41 16) < l3) → (0 ≤ (M 41 17)) ∧ ((M 41 17) < 61) ∧ P (M 67 (M 41 17)) w M) ∧ ((¬ ((M 41 16) < l3)) → A_X10_changesOf_57 G X P l3 (M 67 0) 1 w (up M 67 0 l3)))) : A_X10_changesOf_31 G X P l3 w M := by
  unfold A_X10_changesOf_31
  refine s_iload_n C dX10_changesOf_31 rfl ?_
  refine s_aload_n C dX10_changesOf_32 rfl ?_
  refine WA.fix (fun hF1 => ?_)
  refine gf_X10_176 (v0 := (M 41 16)) C (sh_41 hF1) dX10_changesOf_33 rfl ?_
  refine s_icmpgt C dX10_changesOf_36 rfl (fun hc => ?_) (fun hc => ?_)
  · have h := h.1 hc
    refine s_aload_n C dX10_changesOf_184 rfl ?_
    refine gf_X10_86 C (sh_41 hF1) dX10_changesOf_185 (fx_41_31 hF1) ?_
    refine s_aload_n C dX10_changesOf_188 rfl ?_
    refine gf_X10_183 (v0 := (M 41 17)) C (sh_41 hF1) dX10_changesOf_189 rfl ?_
    obtain ⟨o2, h⟩ := h
    obtain ⟨o3, h⟩ := h
    refine s_iald (v0 := (M 67 (M 41 17))) C (sh_67 hF1) o2 o3 dX10_changesOf_192 rfl ?_
    exact s_ireturn C dX10_changesOf_193 h
  · have h := h.2 hc
    refine s_aload_n C dX10_changesOf_39 rfl ?_
    refine gf_X10_86 C (sh_41 hF1) dX10_changesOf_40 (fx_41_31 hF1) ?_
    refine s_iconst C dX10_changesOf_43 (by decide) ?_
    refine s_iald (v0 := (M 67 0)) C (sh_67 hF1) (by decide) (by decide) dX10_changesOf_44 rfl ?_
    refine s_istore (ls' := [(2, 41), (3, 0), (3, 0), (0, l3), (0, (M 67 0)), (3, 0), (3, 0), (3, 0)]) C dX10_changesOf_45 (by decide) rfl rfl ?_
    refine s_aload_n C dX10_changesOf_47 rfl ?_
    refine gf_X10_86 C (sh_41 hF1) dX10_changesOf_48 (fx_41_31 hF1) ?_
    refine s_iconst C dX10_changesOf_51 (by decide) ?_
    refine s_iload_n C dX10_changesOf_52 rfl ?_
    refine s_iast C (sh_67 hF1) (by decide) (by decide) (fun _ => by decide) dX10_changesOf_53 ?_
    refine s_iconst C dX10_changesOf_54 (by decide) ?_
    refine s_istore (ls' := [(2, 41), (3, 0), (3, 0), (0, l3), (0, (M 67 0)), (0, 1), (3, 0), (3, 0)]) C dX10_changesOf_55 (by decide) rfl rfl ?_
    exact h
set_option maxHeartbeats 4000000 in
set_option maxRecDepth 100000 in
theorem B_X10_changesOf_57 {G : GP} {X : BX} {P : Int → NS → MM → Prop} {l3 : Int} {l4 : Int} {l5 : Int} {w : NS} {M : MM} (C : CX_X10_changesOf G X) (h : ((((M 41 17) < l5) → (inR (l3 + 1)) ∧ A_X10_changesOf_31 G X P (l3 + 1) w M) ∧ ((¬ ((M 41 17) < l5)) → (0 ≤ l5) ∧ (l5 < 61) ∧ (inR (l3 - 1)) ∧ (0 ≤ (l3 - 1)) ∧ ((l3 - 1) < 60) ∧ (inR (l5 - 1)) ∧ (0 ≤ (l5 - 1)) ∧ ((l5 - 1) < 60) ∧ ((((M 54 (l3 - 1)) ≠ (M 55 (l5 - 1))) → (inR (l4 + 1)) ∧ (inR ((M 67 l5) + 1)) ∧ ((((l4 + 1) ≤ ((M 67 l5) + 1)) → ((l5 - 1) < 61) ∧ (inR ((M 67 (l5 - 1)) + 1)) ∧ ((((l4 + 1) ≤ ((M 67 (l5 - 1)) + 1)) → (inR (l5 + 1)) ∧ A_X10_changesOf_57 G X P l3 (M 67 l5) (l5 + 1) w (up M 67 l5 (l4 + 1))) ∧ ((¬ ((l4 + 1) ≤ ((M 67 (l5 - 1)) + 1))) → (inR (l5 + 1)) ∧ A_X10_changesOf_57 G X P l3 (M 67 l5) (l5 + 1) w (up M 67 l5 ((M 67 (l5 - 1)) + 1))))) ∧ ((¬ ((l4 + 1) ≤ ((M 67 l5) + 1))) → ((l5 - 1) < 61) ∧ (inR ((M 67 (l5 - 1)) + 1)) ∧ (((((M 67 l5) + 1) ≤ ((M 67 (l5 - 1)) + 1)) → (inR (l5 + 1)) ∧ A_X10_changesOf_57 G X P l3 (M 67 l5) (l5 + 1) w (up M 67 l5 ((M 67 l5) + 1))) ∧ ((¬ (((M 67 l5) + 1) ≤ ((M 67 (l5 - 1)) + 1))) → (inR (l5 + 1)) ∧ A_X10_changesOf_57 G X P l3 (M 67 l5) (l5 + 1) w (up M 67 l5 ((M 67 (l5 - 1)) + 1))))))) ∧ ((¬ ((M 54 (l3 - 1)) ≠ (M 55 (l5 - 1)))) → (inR (l4 + 0)) ∧ (inR ((M 67 l5) + 1)) ∧ ((((l4 + 0) ≤ ((M 67 l5) + 1)) → ((l5 - 1) < 61) ∧ (inR ((M 67 (l5 - 1)) + 1)) ∧ ((((l4 + 0) ≤ ((M 67 (l5 - 1)) + 1)) → (inR (l5 + 1)) ∧ A_X10_changesOf_57 G X P l3 (M 67 l5) (l5 + 1) w (up M 67 l5 (l4 + 0))) ∧ ((¬ ((l4 + 0) ≤ ((M 67 (l5 - 1)) + 1))) → (inR (l5 + 1)) ∧ A_X10_changesOf_57 G X P l3 (M 67 l5) (l5 + 1) w (up M 67 l5 ((M 67 (l5 - 1)) + 1))))) ∧ ((¬ ((l4 + 0) ≤ ((M 67 l5) + 1))) → ((l5 - 1) < 61) ∧ (inR ((M 67 (l5 - 1)) + 1)) ∧ (((((M 67 l5) + 1) ≤ ((M 67 (l5 - 1)) + 1)) → (inR (l5 + 1)) ∧ A_X10_changesOf_57 G X P l3 (M 67 l5) (l5 + 1) w (up M 67 l5 ((M 67 l5) + 1))) ∧ ((¬ (((M 67 l5) + 1) ≤ ((M 67 (l5 - 1)) + 1))) → (inR (l5 + 1)) ∧ A_X10_changesOf_57 G X P l3 (M 67 l5) (l5 + 1) w (up M 67 l5 ((M 67 (l5 - 1)) + 1))))))))))) : A_X10_changesOf_57 G X P l3 l4 l5 w M := by
  unfold A_X10_changesOf_57
  refine s_iload C dX10_changesOf_57 rfl ?_
  refine s_aload_n C dX10_changesOf_59 rfl ?_
  refine WA.fix (fun hF1 => ?_)
  refine gf_X10_183 (v0 := (M 41 17)) C (sh_41 hF1) dX10_changesOf_60 rfl ?_
  refine s_icmpgt C dX10_changesOf_63 rfl (fun hc => ?_) (fun hc => ?_)
  · have h := h.1 hc
    obtain ⟨o2, h⟩ := h
    refine s_iinc (ls' := [(2, 41), (3, 0), (3, 0), (0, (l3 + 1)), (0, l4), (0, l5), (3, 0), (3, 0)]) C dX10_changesOf_178 (by decide) rfl o2 rfl rfl ?_
    refine s_goto C dX10_changesOf_181 rfl ?_
    exact WA.wk h ⟨Or.inr rfl, Or.inl rfl, Or.inl rfl, Or.inr rfl, Or.inl rfl, Or.inl rfl, Or.inl rfl, Or.inl rfl, trivial⟩
  · have h := h.2 hc
    refine s_aload_n C dX10_changesOf_66 rfl ?_
    refine gf_X10_86 C (sh_41 hF1) dX10_changesOf_67 (fx_41_31 hF1) ?_
    refine s_iload C dX10_changesOf_70 rfl ?_
    obtain ⟨o3, h⟩ := h
    obtain ⟨o4, h⟩ := h
    refine s_iald (v0 := (M 67 l5)) C (sh_67 hF1) o3 o4 dX10_changesOf_72 rfl ?_
    refine s_istore (ls' := [(2, 41), (3, 0), (3, 0), (0, l3), (0, l4), (0, l5), (0, (M 67 l5)), (3, 0)]) C dX10_changesOf_73 (by decide) rfl rfl ?_
    refine s_iload C dX10_changesOf_75 rfl ?_
    refine s_aload_n C dX10_changesOf_77 rfl ?_
    refine gf_X10_46 C (sh_41 hF1) dX10_changesOf_78 (fx_41_14 hF1) ?_
    refine s_iload_n C dX10_changesOf_81 rfl ?_
    refine s_iconst C dX10_changesOf_82 (by decide) ?_
    obtain ⟨o5, h⟩ := h
    refine s_isub C dX10_changesOf_83 o5 ?_
    obtain ⟨o6, h⟩ := h
    obtain ⟨o7, h⟩ := h
    refine s_iald (v0 := (M 54 (l3 - 1))) C (sh_54 hF1) o6 o7 dX10_changesOf_84 rfl ?_
    refine s_aload_n C dX10_changesOf_85 rfl ?_
    refine gf_X10_49 C (sh_41 hF1) dX10_changesOf_86 (fx_41_15 hF1) ?_
    refine s_iload C dX10_changesOf_89 rfl ?_
    refine s_iconst C dX10_changesOf_91 (by decide) ?_
    obtain ⟨o8, h⟩ := h
    refine s_isub C dX10_changesOf_92 o8 ?_
    obtain ⟨o9, h⟩ := h
    obtain ⟨o10, h⟩ := h
    refine s_iald (v0 := (M 55 (l5 - 1))) C (sh_55 hF1) o9 o10 dX10_changesOf_93 rfl ?_
    refine s_icmpne C dX10_changesOf_94 rfl (fun hc => ?_) (fun hc => ?_)
    · have h := h.1 hc
      refine s_iconst C dX10_changesOf_101 (by decide) ?_
      obtain ⟨o11, h⟩ := h
      refine s_iadd C dX10_changesOf_102 o11 ?_
      refine s_istore (ls' := [(2, 41), (3, 0), (3, 0), (0, l3), (0, l4), (0, l5), (0, (M 67 l5)), (0, (l4 + 1))]) C dX10_changesOf_103 (by decide) rfl rfl ?_
      refine s_iload C dX10_changesOf_105 rfl ?_
      refine s_iconst C dX10_changesOf_107 (by decide) ?_
      obtain ⟨o12, h⟩ := h
      refine s_iadd C dX10_changesOf_108 o12 ?_
      refine s_iload C dX10_changesOf_109 rfl ?_
      refine s_icmpge C dX10_changesOf_111 rfl (fun hc => ?_) (fun hc => ?_)
      · have h := h.1 hc
        refine s_iload C dX10_changesOf_121 rfl ?_
        refine s_istore (ls' := [(2, 41), (3, 0), (3, 0), (0, l3), (0, l4), (0, l5), (0, (M 67 l5)), (0, (l4 + 1))]) C dX10_changesOf_123 (by decide) rfl rfl ?_
        refine s_aload_n C dX10_changesOf_125 rfl ?_
        refine gf_X10_86 C (sh_41 hF1) dX10_changesOf_126 (fx_41_31 hF1) ?_
        refine s_iload C dX10_changesOf_129 rfl ?_
        refine s_iconst C dX10_changesOf_131 (by decide) ?_
        refine s_isub C dX10_changesOf_132 o8 ?_
        obtain ⟨o13, h⟩ := h
        refine s_iald (v0 := (M 67 (l5 - 1))) C (sh_67 hF1) o9 o13 dX10_changesOf_133 rfl ?_
        refine s_iconst C dX10_changesOf_134 (by decide) ?_
        obtain ⟨o14, h⟩ := h
        refine s_iadd C dX10_changesOf_135 o14 ?_
        refine s_iload C dX10_changesOf_136 rfl ?_
        refine s_icmpge C dX10_changesOf_138 rfl (fun hc => ?_) (fun hc => ?_)
        · have h := h.1 hc
          refine s_iload C dX10_changesOf_155 rfl ?_
          refine s_istore (ls' := [(2, 41), (3, 0), (3, 0), (0, l3), (0, l4), (0, l5), (0, (M 67 l5)), (0, (l4 + 1))]) C dX10_changesOf_157 (by decide) rfl rfl ?_
          refine s_aload_n C dX10_changesOf_159 rfl ?_
          refine gf_X10_86 C (sh_41 hF1) dX10_changesOf_160 (fx_41_31 hF1) ?_
          refine s_iload C dX10_changesOf_163 rfl ?_
          refine s_iload C dX10_changesOf_165 rfl ?_
          refine s_iast C (sh_67 hF1) o3 o4 (fun _ => by decide) dX10_changesOf_167 ?_
          refine s_iload C dX10_changesOf_168 rfl ?_
          refine s_istore (ls' := [(2, 41), (3, 0), (3, 0), (0, l3), (0, (M 67 l5)), (0, l5), (0, (M 67 l5)), (0, (l4 + 1))]) C dX10_changesOf_170 (by decide) rfl rfl ?_
          obtain ⟨o15, h⟩ := h
          refine s_iinc (ls' := [(2, 41), (3, 0), (3, 0), (0, l3), (0, (M 67 l5)), (0, (l5 + 1)), (0, (M 67 l5)), (0, (l4 + 1))]) C dX10_changesOf_172 (by decide) rfl o15 rfl rfl ?_
          refine s_goto C dX10_changesOf_175 rfl ?_
          exact WA.wk h ⟨Or.inr rfl, Or.inl rfl, Or.inl rfl, Or.inr rfl, Or.inr rfl, Or.inr rfl, Or.inl rfl, Or.inl rfl, trivial⟩
        · have h := h.2 hc
          refine s_aload_n C dX10_changesOf_141 rfl ?_
          refine gf_X10_86 C (sh_41 hF1) dX10_changesOf_142 (fx_41_31 hF1) ?_
          refine s_iload C dX10_changesOf_145 rfl ?_
          refine s_iconst C dX10_changesOf_147 (by decide) ?_
          refine s_isub C dX10_changesOf_148 o8 ?_
          refine s_iald (v0 := (M 67 (l5 - 1))) C (sh_67 hF1) o9 o13 dX10_changesOf_149 rfl ?_
          refine s_iconst C dX10_changesOf_150 (by decide) ?_
          refine s_iadd C dX10_changesOf_151 o14 ?_
          refine s_goto C dX10_changesOf_152 rfl ?_
          refine s_istore (ls' := [(2, 41), (3, 0), (3, 0), (0, l3), (0, l4), (0, l5), (0, (M 67 l5)), (0, ((M 67 (l5 - 1)) + 1))]) C dX10_changesOf_157 (by decide) rfl rfl ?_
          refine s_aload_n C dX10_changesOf_159 rfl ?_
          refine gf_X10_86 C (sh_41 hF1) dX10_changesOf_160 (fx_41_31 hF1) ?_
          refine s_iload C dX10_changesOf_163 rfl ?_
          refine s_iload C dX10_changesOf_165 rfl ?_
          refine s_iast C (sh_67 hF1) o3 o4 (fun _ => by decide) dX10_changesOf_167 ?_
          refine s_iload C dX10_changesOf_168 rfl ?_
          refine s_istore (ls' := [(2, 41), (3, 0), (3, 0), (0, l3), (0, (M 67 l5)), (0, l5), (0, (M 67 l5)), (0, ((M 67 (l5 - 1)) + 1))]) C dX10_changesOf_170 (by decide) rfl rfl ?_
          obtain ⟨o16, h⟩ := h
          refine s_iinc (ls' := [(2, 41), (3, 0), (3, 0), (0, l3), (0, (M 67 l5)), (0, (l5 + 1)), (0, (M 67 l5)), (0, ((M 67 (l5 - 1)) + 1))]) C dX10_changesOf_172 (by decide) rfl o16 rfl rfl ?_
          refine s_goto C dX10_changesOf_175 rfl ?_
          exact WA.wk h ⟨Or.inr rfl, Or.inl rfl, Or.inl rfl, Or.inr rfl, Or.inr rfl, Or.inr rfl, Or.inl rfl, Or.inl rfl, trivial⟩
      · have h := h.2 hc
        refine s_iload C dX10_changesOf_114 rfl ?_
        refine s_iconst C dX10_changesOf_116 (by decide) ?_
        refine s_iadd C dX10_changesOf_117 o12 ?_
        refine s_goto C dX10_changesOf_118 rfl ?_
        refine s_istore (ls' := [(2, 41), (3, 0), (3, 0), (0, l3), (0, l4), (0, l5), (0, (M 67 l5)), (0, ((M 67 l5) + 1))]) C dX10_changesOf_123 (by decide) rfl rfl ?_
        refine s_aload_n C dX10_changesOf_125 rfl ?_
        refine gf_X10_86 C (sh_41 hF1) dX10_changesOf_126 (fx_41_31 hF1) ?_
        refine s_iload C dX10_changesOf_129 rfl ?_
        refine s_iconst C dX10_changesOf_131 (by decide) ?_
        refine s_isub C dX10_changesOf_132 o8 ?_
        obtain ⟨o17, h⟩ := h
        refine s_iald (v0 := (M 67 (l5 - 1))) C (sh_67 hF1) o9 o17 dX10_changesOf_133 rfl ?_
        refine s_iconst C dX10_changesOf_134 (by decide) ?_
        obtain ⟨o18, h⟩ := h
        refine s_iadd C dX10_changesOf_135 o18 ?_
        refine s_iload C dX10_changesOf_136 rfl ?_
        refine s_icmpge C dX10_changesOf_138 rfl (fun hc => ?_) (fun hc => ?_)
        · have h := h.1 hc
          refine s_iload C dX10_changesOf_155 rfl ?_
          refine s_istore (ls' := [(2, 41), (3, 0), (3, 0), (0, l3), (0, l4), (0, l5), (0, (M 67 l5)), (0, ((M 67 l5) + 1))]) C dX10_changesOf_157 (by decide) rfl rfl ?_
          refine s_aload_n C dX10_changesOf_159 rfl ?_
          refine gf_X10_86 C (sh_41 hF1) dX10_changesOf_160 (fx_41_31 hF1) ?_
          refine s_iload C dX10_changesOf_163 rfl ?_
          refine s_iload C dX10_changesOf_165 rfl ?_
          refine s_iast C (sh_67 hF1) o3 o4 (fun _ => by decide) dX10_changesOf_167 ?_
          refine s_iload C dX10_changesOf_168 rfl ?_
          refine s_istore (ls' := [(2, 41), (3, 0), (3, 0), (0, l3), (0, (M 67 l5)), (0, l5), (0, (M 67 l5)), (0, ((M 67 l5) + 1))]) C dX10_changesOf_170 (by decide) rfl rfl ?_
          obtain ⟨o19, h⟩ := h
          refine s_iinc (ls' := [(2, 41), (3, 0), (3, 0), (0, l3), (0, (M 67 l5)), (0, (l5 + 1)), (0, (M 67 l5)), (0, ((M 67 l5) + 1))]) C dX10_changesOf_172 (by decide) rfl o19 rfl rfl ?_
          refine s_goto C dX10_changesOf_175 rfl ?_
          exact WA.wk h ⟨Or.inr rfl, Or.inl rfl, Or.inl rfl, Or.inr rfl, Or.inr rfl, Or.inr rfl, Or.inl rfl, Or.inl rfl, trivial⟩
        · have h := h.2 hc
          refine s_aload_n C dX10_changesOf_141 rfl ?_
          refine gf_X10_86 C (sh_41 hF1) dX10_changesOf_142 (fx_41_31 hF1) ?_
          refine s_iload C dX10_changesOf_145 rfl ?_
          refine s_iconst C dX10_changesOf_147 (by decide) ?_
          refine s_isub C dX10_changesOf_148 o8 ?_
          refine s_iald (v0 := (M 67 (l5 - 1))) C (sh_67 hF1) o9 o17 dX10_changesOf_149 rfl ?_
          refine s_iconst C dX10_changesOf_150 (by decide) ?_
          refine s_iadd C dX10_changesOf_151 o18 ?_
          refine s_goto C dX10_changesOf_152 rfl ?_
          refine s_istore (ls' := [(2, 41), (3, 0), (3, 0), (0, l3), (0, l4), (0, l5), (0, (M 67 l5)), (0, ((M 67 (l5 - 1)) + 1))]) C dX10_changesOf_157 (by decide) rfl rfl ?_
          refine s_aload_n C dX10_changesOf_159 rfl ?_
          refine gf_X10_86 C (sh_41 hF1) dX10_changesOf_160 (fx_41_31 hF1) ?_
          refine s_iload C dX10_changesOf_163 rfl ?_
          refine s_iload C dX10_changesOf_165 rfl ?_
          refine s_iast C (sh_67 hF1) o3 o4 (fun _ => by decide) dX10_changesOf_167 ?_
          refine s_iload C dX10_changesOf_168 rfl ?_
          refine s_istore (ls' := [(2, 41), (3, 0), (3, 0), (0, l3), (0, (M 67 l5)), (0, l5), (0, (M 67 l5)), (0, ((M 67 (l5 - 1)) + 1))]) C dX10_changesOf_170 (by decide) rfl rfl ?_
          obtain ⟨o20, h⟩ := h
          refine s_iinc (ls' := [(2, 41), (3, 0), (3, 0), (0, l3), (0, (M 67 l5)), (0, (l5 + 1)), (0, (M 67 l5)), (0, ((M 67 (l5 - 1)) + 1))]) C dX10_changesOf_172 (by decide) rfl o20 rfl rfl ?_
          refine s_goto C dX10_changesOf_175 rfl ?_
          exact WA.wk h ⟨Or.inr rfl, Or.inl rfl, Or.inl rfl, Or.inr rfl, Or.inr rfl, Or.inr rfl, Or.inl rfl, Or.inl rfl, trivial⟩
    · have h := h.2 hc
      refine s_iconst C dX10_changesOf_97 (by decide) ?_
      refine s_goto C dX10_changesOf_98 rfl ?_
      obtain ⟨o21, h⟩ := h
      refine s_iadd C dX10_changesOf_102 o21 ?_
      refine s_istore (ls' := [(2, 41), (3, 0), (3, 0), (0, l3), (0, l4), (0, l5), (0, (M 67 l5)), (0, (l4 + 0))]) C dX10_changesOf_103 (by decide) rfl rfl ?_
      refine s_iload C dX10_changesOf_105 rfl ?_
      refine s_iconst C dX10_changesOf_107 (by decide) ?_
      obtain ⟨o22, h⟩ := h
      refine s_iadd C dX10_changesOf_108 o22 ?_
      refine s_iload C dX10_changesOf_109 rfl ?_
      refine s_icmpge C dX10_changesOf_111 rfl (fun hc => ?_) (fun hc => ?_)
      · have h := h.1 hc
        refine s_iload C dX10_changesOf_121 rfl ?_
        refine s_istore (ls' := [(2, 41), (3, 0), (3, 0), (0, l3), (0, l4), (0, l5), (0, (M 67 l5)), (0, (l4 + 0))]) C dX10_changesOf_123 (by decide) rfl rfl ?_
        refine s_aload_n C dX10_changesOf_125 rfl ?_
        refine gf_X10_86 C (sh_41 hF1) dX10_changesOf_126 (fx_41_31 hF1) ?_
        refine s_iload C dX10_changesOf_129 rfl ?_
        refine s_iconst C dX10_changesOf_131 (by decide) ?_
        refine s_isub C dX10_changesOf_132 o8 ?_
        obtain ⟨o23, h⟩ := h
        refine s_iald (v0 := (M 67 (l5 - 1))) C (sh_67 hF1) o9 o23 dX10_changesOf_133 rfl ?_
        refine s_iconst C dX10_changesOf_134 (by decide) ?_
        obtain ⟨o24, h⟩ := h
        refine s_iadd C dX10_changesOf_135 o24 ?_
        refine s_iload C dX10_changesOf_136 rfl ?_
        refine s_icmpge C dX10_changesOf_138 rfl (fun hc => ?_) (fun hc => ?_)
        · have h := h.1 hc
          refine s_iload C dX10_changesOf_155 rfl ?_
          refine s_istore (ls' := [(2, 41), (3, 0), (3, 0), (0, l3), (0, l4), (0, l5), (0, (M 67 l5)), (0, (l4 + 0))]) C dX10_changesOf_157 (by decide) rfl rfl ?_
          refine s_aload_n C dX10_changesOf_159 rfl ?_
          refine gf_X10_86 C (sh_41 hF1) dX10_changesOf_160 (fx_41_31 hF1) ?_
          refine s_iload C dX10_changesOf_163 rfl ?_
          refine s_iload C dX10_changesOf_165 rfl ?_
          refine s_iast C (sh_67 hF1) o3 o4 (fun _ => by decide) dX10_changesOf_167 ?_
          refine s_iload C dX10_changesOf_168 rfl ?_
          refine s_istore (ls' := [(2, 41), (3, 0), (3, 0), (0, l3), (0, (M 67 l5)), (0, l5), (0, (M 67 l5)), (0, (l4 + 0))]) C dX10_changesOf_170 (by decide) rfl rfl ?_
          obtain ⟨o25, h⟩ := h
          refine s_iinc (ls' := [(2, 41), (3, 0), (3, 0), (0, l3), (0, (M 67 l5)), (0, (l5 + 1)), (0, (M 67 l5)), (0, (l4 + 0))]) C dX10_changesOf_172 (by decide) rfl o25 rfl rfl ?_
          refine s_goto C dX10_changesOf_175 rfl ?_
          exact WA.wk h ⟨Or.inr rfl, Or.inl rfl, Or.inl rfl, Or.inr rfl, Or.inr rfl, Or.inr rfl, Or.inl rfl, Or.inl rfl, trivial⟩
        · have h := h.2 hc
          refine s_aload_n C dX10_changesOf_141 rfl ?_
          refine gf_X10_86 C (sh_41 hF1) dX10_changesOf_142 (fx_41_31 hF1) ?_
          refine s_iload C dX10_changesOf_145 rfl ?_
          refine s_iconst C dX10_changesOf_147 (by decide) ?_
          refine s_isub C dX10_changesOf_148 o8 ?_
          refine s_iald (v0 := (M 67 (l5 - 1))) C (sh_67 hF1) o9 o23 dX10_changesOf_149 rfl ?_
          refine s_iconst C dX10_changesOf_150 (by decide) ?_
          refine s_iadd C dX10_changesOf_151 o24 ?_
          refine s_goto C dX10_changesOf_152 rfl ?_
          refine s_istore (ls' := [(2, 41), (3, 0), (3, 0), (0, l3), (0, l4), (0, l5), (0, (M 67 l5)), (0, ((M 67 (l5 - 1)) + 1))]) C dX10_changesOf_157 (by decide) rfl rfl ?_
          refine s_aload_n C dX10_changesOf_159 rfl ?_
          refine gf_X10_86 C (sh_41 hF1) dX10_changesOf_160 (fx_41_31 hF1) ?_
          refine s_iload C dX10_changesOf_163 rfl ?_
          refine s_iload C dX10_changesOf_165 rfl ?_
          refine s_iast C (sh_67 hF1) o3 o4 (fun _ => by decide) dX10_changesOf_167 ?_
          refine s_iload C dX10_changesOf_168 rfl ?_
          refine s_istore (ls' := [(2, 41), (3, 0), (3, 0), (0, l3), (0, (M 67 l5)), (0, l5), (0, (M 67 l5)), (0, ((M 67 (l5 - 1)) + 1))]) C dX10_changesOf_170 (by decide) rfl rfl ?_
          obtain ⟨o26, h⟩ := h
          refine s_iinc (ls' := [(2, 41), (3, 0), (3, 0), (0, l3), (0, (M 67 l5)), (0, (l5 + 1)), (0, (M 67 l5)), (0, ((M 67 (l5 - 1)) + 1))]) C dX10_changesOf_172 (by decide) rfl o26 rfl rfl ?_
          refine s_goto C dX10_changesOf_175 rfl ?_
          exact WA.wk h ⟨Or.inr rfl, Or.inl rfl, Or.inl rfl, Or.inr rfl, Or.inr rfl, Or.inr rfl, Or.inl rfl, Or.inl rfl, trivial⟩
      · have h := h.2 hc
        refine s_iload C dX10_changesOf_114 rfl ?_
        refine s_iconst C dX10_changesOf_116 (by decide) ?_
        refine s_iadd C dX10_changesOf_117 o22 ?_
        refine s_goto C dX10_changesOf_118 rfl ?_
        refine s_istore (ls' := [(2, 41), (3, 0), (3, 0), (0, l3), (0, l4), (0, l5), (0, (M 67 l5)), (0, ((M 67 l5) + 1))]) C dX10_changesOf_123 (by decide) rfl rfl ?_
        refine s_aload_n C dX10_changesOf_125 rfl ?_
        refine gf_X10_86 C (sh_41 hF1) dX10_changesOf_126 (fx_41_31 hF1) ?_
        refine s_iload C dX10_changesOf_129 rfl ?_
        refine s_iconst C dX10_changesOf_131 (by decide) ?_
        refine s_isub C dX10_changesOf_132 o8 ?_
        obtain ⟨o27, h⟩ := h
        refine s_iald (v0 := (M 67 (l5 - 1))) C (sh_67 hF1) o9 o27 dX10_changesOf_133 rfl ?_
        refine s_iconst C dX10_changesOf_134 (by decide) ?_
        obtain ⟨o28, h⟩ := h
        refine s_iadd C dX10_changesOf_135 o28 ?_
        refine s_iload C dX10_changesOf_136 rfl ?_
        refine s_icmpge C dX10_changesOf_138 rfl (fun hc => ?_) (fun hc => ?_)
        · have h := h.1 hc
          refine s_iload C dX10_changesOf_155 rfl ?_
          refine s_istore (ls' := [(2, 41), (3, 0), (3, 0), (0, l3), (0, l4), (0, l5), (0, (M 67 l5)), (0, ((M 67 l5) + 1))]) C dX10_changesOf_157 (by decide) rfl rfl ?_
          refine s_aload_n C dX10_changesOf_159 rfl ?_
          refine gf_X10_86 C (sh_41 hF1) dX10_changesOf_160 (fx_41_31 hF1) ?_
          refine s_iload C dX10_changesOf_163 rfl ?_
          refine s_iload C dX10_changesOf_165 rfl ?_
          refine s_iast C (sh_67 hF1) o3 o4 (fun _ => by decide) dX10_changesOf_167 ?_
          refine s_iload C dX10_changesOf_168 rfl ?_
          refine s_istore (ls' := [(2, 41), (3, 0), (3, 0), (0, l3), (0, (M 67 l5)), (0, l5), (0, (M 67 l5)), (0, ((M 67 l5) + 1))]) C dX10_changesOf_170 (by decide) rfl rfl ?_
          obtain ⟨o29, h⟩ := h
          refine s_iinc (ls' := [(2, 41), (3, 0), (3, 0), (0, l3), (0, (M 67 l5)), (0, (l5 + 1)), (0, (M 67 l5)), (0, ((M 67 l5) + 1))]) C dX10_changesOf_172 (by decide) rfl o29 rfl rfl ?_
          refine s_goto C dX10_changesOf_175 rfl ?_
          exact WA.wk h ⟨Or.inr rfl, Or.inl rfl, Or.inl rfl, Or.inr rfl, Or.inr rfl, Or.inr rfl, Or.inl rfl, Or.inl rfl, trivial⟩
        · have h := h.2 hc
          refine s_aload_n C dX10_changesOf_141 rfl ?_
          refine gf_X10_86 C (sh_41 hF1) dX10_changesOf_142 (fx_41_31 hF1) ?_
          refine s_iload C dX10_changesOf_145 rfl ?_
          refine s_iconst C dX10_changesOf_147 (by decide) ?_
          refine s_isub C dX10_changesOf_148 o8 ?_
          refine s_iald (v0 := (M 67 (l5 - 1))) C (sh_67 hF1) o9 o27 dX10_changesOf_149 rfl ?_
          refine s_iconst C dX10_changesOf_150 (by decide) ?_
          refine s_iadd C dX10_changesOf_151 o28 ?_
          refine s_goto C dX10_changesOf_152 rfl ?_
          refine s_istore (ls' := [(2, 41), (3, 0), (3, 0), (0, l3), (0, l4), (0, l5), (0, (M 67 l5)), (0, ((M 67 (l5 - 1)) + 1))]) C dX10_changesOf_157 (by decide) rfl rfl ?_
          refine s_aload_n C dX10_changesOf_159 rfl ?_
          refine gf_X10_86 C (sh_41 hF1) dX10_changesOf_160 (fx_41_31 hF1) ?_
          refine s_iload C dX10_changesOf_163 rfl ?_
          refine s_iload C dX10_changesOf_165 rfl ?_
          refine s_iast C (sh_67 hF1) o3 o4 (fun _ => by decide) dX10_changesOf_167 ?_
          refine s_iload C dX10_changesOf_168 rfl ?_
          refine s_istore (ls' := [(2, 41), (3, 0), (3, 0), (0, l3), (0, (M 67 l5)), (0, l5), (0, (M 67 l5)), (0, ((M 67 (l5 - 1)) + 1))]) C dX10_changesOf_170 (by decide) rfl rfl ?_
          obtain ⟨o30, h⟩ := h
          refine s_iinc (ls' := [(2, 41), (3, 0), (3, 0), (0, l3), (0, (M 67 l5)), (0, (l5 + 1)), (0, (M 67 l5)), (0, ((M 67 (l5 - 1)) + 1))]) C dX10_changesOf_172 (by decide) rfl o30 rfl rfl ?_
          refine s_goto C dX10_changesOf_175 rfl ?_
          exact WA.wk h ⟨Or.inr rfl, Or.inl rfl, Or.inl rfl, Or.inr rfl, Or.inr rfl, Or.inr rfl, Or.inl rfl, Or.inl rfl, trivial⟩
theorem E_X10_changesOf {G : GP} {l : Launch} {P : Int → NS → MM → Prop} {l1 : Int} {l2 : Int} {w : NS} {M : MM} (h : inR l1 → inR l2 → ∀ X : BX, X.2.1 = l → CX_X10_changesOf G X → A_X10_changesOf_0 G X P l1 l2 w M) : CT_X10_changesOf G l [(2, 41), (0, l1), (0, l2)] w M P :=
  CT.of RX10 "changesOf" (by decide +kernel) rfl rfl rfl (Nat.le_of_ble_eq_true rfl) (fun hr X hX C => h (hr (0, l1) (by simp)) (hr (0, l2) (by simp)) X hX C)
def A_X10_areDoubles_0 (G : GP) (X : BX) (P : Int → NS → MM → Prop) (l1 : Int) (l2 : Int) (w : NS) (M : MM) : Prop := WA true G X (QM G X true 0 P) 5 0 [(2, 41), (0, l1), (0, l2), (3, 0), (3, 0)] [] 0 0 w M
set_option maxHeartbeats 4000000 in
set_option maxRecDepth 100000 in
theorem B_X10_areDoubles_0 {G : GP} {X : BX} {P : Int → NS → MM → Prop} {l1 : Int} {l2 : Int} {w : NS} {M : MM} (C : CX_X10_areDoubles G X) (h : ∃ Q2 : Int → NS → MM → Prop, CT_X10_changesOf G X.2.1 [(2, 41), (0, l1), (0, l2)] w M Q2 ∧ ∀ (z2 : Int) (w2 : NS) (M2 : MM), Q2 z2 w2 M2 → ((((M2 41 16) ≤ (M2 41 17)) → ((((M2 41 16) ≤ 0) → P 0 w2 M2) ∧ ((¬ ((M2 41 16) ≤ 0)) → ((((M2 41 17) ≤ 0) → P 0 w2 M2) ∧ ((¬ ((M2 41 17) ≤ 0)) → (inR (100 * z2)) ∧ (inR ((M2 53 0) * (M2 41 17))) ∧ (((((M2 53 0) * (M2 41 17)) < (100 * z2)) → P 0 w2 M2) ∧ ((¬ (((M2 53 0) * (M2 41 17)) < (100 * z2))) → P 1 w2 M2))))))) ∧ ((¬ ((M2 41 16) ≤ (M2 41 17))) → ((((M2 41 16) ≤ 0) → P 0 w2 M2) ∧ ((¬ ((M2 41 16) ≤ 0)) → ((((M2 41 17) ≤ 0) → P 0 w2 M2) ∧ ((¬ ((M2 41 17) ≤ 0)) → (inR (100 * z2)) ∧ (inR ((M2 53 0) * (M2 41 16))) ∧ (((((M2 53 0) * (M2 41 16)) < (100 * z2)) → P 0 w2 M2) ∧ ((¬ (((M2 53 0) * (M2 41 16)) < (100 * z2))) → P 1 w2 M2))))))))) : A_X10_areDoubles_0 G X P l1 l2 w M := by
  unfold A_X10_areDoubles_0
  refine s_aload_n C dX10_areDoubles_0 rfl ?_
  refine s_iload_n C dX10_areDoubles_1 rfl ?_
  refine s_iload_n C dX10_areDoubles_2 rfl ?_
  refine WA.fix (fun hF1 => ?_)
  obtain ⟨Q2, hKQ2, h⟩ := h
  refine s_callV (ci := 10) (av := [(0, l1), (0, l2)]) (rest := []) (mc := 0) (ms := 0) C dX10_areDoubles_3 lk_X10_262 (sh_41 hF1) (by decide) rfl rfl rfl (Nat.le_of_ble_eq_true rfl) (by decide) (by decide) hKQ2 (fun z2 w2 M2 hq => ?_)
  have h := h z2 w2 M2 hq
  refine s_istore_n (ls' := [(2, 41), (0, l1), (0, l2), (0, z2), (3, 0)]) C dX10_areDoubles_6 (by decide) rfl rfl ?_
  refine s_aload_n C dX10_areDoubles_7 rfl ?_
  refine WA.fix (fun hF3 => ?_)
  refine gf_X10_176 (v0 := (M2 41 16)) C (sh_41 hF3) dX10_areDoubles_8 rfl ?_
  refine s_aload_n C dX10_areDoubles_11 rfl ?_
  refine gf_X10_183 (v0 := (M2 41 17)) C (sh_41 hF3) dX10_areDoubles_12 rfl ?_
  refine s_icmple C dX10_areDoubles_15 rfl (fun hc => ?_) (fun hc => ?_)
  · have h := h.1 hc
    refine s_aload_n C dX10_areDoubles_25 rfl ?_
    refine gf_X10_183 (v0 := (M2 41 17)) C (sh_41 hF3) dX10_areDoubles_26 rfl ?_
    refine s_istore (ls' := [(2, 41), (0, l1), (0, l2), (0, z2), (0, (M2 41 17))]) C dX10_areDoubles_29 (by decide) rfl rfl ?_
    refine s_aload_n C dX10_areDoubles_31 rfl ?_
    refine gf_X10_176 (v0 := (M2 41 16)) C (sh_41 hF3) dX10_areDoubles_32 rfl ?_
    refine s_ifle C dX10_areDoubles_35 rfl (fun hc => ?_) (fun hc => ?_)
    · have h := h.1 hc
      refine s_iconst C dX10_areDoubles_65 (by decide) ?_
      exact s_zreturn C dX10_areDoubles_66 (by decide) h
    · have h := h.2 hc
      refine s_aload_n C dX10_areDoubles_38 rfl ?_
      refine gf_X10_183 (v0 := (M2 41 17)) C (sh_41 hF3) dX10_areDoubles_39 rfl ?_
      refine s_ifle C dX10_areDoubles_42 rfl (fun hc => ?_) (fun hc => ?_)
      · have h := h.1 hc
        refine s_iconst C dX10_areDoubles_65 (by decide) ?_
        exact s_zreturn C dX10_areDoubles_66 (by decide) h
      · have h := h.2 hc
        refine s_bipush C dX10_areDoubles_45 ⟨rfl, by decide, by decide⟩ ?_
        refine s_iload_n C dX10_areDoubles_47 rfl ?_
        obtain ⟨o4, h⟩ := h
        refine s_imul C dX10_areDoubles_48 o4 ?_
        refine s_aload_n C dX10_areDoubles_49 rfl ?_
        refine gf_X10_43 C (sh_41 hF3) dX10_areDoubles_50 (fx_41_13 hF3) ?_
        refine s_iconst C dX10_areDoubles_53 (by decide) ?_
        refine s_iald (v0 := (M2 53 0)) C (sh_53 hF3) (by decide) (by decide) dX10_areDoubles_54 rfl ?_
        refine s_iload C dX10_areDoubles_55 rfl ?_
        obtain ⟨o5, h⟩ := h
        refine s_imul C dX10_areDoubles_57 o5 ?_
        refine s_icmpgt C dX10_areDoubles_58 rfl (fun hc => ?_) (fun hc => ?_)
        · have h := h.1 hc
          refine s_iconst C dX10_areDoubles_65 (by decide) ?_
          exact s_zreturn C dX10_areDoubles_66 (by decide) h
        · have h := h.2 hc
          refine s_iconst C dX10_areDoubles_61 (by decide) ?_
          refine s_goto C dX10_areDoubles_62 rfl ?_
          exact s_zreturn C dX10_areDoubles_66 (by decide) h
  · have h := h.2 hc
    refine s_aload_n C dX10_areDoubles_18 rfl ?_
    refine gf_X10_176 (v0 := (M2 41 16)) C (sh_41 hF3) dX10_areDoubles_19 rfl ?_
    refine s_goto C dX10_areDoubles_22 rfl ?_
    refine s_istore (ls' := [(2, 41), (0, l1), (0, l2), (0, z2), (0, (M2 41 16))]) C dX10_areDoubles_29 (by decide) rfl rfl ?_
    refine s_aload_n C dX10_areDoubles_31 rfl ?_
    refine gf_X10_176 (v0 := (M2 41 16)) C (sh_41 hF3) dX10_areDoubles_32 rfl ?_
    refine s_ifle C dX10_areDoubles_35 rfl (fun hc => ?_) (fun hc => ?_)
    · have h := h.1 hc
      refine s_iconst C dX10_areDoubles_65 (by decide) ?_
      exact s_zreturn C dX10_areDoubles_66 (by decide) h
    · have h := h.2 hc
      refine s_aload_n C dX10_areDoubles_38 rfl ?_
      refine gf_X10_183 (v0 := (M2 41 17)) C (sh_41 hF3) dX10_areDoubles_39 rfl ?_
      refine s_ifle C dX10_areDoubles_42 rfl (fun hc => ?_) (fun hc => ?_)
      · have h := h.1 hc
        refine s_iconst C dX10_areDoubles_65 (by decide) ?_
        exact s_zreturn C dX10_areDoubles_66 (by decide) h
      · have h := h.2 hc
        refine s_bipush C dX10_areDoubles_45 ⟨rfl, by decide, by decide⟩ ?_
        refine s_iload_n C dX10_areDoubles_47 rfl ?_
        obtain ⟨o6, h⟩ := h
        refine s_imul C dX10_areDoubles_48 o6 ?_
        refine s_aload_n C dX10_areDoubles_49 rfl ?_
        refine gf_X10_43 C (sh_41 hF3) dX10_areDoubles_50 (fx_41_13 hF3) ?_
        refine s_iconst C dX10_areDoubles_53 (by decide) ?_
        refine s_iald (v0 := (M2 53 0)) C (sh_53 hF3) (by decide) (by decide) dX10_areDoubles_54 rfl ?_
        refine s_iload C dX10_areDoubles_55 rfl ?_
        obtain ⟨o7, h⟩ := h
        refine s_imul C dX10_areDoubles_57 o7 ?_
        refine s_icmpgt C dX10_areDoubles_58 rfl (fun hc => ?_) (fun hc => ?_)
        · have h := h.1 hc
          refine s_iconst C dX10_areDoubles_65 (by decide) ?_
          exact s_zreturn C dX10_areDoubles_66 (by decide) h
        · have h := h.2 hc
          refine s_iconst C dX10_areDoubles_61 (by decide) ?_
          refine s_goto C dX10_areDoubles_62 rfl ?_
          exact s_zreturn C dX10_areDoubles_66 (by decide) h
theorem E_X10_areDoubles {G : GP} {l : Launch} {P : Int → NS → MM → Prop} {l1 : Int} {l2 : Int} {w : NS} {M : MM} (h : inR l1 → inR l2 → ∀ X : BX, X.2.1 = l → CX_X10_areDoubles G X → A_X10_areDoubles_0 G X P l1 l2 w M) : CT_X10_areDoubles G l [(2, 41), (0, l1), (0, l2)] w M P :=
  CT.of RX10 "areDoubles" (by decide +kernel) rfl rfl rfl (Nat.le_of_ble_eq_true rfl) (fun hr X hX C => h (hr (0, l1) (by simp)) (hr (0, l2) (by simp)) X hX C)
def A_X10_layDoubles_0 (G : GP) (X : BX) (P : Int → NS → MM → Prop) (w : NS) (M : MM) : Prop := WA true G X (QM G X true 4 P) 4 0 [(2, 41), (3, 0), (3, 0), (3, 0)] [] 0 0 w M
def A_X10_layDoubles_2 (G : GP) (X : BX) (P : Int → NS → MM → Prop) (l1 : Int) (w : NS) (M : MM) : Prop := WA true G X (QM G X true 4 P) 4 2 [(2, 41), (0, l1), (3, 0), (3, 0)] [] 0 0 w M
def A_X10_layDoubles_19 (G : GP) (X : BX) (P : Int → NS → MM → Prop) (l1 : Int) (l2 : Int) (w : NS) (M : MM) : Prop := WA true G X (QM G X true 4 P) 4 19 [(2, 41), (0, l1), (0, l2), (3, 0)] [] 0 0 w M
set_option maxHeartbeats 4000000 in
set_option maxRecDepth 100000 in
theorem B_X10_layDoubles_0 {G : GP} {X : BX} {P : Int → NS → MM → Prop} {w : NS} {M : MM} (C : CX_X10_layDoubles G X) (h : A_X10_layDoubles_2 G X P 0 w M) : A_X10_layDoubles_0 G X P w M := by
  unfold A_X10_layDoubles_0
  refine s_iconst C dX10_layDoubles_0 (by decide) ?_
  refine s_istore_n (ls' := [(2, 41), (0, 0), (3, 0), (3, 0)]) C dX10_layDoubles_1 (by decide) rfl rfl ?_
  exact h
set_option maxHeartbeats 4000000 in
set_option maxRecDepth 100000 in
theorem B_X10_layDoubles_2 {G : GP} {X : BX} {P : Int → NS → MM → Prop} {l1 : Int} {w : NS} {M : MM} (C : CX_X10_layDoubles G X) (h : ((((M 41 12) ≤ l1) → P 0 w (up M 41 34 1)) ∧ ((¬ ((M 41 12) ≤ l1)) → ((((M 41 34) ≠ 0) → P 0 w (up M 41 34 1)) ∧ ((¬ ((M 41 34) ≠ 0)) → A_X10_layDoubles_19 G X P l1 0 w M))))) : A_X10_layDoubles_2 G X P l1 w M := by
  unfold A_X10_layDoubles_2
  refine s_iload_n C dX10_layDoubles_2 rfl ?_
  refine s_aload_n C dX10_layDoubles_3 rfl ?_
  refine WA.fix (fun hF1 => ?_)
  refine gf_X10_147 (v0 := (M 41 12)) C (sh_41 hF1) dX10_layDoubles_4 rfl ?_
  refine s_icmpge C dX10_layDoubles_7 rfl (fun hc => ?_) (fun hc => ?_)
  · have h := h.1 hc
    refine s_aload_n C dX10_layDoubles_67 rfl ?_
    refine s_iconst C dX10_layDoubles_68 (by decide) ?_
    refine pf_X10_166 C (sh_41 hF1) (by decide) (fun _ => by decide) dX10_layDoubles_69 ?_
    exact s_vreturn C dX10_layDoubles_72 h
  · have h := h.2 hc
    refine s_aload_n C dX10_layDoubles_10 rfl ?_
    refine gf_X10_166 (v0 := (M 41 34)) C (sh_41 hF1) dX10_layDoubles_11 rfl ?_
    refine s_ifne C dX10_layDoubles_14 rfl (fun hc => ?_) (fun hc => ?_)
    · have h := h.1 hc
      refine s_aload_n C dX10_layDoubles_67 rfl ?_
      refine s_iconst C dX10_layDoubles_68 (by decide) ?_
      refine pf_X10_166 C (sh_41 hF1) (by decide) (fun _ => by decide) dX10_layDoubles_69 ?_
      exact s_vreturn C dX10_layDoubles_72 h
    · have h := h.2 hc
      refine s_iconst C dX10_layDoubles_17 (by decide) ?_
      refine s_istore_n (ls' := [(2, 41), (0, l1), (0, 0), (3, 0)]) C dX10_layDoubles_18 (by decide) rfl rfl ?_
      exact h
set_option maxHeartbeats 4000000 in
set_option maxRecDepth 100000 in
theorem B_X10_layDoubles_19 {G : GP} {X : BX} {P : Int → NS → MM → Prop} {l1 : Int} {l2 : Int} {w : NS} {M : MM} (C : CX_X10_layDoubles G X) (h : (((l1 < l2) → (inR (l1 + 1)) ∧ A_X10_layDoubles_2 G X P (l1 + 1) w M) ∧ ((¬ (l1 < l2)) → ∃ Q3 : Int → NS → MM → Prop, CT_X10_areDoubles G X.2.1 [(2, 41), (0, l1), (0, l2)] w M Q3 ∧ ∀ (z3 : Int) (w3 : NS) (M3 : MM), Q3 z3 w3 M3 → (inR (24 * l1)) ∧ (inR ((24 * l1) + l2)) ∧ (0 ≤ ((24 * l1) + l2)) ∧ (((24 * l1) + l2) < 576) ∧ (z3 = 0 ∨ z3 = 1) ∧ (inR (24 * l2)) ∧ (inR ((24 * l2) + l1)) ∧ (0 ≤ ((24 * l2) + l1)) ∧ (((24 * l2) + l1) < 576) ∧ (inR (l2 + 1)) ∧ A_X10_layDoubles_19 G X P l1 (l2 + 1) w3 (up (up M3 69 ((24 * l1) + l2) z3) 69 ((24 * l2) + l1) z3)))) : A_X10_layDoubles_19 G X P l1 l2 w M := by
  unfold A_X10_layDoubles_19
  refine s_iload_n C dX10_layDoubles_19 rfl ?_
  refine s_iload_n C dX10_layDoubles_20 rfl ?_
  refine s_icmpgt C dX10_layDoubles_21 rfl (fun hc => ?_) (fun hc => ?_)
  · have h := h.1 hc
    obtain ⟨o1, h⟩ := h
    refine s_iinc (ls' := [(2, 41), (0, (l1 + 1)), (0, l2), (3, 0)]) C dX10_layDoubles_61 (by decide) rfl o1 rfl rfl ?_
    refine s_goto C dX10_layDoubles_64 rfl ?_
    exact WA.wk h ⟨Or.inr rfl, Or.inr rfl, Or.inl rfl, Or.inl rfl, trivial⟩
  · have h := h.2 hc
    refine s_aload_n C dX10_layDoubles_24 rfl ?_
    refine s_iload_n C dX10_layDoubles_25 rfl ?_
    refine s_iload_n C dX10_layDoubles_26 rfl ?_
    refine WA.fix (fun hF2 => ?_)
    obtain ⟨Q3, hKQ3, h⟩ := h
    refine s_callV (ci := 10) (av := [(0, l1), (0, l2)]) (rest := []) (mc := 0) (ms := 0) C dX10_layDoubles_27 lk_X10_266 (sh_41 hF2) (by decide) rfl rfl rfl (Nat.le_of_ble_eq_true rfl) (by decide) (by decide) hKQ3 (fun z3 w3 M3 hq => ?_)
    have h := h z3 w3 M3 hq
    refine s_istore_n (ls' := [(2, 41), (0, l1), (0, l2), (0, z3)]) C dX10_layDoubles_30 (by decide) rfl rfl ?_
    refine s_aload_n C dX10_layDoubles_31 rfl ?_
    refine WA.fix (fun hF4 => ?_)
    refine gf_X10_92 C (sh_41 hF4) dX10_layDoubles_32 (fx_41_33 hF4) ?_
    refine s_bipush C dX10_layDoubles_35 ⟨rfl, by decide, by decide⟩ ?_
    refine s_iload_n C dX10_layDoubles_37 rfl ?_
    obtain ⟨o5, h⟩ := h
    refine s_imul C dX10_layDoubles_38 o5 ?_
    refine s_iload_n C dX10_layDoubles_39 rfl ?_
    obtain ⟨o6, h⟩ := h
    refine s_iadd C dX10_layDoubles_40 o6 ?_
    refine s_iload_n C dX10_layDoubles_41 rfl ?_
    obtain ⟨o7, h⟩ := h
    obtain ⟨o8, h⟩ := h
    obtain ⟨o9, h⟩ := h
    refine s_zast C (sh_69 hF4) o7 o8 o9 (fun _ => by decide) dX10_layDoubles_42 ?_
    refine s_aload_n C dX10_layDoubles_43 rfl ?_
    refine WA.fix (fun hF10 => ?_)
    refine gf_X10_92 C (sh_41 hF4) dX10_layDoubles_44 (fx_41_33 hF10) ?_
    refine s_bipush C dX10_layDoubles_47 ⟨rfl, by decide, by decide⟩ ?_
    refine s_iload_n C dX10_layDoubles_49 rfl ?_
    obtain ⟨o11, h⟩ := h
    refine s_imul C dX10_layDoubles_50 o11 ?_
    refine s_iload_n C dX10_layDoubles_51 rfl ?_
    obtain ⟨o12, h⟩ := h
    refine s_iadd C dX10_layDoubles_52 o12 ?_
    refine s_iload_n C dX10_layDoubles_53 rfl ?_
    obtain ⟨o13, h⟩ := h
    obtain ⟨o14, h⟩ := h
    refine s_zast C (sh_69 hF4) o13 o14 o9 (fun _ => by decide) dX10_layDoubles_54 ?_
    obtain ⟨o15, h⟩ := h
    refine s_iinc (ls' := [(2, 41), (0, l1), (0, (l2 + 1)), (0, z3)]) C dX10_layDoubles_55 (by decide) rfl o15 rfl rfl ?_
    refine s_goto C dX10_layDoubles_58 rfl ?_
    exact WA.wk h ⟨Or.inr rfl, Or.inr rfl, Or.inr rfl, Or.inl rfl, trivial⟩
theorem E_X10_layDoubles {G : GP} {l : Launch} {P : Int → NS → MM → Prop} {w : NS} {M : MM} (h : ∀ X : BX, X.2.1 = l → CX_X10_layDoubles G X → A_X10_layDoubles_0 G X P w M) : CT_X10_layDoubles G l [(2, 41)] w M P :=
  CT.of RX10 "layDoubles" (by decide +kernel) rfl rfl rfl (Nat.le_of_ble_eq_true rfl) (fun hr X hX C => h  X hX C)
def A_X10_findFamily_0 (G : GP) (X : BX) (P : Int → NS → MM → Prop) (l1 : Int) (w : NS) (M : MM) : Prop := WA true G X (QM G X true 0 P) 6 0 [(2, 41), (0, l1), (3, 0), (3, 0), (3, 0), (3, 0)] [] 0 0 w M
def A_X10_findFamily_6 (G : GP) (X : BX) (P : Int → NS → MM → Prop) (l1 : Int) (l2 : Int) (w : NS) (M : MM) : Prop := WA true G X (QM G X true 0 P) 6 6 [(2, 41), (0, l1), (0, l2), (3, 0), (3, 0), (3, 0)] [] 0 0 w M
def A_X10_findFamily_40 (G : GP) (X : BX) (P : Int → NS → MM → Prop) (l2 : Int) (l3 : Int) (w : NS) (M : MM) : Prop := WA true G X (QM G X true 0 P) 6 40 [(2, 41), (3, 0), (0, l2), (0, l3), (3, 0), (3, 0)] [] 0 0 w M
def A_X10_findFamily_49 (G : GP) (X : BX) (P : Int → NS → MM → Prop) (l2 : Int) (l3 : Int) (l4 : Int) (w : NS) (M : MM) : Prop := WA true G X (QM G X true 0 P) 6 49 [(2, 41), (3, 0), (0, l2), (0, l3), (0, l4), (3, 0)] [] 0 0 w M
def A_X10_findFamily_61 (G : GP) (X : BX) (P : Int → NS → MM → Prop) (l2 : Int) (l3 : Int) (l4 : Int) (l5 : Int) (w : NS) (M : MM) : Prop := WA true G X (QM G X true 0 P) 6 61 [(2, 41), (3, 0), (0, l2), (0, l3), (0, l4), (0, l5)] [] 0 0 w M
set_option maxHeartbeats 4000000 in
set_option maxRecDepth 100000 in
theorem B_X10_findFamily_0 {G : GP} {X : BX} {P : Int → NS → MM → Prop} {l1 : Int} {w : NS} {M : MM} (C : CX_X10_findFamily G X) (h : ∃ Q2 : Int → NS → MM → Prop, CT_X10_layDoubles G X.2.1 [(2, 41)] w M Q2 ∧ ∀ (z2 : Int) (w2 : NS) (M2 : MM), Q2 z2 w2 M2 → A_X10_findFamily_6 G X P l1 0 w2 M2) : A_X10_findFamily_0 G X P l1 w M := by
  unfold A_X10_findFamily_0
  refine s_aload_n C dX10_findFamily_0 rfl ?_
  refine WA.fix (fun hF1 => ?_)
  obtain ⟨Q2, hKQ2, h⟩ := h
  refine s_callV (ci := 10) (av := []) (rest := []) (mc := 0) (ms := 0) C dX10_findFamily_1 lk_X10_269 (sh_41 hF1) (by decide) rfl rfl rfl (Nat.le_of_ble_eq_true rfl) (by decide) (by decide) hKQ2 (fun z2 w2 M2 hq => ?_)
  have h := h z2 w2 M2 hq
  refine s_iconst C dX10_findFamily_4 (by decide) ?_
  refine s_istore_n (ls' := [(2, 41), (0, l1), (0, 0), (3, 0), (3, 0), (3, 0)]) C dX10_findFamily_5 (by decide) rfl rfl ?_
  exact h
set_option maxHeartbeats 4000000 in
set_option maxRecDepth 100000 in
theorem B_X10_findFamily_6 {G : GP} {X : BX} {P : Int → NS → MM → Prop} {l1 : Int} {l2 : Int} {w : NS} {M : MM} (C : CX_X10_findFamily G X) (h : ((((M 41 12) ≤ l2) → A_X10_findFamily_40 G X P 1 1 w M) ∧ ((¬ ((M 41 12) ≤ l2)) → (((l2 ≠ l1) → (0 ≤ l2) ∧ (l2 < 24) ∧ (inR (l2 + 1)) ∧ A_X10_findFamily_6 G X P l1 (l2 + 1) w (up M 68 l2 0)) ∧ ((¬ (l2 ≠ l1)) → (0 ≤ l2) ∧ (l2 < 24) ∧ (inR (l2 + 1)) ∧ A_X10_findFamily_6 G X P l1 (l2 + 1) w (up M 68 l2 1)))))) : A_X10_findFamily_6 G X P l1 l2 w M := by
  unfold A_X10_findFamily_6
  refine s_iload_n C dX10_findFamily_6 rfl ?_
  refine s_aload_n C dX10_findFamily_7 rfl ?_
  refine WA.fix (fun hF1 => ?_)
  refine gf_X10_147 (v0 := (M 41 12)) C (sh_41 hF1) dX10_findFamily_8 rfl ?_
  refine s_icmpge C dX10_findFamily_11 rfl (fun hc => ?_) (fun hc => ?_)
  · have h := h.1 hc
    refine s_iconst C dX10_findFamily_36 (by decide) ?_
    refine s_istore_n (ls' := [(2, 41), (0, l1), (0, 1), (3, 0), (3, 0), (3, 0)]) C dX10_findFamily_37 (by decide) rfl rfl ?_
    refine s_iconst C dX10_findFamily_38 (by decide) ?_
    refine s_istore_n (ls' := [(2, 41), (0, l1), (0, 1), (0, 1), (3, 0), (3, 0)]) C dX10_findFamily_39 (by decide) rfl rfl ?_
    exact WA.wk h ⟨Or.inr rfl, Or.inl rfl, Or.inr rfl, Or.inr rfl, Or.inl rfl, Or.inl rfl, trivial⟩
  · have h := h.2 hc
    refine s_aload_n C dX10_findFamily_14 rfl ?_
    refine gf_X10_89 C (sh_41 hF1) dX10_findFamily_15 (fx_41_32 hF1) ?_
    refine s_iload_n C dX10_findFamily_18 rfl ?_
    refine s_iload_n C dX10_findFamily_19 rfl ?_
    refine s_iload_n C dX10_findFamily_20 rfl ?_
    refine s_icmpne C dX10_findFamily_21 rfl (fun hc => ?_) (fun hc => ?_)
    · have h := h.1 hc
      refine s_iconst C dX10_findFamily_28 (by decide) ?_
      obtain ⟨o2, h⟩ := h
      obtain ⟨o3, h⟩ := h
      refine s_zast C (sh_68 hF1) o2 o3 (by decide) (fun _ => by decide) dX10_findFamily_29 ?_
      obtain ⟨o4, h⟩ := h
      refine s_iinc (ls' := [(2, 41), (0, l1), (0, (l2 + 1)), (3, 0), (3, 0), (3, 0)]) C dX10_findFamily_30 (by decide) rfl o4 rfl rfl ?_
      refine s_goto C dX10_findFamily_33 rfl ?_
      exact h
    · have h := h.2 hc
      refine s_iconst C dX10_findFamily_24 (by decide) ?_
      refine s_goto C dX10_findFamily_25 rfl ?_
      obtain ⟨o5, h⟩ := h
      obtain ⟨o6, h⟩ := h
      refine s_zast C (sh_68 hF1) o5 o6 (by decide) (fun _ => by decide) dX10_findFamily_29 ?_
      obtain ⟨o7, h⟩ := h
      refine s_iinc (ls' := [(2, 41), (0, l1), (0, (l2 + 1)), (3, 0), (3, 0), (3, 0)]) C dX10_findFamily_30 (by decide) rfl o7 rfl rfl ?_
      refine s_goto C dX10_findFamily_33 rfl ?_
      exact h
set_option maxHeartbeats 4000000 in
set_option maxRecDepth 100000 in
theorem B_X10_findFamily_40 {G : GP} {X : BX} {P : Int → NS → MM → Prop} {l2 : Int} {l3 : Int} {w : NS} {M : MM} (C : CX_X10_findFamily G X) (h : (((l3 = 0) → P l2 w M) ∧ ((¬ (l3 = 0)) → A_X10_findFamily_49 G X P l2 0 0 w M))) : A_X10_findFamily_40 G X P l2 l3 w M := by
  unfold A_X10_findFamily_40
  refine s_iload_n C dX10_findFamily_40 rfl ?_
  refine s_ifeq C dX10_findFamily_41 rfl (fun hc => ?_) (fun hc => ?_)
  · have h := h.1 hc
    refine s_iload_n C dX10_findFamily_134 rfl ?_
    exact s_ireturn C dX10_findFamily_135 h
  · have h := h.2 hc
    refine s_iconst C dX10_findFamily_44 (by decide) ?_
    refine s_istore_n (ls' := [(2, 41), (3, 0), (0, l2), (0, 0), (3, 0), (3, 0)]) C dX10_findFamily_45 (by decide) rfl rfl ?_
    refine s_iconst C dX10_findFamily_46 (by decide) ?_
    refine s_istore (ls' := [(2, 41), (3, 0), (0, l2), (0, 0), (0, 0), (3, 0)]) C dX10_findFamily_47 (by decide) rfl rfl ?_
    exact h
set_option maxHeartbeats 4000000 in
set_option maxRecDepth 100000 in
theorem B_X10_findFamily_49 {G : GP} {X : BX} {P : Int → NS → MM → Prop} {l2 : Int} {l3 : Int} {l4 : Int} {w : NS} {M : MM} (C : CX_X10_findFamily G X) (h : ((((M 41 12) ≤ l4) → A_X10_findFamily_40 G X P l2 l3 w M) ∧ ((¬ ((M 41 12) ≤ l4)) → A_X10_findFamily_61 G X P l2 l3 l4 0 w M))) : A_X10_findFamily_49 G X P l2 l3 l4 w M := by
  unfold A_X10_findFamily_49
  refine s_iload C dX10_findFamily_49 rfl ?_
  refine s_aload_n C dX10_findFamily_51 rfl ?_
  refine WA.fix (fun hF1 => ?_)
  refine gf_X10_147 (v0 := (M 41 12)) C (sh_41 hF1) dX10_findFamily_52 rfl ?_
  refine s_icmpge C dX10_findFamily_55 rfl (fun hc => ?_) (fun hc => ?_)
  · have h := h.1 hc
    refine s_goto C dX10_findFamily_131 rfl ?_
    exact WA.wk h ⟨Or.inr rfl, Or.inl rfl, Or.inr rfl, Or.inr rfl, Or.inl rfl, Or.inl rfl, trivial⟩
  · have h := h.2 hc
    refine s_iconst C dX10_findFamily_58 (by decide) ?_
    refine s_istore (ls' := [(2, 41), (3, 0), (0, l2), (0, l3), (0, l4), (0, 0)]) C dX10_findFamily_59 (by decide) rfl rfl ?_
    exact h
set_option maxHeartbeats 4000000 in
set_option maxRecDepth 100000 in
theorem B_X10_findFamily_61 {G : GP} {X : BX} {P : Int → NS → MM → Prop} {l2 : Int} {l3 : Int} {l4 : Int} {l5 : Int} {w : NS} {M : MM} (C : CX_X10_findFamily G X) (h : ((((M 41 12) ≤ l5) → (inR (l4 + 1)) ∧ A_X10_findFamily_49 G X P l2 l3 (l4 + 1) w M) ∧ ((¬ ((M 41 12) ≤ l5)) → (0 ≤ l4) ∧ (l4 < 24) ∧ ((((M 68 l4) ≠ 0) → (inR (l4 + 1)) ∧ A_X10_findFamily_49 G X P l2 l3 (l4 + 1) w M) ∧ ((¬ ((M 68 l4) ≠ 0)) → (0 ≤ l5) ∧ (l5 < 24) ∧ ((((M 68 l5) = 0) → (inR (l5 + 1)) ∧ A_X10_findFamily_61 G X P l2 l3 l4 (l5 + 1) w M) ∧ ((¬ ((M 68 l5) = 0)) → (inR (24 * l4)) ∧ (inR ((24 * l4) + l5)) ∧ (0 ≤ ((24 * l4) + l5)) ∧ (((24 * l4) + l5) < 576) ∧ ((((M 69 ((24 * l4) + l5)) = 0) → (inR (l5 + 1)) ∧ A_X10_findFamily_61 G X P l2 l3 l4 (l5 + 1) w M) ∧ ((¬ ((M 69 ((24 * l4) + l5)) = 0)) → (inR (l2 + 1)) ∧ (inR (l5 + 1)) ∧ A_X10_findFamily_61 G X P (l2 + 1) 1 l4 (l5 + 1) w (up M 68 l4 1)))))))))) : A_X10_findFamily_61 G X P l2 l3 l4 l5 w M := by
  unfold A_X10_findFamily_61
  refine s_iload C dX10_findFamily_61 rfl ?_
  refine s_aload_n C dX10_findFamily_63 rfl ?_
  refine WA.fix (fun hF1 => ?_)
  refine gf_X10_147 (v0 := (M 41 12)) C (sh_41 hF1) dX10_findFamily_64 rfl ?_
  refine s_icmpge C dX10_findFamily_67 rfl (fun hc => ?_) (fun hc => ?_)
  · have h := h.1 hc
    obtain ⟨o2, h⟩ := h
    refine s_iinc (ls' := [(2, 41), (3, 0), (0, l2), (0, l3), (0, (l4 + 1)), (0, l5)]) C dX10_findFamily_125 (by decide) rfl o2 rfl rfl ?_
    refine s_goto C dX10_findFamily_128 rfl ?_
    exact WA.wk h ⟨Or.inr rfl, Or.inl rfl, Or.inr rfl, Or.inr rfl, Or.inr rfl, Or.inl rfl, trivial⟩
  · have h := h.2 hc
    refine s_aload_n C dX10_findFamily_70 rfl ?_
    refine gf_X10_89 C (sh_41 hF1) dX10_findFamily_71 (fx_41_32 hF1) ?_
    refine s_iload C dX10_findFamily_74 rfl ?_
    obtain ⟨o3, h⟩ := h
    obtain ⟨o4, h⟩ := h
    refine s_zald (v0 := (M 68 l4)) C (sh_68 hF1) o3 o4 dX10_findFamily_76 rfl ?_
    refine s_ifne C dX10_findFamily_77 rfl (fun hc => ?_) (fun hc => ?_)
    · have h := h.1 hc
      obtain ⟨o5, h⟩ := h
      refine s_iinc (ls' := [(2, 41), (3, 0), (0, l2), (0, l3), (0, (l4 + 1)), (0, l5)]) C dX10_findFamily_125 (by decide) rfl o5 rfl rfl ?_
      refine s_goto C dX10_findFamily_128 rfl ?_
      exact WA.wk h ⟨Or.inr rfl, Or.inl rfl, Or.inr rfl, Or.inr rfl, Or.inr rfl, Or.inl rfl, trivial⟩
    · have h := h.2 hc
      refine s_aload_n C dX10_findFamily_80 rfl ?_
      refine gf_X10_89 C (sh_41 hF1) dX10_findFamily_81 (fx_41_32 hF1) ?_
      refine s_iload C dX10_findFamily_84 rfl ?_
      obtain ⟨o6, h⟩ := h
      obtain ⟨o7, h⟩ := h
      refine s_zald (v0 := (M 68 l5)) C (sh_68 hF1) o6 o7 dX10_findFamily_86 rfl ?_
      refine s_ifeq C dX10_findFamily_87 rfl (fun hc => ?_) (fun hc => ?_)
      · have h := h.1 hc
        obtain ⟨o8, h⟩ := h
        refine s_iinc (ls' := [(2, 41), (3, 0), (0, l2), (0, l3), (0, l4), (0, (l5 + 1))]) C dX10_findFamily_119 (by decide) rfl o8 rfl rfl ?_
        refine s_goto C dX10_findFamily_122 rfl ?_
        exact h
      · have h := h.2 hc
        refine s_aload_n C dX10_findFamily_90 rfl ?_
        refine gf_X10_92 C (sh_41 hF1) dX10_findFamily_91 (fx_41_33 hF1) ?_
        refine s_bipush C dX10_findFamily_94 ⟨rfl, by decide, by decide⟩ ?_
        refine s_iload C dX10_findFamily_96 rfl ?_
        obtain ⟨o9, h⟩ := h
        refine s_imul C dX10_findFamily_98 o9 ?_
        refine s_iload C dX10_findFamily_99 rfl ?_
        obtain ⟨o10, h⟩ := h
        refine s_iadd C dX10_findFamily_101 o10 ?_
        obtain ⟨o11, h⟩ := h
        obtain ⟨o12, h⟩ := h
        refine s_zald (v0 := (M 69 ((24 * l4) + l5))) C (sh_69 hF1) o11 o12 dX10_findFamily_102 rfl ?_
        refine s_ifeq C dX10_findFamily_103 rfl (fun hc => ?_) (fun hc => ?_)
        · have h := h.1 hc
          obtain ⟨o13, h⟩ := h
          refine s_iinc (ls' := [(2, 41), (3, 0), (0, l2), (0, l3), (0, l4), (0, (l5 + 1))]) C dX10_findFamily_119 (by decide) rfl o13 rfl rfl ?_
          refine s_goto C dX10_findFamily_122 rfl ?_
          exact h
        · have h := h.2 hc
          refine s_aload_n C dX10_findFamily_106 rfl ?_
          refine gf_X10_89 C (sh_41 hF1) dX10_findFamily_107 (fx_41_32 hF1) ?_
          refine s_iload C dX10_findFamily_110 rfl ?_
          refine s_iconst C dX10_findFamily_112 (by decide) ?_
          refine s_zast C (sh_68 hF1) o3 o4 (by decide) (fun _ => by decide) dX10_findFamily_113 ?_
          obtain ⟨o14, h⟩ := h
          refine s_iinc (ls' := [(2, 41), (3, 0), (0, (l2 + 1)), (0, l3), (0, l4), (0, l5)]) C dX10_findFamily_114 (by decide) rfl o14 rfl rfl ?_
          refine s_iconst C dX10_findFamily_117 (by decide) ?_
          refine s_istore_n (ls' := [(2, 41), (3, 0), (0, (l2 + 1)), (0, 1), (0, l4), (0, l5)]) C dX10_findFamily_118 (by decide) rfl rfl ?_
          obtain ⟨o15, h⟩ := h
          refine s_iinc (ls' := [(2, 41), (3, 0), (0, (l2 + 1)), (0, 1), (0, l4), (0, (l5 + 1))]) C dX10_findFamily_119 (by decide) rfl o15 rfl rfl ?_
          refine s_goto C dX10_findFamily_122 rfl ?_
          exact h
theorem E_X10_findFamily {G : GP} {l : Launch} {P : Int → NS → MM → Prop} {l1 : Int} {w : NS} {M : MM} (h : inR l1 → ∀ X : BX, X.2.1 = l → CX_X10_findFamily G X → A_X10_findFamily_0 G X P l1 w M) : CT_X10_findFamily G l [(2, 41), (0, l1)] w M P :=
  CT.of RX10 "findFamily" (by decide +kernel) rfl rfl rfl (Nat.le_of_ble_eq_true rfl) (fun hr X hX C => h (hr (0, l1) (by simp)) X hX C)
def A_X10_isAhead_0 (G : GP) (X : BX) (P : Int → NS → MM → Prop) (l1 : Int) (l2 : Int) (w : NS) (M : MM) : Prop := WA true G X (QM G X true 0 P) 5 0 [(2, 41), (0, l1), (0, l2), (3, 0), (3, 0)] [] 0 0 w M
set_option maxHeartbeats 4000000 in
set_option maxRecDepth 100000 in
theorem B_X10_isAhead_0 {G : GP} {X : BX} {P : Int → NS → MM → Prop} {l1 : Int} {l2 : Int} {w : NS} {M : MM} (C : CX_X10_isAhead G X) (h : (0 ≤ l1) ∧ (l1 < 24) ∧ (0 ≤ l2) ∧ (l2 < 24) ∧ (0 ≤ (M 46 l1)) ∧ ((M 46 l1) < 8) ∧ (0 ≤ (M 46 l2)) ∧ ((M 46 l2) < 8) ∧ ((((M 44 (M 46 l1)) = (M 44 (M 46 l2))) → ((((M 43 (M 46 l1)) = (M 43 (M 46 l2))) → (((l2 ≤ l1) → P 0 w M) ∧ ((¬ (l2 ≤ l1)) → P 1 w M))) ∧ ((¬ ((M 43 (M 46 l1)) = (M 43 (M 46 l2)))) → ((((M 43 (M 46 l2)) ≤ (M 43 (M 46 l1))) → P 0 w M) ∧ ((¬ ((M 43 (M 46 l2)) ≤ (M 43 (M 46 l1)))) → P 1 w M))))) ∧ ((¬ ((M 44 (M 46 l1)) = (M 44 (M 46 l2)))) → ((((M 44 (M 46 l2)) ≤ (M 44 (M 46 l1))) → P 0 w M) ∧ ((¬ ((M 44 (M 46 l2)) ≤ (M 44 (M 46 l1)))) → P 1 w M))))) : A_X10_isAhead_0 G X P l1 l2 w M := by
  unfold A_X10_isAhead_0
  refine s_aload_n C dX10_isAhead_0 rfl ?_
  refine WA.fix (fun hF1 => ?_)
  refine gf_X10_22 C (sh_41 hF1) dX10_isAhead_1 (fx_41_5 hF1) ?_
  refine s_iload_n C dX10_isAhead_4 rfl ?_
  obtain ⟨o2, h⟩ := h
  obtain ⟨o3, h⟩ := h
  refine s_iald (v0 := (M 46 l1)) C (sh_46 hF1) o2 o3 dX10_isAhead_5 rfl ?_
  refine s_istore_n (ls' := [(2, 41), (0, l1), (0, l2), (0, (M 46 l1)), (3, 0)]) C dX10_isAhead_6 (by decide) rfl rfl ?_
  refine s_aload_n C dX10_isAhead_7 rfl ?_
  refine gf_X10_22 C (sh_41 hF1) dX10_isAhead_8 (fx_41_5 hF1) ?_
  refine s_iload_n C dX10_isAhead_11 rfl ?_
  obtain ⟨o4, h⟩ := h
  obtain ⟨o5, h⟩ := h
  refine s_iald (v0 := (M 46 l2)) C (sh_46 hF1) o4 o5 dX10_isAhead_12 rfl ?_
  refine s_istore (ls' := [(2, 41), (0, l1), (0, l2), (0, (M 46 l1)), (0, (M 46 l2))]) C dX10_isAhead_13 (by decide) rfl rfl ?_
  refine s_aload_n C dX10_isAhead_15 rfl ?_
  refine gf_X10_16 C (sh_41 hF1) dX10_isAhead_16 (fx_41_2 hF1) ?_
  refine s_iload_n C dX10_isAhead_19 rfl ?_
  obtain ⟨o6, h⟩ := h
  obtain ⟨o7, h⟩ := h
  refine s_iald (v0 := (M 44 (M 46 l1))) C (sh_44 hF1) o6 o7 dX10_isAhead_20 rfl ?_
  refine s_aload_n C dX10_isAhead_21 rfl ?_
  refine gf_X10_16 C (sh_41 hF1) dX10_isAhead_22 (fx_41_2 hF1) ?_
  refine s_iload C dX10_isAhead_25 rfl ?_
  obtain ⟨o8, h⟩ := h
  obtain ⟨o9, h⟩ := h
  refine s_iald (v0 := (M 44 (M 46 l2))) C (sh_44 hF1) o8 o9 dX10_isAhead_27 rfl ?_
  refine s_icmpeq C dX10_isAhead_28 rfl (fun hc => ?_) (fun hc => ?_)
  · have h := h.1 hc
    refine s_aload_n C dX10_isAhead_53 rfl ?_
    refine gf_X10_13 C (sh_41 hF1) dX10_isAhead_54 (fx_41_1 hF1) ?_
    refine s_iload_n C dX10_isAhead_57 rfl ?_
    refine s_iald (v0 := (M 43 (M 46 l1))) C (sh_43 hF1) o6 o7 dX10_isAhead_58 rfl ?_
    refine s_aload_n C dX10_isAhead_59 rfl ?_
    refine gf_X10_13 C (sh_41 hF1) dX10_isAhead_60 (fx_41_1 hF1) ?_
    refine s_iload C dX10_isAhead_63 rfl ?_
    refine s_iald (v0 := (M 43 (M 46 l2))) C (sh_43 hF1) o8 o9 dX10_isAhead_65 rfl ?_
    refine s_icmpeq C dX10_isAhead_66 rfl (fun hc => ?_) (fun hc => ?_)
    · have h := h.1 hc
      refine s_iload_n C dX10_isAhead_93 rfl ?_
      refine s_iload_n C dX10_isAhead_94 rfl ?_
      refine s_icmpge C dX10_isAhead_95 rfl (fun hc => ?_) (fun hc => ?_)
      · have h := h.1 hc
        refine s_iconst C dX10_isAhead_102 (by decide) ?_
        exact s_zreturn C dX10_isAhead_103 (by decide) h
      · have h := h.2 hc
        refine s_iconst C dX10_isAhead_98 (by decide) ?_
        refine s_goto C dX10_isAhead_99 rfl ?_
        exact s_zreturn C dX10_isAhead_103 (by decide) h
    · have h := h.2 hc
      refine s_aload_n C dX10_isAhead_69 rfl ?_
      refine gf_X10_13 C (sh_41 hF1) dX10_isAhead_70 (fx_41_1 hF1) ?_
      refine s_iload_n C dX10_isAhead_73 rfl ?_
      refine s_iald (v0 := (M 43 (M 46 l1))) C (sh_43 hF1) o6 o7 dX10_isAhead_74 rfl ?_
      refine s_aload_n C dX10_isAhead_75 rfl ?_
      refine gf_X10_13 C (sh_41 hF1) dX10_isAhead_76 (fx_41_1 hF1) ?_
      refine s_iload C dX10_isAhead_79 rfl ?_
      refine s_iald (v0 := (M 43 (M 46 l2))) C (sh_43 hF1) o8 o9 dX10_isAhead_81 rfl ?_
      refine s_icmpge C dX10_isAhead_82 rfl (fun hc => ?_) (fun hc => ?_)
      · have h := h.1 hc
        refine s_iconst C dX10_isAhead_89 (by decide) ?_
        refine s_goto C dX10_isAhead_90 rfl ?_
        exact s_zreturn C dX10_isAhead_103 (by decide) h
      · have h := h.2 hc
        refine s_iconst C dX10_isAhead_85 (by decide) ?_
        refine s_goto C dX10_isAhead_86 rfl ?_
        exact s_zreturn C dX10_isAhead_103 (by decide) h
  · have h := h.2 hc
    refine s_aload_n C dX10_isAhead_31 rfl ?_
    refine gf_X10_16 C (sh_41 hF1) dX10_isAhead_32 (fx_41_2 hF1) ?_
    refine s_iload_n C dX10_isAhead_35 rfl ?_
    refine s_iald (v0 := (M 44 (M 46 l1))) C (sh_44 hF1) o6 o7 dX10_isAhead_36 rfl ?_
    refine s_aload_n C dX10_isAhead_37 rfl ?_
    refine gf_X10_16 C (sh_41 hF1) dX10_isAhead_38 (fx_41_2 hF1) ?_
    refine s_iload C dX10_isAhead_41 rfl ?_
    refine s_iald (v0 := (M 44 (M 46 l2))) C (sh_44 hF1) o8 o9 dX10_isAhead_43 rfl ?_
    refine s_icmpge C dX10_isAhead_44 rfl (fun hc => ?_) (fun hc => ?_)
    · have h := h.1 hc
      refine s_iconst C dX10_isAhead_51 (by decide) ?_
      exact s_zreturn C dX10_isAhead_52 (by decide) h
    · have h := h.2 hc
      refine s_iconst C dX10_isAhead_47 (by decide) ?_
      refine s_goto C dX10_isAhead_48 rfl ?_
      exact s_zreturn C dX10_isAhead_52 (by decide) h
theorem E_X10_isAhead {G : GP} {l : Launch} {P : Int → NS → MM → Prop} {l1 : Int} {l2 : Int} {w : NS} {M : MM} (h : inR l1 → inR l2 → ∀ X : BX, X.2.1 = l → CX_X10_isAhead G X → A_X10_isAhead_0 G X P l1 l2 w M) : CT_X10_isAhead G l [(2, 41), (0, l1), (0, l2)] w M P :=
  CT.of RX10 "isAhead" (by decide +kernel) rfl rfl rfl (Nat.le_of_ble_eq_true rfl) (fun hr X hX C => h (hr (0, l1) (by simp)) (hr (0, l2) (by simp)) X hX C)
def A_X10_firstOf_0 (G : GP) (X : BX) (P : Int → NS → MM → Prop) (w : NS) (M : MM) : Prop := WA true G X (QM G X true 0 P) 3 0 [(2, 41), (3, 0), (3, 0)] [] 0 0 w M
def A_X10_firstOf_4 (G : GP) (X : BX) (P : Int → NS → MM → Prop) (l1 : Int) (l2 : Int) (w : NS) (M : MM) : Prop := WA true G X (QM G X true 0 P) 3 4 [(2, 41), (0, l1), (0, l2)] [] 0 0 w M
set_option maxHeartbeats 4000000 in
set_option maxRecDepth 100000 in
theorem B_X10_firstOf_0 {G : GP} {X : BX} {P : Int → NS → MM → Prop} {w : NS} {M : MM} (C : CX_X10_firstOf G X) (h : A_X10_firstOf_4 G X P (-1) 0 w M) : A_X10_firstOf_0 G X P w M := by
  unfold A_X10_firstOf_0
  refine s_iconst C dX10_firstOf_0 (by decide) ?_
  refine s_istore_n (ls' := [(2, 41), (0, (-1)), (3, 0)]) C dX10_firstOf_1 (by decide) rfl rfl ?_
  refine s_iconst C dX10_firstOf_2 (by decide) ?_
  refine s_istore_n (ls' := [(2, 41), (0, (-1)), (0, 0)]) C dX10_firstOf_3 (by decide) rfl rfl ?_
  exact h
set_option maxHeartbeats 4000000 in
set_option maxRecDepth 100000 in
theorem B_X10_firstOf_4 {G : GP} {X : BX} {P : Int → NS → MM → Prop} {l1 : Int} {l2 : Int} {w : NS} {M : MM} (C : CX_X10_firstOf G X) (h : ((((M 41 12) ≤ l2) → P l1 w M) ∧ ((¬ ((M 41 12) ≤ l2)) → (0 ≤ l2) ∧ (l2 < 24) ∧ ((((M 68 l2) = 0) → (inR (l2 + 1)) ∧ A_X10_firstOf_4 G X P l1 (l2 + 1) w M) ∧ ((¬ ((M 68 l2) = 0)) → (((l1 < 0) → (inR (l2 + 1)) ∧ A_X10_firstOf_4 G X P l2 (l2 + 1) w M) ∧ ((¬ (l1 < 0)) → ∃ Q6 : Int → NS → MM → Prop, CT_X10_isAhead G X.2.1 [(2, 41), (0, l2), (0, l1)] w M Q6 ∧ ∀ (z6 : Int) (w6 : NS) (M6 : MM), Q6 z6 w6 M6 → (((z6 = 0) → (inR (l2 + 1)) ∧ A_X10_firstOf_4 G X P l1 (l2 + 1) w6 M6) ∧ ((¬ (z6 = 0)) → (inR (l2 + 1)) ∧ A_X10_firstOf_4 G X P l2 (l2 + 1) w6 M6))))))))) : A_X10_firstOf_4 G X P l1 l2 w M := by
  unfold A_X10_firstOf_4
  refine s_iload_n C dX10_firstOf_4 rfl ?_
  refine s_aload_n C dX10_firstOf_5 rfl ?_
  refine WA.fix (fun hF1 => ?_)
  refine gf_X10_147 (v0 := (M 41 12)) C (sh_41 hF1) dX10_firstOf_6 rfl ?_
  refine s_icmpge C dX10_firstOf_9 rfl (fun hc => ?_) (fun hc => ?_)
  · have h := h.1 hc
    refine s_iload_n C dX10_firstOf_46 rfl ?_
    exact s_ireturn C dX10_firstOf_47 h
  · have h := h.2 hc
    refine s_aload_n C dX10_firstOf_12 rfl ?_
    refine gf_X10_89 C (sh_41 hF1) dX10_firstOf_13 (fx_41_32 hF1) ?_
    refine s_iload_n C dX10_firstOf_16 rfl ?_
    obtain ⟨o2, h⟩ := h
    obtain ⟨o3, h⟩ := h
    refine s_zald (v0 := (M 68 l2)) C (sh_68 hF1) o2 o3 dX10_firstOf_17 rfl ?_
    refine s_ifeq C dX10_firstOf_18 rfl (fun hc => ?_) (fun hc => ?_)
    · have h := h.1 hc
      refine s_iload_n C dX10_firstOf_38 rfl ?_
      refine s_istore_n (ls' := [(2, 41), (0, l1), (0, l2)]) C dX10_firstOf_39 (by decide) rfl rfl ?_
      obtain ⟨o4, h⟩ := h
      refine s_iinc (ls' := [(2, 41), (0, l1), (0, (l2 + 1))]) C dX10_firstOf_40 (by decide) rfl o4 rfl rfl ?_
      refine s_goto C dX10_firstOf_43 rfl ?_
      exact h
    · have h := h.2 hc
      refine s_iload_n C dX10_firstOf_21 rfl ?_
      refine s_iflt C dX10_firstOf_22 rfl (fun hc => ?_) (fun hc => ?_)
      · have h := h.1 hc
        refine s_iload_n C dX10_firstOf_34 rfl ?_
        refine s_goto C dX10_firstOf_35 rfl ?_
        refine s_istore_n (ls' := [(2, 41), (0, l2), (0, l2)]) C dX10_firstOf_39 (by decide) rfl rfl ?_
        obtain ⟨o5, h⟩ := h
        refine s_iinc (ls' := [(2, 41), (0, l2), (0, (l2 + 1))]) C dX10_firstOf_40 (by decide) rfl o5 rfl rfl ?_
        refine s_goto C dX10_firstOf_43 rfl ?_
        exact h
      · have h := h.2 hc
        refine s_aload_n C dX10_firstOf_25 rfl ?_
        refine s_iload_n C dX10_firstOf_26 rfl ?_
        refine s_iload_n C dX10_firstOf_27 rfl ?_
        obtain ⟨Q6, hKQ6, h⟩ := h
        refine s_callV (ci := 10) (av := [(0, l2), (0, l1)]) (rest := []) (mc := 0) (ms := 0) C dX10_firstOf_28 lk_X10_272 (sh_41 hF1) (by decide) rfl rfl rfl (Nat.le_of_ble_eq_true rfl) (by decide) (by decide) hKQ6 (fun z6 w6 M6 hq => ?_)
        have h := h z6 w6 M6 hq
        refine s_ifeq C dX10_firstOf_31 rfl (fun hc => ?_) (fun hc => ?_)
        · have h := h.1 hc
          refine s_iload_n C dX10_firstOf_38 rfl ?_
          refine s_istore_n (ls' := [(2, 41), (0, l1), (0, l2)]) C dX10_firstOf_39 (by decide) rfl rfl ?_
          obtain ⟨o7, h⟩ := h
          refine s_iinc (ls' := [(2, 41), (0, l1), (0, (l2 + 1))]) C dX10_firstOf_40 (by decide) rfl o7 rfl rfl ?_
          refine s_goto C dX10_firstOf_43 rfl ?_
          exact h
        · have h := h.2 hc
          refine s_iload_n C dX10_firstOf_34 rfl ?_
          refine s_goto C dX10_firstOf_35 rfl ?_
          refine s_istore_n (ls' := [(2, 41), (0, l2), (0, l2)]) C dX10_firstOf_39 (by decide) rfl rfl ?_
          obtain ⟨o8, h⟩ := h
          refine s_iinc (ls' := [(2, 41), (0, l2), (0, (l2 + 1))]) C dX10_firstOf_40 (by decide) rfl o8 rfl rfl ?_
          refine s_goto C dX10_firstOf_43 rfl ?_
          exact h
theorem E_X10_firstOf {G : GP} {l : Launch} {P : Int → NS → MM → Prop} {w : NS} {M : MM} (h : ∀ X : BX, X.2.1 = l → CX_X10_firstOf G X → A_X10_firstOf_0 G X P w M) : CT_X10_firstOf G l [(2, 41)] w M P :=
  CT.of RX10 "firstOf" (by decide +kernel) rfl rfl rfl (Nat.le_of_ble_eq_true rfl) (fun hr X hX C => h  X hX C)
def A_X10_about_0 (G : GP) (X : BX) (P : Int → NS → MM → Prop) (l1 : Int) (l2 : Int) (w : NS) (M : MM) : Prop := WA true G X (QM G X true 0 P) 3 0 [(2, 41), (0, l1), (0, l2)] [] 0 0 w M
set_option maxHeartbeats 4000000 in
set_option maxRecDepth 100000 in
theorem B_X10_about_0 {G : GP} {X : BX} {P : Int → NS → MM → Prop} {l1 : Int} {l2 : Int} {w : NS} {M : MM} (C : CX_X10_about G X) (h : (0 ≤ M 41 12) ∧ ((((0 ≤ l1 ∧ l1 < M 41 12)) → (((l2 < 0 ∨ 5 < l2) → P (-2) w M) ∧ (l2 = 0 → (0 ≤ l1) ∧ (l1 < 24) ∧ P (M 46 l1) w M) ∧ (l2 = 1 → ∃ Q6 : Int → NS → MM → Prop, CT_X10_layOne G X.2.1 [(2, 41), (0, l1)] w M Q6 ∧ ∀ (z6 : Int) (w6 : NS) (M6 : MM), Q6 z6 w6 M6 → P (M6 41 16) w6 M6) ∧ (l2 = 2 → (0 ≤ l1) ∧ (l1 < 24) ∧ P (M 51 l1) w M) ∧ (l2 = 3 → (0 ≤ l1) ∧ (l1 < 24) ∧ P (M 52 l1) w M) ∧ (l2 = 4 → ∃ Q12 : Int → NS → MM → Prop, CT_X10_findFamily G X.2.1 [(2, 41), (0, l1)] w M Q12 ∧ ∀ (z12 : Int) (w12 : NS) (M12 : MM), Q12 z12 w12 M12 → ∃ Q14 : Int → NS → MM → Prop, CT_X10_firstOf G X.2.1 [(2, 41)] w12 M12 Q14 ∧ ∀ (z14 : Int) (w14 : NS) (M14 : MM), Q14 z14 w14 M14 → P z14 w14 M14) ∧ (l2 = 5 → ∃ Q15 : Int → NS → MM → Prop, CT_X10_findFamily G X.2.1 [(2, 41), (0, l1)] w M Q15 ∧ ∀ (z15 : Int) (w15 : NS) (M15 : MM), Q15 z15 w15 M15 → P z15 w15 M15))) ∧ ((¬ (0 ≤ l1 ∧ l1 < M 41 12)) → P (-1) w M))) : A_X10_about_0 G X P l1 l2 w M := by
  unfold A_X10_about_0
  refine s_aload_n C dX10_about_0 rfl ?_
  refine s_iload_n C dX10_about_1 rfl ?_
  refine WA.fix (fun hF1 => ?_)
  obtain ⟨o2, h⟩ := h
  refine s_callV (ci := 10) (av := [(0, l1)]) (rest := []) (mc := 0) (ms := 0) C dX10_about_2 lk_X10_186 (sh_41 hF1) (by decide) rfl rfl rfl (Nat.le_of_ble_eq_true rfl) (by decide) (by decide) (pc_X10_isPiece o2) (fun z3 wz3 Mz3 hq => ?_)
  obtain ⟨hq1, hq2, hq3⟩ := hq
  have hq2 := hq2.symm
  have hq3 := hq3.symm
  subst hq1 hq2 hq3
  refine s_ifne C dX10_about_5 rfl (fun hc => ?_) (fun hc => ?_)
  · have h := h.1 (b2i_n0 hc)
    refine s_iload_n C dX10_about_10 rfl ?_
    rcases (show (l2 < 0 ∨ 5 < l2) ∨ l2 = 0 ∨ l2 = 1 ∨ l2 = 2 ∨ l2 = 3 ∨ l2 = 4 ∨ l2 = 5 from by omega) with hc | hc | hc | hc | hc | hc | hc
    · have h := h.1 hc
      refine s_tabOut C dX10_about_11 hc rfl ?_
      refine s_bipush C dX10_about_96 ⟨rfl, by decide, by decide⟩ ?_
      exact s_ireturn C dX10_about_98 h
    · have h := h.2.1 hc
      refine s_tabIn C dX10_about_11 hc (by decide) (by decide) rfl rfl ?_
      refine s_aload_n C dX10_about_48 rfl ?_
      refine gf_X10_22 C (sh_41 hF1) dX10_about_49 (fx_41_5 hF1) ?_
      refine s_iload_n C dX10_about_52 rfl ?_
      obtain ⟨o4, h⟩ := h
      obtain ⟨o5, h⟩ := h
      refine s_iald (v0 := (M 46 l1)) C (sh_46 hF1) o4 o5 dX10_about_53 rfl ?_
      exact s_ireturn C dX10_about_54 h
    · have h := h.2.2.1 hc
      refine s_tabIn C dX10_about_11 hc (by decide) (by decide) rfl rfl ?_
      refine s_aload_n C dX10_about_55 rfl ?_
      refine s_iload_n C dX10_about_56 rfl ?_
      obtain ⟨Q6, hKQ6, h⟩ := h
      refine s_callV (ci := 10) (av := [(0, l1)]) (rest := []) (mc := 0) (ms := 0) C dX10_about_57 lk_X10_179 (sh_41 hF1) (by decide) rfl rfl rfl (Nat.le_of_ble_eq_true rfl) (by decide) (by decide) hKQ6 (fun z6 w6 M6 hq => ?_)
      have h := h z6 w6 M6 hq
      refine s_aload_n C dX10_about_60 rfl ?_
      refine WA.fix (fun hF7 => ?_)
      refine gf_X10_176 (v0 := (M6 41 16)) C (sh_41 hF7) dX10_about_61 rfl ?_
      exact s_ireturn C dX10_about_64 h
    · have h := h.2.2.2.1 hc
      refine s_tabIn C dX10_about_11 hc (by decide) (by decide) rfl rfl ?_
      refine s_aload_n C dX10_about_65 rfl ?_
      refine gf_X10_37 C (sh_41 hF1) dX10_about_66 (fx_41_10 hF1) ?_
      refine s_iload_n C dX10_about_69 rfl ?_
      obtain ⟨o8, h⟩ := h
      obtain ⟨o9, h⟩ := h
      refine s_iald (v0 := (M 51 l1)) C (sh_51 hF1) o8 o9 dX10_about_70 rfl ?_
      exact s_ireturn C dX10_about_71 h
    · have h := h.2.2.2.2.1 hc
      refine s_tabIn C dX10_about_11 hc (by decide) (by decide) rfl rfl ?_
      refine s_aload_n C dX10_about_72 rfl ?_
      refine gf_X10_40 C (sh_41 hF1) dX10_about_73 (fx_41_11 hF1) ?_
      refine s_iload_n C dX10_about_76 rfl ?_
      obtain ⟨o10, h⟩ := h
      obtain ⟨o11, h⟩ := h
      refine s_iald (v0 := (M 52 l1)) C (sh_52 hF1) o10 o11 dX10_about_77 rfl ?_
      exact s_ireturn C dX10_about_78 h
    · have h := h.2.2.2.2.2.1 hc
      refine s_tabIn C dX10_about_11 hc (by decide) (by decide) rfl rfl ?_
      refine s_aload_n C dX10_about_79 rfl ?_
      refine s_iload_n C dX10_about_80 rfl ?_
      obtain ⟨Q12, hKQ12, h⟩ := h
      refine s_callV (ci := 10) (av := [(0, l1)]) (rest := []) (mc := 0) (ms := 0) C dX10_about_81 lk_X10_189 (sh_41 hF1) (by decide) rfl rfl rfl (Nat.le_of_ble_eq_true rfl) (by decide) (by decide) hKQ12 (fun z12 w12 M12 hq => ?_)
      have h := h z12 w12 M12 hq
      refine s_pop C (by simp) dX10_about_84 ?_
      refine s_aload_n C dX10_about_85 rfl ?_
      refine WA.fix (fun hF13 => ?_)
      obtain ⟨Q14, hKQ14, h⟩ := h
      refine s_callV (ci := 10) (av := []) (rest := []) (mc := 0) (ms := 0) C dX10_about_86 lk_X10_193 (sh_41 hF13) (by decide) rfl rfl rfl (Nat.le_of_ble_eq_true rfl) (by decide) (by decide) hKQ14 (fun z14 w14 M14 hq => ?_)
      have h := h z14 w14 M14 hq
      exact s_ireturn C dX10_about_89 h
    · have h := h.2.2.2.2.2.2 hc
      refine s_tabIn C dX10_about_11 hc (by decide) (by decide) rfl rfl ?_
      refine s_aload_n C dX10_about_90 rfl ?_
      refine s_iload_n C dX10_about_91 rfl ?_
      obtain ⟨Q15, hKQ15, h⟩ := h
      refine s_callV (ci := 10) (av := [(0, l1)]) (rest := []) (mc := 0) (ms := 0) C dX10_about_92 lk_X10_189 (sh_41 hF1) (by decide) rfl rfl rfl (Nat.le_of_ble_eq_true rfl) (by decide) (by decide) hKQ15 (fun z15 w15 M15 hq => ?_)
      have h := h z15 w15 M15 hq
      exact s_ireturn C dX10_about_95 h
  · have h := h.2 (b2i_nn hc)
    refine s_iconst C dX10_about_8 (by decide) ?_
    exact s_ireturn C dX10_about_9 h
theorem E_X10_about {G : GP} {l : Launch} {P : Int → NS → MM → Prop} {l1 : Int} {l2 : Int} {w : NS} {M : MM} (h : inR l1 → inR l2 → ∀ X : BX, X.2.1 = l → CX_X10_about G X → A_X10_about_0 G X P l1 l2 w M) : CT_X10_about G l [(2, 41), (0, l1), (0, l2)] w M P :=
  CT.of RX10 "about" (by decide +kernel) rfl rfl rfl (Nat.le_of_ble_eq_true rfl) (fun hr X hX C => h (hr (0, l1) (by simp)) (hr (0, l2) (by simp)) X hX C)
def A_X10_word_0 (G : GP) (X : BX) (P : Int → NS → MM → Prop) (l1 : Int) (l2 : Int) (w : NS) (M : MM) : Prop := WA true G X (QM G X true 0 P) 3 0 [(2, 41), (0, l1), (0, l2)] [] 0 0 w M
set_option maxHeartbeats 4000000 in
set_option maxRecDepth 100000 in
theorem B_X10_word_0 {G : GP} {X : BX} {P : Int → NS → MM → Prop} {l1 : Int} {l2 : Int} {w : NS} {M : MM} (C : CX_X10_word G X) (h : (0 ≤ M 41 12) ∧ ((((0 ≤ l1 ∧ l1 < M 41 12)) → ∃ Q4 : Int → NS → MM → Prop, CT_X10_layOne G X.2.1 [(2, 41), (0, l1)] w M Q4 ∧ ∀ (z4 : Int) (w4 : NS) (M4 : MM), Q4 z4 w4 M4 → (inR ((M4 41 16) - 1)) ∧ (((¬ (0 ≤ l2 ∧ l2 ≤ ((M4 41 16) - 1))) → P (-6) w4 M4) ∧ (((0 ≤ l2 ∧ l2 ≤ ((M4 41 16) - 1))) → (0 ≤ l2) ∧ (l2 < 60) ∧ P (M4 54 l2) w4 M4))) ∧ ((¬ (0 ≤ l1 ∧ l1 < M 41 12)) → P (-1) w M))) : A_X10_word_0 G X P l1 l2 w M := by
  unfold A_X10_word_0
  refine s_aload_n C dX10_word_0 rfl ?_
  refine s_iload_n C dX10_word_1 rfl ?_
  refine WA.fix (fun hF1 => ?_)
  obtain ⟨o2, h⟩ := h
  refine s_callV (ci := 10) (av := [(0, l1)]) (rest := []) (mc := 0) (ms := 0) C dX10_word_2 lk_X10_186 (sh_41 hF1) (by decide) rfl rfl rfl (Nat.le_of_ble_eq_true rfl) (by decide) (by decide) (pc_X10_isPiece o2) (fun z3 wz3 Mz3 hq => ?_)
  obtain ⟨hq1, hq2, hq3⟩ := hq
  have hq2 := hq2.symm
  have hq3 := hq3.symm
  subst hq1 hq2 hq3
  refine s_ifne C dX10_word_5 rfl (fun hc => ?_) (fun hc => ?_)
  · have h := h.1 (b2i_n0 hc)
    refine s_aload_n C dX10_word_10 rfl ?_
    refine s_iload_n C dX10_word_11 rfl ?_
    obtain ⟨Q4, hKQ4, h⟩ := h
    refine s_callV (ci := 10) (av := [(0, l1)]) (rest := []) (mc := 0) (ms := 0) C dX10_word_12 lk_X10_179 (sh_41 hF1) (by decide) rfl rfl rfl (Nat.le_of_ble_eq_true rfl) (by decide) (by decide) hKQ4 (fun z4 w4 M4 hq => ?_)
    have h := h z4 w4 M4 hq
    refine s_iload_n C dX10_word_15 rfl ?_
    refine s_i2l C dX10_word_16 ?_
    refine s_lconst (z := 0) C dX10_word_17 ⟨rfl, by decide⟩ ?_
    refine s_aload_n C dX10_word_18 rfl ?_
    refine WA.fix (fun hF5 => ?_)
    refine gf_X10_176 (v0 := (M4 41 16)) C (sh_41 hF5) dX10_word_19 rfl ?_
    refine s_iconst C dX10_word_22 (by decide) ?_
    obtain ⟨o6, h⟩ := h
    refine s_isub C dX10_word_23 o6 ?_
    refine s_i2l C dX10_word_24 ?_
    refine s_callS (av := [(1, l2), (1, 0), (1, ((M4 41 16) - 1))]) (rest := []) (mc := 0) (ms := 0) C dX10_word_25 lk_X10_139 rfl rfl (Nat.le_of_ble_eq_true rfl) (by decide) (by decide) (pc_X10_in) (fun z7 wz7 Mz7 hq => ?_)
    obtain ⟨hq1, hq2, hq3⟩ := hq
    have hq2 := hq2.symm
    have hq3 := hq3.symm
    subst hq1 hq2 hq3
    refine s_ifeq C dX10_word_28 rfl (fun hc => ?_) (fun hc => ?_)
    · have h := h.1 (b2i_0.mp hc)
      refine s_bipush C dX10_word_40 ⟨rfl, by decide, by decide⟩ ?_
      exact s_ireturn C dX10_word_42 h
    · have h := h.2 (b2i_n0 hc)
      refine s_aload_n C dX10_word_31 rfl ?_
      refine gf_X10_46 C (sh_41 hF5) dX10_word_32 (fx_41_14 hF5) ?_
      refine s_iload_n C dX10_word_35 rfl ?_
      obtain ⟨o8, h⟩ := h
      obtain ⟨o9, h⟩ := h
      refine s_iald (v0 := (M4 54 l2)) C (sh_54 hF5) o8 o9 dX10_word_36 rfl ?_
      refine s_goto C dX10_word_37 rfl ?_
      exact s_ireturn C dX10_word_42 h
  · have h := h.2 (b2i_nn hc)
    refine s_iconst C dX10_word_8 (by decide) ?_
    exact s_ireturn C dX10_word_9 h
theorem E_X10_word {G : GP} {l : Launch} {P : Int → NS → MM → Prop} {l1 : Int} {l2 : Int} {w : NS} {M : MM} (h : inR l1 → inR l2 → ∀ X : BX, X.2.1 = l → CX_X10_word G X → A_X10_word_0 G X P l1 l2 w M) : CT_X10_word G l [(2, 41), (0, l1), (0, l2)] w M P :=
  CT.of RX10 "word" (by decide +kernel) rfl rfl rfl (Nat.le_of_ble_eq_true rfl) (fun hr X hX C => h (hr (0, l1) (by simp)) (hr (0, l2) (by simp)) X hX C)
def A_X10_doClash_0 (G : GP) (X : BX) (P : Int → NS → MM → Prop) (l1 : Int) (l2 : Int) (w : NS) (M : MM) : Prop := WA true G X (QM G X true 0 P) 6 0 [(2, 41), (0, l1), (0, l2), (3, 0), (3, 0), (3, 0)] [] 0 0 w M
set_option maxHeartbeats 4000000 in
set_option maxRecDepth 100000 in
theorem B_X10_doClash_0 {G : GP} {X : BX} {P : Int → NS → MM → Prop} {l1 : Int} {l2 : Int} {w : NS} {M : MM} (C : CX_X10_doClash G X) (h : (0 ≤ l1) ∧ (l1 < 24) ∧ (0 ≤ l2) ∧ (l2 < 24) ∧ ((((M 46 l1) ≠ (M 46 l2)) → (0 ≤ (M 46 l1)) ∧ ((M 46 l1) < 8) ∧ ((((M 45 (M 46 l1)) = (M 46 l2)) → (inR (9 - (M 50 l2))) ∧ (inR (9 - (M 49 l2))) ∧ ((((M 48 l2) < (M 47 l1)) → P 0 w M) ∧ ((¬ ((M 48 l2) < (M 47 l1))) → ((((M 48 l1) < (M 47 l2)) → P 0 w M) ∧ ((¬ ((M 48 l1) < (M 47 l2))) → ((((9 - (M 49 l2)) < (M 49 l1)) → P 0 w M) ∧ ((¬ ((9 - (M 49 l2)) < (M 49 l1))) → ((((M 50 l1) < (9 - (M 50 l2))) → P 0 w M) ∧ ((¬ ((M 50 l1) < (9 - (M 50 l2)))) → P 1 w M))))))))) ∧ ((¬ ((M 45 (M 46 l1)) = (M 46 l2))) → P 0 w M))) ∧ ((¬ ((M 46 l1) ≠ (M 46 l2))) → ((((M 48 l2) < (M 47 l1)) → P 0 w M) ∧ ((¬ ((M 48 l2) < (M 47 l1))) → ((((M 48 l1) < (M 47 l2)) → P 0 w M) ∧ ((¬ ((M 48 l1) < (M 47 l2))) → ((((M 50 l2) < (M 49 l1)) → P 0 w M) ∧ ((¬ ((M 50 l2) < (M 49 l1))) → ((((M 50 l1) < (M 49 l2)) → P 0 w M) ∧ ((¬ ((M 50 l1) < (M 49 l2))) → P 1 w M))))))))))) : A_X10_doClash_0 G X P l1 l2 w M := by
  unfold A_X10_doClash_0
  refine s_aload_n C dX10_doClash_0 rfl ?_
  refine WA.fix (fun hF1 => ?_)
  refine gf_X10_22 C (sh_41 hF1) dX10_doClash_1 (fx_41_5 hF1) ?_
  refine s_iload_n C dX10_doClash_4 rfl ?_
  obtain ⟨o2, h⟩ := h
  obtain ⟨o3, h⟩ := h
  refine s_iald (v0 := (M 46 l1)) C (sh_46 hF1) o2 o3 dX10_doClash_5 rfl ?_
  refine s_aload_n C dX10_doClash_6 rfl ?_
  refine gf_X10_22 C (sh_41 hF1) dX10_doClash_7 (fx_41_5 hF1) ?_
  refine s_iload_n C dX10_doClash_10 rfl ?_
  obtain ⟨o4, h⟩ := h
  obtain ⟨o5, h⟩ := h
  refine s_iald (v0 := (M 46 l2)) C (sh_46 hF1) o4 o5 dX10_doClash_11 rfl ?_
  refine s_icmpne C dX10_doClash_12 rfl (fun hc => ?_) (fun hc => ?_)
  · have h := h.1 hc
    refine s_iconst C dX10_doClash_19 (by decide) ?_
    refine s_istore_n (ls' := [(2, 41), (0, l1), (0, l2), (0, 0), (3, 0), (3, 0)]) C dX10_doClash_20 (by decide) rfl rfl ?_
    refine s_iload_n C dX10_doClash_21 rfl ?_
    refine s_ifne C dX10_doClash_22 rfl (fun hc => absurd hc (by decide)) (fun hc => ?_)
    refine s_aload_n C dX10_doClash_25 rfl ?_
    refine gf_X10_19 C (sh_41 hF1) dX10_doClash_26 (fx_41_3 hF1) ?_
    refine s_aload_n C dX10_doClash_29 rfl ?_
    refine gf_X10_22 C (sh_41 hF1) dX10_doClash_30 (fx_41_5 hF1) ?_
    refine s_iload_n C dX10_doClash_33 rfl ?_
    refine s_iald (v0 := (M 46 l1)) C (sh_46 hF1) o2 o3 dX10_doClash_34 rfl ?_
    obtain ⟨o6, h⟩ := h
    obtain ⟨o7, h⟩ := h
    refine s_iald (v0 := (M 45 (M 46 l1))) C (sh_45 hF1) o6 o7 dX10_doClash_35 rfl ?_
    refine s_aload_n C dX10_doClash_36 rfl ?_
    refine gf_X10_22 C (sh_41 hF1) dX10_doClash_37 (fx_41_5 hF1) ?_
    refine s_iload_n C dX10_doClash_40 rfl ?_
    refine s_iald (v0 := (M 46 l2)) C (sh_46 hF1) o4 o5 dX10_doClash_41 rfl ?_
    refine s_icmpeq C dX10_doClash_42 rfl (fun hc => ?_) (fun hc => ?_)
    · have h := h.1 hc
      refine s_iload_n C dX10_doClash_47 rfl ?_
      refine s_ifeq C dX10_doClash_48 rfl (fun hc => ?_) (fun hc => absurd (by decide) hc)
      refine s_bipush C dX10_doClash_60 ⟨rfl, by decide, by decide⟩ ?_
      refine s_aload_n C dX10_doClash_62 rfl ?_
      refine gf_X10_34 C (sh_41 hF1) dX10_doClash_63 (fx_41_9 hF1) ?_
      refine s_iload_n C dX10_doClash_66 rfl ?_
      refine s_iald (v0 := (M 50 l2)) C (sh_50 hF1) o4 o5 dX10_doClash_67 rfl ?_
      obtain ⟨o8, h⟩ := h
      refine s_isub C dX10_doClash_68 o8 ?_
      refine s_istore (ls' := [(2, 41), (0, l1), (0, l2), (0, 0), (0, (9 - (M 50 l2))), (3, 0)]) C dX10_doClash_69 (by decide) rfl rfl ?_
      refine s_iload_n C dX10_doClash_71 rfl ?_
      refine s_ifeq C dX10_doClash_72 rfl (fun hc => ?_) (fun hc => absurd (by decide) hc)
      refine s_bipush C dX10_doClash_84 ⟨rfl, by decide, by decide⟩ ?_
      refine s_aload_n C dX10_doClash_86 rfl ?_
      refine gf_X10_31 C (sh_41 hF1) dX10_doClash_87 (fx_41_8 hF1) ?_
      refine s_iload_n C dX10_doClash_90 rfl ?_
      refine s_iald (v0 := (M 49 l2)) C (sh_49 hF1) o4 o5 dX10_doClash_91 rfl ?_
      obtain ⟨o9, h⟩ := h
      refine s_isub C dX10_doClash_92 o9 ?_
      refine s_istore (ls' := [(2, 41), (0, l1), (0, l2), (0, 0), (0, (9 - (M 50 l2))), (0, (9 - (M 49 l2)))]) C dX10_doClash_93 (by decide) rfl rfl ?_
      refine s_aload_n C dX10_doClash_95 rfl ?_
      refine gf_X10_25 C (sh_41 hF1) dX10_doClash_96 (fx_41_6 hF1) ?_
      refine s_iload_n C dX10_doClash_99 rfl ?_
      refine s_iald (v0 := (M 47 l1)) C (sh_47 hF1) o2 o3 dX10_doClash_100 rfl ?_
      refine s_aload_n C dX10_doClash_101 rfl ?_
      refine gf_X10_28 C (sh_41 hF1) dX10_doClash_102 (fx_41_7 hF1) ?_
      refine s_iload_n C dX10_doClash_105 rfl ?_
      refine s_iald (v0 := (M 48 l2)) C (sh_48 hF1) o4 o5 dX10_doClash_106 rfl ?_
      refine s_icmpgt C dX10_doClash_107 rfl (fun hc => ?_) (fun hc => ?_)
      · have h := h.1 hc
        refine s_iconst C dX10_doClash_151 (by decide) ?_
        exact s_zreturn C dX10_doClash_152 (by decide) h
      · have h := h.2 hc
        refine s_aload_n C dX10_doClash_110 rfl ?_
        refine gf_X10_25 C (sh_41 hF1) dX10_doClash_111 (fx_41_6 hF1) ?_
        refine s_iload_n C dX10_doClash_114 rfl ?_
        refine s_iald (v0 := (M 47 l2)) C (sh_47 hF1) o4 o5 dX10_doClash_115 rfl ?_
        refine s_aload_n C dX10_doClash_116 rfl ?_
        refine gf_X10_28 C (sh_41 hF1) dX10_doClash_117 (fx_41_7 hF1) ?_
        refine s_iload_n C dX10_doClash_120 rfl ?_
        refine s_iald (v0 := (M 48 l1)) C (sh_48 hF1) o2 o3 dX10_doClash_121 rfl ?_
        refine s_icmpgt C dX10_doClash_122 rfl (fun hc => ?_) (fun hc => ?_)
        · have h := h.1 hc
          refine s_iconst C dX10_doClash_151 (by decide) ?_
          exact s_zreturn C dX10_doClash_152 (by decide) h
        · have h := h.2 hc
          refine s_aload_n C dX10_doClash_125 rfl ?_
          refine gf_X10_31 C (sh_41 hF1) dX10_doClash_126 (fx_41_8 hF1) ?_
          refine s_iload_n C dX10_doClash_129 rfl ?_
          refine s_iald (v0 := (M 49 l1)) C (sh_49 hF1) o2 o3 dX10_doClash_130 rfl ?_
          refine s_iload C dX10_doClash_131 rfl ?_
          refine s_icmpgt C dX10_doClash_133 rfl (fun hc => ?_) (fun hc => ?_)
          · have h := h.1 hc
            refine s_iconst C dX10_doClash_151 (by decide) ?_
            exact s_zreturn C dX10_doClash_152 (by decide) h
          · have h := h.2 hc
            refine s_iload C dX10_doClash_136 rfl ?_
            refine s_aload_n C dX10_doClash_138 rfl ?_
            refine gf_X10_34 C (sh_41 hF1) dX10_doClash_139 (fx_41_9 hF1) ?_
            refine s_iload_n C dX10_doClash_142 rfl ?_
            refine s_iald (v0 := (M 50 l1)) C (sh_50 hF1) o2 o3 dX10_doClash_143 rfl ?_
            refine s_icmpgt C dX10_doClash_144 rfl (fun hc => ?_) (fun hc => ?_)
            · have h := h.1 hc
              refine s_iconst C dX10_doClash_151 (by decide) ?_
              exact s_zreturn C dX10_doClash_152 (by decide) h
            · have h := h.2 hc
              refine s_iconst C dX10_doClash_147 (by decide) ?_
              refine s_goto C dX10_doClash_148 rfl ?_
              exact s_zreturn C dX10_doClash_152 (by decide) h
    · have h := h.2 hc
      refine s_iconst C dX10_doClash_45 (by decide) ?_
      exact s_zreturn C dX10_doClash_46 (by decide) h
  · have h := h.2 hc
    refine s_iconst C dX10_doClash_15 (by decide) ?_
    refine s_goto C dX10_doClash_16 rfl ?_
    refine s_istore_n (ls' := [(2, 41), (0, l1), (0, l2), (0, 1), (3, 0), (3, 0)]) C dX10_doClash_20 (by decide) rfl rfl ?_
    refine s_iload_n C dX10_doClash_21 rfl ?_
    refine s_ifne C dX10_doClash_22 rfl (fun hc => ?_) (fun hc => absurd (by decide) hc)
    refine s_iload_n C dX10_doClash_47 rfl ?_
    refine s_ifeq C dX10_doClash_48 rfl (fun hc => absurd hc (by decide)) (fun hc => ?_)
    refine s_aload_n C dX10_doClash_51 rfl ?_
    refine gf_X10_31 C (sh_41 hF1) dX10_doClash_52 (fx_41_8 hF1) ?_
    refine s_iload_n C dX10_doClash_55 rfl ?_
    refine s_iald (v0 := (M 49 l2)) C (sh_49 hF1) o4 o5 dX10_doClash_56 rfl ?_
    refine s_goto C dX10_doClash_57 rfl ?_
    refine s_istore (ls' := [(2, 41), (0, l1), (0, l2), (0, 1), (0, (M 49 l2)), (3, 0)]) C dX10_doClash_69 (by decide) rfl rfl ?_
    refine s_iload_n C dX10_doClash_71 rfl ?_
    refine s_ifeq C dX10_doClash_72 rfl (fun hc => absurd hc (by decide)) (fun hc => ?_)
    refine s_aload_n C dX10_doClash_75 rfl ?_
    refine gf_X10_34 C (sh_41 hF1) dX10_doClash_76 (fx_41_9 hF1) ?_
    refine s_iload_n C dX10_doClash_79 rfl ?_
    refine s_iald (v0 := (M 50 l2)) C (sh_50 hF1) o4 o5 dX10_doClash_80 rfl ?_
    refine s_goto C dX10_doClash_81 rfl ?_
    refine s_istore (ls' := [(2, 41), (0, l1), (0, l2), (0, 1), (0, (M 49 l2)), (0, (M 50 l2))]) C dX10_doClash_93 (by decide) rfl rfl ?_
    refine s_aload_n C dX10_doClash_95 rfl ?_
    refine gf_X10_25 C (sh_41 hF1) dX10_doClash_96 (fx_41_6 hF1) ?_
    refine s_iload_n C dX10_doClash_99 rfl ?_
    refine s_iald (v0 := (M 47 l1)) C (sh_47 hF1) o2 o3 dX10_doClash_100 rfl ?_
    refine s_aload_n C dX10_doClash_101 rfl ?_
    refine gf_X10_28 C (sh_41 hF1) dX10_doClash_102 (fx_41_7 hF1) ?_
    refine s_iload_n C dX10_doClash_105 rfl ?_
    refine s_iald (v0 := (M 48 l2)) C (sh_48 hF1) o4 o5 dX10_doClash_106 rfl ?_
    refine s_icmpgt C dX10_doClash_107 rfl (fun hc => ?_) (fun hc => ?_)
    · have h := h.1 hc
      refine s_iconst C dX10_doClash_151 (by decide) ?_
      exact s_zreturn C dX10_doClash_152 (by decide) h
    · have h := h.2 hc
      refine s_aload_n C dX10_doClash_110 rfl ?_
      refine gf_X10_25 C (sh_41 hF1) dX10_doClash_111 (fx_41_6 hF1) ?_
      refine s_iload_n C dX10_doClash_114 rfl ?_
      refine s_iald (v0 := (M 47 l2)) C (sh_47 hF1) o4 o5 dX10_doClash_115 rfl ?_
      refine s_aload_n C dX10_doClash_116 rfl ?_
      refine gf_X10_28 C (sh_41 hF1) dX10_doClash_117 (fx_41_7 hF1) ?_
      refine s_iload_n C dX10_doClash_120 rfl ?_
      refine s_iald (v0 := (M 48 l1)) C (sh_48 hF1) o2 o3 dX10_doClash_121 rfl ?_
      refine s_icmpgt C dX10_doClash_122 rfl (fun hc => ?_) (fun hc => ?_)
      · have h := h.1 hc
        refine s_iconst C dX10_doClash_151 (by decide) ?_
        exact s_zreturn C dX10_doClash_152 (by decide) h
      · have h := h.2 hc
        refine s_aload_n C dX10_doClash_125 rfl ?_
        refine gf_X10_31 C (sh_41 hF1) dX10_doClash_126 (fx_41_8 hF1) ?_
        refine s_iload_n C dX10_doClash_129 rfl ?_
        refine s_iald (v0 := (M 49 l1)) C (sh_49 hF1) o2 o3 dX10_doClash_130 rfl ?_
        refine s_iload C dX10_doClash_131 rfl ?_
        refine s_icmpgt C dX10_doClash_133 rfl (fun hc => ?_) (fun hc => ?_)
        · have h := h.1 hc
          refine s_iconst C dX10_doClash_151 (by decide) ?_
          exact s_zreturn C dX10_doClash_152 (by decide) h
        · have h := h.2 hc
          refine s_iload C dX10_doClash_136 rfl ?_
          refine s_aload_n C dX10_doClash_138 rfl ?_
          refine gf_X10_34 C (sh_41 hF1) dX10_doClash_139 (fx_41_9 hF1) ?_
          refine s_iload_n C dX10_doClash_142 rfl ?_
          refine s_iald (v0 := (M 50 l1)) C (sh_50 hF1) o2 o3 dX10_doClash_143 rfl ?_
          refine s_icmpgt C dX10_doClash_144 rfl (fun hc => ?_) (fun hc => ?_)
          · have h := h.1 hc
            refine s_iconst C dX10_doClash_151 (by decide) ?_
            exact s_zreturn C dX10_doClash_152 (by decide) h
          · have h := h.2 hc
            refine s_iconst C dX10_doClash_147 (by decide) ?_
            refine s_goto C dX10_doClash_148 rfl ?_
            exact s_zreturn C dX10_doClash_152 (by decide) h
theorem E_X10_doClash {G : GP} {l : Launch} {P : Int → NS → MM → Prop} {l1 : Int} {l2 : Int} {w : NS} {M : MM} (h : inR l1 → inR l2 → ∀ X : BX, X.2.1 = l → CX_X10_doClash G X → A_X10_doClash_0 G X P l1 l2 w M) : CT_X10_doClash G l [(2, 41), (0, l1), (0, l2)] w M P :=
  CT.of RX10 "doClash" (by decide +kernel) rfl rfl rfl (Nat.le_of_ble_eq_true rfl) (fun hr X hX C => h (hr (0, l1) (by simp)) (hr (0, l2) (by simp)) X hX C)
def A_X10_clash_0 (G : GP) (X : BX) (P : Int → NS → MM → Prop) (l1 : Int) (l2 : Int) (w : NS) (M : MM) : Prop := WA true G X (QM G X true 0 P) 3 0 [(2, 41), (0, l1), (0, l2)] [] 0 0 w M
set_option maxHeartbeats 4000000 in
set_option maxRecDepth 100000 in
theorem B_X10_clash_0 {G : GP} {X : BX} {P : Int → NS → MM → Prop} {l1 : Int} {l2 : Int} {w : NS} {M : MM} (C : CX_X10_clash G X) (h : (0 ≤ M 41 12) ∧ (((¬ (0 ≤ l1 ∧ l1 < M 41 12)) → P (-1) w M) ∧ (((0 ≤ l1 ∧ l1 < M 41 12)) → (((¬ (0 ≤ l2 ∧ l2 < M 41 12)) → P (-1) w M) ∧ (((0 ≤ l2 ∧ l2 < M 41 12)) → ∃ Q5 : Int → NS → MM → Prop, CT_X10_doClash G X.2.1 [(2, 41), (0, l1), (0, l2)] w M Q5 ∧ ∀ (z5 : Int) (w5 : NS) (M5 : MM), Q5 z5 w5 M5 → (((z5 = 0) → P 0 w5 M5) ∧ ((¬ (z5 = 0)) → P 1 w5 M5))))))) : A_X10_clash_0 G X P l1 l2 w M := by
  unfold A_X10_clash_0
  refine s_aload_n C dX10_clash_0 rfl ?_
  refine s_iload_n C dX10_clash_1 rfl ?_
  refine WA.fix (fun hF1 => ?_)
  obtain ⟨o2, h⟩ := h
  refine s_callV (ci := 10) (av := [(0, l1)]) (rest := []) (mc := 0) (ms := 0) C dX10_clash_2 lk_X10_186 (sh_41 hF1) (by decide) rfl rfl rfl (Nat.le_of_ble_eq_true rfl) (by decide) (by decide) (pc_X10_isPiece o2) (fun z3 wz3 Mz3 hq => ?_)
  obtain ⟨hq1, hq2, hq3⟩ := hq
  have hq2 := hq2.symm
  have hq3 := hq3.symm
  subst hq1 hq2 hq3
  refine s_ifeq C dX10_clash_5 rfl (fun hc => ?_) (fun hc => ?_)
  · have h := h.1 (b2i_0.mp hc)
    refine s_iconst C dX10_clash_33 (by decide) ?_
    exact s_ireturn C dX10_clash_34 h
  · have h := h.2 (b2i_n0 hc)
    refine s_aload_n C dX10_clash_8 rfl ?_
    refine s_iload_n C dX10_clash_9 rfl ?_
    refine s_callV (ci := 10) (av := [(0, l2)]) (rest := []) (mc := 0) (ms := 0) C dX10_clash_10 lk_X10_186 (sh_41 hF1) (by decide) rfl rfl rfl (Nat.le_of_ble_eq_true rfl) (by decide) (by decide) (pc_X10_isPiece o2) (fun z4 wz4 Mz4 hq => ?_)
    obtain ⟨hq1, hq2, hq3⟩ := hq
    have hq2 := hq2.symm
    have hq3 := hq3.symm
    subst hq1 hq2 hq3
    refine s_ifeq C dX10_clash_13 rfl (fun hc => ?_) (fun hc => ?_)
    · have h := h.1 (b2i_0.mp hc)
      refine s_iconst C dX10_clash_33 (by decide) ?_
      exact s_ireturn C dX10_clash_34 h
    · have h := h.2 (b2i_n0 hc)
      refine s_aload_n C dX10_clash_16 rfl ?_
      refine s_iload_n C dX10_clash_17 rfl ?_
      refine s_iload_n C dX10_clash_18 rfl ?_
      obtain ⟨Q5, hKQ5, h⟩ := h
      refine s_callV (ci := 10) (av := [(0, l1), (0, l2)]) (rest := []) (mc := 0) (ms := 0) C dX10_clash_19 lk_X10_197 (sh_41 hF1) (by decide) rfl rfl rfl (Nat.le_of_ble_eq_true rfl) (by decide) (by decide) hKQ5 (fun z5 w5 M5 hq => ?_)
      have h := h z5 w5 M5 hq
      refine s_ifeq C dX10_clash_22 rfl (fun hc => ?_) (fun hc => ?_)
      · have h := h.1 hc
        refine s_iconst C dX10_clash_29 (by decide) ?_
        refine s_goto C dX10_clash_30 rfl ?_
        exact s_ireturn C dX10_clash_34 h
      · have h := h.2 hc
        refine s_iconst C dX10_clash_25 (by decide) ?_
        refine s_goto C dX10_clash_26 rfl ?_
        exact s_ireturn C dX10_clash_34 h
theorem E_X10_clash {G : GP} {l : Launch} {P : Int → NS → MM → Prop} {l1 : Int} {l2 : Int} {w : NS} {M : MM} (h : inR l1 → inR l2 → ∀ X : BX, X.2.1 = l → CX_X10_clash G X → A_X10_clash_0 G X P l1 l2 w M) : CT_X10_clash G l [(2, 41), (0, l1), (0, l2)] w M P :=
  CT.of RX10 "clash" (by decide +kernel) rfl rfl rfl (Nat.le_of_ble_eq_true rfl) (fun hr X hX C => h (hr (0, l1) (by simp)) (hr (0, l2) (by simp)) X hX C)
def A_X10_say_0 (G : GP) (X : BX) (P : Int → NS → MM → Prop) (l1 : Int) (w : NS) (M : MM) : Prop := WA true G X (QM G X true 0 P) 2 0 [(2, 41), (0, l1)] [] 0 0 w M
set_option maxHeartbeats 4000000 in
set_option maxRecDepth 100000 in
theorem B_X10_say_0 {G : GP} {X : BX} {P : Int → NS → MM → Prop} {l1 : Int} {w : NS} {M : MM} (C : CX_X10_say G X) (h : ((((33 ≤ l1 ∧ l1 ≤ 126)) → ((((M 57 10) ≠ 40) → (inR (400 + (M 57 10))) ∧ (0 ≤ (400 + (M 57 10))) ∧ ((400 + (M 57 10)) < 440) ∧ (inR ((M 57 10) + 1)) ∧ P ((M 57 10) + 1) w (up (up M 56 (400 + (M 57 10)) l1) 57 10 ((M 57 10) + 1))) ∧ ((¬ ((M 57 10) ≠ 40)) → P (-4) w M))) ∧ ((¬ (33 ≤ l1 ∧ l1 ≤ 126)) → P (-2) w M))) : A_X10_say_0 G X P l1 w M := by
  unfold A_X10_say_0
  refine s_iload_n C dX10_say_0 rfl ?_
  refine s_i2l C dX10_say_1 ?_
  refine s_ldc2 (z := 33) C dX10_say_2 (mG (wd_1022) rfl) ⟨rfl, by decide⟩ ?_
  refine s_ldc2 (z := 126) C dX10_say_5 (mG (wd_1023) rfl) ⟨rfl, by decide⟩ ?_
  refine s_callS (av := [(1, l1), (1, 33), (1, 126)]) (rest := []) (mc := 0) (ms := 0) C dX10_say_8 lk_X10_139 rfl rfl (Nat.le_of_ble_eq_true rfl) (by decide) (by decide) (pc_X10_in) (fun z1 wz1 Mz1 hq => ?_)
  obtain ⟨hq1, hq2, hq3⟩ := hq
  have hq2 := hq2.symm
  have hq3 := hq3.symm
  subst hq1 hq2 hq3
  refine s_ifne C dX10_say_11 rfl (fun hc => ?_) (fun hc => ?_)
  · have h := h.1 (b2i_n0 hc)
    refine s_aload_n C dX10_say_17 rfl ?_
    refine WA.fix (fun hF2 => ?_)
    refine gf_X10_55 C (sh_41 hF2) dX10_say_18 (fx_41_19 hF2) ?_
    refine s_bipush C dX10_say_21 ⟨rfl, by decide, by decide⟩ ?_
    refine s_iald (v0 := (M 57 10)) C (sh_57 hF2) (by decide) (by decide) dX10_say_23 rfl ?_
    refine s_bipush C dX10_say_24 ⟨rfl, by decide, by decide⟩ ?_
    refine s_icmpne C dX10_say_26 rfl (fun hc => ?_) (fun hc => ?_)
    · have h := h.1 hc
      refine s_aload_n C dX10_say_32 rfl ?_
      refine gf_X10_52 C (sh_41 hF2) dX10_say_33 (fx_41_18 hF2) ?_
      refine s_sipush C dX10_say_36 ⟨rfl, by decide, by decide⟩ ?_
      refine s_aload_n C dX10_say_39 rfl ?_
      refine gf_X10_55 C (sh_41 hF2) dX10_say_40 (fx_41_19 hF2) ?_
      refine s_bipush C dX10_say_43 ⟨rfl, by decide, by decide⟩ ?_
      refine s_iald (v0 := (M 57 10)) C (sh_57 hF2) (by decide) (by decide) dX10_say_45 rfl ?_
      obtain ⟨o3, h⟩ := h
      refine s_iadd C dX10_say_46 o3 ?_
      refine s_iload_n C dX10_say_47 rfl ?_
      obtain ⟨o4, h⟩ := h
      obtain ⟨o5, h⟩ := h
      refine s_iast C (sh_56 hF2) o4 o5 (fun _ => by decide) dX10_say_48 ?_
      refine s_aload_n C dX10_say_49 rfl ?_
      refine WA.fix (fun hF6 => ?_)
      refine gf_X10_55 C (sh_41 hF2) dX10_say_50 (fx_41_19 hF6) ?_
      refine s_bipush C dX10_say_53 ⟨rfl, by decide, by decide⟩ ?_
      refine s_dup2 C (by simp) (by simp) dX10_say_55 ?_
      refine s_iald (v0 := (M 57 10)) C (sh_57 hF2) (by decide) (by decide) dX10_say_56 (up_na (by decide)) ?_
      refine s_iconst C dX10_say_57 (by decide) ?_
      obtain ⟨o7, h⟩ := h
      refine s_iadd C dX10_say_58 o7 ?_
      refine s_iast C (sh_57 hF2) (by decide) (by decide) (fun _ => by decide) dX10_say_59 ?_
      refine s_aload_n C dX10_say_60 rfl ?_
      refine WA.fix (fun hF8 => ?_)
      refine gf_X10_55 C (sh_41 hF2) dX10_say_61 (fx_41_19 hF8) ?_
      refine s_bipush C dX10_say_64 ⟨rfl, by decide, by decide⟩ ?_
      refine s_iald (v0 := ((M 57 10) + 1)) C (sh_57 hF2) (by decide) (by decide) dX10_say_66 (up_eq) ?_
      exact s_ireturn C dX10_say_67 h
    · have h := h.2 hc
      refine s_bipush C dX10_say_29 ⟨rfl, by decide, by decide⟩ ?_
      exact s_ireturn C dX10_say_31 h
  · have h := h.2 (b2i_nn hc)
    refine s_bipush C dX10_say_14 ⟨rfl, by decide, by decide⟩ ?_
    exact s_ireturn C dX10_say_16 h
theorem E_X10_say {G : GP} {l : Launch} {P : Int → NS → MM → Prop} {l1 : Int} {w : NS} {M : MM} (h : inR l1 → ∀ X : BX, X.2.1 = l → CX_X10_say G X → A_X10_say_0 G X P l1 w M) : CT_X10_say G l [(2, 41), (0, l1)] w M P :=
  CT.of RX10 "say" (by decide +kernel) rfl rfl rfl (Nat.le_of_ble_eq_true rfl) (fun hr X hX C => h (hr (0, l1) (by simp)) X hX C)
def A_X10_wipe_0 (G : GP) (X : BX) (P : Int → NS → MM → Prop) (w : NS) (M : MM) : Prop := WA true G X (QM G X true 0 P) 2 0 [(2, 41), (3, 0)] [] 0 0 w M
set_option maxHeartbeats 4000000 in
set_option maxRecDepth 100000 in
theorem B_X10_wipe_0 {G : GP} {X : BX} {P : Int → NS → MM → Prop} {w : NS} {M : MM} (C : CX_X10_wipe G X) (h : P (M 57 10) w (up M 57 10 0)) : A_X10_wipe_0 G X P w M := by
  unfold A_X10_wipe_0
  refine s_aload_n C dX10_wipe_0 rfl ?_
  refine WA.fix (fun hF1 => ?_)
  refine gf_X10_55 C (sh_41 hF1) dX10_wipe_1 (fx_41_19 hF1) ?_
  refine s_bipush C dX10_wipe_4 ⟨rfl, by decide, by decide⟩ ?_
  refine s_iald (v0 := (M 57 10)) C (sh_57 hF1) (by decide) (by decide) dX10_wipe_6 rfl ?_
  refine s_istore_n (ls' := [(2, 41), (0, (M 57 10))]) C dX10_wipe_7 (by decide) rfl rfl ?_
  refine s_aload_n C dX10_wipe_8 rfl ?_
  refine gf_X10_55 C (sh_41 hF1) dX10_wipe_9 (fx_41_19 hF1) ?_
  refine s_bipush C dX10_wipe_12 ⟨rfl, by decide, by decide⟩ ?_
  refine s_iconst C dX10_wipe_14 (by decide) ?_
  refine s_iast C (sh_57 hF1) (by decide) (by decide) (fun _ => by decide) dX10_wipe_15 ?_
  refine s_iload_n C dX10_wipe_16 rfl ?_
  exact s_ireturn C dX10_wipe_17 h
theorem E_X10_wipe {G : GP} {l : Launch} {P : Int → NS → MM → Prop} {w : NS} {M : MM} (h : ∀ X : BX, X.2.1 = l → CX_X10_wipe G X → A_X10_wipe_0 G X P w M) : CT_X10_wipe G l [(2, 41)] w M P :=
  CT.of RX10 "wipe" (by decide +kernel) rfl rfl rfl (Nat.le_of_ble_eq_true rfl) (fun hr X hX C => h  X hX C)
def A_X10_stepOf_0 (G : GP) (X : BX) (P : Int → NS → MM → Prop) (l0 : Int) (l1 : Int) (l2 : Int) (w : NS) (M : MM) : Prop := WA true G X (QM G X true 0 P) 4 0 [(0, l0), (0, l1), (0, l2), (3, 0)] [] 0 0 w M
set_option maxHeartbeats 4000000 in
set_option maxRecDepth 100000 in
theorem B_X10_stepOf_0 {G : GP} {X : BX} {P : Int → NS → MM → Prop} {l0 : Int} {l1 : Int} {l2 : Int} {w : NS} {M : MM} (C : CX_X10_stepOf G X) (h : (((l0 < 0 ∨ 6 < l0) → (((¬ (48 ≤ l1 ∧ l1 ≤ 57)) → (((3 ≤ l0) → (((l1 = 38) → P 0 w M) ∧ ((¬ (l1 = 38)) → (((l1 ≠ 124) → (((l1 ≠ 41) → P (-1) w M) ∧ ((¬ (l1 ≠ 41)) → (((l2 ≤ 0) → P (-1) w M) ∧ ((¬ (l2 ≤ 0)) → P 8 w M))))) ∧ ((¬ (l1 ≠ 124)) → P 0 w M))))) ∧ ((¬ (3 ≤ l0)) → (((l1 = 126) → (((l1 ≠ 126) → P 5 w M) ∧ ((¬ (l1 ≠ 126)) → P 3 w M))) ∧ ((¬ (l1 = 126)) → (((l1 ≠ 62) → (((l1 = 38) → P 0 w M) ∧ ((¬ (l1 = 38)) → (((l1 ≠ 124) → (((l1 ≠ 41) → P (-1) w M) ∧ ((¬ (l1 ≠ 41)) → (((l2 ≤ 0) → P (-1) w M) ∧ ((¬ (l2 ≤ 0)) → P 8 w M))))) ∧ ((¬ (l1 ≠ 124)) → P 0 w M))))) ∧ ((¬ (l1 ≠ 62)) → (((l1 ≠ 126) → P 5 w M) ∧ ((¬ (l1 ≠ 126)) → P 3 w M))))))))) ∧ (((48 ≤ l1 ∧ l1 ≤ 57)) → (((l0 = 1) → (((l0 ≠ 1) → P 8 w M) ∧ ((¬ (l0 ≠ 1)) → P 2 w M))) ∧ ((¬ (l0 = 1)) → (((l0 ≠ 7) → (((3 ≤ l0) → (((l1 = 38) → P 0 w M) ∧ ((¬ (l1 = 38)) → (((l1 ≠ 124) → (((l1 ≠ 41) → P (-1) w M) ∧ ((¬ (l1 ≠ 41)) → (((l2 ≤ 0) → P (-1) w M) ∧ ((¬ (l2 ≤ 0)) → P 8 w M))))) ∧ ((¬ (l1 ≠ 124)) → P 0 w M))))) ∧ ((¬ (3 ≤ l0)) → (((l1 = 126) → (((l1 ≠ 126) → P 5 w M) ∧ ((¬ (l1 ≠ 126)) → P 3 w M))) ∧ ((¬ (l1 = 126)) → (((l1 ≠ 62) → (((l1 = 38) → P 0 w M) ∧ ((¬ (l1 = 38)) → (((l1 ≠ 124) → (((l1 ≠ 41) → P (-1) w M) ∧ ((¬ (l1 ≠ 41)) → (((l2 ≤ 0) → P (-1) w M) ∧ ((¬ (l2 ≤ 0)) → P 8 w M))))) ∧ ((¬ (l1 ≠ 124)) → P 0 w M))))) ∧ ((¬ (l1 ≠ 62)) → (((l1 ≠ 126) → P 5 w M) ∧ ((¬ (l1 ≠ 126)) → P 3 w M))))))))) ∧ ((¬ (l0 ≠ 7)) → (((l0 ≠ 1) → P 8 w M) ∧ ((¬ (l0 ≠ 1)) → P 2 w M))))))))) ∧ (l0 = 0 → (((¬ (48 ≤ l1 ∧ l1 ≤ 57)) → (((l1 = 33) → P 0 w M) ∧ ((¬ (l1 = 33)) → (((l1 ≠ 40) → P (-1) w M) ∧ ((¬ (l1 ≠ 40)) → (((8 ≤ l2) → P (-1) w M) ∧ ((¬ (8 ≤ l2)) → P 0 w M))))))) ∧ (((48 ≤ l1 ∧ l1 ≤ 57)) → P 1 w M))) ∧ (l0 = 1 → (((¬ (48 ≤ l1 ∧ l1 ≤ 57)) → (((3 ≤ l0) → (((l1 = 38) → P 0 w M) ∧ ((¬ (l1 = 38)) → (((l1 ≠ 124) → (((l1 ≠ 41) → P (-1) w M) ∧ ((¬ (l1 ≠ 41)) → (((l2 ≤ 0) → P (-1) w M) ∧ ((¬ (l2 ≤ 0)) → P 8 w M))))) ∧ ((¬ (l1 ≠ 124)) → P 0 w M))))) ∧ ((¬ (3 ≤ l0)) → (((l1 = 126) → (((l1 ≠ 126) → P 5 w M) ∧ ((¬ (l1 ≠ 126)) → P 3 w M))) ∧ ((¬ (l1 = 126)) → (((l1 ≠ 62) → (((l1 = 38) → P 0 w M) ∧ ((¬ (l1 = 38)) → (((l1 ≠ 124) → (((l1 ≠ 41) → P (-1) w M) ∧ ((¬ (l1 ≠ 41)) → (((l2 ≤ 0) → P (-1) w M) ∧ ((¬ (l2 ≤ 0)) → P 8 w M))))) ∧ ((¬ (l1 ≠ 124)) → P 0 w M))))) ∧ ((¬ (l1 ≠ 62)) → (((l1 ≠ 126) → P 5 w M) ∧ ((¬ (l1 ≠ 126)) → P 3 w M))))))))) ∧ (((48 ≤ l1 ∧ l1 ≤ 57)) → (((l0 = 1) → (((l0 ≠ 1) → P 8 w M) ∧ ((¬ (l0 ≠ 1)) → P 2 w M))) ∧ ((¬ (l0 = 1)) → (((l0 ≠ 7) → (((3 ≤ l0) → (((l1 = 38) → P 0 w M) ∧ ((¬ (l1 = 38)) → (((l1 ≠ 124) → (((l1 ≠ 41) → P (-1) w M) ∧ ((¬ (l1 ≠ 41)) → (((l2 ≤ 0) → P (-1) w M) ∧ ((¬ (l2 ≤ 0)) → P 8 w M))))) ∧ ((¬ (l1 ≠ 124)) → P 0 w M))))) ∧ ((¬ (3 ≤ l0)) → (((l1 = 126) → (((l1 ≠ 126) → P 5 w M) ∧ ((¬ (l1 ≠ 126)) → P 3 w M))) ∧ ((¬ (l1 = 126)) → (((l1 ≠ 62) → (((l1 = 38) → P 0 w M) ∧ ((¬ (l1 = 38)) → (((l1 ≠ 124) → (((l1 ≠ 41) → P (-1) w M) ∧ ((¬ (l1 ≠ 41)) → (((l2 ≤ 0) → P (-1) w M) ∧ ((¬ (l2 ≤ 0)) → P 8 w M))))) ∧ ((¬ (l1 ≠ 124)) → P 0 w M))))) ∧ ((¬ (l1 ≠ 62)) → (((l1 ≠ 126) → P 5 w M) ∧ ((¬ (l1 ≠ 126)) → P 3 w M))))))))) ∧ ((¬ (l0 ≠ 7)) → (((l0 ≠ 1) → P 8 w M) ∧ ((¬ (l0 ≠ 1)) → P 2 w M))))))))) ∧ (l0 = 2 → (((¬ (48 ≤ l1 ∧ l1 ≤ 57)) → (((3 ≤ l0) → (((l1 = 38) → P 0 w M) ∧ ((¬ (l1 = 38)) → (((l1 ≠ 124) → (((l1 ≠ 41) → P (-1) w M) ∧ ((¬ (l1 ≠ 41)) → (((l2 ≤ 0) → P (-1) w M) ∧ ((¬ (l2 ≤ 0)) → P 8 w M))))) ∧ ((¬ (l1 ≠ 124)) → P 0 w M))))) ∧ ((¬ (3 ≤ l0)) → (((l1 = 126) → (((l1 ≠ 126) → P 5 w M) ∧ ((¬ (l1 ≠ 126)) → P 3 w M))) ∧ ((¬ (l1 = 126)) → (((l1 ≠ 62) → (((l1 = 38) → P 0 w M) ∧ ((¬ (l1 = 38)) → (((l1 ≠ 124) → (((l1 ≠ 41) → P (-1) w M) ∧ ((¬ (l1 ≠ 41)) → (((l2 ≤ 0) → P (-1) w M) ∧ ((¬ (l2 ≤ 0)) → P 8 w M))))) ∧ ((¬ (l1 ≠ 124)) → P 0 w M))))) ∧ ((¬ (l1 ≠ 62)) → (((l1 ≠ 126) → P 5 w M) ∧ ((¬ (l1 ≠ 126)) → P 3 w M))))))))) ∧ (((48 ≤ l1 ∧ l1 ≤ 57)) → (((l0 = 1) → (((l0 ≠ 1) → P 8 w M) ∧ ((¬ (l0 ≠ 1)) → P 2 w M))) ∧ ((¬ (l0 = 1)) → (((l0 ≠ 7) → (((3 ≤ l0) → (((l1 = 38) → P 0 w M) ∧ ((¬ (l1 = 38)) → (((l1 ≠ 124) → (((l1 ≠ 41) → P (-1) w M) ∧ ((¬ (l1 ≠ 41)) → (((l2 ≤ 0) → P (-1) w M) ∧ ((¬ (l2 ≤ 0)) → P 8 w M))))) ∧ ((¬ (l1 ≠ 124)) → P 0 w M))))) ∧ ((¬ (3 ≤ l0)) → (((l1 = 126) → (((l1 ≠ 126) → P 5 w M) ∧ ((¬ (l1 ≠ 126)) → P 3 w M))) ∧ ((¬ (l1 = 126)) → (((l1 ≠ 62) → (((l1 = 38) → P 0 w M) ∧ ((¬ (l1 = 38)) → (((l1 ≠ 124) → (((l1 ≠ 41) → P (-1) w M) ∧ ((¬ (l1 ≠ 41)) → (((l2 ≤ 0) → P (-1) w M) ∧ ((¬ (l2 ≤ 0)) → P 8 w M))))) ∧ ((¬ (l1 ≠ 124)) → P 0 w M))))) ∧ ((¬ (l1 ≠ 62)) → (((l1 ≠ 126) → P 5 w M) ∧ ((¬ (l1 ≠ 126)) → P 3 w M))))))))) ∧ ((¬ (l0 ≠ 7)) → (((l0 ≠ 1) → P 8 w M) ∧ ((¬ (l0 ≠ 1)) → P 2 w M))))))))) ∧ (l0 = 3 → (((¬ (48 ≤ l1 ∧ l1 ≤ 57)) → P (-1) w M) ∧ (((48 ≤ l1 ∧ l1 ≤ 57)) → P 4 w M))) ∧ (l0 = 4 → (((l1 ≠ 58) → P (-1) w M) ∧ ((¬ (l1 ≠ 58)) → P 6 w M))) ∧ (l0 = 5 → (((¬ (48 ≤ l1 ∧ l1 ≤ 57)) → P (-1) w M) ∧ (((48 ≤ l1 ∧ l1 ≤ 57)) → P 8 w M))) ∧ (l0 = 6 → (((¬ (48 ≤ l1 ∧ l1 ≤ 57)) → P (-1) w M) ∧ (((48 ≤ l1 ∧ l1 ≤ 57)) → P 7 w M))))) : A_X10_stepOf_0 G X P l0 l1 l2 w M := by
  unfold A_X10_stepOf_0
  refine s_iload_n C dX10_stepOf_0 rfl ?_
  refine s_callS (av := [(0, l1)]) (rest := []) (mc := 0) (ms := 0) C dX10_stepOf_1 lk_X10_209 rfl rfl (Nat.le_of_ble_eq_true rfl) (by decide) (by decide) (pc_X10_isDigit) (fun z1 wz1 Mz1 hq => ?_)
  obtain ⟨hq1, hq2, hq3⟩ := hq
  have hq2 := hq2.symm
  have hq3 := hq3.symm
  subst hq1 hq2 hq3
  refine s_istore_n (ls' := [(0, l0), (0, l1), (0, l2), (0, (b2i (48 ≤ l1 ∧ l1 ≤ 57)))]) C dX10_stepOf_4 (by decide) rfl rfl ?_
  refine s_iload_n C dX10_stepOf_5 rfl ?_
  rcases (show (l0 < 0 ∨ 6 < l0) ∨ l0 = 0 ∨ l0 = 1 ∨ l0 = 2 ∨ l0 = 3 ∨ l0 = 4 ∨ l0 = 5 ∨ l0 = 6 from by omega) with hc | hc | hc | hc | hc | hc | hc | hc
  · have h := h.1 hc
    refine s_tabOut C dX10_stepOf_6 hc rfl ?_
    refine s_iload_n C dX10_stepOf_125 rfl ?_
    refine s_ifeq C dX10_stepOf_126 rfl (fun hc => ?_) (fun hc => ?_)
    · have h := h.1 (b2i_0.mp hc)
      refine s_iload_n C dX10_stepOf_152 rfl ?_
      refine s_iconst C dX10_stepOf_153 (by decide) ?_
      refine s_icmpge C dX10_stepOf_154 rfl (fun hc => ?_) (fun hc => ?_)
      · have h := h.1 hc
        refine s_iload_n C dX10_stepOf_181 rfl ?_
        refine s_bipush C dX10_stepOf_182 ⟨rfl, by decide, by decide⟩ ?_
        refine s_icmpeq C dX10_stepOf_184 rfl (fun hc => ?_) (fun hc => ?_)
        · have h := h.1 hc
          refine s_iconst C dX10_stepOf_193 (by decide) ?_
          refine s_goto C dX10_stepOf_194 rfl ?_
          exact s_ireturn C dX10_stepOf_213 h
        · have h := h.2 hc
          refine s_iload_n C dX10_stepOf_187 rfl ?_
          refine s_bipush C dX10_stepOf_188 ⟨rfl, by decide, by decide⟩ ?_
          refine s_icmpne C dX10_stepOf_190 rfl (fun hc => ?_) (fun hc => ?_)
          · have h := h.1 hc
            refine s_iload_n C dX10_stepOf_197 rfl ?_
            refine s_bipush C dX10_stepOf_198 ⟨rfl, by decide, by decide⟩ ?_
            refine s_icmpne C dX10_stepOf_200 rfl (fun hc => ?_) (fun hc => ?_)
            · have h := h.1 hc
              refine s_iconst C dX10_stepOf_212 (by decide) ?_
              exact s_ireturn C dX10_stepOf_213 h
            · have h := h.2 hc
              refine s_iload_n C dX10_stepOf_203 rfl ?_
              refine s_ifle C dX10_stepOf_204 rfl (fun hc => ?_) (fun hc => ?_)
              · have h := h.1 hc
                refine s_iconst C dX10_stepOf_212 (by decide) ?_
                exact s_ireturn C dX10_stepOf_213 h
              · have h := h.2 hc
                refine s_bipush C dX10_stepOf_207 ⟨rfl, by decide, by decide⟩ ?_
                refine s_goto C dX10_stepOf_209 rfl ?_
                exact s_ireturn C dX10_stepOf_213 h
          · have h := h.2 hc
            refine s_iconst C dX10_stepOf_193 (by decide) ?_
            refine s_goto C dX10_stepOf_194 rfl ?_
            exact s_ireturn C dX10_stepOf_213 h
      · have h := h.2 hc
        refine s_iload_n C dX10_stepOf_157 rfl ?_
        refine s_bipush C dX10_stepOf_158 ⟨rfl, by decide, by decide⟩ ?_
        refine s_icmpeq C dX10_stepOf_160 rfl (fun hc => ?_) (fun hc => ?_)
        · have h := h.1 hc
          refine s_iload_n C dX10_stepOf_169 rfl ?_
          refine s_bipush C dX10_stepOf_170 ⟨rfl, by decide, by decide⟩ ?_
          refine s_icmpne C dX10_stepOf_172 rfl (fun hc => ?_) (fun hc => ?_)
          · have h := h.1 hc
            refine s_iconst C dX10_stepOf_179 (by decide) ?_
            exact s_ireturn C dX10_stepOf_180 h
          · have h := h.2 hc
            refine s_iconst C dX10_stepOf_175 (by decide) ?_
            refine s_goto C dX10_stepOf_176 rfl ?_
            exact s_ireturn C dX10_stepOf_180 h
        · have h := h.2 hc
          refine s_iload_n C dX10_stepOf_163 rfl ?_
          refine s_bipush C dX10_stepOf_164 ⟨rfl, by decide, by decide⟩ ?_
          refine s_icmpne C dX10_stepOf_166 rfl (fun hc => ?_) (fun hc => ?_)
          · have h := h.1 hc
            refine s_iload_n C dX10_stepOf_181 rfl ?_
            refine s_bipush C dX10_stepOf_182 ⟨rfl, by decide, by decide⟩ ?_
            refine s_icmpeq C dX10_stepOf_184 rfl (fun hc => ?_) (fun hc => ?_)
            · have h := h.1 hc
              refine s_iconst C dX10_stepOf_193 (by decide) ?_
              refine s_goto C dX10_stepOf_194 rfl ?_
              exact s_ireturn C dX10_stepOf_213 h
            · have h := h.2 hc
              refine s_iload_n C dX10_stepOf_187 rfl ?_
              refine s_bipush C dX10_stepOf_188 ⟨rfl, by decide, by decide⟩ ?_
              refine s_icmpne C dX10_stepOf_190 rfl (fun hc => ?_) (fun hc => ?_)
              · have h := h.1 hc
                refine s_iload_n C dX10_stepOf_197 rfl ?_
                refine s_bipush C dX10_stepOf_198 ⟨rfl, by decide, by decide⟩ ?_
                refine s_icmpne C dX10_stepOf_200 rfl (fun hc => ?_) (fun hc => ?_)
                · have h := h.1 hc
                  refine s_iconst C dX10_stepOf_212 (by decide) ?_
                  exact s_ireturn C dX10_stepOf_213 h
                · have h := h.2 hc
                  refine s_iload_n C dX10_stepOf_203 rfl ?_
                  refine s_ifle C dX10_stepOf_204 rfl (fun hc => ?_) (fun hc => ?_)
                  · have h := h.1 hc
                    refine s_iconst C dX10_stepOf_212 (by decide) ?_
                    exact s_ireturn C dX10_stepOf_213 h
                  · have h := h.2 hc
                    refine s_bipush C dX10_stepOf_207 ⟨rfl, by decide, by decide⟩ ?_
                    refine s_goto C dX10_stepOf_209 rfl ?_
                    exact s_ireturn C dX10_stepOf_213 h
              · have h := h.2 hc
                refine s_iconst C dX10_stepOf_193 (by decide) ?_
                refine s_goto C dX10_stepOf_194 rfl ?_
                exact s_ireturn C dX10_stepOf_213 h
          · have h := h.2 hc
            refine s_iload_n C dX10_stepOf_169 rfl ?_
            refine s_bipush C dX10_stepOf_170 ⟨rfl, by decide, by decide⟩ ?_
            refine s_icmpne C dX10_stepOf_172 rfl (fun hc => ?_) (fun hc => ?_)
            · have h := h.1 hc
              refine s_iconst C dX10_stepOf_179 (by decide) ?_
              exact s_ireturn C dX10_stepOf_180 h
            · have h := h.2 hc
              refine s_iconst C dX10_stepOf_175 (by decide) ?_
              refine s_goto C dX10_stepOf_176 rfl ?_
              exact s_ireturn C dX10_stepOf_180 h
    · have h := h.2 (b2i_n0 hc)
      refine s_iload_n C dX10_stepOf_129 rfl ?_
      refine s_iconst C dX10_stepOf_130 (by decide) ?_
      refine s_icmpeq C dX10_stepOf_131 rfl (fun hc => ?_) (fun hc => ?_)
      · have h := h.1 hc
        refine s_iload_n C dX10_stepOf_140 rfl ?_
        refine s_iconst C dX10_stepOf_141 (by decide) ?_
        refine s_icmpne C dX10_stepOf_142 rfl (fun hc => ?_) (fun hc => ?_)
        · have h := h.1 hc
          refine s_bipush C dX10_stepOf_149 ⟨rfl, by decide, by decide⟩ ?_
          exact s_ireturn C dX10_stepOf_151 h
        · have h := h.2 hc
          refine s_iconst C dX10_stepOf_145 (by decide) ?_
          refine s_goto C dX10_stepOf_146 rfl ?_
          exact s_ireturn C dX10_stepOf_151 h
      · have h := h.2 hc
        refine s_iload_n C dX10_stepOf_134 rfl ?_
        refine s_bipush C dX10_stepOf_135 ⟨rfl, by decide, by decide⟩ ?_
        refine s_icmpne C dX10_stepOf_137 rfl (fun hc => ?_) (fun hc => ?_)
        · have h := h.1 hc
          refine s_iload_n C dX10_stepOf_152 rfl ?_
          refine s_iconst C dX10_stepOf_153 (by decide) ?_
          refine s_icmpge C dX10_stepOf_154 rfl (fun hc => ?_) (fun hc => ?_)
          · have h := h.1 hc
            refine s_iload_n C dX10_stepOf_181 rfl ?_
            refine s_bipush C dX10_stepOf_182 ⟨rfl, by decide, by decide⟩ ?_
            refine s_icmpeq C dX10_stepOf_184 rfl (fun hc => ?_) (fun hc => ?_)
            · have h := h.1 hc
              refine s_iconst C dX10_stepOf_193 (by decide) ?_
              refine s_goto C dX10_stepOf_194 rfl ?_
              exact s_ireturn C dX10_stepOf_213 h
            · have h := h.2 hc
              refine s_iload_n C dX10_stepOf_187 rfl ?_
              refine s_bipush C dX10_stepOf_188 ⟨rfl, by decide, by decide⟩ ?_
              refine s_icmpne C dX10_stepOf_190 rfl (fun hc => ?_) (fun hc => ?_)
              · have h := h.1 hc
                refine s_iload_n C dX10_stepOf_197 rfl ?_
                refine s_bipush C dX10_stepOf_198 ⟨rfl, by decide, by decide⟩ ?_
                refine s_icmpne C dX10_stepOf_200 rfl (fun hc => ?_) (fun hc => ?_)
                · have h := h.1 hc
                  refine s_iconst C dX10_stepOf_212 (by decide) ?_
                  exact s_ireturn C dX10_stepOf_213 h
                · have h := h.2 hc
                  refine s_iload_n C dX10_stepOf_203 rfl ?_
                  refine s_ifle C dX10_stepOf_204 rfl (fun hc => ?_) (fun hc => ?_)
                  · have h := h.1 hc
                    refine s_iconst C dX10_stepOf_212 (by decide) ?_
                    exact s_ireturn C dX10_stepOf_213 h
                  · have h := h.2 hc
                    refine s_bipush C dX10_stepOf_207 ⟨rfl, by decide, by decide⟩ ?_
                    refine s_goto C dX10_stepOf_209 rfl ?_
                    exact s_ireturn C dX10_stepOf_213 h
              · have h := h.2 hc
                refine s_iconst C dX10_stepOf_193 (by decide) ?_
                refine s_goto C dX10_stepOf_194 rfl ?_
                exact s_ireturn C dX10_stepOf_213 h
          · have h := h.2 hc
            refine s_iload_n C dX10_stepOf_157 rfl ?_
            refine s_bipush C dX10_stepOf_158 ⟨rfl, by decide, by decide⟩ ?_
            refine s_icmpeq C dX10_stepOf_160 rfl (fun hc => ?_) (fun hc => ?_)
            · have h := h.1 hc
              refine s_iload_n C dX10_stepOf_169 rfl ?_
              refine s_bipush C dX10_stepOf_170 ⟨rfl, by decide, by decide⟩ ?_
              refine s_icmpne C dX10_stepOf_172 rfl (fun hc => ?_) (fun hc => ?_)
              · have h := h.1 hc
                refine s_iconst C dX10_stepOf_179 (by decide) ?_
                exact s_ireturn C dX10_stepOf_180 h
              · have h := h.2 hc
                refine s_iconst C dX10_stepOf_175 (by decide) ?_
                refine s_goto C dX10_stepOf_176 rfl ?_
                exact s_ireturn C dX10_stepOf_180 h
            · have h := h.2 hc
              refine s_iload_n C dX10_stepOf_163 rfl ?_
              refine s_bipush C dX10_stepOf_164 ⟨rfl, by decide, by decide⟩ ?_
              refine s_icmpne C dX10_stepOf_166 rfl (fun hc => ?_) (fun hc => ?_)
              · have h := h.1 hc
                refine s_iload_n C dX10_stepOf_181 rfl ?_
                refine s_bipush C dX10_stepOf_182 ⟨rfl, by decide, by decide⟩ ?_
                refine s_icmpeq C dX10_stepOf_184 rfl (fun hc => ?_) (fun hc => ?_)
                · have h := h.1 hc
                  refine s_iconst C dX10_stepOf_193 (by decide) ?_
                  refine s_goto C dX10_stepOf_194 rfl ?_
                  exact s_ireturn C dX10_stepOf_213 h
                · have h := h.2 hc
                  refine s_iload_n C dX10_stepOf_187 rfl ?_
                  refine s_bipush C dX10_stepOf_188 ⟨rfl, by decide, by decide⟩ ?_
                  refine s_icmpne C dX10_stepOf_190 rfl (fun hc => ?_) (fun hc => ?_)
                  · have h := h.1 hc
                    refine s_iload_n C dX10_stepOf_197 rfl ?_
                    refine s_bipush C dX10_stepOf_198 ⟨rfl, by decide, by decide⟩ ?_
                    refine s_icmpne C dX10_stepOf_200 rfl (fun hc => ?_) (fun hc => ?_)
                    · have h := h.1 hc
                      refine s_iconst C dX10_stepOf_212 (by decide) ?_
                      exact s_ireturn C dX10_stepOf_213 h
                    · have h := h.2 hc
                      refine s_iload_n C dX10_stepOf_203 rfl ?_
                      refine s_ifle C dX10_stepOf_204 rfl (fun hc => ?_) (fun hc => ?_)
                      · have h := h.1 hc
                        refine s_iconst C dX10_stepOf_212 (by decide) ?_
                        exact s_ireturn C dX10_stepOf_213 h
                      · have h := h.2 hc
                        refine s_bipush C dX10_stepOf_207 ⟨rfl, by decide, by decide⟩ ?_
                        refine s_goto C dX10_stepOf_209 rfl ?_
                        exact s_ireturn C dX10_stepOf_213 h
                  · have h := h.2 hc
                    refine s_iconst C dX10_stepOf_193 (by decide) ?_
                    refine s_goto C dX10_stepOf_194 rfl ?_
                    exact s_ireturn C dX10_stepOf_213 h
              · have h := h.2 hc
                refine s_iload_n C dX10_stepOf_169 rfl ?_
                refine s_bipush C dX10_stepOf_170 ⟨rfl, by decide, by decide⟩ ?_
                refine s_icmpne C dX10_stepOf_172 rfl (fun hc => ?_) (fun hc => ?_)
                · have h := h.1 hc
                  refine s_iconst C dX10_stepOf_179 (by decide) ?_
                  exact s_ireturn C dX10_stepOf_180 h
                · have h := h.2 hc
                  refine s_iconst C dX10_stepOf_175 (by decide) ?_
                  refine s_goto C dX10_stepOf_176 rfl ?_
                  exact s_ireturn C dX10_stepOf_180 h
        · have h := h.2 hc
          refine s_iload_n C dX10_stepOf_140 rfl ?_
          refine s_iconst C dX10_stepOf_141 (by decide) ?_
          refine s_icmpne C dX10_stepOf_142 rfl (fun hc => ?_) (fun hc => ?_)
          · have h := h.1 hc
            refine s_bipush C dX10_stepOf_149 ⟨rfl, by decide, by decide⟩ ?_
            exact s_ireturn C dX10_stepOf_151 h
          · have h := h.2 hc
            refine s_iconst C dX10_stepOf_145 (by decide) ?_
            refine s_goto C dX10_stepOf_146 rfl ?_
            exact s_ireturn C dX10_stepOf_151 h
  · have h := h.2.1 hc
    refine s_tabIn C dX10_stepOf_6 hc (by decide) (by decide) rfl rfl ?_
    refine s_iload_n C dX10_stepOf_48 rfl ?_
    refine s_ifeq C dX10_stepOf_49 rfl (fun hc => ?_) (fun hc => ?_)
    · have h := h.1 (b2i_0.mp hc)
      refine s_iload_n C dX10_stepOf_56 rfl ?_
      refine s_bipush C dX10_stepOf_57 ⟨rfl, by decide, by decide⟩ ?_
      refine s_icmpeq C dX10_stepOf_59 rfl (fun hc => ?_) (fun hc => ?_)
      · have h := h.1 hc
        refine s_iconst C dX10_stepOf_74 (by decide) ?_
        refine s_goto C dX10_stepOf_75 rfl ?_
        exact s_ireturn C dX10_stepOf_79 h
      · have h := h.2 hc
        refine s_iload_n C dX10_stepOf_62 rfl ?_
        refine s_bipush C dX10_stepOf_63 ⟨rfl, by decide, by decide⟩ ?_
        refine s_icmpne C dX10_stepOf_65 rfl (fun hc => ?_) (fun hc => ?_)
        · have h := h.1 hc
          refine s_iconst C dX10_stepOf_78 (by decide) ?_
          exact s_ireturn C dX10_stepOf_79 h
        · have h := h.2 hc
          refine s_iload_n C dX10_stepOf_68 rfl ?_
          refine s_bipush C dX10_stepOf_69 ⟨rfl, by decide, by decide⟩ ?_
          refine s_icmpge C dX10_stepOf_71 rfl (fun hc => ?_) (fun hc => ?_)
          · have h := h.1 hc
            refine s_iconst C dX10_stepOf_78 (by decide) ?_
            exact s_ireturn C dX10_stepOf_79 h
          · have h := h.2 hc
            refine s_iconst C dX10_stepOf_74 (by decide) ?_
            refine s_goto C dX10_stepOf_75 rfl ?_
            exact s_ireturn C dX10_stepOf_79 h
    · have h := h.2 (b2i_n0 hc)
      refine s_iconst C dX10_stepOf_52 (by decide) ?_
      refine s_goto C dX10_stepOf_53 rfl ?_
      exact s_ireturn C dX10_stepOf_79 h
  · have h := h.2.2.1 hc
    refine s_tabIn C dX10_stepOf_6 hc (by decide) (by decide) rfl rfl ?_
    refine s_iload_n C dX10_stepOf_125 rfl ?_
    refine s_ifeq C dX10_stepOf_126 rfl (fun hc => ?_) (fun hc => ?_)
    · have h := h.1 (b2i_0.mp hc)
      refine s_iload_n C dX10_stepOf_152 rfl ?_
      refine s_iconst C dX10_stepOf_153 (by decide) ?_
      refine s_icmpge C dX10_stepOf_154 rfl (fun hc => ?_) (fun hc => ?_)
      · have h := h.1 hc
        refine s_iload_n C dX10_stepOf_181 rfl ?_
        refine s_bipush C dX10_stepOf_182 ⟨rfl, by decide, by decide⟩ ?_
        refine s_icmpeq C dX10_stepOf_184 rfl (fun hc => ?_) (fun hc => ?_)
        · have h := h.1 hc
          refine s_iconst C dX10_stepOf_193 (by decide) ?_
          refine s_goto C dX10_stepOf_194 rfl ?_
          exact s_ireturn C dX10_stepOf_213 h
        · have h := h.2 hc
          refine s_iload_n C dX10_stepOf_187 rfl ?_
          refine s_bipush C dX10_stepOf_188 ⟨rfl, by decide, by decide⟩ ?_
          refine s_icmpne C dX10_stepOf_190 rfl (fun hc => ?_) (fun hc => ?_)
          · have h := h.1 hc
            refine s_iload_n C dX10_stepOf_197 rfl ?_
            refine s_bipush C dX10_stepOf_198 ⟨rfl, by decide, by decide⟩ ?_
            refine s_icmpne C dX10_stepOf_200 rfl (fun hc => ?_) (fun hc => ?_)
            · have h := h.1 hc
              refine s_iconst C dX10_stepOf_212 (by decide) ?_
              exact s_ireturn C dX10_stepOf_213 h
            · have h := h.2 hc
              refine s_iload_n C dX10_stepOf_203 rfl ?_
              refine s_ifle C dX10_stepOf_204 rfl (fun hc => ?_) (fun hc => ?_)
              · have h := h.1 hc
                refine s_iconst C dX10_stepOf_212 (by decide) ?_
                exact s_ireturn C dX10_stepOf_213 h
              · have h := h.2 hc
                refine s_bipush C dX10_stepOf_207 ⟨rfl, by decide, by decide⟩ ?_
                refine s_goto C dX10_stepOf_209 rfl ?_
                exact s_ireturn C dX10_stepOf_213 h
          · have h := h.2 hc
            refine s_iconst C dX10_stepOf_193 (by decide) ?_
            refine s_goto C dX10_stepOf_194 rfl ?_
            exact s_ireturn C dX10_stepOf_213 h
      · have h := h.2 hc
        refine s_iload_n C dX10_stepOf_157 rfl ?_
        refine s_bipush C dX10_stepOf_158 ⟨rfl, by decide, by decide⟩ ?_
        refine s_icmpeq C dX10_stepOf_160 rfl (fun hc => ?_) (fun hc => ?_)
        · have h := h.1 hc
          refine s_iload_n C dX10_stepOf_169 rfl ?_
          refine s_bipush C dX10_stepOf_170 ⟨rfl, by decide, by decide⟩ ?_
          refine s_icmpne C dX10_stepOf_172 rfl (fun hc => ?_) (fun hc => ?_)
          · have h := h.1 hc
            refine s_iconst C dX10_stepOf_179 (by decide) ?_
            exact s_ireturn C dX10_stepOf_180 h
          · have h := h.2 hc
            refine s_iconst C dX10_stepOf_175 (by decide) ?_
            refine s_goto C dX10_stepOf_176 rfl ?_
            exact s_ireturn C dX10_stepOf_180 h
        · have h := h.2 hc
          refine s_iload_n C dX10_stepOf_163 rfl ?_
          refine s_bipush C dX10_stepOf_164 ⟨rfl, by decide, by decide⟩ ?_
          refine s_icmpne C dX10_stepOf_166 rfl (fun hc => ?_) (fun hc => ?_)
          · have h := h.1 hc
            refine s_iload_n C dX10_stepOf_181 rfl ?_
            refine s_bipush C dX10_stepOf_182 ⟨rfl, by decide, by decide⟩ ?_
            refine s_icmpeq C dX10_stepOf_184 rfl (fun hc => ?_) (fun hc => ?_)
            · have h := h.1 hc
              refine s_iconst C dX10_stepOf_193 (by decide) ?_
              refine s_goto C dX10_stepOf_194 rfl ?_
              exact s_ireturn C dX10_stepOf_213 h
            · have h := h.2 hc
              refine s_iload_n C dX10_stepOf_187 rfl ?_
              refine s_bipush C dX10_stepOf_188 ⟨rfl, by decide, by decide⟩ ?_
              refine s_icmpne C dX10_stepOf_190 rfl (fun hc => ?_) (fun hc => ?_)
              · have h := h.1 hc
                refine s_iload_n C dX10_stepOf_197 rfl ?_
                refine s_bipush C dX10_stepOf_198 ⟨rfl, by decide, by decide⟩ ?_
                refine s_icmpne C dX10_stepOf_200 rfl (fun hc => ?_) (fun hc => ?_)
                · have h := h.1 hc
                  refine s_iconst C dX10_stepOf_212 (by decide) ?_
                  exact s_ireturn C dX10_stepOf_213 h
                · have h := h.2 hc
                  refine s_iload_n C dX10_stepOf_203 rfl ?_
                  refine s_ifle C dX10_stepOf_204 rfl (fun hc => ?_) (fun hc => ?_)
                  · have h := h.1 hc
                    refine s_iconst C dX10_stepOf_212 (by decide) ?_
                    exact s_ireturn C dX10_stepOf_213 h
                  · have h := h.2 hc
                    refine s_bipush C dX10_stepOf_207 ⟨rfl, by decide, by decide⟩ ?_
                    refine s_goto C dX10_stepOf_209 rfl ?_
                    exact s_ireturn C dX10_stepOf_213 h
              · have h := h.2 hc
                refine s_iconst C dX10_stepOf_193 (by decide) ?_
                refine s_goto C dX10_stepOf_194 rfl ?_
                exact s_ireturn C dX10_stepOf_213 h
          · have h := h.2 hc
            refine s_iload_n C dX10_stepOf_169 rfl ?_
            refine s_bipush C dX10_stepOf_170 ⟨rfl, by decide, by decide⟩ ?_
            refine s_icmpne C dX10_stepOf_172 rfl (fun hc => ?_) (fun hc => ?_)
            · have h := h.1 hc
              refine s_iconst C dX10_stepOf_179 (by decide) ?_
              exact s_ireturn C dX10_stepOf_180 h
            · have h := h.2 hc
              refine s_iconst C dX10_stepOf_175 (by decide) ?_
              refine s_goto C dX10_stepOf_176 rfl ?_
              exact s_ireturn C dX10_stepOf_180 h
    · have h := h.2 (b2i_n0 hc)
      refine s_iload_n C dX10_stepOf_129 rfl ?_
      refine s_iconst C dX10_stepOf_130 (by decide) ?_
      refine s_icmpeq C dX10_stepOf_131 rfl (fun hc => ?_) (fun hc => ?_)
      · have h := h.1 hc
        refine s_iload_n C dX10_stepOf_140 rfl ?_
        refine s_iconst C dX10_stepOf_141 (by decide) ?_
        refine s_icmpne C dX10_stepOf_142 rfl (fun hc => ?_) (fun hc => ?_)
        · have h := h.1 hc
          refine s_bipush C dX10_stepOf_149 ⟨rfl, by decide, by decide⟩ ?_
          exact s_ireturn C dX10_stepOf_151 h
        · have h := h.2 hc
          refine s_iconst C dX10_stepOf_145 (by decide) ?_
          refine s_goto C dX10_stepOf_146 rfl ?_
          exact s_ireturn C dX10_stepOf_151 h
      · have h := h.2 hc
        refine s_iload_n C dX10_stepOf_134 rfl ?_
        refine s_bipush C dX10_stepOf_135 ⟨rfl, by decide, by decide⟩ ?_
        refine s_icmpne C dX10_stepOf_137 rfl (fun hc => ?_) (fun hc => ?_)
        · have h := h.1 hc
          refine s_iload_n C dX10_stepOf_152 rfl ?_
          refine s_iconst C dX10_stepOf_153 (by decide) ?_
          refine s_icmpge C dX10_stepOf_154 rfl (fun hc => ?_) (fun hc => ?_)
          · have h := h.1 hc
            refine s_iload_n C dX10_stepOf_181 rfl ?_
            refine s_bipush C dX10_stepOf_182 ⟨rfl, by decide, by decide⟩ ?_
            refine s_icmpeq C dX10_stepOf_184 rfl (fun hc => ?_) (fun hc => ?_)
            · have h := h.1 hc
              refine s_iconst C dX10_stepOf_193 (by decide) ?_
              refine s_goto C dX10_stepOf_194 rfl ?_
              exact s_ireturn C dX10_stepOf_213 h
            · have h := h.2 hc
              refine s_iload_n C dX10_stepOf_187 rfl ?_
              refine s_bipush C dX10_stepOf_188 ⟨rfl, by decide, by decide⟩ ?_
              refine s_icmpne C dX10_stepOf_190 rfl (fun hc => ?_) (fun hc => ?_)
              · have h := h.1 hc
                refine s_iload_n C dX10_stepOf_197 rfl ?_
                refine s_bipush C dX10_stepOf_198 ⟨rfl, by decide, by decide⟩ ?_
                refine s_icmpne C dX10_stepOf_200 rfl (fun hc => ?_) (fun hc => ?_)
                · have h := h.1 hc
                  refine s_iconst C dX10_stepOf_212 (by decide) ?_
                  exact s_ireturn C dX10_stepOf_213 h
                · have h := h.2 hc
                  refine s_iload_n C dX10_stepOf_203 rfl ?_
                  refine s_ifle C dX10_stepOf_204 rfl (fun hc => ?_) (fun hc => ?_)
                  · have h := h.1 hc
                    refine s_iconst C dX10_stepOf_212 (by decide) ?_
                    exact s_ireturn C dX10_stepOf_213 h
                  · have h := h.2 hc
                    refine s_bipush C dX10_stepOf_207 ⟨rfl, by decide, by decide⟩ ?_
                    refine s_goto C dX10_stepOf_209 rfl ?_
                    exact s_ireturn C dX10_stepOf_213 h
              · have h := h.2 hc
                refine s_iconst C dX10_stepOf_193 (by decide) ?_
                refine s_goto C dX10_stepOf_194 rfl ?_
                exact s_ireturn C dX10_stepOf_213 h
          · have h := h.2 hc
            refine s_iload_n C dX10_stepOf_157 rfl ?_
            refine s_bipush C dX10_stepOf_158 ⟨rfl, by decide, by decide⟩ ?_
            refine s_icmpeq C dX10_stepOf_160 rfl (fun hc => ?_) (fun hc => ?_)
            · have h := h.1 hc
              refine s_iload_n C dX10_stepOf_169 rfl ?_
              refine s_bipush C dX10_stepOf_170 ⟨rfl, by decide, by decide⟩ ?_
              refine s_icmpne C dX10_stepOf_172 rfl (fun hc => ?_) (fun hc => ?_)
              · have h := h.1 hc
                refine s_iconst C dX10_stepOf_179 (by decide) ?_
                exact s_ireturn C dX10_stepOf_180 h
              · have h := h.2 hc
                refine s_iconst C dX10_stepOf_175 (by decide) ?_
                refine s_goto C dX10_stepOf_176 rfl ?_
                exact s_ireturn C dX10_stepOf_180 h
            · have h := h.2 hc
              refine s_iload_n C dX10_stepOf_163 rfl ?_
              refine s_bipush C dX10_stepOf_164 ⟨rfl, by decide, by decide⟩ ?_
              refine s_icmpne C dX10_stepOf_166 rfl (fun hc => ?_) (fun hc => ?_)
              · have h := h.1 hc
                refine s_iload_n C dX10_stepOf_181 rfl ?_
                refine s_bipush C dX10_stepOf_182 ⟨rfl, by decide, by decide⟩ ?_
                refine s_icmpeq C dX10_stepOf_184 rfl (fun hc => ?_) (fun hc => ?_)
                · have h := h.1 hc
                  refine s_iconst C dX10_stepOf_193 (by decide) ?_
                  refine s_goto C dX10_stepOf_194 rfl ?_
                  exact s_ireturn C dX10_stepOf_213 h
                · have h := h.2 hc
                  refine s_iload_n C dX10_stepOf_187 rfl ?_
                  refine s_bipush C dX10_stepOf_188 ⟨rfl, by decide, by decide⟩ ?_
                  refine s_icmpne C dX10_stepOf_190 rfl (fun hc => ?_) (fun hc => ?_)
                  · have h := h.1 hc
                    refine s_iload_n C dX10_stepOf_197 rfl ?_
                    refine s_bipush C dX10_stepOf_198 ⟨rfl, by decide, by decide⟩ ?_
                    refine s_icmpne C dX10_stepOf_200 rfl (fun hc => ?_) (fun hc => ?_)
                    · have h := h.1 hc
                      refine s_iconst C dX10_stepOf_212 (by decide) ?_
                      exact s_ireturn C dX10_stepOf_213 h
                    · have h := h.2 hc
                      refine s_iload_n C dX10_stepOf_203 rfl ?_
                      refine s_ifle C dX10_stepOf_204 rfl (fun hc => ?_) (fun hc => ?_)
                      · have h := h.1 hc
                        refine s_iconst C dX10_stepOf_212 (by decide) ?_
                        exact s_ireturn C dX10_stepOf_213 h
                      · have h := h.2 hc
                        refine s_bipush C dX10_stepOf_207 ⟨rfl, by decide, by decide⟩ ?_
                        refine s_goto C dX10_stepOf_209 rfl ?_
                        exact s_ireturn C dX10_stepOf_213 h
                  · have h := h.2 hc
                    refine s_iconst C dX10_stepOf_193 (by decide) ?_
                    refine s_goto C dX10_stepOf_194 rfl ?_
                    exact s_ireturn C dX10_stepOf_213 h
              · have h := h.2 hc
                refine s_iload_n C dX10_stepOf_169 rfl ?_
                refine s_bipush C dX10_stepOf_170 ⟨rfl, by decide, by decide⟩ ?_
                refine s_icmpne C dX10_stepOf_172 rfl (fun hc => ?_) (fun hc => ?_)
                · have h := h.1 hc
                  refine s_iconst C dX10_stepOf_179 (by decide) ?_
                  exact s_ireturn C dX10_stepOf_180 h
                · have h := h.2 hc
                  refine s_iconst C dX10_stepOf_175 (by decide) ?_
                  refine s_goto C dX10_stepOf_176 rfl ?_
                  exact s_ireturn C dX10_stepOf_180 h
        · have h := h.2 hc
          refine s_iload_n C dX10_stepOf_140 rfl ?_
          refine s_iconst C dX10_stepOf_141 (by decide) ?_
          refine s_icmpne C dX10_stepOf_142 rfl (fun hc => ?_) (fun hc => ?_)
          · have h := h.1 hc
            refine s_bipush C dX10_stepOf_149 ⟨rfl, by decide, by decide⟩ ?_
            exact s_ireturn C dX10_stepOf_151 h
          · have h := h.2 hc
            refine s_iconst C dX10_stepOf_145 (by decide) ?_
            refine s_goto C dX10_stepOf_146 rfl ?_
            exact s_ireturn C dX10_stepOf_151 h
  · have h := h.2.2.2.1 hc
    refine s_tabIn C dX10_stepOf_6 hc (by decide) (by decide) rfl rfl ?_
    refine s_iload_n C dX10_stepOf_125 rfl ?_
    refine s_ifeq C dX10_stepOf_126 rfl (fun hc => ?_) (fun hc => ?_)
    · have h := h.1 (b2i_0.mp hc)
      refine s_iload_n C dX10_stepOf_152 rfl ?_
      refine s_iconst C dX10_stepOf_153 (by decide) ?_
      refine s_icmpge C dX10_stepOf_154 rfl (fun hc => ?_) (fun hc => ?_)
      · have h := h.1 hc
        refine s_iload_n C dX10_stepOf_181 rfl ?_
        refine s_bipush C dX10_stepOf_182 ⟨rfl, by decide, by decide⟩ ?_
        refine s_icmpeq C dX10_stepOf_184 rfl (fun hc => ?_) (fun hc => ?_)
        · have h := h.1 hc
          refine s_iconst C dX10_stepOf_193 (by decide) ?_
          refine s_goto C dX10_stepOf_194 rfl ?_
          exact s_ireturn C dX10_stepOf_213 h
        · have h := h.2 hc
          refine s_iload_n C dX10_stepOf_187 rfl ?_
          refine s_bipush C dX10_stepOf_188 ⟨rfl, by decide, by decide⟩ ?_
          refine s_icmpne C dX10_stepOf_190 rfl (fun hc => ?_) (fun hc => ?_)
          · have h := h.1 hc
            refine s_iload_n C dX10_stepOf_197 rfl ?_
            refine s_bipush C dX10_stepOf_198 ⟨rfl, by decide, by decide⟩ ?_
            refine s_icmpne C dX10_stepOf_200 rfl (fun hc => ?_) (fun hc => ?_)
            · have h := h.1 hc
              refine s_iconst C dX10_stepOf_212 (by decide) ?_
              exact s_ireturn C dX10_stepOf_213 h
            · have h := h.2 hc
              refine s_iload_n C dX10_stepOf_203 rfl ?_
              refine s_ifle C dX10_stepOf_204 rfl (fun hc => ?_) (fun hc => ?_)
              · have h := h.1 hc
                refine s_iconst C dX10_stepOf_212 (by decide) ?_
                exact s_ireturn C dX10_stepOf_213 h
              · have h := h.2 hc
                refine s_bipush C dX10_stepOf_207 ⟨rfl, by decide, by decide⟩ ?_
                refine s_goto C dX10_stepOf_209 rfl ?_
                exact s_ireturn C dX10_stepOf_213 h
          · have h := h.2 hc
            refine s_iconst C dX10_stepOf_193 (by decide) ?_
            refine s_goto C dX10_stepOf_194 rfl ?_
            exact s_ireturn C dX10_stepOf_213 h
      · have h := h.2 hc
        refine s_iload_n C dX10_stepOf_157 rfl ?_
        refine s_bipush C dX10_stepOf_158 ⟨rfl, by decide, by decide⟩ ?_
        refine s_icmpeq C dX10_stepOf_160 rfl (fun hc => ?_) (fun hc => ?_)
        · have h := h.1 hc
          refine s_iload_n C dX10_stepOf_169 rfl ?_
          refine s_bipush C dX10_stepOf_170 ⟨rfl, by decide, by decide⟩ ?_
          refine s_icmpne C dX10_stepOf_172 rfl (fun hc => ?_) (fun hc => ?_)
          · have h := h.1 hc
            refine s_iconst C dX10_stepOf_179 (by decide) ?_
            exact s_ireturn C dX10_stepOf_180 h
          · have h := h.2 hc
            refine s_iconst C dX10_stepOf_175 (by decide) ?_
            refine s_goto C dX10_stepOf_176 rfl ?_
            exact s_ireturn C dX10_stepOf_180 h
        · have h := h.2 hc
          refine s_iload_n C dX10_stepOf_163 rfl ?_
          refine s_bipush C dX10_stepOf_164 ⟨rfl, by decide, by decide⟩ ?_
          refine s_icmpne C dX10_stepOf_166 rfl (fun hc => ?_) (fun hc => ?_)
          · have h := h.1 hc
            refine s_iload_n C dX10_stepOf_181 rfl ?_
            refine s_bipush C dX10_stepOf_182 ⟨rfl, by decide, by decide⟩ ?_
            refine s_icmpeq C dX10_stepOf_184 rfl (fun hc => ?_) (fun hc => ?_)
            · have h := h.1 hc
              refine s_iconst C dX10_stepOf_193 (by decide) ?_
              refine s_goto C dX10_stepOf_194 rfl ?_
              exact s_ireturn C dX10_stepOf_213 h
            · have h := h.2 hc
              refine s_iload_n C dX10_stepOf_187 rfl ?_
              refine s_bipush C dX10_stepOf_188 ⟨rfl, by decide, by decide⟩ ?_
              refine s_icmpne C dX10_stepOf_190 rfl (fun hc => ?_) (fun hc => ?_)
              · have h := h.1 hc
                refine s_iload_n C dX10_stepOf_197 rfl ?_
                refine s_bipush C dX10_stepOf_198 ⟨rfl, by decide, by decide⟩ ?_
                refine s_icmpne C dX10_stepOf_200 rfl (fun hc => ?_) (fun hc => ?_)
                · have h := h.1 hc
                  refine s_iconst C dX10_stepOf_212 (by decide) ?_
                  exact s_ireturn C dX10_stepOf_213 h
                · have h := h.2 hc
                  refine s_iload_n C dX10_stepOf_203 rfl ?_
                  refine s_ifle C dX10_stepOf_204 rfl (fun hc => ?_) (fun hc => ?_)
                  · have h := h.1 hc
                    refine s_iconst C dX10_stepOf_212 (by decide) ?_
                    exact s_ireturn C dX10_stepOf_213 h
                  · have h := h.2 hc
                    refine s_bipush C dX10_stepOf_207 ⟨rfl, by decide, by decide⟩ ?_
                    refine s_goto C dX10_stepOf_209 rfl ?_
                    exact s_ireturn C dX10_stepOf_213 h
              · have h := h.2 hc
                refine s_iconst C dX10_stepOf_193 (by decide) ?_
                refine s_goto C dX10_stepOf_194 rfl ?_
                exact s_ireturn C dX10_stepOf_213 h
          · have h := h.2 hc
            refine s_iload_n C dX10_stepOf_169 rfl ?_
            refine s_bipush C dX10_stepOf_170 ⟨rfl, by decide, by decide⟩ ?_
            refine s_icmpne C dX10_stepOf_172 rfl (fun hc => ?_) (fun hc => ?_)
            · have h := h.1 hc
              refine s_iconst C dX10_stepOf_179 (by decide) ?_
              exact s_ireturn C dX10_stepOf_180 h
            · have h := h.2 hc
              refine s_iconst C dX10_stepOf_175 (by decide) ?_
              refine s_goto C dX10_stepOf_176 rfl ?_
              exact s_ireturn C dX10_stepOf_180 h
    · have h := h.2 (b2i_n0 hc)
      refine s_iload_n C dX10_stepOf_129 rfl ?_
      refine s_iconst C dX10_stepOf_130 (by decide) ?_
      refine s_icmpeq C dX10_stepOf_131 rfl (fun hc => ?_) (fun hc => ?_)
      · have h := h.1 hc
        refine s_iload_n C dX10_stepOf_140 rfl ?_
        refine s_iconst C dX10_stepOf_141 (by decide) ?_
        refine s_icmpne C dX10_stepOf_142 rfl (fun hc => ?_) (fun hc => ?_)
        · have h := h.1 hc
          refine s_bipush C dX10_stepOf_149 ⟨rfl, by decide, by decide⟩ ?_
          exact s_ireturn C dX10_stepOf_151 h
        · have h := h.2 hc
          refine s_iconst C dX10_stepOf_145 (by decide) ?_
          refine s_goto C dX10_stepOf_146 rfl ?_
          exact s_ireturn C dX10_stepOf_151 h
      · have h := h.2 hc
        refine s_iload_n C dX10_stepOf_134 rfl ?_
        refine s_bipush C dX10_stepOf_135 ⟨rfl, by decide, by decide⟩ ?_
        refine s_icmpne C dX10_stepOf_137 rfl (fun hc => ?_) (fun hc => ?_)
        · have h := h.1 hc
          refine s_iload_n C dX10_stepOf_152 rfl ?_
          refine s_iconst C dX10_stepOf_153 (by decide) ?_
          refine s_icmpge C dX10_stepOf_154 rfl (fun hc => ?_) (fun hc => ?_)
          · have h := h.1 hc
            refine s_iload_n C dX10_stepOf_181 rfl ?_
            refine s_bipush C dX10_stepOf_182 ⟨rfl, by decide, by decide⟩ ?_
            refine s_icmpeq C dX10_stepOf_184 rfl (fun hc => ?_) (fun hc => ?_)
            · have h := h.1 hc
              refine s_iconst C dX10_stepOf_193 (by decide) ?_
              refine s_goto C dX10_stepOf_194 rfl ?_
              exact s_ireturn C dX10_stepOf_213 h
            · have h := h.2 hc
              refine s_iload_n C dX10_stepOf_187 rfl ?_
              refine s_bipush C dX10_stepOf_188 ⟨rfl, by decide, by decide⟩ ?_
              refine s_icmpne C dX10_stepOf_190 rfl (fun hc => ?_) (fun hc => ?_)
              · have h := h.1 hc
                refine s_iload_n C dX10_stepOf_197 rfl ?_
                refine s_bipush C dX10_stepOf_198 ⟨rfl, by decide, by decide⟩ ?_
                refine s_icmpne C dX10_stepOf_200 rfl (fun hc => ?_) (fun hc => ?_)
                · have h := h.1 hc
                  refine s_iconst C dX10_stepOf_212 (by decide) ?_
                  exact s_ireturn C dX10_stepOf_213 h
                · have h := h.2 hc
                  refine s_iload_n C dX10_stepOf_203 rfl ?_
                  refine s_ifle C dX10_stepOf_204 rfl (fun hc => ?_) (fun hc => ?_)
                  · have h := h.1 hc
                    refine s_iconst C dX10_stepOf_212 (by decide) ?_
                    exact s_ireturn C dX10_stepOf_213 h
                  · have h := h.2 hc
                    refine s_bipush C dX10_stepOf_207 ⟨rfl, by decide, by decide⟩ ?_
                    refine s_goto C dX10_stepOf_209 rfl ?_
                    exact s_ireturn C dX10_stepOf_213 h
              · have h := h.2 hc
                refine s_iconst C dX10_stepOf_193 (by decide) ?_
                refine s_goto C dX10_stepOf_194 rfl ?_
                exact s_ireturn C dX10_stepOf_213 h
          · have h := h.2 hc
            refine s_iload_n C dX10_stepOf_157 rfl ?_
            refine s_bipush C dX10_stepOf_158 ⟨rfl, by decide, by decide⟩ ?_
            refine s_icmpeq C dX10_stepOf_160 rfl (fun hc => ?_) (fun hc => ?_)
            · have h := h.1 hc
              refine s_iload_n C dX10_stepOf_169 rfl ?_
              refine s_bipush C dX10_stepOf_170 ⟨rfl, by decide, by decide⟩ ?_
              refine s_icmpne C dX10_stepOf_172 rfl (fun hc => ?_) (fun hc => ?_)
              · have h := h.1 hc
                refine s_iconst C dX10_stepOf_179 (by decide) ?_
                exact s_ireturn C dX10_stepOf_180 h
              · have h := h.2 hc
                refine s_iconst C dX10_stepOf_175 (by decide) ?_
                refine s_goto C dX10_stepOf_176 rfl ?_
                exact s_ireturn C dX10_stepOf_180 h
            · have h := h.2 hc
              refine s_iload_n C dX10_stepOf_163 rfl ?_
              refine s_bipush C dX10_stepOf_164 ⟨rfl, by decide, by decide⟩ ?_
              refine s_icmpne C dX10_stepOf_166 rfl (fun hc => ?_) (fun hc => ?_)
              · have h := h.1 hc
                refine s_iload_n C dX10_stepOf_181 rfl ?_
                refine s_bipush C dX10_stepOf_182 ⟨rfl, by decide, by decide⟩ ?_
                refine s_icmpeq C dX10_stepOf_184 rfl (fun hc => ?_) (fun hc => ?_)
                · have h := h.1 hc
                  refine s_iconst C dX10_stepOf_193 (by decide) ?_
                  refine s_goto C dX10_stepOf_194 rfl ?_
                  exact s_ireturn C dX10_stepOf_213 h
                · have h := h.2 hc
                  refine s_iload_n C dX10_stepOf_187 rfl ?_
                  refine s_bipush C dX10_stepOf_188 ⟨rfl, by decide, by decide⟩ ?_
                  refine s_icmpne C dX10_stepOf_190 rfl (fun hc => ?_) (fun hc => ?_)
                  · have h := h.1 hc
                    refine s_iload_n C dX10_stepOf_197 rfl ?_
                    refine s_bipush C dX10_stepOf_198 ⟨rfl, by decide, by decide⟩ ?_
                    refine s_icmpne C dX10_stepOf_200 rfl (fun hc => ?_) (fun hc => ?_)
                    · have h := h.1 hc
                      refine s_iconst C dX10_stepOf_212 (by decide) ?_
                      exact s_ireturn C dX10_stepOf_213 h
                    · have h := h.2 hc
                      refine s_iload_n C dX10_stepOf_203 rfl ?_
                      refine s_ifle C dX10_stepOf_204 rfl (fun hc => ?_) (fun hc => ?_)
                      · have h := h.1 hc
                        refine s_iconst C dX10_stepOf_212 (by decide) ?_
                        exact s_ireturn C dX10_stepOf_213 h
                      · have h := h.2 hc
                        refine s_bipush C dX10_stepOf_207 ⟨rfl, by decide, by decide⟩ ?_
                        refine s_goto C dX10_stepOf_209 rfl ?_
                        exact s_ireturn C dX10_stepOf_213 h
                  · have h := h.2 hc
                    refine s_iconst C dX10_stepOf_193 (by decide) ?_
                    refine s_goto C dX10_stepOf_194 rfl ?_
                    exact s_ireturn C dX10_stepOf_213 h
              · have h := h.2 hc
                refine s_iload_n C dX10_stepOf_169 rfl ?_
                refine s_bipush C dX10_stepOf_170 ⟨rfl, by decide, by decide⟩ ?_
                refine s_icmpne C dX10_stepOf_172 rfl (fun hc => ?_) (fun hc => ?_)
                · have h := h.1 hc
                  refine s_iconst C dX10_stepOf_179 (by decide) ?_
                  exact s_ireturn C dX10_stepOf_180 h
                · have h := h.2 hc
                  refine s_iconst C dX10_stepOf_175 (by decide) ?_
                  refine s_goto C dX10_stepOf_176 rfl ?_
                  exact s_ireturn C dX10_stepOf_180 h
        · have h := h.2 hc
          refine s_iload_n C dX10_stepOf_140 rfl ?_
          refine s_iconst C dX10_stepOf_141 (by decide) ?_
          refine s_icmpne C dX10_stepOf_142 rfl (fun hc => ?_) (fun hc => ?_)
          · have h := h.1 hc
            refine s_bipush C dX10_stepOf_149 ⟨rfl, by decide, by decide⟩ ?_
            exact s_ireturn C dX10_stepOf_151 h
          · have h := h.2 hc
            refine s_iconst C dX10_stepOf_145 (by decide) ?_
            refine s_goto C dX10_stepOf_146 rfl ?_
            exact s_ireturn C dX10_stepOf_151 h
  · have h := h.2.2.2.2.1 hc
    refine s_tabIn C dX10_stepOf_6 hc (by decide) (by decide) rfl rfl ?_
    refine s_iload_n C dX10_stepOf_80 rfl ?_
    refine s_ifeq C dX10_stepOf_81 rfl (fun hc => ?_) (fun hc => ?_)
    · have h := h.1 (b2i_0.mp hc)
      refine s_iconst C dX10_stepOf_88 (by decide) ?_
      exact s_ireturn C dX10_stepOf_89 h
    · have h := h.2 (b2i_n0 hc)
      refine s_iconst C dX10_stepOf_84 (by decide) ?_
      refine s_goto C dX10_stepOf_85 rfl ?_
      exact s_ireturn C dX10_stepOf_89 h
  · have h := h.2.2.2.2.2.1 hc
    refine s_tabIn C dX10_stepOf_6 hc (by decide) (by decide) rfl rfl ?_
    refine s_iload_n C dX10_stepOf_90 rfl ?_
    refine s_bipush C dX10_stepOf_91 ⟨rfl, by decide, by decide⟩ ?_
    refine s_icmpne C dX10_stepOf_93 rfl (fun hc => ?_) (fun hc => ?_)
    · have h := h.1 hc
      refine s_iconst C dX10_stepOf_101 (by decide) ?_
      exact s_ireturn C dX10_stepOf_102 h
    · have h := h.2 hc
      refine s_bipush C dX10_stepOf_96 ⟨rfl, by decide, by decide⟩ ?_
      refine s_goto C dX10_stepOf_98 rfl ?_
      exact s_ireturn C dX10_stepOf_102 h
  · have h := h.2.2.2.2.2.2.1 hc
    refine s_tabIn C dX10_stepOf_6 hc (by decide) (by decide) rfl rfl ?_
    refine s_iload_n C dX10_stepOf_103 rfl ?_
    refine s_ifeq C dX10_stepOf_104 rfl (fun hc => ?_) (fun hc => ?_)
    · have h := h.1 (b2i_0.mp hc)
      refine s_iconst C dX10_stepOf_112 (by decide) ?_
      exact s_ireturn C dX10_stepOf_113 h
    · have h := h.2 (b2i_n0 hc)
      refine s_bipush C dX10_stepOf_107 ⟨rfl, by decide, by decide⟩ ?_
      refine s_goto C dX10_stepOf_109 rfl ?_
      exact s_ireturn C dX10_stepOf_113 h
  · have h := h.2.2.2.2.2.2.2 hc
    refine s_tabIn C dX10_stepOf_6 hc (by decide) (by decide) rfl rfl ?_
    refine s_iload_n C dX10_stepOf_114 rfl ?_
    refine s_ifeq C dX10_stepOf_115 rfl (fun hc => ?_) (fun hc => ?_)
    · have h := h.1 (b2i_0.mp hc)
      refine s_iconst C dX10_stepOf_123 (by decide) ?_
      exact s_ireturn C dX10_stepOf_124 h
    · have h := h.2 (b2i_n0 hc)
      refine s_bipush C dX10_stepOf_118 ⟨rfl, by decide, by decide⟩ ?_
      refine s_goto C dX10_stepOf_120 rfl ?_
      exact s_ireturn C dX10_stepOf_124 h
theorem E_X10_stepOf {G : GP} {l : Launch} {P : Int → NS → MM → Prop} {l0 : Int} {l1 : Int} {l2 : Int} {w : NS} {M : MM} (h : inR l0 → inR l1 → inR l2 → ∀ X : BX, X.2.1 = l → CX_X10_stepOf G X → A_X10_stepOf_0 G X P l0 l1 l2 w M) : CT_X10_stepOf G l [(0, l0), (0, l1), (0, l2)] w M P :=
  CT.of RX10 "stepOf" (by decide +kernel) rfl rfl rfl (Nat.le_of_ble_eq_true rfl) (fun hr X hX C => h (hr (0, l0) (by simp)) (hr (0, l1) (by simp)) (hr (0, l2) (by simp)) X hX C)
def A_X10_fault_0 (G : GP) (X : BX) (P : Int → NS → MM → Prop) (w : NS) (M : MM) : Prop := WA true G X (QM G X true 0 P) 5 0 [(2, 41), (3, 0), (3, 0), (3, 0), (3, 0)] [] 0 0 w M
def A_X10_fault_6 (G : GP) (X : BX) (P : Int → NS → MM → Prop) (l1 : Int) (l2 : Int) (l3 : Int) (w : NS) (M : MM) : Prop := WA true G X (QM G X true 0 P) 5 6 [(2, 41), (0, l1), (0, l2), (0, l3), (3, 0)] [] 0 0 w M
set_option maxHeartbeats 4000000 in
set_option maxRecDepth 100000 in
theorem B_X10_fault_0 {G : GP} {X : BX} {P : Int → NS → MM → Prop} {w : NS} {M : MM} (C : CX_X10_fault G X) (h : A_X10_fault_6 G X P 0 0 0 w M) : A_X10_fault_0 G X P w M := by
  unfold A_X10_fault_0
  refine s_iconst C dX10_fault_0 (by decide) ?_
  refine s_istore_n (ls' := [(2, 41), (0, 0), (3, 0), (3, 0), (3, 0)]) C dX10_fault_1 (by decide) rfl rfl ?_
  refine s_iconst C dX10_fault_2 (by decide) ?_
  refine s_istore_n (ls' := [(2, 41), (0, 0), (0, 0), (3, 0), (3, 0)]) C dX10_fault_3 (by decide) rfl rfl ?_
  refine s_iconst C dX10_fault_4 (by decide) ?_
  refine s_istore_n (ls' := [(2, 41), (0, 0), (0, 0), (0, 0), (3, 0)]) C dX10_fault_5 (by decide) rfl rfl ?_
  exact h
set_option maxHeartbeats 4000000 in
set_option maxRecDepth 100000 in
theorem B_X10_fault_6 {G : GP} {X : BX} {P : Int → NS → MM → Prop} {l1 : Int} {l2 : Int} {l3 : Int} {w : NS} {M : MM} (C : CX_X10_fault G X) (h : ((((M 57 10) ≤ l3) → (((l1 = 1) → (((l2 ≠ 0) → P (M 57 10) w M) ∧ ((¬ (l2 ≠ 0)) → P (-6) w M))) ∧ ((¬ (l1 = 1)) → (((l1 = 2) → (((l2 ≠ 0) → P (M 57 10) w M) ∧ ((¬ (l2 ≠ 0)) → P (-6) w M))) ∧ ((¬ (l1 = 2)) → (((l1 = 7) → (((l2 ≠ 0) → P (M 57 10) w M) ∧ ((¬ (l2 ≠ 0)) → P (-6) w M))) ∧ ((¬ (l1 = 7)) → (((l1 ≠ 8) → P (M 57 10) w M) ∧ ((¬ (l1 ≠ 8)) → (((l2 ≠ 0) → P (M 57 10) w M) ∧ ((¬ (l2 ≠ 0)) → P (-6) w M))))))))))) ∧ ((¬ ((M 57 10) ≤ l3)) → (inR (400 + l3)) ∧ (0 ≤ (400 + l3)) ∧ ((400 + l3) < 440) ∧ ∃ Q5 : Int → NS → MM → Prop, CT_X10_stepOf G X.2.1 [(0, l1), (0, (M 56 (400 + l3))), (0, l2)] w M Q5 ∧ ∀ (z5 : Int) (w5 : NS) (M5 : MM), Q5 z5 w5 M5 → (((0 ≤ z5) → ((((M 56 (400 + l3)) ≠ 40) → ((((M 56 (400 + l3)) ≠ 41) → (inR (l2 + 0)) ∧ (inR (l3 + 1)) ∧ A_X10_fault_6 G X P z5 (l2 + 0) (l3 + 1) w5 M5) ∧ ((¬ ((M 56 (400 + l3)) ≠ 41)) → (inR (l2 + (-1))) ∧ (inR (l3 + 1)) ∧ A_X10_fault_6 G X P z5 (l2 + (-1)) (l3 + 1) w5 M5))) ∧ ((¬ ((M 56 (400 + l3)) ≠ 40)) → (inR (l2 + 1)) ∧ (inR (l3 + 1)) ∧ A_X10_fault_6 G X P z5 (l2 + 1) (l3 + 1) w5 M5))) ∧ ((¬ (0 ≤ z5)) → P l3 w5 M5))))) : A_X10_fault_6 G X P l1 l2 l3 w M := by
  unfold A_X10_fault_6
  refine s_iload_n C dX10_fault_6 rfl ?_
  refine s_aload_n C dX10_fault_7 rfl ?_
  refine WA.fix (fun hF1 => ?_)
  refine gf_X10_55 C (sh_41 hF1) dX10_fault_8 (fx_41_19 hF1) ?_
  refine s_bipush C dX10_fault_11 ⟨rfl, by decide, by decide⟩ ?_
  refine s_iald (v0 := (M 57 10)) C (sh_57 hF1) (by decide) (by decide) dX10_fault_13 rfl ?_
  refine s_icmpge C dX10_fault_14 rfl (fun hc => ?_) (fun hc => ?_)
  · have h := h.1 hc
    refine s_iload_n C dX10_fault_75 rfl ?_
    refine s_iconst C dX10_fault_76 (by decide) ?_
    refine s_icmpeq C dX10_fault_77 rfl (fun hc => ?_) (fun hc => ?_)
    · have h := h.1 hc
      refine s_iconst C dX10_fault_97 (by decide) ?_
      refine s_goto C dX10_fault_98 rfl ?_
      refine s_istore_n (ls' := [(2, 41), (0, l1), (0, l2), (0, 1), (3, 0)]) C dX10_fault_102 (by decide) rfl rfl ?_
      refine s_iload_n C dX10_fault_103 rfl ?_
      refine s_ifeq C dX10_fault_104 rfl (fun hc => absurd hc (by decide)) (fun hc => ?_)
      refine s_iload_n C dX10_fault_107 rfl ?_
      refine s_ifne C dX10_fault_108 rfl (fun hc => ?_) (fun hc => ?_)
      · have h := h.1 hc
        refine s_aload_n C dX10_fault_116 rfl ?_
        refine gf_X10_55 C (sh_41 hF1) dX10_fault_117 (fx_41_19 hF1) ?_
        refine s_bipush C dX10_fault_120 ⟨rfl, by decide, by decide⟩ ?_
        refine s_iald (v0 := (M 57 10)) C (sh_57 hF1) (by decide) (by decide) dX10_fault_122 rfl ?_
        exact s_ireturn C dX10_fault_123 h
      · have h := h.2 hc
        refine s_bipush C dX10_fault_111 ⟨rfl, by decide, by decide⟩ ?_
        refine s_goto C dX10_fault_113 rfl ?_
        exact s_ireturn C dX10_fault_123 h
    · have h := h.2 hc
      refine s_iload_n C dX10_fault_80 rfl ?_
      refine s_iconst C dX10_fault_81 (by decide) ?_
      refine s_icmpeq C dX10_fault_82 rfl (fun hc => ?_) (fun hc => ?_)
      · have h := h.1 hc
        refine s_iconst C dX10_fault_97 (by decide) ?_
        refine s_goto C dX10_fault_98 rfl ?_
        refine s_istore_n (ls' := [(2, 41), (0, l1), (0, l2), (0, 1), (3, 0)]) C dX10_fault_102 (by decide) rfl rfl ?_
        refine s_iload_n C dX10_fault_103 rfl ?_
        refine s_ifeq C dX10_fault_104 rfl (fun hc => absurd hc (by decide)) (fun hc => ?_)
        refine s_iload_n C dX10_fault_107 rfl ?_
        refine s_ifne C dX10_fault_108 rfl (fun hc => ?_) (fun hc => ?_)
        · have h := h.1 hc
          refine s_aload_n C dX10_fault_116 rfl ?_
          refine gf_X10_55 C (sh_41 hF1) dX10_fault_117 (fx_41_19 hF1) ?_
          refine s_bipush C dX10_fault_120 ⟨rfl, by decide, by decide⟩ ?_
          refine s_iald (v0 := (M 57 10)) C (sh_57 hF1) (by decide) (by decide) dX10_fault_122 rfl ?_
          exact s_ireturn C dX10_fault_123 h
        · have h := h.2 hc
          refine s_bipush C dX10_fault_111 ⟨rfl, by decide, by decide⟩ ?_
          refine s_goto C dX10_fault_113 rfl ?_
          exact s_ireturn C dX10_fault_123 h
      · have h := h.2 hc
        refine s_iload_n C dX10_fault_85 rfl ?_
        refine s_bipush C dX10_fault_86 ⟨rfl, by decide, by decide⟩ ?_
        refine s_icmpeq C dX10_fault_88 rfl (fun hc => ?_) (fun hc => ?_)
        · have h := h.1 hc
          refine s_iconst C dX10_fault_97 (by decide) ?_
          refine s_goto C dX10_fault_98 rfl ?_
          refine s_istore_n (ls' := [(2, 41), (0, l1), (0, l2), (0, 1), (3, 0)]) C dX10_fault_102 (by decide) rfl rfl ?_
          refine s_iload_n C dX10_fault_103 rfl ?_
          refine s_ifeq C dX10_fault_104 rfl (fun hc => absurd hc (by decide)) (fun hc => ?_)
          refine s_iload_n C dX10_fault_107 rfl ?_
          refine s_ifne C dX10_fault_108 rfl (fun hc => ?_) (fun hc => ?_)
          · have h := h.1 hc
            refine s_aload_n C dX10_fault_116 rfl ?_
            refine gf_X10_55 C (sh_41 hF1) dX10_fault_117 (fx_41_19 hF1) ?_
            refine s_bipush C dX10_fault_120 ⟨rfl, by decide, by decide⟩ ?_
            refine s_iald (v0 := (M 57 10)) C (sh_57 hF1) (by decide) (by decide) dX10_fault_122 rfl ?_
            exact s_ireturn C dX10_fault_123 h
          · have h := h.2 hc
            refine s_bipush C dX10_fault_111 ⟨rfl, by decide, by decide⟩ ?_
            refine s_goto C dX10_fault_113 rfl ?_
            exact s_ireturn C dX10_fault_123 h
        · have h := h.2 hc
          refine s_iload_n C dX10_fault_91 rfl ?_
          refine s_bipush C dX10_fault_92 ⟨rfl, by decide, by decide⟩ ?_
          refine s_icmpne C dX10_fault_94 rfl (fun hc => ?_) (fun hc => ?_)
          · have h := h.1 hc
            refine s_iconst C dX10_fault_101 (by decide) ?_
            refine s_istore_n (ls' := [(2, 41), (0, l1), (0, l2), (0, 0), (3, 0)]) C dX10_fault_102 (by decide) rfl rfl ?_
            refine s_iload_n C dX10_fault_103 rfl ?_
            refine s_ifeq C dX10_fault_104 rfl (fun hc => ?_) (fun hc => absurd (by decide) hc)
            refine s_aload_n C dX10_fault_116 rfl ?_
            refine gf_X10_55 C (sh_41 hF1) dX10_fault_117 (fx_41_19 hF1) ?_
            refine s_bipush C dX10_fault_120 ⟨rfl, by decide, by decide⟩ ?_
            refine s_iald (v0 := (M 57 10)) C (sh_57 hF1) (by decide) (by decide) dX10_fault_122 rfl ?_
            exact s_ireturn C dX10_fault_123 h
          · have h := h.2 hc
            refine s_iconst C dX10_fault_97 (by decide) ?_
            refine s_goto C dX10_fault_98 rfl ?_
            refine s_istore_n (ls' := [(2, 41), (0, l1), (0, l2), (0, 1), (3, 0)]) C dX10_fault_102 (by decide) rfl rfl ?_
            refine s_iload_n C dX10_fault_103 rfl ?_
            refine s_ifeq C dX10_fault_104 rfl (fun hc => absurd hc (by decide)) (fun hc => ?_)
            refine s_iload_n C dX10_fault_107 rfl ?_
            refine s_ifne C dX10_fault_108 rfl (fun hc => ?_) (fun hc => ?_)
            · have h := h.1 hc
              refine s_aload_n C dX10_fault_116 rfl ?_
              refine gf_X10_55 C (sh_41 hF1) dX10_fault_117 (fx_41_19 hF1) ?_
              refine s_bipush C dX10_fault_120 ⟨rfl, by decide, by decide⟩ ?_
              refine s_iald (v0 := (M 57 10)) C (sh_57 hF1) (by decide) (by decide) dX10_fault_122 rfl ?_
              exact s_ireturn C dX10_fault_123 h
            · have h := h.2 hc
              refine s_bipush C dX10_fault_111 ⟨rfl, by decide, by decide⟩ ?_
              refine s_goto C dX10_fault_113 rfl ?_
              exact s_ireturn C dX10_fault_123 h
  · have h := h.2 hc
    refine s_aload_n C dX10_fault_17 rfl ?_
    refine gf_X10_52 C (sh_41 hF1) dX10_fault_18 (fx_41_18 hF1) ?_
    refine s_sipush C dX10_fault_21 ⟨rfl, by decide, by decide⟩ ?_
    refine s_iload_n C dX10_fault_24 rfl ?_
    obtain ⟨o2, h⟩ := h
    refine s_iadd C dX10_fault_25 o2 ?_
    obtain ⟨o3, h⟩ := h
    obtain ⟨o4, h⟩ := h
    refine s_iald (v0 := (M 56 (400 + l3))) C (sh_56 hF1) o3 o4 dX10_fault_26 rfl ?_
    refine s_istore (ls' := [(2, 41), (0, l1), (0, l2), (0, l3), (0, (M 56 (400 + l3)))]) C dX10_fault_27 (by decide) rfl rfl ?_
    refine s_iload_n C dX10_fault_29 rfl ?_
    refine s_iload C dX10_fault_30 rfl ?_
    refine s_iload_n C dX10_fault_32 rfl ?_
    obtain ⟨Q5, hKQ5, h⟩ := h
    refine s_callS (av := [(0, l1), (0, (M 56 (400 + l3))), (0, l2)]) (rest := []) (mc := 0) (ms := 0) C dX10_fault_33 lk_X10_212 rfl rfl (Nat.le_of_ble_eq_true rfl) (by decide) (by decide) hKQ5 (fun z5 w5 M5 hq => ?_)
    have h := h z5 w5 M5 hq
    refine s_istore_n (ls' := [(2, 41), (0, z5), (0, l2), (0, l3), (0, (M 56 (400 + l3)))]) C dX10_fault_36 (by decide) rfl rfl ?_
    refine s_iload_n C dX10_fault_37 rfl ?_
    refine s_ifge C dX10_fault_38 rfl (fun hc => ?_) (fun hc => ?_)
    · have h := h.1 hc
      refine s_iload_n C dX10_fault_43 rfl ?_
      refine s_iload C dX10_fault_44 rfl ?_
      refine s_bipush C dX10_fault_46 ⟨rfl, by decide, by decide⟩ ?_
      refine s_icmpne C dX10_fault_48 rfl (fun hc => ?_) (fun hc => ?_)
      · have h := h.1 hc
        refine s_iload C dX10_fault_55 rfl ?_
        refine s_bipush C dX10_fault_57 ⟨rfl, by decide, by decide⟩ ?_
        refine s_icmpne C dX10_fault_59 rfl (fun hc => ?_) (fun hc => ?_)
        · have h := h.1 hc
          refine s_iconst C dX10_fault_66 (by decide) ?_
          obtain ⟨o6, h⟩ := h
          refine s_iadd C dX10_fault_67 o6 ?_
          refine s_istore_n (ls' := [(2, 41), (0, z5), (0, (l2 + 0)), (0, l3), (0, (M 56 (400 + l3)))]) C dX10_fault_68 (by decide) rfl rfl ?_
          obtain ⟨o7, h⟩ := h
          refine s_iinc (ls' := [(2, 41), (0, z5), (0, (l2 + 0)), (0, (l3 + 1)), (0, (M 56 (400 + l3)))]) C dX10_fault_69 (by decide) rfl o7 rfl rfl ?_
          refine s_goto C dX10_fault_72 rfl ?_
          exact WA.wk h ⟨Or.inr rfl, Or.inr rfl, Or.inr rfl, Or.inr rfl, Or.inl rfl, trivial⟩
        · have h := h.2 hc
          refine s_iconst C dX10_fault_62 (by decide) ?_
          refine s_goto C dX10_fault_63 rfl ?_
          obtain ⟨o8, h⟩ := h
          refine s_iadd C dX10_fault_67 o8 ?_
          refine s_istore_n (ls' := [(2, 41), (0, z5), (0, (l2 + (-1))), (0, l3), (0, (M 56 (400 + l3)))]) C dX10_fault_68 (by decide) rfl rfl ?_
          obtain ⟨o9, h⟩ := h
          refine s_iinc (ls' := [(2, 41), (0, z5), (0, (l2 + (-1))), (0, (l3 + 1)), (0, (M 56 (400 + l3)))]) C dX10_fault_69 (by decide) rfl o9 rfl rfl ?_
          refine s_goto C dX10_fault_72 rfl ?_
          exact WA.wk h ⟨Or.inr rfl, Or.inr rfl, Or.inr rfl, Or.inr rfl, Or.inl rfl, trivial⟩
      · have h := h.2 hc
        refine s_iconst C dX10_fault_51 (by decide) ?_
        refine s_goto C dX10_fault_52 rfl ?_
        obtain ⟨o10, h⟩ := h
        refine s_iadd C dX10_fault_67 o10 ?_
        refine s_istore_n (ls' := [(2, 41), (0, z5), (0, (l2 + 1)), (0, l3), (0, (M 56 (400 + l3)))]) C dX10_fault_68 (by decide) rfl rfl ?_
        obtain ⟨o11, h⟩ := h
        refine s_iinc (ls' := [(2, 41), (0, z5), (0, (l2 + 1)), (0, (l3 + 1)), (0, (M 56 (400 + l3)))]) C dX10_fault_69 (by decide) rfl o11 rfl rfl ?_
        refine s_goto C dX10_fault_72 rfl ?_
        exact WA.wk h ⟨Or.inr rfl, Or.inr rfl, Or.inr rfl, Or.inr rfl, Or.inl rfl, trivial⟩
    · have h := h.2 hc
      refine s_iload_n C dX10_fault_41 rfl ?_
      exact s_ireturn C dX10_fault_42 h
theorem E_X10_fault {G : GP} {l : Launch} {P : Int → NS → MM → Prop} {w : NS} {M : MM} (h : ∀ X : BX, X.2.1 = l → CX_X10_fault G X → A_X10_fault_0 G X P w M) : CT_X10_fault G l [(2, 41)] w M P :=
  CT.of RX10 "fault" (by decide +kernel) rfl rfl rfl (Nat.le_of_ble_eq_true rfl) (fun hr X hX C => h  X hX C)
def A_X10_order_0 (G : GP) (X : BX) (P : Int → NS → MM → Prop) (l1 : Int) (l2 : Int) (l3 : Int) (l4 : Int) (l5 : Int) (l6 : Int) (w : NS) (M : MM) : Prop := WA true G X (QM G X true 0 P) 8 0 [(2, 41), (0, l1), (0, l2), (0, l3), (0, l4), (0, l5), (0, l6), (3, 0)] [] 0 0 w M
def A_X10_order_86 (G : GP) (X : BX) (P : Int → NS → MM → Prop) (l1 : Int) (l2 : Int) (l3 : Int) (l4 : Int) (l5 : Int) (l6 : Int) (l7 : Int) (w : NS) (M : MM) : Prop := WA true G X (QM G X true 0 P) 8 86 [(2, 41), (0, l1), (0, l2), (0, l3), (0, l4), (0, l5), (0, l6), (0, l7)] [] 0 0 w M
set_option maxHeartbeats 4000000 in
set_option maxRecDepth 100000 in
theorem B_X10_order_0 {G : GP} {X : BX} {P : Int → NS → MM → Prop} {l1 : Int} {l2 : Int} {l3 : Int} {l4 : Int} {l5 : Int} {l6 : Int} {w : NS} {M : MM} (C : CX_X10_order G X) (h : (((¬ (0 ≤ l1 ∧ l1 ≤ 5)) → P (-2) w M) ∧ (((0 ≤ l1 ∧ l1 ≤ 5)) → (((¬ (0 ≤ l2 ∧ l2 ≤ 1023)) → P (-2) w M) ∧ (((0 ≤ l2 ∧ l2 ≤ 1023)) → (((¬ (0 ≤ l3 ∧ l3 ≤ 99)) → P (-2) w M) ∧ (((0 ≤ l3 ∧ l3 ≤ 99)) → (((¬ (0 ≤ l4 ∧ l4 ≤ 99)) → P (-2) w M) ∧ (((0 ≤ l4 ∧ l4 ≤ 99)) → (((l4 < l3) → P (-2) w M) ∧ ((¬ (l4 < l3)) → ((((0 ≤ l5 ∧ l5 ≤ 20)) → ((((M 41 26) ≠ 10) → ∃ Q7 : Int → NS → MM → Prop, CT_X10_fault G X.2.1 [(2, 41)] w M Q7 ∧ ∀ (z7 : Int) (w7 : NS) (M7 : MM), Q7 z7 w7 M7 → (((z7 < 0) → A_X10_order_86 G X P l1 l2 l3 l4 l5 l6 0 w7 M7) ∧ ((¬ (z7 < 0)) → P (-5) w7 M7))) ∧ ((¬ ((M 41 26) ≠ 10)) → P (-4) w M))) ∧ ((¬ (0 ≤ l5 ∧ l5 ≤ 20)) → P (-2) w M))))))))))))) : A_X10_order_0 G X P l1 l2 l3 l4 l5 l6 w M := by
  unfold A_X10_order_0
  refine s_iload_n C dX10_order_0 rfl ?_
  refine s_i2l C dX10_order_1 ?_
  refine s_lconst (z := 0) C dX10_order_2 ⟨rfl, by decide⟩ ?_
  refine s_ldc2 (z := 5) C dX10_order_3 (mG (wd_965) rfl) ⟨rfl, by decide⟩ ?_
  refine s_callS (av := [(1, l1), (1, 0), (1, 5)]) (rest := []) (mc := 0) (ms := 0) C dX10_order_6 lk_X10_139 rfl rfl (Nat.le_of_ble_eq_true rfl) (by decide) (by decide) (pc_X10_in) (fun z1 wz1 Mz1 hq => ?_)
  obtain ⟨hq1, hq2, hq3⟩ := hq
  have hq2 := hq2.symm
  have hq3 := hq3.symm
  subst hq1 hq2 hq3
  refine s_ifeq C dX10_order_9 rfl (fun hc => ?_) (fun hc => ?_)
  · have h := h.1 (b2i_0.mp hc)
    refine s_bipush C dX10_order_58 ⟨rfl, by decide, by decide⟩ ?_
    exact s_ireturn C dX10_order_60 h
  · have h := h.2 (b2i_n0 hc)
    refine s_iload_n C dX10_order_12 rfl ?_
    refine s_i2l C dX10_order_13 ?_
    refine s_lconst (z := 0) C dX10_order_14 ⟨rfl, by decide⟩ ?_
    refine s_ldc2 (z := 1023) C dX10_order_15 (mG (wd_1044) rfl) ⟨rfl, by decide⟩ ?_
    refine s_callS (av := [(1, l2), (1, 0), (1, 1023)]) (rest := []) (mc := 0) (ms := 0) C dX10_order_18 lk_X10_139 rfl rfl (Nat.le_of_ble_eq_true rfl) (by decide) (by decide) (pc_X10_in) (fun z2 wz2 Mz2 hq => ?_)
    obtain ⟨hq1, hq2, hq3⟩ := hq
    have hq2 := hq2.symm
    have hq3 := hq3.symm
    subst hq1 hq2 hq3
    refine s_ifeq C dX10_order_21 rfl (fun hc => ?_) (fun hc => ?_)
    · have h := h.1 (b2i_0.mp hc)
      refine s_bipush C dX10_order_58 ⟨rfl, by decide, by decide⟩ ?_
      exact s_ireturn C dX10_order_60 h
    · have h := h.2 (b2i_n0 hc)
      refine s_iload_n C dX10_order_24 rfl ?_
      refine s_callS (av := [(0, l3)]) (rest := []) (mc := 0) (ms := 0) C dX10_order_25 lk_X10_152 rfl rfl (Nat.le_of_ble_eq_true rfl) (by decide) (by decide) (pc_X10_isDay) (fun z3 wz3 Mz3 hq => ?_)
      obtain ⟨hq1, hq2, hq3⟩ := hq
      have hq2 := hq2.symm
      have hq3 := hq3.symm
      subst hq1 hq2 hq3
      refine s_ifeq C dX10_order_28 rfl (fun hc => ?_) (fun hc => ?_)
      · have h := h.1 (b2i_0.mp hc)
        refine s_bipush C dX10_order_58 ⟨rfl, by decide, by decide⟩ ?_
        exact s_ireturn C dX10_order_60 h
      · have h := h.2 (b2i_n0 hc)
        refine s_iload C dX10_order_31 rfl ?_
        refine s_callS (av := [(0, l4)]) (rest := []) (mc := 0) (ms := 0) C dX10_order_33 lk_X10_152 rfl rfl (Nat.le_of_ble_eq_true rfl) (by decide) (by decide) (pc_X10_isDay) (fun z4 wz4 Mz4 hq => ?_)
        obtain ⟨hq1, hq2, hq3⟩ := hq
        have hq2 := hq2.symm
        have hq3 := hq3.symm
        subst hq1 hq2 hq3
        refine s_ifeq C dX10_order_36 rfl (fun hc => ?_) (fun hc => ?_)
        · have h := h.1 (b2i_0.mp hc)
          refine s_bipush C dX10_order_58 ⟨rfl, by decide, by decide⟩ ?_
          exact s_ireturn C dX10_order_60 h
        · have h := h.2 (b2i_n0 hc)
          refine s_iload_n C dX10_order_39 rfl ?_
          refine s_iload C dX10_order_40 rfl ?_
          refine s_icmpgt C dX10_order_42 rfl (fun hc => ?_) (fun hc => ?_)
          · have h := h.1 hc
            refine s_bipush C dX10_order_58 ⟨rfl, by decide, by decide⟩ ?_
            exact s_ireturn C dX10_order_60 h
          · have h := h.2 hc
            refine s_iload C dX10_order_45 rfl ?_
            refine s_i2l C dX10_order_47 ?_
            refine s_lconst (z := 0) C dX10_order_48 ⟨rfl, by decide⟩ ?_
            refine s_ldc2 (z := 20) C dX10_order_49 (mG (wd_1045) rfl) ⟨rfl, by decide⟩ ?_
            refine s_callS (av := [(1, l5), (1, 0), (1, 20)]) (rest := []) (mc := 0) (ms := 0) C dX10_order_52 lk_X10_139 rfl rfl (Nat.le_of_ble_eq_true rfl) (by decide) (by decide) (pc_X10_in) (fun z5 wz5 Mz5 hq => ?_)
            obtain ⟨hq1, hq2, hq3⟩ := hq
            have hq2 := hq2.symm
            have hq3 := hq3.symm
            subst hq1 hq2 hq3
            refine s_ifne C dX10_order_55 rfl (fun hc => ?_) (fun hc => ?_)
            · have h := h.1 (b2i_n0 hc)
              refine s_aload_n C dX10_order_61 rfl ?_
              refine WA.fix (fun hF6 => ?_)
              refine gf_X10_220 (v0 := (M 41 26)) C (sh_41 hF6) dX10_order_62 rfl ?_
              refine s_bipush C dX10_order_65 ⟨rfl, by decide, by decide⟩ ?_
              refine s_icmpne C dX10_order_67 rfl (fun hc => ?_) (fun hc => ?_)
              · have h := h.1 hc
                refine s_aload_n C dX10_order_73 rfl ?_
                obtain ⟨Q7, hKQ7, h⟩ := h
                refine s_callV (ci := 10) (av := []) (rest := []) (mc := 0) (ms := 0) C dX10_order_74 lk_X10_223 (sh_41 hF6) (by decide) rfl rfl rfl (Nat.le_of_ble_eq_true rfl) (by decide) (by decide) hKQ7 (fun z7 w7 M7 hq => ?_)
                have h := h z7 w7 M7 hq
                refine s_iflt C dX10_order_77 rfl (fun hc => ?_) (fun hc => ?_)
                · have h := h.1 hc
                  refine s_iconst C dX10_order_83 (by decide) ?_
                  refine s_istore (ls' := [(2, 41), (0, l1), (0, l2), (0, l3), (0, l4), (0, l5), (0, l6), (0, 0)]) C dX10_order_84 (by decide) rfl rfl ?_
                  exact h
                · have h := h.2 hc
                  refine s_bipush C dX10_order_80 ⟨rfl, by decide, by decide⟩ ?_
                  exact s_ireturn C dX10_order_82 h
              · have h := h.2 hc
                refine s_bipush C dX10_order_70 ⟨rfl, by decide, by decide⟩ ?_
                exact s_ireturn C dX10_order_72 h
            · have h := h.2 (b2i_nn hc)
              refine s_bipush C dX10_order_58 ⟨rfl, by decide, by decide⟩ ?_
              exact s_ireturn C dX10_order_60 h
set_option maxHeartbeats 4000000 in
set_option maxRecDepth 100000 in
theorem B_X10_order_86 {G : GP} {X : BX} {P : Int → NS → MM → Prop} {l1 : Int} {l2 : Int} {l3 : Int} {l4 : Int} {l5 : Int} {l6 : Int} {l7 : Int} {w : NS} {M : MM} (C : CX_X10_order G X) (h : ((((M 57 10) ≤ l7) → (0 ≤ (M 41 26)) ∧ ((M 41 26) < 11) ∧ ((M 41 26) < 10) ∧ (l6 = 0 ∨ l6 = 1) ∧ (inR ((M 41 26) + 1)) ∧ (inR (((M 41 26) + 1) - 1)) ∧ P (((M 41 26) + 1) - 1) w (up (up (up (up (up (up (up (up (up M 57 (M 41 26) (M 57 10)) 57 10 0) 58 (M 41 26) l1) 59 (M 41 26) l2) 60 (M 41 26) l3) 61 (M 41 26) l4) 62 (M 41 26) l5) 63 (M 41 26) l6) 41 26 ((M 41 26) + 1))) ∧ ((¬ ((M 57 10) ≤ l7)) → (inR (40 * (M 41 26))) ∧ (inR ((40 * (M 41 26)) + l7)) ∧ (inR (400 + l7)) ∧ (0 ≤ (400 + l7)) ∧ ((400 + l7) < 440) ∧ (0 ≤ ((40 * (M 41 26)) + l7)) ∧ (((40 * (M 41 26)) + l7) < 440) ∧ (inR (l7 + 1)) ∧ A_X10_order_86 G X P l1 l2 l3 l4 l5 l6 (l7 + 1) w (up M 56 ((40 * (M 41 26)) + l7) (M 56 (400 + l7)))))) : A_X10_order_86 G X P l1 l2 l3 l4 l5 l6 l7 w M := by
  unfold A_X10_order_86
  refine s_iload C dX10_order_86 rfl ?_
  refine s_aload_n C dX10_order_88 rfl ?_
  refine WA.fix (fun hF1 => ?_)
  refine gf_X10_55 C (sh_41 hF1) dX10_order_89 (fx_41_19 hF1) ?_
  refine s_bipush C dX10_order_92 ⟨rfl, by decide, by decide⟩ ?_
  refine s_iald (v0 := (M 57 10)) C (sh_57 hF1) (by decide) (by decide) dX10_order_94 rfl ?_
  refine s_icmpge C dX10_order_95 rfl (fun hc => ?_) (fun hc => ?_)
  · have h := h.1 hc
    refine s_aload_n C dX10_order_130 rfl ?_
    refine gf_X10_55 C (sh_41 hF1) dX10_order_131 (fx_41_19 hF1) ?_
    refine s_aload_n C dX10_order_134 rfl ?_
    refine gf_X10_220 (v0 := (M 41 26)) C (sh_41 hF1) dX10_order_135 rfl ?_
    refine s_aload_n C dX10_order_138 rfl ?_
    refine gf_X10_55 C (sh_41 hF1) dX10_order_139 (fx_41_19 hF1) ?_
    refine s_bipush C dX10_order_142 ⟨rfl, by decide, by decide⟩ ?_
    refine s_iald (v0 := (M 57 10)) C (sh_57 hF1) (by decide) (by decide) dX10_order_144 rfl ?_
    obtain ⟨o2, h⟩ := h
    obtain ⟨o3, h⟩ := h
    refine s_iast C (sh_57 hF1) o2 o3 (fun _ => by decide) dX10_order_145 ?_
    refine s_aload_n C dX10_order_146 rfl ?_
    refine WA.fix (fun hF4 => ?_)
    refine gf_X10_55 C (sh_41 hF1) dX10_order_147 (fx_41_19 hF4) ?_
    refine s_bipush C dX10_order_150 ⟨rfl, by decide, by decide⟩ ?_
    refine s_iconst C dX10_order_152 (by decide) ?_
    refine s_iast C (sh_57 hF1) (by decide) (by decide) (fun _ => by decide) dX10_order_153 ?_
    refine s_aload_n C dX10_order_154 rfl ?_
    refine WA.fix (fun hF5 => ?_)
    refine gf_X10_58 C (sh_41 hF1) dX10_order_155 (fx_41_20 hF5) ?_
    refine s_aload_n C dX10_order_158 rfl ?_
    refine gf_X10_220 (v0 := (M 41 26)) C (sh_41 hF1) dX10_order_159 ((up_na (by decide)).trans (up_na (by decide))) ?_
    refine s_iload_n C dX10_order_162 rfl ?_
    obtain ⟨o6, h⟩ := h
    refine s_iast C (sh_58 hF5) o2 o6 (fun _ => by decide) dX10_order_163 ?_
    refine s_aload_n C dX10_order_164 rfl ?_
    refine WA.fix (fun hF7 => ?_)
    refine gf_X10_61 C (sh_41 hF1) dX10_order_165 (fx_41_21 hF7) ?_
    refine s_aload_n C dX10_order_168 rfl ?_
    refine gf_X10_220 (v0 := (M 41 26)) C (sh_41 hF1) dX10_order_169 ((up_na (by decide)).trans ((up_na (by decide)).trans (up_na (by decide)))) ?_
    refine s_iload_n C dX10_order_172 rfl ?_
    refine s_iast C (sh_59 hF7) o2 o6 (fun _ => by decide) dX10_order_173 ?_
    refine s_aload_n C dX10_order_174 rfl ?_
    refine WA.fix (fun hF8 => ?_)
    refine gf_X10_64 C (sh_41 hF1) dX10_order_175 (fx_41_22 hF8) ?_
    refine s_aload_n C dX10_order_178 rfl ?_
    refine gf_X10_220 (v0 := (M 41 26)) C (sh_41 hF1) dX10_order_179 ((up_na (by decide)).trans ((up_na (by decide)).trans ((up_na (by decide)).trans (up_na (by decide))))) ?_
    refine s_iload_n C dX10_order_182 rfl ?_
    refine s_iast C (sh_60 hF8) o2 o6 (fun _ => by decide) dX10_order_183 ?_
    refine s_aload_n C dX10_order_184 rfl ?_
    refine WA.fix (fun hF9 => ?_)
    refine gf_X10_67 C (sh_41 hF1) dX10_order_185 (fx_41_23 hF9) ?_
    refine s_aload_n C dX10_order_188 rfl ?_
    refine gf_X10_220 (v0 := (M 41 26)) C (sh_41 hF1) dX10_order_189 ((up_na (by decide)).trans ((up_na (by decide)).trans ((up_na (by decide)).trans ((up_na (by decide)).trans (up_na (by decide)))))) ?_
    refine s_iload C dX10_order_192 rfl ?_
    refine s_iast C (sh_61 hF9) o2 o6 (fun _ => by decide) dX10_order_194 ?_
    refine s_aload_n C dX10_order_195 rfl ?_
    refine WA.fix (fun hF10 => ?_)
    refine gf_X10_70 C (sh_41 hF1) dX10_order_196 (fx_41_24 hF10) ?_
    refine s_aload_n C dX10_order_199 rfl ?_
    refine gf_X10_220 (v0 := (M 41 26)) C (sh_41 hF1) dX10_order_200 ((up_na (by decide)).trans ((up_na (by decide)).trans ((up_na (by decide)).trans ((up_na (by decide)).trans ((up_na (by decide)).trans (up_na (by decide))))))) ?_
    refine s_iload C dX10_order_203 rfl ?_
    refine s_iast C (sh_62 hF10) o2 o6 (fun _ => by decide) dX10_order_205 ?_
    refine s_aload_n C dX10_order_206 rfl ?_
    refine WA.fix (fun hF11 => ?_)
    refine gf_X10_73 C (sh_41 hF1) dX10_order_207 (fx_41_25 hF11) ?_
    refine s_aload_n C dX10_order_210 rfl ?_
    refine gf_X10_220 (v0 := (M 41 26)) C (sh_41 hF1) dX10_order_211 ((up_na (by decide)).trans ((up_na (by decide)).trans ((up_na (by decide)).trans ((up_na (by decide)).trans ((up_na (by decide)).trans ((up_na (by decide)).trans (up_na (by decide)))))))) ?_
    refine s_iload C dX10_order_214 rfl ?_
    obtain ⟨o12, h⟩ := h
    refine s_zast C (sh_63 hF11) o2 o6 o12 (fun _ => by decide) dX10_order_216 ?_
    refine s_aload_n C dX10_order_217 rfl ?_
    refine s_dup C (by simp) dX10_order_218 ?_
    refine gf_X10_220 (v0 := (M 41 26)) C (sh_41 hF1) dX10_order_219 ((up_na (by decide)).trans ((up_na (by decide)).trans ((up_na (by decide)).trans ((up_na (by decide)).trans ((up_na (by decide)).trans ((up_na (by decide)).trans ((up_na (by decide)).trans (up_na (by decide))))))))) ?_
    refine s_iconst C dX10_order_222 (by decide) ?_
    obtain ⟨o13, h⟩ := h
    refine s_iadd C dX10_order_223 o13 ?_
    refine pf_X10_220 C (sh_41 hF1) (fun _ => by decide) dX10_order_224 ?_
    refine s_aload_n C dX10_order_227 rfl ?_
    refine gf_X10_220 (v0 := ((M 41 26) + 1)) C (sh_41 hF1) dX10_order_228 (up_eq) ?_
    refine s_iconst C dX10_order_231 (by decide) ?_
    obtain ⟨o14, h⟩ := h
    refine s_isub C dX10_order_232 o14 ?_
    exact s_ireturn C dX10_order_233 h
  · have h := h.2 hc
    refine s_aload_n C dX10_order_98 rfl ?_
    refine gf_X10_52 C (sh_41 hF1) dX10_order_99 (fx_41_18 hF1) ?_
    refine s_bipush C dX10_order_102 ⟨rfl, by decide, by decide⟩ ?_
    refine s_aload_n C dX10_order_104 rfl ?_
    refine gf_X10_220 (v0 := (M 41 26)) C (sh_41 hF1) dX10_order_105 rfl ?_
    obtain ⟨o15, h⟩ := h
    refine s_imul C dX10_order_108 o15 ?_
    refine s_iload C dX10_order_109 rfl ?_
    obtain ⟨o16, h⟩ := h
    refine s_iadd C dX10_order_111 o16 ?_
    refine s_aload_n C dX10_order_112 rfl ?_
    refine gf_X10_52 C (sh_41 hF1) dX10_order_113 (fx_41_18 hF1) ?_
    refine s_sipush C dX10_order_116 ⟨rfl, by decide, by decide⟩ ?_
    refine s_iload C dX10_order_119 rfl ?_
    obtain ⟨o17, h⟩ := h
    refine s_iadd C dX10_order_121 o17 ?_
    obtain ⟨o18, h⟩ := h
    obtain ⟨o19, h⟩ := h
    refine s_iald (v0 := (M 56 (400 + l7))) C (sh_56 hF1) o18 o19 dX10_order_122 rfl ?_
    obtain ⟨o20, h⟩ := h
    obtain ⟨o21, h⟩ := h
    refine s_iast C (sh_56 hF1) o20 o21 (fun _ => by decide) dX10_order_123 ?_
    obtain ⟨o22, h⟩ := h
    refine s_iinc (ls' := [(2, 41), (0, l1), (0, l2), (0, l3), (0, l4), (0, l5), (0, l6), (0, (l7 + 1))]) C dX10_order_124 (by decide) rfl o22 rfl rfl ?_
    refine s_goto C dX10_order_127 rfl ?_
    exact h
theorem E_X10_order {G : GP} {l : Launch} {P : Int → NS → MM → Prop} {l1 : Int} {l2 : Int} {l3 : Int} {l4 : Int} {l5 : Int} {l6 : Int} {w : NS} {M : MM} (h : inR l1 → inR l2 → inR l3 → inR l4 → inR l5 → inR l6 → ∀ X : BX, X.2.1 = l → CX_X10_order G X → A_X10_order_0 G X P l1 l2 l3 l4 l5 l6 w M) : CT_X10_order G l [(2, 41), (0, l1), (0, l2), (0, l3), (0, l4), (0, l5), (0, l6)] w M P :=
  CT.of RX10 "order" (by decide +kernel) rfl rfl rfl (Nat.le_of_ble_eq_true rfl) (fun hr X hX C => h (hr (0, l1) (by simp)) (hr (0, l2) (by simp)) (hr (0, l3) (by simp)) (hr (0, l4) (by simp)) (hr (0, l5) (by simp)) (hr (0, l6) (by simp)) X hX C)
def A_X10_timesOf_0 (G : GP) (X : BX) (P : Int → NS → MM → Prop) (l1 : Int) (w : NS) (M : MM) : Prop := WA true G X (QM G X true 0 P) 4 0 [(2, 41), (0, l1), (3, 0), (3, 0)] [] 0 0 w M
def A_X10_timesOf_4 (G : GP) (X : BX) (P : Int → NS → MM → Prop) (l1 : Int) (l2 : Int) (l3 : Int) (w : NS) (M : MM) : Prop := WA true G X (QM G X true 0 P) 4 4 [(2, 41), (0, l1), (0, l2), (0, l3)] [] 0 0 w M
set_option maxHeartbeats 4000000 in
set_option maxRecDepth 100000 in
theorem B_X10_timesOf_0 {G : GP} {X : BX} {P : Int → NS → MM → Prop} {l1 : Int} {w : NS} {M : MM} (C : CX_X10_timesOf G X) (h : A_X10_timesOf_4 G X P l1 0 0 w M) : A_X10_timesOf_0 G X P l1 w M := by
  unfold A_X10_timesOf_0
  refine s_iconst C dX10_timesOf_0 (by decide) ?_
  refine s_istore_n (ls' := [(2, 41), (0, l1), (0, 0), (3, 0)]) C dX10_timesOf_1 (by decide) rfl rfl ?_
  refine s_iconst C dX10_timesOf_2 (by decide) ?_
  refine s_istore_n (ls' := [(2, 41), (0, l1), (0, 0), (0, 0)]) C dX10_timesOf_3 (by decide) rfl rfl ?_
  exact h
set_option maxHeartbeats 4000000 in
set_option maxRecDepth 100000 in
theorem B_X10_timesOf_4 {G : GP} {X : BX} {P : Int → NS → MM → Prop} {l1 : Int} {l2 : Int} {l3 : Int} {w : NS} {M : MM} (C : CX_X10_timesOf G X) (h : ((((M 41 16) ≤ l3) → P l2 w M) ∧ ((¬ ((M 41 16) ≤ l3)) → (0 ≤ l3) ∧ (l3 < 60) ∧ ((((M 54 l3) ≠ l1) → (inR (l2 + 0)) ∧ (inR (l3 + 1)) ∧ A_X10_timesOf_4 G X P l1 (l2 + 0) (l3 + 1) w M) ∧ ((¬ ((M 54 l3) ≠ l1)) → (inR (l2 + 1)) ∧ (inR (l3 + 1)) ∧ A_X10_timesOf_4 G X P l1 (l2 + 1) (l3 + 1) w M))))) : A_X10_timesOf_4 G X P l1 l2 l3 w M := by
  unfold A_X10_timesOf_4
  refine s_iload_n C dX10_timesOf_4 rfl ?_
  refine s_aload_n C dX10_timesOf_5 rfl ?_
  refine WA.fix (fun hF1 => ?_)
  refine gf_X10_176 (v0 := (M 41 16)) C (sh_41 hF1) dX10_timesOf_6 rfl ?_
  refine s_icmpge C dX10_timesOf_9 rfl (fun hc => ?_) (fun hc => ?_)
  · have h := h.1 hc
    refine s_iload_n C dX10_timesOf_36 rfl ?_
    exact s_ireturn C dX10_timesOf_37 h
  · have h := h.2 hc
    refine s_iload_n C dX10_timesOf_12 rfl ?_
    refine s_aload_n C dX10_timesOf_13 rfl ?_
    refine gf_X10_46 C (sh_41 hF1) dX10_timesOf_14 (fx_41_14 hF1) ?_
    refine s_iload_n C dX10_timesOf_17 rfl ?_
    obtain ⟨o2, h⟩ := h
    obtain ⟨o3, h⟩ := h
    refine s_iald (v0 := (M 54 l3)) C (sh_54 hF1) o2 o3 dX10_timesOf_18 rfl ?_
    refine s_iload_n C dX10_timesOf_19 rfl ?_
    refine s_icmpne C dX10_timesOf_20 rfl (fun hc => ?_) (fun hc => ?_)
    · have h := h.1 hc
      refine s_iconst C dX10_timesOf_27 (by decide) ?_
      obtain ⟨o4, h⟩ := h
      refine s_iadd C dX10_timesOf_28 o4 ?_
      refine s_istore_n (ls' := [(2, 41), (0, l1), (0, (l2 + 0)), (0, l3)]) C dX10_timesOf_29 (by decide) rfl rfl ?_
      obtain ⟨o5, h⟩ := h
      refine s_iinc (ls' := [(2, 41), (0, l1), (0, (l2 + 0)), (0, (l3 + 1))]) C dX10_timesOf_30 (by decide) rfl o5 rfl rfl ?_
      refine s_goto C dX10_timesOf_33 rfl ?_
      exact h
    · have h := h.2 hc
      refine s_iconst C dX10_timesOf_23 (by decide) ?_
      refine s_goto C dX10_timesOf_24 rfl ?_
      obtain ⟨o6, h⟩ := h
      refine s_iadd C dX10_timesOf_28 o6 ?_
      refine s_istore_n (ls' := [(2, 41), (0, l1), (0, (l2 + 1)), (0, l3)]) C dX10_timesOf_29 (by decide) rfl rfl ?_
      obtain ⟨o7, h⟩ := h
      refine s_iinc (ls' := [(2, 41), (0, l1), (0, (l2 + 1)), (0, (l3 + 1))]) C dX10_timesOf_30 (by decide) rfl o7 rfl rfl ?_
      refine s_goto C dX10_timesOf_33 rfl ?_
      exact h
theorem E_X10_timesOf {G : GP} {l : Launch} {P : Int → NS → MM → Prop} {l1 : Int} {w : NS} {M : MM} (h : inR l1 → ∀ X : BX, X.2.1 = l → CX_X10_timesOf G X → A_X10_timesOf_0 G X P l1 w M) : CT_X10_timesOf G l [(2, 41), (0, l1)] w M P :=
  CT.of RX10 "timesOf" (by decide +kernel) rfl rfl rfl (Nat.le_of_ble_eq_true rfl) (fun hr X hX C => h (hr (0, l1) (by simp)) X hX C)
def A_X10_areNear_0 (G : GP) (X : BX) (P : Int → NS → MM → Prop) (l1 : Int) (l2 : Int) (l3 : Int) (w : NS) (M : MM) : Prop := WA true G X (QM G X true 0 P) 8 0 [(2, 41), (0, l1), (0, l2), (0, l3), (3, 0), (3, 0), (3, 0), (3, 0)] [] 0 0 w M
def A_X10_areNear_6 (G : GP) (X : BX) (P : Int → NS → MM → Prop) (l1 : Int) (l2 : Int) (l3 : Int) (l4 : Int) (l5 : Int) (w : NS) (M : MM) : Prop := WA true G X (QM G X true 0 P) 8 6 [(2, 41), (0, l1), (0, l2), (0, l3), (0, l4), (0, l5), (3, 0), (3, 0)] [] 0 0 w M
def A_X10_areNear_18 (G : GP) (X : BX) (P : Int → NS → MM → Prop) (l1 : Int) (l2 : Int) (l3 : Int) (l4 : Int) (l5 : Int) (l6 : Int) (w : NS) (M : MM) : Prop := WA true G X (QM G X true 0 P) 8 18 [(2, 41), (0, l1), (0, l2), (0, l3), (0, l4), (0, l5), (0, l6), (3, 0)] [] 0 0 w M
set_option maxHeartbeats 4000000 in
set_option maxRecDepth 100000 in
theorem B_X10_areNear_0 {G : GP} {X : BX} {P : Int → NS → MM → Prop} {l1 : Int} {l2 : Int} {l3 : Int} {w : NS} {M : MM} (C : CX_X10_areNear G X) (h : A_X10_areNear_6 G X P l1 l2 l3 0 0 w M) : A_X10_areNear_0 G X P l1 l2 l3 w M := by
  unfold A_X10_areNear_0
  refine s_iconst C dX10_areNear_0 (by decide) ?_
  refine s_istore (ls' := [(2, 41), (0, l1), (0, l2), (0, l3), (0, 0), (3, 0), (3, 0), (3, 0)]) C dX10_areNear_1 (by decide) rfl rfl ?_
  refine s_iconst C dX10_areNear_3 (by decide) ?_
  refine s_istore (ls' := [(2, 41), (0, l1), (0, l2), (0, l3), (0, 0), (0, 0), (3, 0), (3, 0)]) C dX10_areNear_4 (by decide) rfl rfl ?_
  exact h
set_option maxHeartbeats 4000000 in
set_option maxRecDepth 100000 in
theorem B_X10_areNear_6 {G : GP} {X : BX} {P : Int → NS → MM → Prop} {l1 : Int} {l2 : Int} {l3 : Int} {l4 : Int} {l5 : Int} {w : NS} {M : MM} (C : CX_X10_areNear G X) (h : ((((M 41 16) ≤ l5) → (l4 = 0 ∨ l4 = 1) ∧ P l4 w M) ∧ ((¬ ((M 41 16) ≤ l5)) → A_X10_areNear_18 G X P l1 l2 l3 l4 l5 0 w M))) : A_X10_areNear_6 G X P l1 l2 l3 l4 l5 w M := by
  unfold A_X10_areNear_6
  refine s_iload C dX10_areNear_6 rfl ?_
  refine s_aload_n C dX10_areNear_8 rfl ?_
  refine WA.fix (fun hF1 => ?_)
  refine gf_X10_176 (v0 := (M 41 16)) C (sh_41 hF1) dX10_areNear_9 rfl ?_
  refine s_icmpge C dX10_areNear_12 rfl (fun hc => ?_) (fun hc => ?_)
  · have h := h.1 hc
    refine s_iload C dX10_areNear_106 rfl ?_
    obtain ⟨o2, h⟩ := h
    exact s_zreturn C dX10_areNear_108 o2 h
  · have h := h.2 hc
    refine s_iconst C dX10_areNear_15 (by decide) ?_
    refine s_istore (ls' := [(2, 41), (0, l1), (0, l2), (0, l3), (0, l4), (0, l5), (0, 0), (3, 0)]) C dX10_areNear_16 (by decide) rfl rfl ?_
    exact h
set_option maxHeartbeats 4000000 in
set_option maxRecDepth 100000 in
theorem B_X10_areNear_18 {G : GP} {X : BX} {P : Int → NS → MM → Prop} {l1 : Int} {l2 : Int} {l3 : Int} {l4 : Int} {l5 : Int} {l6 : Int} {w : NS} {M : MM} (C : CX_X10_areNear G X) (h : ((((M 41 16) ≤ l6) → (inR (l5 + 1)) ∧ A_X10_areNear_6 G X P l1 l2 l3 l4 (l5 + 1) w M) ∧ ((¬ ((M 41 16) ≤ l6)) → (((l6 ≤ l5) → (inR (l5 - l6)) ∧ (((l4 ≠ 0) → (inR (l6 + 1)) ∧ A_X10_areNear_18 G X P l1 l2 l3 1 l5 (l6 + 1) w M) ∧ ((¬ (l4 ≠ 0)) → (0 ≤ l5) ∧ (l5 < 60) ∧ ((((M 54 l5) ≠ l1) → (inR (l6 + 1)) ∧ A_X10_areNear_18 G X P l1 l2 l3 0 l5 (l6 + 1) w M) ∧ ((¬ ((M 54 l5) ≠ l1)) → (0 ≤ l6) ∧ (l6 < 60) ∧ ((((M 54 l6) ≠ l2) → (inR (l6 + 1)) ∧ A_X10_areNear_18 G X P l1 l2 l3 0 l5 (l6 + 1) w M) ∧ ((¬ ((M 54 l6) ≠ l2)) → ((((l5 - l6) ≤ 0) → (inR (l6 + 1)) ∧ A_X10_areNear_18 G X P l1 l2 l3 0 l5 (l6 + 1) w M) ∧ ((¬ ((l5 - l6) ≤ 0)) → (((l3 < (l5 - l6)) → (inR (l6 + 1)) ∧ A_X10_areNear_18 G X P l1 l2 l3 0 l5 (l6 + 1) w M) ∧ ((¬ (l3 < (l5 - l6))) → (inR (l6 + 1)) ∧ A_X10_areNear_18 G X P l1 l2 l3 1 l5 (l6 + 1) w M))))))))))) ∧ ((¬ (l6 ≤ l5)) → (inR (l6 - l5)) ∧ (((l4 ≠ 0) → (inR (l6 + 1)) ∧ A_X10_areNear_18 G X P l1 l2 l3 1 l5 (l6 + 1) w M) ∧ ((¬ (l4 ≠ 0)) → (0 ≤ l5) ∧ (l5 < 60) ∧ ((((M 54 l5) ≠ l1) → (inR (l6 + 1)) ∧ A_X10_areNear_18 G X P l1 l2 l3 0 l5 (l6 + 1) w M) ∧ ((¬ ((M 54 l5) ≠ l1)) → (0 ≤ l6) ∧ (l6 < 60) ∧ ((((M 54 l6) ≠ l2) → (inR (l6 + 1)) ∧ A_X10_areNear_18 G X P l1 l2 l3 0 l5 (l6 + 1) w M) ∧ ((¬ ((M 54 l6) ≠ l2)) → ((((l6 - l5) ≤ 0) → (inR (l6 + 1)) ∧ A_X10_areNear_18 G X P l1 l2 l3 0 l5 (l6 + 1) w M) ∧ ((¬ ((l6 - l5) ≤ 0)) → (((l3 < (l6 - l5)) → (inR (l6 + 1)) ∧ A_X10_areNear_18 G X P l1 l2 l3 0 l5 (l6 + 1) w M) ∧ ((¬ (l3 < (l6 - l5))) → (inR (l6 + 1)) ∧ A_X10_areNear_18 G X P l1 l2 l3 1 l5 (l6 + 1) w M))))))))))))))) : A_X10_areNear_18 G X P l1 l2 l3 l4 l5 l6 w M := by
  unfold A_X10_areNear_18
  refine s_iload C dX10_areNear_18 rfl ?_
  refine s_aload_n C dX10_areNear_20 rfl ?_
  refine WA.fix (fun hF1 => ?_)
  refine gf_X10_176 (v0 := (M 41 16)) C (sh_41 hF1) dX10_areNear_21 rfl ?_
  refine s_icmpge C dX10_areNear_24 rfl (fun hc => ?_) (fun hc => ?_)
  · have h := h.1 hc
    obtain ⟨o2, h⟩ := h
    refine s_iinc (ls' := [(2, 41), (0, l1), (0, l2), (0, l3), (0, l4), (0, (l5 + 1)), (0, l6), (3, 0)]) C dX10_areNear_100 (by decide) rfl o2 rfl rfl ?_
    refine s_goto C dX10_areNear_103 rfl ?_
    exact WA.wk h ⟨Or.inr rfl, Or.inr rfl, Or.inr rfl, Or.inr rfl, Or.inr rfl, Or.inr rfl, Or.inl rfl, Or.inl rfl, trivial⟩
  · have h := h.2 hc
    refine s_iload C dX10_areNear_27 rfl ?_
    refine s_iload C dX10_areNear_29 rfl ?_
    refine s_icmpge C dX10_areNear_31 rfl (fun hc => ?_) (fun hc => ?_)
    · have h := h.1 hc
      refine s_iload C dX10_areNear_42 rfl ?_
      refine s_iload C dX10_areNear_44 rfl ?_
      obtain ⟨o3, h⟩ := h
      refine s_isub C dX10_areNear_46 o3 ?_
      refine s_istore (ls' := [(2, 41), (0, l1), (0, l2), (0, l3), (0, l4), (0, l5), (0, l6), (0, (l5 - l6))]) C dX10_areNear_47 (by decide) rfl rfl ?_
      refine s_iload C dX10_areNear_49 rfl ?_
      refine s_ifne C dX10_areNear_51 rfl (fun hc => ?_) (fun hc => ?_)
      · have h := h.1 hc
        refine s_iconst C dX10_areNear_87 (by decide) ?_
        refine s_goto C dX10_areNear_88 rfl ?_
        refine s_istore (ls' := [(2, 41), (0, l1), (0, l2), (0, l3), (0, 1), (0, l5), (0, l6), (0, (l5 - l6))]) C dX10_areNear_92 (by decide) rfl rfl ?_
        obtain ⟨o4, h⟩ := h
        refine s_iinc (ls' := [(2, 41), (0, l1), (0, l2), (0, l3), (0, 1), (0, l5), (0, (l6 + 1)), (0, (l5 - l6))]) C dX10_areNear_94 (by decide) rfl o4 rfl rfl ?_
        refine s_goto C dX10_areNear_97 rfl ?_
        exact WA.wk h ⟨Or.inr rfl, Or.inr rfl, Or.inr rfl, Or.inr rfl, Or.inr rfl, Or.inr rfl, Or.inr rfl, Or.inl rfl, trivial⟩
      · have h := h.2 hc
        refine s_aload_n C dX10_areNear_54 rfl ?_
        refine gf_X10_46 C (sh_41 hF1) dX10_areNear_55 (fx_41_14 hF1) ?_
        refine s_iload C dX10_areNear_58 rfl ?_
        obtain ⟨o5, h⟩ := h
        obtain ⟨o6, h⟩ := h
        refine s_iald (v0 := (M 54 l5)) C (sh_54 hF1) o5 o6 dX10_areNear_60 rfl ?_
        refine s_iload_n C dX10_areNear_61 rfl ?_
        refine s_icmpne C dX10_areNear_62 rfl (fun hc => ?_) (fun hc => ?_)
        · have h := h.1 hc
          refine s_iconst C dX10_areNear_91 (by decide) ?_
          refine s_istore (ls' := [(2, 41), (0, l1), (0, l2), (0, l3), (0, 0), (0, l5), (0, l6), (0, (l5 - l6))]) C dX10_areNear_92 (by decide) rfl rfl ?_
          obtain ⟨o7, h⟩ := h
          refine s_iinc (ls' := [(2, 41), (0, l1), (0, l2), (0, l3), (0, 0), (0, l5), (0, (l6 + 1)), (0, (l5 - l6))]) C dX10_areNear_94 (by decide) rfl o7 rfl rfl ?_
          refine s_goto C dX10_areNear_97 rfl ?_
          exact WA.wk h ⟨Or.inr rfl, Or.inr rfl, Or.inr rfl, Or.inr rfl, Or.inr rfl, Or.inr rfl, Or.inr rfl, Or.inl rfl, trivial⟩
        · have h := h.2 hc
          refine s_aload_n C dX10_areNear_65 rfl ?_
          refine gf_X10_46 C (sh_41 hF1) dX10_areNear_66 (fx_41_14 hF1) ?_
          refine s_iload C dX10_areNear_69 rfl ?_
          obtain ⟨o8, h⟩ := h
          obtain ⟨o9, h⟩ := h
          refine s_iald (v0 := (M 54 l6)) C (sh_54 hF1) o8 o9 dX10_areNear_71 rfl ?_
          refine s_iload_n C dX10_areNear_72 rfl ?_
          refine s_icmpne C dX10_areNear_73 rfl (fun hc => ?_) (fun hc => ?_)
          · have h := h.1 hc
            refine s_iconst C dX10_areNear_91 (by decide) ?_
            refine s_istore (ls' := [(2, 41), (0, l1), (0, l2), (0, l3), (0, 0), (0, l5), (0, l6), (0, (l5 - l6))]) C dX10_areNear_92 (by decide) rfl rfl ?_
            obtain ⟨o10, h⟩ := h
            refine s_iinc (ls' := [(2, 41), (0, l1), (0, l2), (0, l3), (0, 0), (0, l5), (0, (l6 + 1)), (0, (l5 - l6))]) C dX10_areNear_94 (by decide) rfl o10 rfl rfl ?_
            refine s_goto C dX10_areNear_97 rfl ?_
            exact WA.wk h ⟨Or.inr rfl, Or.inr rfl, Or.inr rfl, Or.inr rfl, Or.inr rfl, Or.inr rfl, Or.inr rfl, Or.inl rfl, trivial⟩
          · have h := h.2 hc
            refine s_iload C dX10_areNear_76 rfl ?_
            refine s_ifle C dX10_areNear_78 rfl (fun hc => ?_) (fun hc => ?_)
            · have h := h.1 hc
              refine s_iconst C dX10_areNear_91 (by decide) ?_
              refine s_istore (ls' := [(2, 41), (0, l1), (0, l2), (0, l3), (0, 0), (0, l5), (0, l6), (0, (l5 - l6))]) C dX10_areNear_92 (by decide) rfl rfl ?_
              obtain ⟨o11, h⟩ := h
              refine s_iinc (ls' := [(2, 41), (0, l1), (0, l2), (0, l3), (0, 0), (0, l5), (0, (l6 + 1)), (0, (l5 - l6))]) C dX10_areNear_94 (by decide) rfl o11 rfl rfl ?_
              refine s_goto C dX10_areNear_97 rfl ?_
              exact WA.wk h ⟨Or.inr rfl, Or.inr rfl, Or.inr rfl, Or.inr rfl, Or.inr rfl, Or.inr rfl, Or.inr rfl, Or.inl rfl, trivial⟩
            · have h := h.2 hc
              refine s_iload C dX10_areNear_81 rfl ?_
              refine s_iload_n C dX10_areNear_83 rfl ?_
              refine s_icmpgt C dX10_areNear_84 rfl (fun hc => ?_) (fun hc => ?_)
              · have h := h.1 hc
                refine s_iconst C dX10_areNear_91 (by decide) ?_
                refine s_istore (ls' := [(2, 41), (0, l1), (0, l2), (0, l3), (0, 0), (0, l5), (0, l6), (0, (l5 - l6))]) C dX10_areNear_92 (by decide) rfl rfl ?_
                obtain ⟨o12, h⟩ := h
                refine s_iinc (ls' := [(2, 41), (0, l1), (0, l2), (0, l3), (0, 0), (0, l5), (0, (l6 + 1)), (0, (l5 - l6))]) C dX10_areNear_94 (by decide) rfl o12 rfl rfl ?_
                refine s_goto C dX10_areNear_97 rfl ?_
                exact WA.wk h ⟨Or.inr rfl, Or.inr rfl, Or.inr rfl, Or.inr rfl, Or.inr rfl, Or.inr rfl, Or.inr rfl, Or.inl rfl, trivial⟩
              · have h := h.2 hc
                refine s_iconst C dX10_areNear_87 (by decide) ?_
                refine s_goto C dX10_areNear_88 rfl ?_
                refine s_istore (ls' := [(2, 41), (0, l1), (0, l2), (0, l3), (0, 1), (0, l5), (0, l6), (0, (l5 - l6))]) C dX10_areNear_92 (by decide) rfl rfl ?_
                obtain ⟨o13, h⟩ := h
                refine s_iinc (ls' := [(2, 41), (0, l1), (0, l2), (0, l3), (0, 1), (0, l5), (0, (l6 + 1)), (0, (l5 - l6))]) C dX10_areNear_94 (by decide) rfl o13 rfl rfl ?_
                refine s_goto C dX10_areNear_97 rfl ?_
                exact WA.wk h ⟨Or.inr rfl, Or.inr rfl, Or.inr rfl, Or.inr rfl, Or.inr rfl, Or.inr rfl, Or.inr rfl, Or.inl rfl, trivial⟩
    · have h := h.2 hc
      refine s_iload C dX10_areNear_34 rfl ?_
      refine s_iload C dX10_areNear_36 rfl ?_
      obtain ⟨o14, h⟩ := h
      refine s_isub C dX10_areNear_38 o14 ?_
      refine s_goto C dX10_areNear_39 rfl ?_
      refine s_istore (ls' := [(2, 41), (0, l1), (0, l2), (0, l3), (0, l4), (0, l5), (0, l6), (0, (l6 - l5))]) C dX10_areNear_47 (by decide) rfl rfl ?_
      refine s_iload C dX10_areNear_49 rfl ?_
      refine s_ifne C dX10_areNear_51 rfl (fun hc => ?_) (fun hc => ?_)
      · have h := h.1 hc
        refine s_iconst C dX10_areNear_87 (by decide) ?_
        refine s_goto C dX10_areNear_88 rfl ?_
        refine s_istore (ls' := [(2, 41), (0, l1), (0, l2), (0, l3), (0, 1), (0, l5), (0, l6), (0, (l6 - l5))]) C dX10_areNear_92 (by decide) rfl rfl ?_
        obtain ⟨o15, h⟩ := h
        refine s_iinc (ls' := [(2, 41), (0, l1), (0, l2), (0, l3), (0, 1), (0, l5), (0, (l6 + 1)), (0, (l6 - l5))]) C dX10_areNear_94 (by decide) rfl o15 rfl rfl ?_
        refine s_goto C dX10_areNear_97 rfl ?_
        exact WA.wk h ⟨Or.inr rfl, Or.inr rfl, Or.inr rfl, Or.inr rfl, Or.inr rfl, Or.inr rfl, Or.inr rfl, Or.inl rfl, trivial⟩
      · have h := h.2 hc
        refine s_aload_n C dX10_areNear_54 rfl ?_
        refine gf_X10_46 C (sh_41 hF1) dX10_areNear_55 (fx_41_14 hF1) ?_
        refine s_iload C dX10_areNear_58 rfl ?_
        obtain ⟨o16, h⟩ := h
        obtain ⟨o17, h⟩ := h
        refine s_iald (v0 := (M 54 l5)) C (sh_54 hF1) o16 o17 dX10_areNear_60 rfl ?_
        refine s_iload_n C dX10_areNear_61 rfl ?_
        refine s_icmpne C dX10_areNear_62 rfl (fun hc => ?_) (fun hc => ?_)
        · have h := h.1 hc
          refine s_iconst C dX10_areNear_91 (by decide) ?_
          refine s_istore (ls' := [(2, 41), (0, l1), (0, l2), (0, l3), (0, 0), (0, l5), (0, l6), (0, (l6 - l5))]) C dX10_areNear_92 (by decide) rfl rfl ?_
          obtain ⟨o18, h⟩ := h
          refine s_iinc (ls' := [(2, 41), (0, l1), (0, l2), (0, l3), (0, 0), (0, l5), (0, (l6 + 1)), (0, (l6 - l5))]) C dX10_areNear_94 (by decide) rfl o18 rfl rfl ?_
          refine s_goto C dX10_areNear_97 rfl ?_
          exact WA.wk h ⟨Or.inr rfl, Or.inr rfl, Or.inr rfl, Or.inr rfl, Or.inr rfl, Or.inr rfl, Or.inr rfl, Or.inl rfl, trivial⟩
        · have h := h.2 hc
          refine s_aload_n C dX10_areNear_65 rfl ?_
          refine gf_X10_46 C (sh_41 hF1) dX10_areNear_66 (fx_41_14 hF1) ?_
          refine s_iload C dX10_areNear_69 rfl ?_
          obtain ⟨o19, h⟩ := h
          obtain ⟨o20, h⟩ := h
          refine s_iald (v0 := (M 54 l6)) C (sh_54 hF1) o19 o20 dX10_areNear_71 rfl ?_
          refine s_iload_n C dX10_areNear_72 rfl ?_
          refine s_icmpne C dX10_areNear_73 rfl (fun hc => ?_) (fun hc => ?_)
          · have h := h.1 hc
            refine s_iconst C dX10_areNear_91 (by decide) ?_
            refine s_istore (ls' := [(2, 41), (0, l1), (0, l2), (0, l3), (0, 0), (0, l5), (0, l6), (0, (l6 - l5))]) C dX10_areNear_92 (by decide) rfl rfl ?_
            obtain ⟨o21, h⟩ := h
            refine s_iinc (ls' := [(2, 41), (0, l1), (0, l2), (0, l3), (0, 0), (0, l5), (0, (l6 + 1)), (0, (l6 - l5))]) C dX10_areNear_94 (by decide) rfl o21 rfl rfl ?_
            refine s_goto C dX10_areNear_97 rfl ?_
            exact WA.wk h ⟨Or.inr rfl, Or.inr rfl, Or.inr rfl, Or.inr rfl, Or.inr rfl, Or.inr rfl, Or.inr rfl, Or.inl rfl, trivial⟩
          · have h := h.2 hc
            refine s_iload C dX10_areNear_76 rfl ?_
            refine s_ifle C dX10_areNear_78 rfl (fun hc => ?_) (fun hc => ?_)
            · have h := h.1 hc
              refine s_iconst C dX10_areNear_91 (by decide) ?_
              refine s_istore (ls' := [(2, 41), (0, l1), (0, l2), (0, l3), (0, 0), (0, l5), (0, l6), (0, (l6 - l5))]) C dX10_areNear_92 (by decide) rfl rfl ?_
              obtain ⟨o22, h⟩ := h
              refine s_iinc (ls' := [(2, 41), (0, l1), (0, l2), (0, l3), (0, 0), (0, l5), (0, (l6 + 1)), (0, (l6 - l5))]) C dX10_areNear_94 (by decide) rfl o22 rfl rfl ?_
              refine s_goto C dX10_areNear_97 rfl ?_
              exact WA.wk h ⟨Or.inr rfl, Or.inr rfl, Or.inr rfl, Or.inr rfl, Or.inr rfl, Or.inr rfl, Or.inr rfl, Or.inl rfl, trivial⟩
            · have h := h.2 hc
              refine s_iload C dX10_areNear_81 rfl ?_
              refine s_iload_n C dX10_areNear_83 rfl ?_
              refine s_icmpgt C dX10_areNear_84 rfl (fun hc => ?_) (fun hc => ?_)
              · have h := h.1 hc
                refine s_iconst C dX10_areNear_91 (by decide) ?_
                refine s_istore (ls' := [(2, 41), (0, l1), (0, l2), (0, l3), (0, 0), (0, l5), (0, l6), (0, (l6 - l5))]) C dX10_areNear_92 (by decide) rfl rfl ?_
                obtain ⟨o23, h⟩ := h
                refine s_iinc (ls' := [(2, 41), (0, l1), (0, l2), (0, l3), (0, 0), (0, l5), (0, (l6 + 1)), (0, (l6 - l5))]) C dX10_areNear_94 (by decide) rfl o23 rfl rfl ?_
                refine s_goto C dX10_areNear_97 rfl ?_
                exact WA.wk h ⟨Or.inr rfl, Or.inr rfl, Or.inr rfl, Or.inr rfl, Or.inr rfl, Or.inr rfl, Or.inr rfl, Or.inl rfl, trivial⟩
              · have h := h.2 hc
                refine s_iconst C dX10_areNear_87 (by decide) ?_
                refine s_goto C dX10_areNear_88 rfl ?_
                refine s_istore (ls' := [(2, 41), (0, l1), (0, l2), (0, l3), (0, 1), (0, l5), (0, l6), (0, (l6 - l5))]) C dX10_areNear_92 (by decide) rfl rfl ?_
                obtain ⟨o24, h⟩ := h
                refine s_iinc (ls' := [(2, 41), (0, l1), (0, l2), (0, l3), (0, 1), (0, l5), (0, (l6 + 1)), (0, (l6 - l5))]) C dX10_areNear_94 (by decide) rfl o24 rfl rfl ?_
                refine s_goto C dX10_areNear_97 rfl ?_
                exact WA.wk h ⟨Or.inr rfl, Or.inr rfl, Or.inr rfl, Or.inr rfl, Or.inr rfl, Or.inr rfl, Or.inr rfl, Or.inl rfl, trivial⟩
theorem E_X10_areNear {G : GP} {l : Launch} {P : Int → NS → MM → Prop} {l1 : Int} {l2 : Int} {l3 : Int} {w : NS} {M : MM} (h : inR l1 → inR l2 → inR l3 → ∀ X : BX, X.2.1 = l → CX_X10_areNear G X → A_X10_areNear_0 G X P l1 l2 l3 w M) : CT_X10_areNear G l [(2, 41), (0, l1), (0, l2), (0, l3)] w M P :=
  CT.of RX10 "areNear" (by decide +kernel) rfl rfl rfl (Nat.le_of_ble_eq_true rfl) (fun hr X hX C => h (hr (0, l1) (by simp)) (hr (0, l2) (by simp)) (hr (0, l3) (by simp)) X hX C)
def A_X10_begin_0 (G : GP) (X : BX) (P : Int → NS → MM → Prop) (l1 : Int) (w : NS) (M : MM) : Prop := WA true G X (QM G X true 4 P) 2 0 [(2, 41), (0, l1)] [] 0 0 w M
set_option maxHeartbeats 4000000 in
set_option maxRecDepth 100000 in
theorem B_X10_begin_0 {G : GP} {X : BX} {P : Int → NS → MM → Prop} {l1 : Int} {w : NS} {M : MM} (C : CX_X10_begin G X) (h : (0 ≤ l1) ∧ (l1 < 10) ∧ P 0 w (up (up (up M 64 l1 0) 65 l1 1) 66 l1 0)) : A_X10_begin_0 G X P l1 w M := by
  unfold A_X10_begin_0
  refine s_aload_n C dX10_begin_0 rfl ?_
  refine WA.fix (fun hF1 => ?_)
  refine gf_X10_77 C (sh_41 hF1) dX10_begin_1 (fx_41_27 hF1) ?_
  refine s_iload_n C dX10_begin_4 rfl ?_
  refine s_iconst C dX10_begin_5 (by decide) ?_
  obtain ⟨o2, h⟩ := h
  obtain ⟨o3, h⟩ := h
  refine s_zast C (sh_64 hF1) o2 o3 (by decide) (fun _ => by decide) dX10_begin_6 ?_
  refine s_aload_n C dX10_begin_7 rfl ?_
  refine WA.fix (fun hF4 => ?_)
  refine gf_X10_80 C (sh_41 hF1) dX10_begin_8 (fx_41_28 hF4) ?_
  refine s_iload_n C dX10_begin_11 rfl ?_
  refine s_iconst C dX10_begin_12 (by decide) ?_
  refine s_zast C (sh_65 hF4) o2 o3 (by decide) (fun _ => by decide) dX10_begin_13 ?_
  refine s_aload_n C dX10_begin_14 rfl ?_
  refine WA.fix (fun hF5 => ?_)
  refine gf_X10_83 C (sh_41 hF1) dX10_begin_15 (fx_41_29 hF5) ?_
  refine s_iload_n C dX10_begin_18 rfl ?_
  refine s_iconst C dX10_begin_19 (by decide) ?_
  refine s_zast C (sh_66 hF5) o2 o3 (by decide) (fun _ => by decide) dX10_begin_20 ?_
  exact s_vreturn C dX10_begin_21 h
theorem E_X10_begin {G : GP} {l : Launch} {P : Int → NS → MM → Prop} {l1 : Int} {w : NS} {M : MM} (h : inR l1 → ∀ X : BX, X.2.1 = l → CX_X10_begin G X → A_X10_begin_0 G X P l1 w M) : CT_X10_begin G l [(2, 41), (0, l1)] w M P :=
  CT.of RX10 "begin" (by decide +kernel) rfl rfl rfl (Nat.le_of_ble_eq_true rfl) (fun hr X hX C => h (hr (0, l1) (by simp)) X hX C)
def A_X10_join_0 (G : GP) (X : BX) (P : Int → NS → MM → Prop) (l1 : Int) (l2 : Int) (w : NS) (M : MM) : Prop := WA true G X (QM G X true 4 P) 3 0 [(2, 41), (0, l1), (0, l2)] [] 0 0 w M
set_option maxHeartbeats 4000000 in
set_option maxRecDepth 100000 in
theorem B_X10_join_0 {G : GP} {X : BX} {P : Int → NS → MM → Prop} {l1 : Int} {l2 : Int} {w : NS} {M : MM} (C : CX_X10_join G X) (h : (0 ≤ l1) ∧ (l1 < 10) ∧ ((((M 65 l1) = 0) → P 0 w (up (up M 65 l1 0) 66 l1 0)) ∧ ((¬ ((M 65 l1) = 0)) → (((l2 = (M 66 l1)) → P 0 w (up (up M 65 l1 0) 66 l1 0)) ∧ ((¬ (l2 = (M 66 l1))) → P 0 w (up (up M 65 l1 1) 66 l1 0)))))) : A_X10_join_0 G X P l1 l2 w M := by
  unfold A_X10_join_0
  refine s_aload_n C dX10_join_0 rfl ?_
  refine WA.fix (fun hF1 => ?_)
  refine gf_X10_80 C (sh_41 hF1) dX10_join_1 (fx_41_28 hF1) ?_
  refine s_iload_n C dX10_join_4 rfl ?_
  refine s_aload_n C dX10_join_5 rfl ?_
  refine gf_X10_80 C (sh_41 hF1) dX10_join_6 (fx_41_28 hF1) ?_
  refine s_iload_n C dX10_join_9 rfl ?_
  obtain ⟨o2, h⟩ := h
  obtain ⟨o3, h⟩ := h
  refine s_zald (v0 := (M 65 l1)) C (sh_65 hF1) o2 o3 dX10_join_10 rfl ?_
  refine s_ifeq C dX10_join_11 rfl (fun hc => ?_) (fun hc => ?_)
  · have h := h.1 hc
    refine s_iconst C dX10_join_28 (by decide) ?_
    refine s_zast C (sh_65 hF1) o2 o3 (by decide) (fun _ => by decide) dX10_join_29 ?_
    refine s_aload_n C dX10_join_30 rfl ?_
    refine WA.fix (fun hF4 => ?_)
    refine gf_X10_83 C (sh_41 hF1) dX10_join_31 (fx_41_29 hF4) ?_
    refine s_iload_n C dX10_join_34 rfl ?_
    refine s_iconst C dX10_join_35 (by decide) ?_
    refine s_zast C (sh_66 hF4) o2 o3 (by decide) (fun _ => by decide) dX10_join_36 ?_
    exact s_vreturn C dX10_join_37 h
  · have h := h.2 hc
    refine s_iload_n C dX10_join_14 rfl ?_
    refine s_aload_n C dX10_join_15 rfl ?_
    refine gf_X10_83 C (sh_41 hF1) dX10_join_16 (fx_41_29 hF1) ?_
    refine s_iload_n C dX10_join_19 rfl ?_
    refine s_zald (v0 := (M 66 l1)) C (sh_66 hF1) o2 o3 dX10_join_20 rfl ?_
    refine s_icmpeq C dX10_join_21 rfl (fun hc => ?_) (fun hc => ?_)
    · have h := h.1 hc
      refine s_iconst C dX10_join_28 (by decide) ?_
      refine s_zast C (sh_65 hF1) o2 o3 (by decide) (fun _ => by decide) dX10_join_29 ?_
      refine s_aload_n C dX10_join_30 rfl ?_
      refine WA.fix (fun hF5 => ?_)
      refine gf_X10_83 C (sh_41 hF1) dX10_join_31 (fx_41_29 hF5) ?_
      refine s_iload_n C dX10_join_34 rfl ?_
      refine s_iconst C dX10_join_35 (by decide) ?_
      refine s_zast C (sh_66 hF1) o2 o3 (by decide) (fun _ => by decide) dX10_join_36 ?_
      exact s_vreturn C dX10_join_37 h
    · have h := h.2 hc
      refine s_iconst C dX10_join_24 (by decide) ?_
      refine s_goto C dX10_join_25 rfl ?_
      refine s_zast C (sh_65 hF1) o2 o3 (by decide) (fun _ => by decide) dX10_join_29 ?_
      refine s_aload_n C dX10_join_30 rfl ?_
      refine WA.fix (fun hF6 => ?_)
      refine gf_X10_83 C (sh_41 hF1) dX10_join_31 (fx_41_29 hF6) ?_
      refine s_iload_n C dX10_join_34 rfl ?_
      refine s_iconst C dX10_join_35 (by decide) ?_
      refine s_zast C (sh_66 hF1) o2 o3 (by decide) (fun _ => by decide) dX10_join_36 ?_
      exact s_vreturn C dX10_join_37 h
theorem E_X10_join {G : GP} {l : Launch} {P : Int → NS → MM → Prop} {l1 : Int} {l2 : Int} {w : NS} {M : MM} (h : inR l1 → inR l2 → ∀ X : BX, X.2.1 = l → CX_X10_join G X → A_X10_join_0 G X P l1 l2 w M) : CT_X10_join G l [(2, 41), (0, l1), (0, l2)] w M P :=
  CT.of RX10 "join" (by decide +kernel) rfl rfl rfl (Nat.le_of_ble_eq_true rfl) (fun hr X hX C => h (hr (0, l1) (by simp)) (hr (0, l2) (by simp)) X hX C)
def A_X10_number_0 (G : GP) (X : BX) (P : Int → NS → MM → Prop) (l1 : Int) (w : NS) (M : MM) : Prop := WA true G X (QM G X true 0 P) 3 0 [(2, 41), (0, l1), (3, 0)] [] 0 0 w M
def A_X10_number_2 (G : GP) (X : BX) (P : Int → NS → MM → Prop) (l1 : Int) (l2 : Int) (w : NS) (M : MM) : Prop := WA true G X (QM G X true 0 P) 3 2 [(2, 41), (0, l1), (0, l2)] [] 0 0 w M
set_option maxHeartbeats 4000000 in
set_option maxRecDepth 100000 in
theorem B_X10_number_0 {G : GP} {X : BX} {P : Int → NS → MM → Prop} {l1 : Int} {w : NS} {M : MM} (C : CX_X10_number G X) (h : A_X10_number_2 G X P l1 0 w M) : A_X10_number_0 G X P l1 w M := by
  unfold A_X10_number_0
  refine s_iconst C dX10_number_0 (by decide) ?_
  refine s_istore_n (ls' := [(2, 41), (0, l1), (0, 0)]) C dX10_number_1 (by decide) rfl rfl ?_
  exact h
set_option maxHeartbeats 4000000 in
set_option maxRecDepth 100000 in
theorem B_X10_number_2 {G : GP} {X : BX} {P : Int → NS → MM → Prop} {l1 : Int} {l2 : Int} {w : NS} {M : MM} (C : CX_X10_number G X) (h : (((l1 ≤ (M 41 30)) → P l2 w M) ∧ ((¬ (l1 ≤ (M 41 30))) → (0 ≤ (M 41 30)) ∧ ((M 41 30) < 440) ∧ (((¬ (48 ≤ (M 56 (M 41 30)) ∧ (M 56 (M 41 30)) ≤ 57)) → P l2 w M) ∧ (((48 ≤ (M 56 (M 41 30)) ∧ (M 56 (M 41 30)) ≤ 57)) → (inR (10 * l2)) ∧ (inR ((10 * l2) + (M 56 (M 41 30)))) ∧ (inR (((10 * l2) + (M 56 (M 41 30))) - 48)) ∧ (inR ((M 41 30) + 1)) ∧ A_X10_number_2 G X P l1 (((10 * l2) + (M 56 (M 41 30))) - 48) w (up M 41 30 ((M 41 30) + 1))))))) : A_X10_number_2 G X P l1 l2 w M := by
  unfold A_X10_number_2
  refine s_aload_n C dX10_number_2 rfl ?_
  refine WA.fix (fun hF1 => ?_)
  refine gf_X10_226 (v0 := (M 41 30)) C (sh_41 hF1) dX10_number_3 rfl ?_
  refine s_iload_n C dX10_number_6 rfl ?_
  refine s_icmpge C dX10_number_7 rfl (fun hc => ?_) (fun hc => ?_)
  · have h := h.1 hc
    refine s_iload_n C dX10_number_56 rfl ?_
    exact s_ireturn C dX10_number_57 h
  · have h := h.2 hc
    refine s_aload_n C dX10_number_10 rfl ?_
    refine gf_X10_52 C (sh_41 hF1) dX10_number_11 (fx_41_18 hF1) ?_
    refine s_aload_n C dX10_number_14 rfl ?_
    refine gf_X10_226 (v0 := (M 41 30)) C (sh_41 hF1) dX10_number_15 rfl ?_
    obtain ⟨o2, h⟩ := h
    obtain ⟨o3, h⟩ := h
    refine s_iald (v0 := (M 56 (M 41 30))) C (sh_56 hF1) o2 o3 dX10_number_18 rfl ?_
    refine s_callS (av := [(0, (M 56 (M 41 30)))]) (rest := []) (mc := 0) (ms := 0) C dX10_number_19 lk_X10_209 rfl rfl (Nat.le_of_ble_eq_true rfl) (by decide) (by decide) (pc_X10_isDigit) (fun z4 wz4 Mz4 hq => ?_)
    obtain ⟨hq1, hq2, hq3⟩ := hq
    have hq2 := hq2.symm
    have hq3 := hq3.symm
    subst hq1 hq2 hq3
    refine s_ifeq C dX10_number_22 rfl (fun hc => ?_) (fun hc => ?_)
    · have h := h.1 (b2i_0.mp hc)
      refine s_iload_n C dX10_number_56 rfl ?_
      exact s_ireturn C dX10_number_57 h
    · have h := h.2 (b2i_n0 hc)
      refine s_bipush C dX10_number_25 ⟨rfl, by decide, by decide⟩ ?_
      refine s_iload_n C dX10_number_27 rfl ?_
      obtain ⟨o5, h⟩ := h
      refine s_imul C dX10_number_28 o5 ?_
      refine s_aload_n C dX10_number_29 rfl ?_
      refine gf_X10_52 C (sh_41 hF1) dX10_number_30 (fx_41_18 hF1) ?_
      refine s_aload_n C dX10_number_33 rfl ?_
      refine gf_X10_226 (v0 := (M 41 30)) C (sh_41 hF1) dX10_number_34 rfl ?_
      refine s_iald (v0 := (M 56 (M 41 30))) C (sh_56 hF1) o2 o3 dX10_number_37 rfl ?_
      obtain ⟨o6, h⟩ := h
      refine s_iadd C dX10_number_38 o6 ?_
      refine s_bipush C dX10_number_39 ⟨rfl, by decide, by decide⟩ ?_
      obtain ⟨o7, h⟩ := h
      refine s_isub C dX10_number_41 o7 ?_
      refine s_istore_n (ls' := [(2, 41), (0, l1), (0, (((10 * l2) + (M 56 (M 41 30))) - 48))]) C dX10_number_42 (by decide) rfl rfl ?_
      refine s_aload_n C dX10_number_43 rfl ?_
      refine s_dup C (by simp) dX10_number_44 ?_
      refine gf_X10_226 (v0 := (M 41 30)) C (sh_41 hF1) dX10_number_45 rfl ?_
      refine s_iconst C dX10_number_48 (by decide) ?_
      obtain ⟨o8, h⟩ := h
      refine s_iadd C dX10_number_49 o8 ?_
      refine pf_X10_226 C (sh_41 hF1) (fun _ => by decide) dX10_number_50 ?_
      refine s_goto C dX10_number_53 rfl ?_
      exact h
theorem E_X10_number {G : GP} {l : Launch} {P : Int → NS → MM → Prop} {l1 : Int} {w : NS} {M : MM} (h : inR l1 → ∀ X : BX, X.2.1 = l → CX_X10_number G X → A_X10_number_0 G X P l1 w M) : CT_X10_number G l [(2, 41), (0, l1)] w M P :=
  CT.of RX10 "number" (by decide +kernel) rfl rfl rfl (Nat.le_of_ble_eq_true rfl) (fun hr X hX C => h (hr (0, l1) (by simp)) X hX C)
def A_X10_isItem_0 (G : GP) (X : BX) (P : Int → NS → MM → Prop) (l1 : Int) (w : NS) (M : MM) : Prop := WA true G X (QM G X true 0 P) 4 0 [(2, 41), (0, l1), (3, 0), (3, 0)] [] 0 0 w M
set_option maxHeartbeats 4000000 in
set_option maxRecDepth 100000 in
theorem B_X10_isItem_0 {G : GP} {X : BX} {P : Int → NS → MM → Prop} {l1 : Int} {w : NS} {M : MM} (C : CX_X10_isItem G X) (h : ∃ Q2 : Int → NS → MM → Prop, CT_X10_number G X.2.1 [(2, 41), (0, l1)] w M Q2 ∧ ∀ (z2 : Int) (w2 : NS) (M2 : MM), Q2 z2 w2 M2 → (((l1 ≤ (M2 41 30)) → (((l1 ≤ (M2 41 30)) → ∃ Q4 : Int → NS → MM → Prop, CT_X10_timesOf G X.2.1 [(2, 41), (0, z2)] w2 M2 Q4 ∧ ∀ (z4 : Int) (w4 : NS) (M4 : MM), Q4 z4 w4 M4 → (((z4 ≤ 0) → P 0 w4 M4) ∧ ((¬ (z4 ≤ 0)) → P 1 w4 M4))) ∧ ((¬ (l1 ≤ (M2 41 30))) → (0 ≤ (M2 41 30)) ∧ ((M2 41 30) < 440) ∧ ((((M2 56 (M2 41 30)) ≠ 126) → ∃ Q7 : Int → NS → MM → Prop, CT_X10_timesOf G X.2.1 [(2, 41), (0, z2)] w2 M2 Q7 ∧ ∀ (z7 : Int) (w7 : NS) (M7 : MM), Q7 z7 w7 M7 → (((z7 ≤ 0) → P 0 w7 M7) ∧ ((¬ (z7 ≤ 0)) → P 1 w7 M7))) ∧ ((¬ ((M2 56 (M2 41 30)) ≠ 126)) → (inR ((M2 41 30) + 1)) ∧ (0 ≤ ((M2 41 30) + 1)) ∧ (((M2 41 30) + 1) < 440) ∧ (inR ((M2 56 ((M2 41 30) + 1)) - 48)) ∧ (inR ((M2 41 30) + 3)) ∧ ∃ Q13 : Int → NS → MM → Prop, CT_X10_number G X.2.1 [(2, 41), (0, l1)] w2 (up M2 41 30 ((M2 41 30) + 3)) Q13 ∧ ∀ (z13 : Int) (w13 : NS) (M13 : MM), Q13 z13 w13 M13 → ∃ Q15 : Int → NS → MM → Prop, CT_X10_areNear G X.2.1 [(2, 41), (0, z2), (0, z13), (0, ((M2 56 ((M2 41 30) + 1)) - 48))] w13 M13 Q15 ∧ ∀ (z15 : Int) (w15 : NS) (M15 : MM), Q15 z15 w15 M15 → (z15 = 0 ∨ z15 = 1) ∧ P z15 w15 M15))))) ∧ ((¬ (l1 ≤ (M2 41 30))) → (0 ≤ (M2 41 30)) ∧ ((M2 41 30) < 440) ∧ ((((M2 56 (M2 41 30)) ≠ 62) → (((l1 ≤ (M2 41 30)) → ∃ Q19 : Int → NS → MM → Prop, CT_X10_timesOf G X.2.1 [(2, 41), (0, z2)] w2 M2 Q19 ∧ ∀ (z19 : Int) (w19 : NS) (M19 : MM), Q19 z19 w19 M19 → (((z19 ≤ 0) → P 0 w19 M19) ∧ ((¬ (z19 ≤ 0)) → P 1 w19 M19))) ∧ ((¬ (l1 ≤ (M2 41 30))) → ((((M2 56 (M2 41 30)) ≠ 126) → ∃ Q20 : Int → NS → MM → Prop, CT_X10_timesOf G X.2.1 [(2, 41), (0, z2)] w2 M2 Q20 ∧ ∀ (z20 : Int) (w20 : NS) (M20 : MM), Q20 z20 w20 M20 → (((z20 ≤ 0) → P 0 w20 M20) ∧ ((¬ (z20 ≤ 0)) → P 1 w20 M20))) ∧ ((¬ ((M2 56 (M2 41 30)) ≠ 126)) → (inR ((M2 41 30) + 1)) ∧ (0 ≤ ((M2 41 30) + 1)) ∧ (((M2 41 30) + 1) < 440) ∧ (inR ((M2 56 ((M2 41 30) + 1)) - 48)) ∧ (inR ((M2 41 30) + 3)) ∧ ∃ Q26 : Int → NS → MM → Prop, CT_X10_number G X.2.1 [(2, 41), (0, l1)] w2 (up M2 41 30 ((M2 41 30) + 3)) Q26 ∧ ∀ (z26 : Int) (w26 : NS) (M26 : MM), Q26 z26 w26 M26 → ∃ Q28 : Int → NS → MM → Prop, CT_X10_areNear G X.2.1 [(2, 41), (0, z2), (0, z26), (0, ((M2 56 ((M2 41 30) + 1)) - 48))] w26 M26 Q28 ∧ ∀ (z28 : Int) (w28 : NS) (M28 : MM), Q28 z28 w28 M28 → (z28 = 0 ∨ z28 = 1) ∧ P z28 w28 M28))))) ∧ ((¬ ((M2 56 (M2 41 30)) ≠ 62)) → (inR ((M2 41 30) + 1)) ∧ ∃ Q31 : Int → NS → MM → Prop, CT_X10_timesOf G X.2.1 [(2, 41), (0, z2)] w2 (up M2 41 30 ((M2 41 30) + 1)) Q31 ∧ ∀ (z31 : Int) (w31 : NS) (M31 : MM), Q31 z31 w31 M31 → ∃ Q33 : Int → NS → MM → Prop, CT_X10_number G X.2.1 [(2, 41), (0, l1)] w31 M31 Q33 ∧ ∀ (z33 : Int) (w33 : NS) (M33 : MM), Q33 z33 w33 M33 → (((z31 ≤ z33) → P 0 w33 M33) ∧ ((¬ (z31 ≤ z33)) → P 1 w33 M33))))))) : A_X10_isItem_0 G X P l1 w M := by
  unfold A_X10_isItem_0
  refine s_aload_n C dX10_isItem_0 rfl ?_
  refine s_iload_n C dX10_isItem_1 rfl ?_
  refine WA.fix (fun hF1 => ?_)
  obtain ⟨Q2, hKQ2, h⟩ := h
  refine s_callV (ci := 10) (av := [(0, l1)]) (rest := []) (mc := 0) (ms := 0) C dX10_isItem_2 lk_X10_229 (sh_41 hF1) (by decide) rfl rfl rfl (Nat.le_of_ble_eq_true rfl) (by decide) (by decide) hKQ2 (fun z2 w2 M2 hq => ?_)
  have h := h z2 w2 M2 hq
  refine s_istore_n (ls' := [(2, 41), (0, l1), (0, z2), (3, 0)]) C dX10_isItem_5 (by decide) rfl rfl ?_
  refine s_aload_n C dX10_isItem_6 rfl ?_
  refine WA.fix (fun hF3 => ?_)
  refine gf_X10_226 (v0 := (M2 41 30)) C (sh_41 hF3) dX10_isItem_7 rfl ?_
  refine s_iload_n C dX10_isItem_10 rfl ?_
  refine s_icmpge C dX10_isItem_11 rfl (fun hc => ?_) (fun hc => ?_)
  · have h := h.1 hc
    refine s_aload_n C dX10_isItem_57 rfl ?_
    refine gf_X10_226 (v0 := (M2 41 30)) C (sh_41 hF3) dX10_isItem_58 rfl ?_
    refine s_iload_n C dX10_isItem_61 rfl ?_
    refine s_icmpge C dX10_isItem_62 rfl (fun hc => ?_) (fun hc => ?_)
    · have h := h.1 hc
      refine s_aload_n C dX10_isItem_116 rfl ?_
      refine s_iload_n C dX10_isItem_117 rfl ?_
      obtain ⟨Q4, hKQ4, h⟩ := h
      refine s_callV (ci := 10) (av := [(0, z2)]) (rest := []) (mc := 0) (ms := 0) C dX10_isItem_118 lk_X10_232 (sh_41 hF3) (by decide) rfl rfl rfl (Nat.le_of_ble_eq_true rfl) (by decide) (by decide) hKQ4 (fun z4 w4 M4 hq => ?_)
      have h := h z4 w4 M4 hq
      refine s_ifle C dX10_isItem_121 rfl (fun hc => ?_) (fun hc => ?_)
      · have h := h.1 hc
        refine s_iconst C dX10_isItem_128 (by decide) ?_
        exact s_zreturn C dX10_isItem_129 (by decide) h
      · have h := h.2 hc
        refine s_iconst C dX10_isItem_124 (by decide) ?_
        refine s_goto C dX10_isItem_125 rfl ?_
        exact s_zreturn C dX10_isItem_129 (by decide) h
    · have h := h.2 hc
      refine s_aload_n C dX10_isItem_65 rfl ?_
      refine gf_X10_52 C (sh_41 hF3) dX10_isItem_66 (fx_41_18 hF3) ?_
      refine s_aload_n C dX10_isItem_69 rfl ?_
      refine gf_X10_226 (v0 := (M2 41 30)) C (sh_41 hF3) dX10_isItem_70 rfl ?_
      obtain ⟨o5, h⟩ := h
      obtain ⟨o6, h⟩ := h
      refine s_iald (v0 := (M2 56 (M2 41 30))) C (sh_56 hF3) o5 o6 dX10_isItem_73 rfl ?_
      refine s_bipush C dX10_isItem_74 ⟨rfl, by decide, by decide⟩ ?_
      refine s_icmpne C dX10_isItem_76 rfl (fun hc => ?_) (fun hc => ?_)
      · have h := h.1 hc
        refine s_aload_n C dX10_isItem_116 rfl ?_
        refine s_iload_n C dX10_isItem_117 rfl ?_
        obtain ⟨Q7, hKQ7, h⟩ := h
        refine s_callV (ci := 10) (av := [(0, z2)]) (rest := []) (mc := 0) (ms := 0) C dX10_isItem_118 lk_X10_232 (sh_41 hF3) (by decide) rfl rfl rfl (Nat.le_of_ble_eq_true rfl) (by decide) (by decide) hKQ7 (fun z7 w7 M7 hq => ?_)
        have h := h z7 w7 M7 hq
        refine s_ifle C dX10_isItem_121 rfl (fun hc => ?_) (fun hc => ?_)
        · have h := h.1 hc
          refine s_iconst C dX10_isItem_128 (by decide) ?_
          exact s_zreturn C dX10_isItem_129 (by decide) h
        · have h := h.2 hc
          refine s_iconst C dX10_isItem_124 (by decide) ?_
          refine s_goto C dX10_isItem_125 rfl ?_
          exact s_zreturn C dX10_isItem_129 (by decide) h
      · have h := h.2 hc
        refine s_aload_n C dX10_isItem_79 rfl ?_
        refine gf_X10_52 C (sh_41 hF3) dX10_isItem_80 (fx_41_18 hF3) ?_
        refine s_aload_n C dX10_isItem_83 rfl ?_
        refine gf_X10_226 (v0 := (M2 41 30)) C (sh_41 hF3) dX10_isItem_84 rfl ?_
        refine s_iconst C dX10_isItem_87 (by decide) ?_
        obtain ⟨o8, h⟩ := h
        refine s_iadd C dX10_isItem_88 o8 ?_
        obtain ⟨o9, h⟩ := h
        obtain ⟨o10, h⟩ := h
        refine s_iald (v0 := (M2 56 ((M2 41 30) + 1))) C (sh_56 hF3) o9 o10 dX10_isItem_89 rfl ?_
        refine s_bipush C dX10_isItem_90 ⟨rfl, by decide, by decide⟩ ?_
        obtain ⟨o11, h⟩ := h
        refine s_isub C dX10_isItem_92 o11 ?_
        refine s_istore_n (ls' := [(2, 41), (0, l1), (0, z2), (0, ((M2 56 ((M2 41 30) + 1)) - 48))]) C dX10_isItem_93 (by decide) rfl rfl ?_
        refine s_aload_n C dX10_isItem_94 rfl ?_
        refine s_dup C (by simp) dX10_isItem_95 ?_
        refine gf_X10_226 (v0 := (M2 41 30)) C (sh_41 hF3) dX10_isItem_96 rfl ?_
        refine s_iconst C dX10_isItem_99 (by decide) ?_
        obtain ⟨o12, h⟩ := h
        refine s_iadd C dX10_isItem_100 o12 ?_
        refine pf_X10_226 C (sh_41 hF3) (fun _ => by decide) dX10_isItem_101 ?_
        refine s_aload_n C dX10_isItem_104 rfl ?_
        refine s_iload_n C dX10_isItem_105 rfl ?_
        refine s_aload_n C dX10_isItem_106 rfl ?_
        refine s_iload_n C dX10_isItem_107 rfl ?_
        obtain ⟨Q13, hKQ13, h⟩ := h
        refine s_callV (ci := 10) (av := [(0, l1)]) (rest := [(0, z2), (2, 41)]) (mc := 0) (ms := 0) C dX10_isItem_108 lk_X10_229 (sh_41 hF3) (by decide) rfl rfl rfl (Nat.le_of_ble_eq_true rfl) (by decide) (by decide) hKQ13 (fun z13 w13 M13 hq => ?_)
        have h := h z13 w13 M13 hq
        refine s_iload_n C dX10_isItem_111 rfl ?_
        refine WA.fix (fun hF14 => ?_)
        obtain ⟨Q15, hKQ15, h⟩ := h
        refine s_callV (ci := 10) (av := [(0, z2), (0, z13), (0, ((M2 56 ((M2 41 30) + 1)) - 48))]) (rest := []) (mc := 0) (ms := 0) C dX10_isItem_112 lk_X10_235 (sh_41 hF14) (by decide) rfl rfl rfl (Nat.le_of_ble_eq_true rfl) (by decide) (by decide) hKQ15 (fun z15 w15 M15 hq => ?_)
        have h := h z15 w15 M15 hq
        obtain ⟨o16, h⟩ := h
        exact s_zreturn C dX10_isItem_115 o16 h
  · have h := h.2 hc
    refine s_aload_n C dX10_isItem_14 rfl ?_
    refine gf_X10_52 C (sh_41 hF3) dX10_isItem_15 (fx_41_18 hF3) ?_
    refine s_aload_n C dX10_isItem_18 rfl ?_
    refine gf_X10_226 (v0 := (M2 41 30)) C (sh_41 hF3) dX10_isItem_19 rfl ?_
    obtain ⟨o17, h⟩ := h
    obtain ⟨o18, h⟩ := h
    refine s_iald (v0 := (M2 56 (M2 41 30))) C (sh_56 hF3) o17 o18 dX10_isItem_22 rfl ?_
    refine s_bipush C dX10_isItem_23 ⟨rfl, by decide, by decide⟩ ?_
    refine s_icmpne C dX10_isItem_25 rfl (fun hc => ?_) (fun hc => ?_)
    · have h := h.1 hc
      refine s_aload_n C dX10_isItem_57 rfl ?_
      refine gf_X10_226 (v0 := (M2 41 30)) C (sh_41 hF3) dX10_isItem_58 rfl ?_
      refine s_iload_n C dX10_isItem_61 rfl ?_
      refine s_icmpge C dX10_isItem_62 rfl (fun hc => ?_) (fun hc => ?_)
      · have h := h.1 hc
        refine s_aload_n C dX10_isItem_116 rfl ?_
        refine s_iload_n C dX10_isItem_117 rfl ?_
        obtain ⟨Q19, hKQ19, h⟩ := h
        refine s_callV (ci := 10) (av := [(0, z2)]) (rest := []) (mc := 0) (ms := 0) C dX10_isItem_118 lk_X10_232 (sh_41 hF3) (by decide) rfl rfl rfl (Nat.le_of_ble_eq_true rfl) (by decide) (by decide) hKQ19 (fun z19 w19 M19 hq => ?_)
        have h := h z19 w19 M19 hq
        refine s_ifle C dX10_isItem_121 rfl (fun hc => ?_) (fun hc => ?_)
        · have h := h.1 hc
          refine s_iconst C dX10_isItem_128 (by decide) ?_
          exact s_zreturn C dX10_isItem_129 (by decide) h
        · have h := h.2 hc
          refine s_iconst C dX10_isItem_124 (by decide) ?_
          refine s_goto C dX10_isItem_125 rfl ?_
          exact s_zreturn C dX10_isItem_129 (by decide) h
      · have h := h.2 hc
        refine s_aload_n C dX10_isItem_65 rfl ?_
        refine gf_X10_52 C (sh_41 hF3) dX10_isItem_66 (fx_41_18 hF3) ?_
        refine s_aload_n C dX10_isItem_69 rfl ?_
        refine gf_X10_226 (v0 := (M2 41 30)) C (sh_41 hF3) dX10_isItem_70 rfl ?_
        refine s_iald (v0 := (M2 56 (M2 41 30))) C (sh_56 hF3) o17 o18 dX10_isItem_73 rfl ?_
        refine s_bipush C dX10_isItem_74 ⟨rfl, by decide, by decide⟩ ?_
        refine s_icmpne C dX10_isItem_76 rfl (fun hc => ?_) (fun hc => ?_)
        · have h := h.1 hc
          refine s_aload_n C dX10_isItem_116 rfl ?_
          refine s_iload_n C dX10_isItem_117 rfl ?_
          obtain ⟨Q20, hKQ20, h⟩ := h
          refine s_callV (ci := 10) (av := [(0, z2)]) (rest := []) (mc := 0) (ms := 0) C dX10_isItem_118 lk_X10_232 (sh_41 hF3) (by decide) rfl rfl rfl (Nat.le_of_ble_eq_true rfl) (by decide) (by decide) hKQ20 (fun z20 w20 M20 hq => ?_)
          have h := h z20 w20 M20 hq
          refine s_ifle C dX10_isItem_121 rfl (fun hc => ?_) (fun hc => ?_)
          · have h := h.1 hc
            refine s_iconst C dX10_isItem_128 (by decide) ?_
            exact s_zreturn C dX10_isItem_129 (by decide) h
          · have h := h.2 hc
            refine s_iconst C dX10_isItem_124 (by decide) ?_
            refine s_goto C dX10_isItem_125 rfl ?_
            exact s_zreturn C dX10_isItem_129 (by decide) h
        · have h := h.2 hc
          refine s_aload_n C dX10_isItem_79 rfl ?_
          refine gf_X10_52 C (sh_41 hF3) dX10_isItem_80 (fx_41_18 hF3) ?_
          refine s_aload_n C dX10_isItem_83 rfl ?_
          refine gf_X10_226 (v0 := (M2 41 30)) C (sh_41 hF3) dX10_isItem_84 rfl ?_
          refine s_iconst C dX10_isItem_87 (by decide) ?_
          obtain ⟨o21, h⟩ := h
          refine s_iadd C dX10_isItem_88 o21 ?_
          obtain ⟨o22, h⟩ := h
          obtain ⟨o23, h⟩ := h
          refine s_iald (v0 := (M2 56 ((M2 41 30) + 1))) C (sh_56 hF3) o22 o23 dX10_isItem_89 rfl ?_
          refine s_bipush C dX10_isItem_90 ⟨rfl, by decide, by decide⟩ ?_
          obtain ⟨o24, h⟩ := h
          refine s_isub C dX10_isItem_92 o24 ?_
          refine s_istore_n (ls' := [(2, 41), (0, l1), (0, z2), (0, ((M2 56 ((M2 41 30) + 1)) - 48))]) C dX10_isItem_93 (by decide) rfl rfl ?_
          refine s_aload_n C dX10_isItem_94 rfl ?_
          refine s_dup C (by simp) dX10_isItem_95 ?_
          refine gf_X10_226 (v0 := (M2 41 30)) C (sh_41 hF3) dX10_isItem_96 rfl ?_
          refine s_iconst C dX10_isItem_99 (by decide) ?_
          obtain ⟨o25, h⟩ := h
          refine s_iadd C dX10_isItem_100 o25 ?_
          refine pf_X10_226 C (sh_41 hF3) (fun _ => by decide) dX10_isItem_101 ?_
          refine s_aload_n C dX10_isItem_104 rfl ?_
          refine s_iload_n C dX10_isItem_105 rfl ?_
          refine s_aload_n C dX10_isItem_106 rfl ?_
          refine s_iload_n C dX10_isItem_107 rfl ?_
          obtain ⟨Q26, hKQ26, h⟩ := h
          refine s_callV (ci := 10) (av := [(0, l1)]) (rest := [(0, z2), (2, 41)]) (mc := 0) (ms := 0) C dX10_isItem_108 lk_X10_229 (sh_41 hF3) (by decide) rfl rfl rfl (Nat.le_of_ble_eq_true rfl) (by decide) (by decide) hKQ26 (fun z26 w26 M26 hq => ?_)
          have h := h z26 w26 M26 hq
          refine s_iload_n C dX10_isItem_111 rfl ?_
          refine WA.fix (fun hF27 => ?_)
          obtain ⟨Q28, hKQ28, h⟩ := h
          refine s_callV (ci := 10) (av := [(0, z2), (0, z26), (0, ((M2 56 ((M2 41 30) + 1)) - 48))]) (rest := []) (mc := 0) (ms := 0) C dX10_isItem_112 lk_X10_235 (sh_41 hF27) (by decide) rfl rfl rfl (Nat.le_of_ble_eq_true rfl) (by decide) (by decide) hKQ28 (fun z28 w28 M28 hq => ?_)
          have h := h z28 w28 M28 hq
          obtain ⟨o29, h⟩ := h
          exact s_zreturn C dX10_isItem_115 o29 h
    · have h := h.2 hc
      refine s_aload_n C dX10_isItem_28 rfl ?_
      refine s_dup C (by simp) dX10_isItem_29 ?_
      refine gf_X10_226 (v0 := (M2 41 30)) C (sh_41 hF3) dX10_isItem_30 rfl ?_
      refine s_iconst C dX10_isItem_33 (by decide) ?_
      obtain ⟨o30, h⟩ := h
      refine s_iadd C dX10_isItem_34 o30 ?_
      refine pf_X10_226 C (sh_41 hF3) (fun _ => by decide) dX10_isItem_35 ?_
      refine s_aload_n C dX10_isItem_38 rfl ?_
      refine s_iload_n C dX10_isItem_39 rfl ?_
      obtain ⟨Q31, hKQ31, h⟩ := h
      refine s_callV (ci := 10) (av := [(0, z2)]) (rest := []) (mc := 0) (ms := 0) C dX10_isItem_40 lk_X10_232 (sh_41 hF3) (by decide) rfl rfl rfl (Nat.le_of_ble_eq_true rfl) (by decide) (by decide) hKQ31 (fun z31 w31 M31 hq => ?_)
      have h := h z31 w31 M31 hq
      refine s_aload_n C dX10_isItem_43 rfl ?_
      refine s_iload_n C dX10_isItem_44 rfl ?_
      refine WA.fix (fun hF32 => ?_)
      obtain ⟨Q33, hKQ33, h⟩ := h
      refine s_callV (ci := 10) (av := [(0, l1)]) (rest := [(0, z31)]) (mc := 0) (ms := 0) C dX10_isItem_45 lk_X10_229 (sh_41 hF32) (by decide) rfl rfl rfl (Nat.le_of_ble_eq_true rfl) (by decide) (by decide) hKQ33 (fun z33 w33 M33 hq => ?_)
      have h := h z33 w33 M33 hq
      refine s_icmple C dX10_isItem_48 rfl (fun hc => ?_) (fun hc => ?_)
      · have h := h.1 hc
        refine s_iconst C dX10_isItem_55 (by decide) ?_
        exact s_zreturn C dX10_isItem_56 (by decide) h
      · have h := h.2 hc
        refine s_iconst C dX10_isItem_51 (by decide) ?_
        refine s_goto C dX10_isItem_52 rfl ?_
        exact s_zreturn C dX10_isItem_56 (by decide) h
theorem E_X10_isItem {G : GP} {l : Launch} {P : Int → NS → MM → Prop} {l1 : Int} {w : NS} {M : MM} (h : inR l1 → ∀ X : BX, X.2.1 = l → CX_X10_isItem G X → A_X10_isItem_0 G X P l1 w M) : CT_X10_isItem G l [(2, 41), (0, l1)] w M P :=
  CT.of RX10 "isItem" (by decide +kernel) rfl rfl rfl (Nat.le_of_ble_eq_true rfl) (fun hr X hX C => h (hr (0, l1) (by simp)) X hX C)
