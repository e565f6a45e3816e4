def A_X10_init_0 (G : GP) (X : BX) (P : Int → NS → MM → Prop) (l0 : Int) (rc rs : Nat) (w : NS) (M : MM) : Prop := WA false G X (QM G X false 4 P) 2 0 [(2, l0), (3, 0)] [] rc rs w M
def A_X10_init_37 (G : GP) (X : BX) (P : Int → NS → MM → Prop) (l0 : Int) (rc rs : Nat) (w : NS) (M : MM) : Prop := WA false G X (QM G X false 4 P) 2 37 [(2, l0), (3, 0)] [] rc rs w M
def A_X10_init_69 (G : GP) (X : BX) (P : Int → NS → MM → Prop) (l0 : Int) (rc rs : Nat) (w : NS) (M : MM) : Prop := WA false G X (QM G X false 4 P) 2 69 [(2, l0), (3, 0)] [] rc rs w M
def A_X10_init_101 (G : GP) (X : BX) (P : Int → NS → MM → Prop) (l0 : Int) (rc rs : Nat) (w : NS) (M : MM) : Prop := WA false G X (QM G X false 4 P) 2 101 [(2, l0), (3, 0)] [] rc rs w M
def A_X10_init_134 (G : GP) (X : BX) (P : Int → NS → MM → Prop) (l0 : Int) (rc rs : Nat) (w : NS) (M : MM) : Prop := WA false G X (QM G X false 4 P) 2 134 [(2, l0), (3, 0)] [] rc rs w M
def A_X10_init_166 (G : GP) (X : BX) (P : Int → NS → MM → Prop) (l0 : Int) (rc rs : Nat) (w : NS) (M : MM) : Prop := WA false G X (QM G X false 4 P) 2 166 [(2, l0), (3, 0)] [] rc rs w M
def A_X10_init_198 (G : GP) (X : BX) (P : Int → NS → MM → Prop) (l0 : Int) (rc rs : Nat) (w : NS) (M : MM) : Prop := WA false G X (QM G X false 4 P) 2 198 [(2, l0), (3, 0)] [] rc rs w M
def A_X10_init_231 (G : GP) (X : BX) (P : Int → NS → MM → Prop) (l0 : Int) (rc rs : Nat) (w : NS) (M : MM) : Prop := WA false G X (QM G X false 4 P) 2 231 [(2, l0), (3, 0)] [] rc rs w M
def A_X10_init_263 (G : GP) (X : BX) (P : Int → NS → MM → Prop) (l0 : Int) (rc rs : Nat) (w : NS) (M : MM) : Prop := WA false G X (QM G X false 4 P) 2 263 [(2, l0), (3, 0)] [] rc rs w M
def A_X10_init_295 (G : GP) (X : BX) (P : Int → NS → MM → Prop) (l0 : Int) (rc rs : Nat) (w : NS) (M : MM) : Prop := WA false G X (QM G X false 4 P) 2 295 [(2, l0), (3, 0)] [] rc rs w M
def A_X10_init_327 (G : GP) (X : BX) (P : Int → NS → MM → Prop) (l0 : Int) (rc rs : Nat) (w : NS) (M : MM) : Prop := WA false G X (QM G X false 4 P) 2 327 [(2, l0), (3, 0)] [] rc rs w M
def A_X10_init_344 (G : GP) (X : BX) (P : Int → NS → MM → Prop) (l0 : Int) (l1 : Int) (rc rs : Nat) (w : NS) (M : MM) : Prop := WA false G X (QM G X false 4 P) 2 344 [(2, l0), (0, l1)] [] rc rs w M
def A_X10_init_430 (G : GP) (X : BX) (P : Int → NS → MM → Prop) (l0 : Int) (l1 : Int) (rc rs : Nat) (w : NS) (M : MM) : Prop := WA false G X (QM G X false 4 P) 2 430 [(2, l0), (0, l1)] [] rc rs w M
def A_X10_init_451 (G : GP) (X : BX) (P : Int → NS → MM → Prop) (l0 : Int) (l1 : Int) (rc rs : Nat) (w : NS) (M : MM) : Prop := WA false G X (QM G X false 4 P) 2 451 [(2, l0), (0, l1)] [] rc rs w M
set_option maxHeartbeats 4000000 in
set_option maxRecDepth 100000 in
theorem B_X10_init_0 {G : GP} {X : BX} {P : Int → NS → MM → Prop} {l0 : Int} {rc rs : Nat} {w : NS} {M : MM} (C : CX_X10_init G X) (h : (w.2 l0 = (11, 51)) ∧ ∀ w2 : NS, w2 = (w.1 + 1, us w.2 w.1 12 480) → (l0 < (w.1 : Int)) ∧ ∀ M8 : MM, M8 = (up M l0 0 (w.1 : Int)) → ∀ w9 : NS, w9 = (w2.1 + 1, us w2.2 w2.1 12 8) → ∀ M16 : MM, M16 = (up M8 l0 1 (w2.1 : Int)) → ∀ w17 : NS, w17 = (w9.1 + 1, us w9.2 w9.1 12 8) → ∀ M26 : MM, M26 = (up M16 l0 2 (w9.1 : Int)) → ∀ w27 : NS, w27 = (w17.1 + 1, us w17.2 w17.1 12 8) → ∀ M38 : MM, M38 = (up M26 l0 3 (w17.1 : Int)) → A_X10_init_37 G X P l0 (rc + 0) (rs + 0) w27 M38) : A_X10_init_0 G X P l0 (rc + 4) (rs + 504) w M := by
  unfold A_X10_init_0
  refine s_aload_n C (d_of DX10_init 0 rfl) rfl ?_
  obtain ⟨o1, h⟩ := h
  refine s_objInit C o1 (by decide) (mG (wd_769) rfl) (mG (wd_81) rfl) (mG (wd_82) rfl) (by decide) (by decide) (Nat.le_of_ble_eq_true rfl) (d_of DX10_init 1 rfl) ?_
  refine s_aload_n C (d_of DX10_init 2 rfl) rfl ?_
  refine s_sipush C (d_of DX10_init 3 rfl) ⟨rfl, by decide, by decide⟩ ?_
  refine na_12 (N := 480) C rfl (by decide) (d_of DX10_init 4 rfl) ?_
  refine WA.nmW (fun w2 ew2 => ?_)
  have h := h _ ew2
  obtain ⟨o3, h⟩ := h
  have k4 : w2.2 l0 = (11, 51) := by rw [ew2]; exact us_ne o1 (Int.ne_of_lt o3)
  have b5 : l0 < (w2.1 : Int) := by have := o3; rw [ew2]; show _ < ((w.1 + 1 : Nat) : Int); omega
  have k6 : w2.2 (w.1 : Int) = (12, 480) := by rw [ew2]; exact us_new _ _ _ _
  have b7 : (w.1 : Int) < (w2.1 : Int) := by rw [ew2]; show _ < ((w.1 + 1 : Nat) : Int); omega
  refine pf_X10_7 C k4 (fun e => by cases e) (d_of DX10_init 5 rfl) ?_
  refine WA.nmM (fun M8 eM8 => ?_)
  have h := h _ eM8
  refine s_aload_n C (d_of DX10_init 6 rfl) rfl ?_
  refine s_bipush C (d_of DX10_init 7 rfl) ⟨rfl, by decide, by decide⟩ ?_
  refine na_12 (N := 8) C rfl (by decide) (d_of DX10_init 8 rfl) ?_
  refine WA.nmW (fun w9 ew9 => ?_)
  have h := h _ ew9
  have k10 : w9.2 l0 = (11, 51) := by rw [ew9]; exact us_ne k4 (Int.ne_of_lt b5)
  have b11 : l0 < (w9.1 : Int) := by have := b5; rw [ew9]; show _ < ((w2.1 + 1 : Nat) : Int); omega
  have k12 : w9.2 (w.1 : Int) = (12, 480) := by rw [ew9]; exact us_ne k6 (Int.ne_of_lt b7)
  have b13 : (w.1 : Int) < (w9.1 : Int) := by have := b7; rw [ew9]; show _ < ((w2.1 + 1 : Nat) : Int); omega
  have k14 : w9.2 (w2.1 : Int) = (12, 8) := by rw [ew9]; exact us_new _ _ _ _
  have b15 : (w2.1 : Int) < (w9.1 : Int) := by rw [ew9]; show _ < ((w2.1 + 1 : Nat) : Int); omega
  refine pf_X10_13 C k10 (fun e => by cases e) (d_of DX10_init 9 rfl) ?_
  refine WA.nmM (fun M16 eM16 => ?_)
  have h := h _ eM16
  refine s_aload_n C (d_of DX10_init 10 rfl) rfl ?_
  refine s_bipush C (d_of DX10_init 11 rfl) ⟨rfl, by decide, by decide⟩ ?_
  refine na_12 (N := 8) C rfl (by decide) (d_of DX10_init 12 rfl) ?_
  refine WA.nmW (fun w17 ew17 => ?_)
  have h := h _ ew17
  have k18 : w17.2 l0 = (11, 51) := by rw [ew17]; exact us_ne k10 (Int.ne_of_lt b11)
  have b19 : l0 < (w17.1 : Int) := by have := b11; rw [ew17]; show _ < ((w9.1 + 1 : Nat) : Int); omega
  have k20 : w17.2 (w.1 : Int) = (12, 480) := by rw [ew17]; exact us_ne k12 (Int.ne_of_lt b13)
  have b21 : (w.1 : Int) < (w17.1 : Int) := by have := b13; rw [ew17]; show _ < ((w9.1 + 1 : Nat) : Int); omega
  have k22 : w17.2 (w2.1 : Int) = (12, 8) := by rw [ew17]; exact us_ne k14 (Int.ne_of_lt b15)
  have b23 : (w2.1 : Int) < (w17.1 : Int) := by have := b15; rw [ew17]; show _ < ((w9.1 + 1 : Nat) : Int); omega
  have k24 : w17.2 (w9.1 : Int) = (12, 8) := by rw [ew17]; exact us_new _ _ _ _
  have b25 : (w9.1 : Int) < (w17.1 : Int) := by rw [ew17]; show _ < ((w9.1 + 1 : Nat) : Int); omega
  refine pf_X10_16 C k18 (fun e => by cases e) (d_of DX10_init 13 rfl) ?_
  refine WA.nmM (fun M26 eM26 => ?_)
  have h := h _ eM26
  refine s_aload_n C (d_of DX10_init 14 rfl) rfl ?_
  refine s_bipush C (d_of DX10_init 15 rfl) ⟨rfl, by decide, by decide⟩ ?_
  refine na_12 (N := 8) C rfl (by decide) (d_of DX10_init 16 rfl) ?_
  refine WA.nmW (fun w27 ew27 => ?_)
  have h := h _ ew27
  have k28 : w27.2 l0 = (11, 51) := by rw [ew27]; exact us_ne k18 (Int.ne_of_lt b19)
  have b29 : l0 < (w27.1 : Int) := by have := b19; rw [ew27]; show _ < ((w17.1 + 1 : Nat) : Int); omega
  have k30 : w27.2 (w.1 : Int) = (12, 480) := by rw [ew27]; exact us_ne k20 (Int.ne_of_lt b21)
  have b31 : (w.1 : Int) < (w27.1 : Int) := by have := b21; rw [ew27]; show _ < ((w17.1 + 1 : Nat) : Int); omega
  have k32 : w27.2 (w2.1 : Int) = (12, 8) := by rw [ew27]; exact us_ne k22 (Int.ne_of_lt b23)
  have b33 : (w2.1 : Int) < (w27.1 : Int) := by have := b23; rw [ew27]; show _ < ((w17.1 + 1 : Nat) : Int); omega
  have k34 : w27.2 (w9.1 : Int) = (12, 8) := by rw [ew27]; exact us_ne k24 (Int.ne_of_lt b25)
  have b35 : (w9.1 : Int) < (w27.1 : Int) := by have := b25; rw [ew27]; show _ < ((w17.1 + 1 : Nat) : Int); omega
  have k36 : w27.2 (w17.1 : Int) = (12, 8) := by rw [ew27]; exact us_new _ _ _ _
  have b37 : (w17.1 : Int) < (w27.1 : Int) := by rw [ew27]; show _ < ((w17.1 + 1 : Nat) : Int); omega
  refine pf_X10_19 C k28 (fun e => by cases e) (d_of DX10_init 17 rfl) ?_
  refine WA.nmM (fun M38 eM38 => ?_)
  have h := h _ eM38
  exact h
set_option maxHeartbeats 4000000 in
set_option maxRecDepth 100000 in
theorem B_X10_init_37 {G : GP} {X : BX} {P : Int → NS → MM → Prop} {l0 : Int} {rc rs : Nat} {w : NS} {M : MM} (C : CX_X10_init G X) (h : ∀ w1 : NS, w1 = (w.1 + 1, us w.2 w.1 12 24) → (w1.2 l0 = (11, 51)) ∧ ∀ M5 : MM, M5 = (up M l0 5 (w.1 : Int)) → ∀ w6 : NS, w6 = (w1.1 + 1, us w1.2 w1.1 12 24) → (l0 < (w1.1 : Int)) ∧ ∀ M14 : MM, M14 = (up M5 l0 6 (w1.1 : Int)) → ∀ w15 : NS, w15 = (w6.1 + 1, us w6.2 w6.1 12 24) → ∀ M24 : MM, M24 = (up M14 l0 7 (w6.1 : Int)) → ∀ w25 : NS, w25 = (w15.1 + 1, us w15.2 w15.1 12 24) → ∀ M36 : MM, M36 = (up M24 l0 8 (w15.1 : Int)) → A_X10_init_69 G X P l0 (rc + 0) (rs + 0) w25 M36) : A_X10_init_37 G X P l0 (rc + 4) (rs + 96) w M := by
  unfold A_X10_init_37
  refine s_aload_n C (d_of DX10_init 18 rfl) rfl ?_
  refine s_bipush C (d_of DX10_init 19 rfl) ⟨rfl, by decide, by decide⟩ ?_
  refine na_12 (N := 24) C rfl (by decide) (d_of DX10_init 20 rfl) ?_
  refine WA.nmW (fun w1 ew1 => ?_)
  have h := h _ ew1
  have k2 : w1.2 (w.1 : Int) = (12, 24) := by rw [ew1]; exact us_new _ _ _ _
  have b3 : (w.1 : Int) < (w1.1 : Int) := by rw [ew1]; show _ < ((w.1 + 1 : Nat) : Int); omega
  obtain ⟨o4, h⟩ := h
  refine pf_X10_22 C o4 (fun e => by cases e) (d_of DX10_init 21 rfl) ?_
  refine WA.nmM (fun M5 eM5 => ?_)
  have h := h _ eM5
  refine s_aload_n C (d_of DX10_init 22 rfl) rfl ?_
  refine s_bipush C (d_of DX10_init 23 rfl) ⟨rfl, by decide, by decide⟩ ?_
  refine na_12 (N := 24) C rfl (by decide) (d_of DX10_init 24 rfl) ?_
  refine WA.nmW (fun w6 ew6 => ?_)
  have h := h _ ew6
  have k7 : w6.2 (w.1 : Int) = (12, 24) := by rw [ew6]; exact us_ne k2 (Int.ne_of_lt b3)
  have b8 : (w.1 : Int) < (w6.1 : Int) := by have := b3; rw [ew6]; show _ < ((w1.1 + 1 : Nat) : Int); omega
  obtain ⟨o9, h⟩ := h
  have k10 : w6.2 l0 = (11, 51) := by rw [ew6]; exact us_ne o4 (Int.ne_of_lt o9)
  have b11 : l0 < (w6.1 : Int) := by have := o9; rw [ew6]; show _ < ((w1.1 + 1 : Nat) : Int); omega
  have k12 : w6.2 (w1.1 : Int) = (12, 24) := by rw [ew6]; exact us_new _ _ _ _
  have b13 : (w1.1 : Int) < (w6.1 : Int) := by rw [ew6]; show _ < ((w1.1 + 1 : Nat) : Int); omega
  refine pf_X10_25 C k10 (fun e => by cases e) (d_of DX10_init 25 rfl) ?_
  refine WA.nmM (fun M14 eM14 => ?_)
  have h := h _ eM14
  refine s_aload_n C (d_of DX10_init 26 rfl) rfl ?_
  refine s_bipush C (d_of DX10_init 27 rfl) ⟨rfl, by decide, by decide⟩ ?_
  refine na_12 (N := 24) C rfl (by decide) (d_of DX10_init 28 rfl) ?_
  refine WA.nmW (fun w15 ew15 => ?_)
  have h := h _ ew15
  have k16 : w15.2 (w.1 : Int) = (12, 24) := by rw [ew15]; exact us_ne k7 (Int.ne_of_lt b8)
  have b17 : (w.1 : Int) < (w15.1 : Int) := by have := b8; rw [ew15]; show _ < ((w6.1 + 1 : Nat) : Int); omega
  have k18 : w15.2 l0 = (11, 51) := by rw [ew15]; exact us_ne k10 (Int.ne_of_lt b11)
  have b19 : l0 < (w15.1 : Int) := by have := b11; rw [ew15]; show _ < ((w6.1 + 1 : Nat) : Int); omega
  have k20 : w15.2 (w1.1 : Int) = (12, 24) := by rw [ew15]; exact us_ne k12 (Int.ne_of_lt b13)
  have b21 : (w1.1 : Int) < (w15.1 : Int) := by have := b13; rw [ew15]; show _ < ((w6.1 + 1 : Nat) : Int); omega
  have k22 : w15.2 (w6.1 : Int) = (12, 24) := by rw [ew15]; exact us_new _ _ _ _
  have b23 : (w6.1 : Int) < (w15.1 : Int) := by rw [ew15]; show _ < ((w6.1 + 1 : Nat) : Int); omega
  refine pf_X10_28 C k18 (fun e => by cases e) (d_of DX10_init 29 rfl) ?_
  refine WA.nmM (fun M24 eM24 => ?_)
  have h := h _ eM24
  refine s_aload_n C (d_of DX10_init 30 rfl) rfl ?_
  refine s_bipush C (d_of DX10_init 31 rfl) ⟨rfl, by decide, by decide⟩ ?_
  refine na_12 (N := 24) C rfl (by decide) (d_of DX10_init 32 rfl) ?_
  refine WA.nmW (fun w25 ew25 => ?_)
  have h := h _ ew25
  have k26 : w25.2 (w.1 : Int) = (12, 24) := by rw [ew25]; exact us_ne k16 (Int.ne_of_lt b17)
  have b27 : (w.1 : Int) < (w25.1 : Int) := by have := b17; rw [ew25]; show _ < ((w15.1 + 1 : Nat) : Int); omega
  have k28 : w25.2 l0 = (11, 51) := by rw [ew25]; exact us_ne k18 (Int.ne_of_lt b19)
  have b29 : l0 < (w25.1 : Int) := by have := b19; rw [ew25]; show _ < ((w15.1 + 1 : Nat) : Int); omega
  have k30 : w25.2 (w1.1 : Int) = (12, 24) := by rw [ew25]; exact us_ne k20 (Int.ne_of_lt b21)
  have b31 : (w1.1 : Int) < (w25.1 : Int) := by have := b21; rw [ew25]; show _ < ((w15.1 + 1 : Nat) : Int); omega
  have k32 : w25.2 (w6.1 : Int) = (12, 24) := by rw [ew25]; exact us_ne k22 (Int.ne_of_lt b23)
  have b33 : (w6.1 : Int) < (w25.1 : Int) := by have := b23; rw [ew25]; show _ < ((w15.1 + 1 : Nat) : Int); omega
  have k34 : w25.2 (w15.1 : Int) = (12, 24) := by rw [ew25]; exact us_new _ _ _ _
  have b35 : (w15.1 : Int) < (w25.1 : Int) := by rw [ew25]; show _ < ((w15.1 + 1 : Nat) : Int); omega
  refine pf_X10_31 C k28 (fun e => by cases e) (d_of DX10_init 33 rfl) ?_
  refine WA.nmM (fun M36 eM36 => ?_)
  have h := h _ eM36
  exact h
set_option maxHeartbeats 4000000 in
set_option maxRecDepth 100000 in
theorem B_X10_init_69 {G : GP} {X : BX} {P : Int → NS → MM → Prop} {l0 : Int} {rc rs : Nat} {w : NS} {M : MM} (C : CX_X10_init G X) (h : ∀ w1 : NS, w1 = (w.1 + 1, us w.2 w.1 12 24) → (w1.2 l0 = (11, 51)) ∧ ∀ M5 : MM, M5 = (up M l0 9 (w.1 : Int)) → ∀ w6 : NS, w6 = (w1.1 + 1, us w1.2 w1.1 12 24) → (l0 < (w1.1 : Int)) ∧ ∀ M14 : MM, M14 = (up M5 l0 10 (w1.1 : Int)) → ∀ w15 : NS, w15 = (w6.1 + 1, us w6.2 w6.1 12 24) → ∀ M24 : MM, M24 = (up M14 l0 11 (w6.1 : Int)) → ∀ w25 : NS, w25 = (w15.1 + 1, us w15.2 w15.1 12 9) → ∀ M36 : MM, M36 = (up M24 l0 13 (w15.1 : Int)) → A_X10_init_101 G X P l0 (rc + 0) (rs + 0) w25 M36) : A_X10_init_69 G X P l0 (rc + 4) (rs + 81) w M := by
  unfold A_X10_init_69
  refine s_aload_n C (d_of DX10_init 34 rfl) rfl ?_
  refine s_bipush C (d_of DX10_init 35 rfl) ⟨rfl, by decide, by decide⟩ ?_
  refine na_12 (N := 24) C rfl (by decide) (d_of DX10_init 36 rfl) ?_
  refine WA.nmW (fun w1 ew1 => ?_)
  have h := h _ ew1
  have k2 : w1.2 (w.1 : Int) = (12, 24) := by rw [ew1]; exact us_new _ _ _ _
  have b3 : (w.1 : Int) < (w1.1 : Int) := by rw [ew1]; show _ < ((w.1 + 1 : Nat) : Int); omega
  obtain ⟨o4, h⟩ := h
  refine pf_X10_34 C o4 (fun e => by cases e) (d_of DX10_init 37 rfl) ?_
  refine WA.nmM (fun M5 eM5 => ?_)
  have h := h _ eM5
  refine s_aload_n C (d_of DX10_init 38 rfl) rfl ?_
  refine s_bipush C (d_of DX10_init 39 rfl) ⟨rfl, by decide, by decide⟩ ?_
  refine na_12 (N := 24) C rfl (by decide) (d_of DX10_init 40 rfl) ?_
  refine WA.nmW (fun w6 ew6 => ?_)
  have h := h _ ew6
  have k7 : w6.2 (w.1 : Int) = (12, 24) := by rw [ew6]; exact us_ne k2 (Int.ne_of_lt b3)
  have b8 : (w.1 : Int) < (w6.1 : Int) := by have := b3; rw [ew6]; show _ < ((w1.1 + 1 : Nat) : Int); omega
  obtain ⟨o9, h⟩ := h
  have k10 : w6.2 l0 = (11, 51) := by rw [ew6]; exact us_ne o4 (Int.ne_of_lt o9)
  have b11 : l0 < (w6.1 : Int) := by have := o9; rw [ew6]; show _ < ((w1.1 + 1 : Nat) : Int); omega
  have k12 : w6.2 (w1.1 : Int) = (12, 24) := by rw [ew6]; exact us_new _ _ _ _
  have b13 : (w1.1 : Int) < (w6.1 : Int) := by rw [ew6]; show _ < ((w1.1 + 1 : Nat) : Int); omega
  refine pf_X10_37 C k10 (fun e => by cases e) (d_of DX10_init 41 rfl) ?_
  refine WA.nmM (fun M14 eM14 => ?_)
  have h := h _ eM14
  refine s_aload_n C (d_of DX10_init 42 rfl) rfl ?_
  refine s_bipush C (d_of DX10_init 43 rfl) ⟨rfl, by decide, by decide⟩ ?_
  refine na_12 (N := 24) C rfl (by decide) (d_of DX10_init 44 rfl) ?_
  refine WA.nmW (fun w15 ew15 => ?_)
  have h := h _ ew15
  have k16 : w15.2 (w.1 : Int) = (12, 24) := by rw [ew15]; exact us_ne k7 (Int.ne_of_lt b8)
  have b17 : (w.1 : Int) < (w15.1 : Int) := by have := b8; rw [ew15]; show _ < ((w6.1 + 1 : Nat) : Int); omega
  have k18 : w15.2 l0 = (11, 51) := by rw [ew15]; exact us_ne k10 (Int.ne_of_lt b11)
  have b19 : l0 < (w15.1 : Int) := by have := b11; rw [ew15]; show _ < ((w6.1 + 1 : Nat) : Int); omega
  have k20 : w15.2 (w1.1 : Int) = (12, 24) := by rw [ew15]; exact us_ne k12 (Int.ne_of_lt b13)
  have b21 : (w1.1 : Int) < (w15.1 : Int) := by have := b13; rw [ew15]; show _ < ((w6.1 + 1 : Nat) : Int); omega
  have k22 : w15.2 (w6.1 : Int) = (12, 24) := by rw [ew15]; exact us_new _ _ _ _
  have b23 : (w6.1 : Int) < (w15.1 : Int) := by rw [ew15]; show _ < ((w6.1 + 1 : Nat) : Int); omega
  refine pf_X10_40 C k18 (fun e => by cases e) (d_of DX10_init 45 rfl) ?_
  refine WA.nmM (fun M24 eM24 => ?_)
  have h := h _ eM24
  refine s_aload_n C (d_of DX10_init 46 rfl) rfl ?_
  refine s_bipush C (d_of DX10_init 47 rfl) ⟨rfl, by decide, by decide⟩ ?_
  refine na_12 (N := 9) C rfl (by decide) (d_of DX10_init 48 rfl) ?_
  refine WA.nmW (fun w25 ew25 => ?_)
  have h := h _ ew25
  have k26 : w25.2 (w.1 : Int) = (12, 24) := by rw [ew25]; exact us_ne k16 (Int.ne_of_lt b17)
  have b27 : (w.1 : Int) < (w25.1 : Int) := by have := b17; rw [ew25]; show _ < ((w15.1 + 1 : Nat) : Int); omega
  have k28 : w25.2 l0 = (11, 51) := by rw [ew25]; exact us_ne k18 (Int.ne_of_lt b19)
  have b29 : l0 < (w25.1 : Int) := by have := b19; rw [ew25]; show _ < ((w15.1 + 1 : Nat) : Int); omega
  have k30 : w25.2 (w1.1 : Int) = (12, 24) := by rw [ew25]; exact us_ne k20 (Int.ne_of_lt b21)
  have b31 : (w1.1 : Int) < (w25.1 : Int) := by have := b21; rw [ew25]; show _ < ((w15.1 + 1 : Nat) : Int); omega
  have k32 : w25.2 (w6.1 : Int) = (12, 24) := by rw [ew25]; exact us_ne k22 (Int.ne_of_lt b23)
  have b33 : (w6.1 : Int) < (w25.1 : Int) := by have := b23; rw [ew25]; show _ < ((w15.1 + 1 : Nat) : Int); omega
  have k34 : w25.2 (w15.1 : Int) = (12, 9) := by rw [ew25]; exact us_new _ _ _ _
  have b35 : (w15.1 : Int) < (w25.1 : Int) := by rw [ew25]; show _ < ((w15.1 + 1 : Nat) : Int); omega
  refine pf_X10_43 C k28 (fun e => by cases e) (d_of DX10_init 49 rfl) ?_
  refine WA.nmM (fun M36 eM36 => ?_)
  have h := h _ eM36
  exact h
set_option maxHeartbeats 4000000 in
set_option maxRecDepth 100000 in
theorem B_X10_init_101 {G : GP} {X : BX} {P : Int → NS → MM → Prop} {l0 : Int} {rc rs : Nat} {w : NS} {M : MM} (C : CX_X10_init G X) (h : ∀ w1 : NS, w1 = (w.1 + 1, us w.2 w.1 12 60) → (w1.2 l0 = (11, 51)) ∧ ∀ M5 : MM, M5 = (up M l0 14 (w.1 : Int)) → ∀ w6 : NS, w6 = (w1.1 + 1, us w1.2 w1.1 12 60) → (l0 < (w1.1 : Int)) ∧ ∀ M14 : MM, M14 = (up M5 l0 15 (w1.1 : Int)) → ∀ w15 : NS, w15 = (w6.1 + 1, us w6.2 w6.1 12 440) → ∀ M24 : MM, M24 = (up M14 l0 18 (w6.1 : Int)) → ∀ w25 : NS, w25 = (w15.1 + 1, us w15.2 w15.1 12 11) → ∀ M36 : MM, M36 = (up M24 l0 19 (w15.1 : Int)) → A_X10_init_134 G X P l0 (rc + 0) (rs + 0) w25 M36) : A_X10_init_101 G X P l0 (rc + 4) (rs + 571) w M := by
  unfold A_X10_init_101
  refine s_aload_n C (d_of DX10_init 50 rfl) rfl ?_
  refine s_bipush C (d_of DX10_init 51 rfl) ⟨rfl, by decide, by decide⟩ ?_
  refine na_12 (N := 60) C rfl (by decide) (d_of DX10_init 52 rfl) ?_
  refine WA.nmW (fun w1 ew1 => ?_)
  have h := h _ ew1
  have k2 : w1.2 (w.1 : Int) = (12, 60) := by rw [ew1]; exact us_new _ _ _ _
  have b3 : (w.1 : Int) < (w1.1 : Int) := by rw [ew1]; show _ < ((w.1 + 1 : Nat) : Int); omega
  obtain ⟨o4, h⟩ := h
  refine pf_X10_46 C o4 (fun e => by cases e) (d_of DX10_init 53 rfl) ?_
  refine WA.nmM (fun M5 eM5 => ?_)
  have h := h _ eM5
  refine s_aload_n C (d_of DX10_init 54 rfl) rfl ?_
  refine s_bipush C (d_of DX10_init 55 rfl) ⟨rfl, by decide, by decide⟩ ?_
  refine na_12 (N := 60) C rfl (by decide) (d_of DX10_init 56 rfl) ?_
  refine WA.nmW (fun w6 ew6 => ?_)
  have h := h _ ew6
  have k7 : w6.2 (w.1 : Int) = (12, 60) := by rw [ew6]; exact us_ne k2 (Int.ne_of_lt b3)
  have b8 : (w.1 : Int) < (w6.1 : Int) := by have := b3; rw [ew6]; show _ < ((w1.1 + 1 : Nat) : Int); omega
  obtain ⟨o9, h⟩ := h
  have k10 : w6.2 l0 = (11, 51) := by rw [ew6]; exact us_ne o4 (Int.ne_of_lt o9)
  have b11 : l0 < (w6.1 : Int) := by have := o9; rw [ew6]; show _ < ((w1.1 + 1 : Nat) : Int); omega
  have k12 : w6.2 (w1.1 : Int) = (12, 60) := by rw [ew6]; exact us_new _ _ _ _
  have b13 : (w1.1 : Int) < (w6.1 : Int) := by rw [ew6]; show _ < ((w1.1 + 1 : Nat) : Int); omega
  refine pf_X10_49 C k10 (fun e => by cases e) (d_of DX10_init 57 rfl) ?_
  refine WA.nmM (fun M14 eM14 => ?_)
  have h := h _ eM14
  refine s_aload_n C (d_of DX10_init 58 rfl) rfl ?_
  refine s_sipush C (d_of DX10_init 59 rfl) ⟨rfl, by decide, by decide⟩ ?_
  refine na_12 (N := 440) C rfl (by decide) (d_of DX10_init 60 rfl) ?_
  refine WA.nmW (fun w15 ew15 => ?_)
  have h := h _ ew15
  have k16 : w15.2 (w.1 : Int) = (12, 60) := by rw [ew15]; exact us_ne k7 (Int.ne_of_lt b8)
  have b17 : (w.1 : Int) < (w15.1 : Int) := by have := b8; rw [ew15]; show _ < ((w6.1 + 1 : Nat) : Int); omega
  have k18 : w15.2 l0 = (11, 51) := by rw [ew15]; exact us_ne k10 (Int.ne_of_lt b11)
  have b19 : l0 < (w15.1 : Int) := by have := b11; rw [ew15]; show _ < ((w6.1 + 1 : Nat) : Int); omega
  have k20 : w15.2 (w1.1 : Int) = (12, 60) := by rw [ew15]; exact us_ne k12 (Int.ne_of_lt b13)
  have b21 : (w1.1 : Int) < (w15.1 : Int) := by have := b13; rw [ew15]; show _ < ((w6.1 + 1 : Nat) : Int); omega
  have k22 : w15.2 (w6.1 : Int) = (12, 440) := by rw [ew15]; exact us_new _ _ _ _
  have b23 : (w6.1 : Int) < (w15.1 : Int) := by rw [ew15]; show _ < ((w6.1 + 1 : Nat) : Int); omega
  refine pf_X10_52 C k18 (fun e => by cases e) (d_of DX10_init 61 rfl) ?_
  refine WA.nmM (fun M24 eM24 => ?_)
  have h := h _ eM24
  refine s_aload_n C (d_of DX10_init 62 rfl) rfl ?_
  refine s_bipush C (d_of DX10_init 63 rfl) ⟨rfl, by decide, by decide⟩ ?_
  refine na_12 (N := 11) C rfl (by decide) (d_of DX10_init 64 rfl) ?_
  refine WA.nmW (fun w25 ew25 => ?_)
  have h := h _ ew25
  have k26 : w25.2 (w.1 : Int) = (12, 60) := by rw [ew25]; exact us_ne k16 (Int.ne_of_lt b17)
  have b27 : (w.1 : Int) < (w25.1 : Int) := by have := b17; rw [ew25]; show _ < ((w15.1 + 1 : Nat) : Int); omega
  have k28 : w25.2 l0 = (11, 51) := by rw [ew25]; exact us_ne k18 (Int.ne_of_lt b19)
  have b29 : l0 < (w25.1 : Int) := by have := b19; rw [ew25]; show _ < ((w15.1 + 1 : Nat) : Int); omega
  have k30 : w25.2 (w1.1 : Int) = (12, 60) := by rw [ew25]; exact us_ne k20 (Int.ne_of_lt b21)
  have b31 : (w1.1 : Int) < (w25.1 : Int) := by have := b21; rw [ew25]; show _ < ((w15.1 + 1 : Nat) : Int); omega
  have k32 : w25.2 (w6.1 : Int) = (12, 440) := by rw [ew25]; exact us_ne k22 (Int.ne_of_lt b23)
  have b33 : (w6.1 : Int) < (w25.1 : Int) := by have := b23; rw [ew25]; show _ < ((w15.1 + 1 : Nat) : Int); omega
  have k34 : w25.2 (w15.1 : Int) = (12, 11) := by rw [ew25]; exact us_new _ _ _ _
  have b35 : (w15.1 : Int) < (w25.1 : Int) := by rw [ew25]; show _ < ((w15.1 + 1 : Nat) : Int); omega
  refine pf_X10_55 C k28 (fun e => by cases e) (d_of DX10_init 65 rfl) ?_
  refine WA.nmM (fun M36 eM36 => ?_)
  have h := h _ eM36
  exact h
set_option maxHeartbeats 4000000 in
set_option maxRecDepth 100000 in
theorem B_X10_init_134 {G : GP} {X : BX} {P : Int → NS → MM → Prop} {l0 : Int} {rc rs : Nat} {w : NS} {M : MM} (C : CX_X10_init G X) (h : ∀ w1 : NS, w1 = (w.1 + 1, us w.2 w.1 12 10) → (w1.2 l0 = (11, 51)) ∧ ∀ M5 : MM, M5 = (up M l0 20 (w.1 : Int)) → ∀ w6 : NS, w6 = (w1.1 + 1, us w1.2 w1.1 12 10) → (l0 < (w1.1 : Int)) ∧ ∀ M14 : MM, M14 = (up M5 l0 21 (w1.1 : Int)) → ∀ w15 : NS, w15 = (w6.1 + 1, us w6.2 w6.1 12 10) → ∀ M24 : MM, M24 = (up M14 l0 22 (w6.1 : Int)) → ∀ w25 : NS, w25 = (w15.1 + 1, us w15.2 w15.1 12 10) → ∀ M36 : MM, M36 = (up M24 l0 23 (w15.1 : Int)) → A_X10_init_166 G X P l0 (rc + 0) (rs + 0) w25 M36) : A_X10_init_134 G X P l0 (rc + 4) (rs + 40) w M := by
  unfold A_X10_init_134
  refine s_aload_n C (d_of DX10_init 66 rfl) rfl ?_
  refine s_bipush C (d_of DX10_init 67 rfl) ⟨rfl, by decide, by decide⟩ ?_
  refine na_12 (N := 10) C rfl (by decide) (d_of DX10_init 68 rfl) ?_
  refine WA.nmW (fun w1 ew1 => ?_)
  have h := h _ ew1
  have k2 : w1.2 (w.1 : Int) = (12, 10) := by rw [ew1]; exact us_new _ _ _ _
  have b3 : (w.1 : Int) < (w1.1 : Int) := by rw [ew1]; show _ < ((w.1 + 1 : Nat) : Int); omega
  obtain ⟨o4, h⟩ := h
  refine pf_X10_58 C o4 (fun e => by cases e) (d_of DX10_init 69 rfl) ?_
  refine WA.nmM (fun M5 eM5 => ?_)
  have h := h _ eM5
  refine s_aload_n C (d_of DX10_init 70 rfl) rfl ?_
  refine s_bipush C (d_of DX10_init 71 rfl) ⟨rfl, by decide, by decide⟩ ?_
  refine na_12 (N := 10) C rfl (by decide) (d_of DX10_init 72 rfl) ?_
  refine WA.nmW (fun w6 ew6 => ?_)
  have h := h _ ew6
  have k7 : w6.2 (w.1 : Int) = (12, 10) := by rw [ew6]; exact us_ne k2 (Int.ne_of_lt b3)
  have b8 : (w.1 : Int) < (w6.1 : Int) := by have := b3; rw [ew6]; show _ < ((w1.1 + 1 : Nat) : Int); omega
  obtain ⟨o9, h⟩ := h
  have k10 : w6.2 l0 = (11, 51) := by rw [ew6]; exact us_ne o4 (Int.ne_of_lt o9)
  have b11 : l0 < (w6.1 : Int) := by have := o9; rw [ew6]; show _ < ((w1.1 + 1 : Nat) : Int); omega
  have k12 : w6.2 (w1.1 : Int) = (12, 10) := by rw [ew6]; exact us_new _ _ _ _
  have b13 : (w1.1 : Int) < (w6.1 : Int) := by rw [ew6]; show _ < ((w1.1 + 1 : Nat) : Int); omega
  refine pf_X10_61 C k10 (fun e => by cases e) (d_of DX10_init 73 rfl) ?_
  refine WA.nmM (fun M14 eM14 => ?_)
  have h := h _ eM14
  refine s_aload_n C (d_of DX10_init 74 rfl) rfl ?_
  refine s_bipush C (d_of DX10_init 75 rfl) ⟨rfl, by decide, by decide⟩ ?_
  refine na_12 (N := 10) C rfl (by decide) (d_of DX10_init 76 rfl) ?_
  refine WA.nmW (fun w15 ew15 => ?_)
  have h := h _ ew15
  have k16 : w15.2 (w.1 : Int) = (12, 10) := by rw [ew15]; exact us_ne k7 (Int.ne_of_lt b8)
  have b17 : (w.1 : Int) < (w15.1 : Int) := by have := b8; rw [ew15]; show _ < ((w6.1 + 1 : Nat) : Int); omega
  have k18 : w15.2 l0 = (11, 51) := by rw [ew15]; exact us_ne k10 (Int.ne_of_lt b11)
  have b19 : l0 < (w15.1 : Int) := by have := b11; rw [ew15]; show _ < ((w6.1 + 1 : Nat) : Int); omega
  have k20 : w15.2 (w1.1 : Int) = (12, 10) := by rw [ew15]; exact us_ne k12 (Int.ne_of_lt b13)
  have b21 : (w1.1 : Int) < (w15.1 : Int) := by have := b13; rw [ew15]; show _ < ((w6.1 + 1 : Nat) : Int); omega
  have k22 : w15.2 (w6.1 : Int) = (12, 10) := by rw [ew15]; exact us_new _ _ _ _
  have b23 : (w6.1 : Int) < (w15.1 : Int) := by rw [ew15]; show _ < ((w6.1 + 1 : Nat) : Int); omega
  refine pf_X10_64 C k18 (fun e => by cases e) (d_of DX10_init 77 rfl) ?_
  refine WA.nmM (fun M24 eM24 => ?_)
  have h := h _ eM24
  refine s_aload_n C (d_of DX10_init 78 rfl) rfl ?_
  refine s_bipush C (d_of DX10_init 79 rfl) ⟨rfl, by decide, by decide⟩ ?_
  refine na_12 (N := 10) C rfl (by decide) (d_of DX10_init 80 rfl) ?_
  refine WA.nmW (fun w25 ew25 => ?_)
  have h := h _ ew25
  have k26 : w25.2 (w.1 : Int) = (12, 10) := by rw [ew25]; exact us_ne k16 (Int.ne_of_lt b17)
  have b27 : (w.1 : Int) < (w25.1 : Int) := by have := b17; rw [ew25]; show _ < ((w15.1 + 1 : Nat) : Int); omega
  have k28 : w25.2 l0 = (11, 51) := by rw [ew25]; exact us_ne k18 (Int.ne_of_lt b19)
  have b29 : l0 < (w25.1 : Int) := by have := b19; rw [ew25]; show _ < ((w15.1 + 1 : Nat) : Int); omega
  have k30 : w25.2 (w1.1 : Int) = (12, 10) := by rw [ew25]; exact us_ne k20 (Int.ne_of_lt b21)
  have b31 : (w1.1 : Int) < (w25.1 : Int) := by have := b21; rw [ew25]; show _ < ((w15.1 + 1 : Nat) : Int); omega
  have k32 : w25.2 (w6.1 : Int) = (12, 10) := by rw [ew25]; exact us_ne k22 (Int.ne_of_lt b23)
  have b33 : (w6.1 : Int) < (w25.1 : Int) := by have := b23; rw [ew25]; show _ < ((w15.1 + 1 : Nat) : Int); omega
  have k34 : w25.2 (w15.1 : Int) = (12, 10) := by rw [ew25]; exact us_new _ _ _ _
  have b35 : (w15.1 : Int) < (w25.1 : Int) := by rw [ew25]; show _ < ((w15.1 + 1 : Nat) : Int); omega
  refine pf_X10_67 C k28 (fun e => by cases e) (d_of DX10_init 81 rfl) ?_
  refine WA.nmM (fun M36 eM36 => ?_)
  have h := h _ eM36
  exact h
set_option maxHeartbeats 4000000 in
set_option maxRecDepth 100000 in
theorem B_X10_init_166 {G : GP} {X : BX} {P : Int → NS → MM → Prop} {l0 : Int} {rc rs : Nat} {w : NS} {M : MM} (C : CX_X10_init G X) (h : ∀ w1 : NS, w1 = (w.1 + 1, us w.2 w.1 12 10) → (w1.2 l0 = (11, 51)) ∧ ∀ M5 : MM, M5 = (up M l0 24 (w.1 : Int)) → ∀ w6 : NS, w6 = (w1.1 + 1, us w1.2 w1.1 14 10) → (l0 < (w1.1 : Int)) ∧ ∀ M14 : MM, M14 = (up M5 l0 25 (w1.1 : Int)) → ∀ w15 : NS, w15 = (w6.1 + 1, us w6.2 w6.1 14 10) → ∀ M24 : MM, M24 = (up M14 l0 27 (w6.1 : Int)) → ∀ w25 : NS, w25 = (w15.1 + 1, us w15.2 w15.1 14 10) → ∀ M36 : MM, M36 = (up M24 l0 28 (w15.1 : Int)) → A_X10_init_198 G X P l0 (rc + 0) (rs + 0) w25 M36) : A_X10_init_166 G X P l0 (rc + 4) (rs + 40) w M := by
  unfold A_X10_init_166
  refine s_aload_n C (d_of DX10_init 82 rfl) rfl ?_
  refine s_bipush C (d_of DX10_init 83 rfl) ⟨rfl, by decide, by decide⟩ ?_
  refine na_12 (N := 10) C rfl (by decide) (d_of DX10_init 84 rfl) ?_
  refine WA.nmW (fun w1 ew1 => ?_)
  have h := h _ ew1
  have k2 : w1.2 (w.1 : Int) = (12, 10) := by rw [ew1]; exact us_new _ _ _ _
  have b3 : (w.1 : Int) < (w1.1 : Int) := by rw [ew1]; show _ < ((w.1 + 1 : Nat) : Int); omega
  obtain ⟨o4, h⟩ := h
  refine pf_X10_70 C o4 (fun e => by cases e) (d_of DX10_init 85 rfl) ?_
  refine WA.nmM (fun M5 eM5 => ?_)
  have h := h _ eM5
  refine s_aload_n C (d_of DX10_init 86 rfl) rfl ?_
  refine s_bipush C (d_of DX10_init 87 rfl) ⟨rfl, by decide, by decide⟩ ?_
  refine na_14 (N := 10) C rfl (by decide) (d_of DX10_init 88 rfl) ?_
  refine WA.nmW (fun w6 ew6 => ?_)
  have h := h _ ew6
  have k7 : w6.2 (w.1 : Int) = (12, 10) := by rw [ew6]; exact us_ne k2 (Int.ne_of_lt b3)
  have b8 : (w.1 : Int) < (w6.1 : Int) := by have := b3; rw [ew6]; show _ < ((w1.1 + 1 : Nat) : Int); omega
  obtain ⟨o9, h⟩ := h
  have k10 : w6.2 l0 = (11, 51) := by rw [ew6]; exact us_ne o4 (Int.ne_of_lt o9)
  have b11 : l0 < (w6.1 : Int) := by have := o9; rw [ew6]; show _ < ((w1.1 + 1 : Nat) : Int); omega
  have k12 : w6.2 (w1.1 : Int) = (14, 10) := by rw [ew6]; exact us_new _ _ _ _
  have b13 : (w1.1 : Int) < (w6.1 : Int) := by rw [ew6]; show _ < ((w1.1 + 1 : Nat) : Int); omega
  refine pf_X10_73 C k10 (fun e => by cases e) (d_of DX10_init 89 rfl) ?_
  refine WA.nmM (fun M14 eM14 => ?_)
  have h := h _ eM14
  refine s_aload_n C (d_of DX10_init 90 rfl) rfl ?_
  refine s_bipush C (d_of DX10_init 91 rfl) ⟨rfl, by decide, by decide⟩ ?_
  refine na_14 (N := 10) C rfl (by decide) (d_of DX10_init 92 rfl) ?_
  refine WA.nmW (fun w15 ew15 => ?_)
  have h := h _ ew15
  have k16 : w15.2 (w.1 : Int) = (12, 10) := by rw [ew15]; exact us_ne k7 (Int.ne_of_lt b8)
  have b17 : (w.1 : Int) < (w15.1 : Int) := by have := b8; rw [ew15]; show _ < ((w6.1 + 1 : Nat) : Int); omega
  have k18 : w15.2 l0 = (11, 51) := by rw [ew15]; exact us_ne k10 (Int.ne_of_lt b11)
  have b19 : l0 < (w15.1 : Int) := by have := b11; rw [ew15]; show _ < ((w6.1 + 1 : Nat) : Int); omega
  have k20 : w15.2 (w1.1 : Int) = (14, 10) := by rw [ew15]; exact us_ne k12 (Int.ne_of_lt b13)
  have b21 : (w1.1 : Int) < (w15.1 : Int) := by have := b13; rw [ew15]; show _ < ((w6.1 + 1 : Nat) : Int); omega
  have k22 : w15.2 (w6.1 : Int) = (14, 10) := by rw [ew15]; exact us_new _ _ _ _
  have b23 : (w6.1 : Int) < (w15.1 : Int) := by rw [ew15]; show _ < ((w6.1 + 1 : Nat) : Int); omega
  refine pf_X10_77 C k18 (fun e => by cases e) (d_of DX10_init 93 rfl) ?_
  refine WA.nmM (fun M24 eM24 => ?_)
  have h := h _ eM24
  refine s_aload_n C (d_of DX10_init 94 rfl) rfl ?_
  refine s_bipush C (d_of DX10_init 95 rfl) ⟨rfl, by decide, by decide⟩ ?_
  refine na_14 (N := 10) C rfl (by decide) (d_of DX10_init 96 rfl) ?_
  refine WA.nmW (fun w25 ew25 => ?_)
  have h := h _ ew25
  have k26 : w25.2 (w.1 : Int) = (12, 10) := by rw [ew25]; exact us_ne k16 (Int.ne_of_lt b17)
  have b27 : (w.1 : Int) < (w25.1 : Int) := by have := b17; rw [ew25]; show _ < ((w15.1 + 1 : Nat) : Int); omega
  have k28 : w25.2 l0 = (11, 51) := by rw [ew25]; exact us_ne k18 (Int.ne_of_lt b19)
  have b29 : l0 < (w25.1 : Int) := by have := b19; rw [ew25]; show _ < ((w15.1 + 1 : Nat) : Int); omega
  have k30 : w25.2 (w1.1 : Int) = (14, 10) := by rw [ew25]; exact us_ne k20 (Int.ne_of_lt b21)
  have b31 : (w1.1 : Int) < (w25.1 : Int) := by have := b21; rw [ew25]; show _ < ((w15.1 + 1 : Nat) : Int); omega
  have k32 : w25.2 (w6.1 : Int) = (14, 10) := by rw [ew25]; exact us_ne k22 (Int.ne_of_lt b23)
  have b33 : (w6.1 : Int) < (w25.1 : Int) := by have := b23; rw [ew25]; show _ < ((w15.1 + 1 : Nat) : Int); omega
  have k34 : w25.2 (w15.1 : Int) = (14, 10) := by rw [ew25]; exact us_new _ _ _ _
  have b35 : (w15.1 : Int) < (w25.1 : Int) := by rw [ew25]; show _ < ((w15.1 + 1 : Nat) : Int); omega
  refine pf_X10_80 C k28 (fun e => by cases e) (d_of DX10_init 97 rfl) ?_
  refine WA.nmM (fun M36 eM36 => ?_)
  have h := h _ eM36
  exact h
set_option maxHeartbeats 4000000 in
set_option maxRecDepth 100000 in
theorem B_X10_init_198 {G : GP} {X : BX} {P : Int → NS → MM → Prop} {l0 : Int} {rc rs : Nat} {w : NS} {M : MM} (C : CX_X10_init G X) (h : ∀ w1 : NS, w1 = (w.1 + 1, us w.2 w.1 14 10) → (w1.2 l0 = (11, 51)) ∧ ∀ M5 : MM, M5 = (up M l0 29 (w.1 : Int)) → ∀ w6 : NS, w6 = (w1.1 + 1, us w1.2 w1.1 12 61) → (l0 < (w1.1 : Int)) ∧ ∀ M14 : MM, M14 = (up M5 l0 31 (w1.1 : Int)) → ∀ w15 : NS, w15 = (w6.1 + 1, us w6.2 w6.1 14 24) → ∀ M24 : MM, M24 = (up M14 l0 32 (w6.1 : Int)) → ∀ w25 : NS, w25 = (w15.1 + 1, us w15.2 w15.1 14 576) → ∀ M36 : MM, M36 = (up M24 l0 33 (w15.1 : Int)) → A_X10_init_231 G X P l0 (rc + 0) (rs + 0) w25 M36) : A_X10_init_198 G X P l0 (rc + 4) (rs + 671) w M := by
  unfold A_X10_init_198
  refine s_aload_n C (d_of DX10_init 98 rfl) rfl ?_
  refine s_bipush C (d_of DX10_init 99 rfl) ⟨rfl, by decide, by decide⟩ ?_
  refine na_14 (N := 10) C rfl (by decide) (d_of DX10_init 100 rfl) ?_
  refine WA.nmW (fun w1 ew1 => ?_)
  have h := h _ ew1
  have k2 : w1.2 (w.1 : Int) = (14, 10) := by rw [ew1]; exact us_new _ _ _ _
  have b3 : (w.1 : Int) < (w1.1 : Int) := by rw [ew1]; show _ < ((w.1 + 1 : Nat) : Int); omega
  obtain ⟨o4, h⟩ := h
  refine pf_X10_83 C o4 (fun e => by cases e) (d_of DX10_init 101 rfl) ?_
  refine WA.nmM (fun M5 eM5 => ?_)
  have h := h _ eM5
  refine s_aload_n C (d_of DX10_init 102 rfl) rfl ?_
  refine s_bipush C (d_of DX10_init 103 rfl) ⟨rfl, by decide, by decide⟩ ?_
  refine na_12 (N := 61) C rfl (by decide) (d_of DX10_init 104 rfl) ?_
  refine WA.nmW (fun w6 ew6 => ?_)
  have h := h _ ew6
  have k7 : w6.2 (w.1 : Int) = (14, 10) := by rw [ew6]; exact us_ne k2 (Int.ne_of_lt b3)
  have b8 : (w.1 : Int) < (w6.1 : Int) := by have := b3; rw [ew6]; show _ < ((w1.1 + 1 : Nat) : Int); omega
  obtain ⟨o9, h⟩ := h
  have k10 : w6.2 l0 = (11, 51) := by rw [ew6]; exact us_ne o4 (Int.ne_of_lt o9)
  have b11 : l0 < (w6.1 : Int) := by have := o9; rw [ew6]; show _ < ((w1.1 + 1 : Nat) : Int); omega
  have k12 : w6.2 (w1.1 : Int) = (12, 61) := by rw [ew6]; exact us_new _ _ _ _
  have b13 : (w1.1 : Int) < (w6.1 : Int) := by rw [ew6]; show _ < ((w1.1 + 1 : Nat) : Int); omega
  refine pf_X10_86 C k10 (fun e => by cases e) (d_of DX10_init 105 rfl) ?_
  refine WA.nmM (fun M14 eM14 => ?_)
  have h := h _ eM14
  refine s_aload_n C (d_of DX10_init 106 rfl) rfl ?_
  refine s_bipush C (d_of DX10_init 107 rfl) ⟨rfl, by decide, by decide⟩ ?_
  refine na_14 (N := 24) C rfl (by decide) (d_of DX10_init 108 rfl) ?_
  refine WA.nmW (fun w15 ew15 => ?_)
  have h := h _ ew15
  have k16 : w15.2 (w.1 : Int) = (14, 10) := by rw [ew15]; exact us_ne k7 (Int.ne_of_lt b8)
  have b17 : (w.1 : Int) < (w15.1 : Int) := by have := b8; rw [ew15]; show _ < ((w6.1 + 1 : Nat) : Int); omega
  have k18 : w15.2 l0 = (11, 51) := by rw [ew15]; exact us_ne k10 (Int.ne_of_lt b11)
  have b19 : l0 < (w15.1 : Int) := by have := b11; rw [ew15]; show _ < ((w6.1 + 1 : Nat) : Int); omega
  have k20 : w15.2 (w1.1 : Int) = (12, 61) := by rw [ew15]; exact us_ne k12 (Int.ne_of_lt b13)
  have b21 : (w1.1 : Int) < (w15.1 : Int) := by have := b13; rw [ew15]; show _ < ((w6.1 + 1 : Nat) : Int); omega
  have k22 : w15.2 (w6.1 : Int) = (14, 24) := by rw [ew15]; exact us_new _ _ _ _
  have b23 : (w6.1 : Int) < (w15.1 : Int) := by rw [ew15]; show _ < ((w6.1 + 1 : Nat) : Int); omega
  refine pf_X10_89 C k18 (fun e => by cases e) (d_of DX10_init 109 rfl) ?_
  refine WA.nmM (fun M24 eM24 => ?_)
  have h := h _ eM24
  refine s_aload_n C (d_of DX10_init 110 rfl) rfl ?_
  refine s_sipush C (d_of DX10_init 111 rfl) ⟨rfl, by decide, by decide⟩ ?_
  refine na_14 (N := 576) C rfl (by decide) (d_of DX10_init 112 rfl) ?_
  refine WA.nmW (fun w25 ew25 => ?_)
  have h := h _ ew25
  have k26 : w25.2 (w.1 : Int) = (14, 10) := by rw [ew25]; exact us_ne k16 (Int.ne_of_lt b17)
  have b27 : (w.1 : Int) < (w25.1 : Int) := by have := b17; rw [ew25]; show _ < ((w15.1 + 1 : Nat) : Int); omega
  have k28 : w25.2 l0 = (11, 51) := by rw [ew25]; exact us_ne k18 (Int.ne_of_lt b19)
  have b29 : l0 < (w25.1 : Int) := by have := b19; rw [ew25]; show _ < ((w15.1 + 1 : Nat) : Int); omega
  have k30 : w25.2 (w1.1 : Int) = (12, 61) := by rw [ew25]; exact us_ne k20 (Int.ne_of_lt b21)
  have b31 : (w1.1 : Int) < (w25.1 : Int) := by have := b21; rw [ew25]; show _ < ((w15.1 + 1 : Nat) : Int); omega
  have k32 : w25.2 (w6.1 : Int) = (14, 24) := by rw [ew25]; exact us_ne k22 (Int.ne_of_lt b23)
  have b33 : (w6.1 : Int) < (w25.1 : Int) := by have := b23; rw [ew25]; show _ < ((w15.1 + 1 : Nat) : Int); omega
  have k34 : w25.2 (w15.1 : Int) = (14, 576) := by rw [ew25]; exact us_new _ _ _ _
  have b35 : (w15.1 : Int) < (w25.1 : Int) := by rw [ew25]; show _ < ((w15.1 + 1 : Nat) : Int); omega
  refine pf_X10_92 C k28 (fun e => by cases e) (d_of DX10_init 113 rfl) ?_
  refine WA.nmM (fun M36 eM36 => ?_)
  have h := h _ eM36
  exact h
set_option maxHeartbeats 4000000 in
set_option maxRecDepth 100000 in
theorem B_X10_init_231 {G : GP} {X : BX} {P : Int → NS → MM → Prop} {l0 : Int} {rc rs : Nat} {w : NS} {M : MM} (C : CX_X10_init G X) (h : ∀ w1 : NS, w1 = (w.1 + 1, us w.2 w.1 12 24) → (w1.2 l0 = (11, 51)) ∧ ∀ M5 : MM, M5 = (up M l0 35 (w.1 : Int)) → ∀ w6 : NS, w6 = (w1.1 + 1, us w1.2 w1.1 14 24) → (l0 < (w1.1 : Int)) ∧ ∀ M14 : MM, M14 = (up M5 l0 37 (w1.1 : Int)) → ∀ w15 : NS, w15 = (w6.1 + 1, us w6.2 w6.1 12 4) → ∀ M24 : MM, M24 = (up M14 l0 38 (w6.1 : Int)) → ∀ w25 : NS, w25 = (w15.1 + 1, us w15.2 w15.1 12 400) → ∀ M36 : MM, M36 = (up M24 l0 39 (w15.1 : Int)) → A_X10_init_263 G X P l0 (rc + 0) (rs + 0) w25 M36) : A_X10_init_231 G X P l0 (rc + 4) (rs + 452) w M := by
  unfold A_X10_init_231
  refine s_aload_n C (d_of DX10_init 114 rfl) rfl ?_
  refine s_bipush C (d_of DX10_init 115 rfl) ⟨rfl, by decide, by decide⟩ ?_
  refine na_12 (N := 24) C rfl (by decide) (d_of DX10_init 116 rfl) ?_
  refine WA.nmW (fun w1 ew1 => ?_)
  have h := h _ ew1
  have k2 : w1.2 (w.1 : Int) = (12, 24) := by rw [ew1]; exact us_new _ _ _ _
  have b3 : (w.1 : Int) < (w1.1 : Int) := by rw [ew1]; show _ < ((w.1 + 1 : Nat) : Int); omega
  obtain ⟨o4, h⟩ := h
  refine pf_X10_95 C o4 (fun e => by cases e) (d_of DX10_init 117 rfl) ?_
  refine WA.nmM (fun M5 eM5 => ?_)
  have h := h _ eM5
  refine s_aload_n C (d_of DX10_init 118 rfl) rfl ?_
  refine s_bipush C (d_of DX10_init 119 rfl) ⟨rfl, by decide, by decide⟩ ?_
  refine na_14 (N := 24) C rfl (by decide) (d_of DX10_init 120 rfl) ?_
  refine WA.nmW (fun w6 ew6 => ?_)
  have h := h _ ew6
  have k7 : w6.2 (w.1 : Int) = (12, 24) := by rw [ew6]; exact us_ne k2 (Int.ne_of_lt b3)
  have b8 : (w.1 : Int) < (w6.1 : Int) := by have := b3; rw [ew6]; show _ < ((w1.1 + 1 : Nat) : Int); omega
  obtain ⟨o9, h⟩ := h
  have k10 : w6.2 l0 = (11, 51) := by rw [ew6]; exact us_ne o4 (Int.ne_of_lt o9)
  have b11 : l0 < (w6.1 : Int) := by have := o9; rw [ew6]; show _ < ((w1.1 + 1 : Nat) : Int); omega
  have k12 : w6.2 (w1.1 : Int) = (14, 24) := by rw [ew6]; exact us_new _ _ _ _
  have b13 : (w1.1 : Int) < (w6.1 : Int) := by rw [ew6]; show _ < ((w1.1 + 1 : Nat) : Int); omega
  refine pf_X10_98 C k10 (fun e => by cases e) (d_of DX10_init 121 rfl) ?_
  refine WA.nmM (fun M14 eM14 => ?_)
  have h := h _ eM14
  refine s_aload_n C (d_of DX10_init 122 rfl) rfl ?_
  refine s_iconst C (d_of DX10_init 123 rfl) (by decide) ?_
  refine na_12 (N := 4) C rfl (by decide) (d_of DX10_init 124 rfl) ?_
  refine WA.nmW (fun w15 ew15 => ?_)
  have h := h _ ew15
  have k16 : w15.2 (w.1 : Int) = (12, 24) := by rw [ew15]; exact us_ne k7 (Int.ne_of_lt b8)
  have b17 : (w.1 : Int) < (w15.1 : Int) := by have := b8; rw [ew15]; show _ < ((w6.1 + 1 : Nat) : Int); omega
  have k18 : w15.2 l0 = (11, 51) := by rw [ew15]; exact us_ne k10 (Int.ne_of_lt b11)
  have b19 : l0 < (w15.1 : Int) := by have := b11; rw [ew15]; show _ < ((w6.1 + 1 : Nat) : Int); omega
  have k20 : w15.2 (w1.1 : Int) = (14, 24) := by rw [ew15]; exact us_ne k12 (Int.ne_of_lt b13)
  have b21 : (w1.1 : Int) < (w15.1 : Int) := by have := b13; rw [ew15]; show _ < ((w6.1 + 1 : Nat) : Int); omega
  have k22 : w15.2 (w6.1 : Int) = (12, 4) := by rw [ew15]; exact us_new _ _ _ _
  have b23 : (w6.1 : Int) < (w15.1 : Int) := by rw [ew15]; show _ < ((w6.1 + 1 : Nat) : Int); omega
  refine pf_X10_101 C k18 (fun e => by cases e) (d_of DX10_init 125 rfl) ?_
  refine WA.nmM (fun M24 eM24 => ?_)
  have h := h _ eM24
  refine s_aload_n C (d_of DX10_init 126 rfl) rfl ?_
  refine s_sipush C (d_of DX10_init 127 rfl) ⟨rfl, by decide, by decide⟩ ?_
  refine na_12 (N := 400) C rfl (by decide) (d_of DX10_init 128 rfl) ?_
  refine WA.nmW (fun w25 ew25 => ?_)
  have h := h _ ew25
  have k26 : w25.2 (w.1 : Int) = (12, 24) := by rw [ew25]; exact us_ne k16 (Int.ne_of_lt b17)
  have b27 : (w.1 : Int) < (w25.1 : Int) := by have := b17; rw [ew25]; show _ < ((w15.1 + 1 : Nat) : Int); omega
  have k28 : w25.2 l0 = (11, 51) := by rw [ew25]; exact us_ne k18 (Int.ne_of_lt b19)
  have b29 : l0 < (w25.1 : Int) := by have := b19; rw [ew25]; show _ < ((w15.1 + 1 : Nat) : Int); omega
  have k30 : w25.2 (w1.1 : Int) = (14, 24) := by rw [ew25]; exact us_ne k20 (Int.ne_of_lt b21)
  have b31 : (w1.1 : Int) < (w25.1 : Int) := by have := b21; rw [ew25]; show _ < ((w15.1 + 1 : Nat) : Int); omega
  have k32 : w25.2 (w6.1 : Int) = (12, 4) := by rw [ew25]; exact us_ne k22 (Int.ne_of_lt b23)
  have b33 : (w6.1 : Int) < (w25.1 : Int) := by have := b23; rw [ew25]; show _ < ((w15.1 + 1 : Nat) : Int); omega
  have k34 : w25.2 (w15.1 : Int) = (12, 400) := by rw [ew25]; exact us_new _ _ _ _
  have b35 : (w15.1 : Int) < (w25.1 : Int) := by rw [ew25]; show _ < ((w15.1 + 1 : Nat) : Int); omega
  refine pf_X10_104 C k28 (fun e => by cases e) (d_of DX10_init 129 rfl) ?_
  refine WA.nmM (fun M36 eM36 => ?_)
  have h := h _ eM36
  exact h
set_option maxHeartbeats 4000000 in
set_option maxRecDepth 100000 in
theorem B_X10_init_263 {G : GP} {X : BX} {P : Int → NS → MM → Prop} {l0 : Int} {rc rs : Nat} {w : NS} {M : MM} (C : CX_X10_init G X) (h : ∀ w1 : NS, w1 = (w.1 + 1, us w.2 w.1 12 9) → (w1.2 l0 = (11, 51)) ∧ ∀ M5 : MM, M5 = (up M l0 40 (w.1 : Int)) → ∀ w6 : NS, w6 = (w1.1 + 1, us w1.2 w1.1 12 9) → (l0 < (w1.1 : Int)) ∧ ∀ M14 : MM, M14 = (up M5 l0 41 (w1.1 : Int)) → ∀ w15 : NS, w15 = (w6.1 + 1, us w6.2 w6.1 14 2560) → ∀ M24 : MM, M24 = (up M14 l0 43 (w6.1 : Int)) → ∀ w25 : NS, w25 = (w15.1 + 1, us w15.2 w15.1 12 4) → ∀ M36 : MM, M36 = (up M24 l0 44 (w15.1 : Int)) → A_X10_init_295 G X P l0 (rc + 0) (rs + 0) w25 M36) : A_X10_init_263 G X P l0 (rc + 4) (rs + 2582) w M := by
  unfold A_X10_init_263
  refine s_aload_n C (d_of DX10_init 130 rfl) rfl ?_
  refine s_bipush C (d_of DX10_init 131 rfl) ⟨rfl, by decide, by decide⟩ ?_
  refine na_12 (N := 9) C rfl (by decide) (d_of DX10_init 132 rfl) ?_
  refine WA.nmW (fun w1 ew1 => ?_)
  have h := h _ ew1
  have k2 : w1.2 (w.1 : Int) = (12, 9) := by rw [ew1]; exact us_new _ _ _ _
  have b3 : (w.1 : Int) < (w1.1 : Int) := by rw [ew1]; show _ < ((w.1 + 1 : Nat) : Int); omega
  obtain ⟨o4, h⟩ := h
  refine pf_X10_107 C o4 (fun e => by cases e) (d_of DX10_init 133 rfl) ?_
  refine WA.nmM (fun M5 eM5 => ?_)
  have h := h _ eM5
  refine s_aload_n C (d_of DX10_init 134 rfl) rfl ?_
  refine s_bipush C (d_of DX10_init 135 rfl) ⟨rfl, by decide, by decide⟩ ?_
  refine na_12 (N := 9) C rfl (by decide) (d_of DX10_init 136 rfl) ?_
  refine WA.nmW (fun w6 ew6 => ?_)
  have h := h _ ew6
  have k7 : w6.2 (w.1 : Int) = (12, 9) := by rw [ew6]; exact us_ne k2 (Int.ne_of_lt b3)
  have b8 : (w.1 : Int) < (w6.1 : Int) := by have := b3; rw [ew6]; show _ < ((w1.1 + 1 : Nat) : Int); omega
  obtain ⟨o9, h⟩ := h
  have k10 : w6.2 l0 = (11, 51) := by rw [ew6]; exact us_ne o4 (Int.ne_of_lt o9)
  have b11 : l0 < (w6.1 : Int) := by have := o9; rw [ew6]; show _ < ((w1.1 + 1 : Nat) : Int); omega
  have k12 : w6.2 (w1.1 : Int) = (12, 9) := by rw [ew6]; exact us_new _ _ _ _
  have b13 : (w1.1 : Int) < (w6.1 : Int) := by rw [ew6]; show _ < ((w1.1 + 1 : Nat) : Int); omega
  refine pf_X10_110 C k10 (fun e => by cases e) (d_of DX10_init 137 rfl) ?_
  refine WA.nmM (fun M14 eM14 => ?_)
  have h := h _ eM14
  refine s_aload_n C (d_of DX10_init 138 rfl) rfl ?_
  refine s_sipush C (d_of DX10_init 139 rfl) ⟨rfl, by decide, by decide⟩ ?_
  refine na_14 (N := 2560) C rfl (by decide) (d_of DX10_init 140 rfl) ?_
  refine WA.nmW (fun w15 ew15 => ?_)
  have h := h _ ew15
  have k16 : w15.2 (w.1 : Int) = (12, 9) := by rw [ew15]; exact us_ne k7 (Int.ne_of_lt b8)
  have b17 : (w.1 : Int) < (w15.1 : Int) := by have := b8; rw [ew15]; show _ < ((w6.1 + 1 : Nat) : Int); omega
  have k18 : w15.2 l0 = (11, 51) := by rw [ew15]; exact us_ne k10 (Int.ne_of_lt b11)
  have b19 : l0 < (w15.1 : Int) := by have := b11; rw [ew15]; show _ < ((w6.1 + 1 : Nat) : Int); omega
  have k20 : w15.2 (w1.1 : Int) = (12, 9) := by rw [ew15]; exact us_ne k12 (Int.ne_of_lt b13)
  have b21 : (w1.1 : Int) < (w15.1 : Int) := by have := b13; rw [ew15]; show _ < ((w6.1 + 1 : Nat) : Int); omega
  have k22 : w15.2 (w6.1 : Int) = (14, 2560) := by rw [ew15]; exact us_new _ _ _ _
  have b23 : (w6.1 : Int) < (w15.1 : Int) := by rw [ew15]; show _ < ((w6.1 + 1 : Nat) : Int); omega
  refine pf_X10_113 C k18 (fun e => by cases e) (d_of DX10_init 141 rfl) ?_
  refine WA.nmM (fun M24 eM24 => ?_)
  have h := h _ eM24
  refine s_aload_n C (d_of DX10_init 142 rfl) rfl ?_
  refine s_iconst C (d_of DX10_init 143 rfl) (by decide) ?_
  refine na_12 (N := 4) C rfl (by decide) (d_of DX10_init 144 rfl) ?_
  refine WA.nmW (fun w25 ew25 => ?_)
  have h := h _ ew25
  have k26 : w25.2 (w.1 : Int) = (12, 9) := by rw [ew25]; exact us_ne k16 (Int.ne_of_lt b17)
  have b27 : (w.1 : Int) < (w25.1 : Int) := by have := b17; rw [ew25]; show _ < ((w15.1 + 1 : Nat) : Int); omega
  have k28 : w25.2 l0 = (11, 51) := by rw [ew25]; exact us_ne k18 (Int.ne_of_lt b19)
  have b29 : l0 < (w25.1 : Int) := by have := b19; rw [ew25]; show _ < ((w15.1 + 1 : Nat) : Int); omega
  have k30 : w25.2 (w1.1 : Int) = (12, 9) := by rw [ew25]; exact us_ne k20 (Int.ne_of_lt b21)
  have b31 : (w1.1 : Int) < (w25.1 : Int) := by have := b21; rw [ew25]; show _ < ((w15.1 + 1 : Nat) : Int); omega
  have k32 : w25.2 (w6.1 : Int) = (14, 2560) := by rw [ew25]; exact us_ne k22 (Int.ne_of_lt b23)
  have b33 : (w6.1 : Int) < (w25.1 : Int) := by have := b23; rw [ew25]; show _ < ((w15.1 + 1 : Nat) : Int); omega
  have k34 : w25.2 (w15.1 : Int) = (12, 4) := by rw [ew25]; exact us_new _ _ _ _
  have b35 : (w15.1 : Int) < (w25.1 : Int) := by rw [ew25]; show _ < ((w15.1 + 1 : Nat) : Int); omega
  refine pf_X10_116 C k28 (fun e => by cases e) (d_of DX10_init 145 rfl) ?_
  refine WA.nmM (fun M36 eM36 => ?_)
  have h := h _ eM36
  exact h
set_option maxHeartbeats 4000000 in
set_option maxRecDepth 100000 in
theorem B_X10_init_295 {G : GP} {X : BX} {P : Int → NS → MM → Prop} {l0 : Int} {rc rs : Nat} {w : NS} {M : MM} (C : CX_X10_init G X) (h : ∀ w1 : NS, w1 = (w.1 + 1, us w.2 w.1 12 8) → (w1.2 l0 = (11, 51)) ∧ ∀ M5 : MM, M5 = (up M l0 45 (w.1 : Int)) → ∀ w6 : NS, w6 = (w1.1 + 1, us w1.2 w1.1 12 40) → (l0 < (w1.1 : Int)) ∧ ∀ M14 : MM, M14 = (up M5 l0 46 (w1.1 : Int)) → ∀ w15 : NS, w15 = (w6.1 + 1, us w6.2 w6.1 12 8) → ∀ M24 : MM, M24 = (up M14 l0 47 (w6.1 : Int)) → ∀ w25 : NS, w25 = (w15.1 + 1, us w15.2 w15.1 12 8) → ∀ M36 : MM, M36 = (up M24 l0 48 (w15.1 : Int)) → A_X10_init_327 G X P l0 (rc + 0) (rs + 0) w25 M36) : A_X10_init_295 G X P l0 (rc + 4) (rs + 64) w M := by
  unfold A_X10_init_295
  refine s_aload_n C (d_of DX10_init 146 rfl) rfl ?_
  refine s_bipush C (d_of DX10_init 147 rfl) ⟨rfl, by decide, by decide⟩ ?_
  refine na_12 (N := 8) C rfl (by decide) (d_of DX10_init 148 rfl) ?_
  refine WA.nmW (fun w1 ew1 => ?_)
  have h := h _ ew1
  have k2 : w1.2 (w.1 : Int) = (12, 8) := by rw [ew1]; exact us_new _ _ _ _
  have b3 : (w.1 : Int) < (w1.1 : Int) := by rw [ew1]; show _ < ((w.1 + 1 : Nat) : Int); omega
  obtain ⟨o4, h⟩ := h
  refine pf_X10_119 C o4 (fun e => by cases e) (d_of DX10_init 149 rfl) ?_
  refine WA.nmM (fun M5 eM5 => ?_)
  have h := h _ eM5
  refine s_aload_n C (d_of DX10_init 150 rfl) rfl ?_
  refine s_bipush C (d_of DX10_init 151 rfl) ⟨rfl, by decide, by decide⟩ ?_
  refine na_12 (N := 40) C rfl (by decide) (d_of DX10_init 152 rfl) ?_
  refine WA.nmW (fun w6 ew6 => ?_)
  have h := h _ ew6
  have k7 : w6.2 (w.1 : Int) = (12, 8) := by rw [ew6]; exact us_ne k2 (Int.ne_of_lt b3)
  have b8 : (w.1 : Int) < (w6.1 : Int) := by have := b3; rw [ew6]; show _ < ((w1.1 + 1 : Nat) : Int); omega
  obtain ⟨o9, h⟩ := h
  have k10 : w6.2 l0 = (11, 51) := by rw [ew6]; exact us_ne o4 (Int.ne_of_lt o9)
  have b11 : l0 < (w6.1 : Int) := by have := o9; rw [ew6]; show _ < ((w1.1 + 1 : Nat) : Int); omega
  have k12 : w6.2 (w1.1 : Int) = (12, 40) := by rw [ew6]; exact us_new _ _ _ _
  have b13 : (w1.1 : Int) < (w6.1 : Int) := by rw [ew6]; show _ < ((w1.1 + 1 : Nat) : Int); omega
  refine pf_X10_122 C k10 (fun e => by cases e) (d_of DX10_init 153 rfl) ?_
  refine WA.nmM (fun M14 eM14 => ?_)
  have h := h _ eM14
  refine s_aload_n C (d_of DX10_init 154 rfl) rfl ?_
  refine s_bipush C (d_of DX10_init 155 rfl) ⟨rfl, by decide, by decide⟩ ?_
  refine na_12 (N := 8) C rfl (by decide) (d_of DX10_init 156 rfl) ?_
  refine WA.nmW (fun w15 ew15 => ?_)
  have h := h _ ew15
  have k16 : w15.2 (w.1 : Int) = (12, 8) := by rw [ew15]; exact us_ne k7 (Int.ne_of_lt b8)
  have b17 : (w.1 : Int) < (w15.1 : Int) := by have := b8; rw [ew15]; show _ < ((w6.1 + 1 : Nat) : Int); omega
  have k18 : w15.2 l0 = (11, 51) := by rw [ew15]; exact us_ne k10 (Int.ne_of_lt b11)
  have b19 : l0 < (w15.1 : Int) := by have := b11; rw [ew15]; show _ < ((w6.1 + 1 : Nat) : Int); omega
  have k20 : w15.2 (w1.1 : Int) = (12, 40) := by rw [ew15]; exact us_ne k12 (Int.ne_of_lt b13)
  have b21 : (w1.1 : Int) < (w15.1 : Int) := by have := b13; rw [ew15]; show _ < ((w6.1 + 1 : Nat) : Int); omega
  have k22 : w15.2 (w6.1 : Int) = (12, 8) := by rw [ew15]; exact us_new _ _ _ _
  have b23 : (w6.1 : Int) < (w15.1 : Int) := by rw [ew15]; show _ < ((w6.1 + 1 : Nat) : Int); omega
  refine pf_X10_125 C k18 (fun e => by cases e) (d_of DX10_init 157 rfl) ?_
  refine WA.nmM (fun M24 eM24 => ?_)
  have h := h _ eM24
  refine s_aload_n C (d_of DX10_init 158 rfl) rfl ?_
  refine s_bipush C (d_of DX10_init 159 rfl) ⟨rfl, by decide, by decide⟩ ?_
  refine na_12 (N := 8) C rfl (by decide) (d_of DX10_init 160 rfl) ?_
  refine WA.nmW (fun w25 ew25 => ?_)
  have h := h _ ew25
  have k26 : w25.2 (w.1 : Int) = (12, 8) := by rw [ew25]; exact us_ne k16 (Int.ne_of_lt b17)
  have b27 : (w.1 : Int) < (w25.1 : Int) := by have := b17; rw [ew25]; show _ < ((w15.1 + 1 : Nat) : Int); omega
  have k28 : w25.2 l0 = (11, 51) := by rw [ew25]; exact us_ne k18 (Int.ne_of_lt b19)
  have b29 : l0 < (w25.1 : Int) := by have := b19; rw [ew25]; show _ < ((w15.1 + 1 : Nat) : Int); omega
  have k30 : w25.2 (w1.1 : Int) = (12, 40) := by rw [ew25]; exact us_ne k20 (Int.ne_of_lt b21)
  have b31 : (w1.1 : Int) < (w25.1 : Int) := by have := b21; rw [ew25]; show _ < ((w15.1 + 1 : Nat) : Int); omega
  have k32 : w25.2 (w6.1 : Int) = (12, 8) := by rw [ew25]; exact us_ne k22 (Int.ne_of_lt b23)
  have b33 : (w6.1 : Int) < (w25.1 : Int) := by have := b23; rw [ew25]; show _ < ((w15.1 + 1 : Nat) : Int); omega
  have k34 : w25.2 (w15.1 : Int) = (12, 8) := by rw [ew25]; exact us_new _ _ _ _
  have b35 : (w15.1 : Int) < (w25.1 : Int) := by rw [ew25]; show _ < ((w15.1 + 1 : Nat) : Int); omega
  refine pf_X10_128 C k28 (fun e => by cases e) (d_of DX10_init 161 rfl) ?_
  refine WA.nmM (fun M36 eM36 => ?_)
  have h := h _ eM36
  exact h
set_option maxHeartbeats 4000000 in
set_option maxRecDepth 100000 in
theorem B_X10_init_327 {G : GP} {X : BX} {P : Int → NS → MM → Prop} {l0 : Int} {rc rs : Nat} {w : NS} {M : MM} (C : CX_X10_init G X) (h : ∀ w1 : NS, w1 = (w.1 + 1, us w.2 w.1 12 5) → (w1.2 l0 = (11, 51)) ∧ ∀ M5 : MM, M5 = (up M l0 49 (w.1 : Int)) → ∀ w6 : NS, w6 = (w1.1 + 1, us w1.2 w1.1 12 6) → (l0 < (w1.1 : Int)) ∧ ∀ M14 : MM, M14 = (up M5 l0 50 (w1.1 : Int)) → A_X10_init_344 G X P l0 0 (rc + 0) (rs + 0) w6 M14) : A_X10_init_327 G X P l0 (rc + 2) (rs + 11) w M := by
  unfold A_X10_init_327
  refine s_aload_n C (d_of DX10_init 162 rfl) rfl ?_
  refine s_iconst C (d_of DX10_init 163 rfl) (by decide) ?_
  refine na_12 (N := 5) C rfl (by decide) (d_of DX10_init 164 rfl) ?_
  refine WA.nmW (fun w1 ew1 => ?_)
  have h := h _ ew1
  have k2 : w1.2 (w.1 : Int) = (12, 5) := by rw [ew1]; exact us_new _ _ _ _
  have b3 : (w.1 : Int) < (w1.1 : Int) := by rw [ew1]; show _ < ((w.1 + 1 : Nat) : Int); omega
  obtain ⟨o4, h⟩ := h
  refine pf_X10_131 C o4 (fun e => by cases e) (d_of DX10_init 165 rfl) ?_
  refine WA.nmM (fun M5 eM5 => ?_)
  have h := h _ eM5
  refine s_aload_n C (d_of DX10_init 166 rfl) rfl ?_
  refine s_bipush C (d_of DX10_init 167 rfl) ⟨rfl, by decide, by decide⟩ ?_
  refine na_12 (N := 6) C rfl (by decide) (d_of DX10_init 168 rfl) ?_
  refine WA.nmW (fun w6 ew6 => ?_)
  have h := h _ ew6
  have k7 : w6.2 (w.1 : Int) = (12, 5) := by rw [ew6]; exact us_ne k2 (Int.ne_of_lt b3)
  have b8 : (w.1 : Int) < (w6.1 : Int) := by have := b3; rw [ew6]; show _ < ((w1.1 + 1 : Nat) : Int); omega
  obtain ⟨o9, h⟩ := h
  have k10 : w6.2 l0 = (11, 51) := by rw [ew6]; exact us_ne o4 (Int.ne_of_lt o9)
  have b11 : l0 < (w6.1 : Int) := by have := o9; rw [ew6]; show _ < ((w1.1 + 1 : Nat) : Int); omega
  have k12 : w6.2 (w1.1 : Int) = (12, 6) := by rw [ew6]; exact us_new _ _ _ _
  have b13 : (w1.1 : Int) < (w6.1 : Int) := by rw [ew6]; show _ < ((w1.1 + 1 : Nat) : Int); omega
  refine pf_X10_134 C k10 (fun e => by cases e) (d_of DX10_init 169 rfl) ?_
  refine WA.nmM (fun M14 eM14 => ?_)
  have h := h _ eM14
  refine s_iconst C (d_of DX10_init 170 rfl) (by decide) ?_
  refine s_istore_n (ls' := [(2, l0), (0, 0)]) C (d_of DX10_init 171 rfl) (by decide) rfl rfl ?_
  exact h
set_option maxHeartbeats 4000000 in
set_option maxRecDepth 100000 in
theorem B_X10_init_344 {G : GP} {X : BX} {P : Int → NS → MM → Prop} {l0 : Int} {l1 : Int} {rc rs : Nat} {w : NS} {M : MM} (C : CX_X10_init G X) (h : (((480 ≤ l1) → (w.2 l0 = (11, 51)) ∧ (w.2 (M l0 13) = (12, 9)) ∧ ∀ M3 : MM, M3 = (up M (M l0 13) 0 20) → (w.2 (M3 l0 13) = (12, 9)) ∧ ∀ M5 : MM, M5 = (up M3 (M3 l0 13) 1 5) → (w.2 (M5 l0 13) = (12, 9)) ∧ ∀ M7 : MM, M7 = (up M5 (M5 l0 13) 2 10) → (w.2 (M7 l0 13) = (12, 9)) ∧ ∀ M9 : MM, M9 = (up M7 (M7 l0 13) 3 500) → (w.2 (M9 l0 13) = (12, 9)) ∧ ∀ M11 : MM, M11 = (up M9 (M9 l0 13) 4 100) → (w.2 (M11 l0 13) = (12, 9)) ∧ ∀ M13 : MM, M13 = (up M11 (M11 l0 13) 5 3) → (w.2 (M13 l0 13) = (12, 9)) ∧ ∀ M15 : MM, M15 = (up M13 (M13 l0 13) 6 2) → (w.2 (M15 l0 13) = (12, 9)) ∧ ∀ M17 : MM, M17 = (up M15 (M15 l0 13) 7 1) → A_X10_init_430 G X P l0 0 (rc + 0) (rs + 0) w M17) ∧ ((¬ (480 ≤ l1)) → (w.2 l0 = (11, 51)) ∧ (w.2 (M l0 0) = (12, 480)) ∧ (0 ≤ l1) ∧ (l1 < 480) ∧ ∀ M22 : MM, M22 = (up M (M l0 0) l1 (-6)) → (inR (l1 + 1)) ∧ A_X10_init_344 G X P l0 (l1 + 1) (rc + 0) (rs + 0) w M22))) : A_X10_init_344 G X P l0 l1 (rc + 0) (rs + 0) w M := by
  unfold A_X10_init_344
  refine s_iload_n C (d_of DX10_init 172 rfl) rfl ?_
  refine s_sipush C (d_of DX10_init 173 rfl) ⟨rfl, by decide, by decide⟩ ?_
  refine s_icmpge C (d_of DX10_init 174 rfl) rfl (fun hc => ?_) (fun hc => ?_)
  · have h := h.1 hc
    refine s_aload_n C (d_of DX10_init 182 rfl) rfl ?_
    obtain ⟨o1, h⟩ := h
    refine gf_X10_43 (v0 := (M l0 13)) C o1 (d_of DX10_init 183 rfl) rfl ?_
    refine s_iconst C (d_of DX10_init 184 rfl) (by decide) ?_
    refine s_bipush C (d_of DX10_init 185 rfl) ⟨rfl, by decide, by decide⟩ ?_
    obtain ⟨o2, h⟩ := h
    refine s_iast C o2 (by decide) (by decide) (fun e => by cases e) (d_of DX10_init 186 rfl) ?_
    refine WA.nmM (fun M3 eM3 => ?_)
    have h := h _ eM3
    refine s_aload_n C (d_of DX10_init 187 rfl) rfl ?_
    refine gf_X10_43 (v0 := (M3 l0 13)) C o1 (d_of DX10_init 188 rfl) rfl ?_
    refine s_iconst C (d_of DX10_init 189 rfl) (by decide) ?_
    refine s_iconst C (d_of DX10_init 190 rfl) (by decide) ?_
    obtain ⟨o4, h⟩ := h
    refine s_iast C o4 (by decide) (by decide) (fun e => by cases e) (d_of DX10_init 191 rfl) ?_
    refine WA.nmM (fun M5 eM5 => ?_)
    have h := h _ eM5
    refine s_aload_n C (d_of DX10_init 192 rfl) rfl ?_
    refine gf_X10_43 (v0 := (M5 l0 13)) C o1 (d_of DX10_init 193 rfl) rfl ?_
    refine s_iconst C (d_of DX10_init 194 rfl) (by decide) ?_
    refine s_bipush C (d_of DX10_init 195 rfl) ⟨rfl, by decide, by decide⟩ ?_
    obtain ⟨o6, h⟩ := h
    refine s_iast C o6 (by decide) (by decide) (fun e => by cases e) (d_of DX10_init 196 rfl) ?_
    refine WA.nmM (fun M7 eM7 => ?_)
    have h := h _ eM7
    refine s_aload_n C (d_of DX10_init 197 rfl) rfl ?_
    refine gf_X10_43 (v0 := (M7 l0 13)) C o1 (d_of DX10_init 198 rfl) rfl ?_
    refine s_iconst C (d_of DX10_init 199 rfl) (by decide) ?_
    refine s_sipush C (d_of DX10_init 200 rfl) ⟨rfl, by decide, by decide⟩ ?_
    obtain ⟨o8, h⟩ := h
    refine s_iast C o8 (by decide) (by decide) (fun e => by cases e) (d_of DX10_init 201 rfl) ?_
    refine WA.nmM (fun M9 eM9 => ?_)
    have h := h _ eM9
    refine s_aload_n C (d_of DX10_init 202 rfl) rfl ?_
    refine gf_X10_43 (v0 := (M9 l0 13)) C o1 (d_of DX10_init 203 rfl) rfl ?_
    refine s_iconst C (d_of DX10_init 204 rfl) (by decide) ?_
    refine s_bipush C (d_of DX10_init 205 rfl) ⟨rfl, by decide, by decide⟩ ?_
    obtain ⟨o10, h⟩ := h
    refine s_iast C o10 (by decide) (by decide) (fun e => by cases e) (d_of DX10_init 206 rfl) ?_
    refine WA.nmM (fun M11 eM11 => ?_)
    have h := h _ eM11
    refine s_aload_n C (d_of DX10_init 207 rfl) rfl ?_
    refine gf_X10_43 (v0 := (M11 l0 13)) C o1 (d_of DX10_init 208 rfl) rfl ?_
    refine s_iconst C (d_of DX10_init 209 rfl) (by decide) ?_
    refine s_iconst C (d_of DX10_init 210 rfl) (by decide) ?_
    obtain ⟨o12, h⟩ := h
    refine s_iast C o12 (by decide) (by decide) (fun e => by cases e) (d_of DX10_init 211 rfl) ?_
    refine WA.nmM (fun M13 eM13 => ?_)
    have h := h _ eM13
    refine s_aload_n C (d_of DX10_init 212 rfl) rfl ?_
    refine gf_X10_43 (v0 := (M13 l0 13)) C o1 (d_of DX10_init 213 rfl) rfl ?_
    refine s_bipush C (d_of DX10_init 214 rfl) ⟨rfl, by decide, by decide⟩ ?_
    refine s_iconst C (d_of DX10_init 215 rfl) (by decide) ?_
    obtain ⟨o14, h⟩ := h
    refine s_iast C o14 (by decide) (by decide) (fun e => by cases e) (d_of DX10_init 216 rfl) ?_
    refine WA.nmM (fun M15 eM15 => ?_)
    have h := h _ eM15
    refine s_aload_n C (d_of DX10_init 217 rfl) rfl ?_
    refine gf_X10_43 (v0 := (M15 l0 13)) C o1 (d_of DX10_init 218 rfl) rfl ?_
    refine s_bipush C (d_of DX10_init 219 rfl) ⟨rfl, by decide, by decide⟩ ?_
    refine s_iconst C (d_of DX10_init 220 rfl) (by decide) ?_
    obtain ⟨o16, h⟩ := h
    refine s_iast C o16 (by decide) (by decide) (fun e => by cases e) (d_of DX10_init 221 rfl) ?_
    refine WA.nmM (fun M17 eM17 => ?_)
    have h := h _ eM17
    refine s_iconst C (d_of DX10_init 222 rfl) (by decide) ?_
    refine s_istore_n (ls' := [(2, l0), (0, 0)]) C (d_of DX10_init 223 rfl) (by decide) rfl rfl ?_
    exact h
  · have h := h.2 hc
    refine s_aload_n C (d_of DX10_init 175 rfl) rfl ?_
    obtain ⟨o18, h⟩ := h
    refine gf_X10_7 (v0 := (M l0 0)) C o18 (d_of DX10_init 176 rfl) rfl ?_
    refine s_iload_n C (d_of DX10_init 177 rfl) rfl ?_
    refine s_bipush C (d_of DX10_init 178 rfl) ⟨rfl, by decide, by decide⟩ ?_
    obtain ⟨o19, h⟩ := h
    obtain ⟨o20, h⟩ := h
    obtain ⟨o21, h⟩ := h
    refine s_iast C o19 o20 o21 (fun e => by cases e) (d_of DX10_init 179 rfl) ?_
    refine WA.nmM (fun M22 eM22 => ?_)
    have h := h _ eM22
    obtain ⟨o23, h⟩ := h
    refine s_iinc (ls' := [(2, l0), (0, (l1 + 1))]) C (d_of DX10_init 180 rfl) (by decide) rfl o23 rfl rfl ?_
    refine s_goto C (d_of DX10_init 181 rfl) rfl ?_
    exact h
set_option maxHeartbeats 4000000 in
set_option maxRecDepth 100000 in
theorem B_X10_init_430 {G : GP} {X : BX} {P : Int → NS → MM → Prop} {l0 : Int} {l1 : Int} {rc rs : Nat} {w : NS} {M : MM} (C : CX_X10_init G X) (h : (((4 ≤ l1) → A_X10_init_451 G X P l0 0 (rc + 0) (rs + 0) w M) ∧ ((¬ (4 ≤ l1)) → (w.2 l0 = (11, 51)) ∧ (w.2 (M l0 38) = (12, 4)) ∧ (0 ≤ l1) ∧ (l1 < 4) ∧ ∀ M5 : MM, M5 = (up M (M l0 38) l1 (-6)) → (inR (l1 + 1)) ∧ A_X10_init_430 G X P l0 (l1 + 1) (rc + 0) (rs + 0) w M5))) : A_X10_init_430 G X P l0 l1 (rc + 0) (rs + 0) w M := by
  unfold A_X10_init_430
  refine s_iload_n C (d_of DX10_init 224 rfl) rfl ?_
  refine s_iconst C (d_of DX10_init 225 rfl) (by decide) ?_
  refine s_icmpge C (d_of DX10_init 226 rfl) rfl (fun hc => ?_) (fun hc => ?_)
  · have h := h.1 hc
    refine s_iconst C (d_of DX10_init 234 rfl) (by decide) ?_
    refine s_istore_n (ls' := [(2, l0), (0, 0)]) C (d_of DX10_init 235 rfl) (by decide) rfl rfl ?_
    exact h
  · have h := h.2 hc
    refine s_aload_n C (d_of DX10_init 227 rfl) rfl ?_
    obtain ⟨o1, h⟩ := h
    refine gf_X10_101 (v0 := (M l0 38)) C o1 (d_of DX10_init 228 rfl) rfl ?_
    refine s_iload_n C (d_of DX10_init 229 rfl) rfl ?_
    refine s_bipush C (d_of DX10_init 230 rfl) ⟨rfl, by decide, by decide⟩ ?_
    obtain ⟨o2, h⟩ := h
    obtain ⟨o3, h⟩ := h
    obtain ⟨o4, h⟩ := h
    refine s_iast C o2 o3 o4 (fun e => by cases e) (d_of DX10_init 231 rfl) ?_
    refine WA.nmM (fun M5 eM5 => ?_)
    have h := h _ eM5
    obtain ⟨o6, h⟩ := h
    refine s_iinc (ls' := [(2, l0), (0, (l1 + 1))]) C (d_of DX10_init 232 rfl) (by decide) rfl o6 rfl rfl ?_
    refine s_goto C (d_of DX10_init 233 rfl) rfl ?_
    exact h
set_option maxHeartbeats 4000000 in
set_option maxRecDepth 100000 in
theorem B_X10_init_451 {G : GP} {X : BX} {P : Int → NS → MM → Prop} {l0 : Int} {l1 : Int} {rc rs : Nat} {w : NS} {M : MM} (C : CX_X10_init G X) (h : (((4 ≤ l1) → P 0 w M) ∧ ((¬ (4 ≤ l1)) → (w.2 l0 = (11, 51)) ∧ (inR (2 * l1)) ∧ (w.2 (M l0 45) = (12, 8)) ∧ (0 ≤ (2 * l1)) ∧ ((2 * l1) < 8) ∧ ∀ M6 : MM, M6 = (up M (M l0 45) (2 * l1) 50) → (inR ((2 * l1) + 1)) ∧ (w.2 (M6 l0 45) = (12, 8)) ∧ (0 ≤ ((2 * l1) + 1)) ∧ (((2 * l1) + 1) < 8) ∧ ∀ M11 : MM, M11 = (up M6 (M6 l0 45) ((2 * l1) + 1) 100) → (inR (l1 + 1)) ∧ A_X10_init_451 G X P l0 (l1 + 1) (rc + 0) (rs + 0) w M11))) : A_X10_init_451 G X P l0 l1 (rc + 0) (rs + 0) w M := by
  unfold A_X10_init_451
  refine s_iload_n C (d_of DX10_init 236 rfl) rfl ?_
  refine s_iconst C (d_of DX10_init 237 rfl) (by decide) ?_
  refine s_icmpge C (d_of DX10_init 238 rfl) rfl (fun hc => ?_) (fun hc => ?_)
  · have h := h.1 hc
    exact s_vreturn C (d_of DX10_init 257 rfl) h
  · have h := h.2 hc
    refine s_aload_n C (d_of DX10_init 239 rfl) rfl ?_
    obtain ⟨o1, h⟩ := h
    refine gf_X10_119 (v0 := (M l0 45)) C o1 (d_of DX10_init 240 rfl) rfl ?_
    refine s_iconst C (d_of DX10_init 241 rfl) (by decide) ?_
    refine s_iload_n C (d_of DX10_init 242 rfl) rfl ?_
    obtain ⟨o2, h⟩ := h
    refine s_imul C (d_of DX10_init 243 rfl) o2 ?_
    refine s_bipush C (d_of DX10_init 244 rfl) ⟨rfl, by decide, by decide⟩ ?_
    obtain ⟨o3, h⟩ := h
    obtain ⟨o4, h⟩ := h
    obtain ⟨o5, h⟩ := h
    refine s_iast C o3 o4 o5 (fun e => by cases e) (d_of DX10_init 245 rfl) ?_
    refine WA.nmM (fun M6 eM6 => ?_)
    have h := h _ eM6
    refine s_aload_n C (d_of DX10_init 246 rfl) rfl ?_
    refine gf_X10_119 (v0 := (M6 l0 45)) C o1 (d_of DX10_init 247 rfl) rfl ?_
    refine s_iconst C (d_of DX10_init 248 rfl) (by decide) ?_
    refine s_iload_n C (d_of DX10_init 249 rfl) rfl ?_
    refine s_imul C (d_of DX10_init 250 rfl) o2 ?_
    refine s_iconst C (d_of DX10_init 251 rfl) (by decide) ?_
    obtain ⟨o7, h⟩ := h
    refine s_iadd C (d_of DX10_init 252 rfl) o7 ?_
    refine s_bipush C (d_of DX10_init 253 rfl) ⟨rfl, by decide, by decide⟩ ?_
    obtain ⟨o8, h⟩ := h
    obtain ⟨o9, h⟩ := h
    obtain ⟨o10, h⟩ := h
    refine s_iast C o8 o9 o10 (fun e => by cases e) (d_of DX10_init 254 rfl) ?_
    refine WA.nmM (fun M11 eM11 => ?_)
    have h := h _ eM11
    obtain ⟨o12, h⟩ := h
    refine s_iinc (ls' := [(2, l0), (0, (l1 + 1))]) C (d_of DX10_init 255 rfl) (by decide) rfl o12 rfl rfl ?_
    refine s_goto C (d_of DX10_init 256 rfl) rfl ?_
    exact h
theorem E_X10_init {G : GP} {l : Launch} {P : Int → NS → MM → Prop} {l0 : Int} {w : NS} {M : MM} (h : ∀ X : BX, X.2.1 = l → CX_X10_init G X → A_X10_init_0 G X P l0 42 5112 w M) : CT_X10_init G l [(2, l0)] w M P :=
  CT.of RX10 "<init>" (by decide +kernel) rfl rfl rfl (Nat.le_of_ble_eq_true rfl) (fun hr X hX C => h  X hX C)
def A_X10_page_0 (G : GP) (X : BX) (P : Int → NS → MM → Prop) (l1 : Int) (l2 : Int) (w : NS) (M : MM) : Prop := WA true G X (QM G X true 0 P) 3 0 [(2, 41), (0, l1), (0, l2)] [] 0 0 w M
set_option maxHeartbeats 4000000 in
set_option maxRecDepth 100000 in
theorem B_X10_page_0 {G : GP} {X : BX} {P : Int → NS → MM → Prop} {l1 : Int} {l2 : Int} {w : NS} {M : MM} (C : CX_X10_page G X) (h : (((¬ (0 ≤ l1 ∧ l1 ≤ 9)) → P (-2) w M) ∧ (((0 ≤ l1 ∧ l1 ≤ 9)) → ((((0 ≤ l2 ∧ l2 ≤ 99)) → ((((M 41 4) ≠ 8) → (0 ≤ (M 41 4)) ∧ ((M 41 4) < 8) ∧ (inR ((M 41 4) + 1)) ∧ (inR (((M 41 4) + 1) - 1)) ∧ P (((M 41 4) + 1) - 1) w (up (up (up (up M 43 (M 41 4) l1) 44 (M 41 4) l2) 45 (M 41 4) (-6)) 41 4 ((M 41 4) + 1))) ∧ ((¬ ((M 41 4) ≠ 8)) → P (-4) w M))) ∧ ((¬ (0 ≤ l2 ∧ l2 ≤ 99)) → P (-2) w M))))) : A_X10_page_0 G X P l1 l2 w M := by
  unfold A_X10_page_0
  refine s_iload_n C (d_of DX10_page 0 rfl) rfl ?_
  refine s_i2l C (d_of DX10_page 1 rfl) ?_
  refine s_lconst (z := 0) C (d_of DX10_page 2 rfl) ⟨rfl, by decide⟩ ?_
  refine s_ldc2 (z := 9) C (d_of DX10_page 3 rfl) (mG (wd_929) rfl) ⟨rfl, by decide⟩ ?_
  refine s_callS (av := [(1, l1), (1, 0), (1, 9)]) (rest := []) (mc := 0) (ms := 0) C (d_of DX10_page 4 rfl) lk_X10_139 rfl rfl (Nat.le_of_ble_eq_true rfl) (by decide) (by decide) (pc_X10_in) (fun z1 wz1 Mz1 hq => ?_)
  obtain ⟨hq1, hq2, hq3⟩ := hq
  have hq2 := hq2.symm
  have hq3 := hq3.symm
  subst hq1 hq2 hq3
  refine s_ifeq C (d_of DX10_page 5 rfl) rfl (fun hc => ?_) (fun hc => ?_)
  · have h := h.1 (b2i_0.mp hc)
    refine s_bipush C (d_of DX10_page 9 rfl) ⟨rfl, by decide, by decide⟩ ?_
    exact s_ireturn C (d_of DX10_page 10 rfl) h
  · have h := h.2 (b2i_n0 hc)
    refine s_iload_n C (d_of DX10_page 6 rfl) rfl ?_
    refine s_callS (av := [(0, l2)]) (rest := []) (mc := 0) (ms := 0) C (d_of DX10_page 7 rfl) lk_X10_152 rfl rfl (Nat.le_of_ble_eq_true rfl) (by decide) (by decide) (pc_X10_isDay) (fun z2 wz2 Mz2 hq => ?_)
    obtain ⟨hq1, hq2, hq3⟩ := hq
    have hq2 := hq2.symm
    have hq3 := hq3.symm
    subst hq1 hq2 hq3
    refine s_ifne C (d_of DX10_page 8 rfl) rfl (fun hc => ?_) (fun hc => ?_)
    · have h := h.1 (b2i_n0 hc)
      refine s_aload_n C (d_of DX10_page 11 rfl) rfl ?_
      refine WA.fix (fun hF3 => ?_)
      refine gf_X10_143 (v0 := (M 41 4)) C (sh_41 hF3) (d_of DX10_page 12 rfl) rfl ?_
      refine s_bipush C (d_of DX10_page 13 rfl) ⟨rfl, by decide, by decide⟩ ?_
      refine s_icmpne C (d_of DX10_page 14 rfl) rfl (fun hc => ?_) (fun hc => ?_)
      · have h := h.1 hc
        refine s_aload_n C (d_of DX10_page 17 rfl) rfl ?_
        refine gf_X10_13 C (sh_41 hF3) (d_of DX10_page 18 rfl) (fx_41_1 hF3) ?_
        refine s_aload_n C (d_of DX10_page 19 rfl) rfl ?_
        refine gf_X10_143 (v0 := (M 41 4)) C (sh_41 hF3) (d_of DX10_page 20 rfl) rfl ?_
        refine s_iload_n C (d_of DX10_page 21 rfl) rfl ?_
        obtain ⟨o4, h⟩ := h
        obtain ⟨o5, h⟩ := h
        refine s_iast C (sh_43 hF3) o4 o5 (fun _ => by decide) (d_of DX10_page 22 rfl) ?_
        refine s_aload_n C (d_of DX10_page 23 rfl) rfl ?_
        refine WA.fix (fun hF6 => ?_)
        refine gf_X10_16 C (sh_41 hF3) (d_of DX10_page 24 rfl) (fx_41_2 hF6) ?_
        refine s_aload_n C (d_of DX10_page 25 rfl) rfl ?_
        refine gf_X10_143 (v0 := (M 41 4)) C (sh_41 hF3) (d_of DX10_page 26 rfl) (up_na (by decide)) ?_
        refine s_iload_n C (d_of DX10_page 27 rfl) rfl ?_
        refine s_iast C (sh_44 hF6) o4 o5 (fun _ => by decide) (d_of DX10_page 28 rfl) ?_
        refine s_aload_n C (d_of DX10_page 29 rfl) rfl ?_
        refine WA.fix (fun hF7 => ?_)
        refine gf_X10_19 C (sh_41 hF3) (d_of DX10_page 30 rfl) (fx_41_3 hF7) ?_
        refine s_aload_n C (d_of DX10_page 31 rfl) rfl ?_
        refine gf_X10_143 (v0 := (M 41 4)) C (sh_41 hF3) (d_of DX10_page 32 rfl) ((up_na (by decide)).trans (up_na (by decide))) ?_
        refine s_bipush C (d_of DX10_page 33 rfl) ⟨rfl, by decide, by decide⟩ ?_
        refine s_iast C (sh_45 hF7) o4 o5 (fun _ => by decide) (d_of DX10_page 34 rfl) ?_
        refine s_aload_n C (d_of DX10_page 35 rfl) rfl ?_
        refine s_dup C (by simp) (d_of DX10_page 36 rfl) ?_
        refine gf_X10_143 (v0 := (M 41 4)) C (sh_41 hF3) (d_of DX10_page 37 rfl) ((up_na (by decide)).trans ((up_na (by decide)).trans (up_na (by decide)))) ?_
        refine s_iconst C (d_of DX10_page 38 rfl) (by decide) ?_
        obtain ⟨o8, h⟩ := h
        refine s_iadd C (d_of DX10_page 39 rfl) o8 ?_
        refine pf_X10_143 C (sh_41 hF3) (fun _ => by decide) (d_of DX10_page 40 rfl) ?_
        refine s_aload_n C (d_of DX10_page 41 rfl) rfl ?_
        refine gf_X10_143 (v0 := ((M 41 4) + 1)) C (sh_41 hF3) (d_of DX10_page 42 rfl) (up_eq) ?_
        refine s_iconst C (d_of DX10_page 43 rfl) (by decide) ?_
        obtain ⟨o9, h⟩ := h
        refine s_isub C (d_of DX10_page 44 rfl) o9 ?_
        exact s_ireturn C (d_of DX10_page 45 rfl) h
      · have h := h.2 hc
        refine s_bipush C (d_of DX10_page 15 rfl) ⟨rfl, by decide, by decide⟩ ?_
        exact s_ireturn C (d_of DX10_page 16 rfl) h
    · have h := h.2 (b2i_nn hc)
      refine s_bipush C (d_of DX10_page 9 rfl) ⟨rfl, by decide, by decide⟩ ?_
      exact s_ireturn C (d_of DX10_page 10 rfl) h
theorem E_X10_page {G : GP} {l : Launch} {P : Int → NS → MM → Prop} {l1 : Int} {l2 : Int} {w : NS} {M : MM} (h : inR l1 → inR l2 → ∀ X : BX, X.2.1 = l → CX_X10_page G X → A_X10_page_0 G X P l1 l2 w M) : CT_X10_page G l [(2, 41), (0, l1), (0, l2)] w M P :=
  CT.of RX10 "page" (by decide +kernel) rfl rfl rfl (Nat.le_of_ble_eq_true rfl) (fun hr X hX C => h (hr (0, l1) (by simp)) (hr (0, l2) (by simp)) X hX C)
def A_X10_isKept_0 (G : GP) (X : BX) (P : Int → NS → MM → Prop) (l1 : Int) (w : NS) (M : MM) : Prop := WA true G X (QM G X true 0 P) 4 0 [(2, 41), (0, l1), (3, 0), (3, 0)] [] 0 0 w M
def A_X10_isKept_4 (G : GP) (X : BX) (P : Int → NS → MM → Prop) (l1 : Int) (l2 : Int) (l3 : Int) (w : NS) (M : MM) : Prop := WA true G X (QM G X true 0 P) 4 4 [(2, 41), (0, l1), (0, l2), (0, l3)] [] 0 0 w M
set_option maxHeartbeats 4000000 in
set_option maxRecDepth 100000 in
theorem B_X10_isKept_0 {G : GP} {X : BX} {P : Int → NS → MM → Prop} {l1 : Int} {w : NS} {M : MM} (C : CX_X10_isKept G X) (h : A_X10_isKept_4 G X P l1 0 0 w M) : A_X10_isKept_0 G X P l1 w M := by
  unfold A_X10_isKept_0
  refine s_iconst C (d_of DX10_isKept 0 rfl) (by decide) ?_
  refine s_istore_n (ls' := [(2, 41), (0, l1), (0, 0), (3, 0)]) C (d_of DX10_isKept 1 rfl) (by decide) rfl rfl ?_
  refine s_iconst C (d_of DX10_isKept 2 rfl) (by decide) ?_
  refine s_istore_n (ls' := [(2, 41), (0, l1), (0, 0), (0, 0)]) C (d_of DX10_isKept 3 rfl) (by decide) rfl rfl ?_
  exact h
set_option maxHeartbeats 4000000 in
set_option maxRecDepth 100000 in
theorem B_X10_isKept_4 {G : GP} {X : BX} {P : Int → NS → MM → Prop} {l1 : Int} {l2 : Int} {l3 : Int} {w : NS} {M : MM} (C : CX_X10_isKept G X) (h : ((((M 41 12) ≤ l3) → (l2 = 0 ∨ l2 = 1) ∧ P l2 w M) ∧ ((¬ ((M 41 12) ≤ l3)) → (((l2 ≠ 0) → (inR (l3 + 1)) ∧ A_X10_isKept_4 G X P l1 1 (l3 + 1) w M) ∧ ((¬ (l2 ≠ 0)) → (0 ≤ l3) ∧ (l3 < 24) ∧ ((((M 46 l3) ≠ l1) → (inR (l3 + 1)) ∧ A_X10_isKept_4 G X P l1 0 (l3 + 1) w M) ∧ ((¬ ((M 46 l3) ≠ l1)) → ((((M 52 l3) ≠ 0) → (inR (l3 + 1)) ∧ A_X10_isKept_4 G X P l1 1 (l3 + 1) w M) ∧ ((¬ ((M 52 l3) ≠ 0)) → ((((M 51 l3) = 0) → (inR (l3 + 1)) ∧ A_X10_isKept_4 G X P l1 0 (l3 + 1) w M) ∧ ((¬ ((M 51 l3) = 0)) → (inR (l3 + 1)) ∧ A_X10_isKept_4 G X P l1 1 (l3 + 1) w M))))))))))) : A_X10_isKept_4 G X P l1 l2 l3 w M := by
  unfold A_X10_isKept_4
  refine s_iload_n C (d_of DX10_isKept 4 rfl) rfl ?_
  refine s_aload_n C (d_of DX10_isKept 5 rfl) rfl ?_
  refine WA.fix (fun hF1 => ?_)
  refine gf_X10_147 (v0 := (M 41 12)) C (sh_41 hF1) (d_of DX10_isKept 6 rfl) rfl ?_
  refine s_icmpge C (d_of DX10_isKept 7 rfl) rfl (fun hc => ?_) (fun hc => ?_)
  · have h := h.1 hc
    refine s_iload_n C (d_of DX10_isKept 32 rfl) rfl ?_
    obtain ⟨o2, h⟩ := h
    exact s_zreturn C (d_of DX10_isKept 33 rfl) o2 h
  · have h := h.2 hc
    refine s_iload_n C (d_of DX10_isKept 8 rfl) rfl ?_
    refine s_ifne C (d_of DX10_isKept 9 rfl) rfl (fun hc => ?_) (fun hc => ?_)
    · have h := h.1 hc
      refine s_iconst C (d_of DX10_isKept 26 rfl) (by decide) ?_
      refine s_goto C (d_of DX10_isKept 27 rfl) rfl ?_
      refine s_istore_n (ls' := [(2, 41), (0, l1), (0, 1), (0, l3)]) C (d_of DX10_isKept 29 rfl) (by decide) rfl rfl ?_
      obtain ⟨o3, h⟩ := h
      refine s_iinc (ls' := [(2, 41), (0, l1), (0, 1), (0, (l3 + 1))]) C (d_of DX10_isKept 30 rfl) (by decide) rfl o3 rfl rfl ?_
      refine s_goto C (d_of DX10_isKept 31 rfl) rfl ?_
      exact h
    · have h := h.2 hc
      refine s_aload_n C (d_of DX10_isKept 10 rfl) rfl ?_
      refine gf_X10_22 C (sh_41 hF1) (d_of DX10_isKept 11 rfl) (fx_41_5 hF1) ?_
      refine s_iload_n C (d_of DX10_isKept 12 rfl) rfl ?_
      obtain ⟨o4, h⟩ := h
      obtain ⟨o5, h⟩ := h
      refine s_iald (v0 := (M 46 l3)) C (sh_46 hF1) o4 o5 (d_of DX10_isKept 13 rfl) rfl ?_
      refine s_iload_n C (d_of DX10_isKept 14 rfl) rfl ?_
      refine s_icmpne C (d_of DX10_isKept 15 rfl) rfl (fun hc => ?_) (fun hc => ?_)
      · have h := h.1 hc
        refine s_iconst C (d_of DX10_isKept 28 rfl) (by decide) ?_
        refine s_istore_n (ls' := [(2, 41), (0, l1), (0, 0), (0, l3)]) C (d_of DX10_isKept 29 rfl) (by decide) rfl rfl ?_
        obtain ⟨o6, h⟩ := h
        refine s_iinc (ls' := [(2, 41), (0, l1), (0, 0), (0, (l3 + 1))]) C (d_of DX10_isKept 30 rfl) (by decide) rfl o6 rfl rfl ?_
        refine s_goto C (d_of DX10_isKept 31 rfl) rfl ?_
        exact h
      · have h := h.2 hc
        refine s_aload_n C (d_of DX10_isKept 16 rfl) rfl ?_
        refine gf_X10_40 C (sh_41 hF1) (d_of DX10_isKept 17 rfl) (fx_41_11 hF1) ?_
        refine s_iload_n C (d_of DX10_isKept 18 rfl) rfl ?_
        refine s_iald (v0 := (M 52 l3)) C (sh_52 hF1) o4 o5 (d_of DX10_isKept 19 rfl) rfl ?_
        refine s_ifne C (d_of DX10_isKept 20 rfl) rfl (fun hc => ?_) (fun hc => ?_)
        · have h := h.1 hc
          refine s_iconst C (d_of DX10_isKept 26 rfl) (by decide) ?_
          refine s_goto C (d_of DX10_isKept 27 rfl) rfl ?_
          refine s_istore_n (ls' := [(2, 41), (0, l1), (0, 1), (0, l3)]) C (d_of DX10_isKept 29 rfl) (by decide) rfl rfl ?_
          obtain ⟨o7, h⟩ := h
          refine s_iinc (ls' := [(2, 41), (0, l1), (0, 1), (0, (l3 + 1))]) C (d_of DX10_isKept 30 rfl) (by decide) rfl o7 rfl rfl ?_
          refine s_goto C (d_of DX10_isKept 31 rfl) rfl ?_
          exact h
        · have h := h.2 hc
          refine s_aload_n C (d_of DX10_isKept 21 rfl) rfl ?_
          refine gf_X10_37 C (sh_41 hF1) (d_of DX10_isKept 22 rfl) (fx_41_10 hF1) ?_
          refine s_iload_n C (d_of DX10_isKept 23 rfl) rfl ?_
          refine s_iald (v0 := (M 51 l3)) C (sh_51 hF1) o4 o5 (d_of DX10_isKept 24 rfl) rfl ?_
          refine s_ifeq C (d_of DX10_isKept 25 rfl) rfl (fun hc => ?_) (fun hc => ?_)
          · have h := h.1 hc
            refine s_iconst C (d_of DX10_isKept 28 rfl) (by decide) ?_
            refine s_istore_n (ls' := [(2, 41), (0, l1), (0, 0), (0, l3)]) C (d_of DX10_isKept 29 rfl) (by decide) rfl rfl ?_
            obtain ⟨o8, h⟩ := h
            refine s_iinc (ls' := [(2, 41), (0, l1), (0, 0), (0, (l3 + 1))]) C (d_of DX10_isKept 30 rfl) (by decide) rfl o8 rfl rfl ?_
            refine s_goto C (d_of DX10_isKept 31 rfl) rfl ?_
            exact h
          · have h := h.2 hc
            refine s_iconst C (d_of DX10_isKept 26 rfl) (by decide) ?_
            refine s_goto C (d_of DX10_isKept 27 rfl) rfl ?_
            refine s_istore_n (ls' := [(2, 41), (0, l1), (0, 1), (0, l3)]) C (d_of DX10_isKept 29 rfl) (by decide) rfl rfl ?_
            obtain ⟨o9, h⟩ := h
            refine s_iinc (ls' := [(2, 41), (0, l1), (0, 1), (0, (l3 + 1))]) C (d_of DX10_isKept 30 rfl) (by decide) rfl o9 rfl rfl ?_
            refine s_goto C (d_of DX10_isKept 31 rfl) rfl ?_
            exact h
theorem E_X10_isKept {G : GP} {l : Launch} {P : Int → NS → MM → Prop} {l1 : Int} {w : NS} {M : MM} (h : inR l1 → ∀ X : BX, X.2.1 = l → CX_X10_isKept G X → A_X10_isKept_0 G X P l1 w M) : CT_X10_isKept G l [(2, 41), (0, l1)] w M P :=
  CT.of RX10 "isKept" (by decide +kernel) rfl rfl rfl (Nat.le_of_ble_eq_true rfl) (fun hr X hX C => h (hr (0, l1) (by simp)) X hX C)
def A_X10_write_0 (G : GP) (X : BX) (P : Int → NS → MM → Prop) (l1 : Int) (l2 : Int) (l3 : Int) (w : NS) (M : MM) : Prop := WA true G X (QM G X true 0 P) 5 0 [(2, 41), (0, l1), (0, l2), (0, l3), (3, 0)] [] 0 0 w M
set_option maxHeartbeats 4000000 in
set_option maxRecDepth 100000 in
theorem B_X10_write_0 {G : GP} {X : BX} {P : Int → NS → MM → Prop} {l1 : Int} {l2 : Int} {l3 : Int} {w : NS} {M : MM} (C : CX_X10_write G X) (h : (0 ≤ M 41 4) ∧ ((((0 ≤ l1 ∧ l1 < M 41 4)) → (((¬ (0 ≤ l2 ∧ l2 ≤ 59)) → P (-2) w M) ∧ (((0 ≤ l2 ∧ l2 ≤ 59)) → (((((-1) ≤ l3 ∧ l3 ≤ 99)) → ∃ Q6 : Int → NS → MM → Prop, CT_X10_isKept G X.2.1 [(2, 41), (0, l1)] w M Q6 ∧ ∀ (z6 : Int) (w6 : NS) (M6 : MM), Q6 z6 w6 M6 → (((z6 = 0) → (inR (60 * l1)) ∧ (inR ((60 * l1) + l2)) ∧ (0 ≤ ((60 * l1) + l2)) ∧ (((60 * l1) + l2) < 480) ∧ (((0 ≤ l3) → P (M6 42 ((60 * l1) + l2)) w6 (up (up M6 42 ((60 * l1) + l2) l3) 41 34 0)) ∧ ((¬ (0 ≤ l3)) → P (M6 42 ((60 * l1) + l2)) w6 (up (up M6 42 ((60 * l1) + l2) (-6)) 41 34 0)))) ∧ ((¬ (z6 = 0)) → P (-3) w6 M6))) ∧ ((¬ ((-1) ≤ l3 ∧ l3 ≤ 99)) → P (-2) w M))))) ∧ ((¬ (0 ≤ l1 ∧ l1 < M 41 4)) → P (-1) w M))) : A_X10_write_0 G X P l1 l2 l3 w M := by
  unfold A_X10_write_0
  refine s_aload_n C (d_of DX10_write 0 rfl) rfl ?_
  refine s_iload_n C (d_of DX10_write 1 rfl) rfl ?_
  refine WA.fix (fun hF1 => ?_)
  obtain ⟨o2, h⟩ := h
  refine s_callV (ci := 10) (av := [(0, l1)]) (rest := []) (mc := 0) (ms := 0) C (d_of DX10_write 2 rfl) lk_X10_156 (sh_41 hF1) (by decide) rfl rfl rfl (Nat.le_of_ble_eq_true rfl) (by decide) (by decide) (pc_X10_isPage o2) (fun z3 wz3 Mz3 hq => ?_)
  obtain ⟨hq1, hq2, hq3⟩ := hq
  have hq2 := hq2.symm
  have hq3 := hq3.symm
  subst hq1 hq2 hq3
  refine s_ifne C (d_of DX10_write 3 rfl) rfl (fun hc => ?_) (fun hc => ?_)
  · have h := h.1 (b2i_n0 hc)
    refine s_iload_n C (d_of DX10_write 6 rfl) rfl ?_
    refine s_i2l C (d_of DX10_write 7 rfl) ?_
    refine s_lconst (z := 0) C (d_of DX10_write 8 rfl) ⟨rfl, by decide⟩ ?_
    refine s_ldc2 (z := 59) C (d_of DX10_write 9 rfl) (mG (wd_945) rfl) ⟨rfl, by decide⟩ ?_
    refine s_callS (av := [(1, l2), (1, 0), (1, 59)]) (rest := []) (mc := 0) (ms := 0) C (d_of DX10_write 10 rfl) lk_X10_139 rfl rfl (Nat.le_of_ble_eq_true rfl) (by decide) (by decide) (pc_X10_in) (fun z4 wz4 Mz4 hq => ?_)
    obtain ⟨hq1, hq2, hq3⟩ := hq
    have hq2 := hq2.symm
    have hq3 := hq3.symm
    subst hq1 hq2 hq3
    refine s_ifeq C (d_of DX10_write 11 rfl) rfl (fun hc => ?_) (fun hc => ?_)
    · have h := h.1 (b2i_0.mp hc)
      refine s_bipush C (d_of DX10_write 18 rfl) ⟨rfl, by decide, by decide⟩ ?_
      exact s_ireturn C (d_of DX10_write 19 rfl) h
    · have h := h.2 (b2i_n0 hc)
      refine s_iload_n C (d_of DX10_write 12 rfl) rfl ?_
      refine s_i2l C (d_of DX10_write 13 rfl) ?_
      refine s_ldc2 (z := -1) C (d_of DX10_write 14 rfl) (mG (wd_946) rfl) ⟨rfl, by decide⟩ ?_
      refine s_ldc2 (z := 99) C (d_of DX10_write 15 rfl) (mG (wd_936) rfl) ⟨rfl, by decide⟩ ?_
      refine s_callS (av := [(1, l3), (1, (-1)), (1, 99)]) (rest := []) (mc := 0) (ms := 0) C (d_of DX10_write 16 rfl) lk_X10_139 rfl rfl (Nat.le_of_ble_eq_true rfl) (by decide) (by decide) (pc_X10_in) (fun z5 wz5 Mz5 hq => ?_)
      obtain ⟨hq1, hq2, hq3⟩ := hq
      have hq2 := hq2.symm
      have hq3 := hq3.symm
      subst hq1 hq2 hq3
      refine s_ifne C (d_of DX10_write 17 rfl) rfl (fun hc => ?_) (fun hc => ?_)
      · have h := h.1 (b2i_n0 hc)
        refine s_aload_n C (d_of DX10_write 20 rfl) rfl ?_
        refine s_iload_n C (d_of DX10_write 21 rfl) rfl ?_
        obtain ⟨Q6, hKQ6, h⟩ := h
        refine s_callV (ci := 10) (av := [(0, l1)]) (rest := []) (mc := 0) (ms := 0) C (d_of DX10_write 22 rfl) lk_X10_163 (sh_41 hF1) (by decide) rfl rfl rfl (Nat.le_of_ble_eq_true rfl) (by decide) (by decide) hKQ6 (fun z6 w6 M6 hq => ?_)
        have h := h z6 w6 M6 hq
        refine s_ifeq C (d_of DX10_write 23 rfl) rfl (fun hc => ?_) (fun hc => ?_)
        · have h := h.1 hc
          refine s_aload_n C (d_of DX10_write 26 rfl) rfl ?_
          refine WA.fix (fun hF7 => ?_)
          refine gf_X10_7 C (sh_41 hF7) (d_of DX10_write 27 rfl) (fx_41_0 hF7) ?_
          refine s_bipush C (d_of DX10_write 28 rfl) ⟨rfl, by decide, by decide⟩ ?_
          refine s_iload_n C (d_of DX10_write 29 rfl) rfl ?_
          obtain ⟨o8, h⟩ := h
          refine s_imul C (d_of DX10_write 30 rfl) o8 ?_
          refine s_iload_n C (d_of DX10_write 31 rfl) rfl ?_
          obtain ⟨o9, h⟩ := h
          refine s_iadd C (d_of DX10_write 32 rfl) o9 ?_
          obtain ⟨o10, h⟩ := h
          obtain ⟨o11, h⟩ := h
          refine s_iald (v0 := (M6 42 ((60 * l1) + l2))) C (sh_42 hF7) o10 o11 (d_of DX10_write 33 rfl) rfl ?_
          refine s_istore (ls' := [(2, 41), (0, l1), (0, l2), (0, l3), (0, (M6 42 ((60 * l1) + l2)))]) C (d_of DX10_write 34 rfl) (by decide) rfl rfl ?_
          refine s_aload_n C (d_of DX10_write 35 rfl) rfl ?_
          refine gf_X10_7 C (sh_41 hF7) (d_of DX10_write 36 rfl) (fx_41_0 hF7) ?_
          refine s_bipush C (d_of DX10_write 37 rfl) ⟨rfl, by decide, by decide⟩ ?_
          refine s_iload_n C (d_of DX10_write 38 rfl) rfl ?_
          refine s_imul C (d_of DX10_write 39 rfl) o8 ?_
          refine s_iload_n C (d_of DX10_write 40 rfl) rfl ?_
          refine s_iadd C (d_of DX10_write 41 rfl) o9 ?_
          refine s_iload_n C (d_of DX10_write 42 rfl) rfl ?_
          refine s_ifge C (d_of DX10_write 43 rfl) rfl (fun hc => ?_) (fun hc => ?_)
          · have h := h.1 hc
            refine s_iload_n C (d_of DX10_write 46 rfl) rfl ?_
            refine s_iast C (sh_42 hF7) o10 o11 (fun _ => by decide) (d_of DX10_write 47 rfl) ?_
            refine s_aload_n C (d_of DX10_write 48 rfl) rfl ?_
            refine s_iconst C (d_of DX10_write 49 rfl) (by decide) ?_
            refine pf_X10_166 C (sh_41 hF7) (by decide) (fun _ => by decide) (d_of DX10_write 50 rfl) ?_
            refine s_iload C (d_of DX10_write 51 rfl) rfl ?_
            exact s_ireturn C (d_of DX10_write 52 rfl) h
          · have h := h.2 hc
            refine s_bipush C (d_of DX10_write 44 rfl) ⟨rfl, by decide, by decide⟩ ?_
            refine s_goto C (d_of DX10_write 45 rfl) rfl ?_
            refine s_iast C (sh_42 hF7) o10 o11 (fun _ => by decide) (d_of DX10_write 47 rfl) ?_
            refine s_aload_n C (d_of DX10_write 48 rfl) rfl ?_
            refine s_iconst C (d_of DX10_write 49 rfl) (by decide) ?_
            refine pf_X10_166 C (sh_41 hF7) (by decide) (fun _ => by decide) (d_of DX10_write 50 rfl) ?_
            refine s_iload C (d_of DX10_write 51 rfl) rfl ?_
            exact s_ireturn C (d_of DX10_write 52 rfl) h
        · have h := h.2 hc
          refine s_bipush C (d_of DX10_write 24 rfl) ⟨rfl, by decide, by decide⟩ ?_
          exact s_ireturn C (d_of DX10_write 25 rfl) h
      · have h := h.2 (b2i_nn hc)
        refine s_bipush C (d_of DX10_write 18 rfl) ⟨rfl, by decide, by decide⟩ ?_
        exact s_ireturn C (d_of DX10_write 19 rfl) h
  · have h := h.2 (b2i_nn hc)
    refine s_iconst C (d_of DX10_write 4 rfl) (by decide) ?_
    exact s_ireturn C (d_of DX10_write 5 rfl) h
theorem E_X10_write {G : GP} {l : Launch} {P : Int → NS → MM → Prop} {l1 : Int} {l2 : Int} {l3 : Int} {w : NS} {M : MM} (h : inR l1 → inR l2 → inR l3 → ∀ X : BX, X.2.1 = l → CX_X10_write G X → A_X10_write_0 G X P l1 l2 l3 w M) : CT_X10_write G l [(2, 41), (0, l1), (0, l2), (0, l3)] w M P :=
  CT.of RX10 "write" (by decide +kernel) rfl rfl rfl (Nat.le_of_ble_eq_true rfl) (fun hr X hX C => h (hr (0, l1) (by simp)) (hr (0, l2) (by simp)) (hr (0, l3) (by simp)) X hX C)
def A_X10_sides_0 (G : GP) (X : BX) (P : Int → NS → MM → Prop) (l1 : Int) (l2 : Int) (w : NS) (M : MM) : Prop := WA true G X (QM G X true 0 P) 3 0 [(2, 41), (0, l1), (0, l2)] [] 0 0 w M
set_option maxHeartbeats 4000000 in
set_option maxRecDepth 100000 in
theorem B_X10_sides_0 {G : GP} {X : BX} {P : Int → NS → MM → Prop} {l1 : Int} {l2 : Int} {w : NS} {M : MM} (C : CX_X10_sides G X) (h : (0 ≤ M 41 4) ∧ (((¬ (0 ≤ l1 ∧ l1 < M 41 4)) → P (-1) w M) ∧ (((0 ≤ l1 ∧ l1 < M 41 4)) → (((¬ (0 ≤ l2 ∧ l2 < M 41 4)) → P (-1) w M) ∧ (((0 ≤ l2 ∧ l2 < M 41 4)) → (((l1 ≠ l2) → (0 ≤ l1) ∧ (l1 < 8) ∧ (0 ≤ l2) ∧ (l2 < 8) ∧ ((((M 43 l1) ≠ (M 43 l2)) → P (-3) w M) ∧ ((¬ ((M 43 l1) ≠ (M 43 l2))) → ((((M 44 l1) = (M 44 l2)) → (((0 ≤ (M 45 l1)) → P (-5) w M) ∧ ((¬ (0 ≤ (M 45 l1))) → ((((M 45 l2) < 0) → P 1 w (up (up M 45 l1 l2) 45 l2 l1)) ∧ ((¬ ((M 45 l2) < 0)) → P (-5) w M))))) ∧ ((¬ ((M 44 l1) = (M 44 l2))) → P (-3) w M))))) ∧ ((¬ (l1 ≠ l2)) → P (-1) w M))))))) : A_X10_sides_0 G X P l1 l2 w M := by
  unfold A_X10_sides_0
  refine s_aload_n C (d_of DX10_sides 0 rfl) rfl ?_
  refine s_iload_n C (d_of DX10_sides 1 rfl) rfl ?_
  refine WA.fix (fun hF1 => ?_)
  obtain ⟨o2, h⟩ := h
  refine s_callV (ci := 10) (av := [(0, l1)]) (rest := []) (mc := 0) (ms := 0) C (d_of DX10_sides 2 rfl) lk_X10_156 (sh_41 hF1) (by decide) rfl rfl rfl (Nat.le_of_ble_eq_true rfl) (by decide) (by decide) (pc_X10_isPage o2) (fun z3 wz3 Mz3 hq => ?_)
  obtain ⟨hq1, hq2, hq3⟩ := hq
  have hq2 := hq2.symm
  have hq3 := hq3.symm
  subst hq1 hq2 hq3
  refine s_ifeq C (d_of DX10_sides 3 rfl) rfl (fun hc => ?_) (fun hc => ?_)
  · have h := h.1 (b2i_0.mp hc)
    refine s_iconst C (d_of DX10_sides 11 rfl) (by decide) ?_
    exact s_ireturn C (d_of DX10_sides 12 rfl) h
  · have h := h.2 (b2i_n0 hc)
    refine s_aload_n C (d_of DX10_sides 4 rfl) rfl ?_
    refine s_iload_n C (d_of DX10_sides 5 rfl) rfl ?_
    refine s_callV (ci := 10) (av := [(0, l2)]) (rest := []) (mc := 0) (ms := 0) C (d_of DX10_sides 6 rfl) lk_X10_156 (sh_41 hF1) (by decide) rfl rfl rfl (Nat.le_of_ble_eq_true rfl) (by decide) (by decide) (pc_X10_isPage o2) (fun z4 wz4 Mz4 hq => ?_)
    obtain ⟨hq1, hq2, hq3⟩ := hq
    have hq2 := hq2.symm
    have hq3 := hq3.symm
    subst hq1 hq2 hq3
    refine s_ifeq C (d_of DX10_sides 7 rfl) rfl (fun hc => ?_) (fun hc => ?_)
    · have h := h.1 (b2i_0.mp hc)
      refine s_iconst C (d_of DX10_sides 11 rfl) (by decide) ?_
      exact s_ireturn C (d_of DX10_sides 12 rfl) h
    · have h := h.2 (b2i_n0 hc)
      refine s_iload_n C (d_of DX10_sides 8 rfl) rfl ?_
      refine s_iload_n C (d_of DX10_sides 9 rfl) rfl ?_
      refine s_icmpne C (d_of DX10_sides 10 rfl) rfl (fun hc => ?_) (fun hc => ?_)
      · have h := h.1 hc
        refine s_aload_n C (d_of DX10_sides 13 rfl) rfl ?_
        refine gf_X10_13 C (sh_41 hF1) (d_of DX10_sides 14 rfl) (fx_41_1 hF1) ?_
        refine s_iload_n C (d_of DX10_sides 15 rfl) rfl ?_
        obtain ⟨o5, h⟩ := h
        obtain ⟨o6, h⟩ := h
        refine s_iald (v0 := (M 43 l1)) C (sh_43 hF1) o5 o6 (d_of DX10_sides 16 rfl) rfl ?_
        refine s_aload_n C (d_of DX10_sides 17 rfl) rfl ?_
        refine gf_X10_13 C (sh_41 hF1) (d_of DX10_sides 18 rfl) (fx_41_1 hF1) ?_
        refine s_iload_n C (d_of DX10_sides 19 rfl) rfl ?_
        obtain ⟨o7, h⟩ := h
        obtain ⟨o8, h⟩ := h
        refine s_iald (v0 := (M 43 l2)) C (sh_43 hF1) o7 o8 (d_of DX10_sides 20 rfl) rfl ?_
        refine s_icmpne C (d_of DX10_sides 21 rfl) rfl (fun hc => ?_) (fun hc => ?_)
        · have h := h.1 hc
          refine s_bipush C (d_of DX10_sides 31 rfl) ⟨rfl, by decide, by decide⟩ ?_
          exact s_ireturn C (d_of DX10_sides 32 rfl) h
        · have h := h.2 hc
          refine s_aload_n C (d_of DX10_sides 22 rfl) rfl ?_
          refine gf_X10_16 C (sh_41 hF1) (d_of DX10_sides 23 rfl) (fx_41_2 hF1) ?_
          refine s_iload_n C (d_of DX10_sides 24 rfl) rfl ?_
          refine s_iald (v0 := (M 44 l1)) C (sh_44 hF1) o5 o6 (d_of DX10_sides 25 rfl) rfl ?_
          refine s_aload_n C (d_of DX10_sides 26 rfl) rfl ?_
          refine gf_X10_16 C (sh_41 hF1) (d_of DX10_sides 27 rfl) (fx_41_2 hF1) ?_
          refine s_iload_n C (d_of DX10_sides 28 rfl) rfl ?_
          refine s_iald (v0 := (M 44 l2)) C (sh_44 hF1) o7 o8 (d_of DX10_sides 29 rfl) rfl ?_
          refine s_icmpeq C (d_of DX10_sides 30 rfl) rfl (fun hc => ?_) (fun hc => ?_)
          · have h := h.1 hc
            refine s_aload_n C (d_of DX10_sides 33 rfl) rfl ?_
            refine gf_X10_19 C (sh_41 hF1) (d_of DX10_sides 34 rfl) (fx_41_3 hF1) ?_
            refine s_iload_n C (d_of DX10_sides 35 rfl) rfl ?_
            refine s_iald (v0 := (M 45 l1)) C (sh_45 hF1) o5 o6 (d_of DX10_sides 36 rfl) rfl ?_
            refine s_ifge C (d_of DX10_sides 37 rfl) rfl (fun hc => ?_) (fun hc => ?_)
            · have h := h.1 hc
              refine s_bipush C (d_of DX10_sides 43 rfl) ⟨rfl, by decide, by decide⟩ ?_
              exact s_ireturn C (d_of DX10_sides 44 rfl) h
            · have h := h.2 hc
              refine s_aload_n C (d_of DX10_sides 38 rfl) rfl ?_
              refine gf_X10_19 C (sh_41 hF1) (d_of DX10_sides 39 rfl) (fx_41_3 hF1) ?_
              refine s_iload_n C (d_of DX10_sides 40 rfl) rfl ?_
              refine s_iald (v0 := (M 45 l2)) C (sh_45 hF1) o7 o8 (d_of DX10_sides 41 rfl) rfl ?_
              refine s_iflt C (d_of DX10_sides 42 rfl) rfl (fun hc => ?_) (fun hc => ?_)
              · have h := h.1 hc
                refine s_aload_n C (d_of DX10_sides 45 rfl) rfl ?_
                refine gf_X10_19 C (sh_41 hF1) (d_of DX10_sides 46 rfl) (fx_41_3 hF1) ?_
                refine s_iload_n C (d_of DX10_sides 47 rfl) rfl ?_
                refine s_iload_n C (d_of DX10_sides 48 rfl) rfl ?_
                refine s_iast C (sh_45 hF1) o5 o6 (fun _ => by decide) (d_of DX10_sides 49 rfl) ?_
                refine s_aload_n C (d_of DX10_sides 50 rfl) rfl ?_
                refine WA.fix (fun hF9 => ?_)
                refine gf_X10_19 C (sh_41 hF1) (d_of DX10_sides 51 rfl) (fx_41_3 hF9) ?_
                refine s_iload_n C (d_of DX10_sides 52 rfl) rfl ?_
                refine s_iload_n C (d_of DX10_sides 53 rfl) rfl ?_
                refine s_iast C (sh_45 hF1) o7 o8 (fun _ => by decide) (d_of DX10_sides 54 rfl) ?_
                refine s_iconst C (d_of DX10_sides 55 rfl) (by decide) ?_
                exact s_ireturn C (d_of DX10_sides 56 rfl) h
              · have h := h.2 hc
                refine s_bipush C (d_of DX10_sides 43 rfl) ⟨rfl, by decide, by decide⟩ ?_
                exact s_ireturn C (d_of DX10_sides 44 rfl) h
          · have h := h.2 hc
            refine s_bipush C (d_of DX10_sides 31 rfl) ⟨rfl, by decide, by decide⟩ ?_
            exact s_ireturn C (d_of DX10_sides 32 rfl) h
      · have h := h.2 hc
        refine s_iconst C (d_of DX10_sides 11 rfl) (by decide) ?_
        exact s_ireturn C (d_of DX10_sides 12 rfl) h
theorem E_X10_sides {G : GP} {l : Launch} {P : Int → NS → MM → Prop} {l1 : Int} {l2 : Int} {w : NS} {M : MM} (h : inR l1 → inR l2 → ∀ X : BX, X.2.1 = l → CX_X10_sides G X → A_X10_sides_0 G X P l1 l2 w M) : CT_X10_sides G l [(2, 41), (0, l1), (0, l2)] w M P :=
  CT.of RX10 "sides" (by decide +kernel) rfl rfl rfl (Nat.le_of_ble_eq_true rfl) (fun hr X hX C => h (hr (0, l1) (by simp)) (hr (0, l2) (by simp)) X hX C)
def A_X10_ofPage_0 (G : GP) (X : BX) (P : Int → NS → MM → Prop) (l1 : Int) (l2 : Int) (w : NS) (M : MM) : Prop := WA true G X (QM G X true 0 P) 5 0 [(2, 41), (0, l1), (0, l2), (3, 0), (3, 0)] [] 0 0 w M
def A_X10_ofPage_44 (G : GP) (X : BX) (P : Int → NS → MM → Prop) (l1 : Int) (l2 : Int) (l3 : Int) (l4 : Int) (w : NS) (M : MM) : Prop := WA true G X (QM G X true 0 P) 5 44 [(2, 41), (0, l1), (0, l2), (0, l3), (0, l4)] [] 0 0 w M
set_option maxHeartbeats 4000000 in
set_option maxRecDepth 100000 in
theorem B_X10_ofPage_0 {G : GP} {X : BX} {P : Int → NS → MM → Prop} {l1 : Int} {l2 : Int} {w : NS} {M : MM} (C : CX_X10_ofPage G X) (h : (0 ≤ M 41 4) ∧ ((((0 ≤ l1 ∧ l1 < M 41 4)) → (((¬ (100 ≤ l2 ∧ l2 ≤ 159)) → A_X10_ofPage_44 G X P l1 l2 0 0 w M) ∧ (((100 ≤ l2 ∧ l2 ≤ 159)) → (inR (60 * l1)) ∧ (inR ((60 * l1) + l2)) ∧ (inR (((60 * l1) + l2) - 100)) ∧ (0 ≤ (((60 * l1) + l2) - 100)) ∧ ((((60 * l1) + l2) - 100) < 480) ∧ P (M 42 (((60 * l1) + l2) - 100)) w M))) ∧ ((¬ (0 ≤ l1 ∧ l1 < M 41 4)) → P (-1) w M))) : A_X10_ofPage_0 G X P l1 l2 w M := by
  unfold A_X10_ofPage_0
  refine s_aload_n C (d_of DX10_ofPage 0 rfl) rfl ?_
  refine s_iload_n C (d_of DX10_ofPage 1 rfl) rfl ?_
  refine WA.fix (fun hF1 => ?_)
  obtain ⟨o2, h⟩ := h
  refine s_callV (ci := 10) (av := [(0, l1)]) (rest := []) (mc := 0) (ms := 0) C (d_of DX10_ofPage 2 rfl) lk_X10_156 (sh_41 hF1) (by decide) rfl rfl rfl (Nat.le_of_ble_eq_true rfl) (by decide) (by decide) (pc_X10_isPage o2) (fun z3 wz3 Mz3 hq => ?_)
  obtain ⟨hq1, hq2, hq3⟩ := hq
  have hq2 := hq2.symm
  have hq3 := hq3.symm
  subst hq1 hq2 hq3
  refine s_ifne C (d_of DX10_ofPage 3 rfl) rfl (fun hc => ?_) (fun hc => ?_)
  · have h := h.1 (b2i_n0 hc)
    refine s_iload_n C (d_of DX10_ofPage 6 rfl) rfl ?_
    refine s_i2l C (d_of DX10_ofPage 7 rfl) ?_
    refine s_ldc2 (z := 100) C (d_of DX10_ofPage 8 rfl) (mG (wd_959) rfl) ⟨rfl, by decide⟩ ?_
    refine s_ldc2 (z := 159) C (d_of DX10_ofPage 9 rfl) (mG (wd_960) rfl) ⟨rfl, by decide⟩ ?_
    refine s_callS (av := [(1, l2), (1, 100), (1, 159)]) (rest := []) (mc := 0) (ms := 0) C (d_of DX10_ofPage 10 rfl) lk_X10_139 rfl rfl (Nat.le_of_ble_eq_true rfl) (by decide) (by decide) (pc_X10_in) (fun z4 wz4 Mz4 hq => ?_)
    obtain ⟨hq1, hq2, hq3⟩ := hq
    have hq2 := hq2.symm
    have hq3 := hq3.symm
    subst hq1 hq2 hq3
    refine s_ifeq C (d_of DX10_ofPage 11 rfl) rfl (fun hc => ?_) (fun hc => ?_)
    · have h := h.1 (b2i_0.mp hc)
      refine s_iconst C (d_of DX10_ofPage 23 rfl) (by decide) ?_
      refine s_istore_n (ls' := [(2, 41), (0, l1), (0, l2), (0, 0), (3, 0)]) C (d_of DX10_ofPage 24 rfl) (by decide) rfl rfl ?_
      refine s_iconst C (d_of DX10_ofPage 25 rfl) (by decide) ?_
      refine s_istore (ls' := [(2, 41), (0, l1), (0, l2), (0, 0), (0, 0)]) C (d_of DX10_ofPage 26 rfl) (by decide) rfl rfl ?_
      exact h
    · have h := h.2 (b2i_n0 hc)
      refine s_aload_n C (d_of DX10_ofPage 12 rfl) rfl ?_
      refine gf_X10_7 C (sh_41 hF1) (d_of DX10_ofPage 13 rfl) (fx_41_0 hF1) ?_
      refine s_bipush C (d_of DX10_ofPage 14 rfl) ⟨rfl, by decide, by decide⟩ ?_
      refine s_iload_n C (d_of DX10_ofPage 15 rfl) rfl ?_
      obtain ⟨o5, h⟩ := h
      refine s_imul C (d_of DX10_ofPage 16 rfl) o5 ?_
      refine s_iload_n C (d_of DX10_ofPage 17 rfl) rfl ?_
      obtain ⟨o6, h⟩ := h
      refine s_iadd C (d_of DX10_ofPage 18 rfl) o6 ?_
      refine s_bipush C (d_of DX10_ofPage 19 rfl) ⟨rfl, by decide, by decide⟩ ?_
      obtain ⟨o7, h⟩ := h
      refine s_isub C (d_of DX10_ofPage 20 rfl) o7 ?_
      obtain ⟨o8, h⟩ := h
      obtain ⟨o9, h⟩ := h
      refine s_iald (v0 := (M 42 (((60 * l1) + l2) - 100))) C (sh_42 hF1) o8 o9 (d_of DX10_ofPage 21 rfl) rfl ?_
      exact s_ireturn C (d_of DX10_ofPage 22 rfl) h
  · have h := h.2 (b2i_nn hc)
    refine s_iconst C (d_of DX10_ofPage 4 rfl) (by decide) ?_
    exact s_ireturn C (d_of DX10_ofPage 5 rfl) h
set_option maxHeartbeats 4000000 in
set_option maxRecDepth 100000 in
theorem B_X10_ofPage_44 {G : GP} {X : BX} {P : Int → NS → MM → Prop} {l1 : Int} {l2 : Int} {l3 : Int} {l4 : Int} {w : NS} {M : MM} (C : CX_X10_ofPage G X) (h : ((((M 41 12) ≤ l4) → (((l2 ≠ 0) → (((l2 ≠ 1) → (((l2 ≠ 2) → (((l2 ≠ 3) → P (-2) w M) ∧ ((¬ (l2 ≠ 3)) → P l3 w M))) ∧ ((¬ (l2 ≠ 2)) → (0 ≤ l1) ∧ (l1 < 8) ∧ P (M 45 l1) w M))) ∧ ((¬ (l2 ≠ 1)) → (0 ≤ l1) ∧ (l1 < 8) ∧ P (M 44 l1) w M))) ∧ ((¬ (l2 ≠ 0)) → (0 ≤ l1) ∧ (l1 < 8) ∧ P (M 43 l1) w M))) ∧ ((¬ ((M 41 12) ≤ l4)) → (0 ≤ l4) ∧ (l4 < 24) ∧ ((((M 46 l4) ≠ l1) → (inR (l3 + 0)) ∧ (inR (l4 + 1)) ∧ A_X10_ofPage_44 G X P l1 l2 (l3 + 0) (l4 + 1) w M) ∧ ((¬ ((M 46 l4) ≠ l1)) → (inR (l3 + 1)) ∧ (inR (l4 + 1)) ∧ A_X10_ofPage_44 G X P l1 l2 (l3 + 1) (l4 + 1) w M))))) : A_X10_ofPage_44 G X P l1 l2 l3 l4 w M := by
  unfold A_X10_ofPage_44
  refine s_iload C (d_of DX10_ofPage 27 rfl) rfl ?_
  refine s_aload_n C (d_of DX10_ofPage 28 rfl) rfl ?_
  refine WA.fix (fun hF1 => ?_)
  refine gf_X10_147 (v0 := (M 41 12)) C (sh_41 hF1) (d_of DX10_ofPage 29 rfl) rfl ?_
  refine s_icmpge C (d_of DX10_ofPage 30 rfl) rfl (fun hc => ?_) (fun hc => ?_)
  · have h := h.1 hc
    refine s_iload_n C (d_of DX10_ofPage 45 rfl) rfl ?_
    refine s_ifne C (d_of DX10_ofPage 46 rfl) rfl (fun hc => ?_) (fun hc => ?_)
    · have h := h.1 hc
      refine s_iload_n C (d_of DX10_ofPage 52 rfl) rfl ?_
      refine s_iconst C (d_of DX10_ofPage 53 rfl) (by decide) ?_
      refine s_icmpne C (d_of DX10_ofPage 54 rfl) rfl (fun hc => ?_) (fun hc => ?_)
      · have h := h.1 hc
        refine s_iload_n C (d_of DX10_ofPage 60 rfl) rfl ?_
        refine s_iconst C (d_of DX10_ofPage 61 rfl) (by decide) ?_
        refine s_icmpne C (d_of DX10_ofPage 62 rfl) rfl (fun hc => ?_) (fun hc => ?_)
        · have h := h.1 hc
          refine s_iload_n C (d_of DX10_ofPage 68 rfl) rfl ?_
          refine s_iconst C (d_of DX10_ofPage 69 rfl) (by decide) ?_
          refine s_icmpne C (d_of DX10_ofPage 70 rfl) rfl (fun hc => ?_) (fun hc => ?_)
          · have h := h.1 hc
            refine s_bipush C (d_of DX10_ofPage 73 rfl) ⟨rfl, by decide, by decide⟩ ?_
            exact s_ireturn C (d_of DX10_ofPage 74 rfl) h
          · have h := h.2 hc
            refine s_iload_n C (d_of DX10_ofPage 71 rfl) rfl ?_
            refine s_goto C (d_of DX10_ofPage 72 rfl) rfl ?_
            exact s_ireturn C (d_of DX10_ofPage 74 rfl) h
        · have h := h.2 hc
          refine s_aload_n C (d_of DX10_ofPage 63 rfl) rfl ?_
          refine gf_X10_19 C (sh_41 hF1) (d_of DX10_ofPage 64 rfl) (fx_41_3 hF1) ?_
          refine s_iload_n C (d_of DX10_ofPage 65 rfl) rfl ?_
          obtain ⟨o2, h⟩ := h
          obtain ⟨o3, h⟩ := h
          refine s_iald (v0 := (M 45 l1)) C (sh_45 hF1) o2 o3 (d_of DX10_ofPage 66 rfl) rfl ?_
          refine s_goto C (d_of DX10_ofPage 67 rfl) rfl ?_
          exact s_ireturn C (d_of DX10_ofPage 74 rfl) h
      · have h := h.2 hc
        refine s_aload_n C (d_of DX10_ofPage 55 rfl) rfl ?_
        refine gf_X10_16 C (sh_41 hF1) (d_of DX10_ofPage 56 rfl) (fx_41_2 hF1) ?_
        refine s_iload_n C (d_of DX10_ofPage 57 rfl) rfl ?_
        obtain ⟨o4, h⟩ := h
        obtain ⟨o5, h⟩ := h
        refine s_iald (v0 := (M 44 l1)) C (sh_44 hF1) o4 o5 (d_of DX10_ofPage 58 rfl) rfl ?_
        refine s_goto C (d_of DX10_ofPage 59 rfl) rfl ?_
        exact s_ireturn C (d_of DX10_ofPage 74 rfl) h
    · have h := h.2 hc
      refine s_aload_n C (d_of DX10_ofPage 47 rfl) rfl ?_
      refine gf_X10_13 C (sh_41 hF1) (d_of DX10_ofPage 48 rfl) (fx_41_1 hF1) ?_
      refine s_iload_n C (d_of DX10_ofPage 49 rfl) rfl ?_
      obtain ⟨o6, h⟩ := h
      obtain ⟨o7, h⟩ := h
      refine s_iald (v0 := (M 43 l1)) C (sh_43 hF1) o6 o7 (d_of DX10_ofPage 50 rfl) rfl ?_
      refine s_goto C (d_of DX10_ofPage 51 rfl) rfl ?_
      exact s_ireturn C (d_of DX10_ofPage 74 rfl) h
  · have h := h.2 hc
    refine s_iload_n C (d_of DX10_ofPage 31 rfl) rfl ?_
    refine s_aload_n C (d_of DX10_ofPage 32 rfl) rfl ?_
    refine gf_X10_22 C (sh_41 hF1) (d_of DX10_ofPage 33 rfl) (fx_41_5 hF1) ?_
    refine s_iload C (d_of DX10_ofPage 34 rfl) rfl ?_
    obtain ⟨o8, h⟩ := h
    obtain ⟨o9, h⟩ := h
    refine s_iald (v0 := (M 46 l4)) C (sh_46 hF1) o8 o9 (d_of DX10_ofPage 35 rfl) rfl ?_
    refine s_iload_n C (d_of DX10_ofPage 36 rfl) rfl ?_
    refine s_icmpne C (d_of DX10_ofPage 37 rfl) rfl (fun hc => ?_) (fun hc => ?_)
    · have h := h.1 hc
      refine s_iconst C (d_of DX10_ofPage 40 rfl) (by decide) ?_
      obtain ⟨o10, h⟩ := h
      refine s_iadd C (d_of DX10_ofPage 41 rfl) o10 ?_
      refine s_istore_n (ls' := [(2, 41), (0, l1), (0, l2), (0, (l3 + 0)), (0, l4)]) C (d_of DX10_ofPage 42 rfl) (by decide) rfl rfl ?_
      obtain ⟨o11, h⟩ := h
      refine s_iinc (ls' := [(2, 41), (0, l1), (0, l2), (0, (l3 + 0)), (0, (l4 + 1))]) C (d_of DX10_ofPage 43 rfl) (by decide) rfl o11 rfl rfl ?_
      refine s_goto C (d_of DX10_ofPage 44 rfl) rfl ?_
      exact h
    · have h := h.2 hc
      refine s_iconst C (d_of DX10_ofPage 38 rfl) (by decide) ?_
      refine s_goto C (d_of DX10_ofPage 39 rfl) rfl ?_
      obtain ⟨o12, h⟩ := h
      refine s_iadd C (d_of DX10_ofPage 41 rfl) o12 ?_
      refine s_istore_n (ls' := [(2, 41), (0, l1), (0, l2), (0, (l3 + 1)), (0, l4)]) C (d_of DX10_ofPage 42 rfl) (by decide) rfl rfl ?_
      obtain ⟨o13, h⟩ := h
      refine s_iinc (ls' := [(2, 41), (0, l1), (0, l2), (0, (l3 + 1)), (0, (l4 + 1))]) C (d_of DX10_ofPage 43 rfl) (by decide) rfl o13 rfl rfl ?_
      refine s_goto C (d_of DX10_ofPage 44 rfl) rfl ?_
      exact h
theorem E_X10_ofPage {G : GP} {l : Launch} {P : Int → NS → MM → Prop} {l1 : Int} {l2 : Int} {w : NS} {M : MM} (h : inR l1 → inR l2 → ∀ X : BX, X.2.1 = l → CX_X10_ofPage G X → A_X10_ofPage_0 G X P l1 l2 w M) : CT_X10_ofPage G l [(2, 41), (0, l1), (0, l2)] w M P :=
  CT.of RX10 "ofPage" (by decide +kernel) rfl rfl rfl (Nat.le_of_ble_eq_true rfl) (fun hr X hX C => h (hr (0, l1) (by simp)) (hr (0, l2) (by simp)) X hX C)
def A_X10_piece_0 (G : GP) (X : BX) (P : Int → NS → MM → Prop) (l1 : Int) (l2 : Int) (l3 : Int) (l4 : Int) (l5 : Int) (w : NS) (M : MM) : Prop := WA true G X (QM G X true 0 P) 6 0 [(2, 41), (0, l1), (0, l2), (0, l3), (0, l4), (0, l5)] [] 0 0 w M
set_option maxHeartbeats 4000000 in
set_option maxRecDepth 100000 in
theorem B_X10_piece_0 {G : GP} {X : BX} {P : Int → NS → MM → Prop} {l1 : Int} {l2 : Int} {l3 : Int} {l4 : Int} {l5 : Int} {w : NS} {M : MM} (C : CX_X10_piece G X) (h : (0 ≤ M 41 4) ∧ ((((0 ≤ l1 ∧ l1 < M 41 4)) → (((¬ (0 ≤ l2 ∧ l2 ≤ l3)) → P (-2) w M) ∧ (((0 ≤ l2 ∧ l2 ≤ l3)) → (((¬ (0 ≤ l3 ∧ l3 ≤ 5)) → P (-2) w M) ∧ (((0 ≤ l3 ∧ l3 ≤ 5)) → (((¬ (0 ≤ l4 ∧ l4 ≤ l5)) → P (-2) w M) ∧ (((0 ≤ l4 ∧ l4 ≤ l5)) → ((((0 ≤ l5 ∧ l5 ≤ 9)) → ((((M 41 12) ≠ 24) → (0 ≤ (M 41 12)) ∧ ((M 41 12) < 24) ∧ (inR ((M 41 12) + 1)) ∧ (inR (((M 41 12) + 1) - 1)) ∧ P (((M 41 12) + 1) - 1) w (up (up (up (up (up (up (up M 46 (M 41 12) l1) 41 34 0) 47 (M 41 12) l2) 48 (M 41 12) l3) 49 (M 41 12) l4) 50 (M 41 12) l5) 41 12 ((M 41 12) + 1))) ∧ ((¬ ((M 41 12) ≠ 24)) → P (-4) w M))) ∧ ((¬ (0 ≤ l5 ∧ l5 ≤ 9)) → P (-2) w M))))))))) ∧ ((¬ (0 ≤ l1 ∧ l1 < M 41 4)) → P (-1) w M))) : A_X10_piece_0 G X P l1 l2 l3 l4 l5 w M := by
  unfold A_X10_piece_0
  refine s_aload_n C (d_of DX10_piece 0 rfl) rfl ?_
  refine s_iload_n C (d_of DX10_piece 1 rfl) rfl ?_
  refine WA.fix (fun hF1 => ?_)
  obtain ⟨o2, h⟩ := h
  refine s_callV (ci := 10) (av := [(0, l1)]) (rest := []) (mc := 0) (ms := 0) C (d_of DX10_piece 2 rfl) lk_X10_156 (sh_41 hF1) (by decide) rfl rfl rfl (Nat.le_of_ble_eq_true rfl) (by decide) (by decide) (pc_X10_isPage o2) (fun z3 wz3 Mz3 hq => ?_)
  obtain ⟨hq1, hq2, hq3⟩ := hq
  have hq2 := hq2.symm
  have hq3 := hq3.symm
  subst hq1 hq2 hq3
  refine s_ifne C (d_of DX10_piece 3 rfl) rfl (fun hc => ?_) (fun hc => ?_)
  · have h := h.1 (b2i_n0 hc)
    refine s_iload_n C (d_of DX10_piece 6 rfl) rfl ?_
    refine s_i2l C (d_of DX10_piece 7 rfl) ?_
    refine s_lconst (z := 0) C (d_of DX10_piece 8 rfl) ⟨rfl, by decide⟩ ?_
    refine s_iload_n C (d_of DX10_piece 9 rfl) rfl ?_
    refine s_i2l C (d_of DX10_piece 10 rfl) ?_
    refine s_callS (av := [(1, l2), (1, 0), (1, l3)]) (rest := []) (mc := 0) (ms := 0) C (d_of DX10_piece 11 rfl) lk_X10_139 rfl rfl (Nat.le_of_ble_eq_true rfl) (by decide) (by decide) (pc_X10_in) (fun z4 wz4 Mz4 hq => ?_)
    obtain ⟨hq1, hq2, hq3⟩ := hq
    have hq2 := hq2.symm
    have hq3 := hq3.symm
    subst hq1 hq2 hq3
    refine s_ifeq C (d_of DX10_piece 12 rfl) rfl (fun hc => ?_) (fun hc => ?_)
    · have h := h.1 (b2i_0.mp hc)
      refine s_bipush C (d_of DX10_piece 32 rfl) ⟨rfl, by decide, by decide⟩ ?_
      exact s_ireturn C (d_of DX10_piece 33 rfl) h
    · have h := h.2 (b2i_n0 hc)
      refine s_iload_n C (d_of DX10_piece 13 rfl) rfl ?_
      refine s_i2l C (d_of DX10_piece 14 rfl) ?_
      refine s_lconst (z := 0) C (d_of DX10_piece 15 rfl) ⟨rfl, by decide⟩ ?_
      refine s_ldc2 (z := 5) C (d_of DX10_piece 16 rfl) (mG (wd_965) rfl) ⟨rfl, by decide⟩ ?_
      refine s_callS (av := [(1, l3), (1, 0), (1, 5)]) (rest := []) (mc := 0) (ms := 0) C (d_of DX10_piece 17 rfl) lk_X10_139 rfl rfl (Nat.le_of_ble_eq_true rfl) (by decide) (by decide) (pc_X10_in) (fun z5 wz5 Mz5 hq => ?_)
      obtain ⟨hq1, hq2, hq3⟩ := hq
      have hq2 := hq2.symm
      have hq3 := hq3.symm
      subst hq1 hq2 hq3
      refine s_ifeq C (d_of DX10_piece 18 rfl) rfl (fun hc => ?_) (fun hc => ?_)
      · have h := h.1 (b2i_0.mp hc)
        refine s_bipush C (d_of DX10_piece 32 rfl) ⟨rfl, by decide, by decide⟩ ?_
        exact s_ireturn C (d_of DX10_piece 33 rfl) h
      · have h := h.2 (b2i_n0 hc)
        refine s_iload C (d_of DX10_piece 19 rfl) rfl ?_
        refine s_i2l C (d_of DX10_piece 20 rfl) ?_
        refine s_lconst (z := 0) C (d_of DX10_piece 21 rfl) ⟨rfl, by decide⟩ ?_
        refine s_iload C (d_of DX10_piece 22 rfl) rfl ?_
        refine s_i2l C (d_of DX10_piece 23 rfl) ?_
        refine s_callS (av := [(1, l4), (1, 0), (1, l5)]) (rest := []) (mc := 0) (ms := 0) C (d_of DX10_piece 24 rfl) lk_X10_139 rfl rfl (Nat.le_of_ble_eq_true rfl) (by decide) (by decide) (pc_X10_in) (fun z6 wz6 Mz6 hq => ?_)
        obtain ⟨hq1, hq2, hq3⟩ := hq
        have hq2 := hq2.symm
        have hq3 := hq3.symm
        subst hq1 hq2 hq3
        refine s_ifeq C (d_of DX10_piece 25 rfl) rfl (fun hc => ?_) (fun hc => ?_)
        · have h := h.1 (b2i_0.mp hc)
          refine s_bipush C (d_of DX10_piece 32 rfl) ⟨rfl, by decide, by decide⟩ ?_
          exact s_ireturn C (d_of DX10_piece 33 rfl) h
        · have h := h.2 (b2i_n0 hc)
          refine s_iload C (d_of DX10_piece 26 rfl) rfl ?_
          refine s_i2l C (d_of DX10_piece 27 rfl) ?_
          refine s_lconst (z := 0) C (d_of DX10_piece 28 rfl) ⟨rfl, by decide⟩ ?_
          refine s_ldc2 (z := 9) C (d_of DX10_piece 29 rfl) (mG (wd_929) rfl) ⟨rfl, by decide⟩ ?_
          refine s_callS (av := [(1, l5), (1, 0), (1, 9)]) (rest := []) (mc := 0) (ms := 0) C (d_of DX10_piece 30 rfl) lk_X10_139 rfl rfl (Nat.le_of_ble_eq_true rfl) (by decide) (by decide) (pc_X10_in) (fun z7 wz7 Mz7 hq => ?_)
          obtain ⟨hq1, hq2, hq3⟩ := hq
          have hq2 := hq2.symm
          have hq3 := hq3.symm
          subst hq1 hq2 hq3
          refine s_ifne C (d_of DX10_piece 31 rfl) rfl (fun hc => ?_) (fun hc => ?_)
          · have h := h.1 (b2i_n0 hc)
            refine s_aload_n C (d_of DX10_piece 34 rfl) rfl ?_
            refine gf_X10_147 (v0 := (M 41 12)) C (sh_41 hF1) (d_of DX10_piece 35 rfl) rfl ?_
            refine s_bipush C (d_of DX10_piece 36 rfl) ⟨rfl, by decide, by decide⟩ ?_
            refine s_icmpne C (d_of DX10_piece 37 rfl) rfl (fun hc => ?_) (fun hc => ?_)
            · have h := h.1 hc
              refine s_aload_n C (d_of DX10_piece 40 rfl) rfl ?_
              refine gf_X10_22 C (sh_41 hF1) (d_of DX10_piece 41 rfl) (fx_41_5 hF1) ?_
              refine s_aload_n C (d_of DX10_piece 42 rfl) rfl ?_
              refine gf_X10_147 (v0 := (M 41 12)) C (sh_41 hF1) (d_of DX10_piece 43 rfl) rfl ?_
              refine s_iload_n C (d_of DX10_piece 44 rfl) rfl ?_
              obtain ⟨o8, h⟩ := h
              obtain ⟨o9, h⟩ := h
              refine s_iast C (sh_46 hF1) o8 o9 (fun _ => by decide) (d_of DX10_piece 45 rfl) ?_
              refine s_aload_n C (d_of DX10_piece 46 rfl) rfl ?_
              refine s_iconst C (d_of DX10_piece 47 rfl) (by decide) ?_
              refine pf_X10_166 C (sh_41 hF1) (by decide) (fun _ => by decide) (d_of DX10_piece 48 rfl) ?_
              refine s_aload_n C (d_of DX10_piece 49 rfl) rfl ?_
              refine WA.fix (fun hF10 => ?_)
              refine gf_X10_25 C (sh_41 hF1) (d_of DX10_piece 50 rfl) (fx_41_6 hF10) ?_
              refine s_aload_n C (d_of DX10_piece 51 rfl) rfl ?_
              refine gf_X10_147 (v0 := (M 41 12)) C (sh_41 hF1) (d_of DX10_piece 52 rfl) ((up_ni (by decide)).trans (up_na (by decide))) ?_
              refine s_iload_n C (d_of DX10_piece 53 rfl) rfl ?_
              refine s_iast C (sh_47 hF10) o8 o9 (fun _ => by decide) (d_of DX10_piece 54 rfl) ?_
              refine s_aload_n C (d_of DX10_piece 55 rfl) rfl ?_
              refine WA.fix (fun hF11 => ?_)
              refine gf_X10_28 C (sh_41 hF1) (d_of DX10_piece 56 rfl) (fx_41_7 hF11) ?_
              refine s_aload_n C (d_of DX10_piece 57 rfl) rfl ?_
              refine gf_X10_147 (v0 := (M 41 12)) C (sh_41 hF1) (d_of DX10_piece 58 rfl) ((up_na (by decide)).trans ((up_ni (by decide)).trans (up_na (by decide)))) ?_
              refine s_iload_n C (d_of DX10_piece 59 rfl) rfl ?_
              refine s_iast C (sh_48 hF11) o8 o9 (fun _ => by decide) (d_of DX10_piece 60 rfl) ?_
              refine s_aload_n C (d_of DX10_piece 61 rfl) rfl ?_
              refine WA.fix (fun hF12 => ?_)
              refine gf_X10_31 C (sh_41 hF1) (d_of DX10_piece 62 rfl) (fx_41_8 hF12) ?_
              refine s_aload_n C (d_of DX10_piece 63 rfl) rfl ?_
              refine gf_X10_147 (v0 := (M 41 12)) C (sh_41 hF1) (d_of DX10_piece 64 rfl) ((up_na (by decide)).trans ((up_na (by decide)).trans ((up_ni (by decide)).trans (up_na (by decide))))) ?_
              refine s_iload C (d_of DX10_piece 65 rfl) rfl ?_
              refine s_iast C (sh_49 hF12) o8 o9 (fun _ => by decide) (d_of DX10_piece 66 rfl) ?_
              refine s_aload_n C (d_of DX10_piece 67 rfl) rfl ?_
              refine WA.fix (fun hF13 => ?_)
              refine gf_X10_34 C (sh_41 hF1) (d_of DX10_piece 68 rfl) (fx_41_9 hF13) ?_
              refine s_aload_n C (d_of DX10_piece 69 rfl) rfl ?_
              refine gf_X10_147 (v0 := (M 41 12)) C (sh_41 hF1) (d_of DX10_piece 70 rfl) ((up_na (by decide)).trans ((up_na (by decide)).trans ((up_na (by decide)).trans ((up_ni (by decide)).trans (up_na (by decide)))))) ?_
              refine s_iload C (d_of DX10_piece 71 rfl) rfl ?_
              refine s_iast C (sh_50 hF13) o8 o9 (fun _ => by decide) (d_of DX10_piece 72 rfl) ?_
              refine s_aload_n C (d_of DX10_piece 73 rfl) rfl ?_
              refine s_dup C (by simp) (d_of DX10_piece 74 rfl) ?_
              refine gf_X10_147 (v0 := (M 41 12)) C (sh_41 hF1) (d_of DX10_piece 75 rfl) ((up_na (by decide)).trans ((up_na (by decide)).trans ((up_na (by decide)).trans ((up_na (by decide)).trans ((up_ni (by decide)).trans (up_na (by decide))))))) ?_
              refine s_iconst C (d_of DX10_piece 76 rfl) (by decide) ?_
              obtain ⟨o14, h⟩ := h
              refine s_iadd C (d_of DX10_piece 77 rfl) o14 ?_
              refine pf_X10_147 C (sh_41 hF1) (fun _ => by decide) (d_of DX10_piece 78 rfl) ?_
              refine s_aload_n C (d_of DX10_piece 79 rfl) rfl ?_
              refine gf_X10_147 (v0 := ((M 41 12) + 1)) C (sh_41 hF1) (d_of DX10_piece 80 rfl) (up_eq) ?_
              refine s_iconst C (d_of DX10_piece 81 rfl) (by decide) ?_
              obtain ⟨o15, h⟩ := h
              refine s_isub C (d_of DX10_piece 82 rfl) o15 ?_
              exact s_ireturn C (d_of DX10_piece 83 rfl) h
            · have h := h.2 hc
              refine s_bipush C (d_of DX10_piece 38 rfl) ⟨rfl, by decide, by decide⟩ ?_
              exact s_ireturn C (d_of DX10_piece 39 rfl) h
          · have h := h.2 (b2i_nn hc)
            refine s_bipush C (d_of DX10_piece 32 rfl) ⟨rfl, by decide, by decide⟩ ?_
            exact s_ireturn C (d_of DX10_piece 33 rfl) h
  · have h := h.2 (b2i_nn hc)
    refine s_iconst C (d_of DX10_piece 4 rfl) (by decide) ?_
    exact s_ireturn C (d_of DX10_piece 5 rfl) h
theorem E_X10_piece {G : GP} {l : Launch} {P : Int → NS → MM → Prop} {l1 : Int} {l2 : Int} {l3 : Int} {l4 : Int} {l5 : Int} {w : NS} {M : MM} (h : inR l1 → inR l2 → inR l3 → inR l4 → inR l5 → ∀ X : BX, X.2.1 = l → CX_X10_piece G X → A_X10_piece_0 G X P l1 l2 l3 l4 l5 w M) : CT_X10_piece G l [(2, 41), (0, l1), (0, l2), (0, l3), (0, l4), (0, l5)] w M P :=
  CT.of RX10 "piece" (by decide +kernel) rfl rfl rfl (Nat.le_of_ble_eq_true rfl) (fun hr X hX C => h (hr (0, l1) (by simp)) (hr (0, l2) (by simp)) (hr (0, l3) (by simp)) (hr (0, l4) (by simp)) (hr (0, l5) (by simp)) X hX C)
def A_X10_layOne_0 (G : GP) (X : BX) (P : Int → NS → MM → Prop) (l1 : Int) (w : NS) (M : MM) : Prop := WA true G X (QM G X true 4 P) 5 0 [(2, 41), (0, l1), (3, 0), (3, 0), (3, 0)] [] 0 0 w M
def A_X10_layOne_12 (G : GP) (X : BX) (P : Int → NS → MM → Prop) (l1 : Int) (l2 : Int) (w : NS) (M : MM) : Prop := WA true G X (QM G X true 4 P) 5 12 [(2, 41), (0, l1), (0, l2), (3, 0), (3, 0)] [] 0 0 w M
def A_X10_layOne_29 (G : GP) (X : BX) (P : Int → NS → MM → Prop) (l1 : Int) (l2 : Int) (l3 : Int) (w : NS) (M : MM) : Prop := WA true G X (QM G X true 4 P) 5 29 [(2, 41), (0, l1), (0, l2), (0, l3), (3, 0)] [] 0 0 w M
set_option maxHeartbeats 4000000 in
set_option maxRecDepth 100000 in
theorem B_X10_layOne_0 {G : GP} {X : BX} {P : Int → NS → MM → Prop} {l1 : Int} {w : NS} {M : MM} (C : CX_X10_layOne G X) (h : (0 ≤ l1) ∧ (l1 < 24) ∧ A_X10_layOne_12 G X P l1 (M 47 l1) w (up M 41 16 0)) : A_X10_layOne_0 G X P l1 w M := by
  unfold A_X10_layOne_0
  refine s_aload_n C (d_of DX10_layOne 0 rfl) rfl ?_
  refine s_iconst C (d_of DX10_layOne 1 rfl) (by decide) ?_
  refine WA.fix (fun hF1 => ?_)
  refine pf_X10_176 C (sh_41 hF1) (fun _ => by decide) (d_of DX10_layOne 2 rfl) ?_
  refine s_aload_n C (d_of DX10_layOne 3 rfl) rfl ?_
  refine WA.fix (fun hF2 => ?_)
  refine gf_X10_25 C (sh_41 hF1) (d_of DX10_layOne 4 rfl) (fx_41_6 hF2) ?_
  refine s_iload_n C (d_of DX10_layOne 5 rfl) rfl ?_
  obtain ⟨o3, h⟩ := h
  obtain ⟨o4, h⟩ := h
  refine s_iald (v0 := (M 47 l1)) C (sh_47 hF2) o3 o4 (d_of DX10_layOne 6 rfl) (up_na (by decide)) ?_
  refine s_istore_n (ls' := [(2, 41), (0, l1), (0, (M 47 l1)), (3, 0), (3, 0)]) C (d_of DX10_layOne 7 rfl) (by decide) rfl rfl ?_
  exact h
set_option maxHeartbeats 4000000 in
set_option maxRecDepth 100000 in
theorem B_X10_layOne_12 {G : GP} {X : BX} {P : Int → NS → MM → Prop} {l1 : Int} {l2 : Int} {w : NS} {M : MM} (C : CX_X10_layOne G X) (h : (0 ≤ l1) ∧ (l1 < 24) ∧ ((((M 48 l1) < l2) → P 0 w M) ∧ ((¬ ((M 48 l1) < l2)) → A_X10_layOne_29 G X P l1 l2 (M 49 l1) w M))) : A_X10_layOne_12 G X P l1 l2 w M := by
  unfold A_X10_layOne_12
  refine s_iload_n C (d_of DX10_layOne 8 rfl) rfl ?_
  refine s_aload_n C (d_of DX10_layOne 9 rfl) rfl ?_
  refine WA.fix (fun hF1 => ?_)
  refine gf_X10_28 C (sh_41 hF1) (d_of DX10_layOne 10 rfl) (fx_41_7 hF1) ?_
  refine s_iload_n C (d_of DX10_layOne 11 rfl) rfl ?_
  obtain ⟨o2, h⟩ := h
  obtain ⟨o3, h⟩ := h
  refine s_iald (v0 := (M 48 l1)) C (sh_48 hF1) o2 o3 (d_of DX10_layOne 12 rfl) rfl ?_
  refine s_icmpgt C (d_of DX10_layOne 13 rfl) rfl (fun hc => ?_) (fun hc => ?_)
  · have h := h.1 hc
    exact s_vreturn C (d_of DX10_layOne 59 rfl) h
  · have h := h.2 hc
    refine s_aload_n C (d_of DX10_layOne 14 rfl) rfl ?_
    refine gf_X10_31 C (sh_41 hF1) (d_of DX10_layOne 15 rfl) (fx_41_8 hF1) ?_
    refine s_iload_n C (d_of DX10_layOne 16 rfl) rfl ?_
    refine s_iald (v0 := (M 49 l1)) C (sh_49 hF1) o2 o3 (d_of DX10_layOne 17 rfl) rfl ?_
    refine s_istore_n (ls' := [(2, 41), (0, l1), (0, l2), (0, (M 49 l1)), (3, 0)]) C (d_of DX10_layOne 18 rfl) (by decide) rfl rfl ?_
    exact h
set_option maxHeartbeats 4000000 in
set_option maxRecDepth 100000 in
theorem B_X10_layOne_29 {G : GP} {X : BX} {P : Int → NS → MM → Prop} {l1 : Int} {l2 : Int} {l3 : Int} {w : NS} {M : MM} (C : CX_X10_layOne G X) (h : (0 ≤ l1) ∧ (l1 < 24) ∧ ((((M 50 l1) < l3) → (inR (l2 + 1)) ∧ A_X10_layOne_12 G X P l1 (l2 + 1) w M) ∧ ((¬ ((M 50 l1) < l3)) → (inR (60 * (M 46 l1))) ∧ (inR (10 * l2)) ∧ (inR ((60 * (M 46 l1)) + (10 * l2))) ∧ (inR (((60 * (M 46 l1)) + (10 * l2)) + l3)) ∧ (0 ≤ (((60 * (M 46 l1)) + (10 * l2)) + l3)) ∧ ((((60 * (M 46 l1)) + (10 * l2)) + l3) < 480) ∧ ((((M 42 (((60 * (M 46 l1)) + (10 * l2)) + l3)) < 0) → (inR (l3 + 1)) ∧ A_X10_layOne_29 G X P l1 l2 (l3 + 1) w M) ∧ ((¬ ((M 42 (((60 * (M 46 l1)) + (10 * l2)) + l3)) < 0)) → (0 ≤ (M 41 16)) ∧ ((M 41 16) < 60) ∧ (inR ((M 41 16) + 1)) ∧ (inR (l3 + 1)) ∧ A_X10_layOne_29 G X P l1 l2 (l3 + 1) w (up (up M 54 (M 41 16) (M 42 (((60 * (M 46 l1)) + (10 * l2)) + l3))) 41 16 ((M 41 16) + 1))))))) : A_X10_layOne_29 G X P l1 l2 l3 w M := by
  unfold A_X10_layOne_29
  refine s_iload_n C (d_of DX10_layOne 19 rfl) rfl ?_
  refine s_aload_n C (d_of DX10_layOne 20 rfl) rfl ?_
  refine WA.fix (fun hF1 => ?_)
  refine gf_X10_34 C (sh_41 hF1) (d_of DX10_layOne 21 rfl) (fx_41_9 hF1) ?_
  refine s_iload_n C (d_of DX10_layOne 22 rfl) rfl ?_
  obtain ⟨o2, h⟩ := h
  obtain ⟨o3, h⟩ := h
  refine s_iald (v0 := (M 50 l1)) C (sh_50 hF1) o2 o3 (d_of DX10_layOne 23 rfl) rfl ?_
  refine s_icmpgt C (d_of DX10_layOne 24 rfl) rfl (fun hc => ?_) (fun hc => ?_)
  · have h := h.1 hc
    obtain ⟨o4, h⟩ := h
    refine s_iinc (ls' := [(2, 41), (0, l1), (0, (l2 + 1)), (0, l3), (3, 0)]) C (d_of DX10_layOne 57 rfl) (by decide) rfl o4 rfl rfl ?_
    refine s_goto C (d_of DX10_layOne 58 rfl) rfl ?_
    exact WA.wk h ⟨Or.inr rfl, Or.inr rfl, Or.inr rfl, Or.inl rfl, Or.inl rfl, trivial⟩
  · have h := h.2 hc
    refine s_aload_n C (d_of DX10_layOne 25 rfl) rfl ?_
    refine gf_X10_7 C (sh_41 hF1) (d_of DX10_layOne 26 rfl) (fx_41_0 hF1) ?_
    refine s_bipush C (d_of DX10_layOne 27 rfl) ⟨rfl, by decide, by decide⟩ ?_
    refine s_aload_n C (d_of DX10_layOne 28 rfl) rfl ?_
    refine gf_X10_22 C (sh_41 hF1) (d_of DX10_layOne 29 rfl) (fx_41_5 hF1) ?_
    refine s_iload_n C (d_of DX10_layOne 30 rfl) rfl ?_
    refine s_iald (v0 := (M 46 l1)) C (sh_46 hF1) o2 o3 (d_of DX10_layOne 31 rfl) rfl ?_
    obtain ⟨o5, h⟩ := h
    refine s_imul C (d_of DX10_layOne 32 rfl) o5 ?_
    refine s_bipush C (d_of DX10_layOne 33 rfl) ⟨rfl, by decide, by decide⟩ ?_
    refine s_iload_n C (d_of DX10_layOne 34 rfl) rfl ?_
    obtain ⟨o6, h⟩ := h
    refine s_imul C (d_of DX10_layOne 35 rfl) o6 ?_
    obtain ⟨o7, h⟩ := h
    refine s_iadd C (d_of DX10_layOne 36 rfl) o7 ?_
    refine s_iload_n C (d_of DX10_layOne 37 rfl) rfl ?_
    obtain ⟨o8, h⟩ := h
    refine s_iadd C (d_of DX10_layOne 38 rfl) o8 ?_
    obtain ⟨o9, h⟩ := h
    obtain ⟨o10, h⟩ := h
    refine s_iald (v0 := (M 42 (((60 * (M 46 l1)) + (10 * l2)) + l3))) C (sh_42 hF1) o9 o10 (d_of DX10_layOne 39 rfl) rfl ?_
    refine s_istore (ls' := [(2, 41), (0, l1), (0, l2), (0, l3), (0, (M 42 (((60 * (M 46 l1)) + (10 * l2)) + l3)))]) C (d_of DX10_layOne 40 rfl) (by decide) rfl rfl ?_
    refine s_iload C (d_of DX10_layOne 41 rfl) rfl ?_
    refine s_iflt C (d_of DX10_layOne 42 rfl) rfl (fun hc => ?_) (fun hc => ?_)
    · have h := h.1 hc
      obtain ⟨o11, h⟩ := h
      refine s_iinc (ls' := [(2, 41), (0, l1), (0, l2), (0, (l3 + 1)), (0, (M 42 (((60 * (M 46 l1)) + (10 * l2)) + l3)))]) C (d_of DX10_layOne 55 rfl) (by decide) rfl o11 rfl rfl ?_
      refine s_goto C (d_of DX10_layOne 56 rfl) rfl ?_
      exact WA.wk h ⟨Or.inr rfl, Or.inr rfl, Or.inr rfl, Or.inr rfl, Or.inl rfl, trivial⟩
    · have h := h.2 hc
      refine s_aload_n C (d_of DX10_layOne 43 rfl) rfl ?_
      refine gf_X10_46 C (sh_41 hF1) (d_of DX10_layOne 44 rfl) (fx_41_14 hF1) ?_
      refine s_aload_n C (d_of DX10_layOne 45 rfl) rfl ?_
      refine gf_X10_176 (v0 := (M 41 16)) C (sh_41 hF1) (d_of DX10_layOne 46 rfl) rfl ?_
      refine s_iload C (d_of DX10_layOne 47 rfl) rfl ?_
      obtain ⟨o12, h⟩ := h
      obtain ⟨o13, h⟩ := h
      refine s_iast C (sh_54 hF1) o12 o13 (fun _ => by decide) (d_of DX10_layOne 48 rfl) ?_
      refine s_aload_n C (d_of DX10_layOne 49 rfl) rfl ?_
      refine s_dup C (by simp) (d_of DX10_layOne 50 rfl) ?_
      refine gf_X10_176 (v0 := (M 41 16)) C (sh_41 hF1) (d_of DX10_layOne 51 rfl) (up_na (by decide)) ?_
      refine s_iconst C (d_of DX10_layOne 52 rfl) (by decide) ?_
      obtain ⟨o14, h⟩ := h
      refine s_iadd C (d_of DX10_layOne 53 rfl) o14 ?_
      refine pf_X10_176 C (sh_41 hF1) (fun _ => by decide) (d_of DX10_layOne 54 rfl) ?_
      obtain ⟨o15, h⟩ := h
      refine s_iinc (ls' := [(2, 41), (0, l1), (0, l2), (0, (l3 + 1)), (0, (M 42 (((60 * (M 46 l1)) + (10 * l2)) + l3)))]) C (d_of DX10_layOne 55 rfl) (by decide) rfl o15 rfl rfl ?_
      refine s_goto C (d_of DX10_layOne 56 rfl) rfl ?_
      exact WA.wk h ⟨Or.inr rfl, Or.inr rfl, Or.inr rfl, Or.inr rfl, Or.inl rfl, trivial⟩
theorem E_X10_layOne {G : GP} {l : Launch} {P : Int → NS → MM → Prop} {l1 : Int} {w : NS} {M : MM} (h : inR l1 → ∀ X : BX, X.2.1 = l → CX_X10_layOne G X → A_X10_layOne_0 G X P l1 w M) : CT_X10_layOne G l [(2, 41), (0, l1)] w M P :=
  CT.of RX10 "layOne" (by decide +kernel) rfl rfl rfl (Nat.le_of_ble_eq_true rfl) (fun hr X hX C => h (hr (0, l1) (by simp)) X hX C)
def A_X10_layBoth_0 (G : GP) (X : BX) (P : Int → NS → MM → Prop) (l1 : Int) (l2 : Int) (w : NS) (M : MM) : Prop := WA true G X (QM G X true 4 P) 4 0 [(2, 41), (0, l1), (0, l2), (3, 0)] [] 0 0 w M
def A_X10_layBoth_7 (G : GP) (X : BX) (P : Int → NS → MM → Prop) (l1 : Int) (l3 : Int) (w : NS) (M : MM) : Prop := WA true G X (QM G X true 4 P) 4 7 [(2, 41), (0, l1), (3, 0), (0, l3)] [] 0 0 w M
set_option maxHeartbeats 4000000 in
set_option maxRecDepth 100000 in
theorem B_X10_layBoth_0 {G : GP} {X : BX} {P : Int → NS → MM → Prop} {l1 : Int} {l2 : Int} {w : NS} {M : MM} (C : CX_X10_layBoth G X) (h : ∃ Q2 : Int → NS → MM → Prop, CT_X10_layOne G X.2.1 [(2, 41), (0, l2)] w M Q2 ∧ ∀ (z2 : Int) (w2 : NS) (M2 : MM), Q2 z2 w2 M2 → A_X10_layBoth_7 G X P l1 0 w2 M2) : A_X10_layBoth_0 G X P l1 l2 w M := by
  unfold A_X10_layBoth_0
  refine s_aload_n C (d_of DX10_layBoth 0 rfl) rfl ?_
  refine s_iload_n C (d_of DX10_layBoth 1 rfl) rfl ?_
  refine WA.fix (fun hF1 => ?_)
  obtain ⟨Q2, hKQ2, h⟩ := h
  refine s_callV (ci := 10) (av := [(0, l2)]) (rest := []) (mc := 0) (ms := 0) C (d_of DX10_layBoth 2 rfl) lk_X10_179 (sh_41 hF1) (by decide) rfl rfl rfl (Nat.le_of_ble_eq_true rfl) (by decide) (by decide) hKQ2 (fun z2 w2 M2 hq => ?_)
  have h := h z2 w2 M2 hq
  refine s_iconst C (d_of DX10_layBoth 3 rfl) (by decide) ?_
  refine s_istore_n (ls' := [(2, 41), (0, l1), (0, l2), (0, 0)]) C (d_of DX10_layBoth 4 rfl) (by decide) rfl rfl ?_
  exact WA.wk h ⟨Or.inr rfl, Or.inr rfl, Or.inl rfl, Or.inr rfl, trivial⟩
set_option maxHeartbeats 4000000 in
set_option maxRecDepth 100000 in
theorem B_X10_layBoth_7 {G : GP} {X : BX} {P : Int → NS → MM → Prop} {l1 : Int} {l3 : Int} {w : NS} {M : MM} (C : CX_X10_layBoth G X) (h : ((((M 41 16) ≤ l3) → ∃ Q2 : Int → NS → MM → Prop, CT_X10_layOne G X.2.1 [(2, 41), (0, l1)] w (up M 41 17 (M 41 16)) Q2 ∧ ∀ (z2 : Int) (w2 : NS) (M2 : MM), Q2 z2 w2 M2 → P 0 w2 M2) ∧ ((¬ ((M 41 16) ≤ l3)) → (0 ≤ l3) ∧ (l3 < 60) ∧ (inR (l3 + 1)) ∧ A_X10_layBoth_7 G X P l1 (l3 + 1) w (up M 55 l3 (M 54 l3))))) : A_X10_layBoth_7 G X P l1 l3 w M := by
  unfold A_X10_layBoth_7
  refine s_iload_n C (d_of DX10_layBoth 5 rfl) rfl ?_
  refine s_aload_n C (d_of DX10_layBoth 6 rfl) rfl ?_
  refine WA.fix (fun hF1 => ?_)
  refine gf_X10_176 (v0 := (M 41 16)) C (sh_41 hF1) (d_of DX10_layBoth 7 rfl) rfl ?_
  refine s_icmpge C (d_of DX10_layBoth 8 rfl) rfl (fun hc => ?_) (fun hc => ?_)
  · have h := h.1 hc
    refine s_aload_n C (d_of DX10_layBoth 19 rfl) rfl ?_
    refine s_aload_n C (d_of DX10_layBoth 20 rfl) rfl ?_
    refine gf_X10_176 (v0 := (M 41 16)) C (sh_41 hF1) (d_of DX10_layBoth 21 rfl) rfl ?_
    refine pf_X10_183 C (sh_41 hF1) (fun _ => by decide) (d_of DX10_layBoth 22 rfl) ?_
    refine s_aload_n C (d_of DX10_layBoth 23 rfl) rfl ?_
    refine s_iload_n C (d_of DX10_layBoth 24 rfl) rfl ?_
    obtain ⟨Q2, hKQ2, h⟩ := h
    refine s_callV (ci := 10) (av := [(0, l1)]) (rest := []) (mc := 0) (ms := 0) C (d_of DX10_layBoth 25 rfl) lk_X10_179 (sh_41 hF1) (by decide) rfl rfl rfl (Nat.le_of_ble_eq_true rfl) (by decide) (by decide) hKQ2 (fun z2 w2 M2 hq => ?_)
    have h := h z2 w2 M2 hq
    exact s_vreturn C (d_of DX10_layBoth 26 rfl) h
  · have h := h.2 hc
    refine s_aload_n C (d_of DX10_layBoth 9 rfl) rfl ?_
    refine gf_X10_49 C (sh_41 hF1) (d_of DX10_layBoth 10 rfl) (fx_41_15 hF1) ?_
    refine s_iload_n C (d_of DX10_layBoth 11 rfl) rfl ?_
    refine s_aload_n C (d_of DX10_layBoth 12 rfl) rfl ?_
    refine gf_X10_46 C (sh_41 hF1) (d_of DX10_layBoth 13 rfl) (fx_41_14 hF1) ?_
    refine s_iload_n C (d_of DX10_layBoth 14 rfl) rfl ?_
    obtain ⟨o3, h⟩ := h
    obtain ⟨o4, h⟩ := h
    refine s_iald (v0 := (M 54 l3)) C (sh_54 hF1) o3 o4 (d_of DX10_layBoth 15 rfl) rfl ?_
    refine s_iast C (sh_55 hF1) o3 o4 (fun _ => by decide) (d_of DX10_layBoth 16 rfl) ?_
    obtain ⟨o5, h⟩ := h
    refine s_iinc (ls' := [(2, 41), (0, l1), (3, 0), (0, (l3 + 1))]) C (d_of DX10_layBoth 17 rfl) (by decide) rfl o5 rfl rfl ?_
    refine s_goto C (d_of DX10_layBoth 18 rfl) rfl ?_
    exact h
theorem E_X10_layBoth {G : GP} {l : Launch} {P : Int → NS → MM → Prop} {l1 : Int} {l2 : Int} {w : NS} {M : MM} (h : inR l1 → inR l2 → ∀ X : BX, X.2.1 = l → CX_X10_layBoth G X → A_X10_layBoth_0 G X P l1 l2 w M) : CT_X10_layBoth G l [(2, 41), (0, l1), (0, l2)] w M P :=
  CT.of RX10 "layBoth" (by decide +kernel) rfl rfl rfl (Nat.le_of_ble_eq_true rfl) (fun hr X hX C => h (hr (0, l1) (by simp)) (hr (0, l2) (by simp)) X hX C)
def A_X10_changesOf_0 (G : GP) (X : BX) (P : Int → NS → MM → Prop) (l1 : Int) (l2 : Int) (w : NS) (M : MM) : Prop := WA true G X (QM G X true 0 P) 8 0 [(2, 41), (0, l1), (0, l2), (3, 0), (3, 0), (3, 0), (3, 0), (3, 0)] [] 0 0 w M
def A_X10_changesOf_8 (G : GP) (X : BX) (P : Int → NS → MM → Prop) (l3 : Int) (w : NS) (M : MM) : Prop := WA true G X (QM G X true 0 P) 8 8 [(2, 41), (3, 0), (3, 0), (0, l3), (3, 0), (3, 0), (3, 0), (3, 0)] [] 0 0 w M
def A_X10_changesOf_31 (G : GP) (X : BX) (P : Int → NS → MM → Prop) (l3 : Int) (w : NS) (M : MM) : Prop := WA true G X (QM G X true 0 P) 8 31 [(2, 41), (3, 0), (3, 0), (0, l3), (3, 0), (3, 0), (3, 0), (3, 0)] [] 0 0 w M
def A_X10_changesOf_57 (G : GP) (X : BX) (P : Int → NS → MM → Prop) (l3 : Int) (l4 : Int) (l5 : Int) (w : NS) (M : MM) : Prop := WA true G X (QM G X true 0 P) 8 57 [(2, 41), (3, 0), (3, 0), (0, l3), (0, l4), (0, l5), (3, 0), (3, 0)] [] 0 0 w M
set_option maxHeartbeats 4000000 in
set_option maxRecDepth 100000 in
theorem B_X10_changesOf_0 {G : GP} {X : BX} {P : Int → NS → MM → Prop} {l1 : Int} {l2 : Int} {w : NS} {M : MM} (C : CX_X10_changesOf G X) (h : ∃ Q2 : Int → NS → MM → Prop, CT_X10_layBoth G X.2.1 [(2, 41), (0, l1), (0, l2)] w M Q2 ∧ ∀ (z2 : Int) (w2 : NS) (M2 : MM), Q2 z2 w2 M2 → A_X10_changesOf_8 G X P 0 w2 M2) : A_X10_changesOf_0 G X P l1 l2 w M := by
  unfold A_X10_changesOf_0
  refine s_aload_n C (d_of DX10_changesOf 0 rfl) rfl ?_
  refine s_iload_n C (d_of DX10_changesOf 1 rfl) rfl ?_
  refine s_iload_n C (d_of DX10_changesOf 2 rfl) rfl ?_
  refine WA.fix (fun hF1 => ?_)
  obtain ⟨Q2, hKQ2, h⟩ := h
  refine s_callV (ci := 10) (av := [(0, l1), (0, l2)]) (rest := []) (mc := 0) (ms := 0) C (d_of DX10_changesOf 3 rfl) lk_X10_258 (sh_41 hF1) (by decide) rfl rfl rfl (Nat.le_of_ble_eq_true rfl) (by decide) (by decide) hKQ2 (fun z2 w2 M2 hq => ?_)
  have h := h z2 w2 M2 hq
  refine s_iconst C (d_of DX10_changesOf 4 rfl) (by decide) ?_
  refine s_istore_n (ls' := [(2, 41), (0, l1), (0, l2), (0, 0), (3, 0), (3, 0), (3, 0), (3, 0)]) C (d_of DX10_changesOf 5 rfl) (by decide) rfl rfl ?_
  exact WA.wk h ⟨Or.inr rfl, Or.inl rfl, Or.inl rfl, Or.inr rfl, Or.inl rfl, Or.inl rfl, Or.inl rfl, Or.inl rfl, trivial⟩
set_option maxHeartbeats 4000000 in
set_option maxRecDepth 100000 in
theorem B_X10_changesOf_8 {G : GP} {X : BX} {P : Int → NS → MM → Prop} {l3 : Int} {w : NS} {M : MM} (C : CX_X10_changesOf G X) (h : ((((M 41 17) < l3) → A_X10_changesOf_31 G X P 1 w M) ∧ ((¬ ((M 41 17) < l3)) → (0 ≤ l3) ∧ (l3 < 61) ∧ (inR (l3 + 1)) ∧ A_X10_changesOf_8 G X P (l3 + 1) w (up M 67 l3 l3)))) : A_X10_changesOf_8 G X P l3 w M := by
  unfold A_X10_changesOf_8
  refine s_iload_n C (d_of DX10_changesOf 6 rfl) rfl ?_
  refine s_aload_n C (d_of DX10_changesOf 7 rfl) rfl ?_
  refine WA.fix (fun hF1 => ?_)
  refine gf_X10_183 (v0 := (M 41 17)) C (sh_41 hF1) (d_of DX10_changesOf 8 rfl) rfl ?_
  refine s_icmpgt C (d_of DX10_changesOf 9 rfl) rfl (fun hc => ?_) (fun hc => ?_)
  · have h := h.1 hc
    refine s_iconst C (d_of DX10_changesOf 17 rfl) (by decide) ?_
    refine s_istore_n (ls' := [(2, 41), (3, 0), (3, 0), (0, 1), (3, 0), (3, 0), (3, 0), (3, 0)]) C (d_of DX10_changesOf 18 rfl) (by decide) rfl rfl ?_
    exact h
  · have h := h.2 hc
    refine s_aload_n C (d_of DX10_changesOf 10 rfl) rfl ?_
    refine gf_X10_86 C (sh_41 hF1) (d_of DX10_changesOf 11 rfl) (fx_41_31 hF1) ?_
    refine s_iload_n C (d_of DX10_changesOf 12 rfl) rfl ?_
    refine s_iload_n C (d_of DX10_changesOf 13 rfl) rfl ?_
    obtain ⟨o2, h⟩ := h
    obtain ⟨o3, h⟩ := h
    refine s_iast C (sh_67 hF1) o2 o3 (fun _ => by decide) (d_of DX10_changesOf 14 rfl) ?_
    obtain ⟨o4, h⟩ := h
    refine s_iinc (ls' := [(2, 41), (3, 0), (3, 0), (0, (l3 + 1)), (3, 0), (3, 0), (3, 0), (3, 0)]) C (d_of DX10_changesOf 15 rfl) (by decide) rfl o4 rfl rfl ?_
    refine s_goto C (d_of DX10_changesOf 16 rfl) rfl ?_
    exact h
set_option maxHeartbeats 4000000 in
set_option maxRecDepth 100000 in
theorem B_X10_changesOf_31 {G : GP} {X : BX} {P : Int → NS → MM → Prop} {l3 : Int} {w : NS} {M : MM} (C : CX_X10_changesOf G X) (h : ((((M 41 16) < l3) → (0 ≤ (M 41 17)) ∧ ((M 41 17) < 61) ∧ P (M 67 (M 41 17)) w M) ∧ ((¬ ((M 41 16) < l3)) → A_X10_changesOf_57 G X P l3 (M 67 0) 1 w (up M 67 0 l3)))) : A_X10_changesOf_31 G X P l3 w M := by
  unfold A_X10_changesOf_31
  refine s_iload_n C (d_of DX10_changesOf 19 rfl) rfl ?_
  refine s_aload_n C (d_of DX10_changesOf 20 rfl) rfl ?_
  refine WA.fix (fun hF1 => ?_)
  refine gf_X10_176 (v0 := (M 41 16)) C (sh_41 hF1) (d_of DX10_changesOf 21 rfl) rfl ?_
  refine s_icmpgt C (d_of DX10_changesOf 22 rfl) rfl (fun hc => ?_) (fun hc => ?_)
  · have h := h.1 hc
    refine s_aload_n C (d_of DX10_changesOf 106 rfl) rfl ?_
    refine gf_X10_86 C (sh_41 hF1) (d_of DX10_changesOf 107 rfl) (fx_41_31 hF1) ?_
    refine s_aload_n C (d_of DX10_changesOf 108 rfl) rfl ?_
    refine gf_X10_183 (v0 := (M 41 17)) C (sh_41 hF1) (d_of DX10_changesOf 109 rfl) rfl ?_
    obtain ⟨o2, h⟩ := h
    obtain ⟨o3, h⟩ := h
    refine s_iald (v0 := (M 67 (M 41 17))) C (sh_67 hF1) o2 o3 (d_of DX10_changesOf 110 rfl) rfl ?_
    exact s_ireturn C (d_of DX10_changesOf 111 rfl) h
  · have h := h.2 hc
    refine s_aload_n C (d_of DX10_changesOf 23 rfl) rfl ?_
    refine gf_X10_86 C (sh_41 hF1) (d_of DX10_changesOf 24 rfl) (fx_41_31 hF1) ?_
    refine s_iconst C (d_of DX10_changesOf 25 rfl) (by decide) ?_
    refine s_iald (v0 := (M 67 0)) C (sh_67 hF1) (by decide) (by decide) (d_of DX10_changesOf 26 rfl) rfl ?_
    refine s_istore (ls' := [(2, 41), (3, 0), (3, 0), (0, l3), (0, (M 67 0)), (3, 0), (3, 0), (3, 0)]) C (d_of DX10_changesOf 27 rfl) (by decide) rfl rfl ?_
    refine s_aload_n C (d_of DX10_changesOf 28 rfl) rfl ?_
    refine gf_X10_86 C (sh_41 hF1) (d_of DX10_changesOf 29 rfl) (fx_41_31 hF1) ?_
    refine s_iconst C (d_of DX10_changesOf 30 rfl) (by decide) ?_
    refine s_iload_n C (d_of DX10_changesOf 31 rfl) rfl ?_
    refine s_iast C (sh_67 hF1) (by decide) (by decide) (fun _ => by decide) (d_of DX10_changesOf 32 rfl) ?_
    refine s_iconst C (d_of DX10_changesOf 33 rfl) (by decide) ?_
    refine s_istore (ls' := [(2, 41), (3, 0), (3, 0), (0, l3), (0, (M 67 0)), (0, 1), (3, 0), (3, 0)]) C (d_of DX10_changesOf 34 rfl) (by decide) rfl rfl ?_
    exact h
set_option maxHeartbeats 4000000 in
set_option maxRecDepth 100000 in
theorem B_X10_changesOf_57 {G : GP} {X : BX} {P : Int → NS → MM → Prop} {l3 : Int} {l4 : Int} {l5 : Int} {w : NS} {M : MM} (C : CX_X10_changesOf G X) (h : ((((M 41 17) < l5) → (inR (l3 + 1)) ∧ A_X10_changesOf_31 G X P (l3 + 1) w M) ∧ ((¬ ((M 41 17) < l5)) → (0 ≤ l5) ∧ (l5 < 61) ∧ (inR (l3 - 1)) ∧ (0 ≤ (l3 - 1)) ∧ ((l3 - 1) < 60) ∧ (inR (l5 - 1)) ∧ (0 ≤ (l5 - 1)) ∧ ((l5 - 1) < 60) ∧ ((((M 54 (l3 - 1)) ≠ (M 55 (l5 - 1))) → (inR (l4 + 1)) ∧ (inR ((M 67 l5) + 1)) ∧ ((((l4 + 1) ≤ ((M 67 l5) + 1)) → ((l5 - 1) < 61) ∧ (inR ((M 67 (l5 - 1)) + 1)) ∧ ((((l4 + 1) ≤ ((M 67 (l5 - 1)) + 1)) → (inR (l5 + 1)) ∧ A_X10_changesOf_57 G X P l3 (M 67 l5) (l5 + 1) w (up M 67 l5 (l4 + 1))) ∧ ((¬ ((l4 + 1) ≤ ((M 67 (l5 - 1)) + 1))) → (inR (l5 + 1)) ∧ A_X10_changesOf_57 G X P l3 (M 67 l5) (l5 + 1) w (up M 67 l5 ((M 67 (l5 - 1)) + 1))))) ∧ ((¬ ((l4 + 1) ≤ ((M 67 l5) + 1))) → ((l5 - 1) < 61) ∧ (inR ((M 67 (l5 - 1)) + 1)) ∧ (((((M 67 l5) + 1) ≤ ((M 67 (l5 - 1)) + 1)) → (inR (l5 + 1)) ∧ A_X10_changesOf_57 G X P l3 (M 67 l5) (l5 + 1) w (up M 67 l5 ((M 67 l5) + 1))) ∧ ((¬ (((M 67 l5) + 1) ≤ ((M 67 (l5 - 1)) + 1))) → (inR (l5 + 1)) ∧ A_X10_changesOf_57 G X P l3 (M 67 l5) (l5 + 1) w (up M 67 l5 ((M 67 (l5 - 1)) + 1))))))) ∧ ((¬ ((M 54 (l3 - 1)) ≠ (M 55 (l5 - 1)))) → (inR (l4 + 0)) ∧ (inR ((M 67 l5) + 1)) ∧ ((((l4 + 0) ≤ ((M 67 l5) + 1)) → ((l5 - 1) < 61) ∧ (inR ((M 67 (l5 - 1)) + 1)) ∧ ((((l4 + 0) ≤ ((M 67 (l5 - 1)) + 1)) → (inR (l5 + 1)) ∧ A_X10_changesOf_57 G X P l3 (M 67 l5) (l5 + 1) w (up M 67 l5 (l4 + 0))) ∧ ((¬ ((l4 + 0) ≤ ((M 67 (l5 - 1)) + 1))) → (inR (l5 + 1)) ∧ A_X10_changesOf_57 G X P l3 (M 67 l5) (l5 + 1) w (up M 67 l5 ((M 67 (l5 - 1)) + 1))))) ∧ ((¬ ((l4 + 0) ≤ ((M 67 l5) + 1))) → ((l5 - 1) < 61) ∧ (inR ((M 67 (l5 - 1)) + 1)) ∧ (((((M 67 l5) + 1) ≤ ((M 67 (l5 - 1)) + 1)) → (inR (l5 + 1)) ∧ A_X10_changesOf_57 G X P l3 (M 67 l5) (l5 + 1) w (up M 67 l5 ((M 67 l5) + 1))) ∧ ((¬ (((M 67 l5) + 1) ≤ ((M 67 (l5 - 1)) + 1))) → (inR (l5 + 1)) ∧ A_X10_changesOf_57 G X P l3 (M 67 l5) (l5 + 1) w (up M 67 l5 ((M 67 (l5 - 1)) + 1))))))))))) : A_X10_changesOf_57 G X P l3 l4 l5 w M := by
  unfold A_X10_changesOf_57
  refine s_iload C (d_of DX10_changesOf 35 rfl) rfl ?_
  refine s_aload_n C (d_of DX10_changesOf 36 rfl) rfl ?_
  refine WA.fix (fun hF1 => ?_)
  refine gf_X10_183 (v0 := (M 41 17)) C (sh_41 hF1) (d_of DX10_changesOf 37 rfl) rfl ?_
  refine s_icmpgt C (d_of DX10_changesOf 38 rfl) rfl (fun hc => ?_) (fun hc => ?_)
  · have h := h.1 hc
    obtain ⟨o2, h⟩ := h
    refine s_iinc (ls' := [(2, 41), (3, 0), (3, 0), (0, (l3 + 1)), (0, l4), (0, l5), (3, 0), (3, 0)]) C (d_of DX10_changesOf 104 rfl) (by decide) rfl o2 rfl rfl ?_
    refine s_goto C (d_of DX10_changesOf 105 rfl) rfl ?_
    exact WA.wk h ⟨Or.inr rfl, Or.inl rfl, Or.inl rfl, Or.inr rfl, Or.inl rfl, Or.inl rfl, Or.inl rfl, Or.inl rfl, trivial⟩
  · have h := h.2 hc
    refine s_aload_n C (d_of DX10_changesOf 39 rfl) rfl ?_
    refine gf_X10_86 C (sh_41 hF1) (d_of DX10_changesOf 40 rfl) (fx_41_31 hF1) ?_
    refine s_iload C (d_of DX10_changesOf 41 rfl) rfl ?_
    obtain ⟨o3, h⟩ := h
    obtain ⟨o4, h⟩ := h
    refine s_iald (v0 := (M 67 l5)) C (sh_67 hF1) o3 o4 (d_of DX10_changesOf 42 rfl) rfl ?_
    refine s_istore (ls' := [(2, 41), (3, 0), (3, 0), (0, l3), (0, l4), (0, l5), (0, (M 67 l5)), (3, 0)]) C (d_of DX10_changesOf 43 rfl) (by decide) rfl rfl ?_
    refine s_iload C (d_of DX10_changesOf 44 rfl) rfl ?_
    refine s_aload_n C (d_of DX10_changesOf 45 rfl) rfl ?_
    refine gf_X10_46 C (sh_41 hF1) (d_of DX10_changesOf 46 rfl) (fx_41_14 hF1) ?_
    refine s_iload_n C (d_of DX10_changesOf 47 rfl) rfl ?_
    refine s_iconst C (d_of DX10_changesOf 48 rfl) (by decide) ?_
    obtain ⟨o5, h⟩ := h
    refine s_isub C (d_of DX10_changesOf 49 rfl) o5 ?_
    obtain ⟨o6, h⟩ := h
    obtain ⟨o7, h⟩ := h
    refine s_iald (v0 := (M 54 (l3 - 1))) C (sh_54 hF1) o6 o7 (d_of DX10_changesOf 50 rfl) rfl ?_
    refine s_aload_n C (d_of DX10_changesOf 51 rfl) rfl ?_
    refine gf_X10_49 C (sh_41 hF1) (d_of DX10_changesOf 52 rfl) (fx_41_15 hF1) ?_
    refine s_iload C (d_of DX10_changesOf 53 rfl) rfl ?_
    refine s_iconst C (d_of DX10_changesOf 54 rfl) (by decide) ?_
    obtain ⟨o8, h⟩ := h
    refine s_isub C (d_of DX10_changesOf 55 rfl) o8 ?_
    obtain ⟨o9, h⟩ := h
    obtain ⟨o10, h⟩ := h
    refine s_iald (v0 := (M 55 (l5 - 1))) C (sh_55 hF1) o9 o10 (d_of DX10_changesOf 56 rfl) rfl ?_
    refine s_icmpne C (d_of DX10_changesOf 57 rfl) rfl (fun hc => ?_) (fun hc => ?_)
    · have h := h.1 hc
      refine s_iconst C (d_of DX10_changesOf 60 rfl) (by decide) ?_
      obtain ⟨o11, h⟩ := h
      refine s_iadd C (d_of DX10_changesOf 61 rfl) o11 ?_
      refine s_istore (ls' := [(2, 41), (3, 0), (3, 0), (0, l3), (0, l4), (0, l5), (0, (M 67 l5)), (0, (l4 + 1))]) C (d_of DX10_changesOf 62 rfl) (by decide) rfl rfl ?_
      refine s_iload C (d_of DX10_changesOf 63 rfl) rfl ?_
      refine s_iconst C (d_of DX10_changesOf 64 rfl) (by decide) ?_
      obtain ⟨o12, h⟩ := h
      refine s_iadd C (d_of DX10_changesOf 65 rfl) o12 ?_
      refine s_iload C (d_of DX10_changesOf 66 rfl) rfl ?_
      refine s_icmpge C (d_of DX10_changesOf 67 rfl) rfl (fun hc => ?_) (fun hc => ?_)
      · have h := h.1 hc
        refine s_iload C (d_of DX10_changesOf 72 rfl) rfl ?_
        refine s_istore (ls' := [(2, 41), (3, 0), (3, 0), (0, l3), (0, l4), (0, l5), (0, (M 67 l5)), (0, (l4 + 1))]) C (d_of DX10_changesOf 73 rfl) (by decide) rfl rfl ?_
        refine s_aload_n C (d_of DX10_changesOf 74 rfl) rfl ?_
        refine gf_X10_86 C (sh_41 hF1) (d_of DX10_changesOf 75 rfl) (fx_41_31 hF1) ?_
        refine s_iload C (d_of DX10_changesOf 76 rfl) rfl ?_
        refine s_iconst C (d_of DX10_changesOf 77 rfl) (by decide) ?_
        refine s_isub C (d_of DX10_changesOf 78 rfl) o8 ?_
        obtain ⟨o13, h⟩ := h
        refine s_iald (v0 := (M 67 (l5 - 1))) C (sh_67 hF1) o9 o13 (d_of DX10_changesOf 79 rfl) rfl ?_
        refine s_iconst C (d_of DX10_changesOf 80 rfl) (by decide) ?_
        obtain ⟨o14, h⟩ := h
        refine s_iadd C (d_of DX10_changesOf 81 rfl) o14 ?_
        refine s_iload C (d_of DX10_changesOf 82 rfl) rfl ?_
        refine s_icmpge C (d_of DX10_changesOf 83 rfl) rfl (fun hc => ?_) (fun hc => ?_)
        · have h := h.1 hc
          refine s_iload C (d_of DX10_changesOf 93 rfl) rfl ?_
          refine s_istore (ls' := [(2, 41), (3, 0), (3, 0), (0, l3), (0, l4), (0, l5), (0, (M 67 l5)), (0, (l4 + 1))]) C (d_of DX10_changesOf 94 rfl) (by decide) rfl rfl ?_
          refine s_aload_n C (d_of DX10_changesOf 95 rfl) rfl ?_
          refine gf_X10_86 C (sh_41 hF1) (d_of DX10_changesOf 96 rfl) (fx_41_31 hF1) ?_
          refine s_iload C (d_of DX10_changesOf 97 rfl) rfl ?_
          refine s_iload C (d_of DX10_changesOf 98 rfl) rfl ?_
          refine s_iast C (sh_67 hF1) o3 o4 (fun _ => by decide) (d_of DX10_changesOf 99 rfl) ?_
          refine s_iload C (d_of DX10_changesOf 100 rfl) rfl ?_
          refine s_istore (ls' := [(2, 41), (3, 0), (3, 0), (0, l3), (0, (M 67 l5)), (0, l5), (0, (M 67 l5)), (0, (l4 + 1))]) C (d_of DX10_changesOf 101 rfl) (by decide) rfl rfl ?_
          obtain ⟨o15, h⟩ := h
          refine s_iinc (ls' := [(2, 41), (3, 0), (3, 0), (0, l3), (0, (M 67 l5)), (0, (l5 + 1)), (0, (M 67 l5)), (0, (l4 + 1))]) C (d_of DX10_changesOf 102 rfl) (by decide) rfl o15 rfl rfl ?_
          refine s_goto C (d_of DX10_changesOf 103 rfl) rfl ?_
          exact WA.wk h ⟨Or.inr rfl, Or.inl rfl, Or.inl rfl, Or.inr rfl, Or.inr rfl, Or.inr rfl, Or.inl rfl, Or.inl rfl, trivial⟩
        · have h := h.2 hc
          refine s_aload_n C (d_of DX10_changesOf 84 rfl) rfl ?_
          refine gf_X10_86 C (sh_41 hF1) (d_of DX10_changesOf 85 rfl) (fx_41_31 hF1) ?_
          refine s_iload C (d_of DX10_changesOf 86 rfl) rfl ?_
          refine s_iconst C (d_of DX10_changesOf 87 rfl) (by decide) ?_
          refine s_isub C (d_of DX10_changesOf 88 rfl) o8 ?_
          refine s_iald (v0 := (M 67 (l5 - 1))) C (sh_67 hF1) o9 o13 (d_of DX10_changesOf 89 rfl) rfl ?_
          refine s_iconst C (d_of DX10_changesOf 90 rfl) (by decide) ?_
          refine s_iadd C (d_of DX10_changesOf 91 rfl) o14 ?_
          refine s_goto C (d_of DX10_changesOf 92 rfl) rfl ?_
          refine s_istore (ls' := [(2, 41), (3, 0), (3, 0), (0, l3), (0, l4), (0, l5), (0, (M 67 l5)), (0, ((M 67 (l5 - 1)) + 1))]) C (d_of DX10_changesOf 94 rfl) (by decide) rfl rfl ?_
          refine s_aload_n C (d_of DX10_changesOf 95 rfl) rfl ?_
          refine gf_X10_86 C (sh_41 hF1) (d_of DX10_changesOf 96 rfl) (fx_41_31 hF1) ?_
          refine s_iload C (d_of DX10_changesOf 97 rfl) rfl ?_
          refine s_iload C (d_of DX10_changesOf 98 rfl) rfl ?_
          refine s_iast C (sh_67 hF1) o3 o4 (fun _ => by decide) (d_of DX10_changesOf 99 rfl) ?_
          refine s_iload C (d_of DX10_changesOf 100 rfl) rfl ?_
          refine s_istore (ls' := [(2, 41), (3, 0), (3, 0), (0, l3), (0, (M 67 l5)), (0, l5), (0, (M 67 l5)), (0, ((M 67 (l5 - 1)) + 1))]) C (d_of DX10_changesOf 101 rfl) (by decide) rfl rfl ?_
          obtain ⟨o16, h⟩ := h
          refine s_iinc (ls' := [(2, 41), (3, 0), (3, 0), (0, l3), (0, (M 67 l5)), (0, (l5 + 1)), (0, (M 67 l5)), (0, ((M 67 (l5 - 1)) + 1))]) C (d_of DX10_changesOf 102 rfl) (by decide) rfl o16 rfl rfl ?_
          refine s_goto C (d_of DX10_changesOf 103 rfl) rfl ?_
          exact WA.wk h ⟨Or.inr rfl, Or.inl rfl, Or.inl rfl, Or.inr rfl, Or.inr rfl, Or.inr rfl, Or.inl rfl, Or.inl rfl, trivial⟩
      · have h := h.2 hc
        refine s_iload C (d_of DX10_changesOf 68 rfl) rfl ?_
        refine s_iconst C (d_of DX10_changesOf 69 rfl) (by decide) ?_
        refine s_iadd C (d_of DX10_changesOf 70 rfl) o12 ?_
        refine s_goto C (d_of DX10_changesOf 71 rfl) rfl ?_
        refine s_istore (ls' := [(2, 41), (3, 0), (3, 0), (0, l3), (0, l4), (0, l5), (0, (M 67 l5)), (0, ((M 67 l5) + 1))]) C (d_of DX10_changesOf 73 rfl) (by decide) rfl rfl ?_
        refine s_aload_n C (d_of DX10_changesOf 74 rfl) rfl ?_
        refine gf_X10_86 C (sh_41 hF1) (d_of DX10_changesOf 75 rfl) (fx_41_31 hF1) ?_
        refine s_iload C (d_of DX10_changesOf 76 rfl) rfl ?_
        refine s_iconst C (d_of DX10_changesOf 77 rfl) (by decide) ?_
        refine s_isub C (d_of DX10_changesOf 78 rfl) o8 ?_
        obtain ⟨o17, h⟩ := h
        refine s_iald (v0 := (M 67 (l5 - 1))) C (sh_67 hF1) o9 o17 (d_of DX10_changesOf 79 rfl) rfl ?_
        refine s_iconst C (d_of DX10_changesOf 80 rfl) (by decide) ?_
        obtain ⟨o18, h⟩ := h
        refine s_iadd C (d_of DX10_changesOf 81 rfl) o18 ?_
        refine s_iload C (d_of DX10_changesOf 82 rfl) rfl ?_
        refine s_icmpge C (d_of DX10_changesOf 83 rfl) rfl (fun hc => ?_) (fun hc => ?_)
        · have h := h.1 hc
          refine s_iload C (d_of DX10_changesOf 93 rfl) rfl ?_
          refine s_istore (ls' := [(2, 41), (3, 0), (3, 0), (0, l3), (0, l4), (0, l5), (0, (M 67 l5)), (0, ((M 67 l5) + 1))]) C (d_of DX10_changesOf 94 rfl) (by decide) rfl rfl ?_
          refine s_aload_n C (d_of DX10_changesOf 95 rfl) rfl ?_
          refine gf_X10_86 C (sh_41 hF1) (d_of DX10_changesOf 96 rfl) (fx_41_31 hF1) ?_
          refine s_iload C (d_of DX10_changesOf 97 rfl) rfl ?_
          refine s_iload C (d_of DX10_changesOf 98 rfl) rfl ?_
          refine s_iast C (sh_67 hF1) o3 o4 (fun _ => by decide) (d_of DX10_changesOf 99 rfl) ?_
          refine s_iload C (d_of DX10_changesOf 100 rfl) rfl ?_
          refine s_istore (ls' := [(2, 41), (3, 0), (3, 0), (0, l3), (0, (M 67 l5)), (0, l5), (0, (M 67 l5)), (0, ((M 67 l5) + 1))]) C (d_of DX10_changesOf 101 rfl) (by decide) rfl rfl ?_
          obtain ⟨o19, h⟩ := h
          refine s_iinc (ls' := [(2, 41), (3, 0), (3, 0), (0, l3), (0, (M 67 l5)), (0, (l5 + 1)), (0, (M 67 l5)), (0, ((M 67 l5) + 1))]) C (d_of DX10_changesOf 102 rfl) (by decide) rfl o19 rfl rfl ?_
          refine s_goto C (d_of DX10_changesOf 103 rfl) rfl ?_
          exact WA.wk h ⟨Or.inr rfl, Or.inl rfl, Or.inl rfl, Or.inr rfl, Or.inr rfl, Or.inr rfl, Or.inl rfl, Or.inl rfl, trivial⟩
        · have h := h.2 hc
          refine s_aload_n C (d_of DX10_changesOf 84 rfl) rfl ?_
          refine gf_X10_86 C (sh_41 hF1) (d_of DX10_changesOf 85 rfl) (fx_41_31 hF1) ?_
          refine s_iload C (d_of DX10_changesOf 86 rfl) rfl ?_
          refine s_iconst C (d_of DX10_changesOf 87 rfl) (by decide) ?_
          refine s_isub C (d_of DX10_changesOf 88 rfl) o8 ?_
          refine s_iald (v0 := (M 67 (l5 - 1))) C (sh_67 hF1) o9 o17 (d_of DX10_changesOf 89 rfl) rfl ?_
          refine s_iconst C (d_of DX10_changesOf 90 rfl) (by decide) ?_
          refine s_iadd C (d_of DX10_changesOf 91 rfl) o18 ?_
          refine s_goto C (d_of DX10_changesOf 92 rfl) rfl ?_
          refine s_istore (ls' := [(2, 41), (3, 0), (3, 0), (0, l3), (0, l4), (0, l5), (0, (M 67 l5)), (0, ((M 67 (l5 - 1)) + 1))]) C (d_of DX10_changesOf 94 rfl) (by decide) rfl rfl ?_
          refine s_aload_n C (d_of DX10_changesOf 95 rfl) rfl ?_
          refine gf_X10_86 C (sh_41 hF1) (d_of DX10_changesOf 96 rfl) (fx_41_31 hF1) ?_
          refine s_iload C (d_of DX10_changesOf 97 rfl) rfl ?_
          refine s_iload C (d_of DX10_changesOf 98 rfl) rfl ?_
          refine s_iast C (sh_67 hF1) o3 o4 (fun _ => by decide) (d_of DX10_changesOf 99 rfl) ?_
          refine s_iload C (d_of DX10_changesOf 100 rfl) rfl ?_
          refine s_istore (ls' := [(2, 41), (3, 0), (3, 0), (0, l3), (0, (M 67 l5)), (0, l5), (0, (M 67 l5)), (0, ((M 67 (l5 - 1)) + 1))]) C (d_of DX10_changesOf 101 rfl) (by decide) rfl rfl ?_
          obtain ⟨o20, h⟩ := h
          refine s_iinc (ls' := [(2, 41), (3, 0), (3, 0), (0, l3), (0, (M 67 l5)), (0, (l5 + 1)), (0, (M 67 l5)), (0, ((M 67 (l5 - 1)) + 1))]) C (d_of DX10_changesOf 102 rfl) (by decide) rfl o20 rfl rfl ?_
          refine s_goto C (d_of DX10_changesOf 103 rfl) rfl ?_
          exact WA.wk h ⟨Or.inr rfl, Or.inl rfl, Or.inl rfl, Or.inr rfl, Or.inr rfl, Or.inr rfl, Or.inl rfl, Or.inl rfl, trivial⟩
    · have h := h.2 hc
      refine s_iconst C (d_of DX10_changesOf 58 rfl) (by decide) ?_
      refine s_goto C (d_of DX10_changesOf 59 rfl) rfl ?_
      obtain ⟨o21, h⟩ := h
      refine s_iadd C (d_of DX10_changesOf 61 rfl) o21 ?_
      refine s_istore (ls' := [(2, 41), (3, 0), (3, 0), (0, l3), (0, l4), (0, l5), (0, (M 67 l5)), (0, (l4 + 0))]) C (d_of DX10_changesOf 62 rfl) (by decide) rfl rfl ?_
      refine s_iload C (d_of DX10_changesOf 63 rfl) rfl ?_
      refine s_iconst C (d_of DX10_changesOf 64 rfl) (by decide) ?_
      obtain ⟨o22, h⟩ := h
      refine s_iadd C (d_of DX10_changesOf 65 rfl) o22 ?_
      refine s_iload C (d_of DX10_changesOf 66 rfl) rfl ?_
      refine s_icmpge C (d_of DX10_changesOf 67 rfl) rfl (fun hc => ?_) (fun hc => ?_)
      · have h := h.1 hc
        refine s_iload C (d_of DX10_changesOf 72 rfl) rfl ?_
        refine s_istore (ls' := [(2, 41), (3, 0), (3, 0), (0, l3), (0, l4), (0, l5), (0, (M 67 l5)), (0, (l4 + 0))]) C (d_of DX10_changesOf 73 rfl) (by decide) rfl rfl ?_
        refine s_aload_n C (d_of DX10_changesOf 74 rfl) rfl ?_
        refine gf_X10_86 C (sh_41 hF1) (d_of DX10_changesOf 75 rfl) (fx_41_31 hF1) ?_
        refine s_iload C (d_of DX10_changesOf 76 rfl) rfl ?_
        refine s_iconst C (d_of DX10_changesOf 77 rfl) (by decide) ?_
        refine s_isub C (d_of DX10_changesOf 78 rfl) o8 ?_
        obtain ⟨o23, h⟩ := h
        refine s_iald (v0 := (M 67 (l5 - 1))) C (sh_67 hF1) o9 o23 (d_of DX10_changesOf 79 rfl) rfl ?_
        refine s_iconst C (d_of DX10_changesOf 80 rfl) (by decide) ?_
        obtain ⟨o24, h⟩ := h
        refine s_iadd C (d_of DX10_changesOf 81 rfl) o24 ?_
        refine s_iload C (d_of DX10_changesOf 82 rfl) rfl ?_
        refine s_icmpge C (d_of DX10_changesOf 83 rfl) rfl (fun hc => ?_) (fun hc => ?_)
        · have h := h.1 hc
          refine s_iload C (d_of DX10_changesOf 93 rfl) rfl ?_
          refine s_istore (ls' := [(2, 41), (3, 0), (3, 0), (0, l3), (0, l4), (0, l5), (0, (M 67 l5)), (0, (l4 + 0))]) C (d_of DX10_changesOf 94 rfl) (by decide) rfl rfl ?_
          refine s_aload_n C (d_of DX10_changesOf 95 rfl) rfl ?_
          refine gf_X10_86 C (sh_41 hF1) (d_of DX10_changesOf 96 rfl) (fx_41_31 hF1) ?_
          refine s_iload C (d_of DX10_changesOf 97 rfl) rfl ?_
          refine s_iload C (d_of DX10_changesOf 98 rfl) rfl ?_
          refine s_iast C (sh_67 hF1) o3 o4 (fun _ => by decide) (d_of DX10_changesOf 99 rfl) ?_
          refine s_iload C (d_of DX10_changesOf 100 rfl) rfl ?_
          refine s_istore (ls' := [(2, 41), (3, 0), (3, 0), (0, l3), (0, (M 67 l5)), (0, l5), (0, (M 67 l5)), (0, (l4 + 0))]) C (d_of DX10_changesOf 101 rfl) (by decide) rfl rfl ?_
          obtain ⟨o25, h⟩ := h
          refine s_iinc (ls' := [(2, 41), (3, 0), (3, 0), (0, l3), (0, (M 67 l5)), (0, (l5 + 1)), (0, (M 67 l5)), (0, (l4 + 0))]) C (d_of DX10_changesOf 102 rfl) (by decide) rfl o25 rfl rfl ?_
          refine s_goto C (d_of DX10_changesOf 103 rfl) rfl ?_
          exact WA.wk h ⟨Or.inr rfl, Or.inl rfl, Or.inl rfl, Or.inr rfl, Or.inr rfl, Or.inr rfl, Or.inl rfl, Or.inl rfl, trivial⟩
        · have h := h.2 hc
          refine s_aload_n C (d_of DX10_changesOf 84 rfl) rfl ?_
          refine gf_X10_86 C (sh_41 hF1) (d_of DX10_changesOf 85 rfl) (fx_41_31 hF1) ?_
          refine s_iload C (d_of DX10_changesOf 86 rfl) rfl ?_
          refine s_iconst C (d_of DX10_changesOf 87 rfl) (by decide) ?_
          refine s_isub C (d_of DX10_changesOf 88 rfl) o8 ?_
          refine s_iald (v0 := (M 67 (l5 - 1))) C (sh_67 hF1) o9 o23 (d_of DX10_changesOf 89 rfl) rfl ?_
          refine s_iconst C (d_of DX10_changesOf 90 rfl) (by decide) ?_
          refine s_iadd C (d_of DX10_changesOf 91 rfl) o24 ?_
          refine s_goto C (d_of DX10_changesOf 92 rfl) rfl ?_
          refine s_istore (ls' := [(2, 41), (3, 0), (3, 0), (0, l3), (0, l4), (0, l5), (0, (M 67 l5)), (0, ((M 67 (l5 - 1)) + 1))]) C (d_of DX10_changesOf 94 rfl) (by decide) rfl rfl ?_
          refine s_aload_n C (d_of DX10_changesOf 95 rfl) rfl ?_
          refine gf_X10_86 C (sh_41 hF1) (d_of DX10_changesOf 96 rfl) (fx_41_31 hF1) ?_
          refine s_iload C (d_of DX10_changesOf 97 rfl) rfl ?_
          refine s_iload C (d_of DX10_changesOf 98 rfl) rfl ?_
          refine s_iast C (sh_67 hF1) o3 o4 (fun _ => by decide) (d_of DX10_changesOf 99 rfl) ?_
          refine s_iload C (d_of DX10_changesOf 100 rfl) rfl ?_
          refine s_istore (ls' := [(2, 41), (3, 0), (3, 0), (0, l3), (0, (M 67 l5)), (0, l5), (0, (M 67 l5)), (0, ((M 67 (l5 - 1)) + 1))]) C (d_of DX10_changesOf 101 rfl) (by decide) rfl rfl ?_
          obtain ⟨o26, h⟩ := h
          refine s_iinc (ls' := [(2, 41), (3, 0), (3, 0), (0, l3), (0, (M 67 l5)), (0, (l5 + 1)), (0, (M 67 l5)), (0, ((M 67 (l5 - 1)) + 1))]) C (d_of DX10_changesOf 102 rfl) (by decide) rfl o26 rfl rfl ?_
          refine s_goto C (d_of DX10_changesOf 103 rfl) rfl ?_
          exact WA.wk h ⟨Or.inr rfl, Or.inl rfl, Or.inl rfl, Or.inr rfl, Or.inr rfl, Or.inr rfl, Or.inl rfl, Or.inl rfl, trivial⟩
      · have h := h.2 hc
        refine s_iload C (d_of DX10_changesOf 68 rfl) rfl ?_
        refine s_iconst C (d_of DX10_changesOf 69 rfl) (by decide) ?_
        refine s_iadd C (d_of DX10_changesOf 70 rfl) o22 ?_
        refine s_goto C (d_of DX10_changesOf 71 rfl) rfl ?_
        refine s_istore (ls' := [(2, 41), (3, 0), (3, 0), (0, l3), (0, l4), (0, l5), (0, (M 67 l5)), (0, ((M 67 l5) + 1))]) C (d_of DX10_changesOf 73 rfl) (by decide) rfl rfl ?_
        refine s_aload_n C (d_of DX10_changesOf 74 rfl) rfl ?_
        refine gf_X10_86 C (sh_41 hF1) (d_of DX10_changesOf 75 rfl) (fx_41_31 hF1) ?_
        refine s_iload C (d_of DX10_changesOf 76 rfl) rfl ?_
        refine s_iconst C (d_of DX10_changesOf 77 rfl) (by decide) ?_
        refine s_isub C (d_of DX10_changesOf 78 rfl) o8 ?_
        obtain ⟨o27, h⟩ := h
        refine s_iald (v0 := (M 67 (l5 - 1))) C (sh_67 hF1) o9 o27 (d_of DX10_changesOf 79 rfl) rfl ?_
        refine s_iconst C (d_of DX10_changesOf 80 rfl) (by decide) ?_
        obtain ⟨o28, h⟩ := h
        refine s_iadd C (d_of DX10_changesOf 81 rfl) o28 ?_
        refine s_iload C (d_of DX10_changesOf 82 rfl) rfl ?_
        refine s_icmpge C (d_of DX10_changesOf 83 rfl) rfl (fun hc => ?_) (fun hc => ?_)
        · have h := h.1 hc
          refine s_iload C (d_of DX10_changesOf 93 rfl) rfl ?_
          refine s_istore (ls' := [(2, 41), (3, 0), (3, 0), (0, l3), (0, l4), (0, l5), (0, (M 67 l5)), (0, ((M 67 l5) + 1))]) C (d_of DX10_changesOf 94 rfl) (by decide) rfl rfl ?_
          refine s_aload_n C (d_of DX10_changesOf 95 rfl) rfl ?_
          refine gf_X10_86 C (sh_41 hF1) (d_of DX10_changesOf 96 rfl) (fx_41_31 hF1) ?_
          refine s_iload C (d_of DX10_changesOf 97 rfl) rfl ?_
          refine s_iload C (d_of DX10_changesOf 98 rfl) rfl ?_
          refine s_iast C (sh_67 hF1) o3 o4 (fun _ => by decide) (d_of DX10_changesOf 99 rfl) ?_
          refine s_iload C (d_of DX10_changesOf 100 rfl) rfl ?_
          refine s_istore (ls' := [(2, 41), (3, 0), (3, 0), (0, l3), (0, (M 67 l5)), (0, l5), (0, (M 67 l5)), (0, ((M 67 l5) + 1))]) C (d_of DX10_changesOf 101 rfl) (by decide) rfl rfl ?_
          obtain ⟨o29, h⟩ := h
          refine s_iinc (ls' := [(2, 41), (3, 0), (3, 0), (0, l3), (0, (M 67 l5)), (0, (l5 + 1)), (0, (M 67 l5)), (0, ((M 67 l5) + 1))]) C (d_of DX10_changesOf 102 rfl) (by decide) rfl o29 rfl rfl ?_
          refine s_goto C (d_of DX10_changesOf 103 rfl) rfl ?_
          exact WA.wk h ⟨Or.inr rfl, Or.inl rfl, Or.inl rfl, Or.inr rfl, Or.inr rfl, Or.inr rfl, Or.inl rfl, Or.inl rfl, trivial⟩
        · have h := h.2 hc
          refine s_aload_n C (d_of DX10_changesOf 84 rfl) rfl ?_
          refine gf_X10_86 C (sh_41 hF1) (d_of DX10_changesOf 85 rfl) (fx_41_31 hF1) ?_
          refine s_iload C (d_of DX10_changesOf 86 rfl) rfl ?_
          refine s_iconst C (d_of DX10_changesOf 87 rfl) (by decide) ?_
          refine s_isub C (d_of DX10_changesOf 88 rfl) o8 ?_
          refine s_iald (v0 := (M 67 (l5 - 1))) C (sh_67 hF1) o9 o27 (d_of DX10_changesOf 89 rfl) rfl ?_
          refine s_iconst C (d_of DX10_changesOf 90 rfl) (by decide) ?_
          refine s_iadd C (d_of DX10_changesOf 91 rfl) o28 ?_
          refine s_goto C (d_of DX10_changesOf 92 rfl) rfl ?_
          refine s_istore (ls' := [(2, 41), (3, 0), (3, 0), (0, l3), (0, l4), (0, l5), (0, (M 67 l5)), (0, ((M 67 (l5 - 1)) + 1))]) C (d_of DX10_changesOf 94 rfl) (by decide) rfl rfl ?_
          refine s_aload_n C (d_of DX10_changesOf 95 rfl) rfl ?_
          refine gf_X10_86 C (sh_41 hF1) (d_of DX10_changesOf 96 rfl) (fx_41_31 hF1) ?_
          refine s_iload C (d_of DX10_changesOf 97 rfl) rfl ?_
          refine s_iload C (d_of DX10_changesOf 98 rfl) rfl ?_
          refine s_iast C (sh_67 hF1) o3 o4 (fun _ => by decide) (d_of DX10_changesOf 99 rfl) ?_
          refine s_iload C (d_of DX10_changesOf 100 rfl) rfl ?_
          refine s_istore (ls' := [(2, 41), (3, 0), (3, 0), (0, l3), (0, (M 67 l5)), (0, l5), (0, (M 67 l5)), (0, ((M 67 (l5 - 1)) + 1))]) C (d_of DX10_changesOf 101 rfl) (by decide) rfl rfl ?_
          obtain ⟨o30, h⟩ := h
          refine s_iinc (ls' := [(2, 41), (3, 0), (3, 0), (0, l3), (0, (M 67 l5)), (0, (l5 + 1)), (0, (M 67 l5)), (0, ((M 67 (l5 - 1)) + 1))]) C (d_of DX10_changesOf 102 rfl) (by decide) rfl o30 rfl rfl ?_
          refine s_goto C (d_of DX10_changesOf 103 rfl) rfl ?_
          exact WA.wk h ⟨Or.inr rfl, Or.inl rfl, Or.inl rfl, Or.inr rfl, Or.inr rfl, Or.inr rfl, Or.inl rfl, Or.inl rfl, trivial⟩
theorem E_X10_changesOf {G : GP} {l : Launch} {P : Int → NS → MM → Prop} {l1 : Int} {l2 : Int} {w : NS} {M : MM} (h : inR l1 → inR l2 → ∀ X : BX, X.2.1 = l → CX_X10_changesOf G X → A_X10_changesOf_0 G X P l1 l2 w M) : CT_X10_changesOf G l [(2, 41), (0, l1), (0, l2)] w M P :=
  CT.of RX10 "changesOf" (by decide +kernel) rfl rfl rfl (Nat.le_of_ble_eq_true rfl) (fun hr X hX C => h (hr (0, l1) (by simp)) (hr (0, l2) (by simp)) X hX C)
def A_X10_areDoubles_0 (G : GP) (X : BX) (P : Int → NS → MM → Prop) (l1 : Int) (l2 : Int) (w : NS) (M : MM) : Prop := WA true G X (QM G X true 0 P) 5 0 [(2, 41), (0, l1), (0, l2), (3, 0), (3, 0)] [] 0 0 w M
set_option maxHeartbeats 4000000 in
set_option maxRecDepth 100000 in
theorem B_X10_areDoubles_0 {G : GP} {X : BX} {P : Int → NS → MM → Prop} {l1 : Int} {l2 : Int} {w : NS} {M : MM} (C : CX_X10_areDoubles G X) (h : ∃ Q2 : Int → NS → MM → Prop, CT_X10_changesOf G X.2.1 [(2, 41), (0, l1), (0, l2)] w M Q2 ∧ ∀ (z2 : Int) (w2 : NS) (M2 : MM), Q2 z2 w2 M2 → ((((M2 41 16) ≤ (M2 41 17)) → ((((M2 41 16) ≤ 0) → P 0 w2 M2) ∧ ((¬ ((M2 41 16) ≤ 0)) → ((((M2 41 17) ≤ 0) → P 0 w2 M2) ∧ ((¬ ((M2 41 17) ≤ 0)) → (inR (100 * z2)) ∧ (inR ((M2 53 0) * (M2 41 17))) ∧ (((((M2 53 0) * (M2 41 17)) < (100 * z2)) → P 0 w2 M2) ∧ ((¬ (((M2 53 0) * (M2 41 17)) < (100 * z2))) → P 1 w2 M2))))))) ∧ ((¬ ((M2 41 16) ≤ (M2 41 17))) → ((((M2 41 16) ≤ 0) → P 0 w2 M2) ∧ ((¬ ((M2 41 16) ≤ 0)) → ((((M2 41 17) ≤ 0) → P 0 w2 M2) ∧ ((¬ ((M2 41 17) ≤ 0)) → (inR (100 * z2)) ∧ (inR ((M2 53 0) * (M2 41 16))) ∧ (((((M2 53 0) * (M2 41 16)) < (100 * z2)) → P 0 w2 M2) ∧ ((¬ (((M2 53 0) * (M2 41 16)) < (100 * z2))) → P 1 w2 M2))))))))) : A_X10_areDoubles_0 G X P l1 l2 w M := by
  unfold A_X10_areDoubles_0
  refine s_aload_n C (d_of DX10_areDoubles 0 rfl) rfl ?_
  refine s_iload_n C (d_of DX10_areDoubles 1 rfl) rfl ?_
  refine s_iload_n C (d_of DX10_areDoubles 2 rfl) rfl ?_
  refine WA.fix (fun hF1 => ?_)
  obtain ⟨Q2, hKQ2, h⟩ := h
  refine s_callV (ci := 10) (av := [(0, l1), (0, l2)]) (rest := []) (mc := 0) (ms := 0) C (d_of DX10_areDoubles 3 rfl) lk_X10_262 (sh_41 hF1) (by decide) rfl rfl rfl (Nat.le_of_ble_eq_true rfl) (by decide) (by decide) hKQ2 (fun z2 w2 M2 hq => ?_)
  have h := h z2 w2 M2 hq
  refine s_istore_n (ls' := [(2, 41), (0, l1), (0, l2), (0, z2), (3, 0)]) C (d_of DX10_areDoubles 4 rfl) (by decide) rfl rfl ?_
  refine s_aload_n C (d_of DX10_areDoubles 5 rfl) rfl ?_
  refine WA.fix (fun hF3 => ?_)
  refine gf_X10_176 (v0 := (M2 41 16)) C (sh_41 hF3) (d_of DX10_areDoubles 6 rfl) rfl ?_
  refine s_aload_n C (d_of DX10_areDoubles 7 rfl) rfl ?_
  refine gf_X10_183 (v0 := (M2 41 17)) C (sh_41 hF3) (d_of DX10_areDoubles 8 rfl) rfl ?_
  refine s_icmple C (d_of DX10_areDoubles 9 rfl) rfl (fun hc => ?_) (fun hc => ?_)
  · have h := h.1 hc
    refine s_aload_n C (d_of DX10_areDoubles 13 rfl) rfl ?_
    refine gf_X10_183 (v0 := (M2 41 17)) C (sh_41 hF3) (d_of DX10_areDoubles 14 rfl) rfl ?_
    refine s_istore (ls' := [(2, 41), (0, l1), (0, l2), (0, z2), (0, (M2 41 17))]) C (d_of DX10_areDoubles 15 rfl) (by decide) rfl rfl ?_
    refine s_aload_n C (d_of DX10_areDoubles 16 rfl) rfl ?_
    refine gf_X10_176 (v0 := (M2 41 16)) C (sh_41 hF3) (d_of DX10_areDoubles 17 rfl) rfl ?_
    refine s_ifle C (d_of DX10_areDoubles 18 rfl) rfl (fun hc => ?_) (fun hc => ?_)
    · have h := h.1 hc
      refine s_iconst C (d_of DX10_areDoubles 34 rfl) (by decide) ?_
      exact s_zreturn C (d_of DX10_areDoubles 35 rfl) (by decide) h
    · have h := h.2 hc
      refine s_aload_n C (d_of DX10_areDoubles 19 rfl) rfl ?_
      refine gf_X10_183 (v0 := (M2 41 17)) C (sh_41 hF3) (d_of DX10_areDoubles 20 rfl) rfl ?_
      refine s_ifle C (d_of DX10_areDoubles 21 rfl) rfl (fun hc => ?_) (fun hc => ?_)
      · have h := h.1 hc
        refine s_iconst C (d_of DX10_areDoubles 34 rfl) (by decide) ?_
        exact s_zreturn C (d_of DX10_areDoubles 35 rfl) (by decide) h
      · have h := h.2 hc
        refine s_bipush C (d_of DX10_areDoubles 22 rfl) ⟨rfl, by decide, by decide⟩ ?_
        refine s_iload_n C (d_of DX10_areDoubles 23 rfl) rfl ?_
        obtain ⟨o4, h⟩ := h
        refine s_imul C (d_of DX10_areDoubles 24 rfl) o4 ?_
        refine s_aload_n C (d_of DX10_areDoubles 25 rfl) rfl ?_
        refine gf_X10_43 C (sh_41 hF3) (d_of DX10_areDoubles 26 rfl) (fx_41_13 hF3) ?_
        refine s_iconst C (d_of DX10_areDoubles 27 rfl) (by decide) ?_
        refine s_iald (v0 := (M2 53 0)) C (sh_53 hF3) (by decide) (by decide) (d_of DX10_areDoubles 28 rfl) rfl ?_
        refine s_iload C (d_of DX10_areDoubles 29 rfl) rfl ?_
        obtain ⟨o5, h⟩ := h
        refine s_imul C (d_of DX10_areDoubles 30 rfl) o5 ?_
        refine s_icmpgt C (d_of DX10_areDoubles 31 rfl) rfl (fun hc => ?_) (fun hc => ?_)
        · have h := h.1 hc
          refine s_iconst C (d_of DX10_areDoubles 34 rfl) (by decide) ?_
          exact s_zreturn C (d_of DX10_areDoubles 35 rfl) (by decide) h
        · have h := h.2 hc
          refine s_iconst C (d_of DX10_areDoubles 32 rfl) (by decide) ?_
          refine s_goto C (d_of DX10_areDoubles 33 rfl) rfl ?_
          exact s_zreturn C (d_of DX10_areDoubles 35 rfl) (by decide) h
  · have h := h.2 hc
    refine s_aload_n C (d_of DX10_areDoubles 10 rfl) rfl ?_
    refine gf_X10_176 (v0 := (M2 41 16)) C (sh_41 hF3) (d_of DX10_areDoubles 11 rfl) rfl ?_
    refine s_goto C (d_of DX10_areDoubles 12 rfl) rfl ?_
    refine s_istore (ls' := [(2, 41), (0, l1), (0, l2), (0, z2), (0, (M2 41 16))]) C (d_of DX10_areDoubles 15 rfl) (by decide) rfl rfl ?_
    refine s_aload_n C (d_of DX10_areDoubles 16 rfl) rfl ?_
    refine gf_X10_176 (v0 := (M2 41 16)) C (sh_41 hF3) (d_of DX10_areDoubles 17 rfl) rfl ?_
    refine s_ifle C (d_of DX10_areDoubles 18 rfl) rfl (fun hc => ?_) (fun hc => ?_)
    · have h := h.1 hc
      refine s_iconst C (d_of DX10_areDoubles 34 rfl) (by decide) ?_
      exact s_zreturn C (d_of DX10_areDoubles 35 rfl) (by decide) h
    · have h := h.2 hc
      refine s_aload_n C (d_of DX10_areDoubles 19 rfl) rfl ?_
      refine gf_X10_183 (v0 := (M2 41 17)) C (sh_41 hF3) (d_of DX10_areDoubles 20 rfl) rfl ?_
      refine s_ifle C (d_of DX10_areDoubles 21 rfl) rfl (fun hc => ?_) (fun hc => ?_)
      · have h := h.1 hc
        refine s_iconst C (d_of DX10_areDoubles 34 rfl) (by decide) ?_
        exact s_zreturn C (d_of DX10_areDoubles 35 rfl) (by decide) h
      · have h := h.2 hc
        refine s_bipush C (d_of DX10_areDoubles 22 rfl) ⟨rfl, by decide, by decide⟩ ?_
        refine s_iload_n C (d_of DX10_areDoubles 23 rfl) rfl ?_
        obtain ⟨o6, h⟩ := h
        refine s_imul C (d_of DX10_areDoubles 24 rfl) o6 ?_
        refine s_aload_n C (d_of DX10_areDoubles 25 rfl) rfl ?_
        refine gf_X10_43 C (sh_41 hF3) (d_of DX10_areDoubles 26 rfl) (fx_41_13 hF3) ?_
        refine s_iconst C (d_of DX10_areDoubles 27 rfl) (by decide) ?_
        refine s_iald (v0 := (M2 53 0)) C (sh_53 hF3) (by decide) (by decide) (d_of DX10_areDoubles 28 rfl) rfl ?_
        refine s_iload C (d_of DX10_areDoubles 29 rfl) rfl ?_
        obtain ⟨o7, h⟩ := h
        refine s_imul C (d_of DX10_areDoubles 30 rfl) o7 ?_
        refine s_icmpgt C (d_of DX10_areDoubles 31 rfl) rfl (fun hc => ?_) (fun hc => ?_)
        · have h := h.1 hc
          refine s_iconst C (d_of DX10_areDoubles 34 rfl) (by decide) ?_
          exact s_zreturn C (d_of DX10_areDoubles 35 rfl) (by decide) h
        · have h := h.2 hc
          refine s_iconst C (d_of DX10_areDoubles 32 rfl) (by decide) ?_
          refine s_goto C (d_of DX10_areDoubles 33 rfl) rfl ?_
          exact s_zreturn C (d_of DX10_areDoubles 35 rfl) (by decide) h
theorem E_X10_areDoubles {G : GP} {l : Launch} {P : Int → NS → MM → Prop} {l1 : Int} {l2 : Int} {w : NS} {M : MM} (h : inR l1 → inR l2 → ∀ X : BX, X.2.1 = l → CX_X10_areDoubles G X → A_X10_areDoubles_0 G X P l1 l2 w M) : CT_X10_areDoubles G l [(2, 41), (0, l1), (0, l2)] w M P :=
  CT.of RX10 "areDoubles" (by decide +kernel) rfl rfl rfl (Nat.le_of_ble_eq_true rfl) (fun hr X hX C => h (hr (0, l1) (by simp)) (hr (0, l2) (by simp)) X hX C)
def A_X10_layDoubles_0 (G : GP) (X : BX) (P : Int → NS → MM → Prop) (w : NS) (M : MM) : Prop := WA true G X (QM G X true 4 P) 4 0 [(2, 41), (3, 0), (3, 0), (3, 0)] [] 0 0 w M
def A_X10_layDoubles_2 (G : GP) (X : BX) (P : Int → NS → MM → Prop) (l1 : Int) (w : NS) (M : MM) : Prop := WA true G X (QM G X true 4 P) 4 2 [(2, 41), (0, l1), (3, 0), (3, 0)] [] 0 0 w M
def A_X10_layDoubles_19 (G : GP) (X : BX) (P : Int → NS → MM → Prop) (l1 : Int) (l2 : Int) (w : NS) (M : MM) : Prop := WA true G X (QM G X true 4 P) 4 19 [(2, 41), (0, l1), (0, l2), (3, 0)] [] 0 0 w M
set_option maxHeartbeats 4000000 in
set_option maxRecDepth 100000 in
theorem B_X10_layDoubles_0 {G : GP} {X : BX} {P : Int → NS → MM → Prop} {w : NS} {M : MM} (C : CX_X10_layDoubles G X) (h : A_X10_layDoubles_2 G X P 0 w M) : A_X10_layDoubles_0 G X P w M := by
  unfold A_X10_layDoubles_0
  refine s_iconst C (d_of DX10_layDoubles 0 rfl) (by decide) ?_
  refine s_istore_n (ls' := [(2, 41), (0, 0), (3, 0), (3, 0)]) C (d_of DX10_layDoubles 1 rfl) (by decide) rfl rfl ?_
  exact h
set_option maxHeartbeats 4000000 in
set_option maxRecDepth 100000 in
theorem B_X10_layDoubles_2 {G : GP} {X : BX} {P : Int → NS → MM → Prop} {l1 : Int} {w : NS} {M : MM} (C : CX_X10_layDoubles G X) (h : ((((M 41 12) ≤ l1) → P 0 w (up M 41 34 1)) ∧ ((¬ ((M 41 12) ≤ l1)) → ((((M 41 34) ≠ 0) → P 0 w (up M 41 34 1)) ∧ ((¬ ((M 41 34) ≠ 0)) → A_X10_layDoubles_19 G X P l1 0 w M))))) : A_X10_layDoubles_2 G X P l1 w M := by
  unfold A_X10_layDoubles_2
  refine s_iload_n C (d_of DX10_layDoubles 2 rfl) rfl ?_
  refine s_aload_n C (d_of DX10_layDoubles 3 rfl) rfl ?_
  refine WA.fix (fun hF1 => ?_)
  refine gf_X10_147 (v0 := (M 41 12)) C (sh_41 hF1) (d_of DX10_layDoubles 4 rfl) rfl ?_
  refine s_icmpge C (d_of DX10_layDoubles 5 rfl) rfl (fun hc => ?_) (fun hc => ?_)
  · have h := h.1 hc
    refine s_aload_n C (d_of DX10_layDoubles 41 rfl) rfl ?_
    refine s_iconst C (d_of DX10_layDoubles 42 rfl) (by decide) ?_
    refine pf_X10_166 C (sh_41 hF1) (by decide) (fun _ => by decide) (d_of DX10_layDoubles 43 rfl) ?_
    exact s_vreturn C (d_of DX10_layDoubles 44 rfl) h
  · have h := h.2 hc
    refine s_aload_n C (d_of DX10_layDoubles 6 rfl) rfl ?_
    refine gf_X10_166 (v0 := (M 41 34)) C (sh_41 hF1) (d_of DX10_layDoubles 7 rfl) rfl ?_
    refine s_ifne C (d_of DX10_layDoubles 8 rfl) rfl (fun hc => ?_) (fun hc => ?_)
    · have h := h.1 hc
      refine s_aload_n C (d_of DX10_layDoubles 41 rfl) rfl ?_
      refine s_iconst C (d_of DX10_layDoubles 42 rfl) (by decide) ?_
      refine pf_X10_166 C (sh_41 hF1) (by decide) (fun _ => by decide) (d_of DX10_layDoubles 43 rfl) ?_
      exact s_vreturn C (d_of DX10_layDoubles 44 rfl) h
    · have h := h.2 hc
      refine s_iconst C (d_of DX10_layDoubles 9 rfl) (by decide) ?_
      refine s_istore_n (ls' := [(2, 41), (0, l1), (0, 0), (3, 0)]) C (d_of DX10_layDoubles 10 rfl) (by decide) rfl rfl ?_
      exact h
set_option maxHeartbeats 4000000 in
set_option maxRecDepth 100000 in
theorem B_X10_layDoubles_19 {G : GP} {X : BX} {P : Int → NS → MM → Prop} {l1 : Int} {l2 : Int} {w : NS} {M : MM} (C : CX_X10_layDoubles G X) (h : (((l1 < l2) → (inR (l1 + 1)) ∧ A_X10_layDoubles_2 G X P (l1 + 1) w M) ∧ ((¬ (l1 < l2)) → ∃ Q3 : Int → NS → MM → Prop, CT_X10_areDoubles G X.2.1 [(2, 41), (0, l1), (0, l2)] w M Q3 ∧ ∀ (z3 : Int) (w3 : NS) (M3 : MM), Q3 z3 w3 M3 → (inR (24 * l1)) ∧ (inR ((24 * l1) + l2)) ∧ (0 ≤ ((24 * l1) + l2)) ∧ (((24 * l1) + l2) < 576) ∧ (z3 = 0 ∨ z3 = 1) ∧ (inR (24 * l2)) ∧ (inR ((24 * l2) + l1)) ∧ (0 ≤ ((24 * l2) + l1)) ∧ (((24 * l2) + l1) < 576) ∧ (inR (l2 + 1)) ∧ A_X10_layDoubles_19 G X P l1 (l2 + 1) w3 (up (up M3 69 ((24 * l1) + l2) z3) 69 ((24 * l2) + l1) z3)))) : A_X10_layDoubles_19 G X P l1 l2 w M := by
  unfold A_X10_layDoubles_19
  refine s_iload_n C (d_of DX10_layDoubles 11 rfl) rfl ?_
  refine s_iload_n C (d_of DX10_layDoubles 12 rfl) rfl ?_
  refine s_icmpgt C (d_of DX10_layDoubles 13 rfl) rfl (fun hc => ?_) (fun hc => ?_)
  · have h := h.1 hc
    obtain ⟨o1, h⟩ := h
    refine s_iinc (ls' := [(2, 41), (0, (l1 + 1)), (0, l2), (3, 0)]) C (d_of DX10_layDoubles 39 rfl) (by decide) rfl o1 rfl rfl ?_
    refine s_goto C (d_of DX10_layDoubles 40 rfl) rfl ?_
    exact WA.wk h ⟨Or.inr rfl, Or.inr rfl, Or.inl rfl, Or.inl rfl, trivial⟩
  · have h := h.2 hc
    refine s_aload_n C (d_of DX10_layDoubles 14 rfl) rfl ?_
    refine s_iload_n C (d_of DX10_layDoubles 15 rfl) rfl ?_
    refine s_iload_n C (d_of DX10_layDoubles 16 rfl) rfl ?_
    refine WA.fix (fun hF2 => ?_)
    obtain ⟨Q3, hKQ3, h⟩ := h
    refine s_callV (ci := 10) (av := [(0, l1), (0, l2)]) (rest := []) (mc := 0) (ms := 0) C (d_of DX10_layDoubles 17 rfl) lk_X10_266 (sh_41 hF2) (by decide) rfl rfl rfl (Nat.le_of_ble_eq_true rfl) (by decide) (by decide) hKQ3 (fun z3 w3 M3 hq => ?_)
    have h := h z3 w3 M3 hq
    refine s_istore_n (ls' := [(2, 41), (0, l1), (0, l2), (0, z3)]) C (d_of DX10_layDoubles 18 rfl) (by decide) rfl rfl ?_
    refine s_aload_n C (d_of DX10_layDoubles 19 rfl) rfl ?_
    refine WA.fix (fun hF4 => ?_)
    refine gf_X10_92 C (sh_41 hF4) (d_of DX10_layDoubles 20 rfl) (fx_41_33 hF4) ?_
    refine s_bipush C (d_of DX10_layDoubles 21 rfl) ⟨rfl, by decide, by decide⟩ ?_
    refine s_iload_n C (d_of DX10_layDoubles 22 rfl) rfl ?_
    obtain ⟨o5, h⟩ := h
    refine s_imul C (d_of DX10_layDoubles 23 rfl) o5 ?_
    refine s_iload_n C (d_of DX10_layDoubles 24 rfl) rfl ?_
    obtain ⟨o6, h⟩ := h
    refine s_iadd C (d_of DX10_layDoubles 25 rfl) o6 ?_
    refine s_iload_n C (d_of DX10_layDoubles 26 rfl) rfl ?_
    obtain ⟨o7, h⟩ := h
    obtain ⟨o8, h⟩ := h
    obtain ⟨o9, h⟩ := h
    refine s_zast C (sh_69 hF4) o7 o8 o9 (fun _ => by decide) (d_of DX10_layDoubles 27 rfl) ?_
    refine s_aload_n C (d_of DX10_layDoubles 28 rfl) rfl ?_
    refine WA.fix (fun hF10 => ?_)
    refine gf_X10_92 C (sh_41 hF4) (d_of DX10_layDoubles 29 rfl) (fx_41_33 hF10) ?_
    refine s_bipush C (d_of DX10_layDoubles 30 rfl) ⟨rfl, by decide, by decide⟩ ?_
    refine s_iload_n C (d_of DX10_layDoubles 31 rfl) rfl ?_
    obtain ⟨o11, h⟩ := h
    refine s_imul C (d_of DX10_layDoubles 32 rfl) o11 ?_
    refine s_iload_n C (d_of DX10_layDoubles 33 rfl) rfl ?_
    obtain ⟨o12, h⟩ := h
    refine s_iadd C (d_of DX10_layDoubles 34 rfl) o12 ?_
    refine s_iload_n C (d_of DX10_layDoubles 35 rfl) rfl ?_
    obtain ⟨o13, h⟩ := h
    obtain ⟨o14, h⟩ := h
    refine s_zast C (sh_69 hF4) o13 o14 o9 (fun _ => by decide) (d_of DX10_layDoubles 36 rfl) ?_
    obtain ⟨o15, h⟩ := h
    refine s_iinc (ls' := [(2, 41), (0, l1), (0, (l2 + 1)), (0, z3)]) C (d_of DX10_layDoubles 37 rfl) (by decide) rfl o15 rfl rfl ?_
    refine s_goto C (d_of DX10_layDoubles 38 rfl) rfl ?_
    exact WA.wk h ⟨Or.inr rfl, Or.inr rfl, Or.inr rfl, Or.inl rfl, trivial⟩
theorem E_X10_layDoubles {G : GP} {l : Launch} {P : Int → NS → MM → Prop} {w : NS} {M : MM} (h : ∀ X : BX, X.2.1 = l → CX_X10_layDoubles G X → A_X10_layDoubles_0 G X P w M) : CT_X10_layDoubles G l [(2, 41)] w M P :=
  CT.of RX10 "layDoubles" (by decide +kernel) rfl rfl rfl (Nat.le_of_ble_eq_true rfl) (fun hr X hX C => h  X hX C)
def A_X10_findFamily_0 (G : GP) (X : BX) (P : Int → NS → MM → Prop) (l1 : Int) (w : NS) (M : MM) : Prop := WA true G X (QM G X true 0 P) 6 0 [(2, 41), (0, l1), (3, 0), (3, 0), (3, 0), (3, 0)] [] 0 0 w M
def A_X10_findFamily_6 (G : GP) (X : BX) (P : Int → NS → MM → Prop) (l1 : Int) (l2 : Int) (w : NS) (M : MM) : Prop := WA true G X (QM G X true 0 P) 6 6 [(2, 41), (0, l1), (0, l2), (3, 0), (3, 0), (3, 0)] [] 0 0 w M
def A_X10_findFamily_40 (G : GP) (X : BX) (P : Int → NS → MM → Prop) (l2 : Int) (l3 : Int) (w : NS) (M : MM) : Prop := WA true G X (QM G X true 0 P) 6 40 [(2, 41), (3, 0), (0, l2), (0, l3), (3, 0), (3, 0)] [] 0 0 w M
def A_X10_findFamily_49 (G : GP) (X : BX) (P : Int → NS → MM → Prop) (l2 : Int) (l3 : Int) (l4 : Int) (w : NS) (M : MM) : Prop := WA true G X (QM G X true 0 P) 6 49 [(2, 41), (3, 0), (0, l2), (0, l3), (0, l4), (3, 0)] [] 0 0 w M
def A_X10_findFamily_61 (G : GP) (X : BX) (P : Int → NS → MM → Prop) (l2 : Int) (l3 : Int) (l4 : Int) (l5 : Int) (w : NS) (M : MM) : Prop := WA true G X (QM G X true 0 P) 6 61 [(2, 41), (3, 0), (0, l2), (0, l3), (0, l4), (0, l5)] [] 0 0 w M
set_option maxHeartbeats 4000000 in
set_option maxRecDepth 100000 in
theorem B_X10_findFamily_0 {G : GP} {X : BX} {P : Int → NS → MM → Prop} {l1 : Int} {w : NS} {M : MM} (C : CX_X10_findFamily G X) (h : ∃ Q2 : Int → NS → MM → Prop, CT_X10_layDoubles G X.2.1 [(2, 41)] w M Q2 ∧ ∀ (z2 : Int) (w2 : NS) (M2 : MM), Q2 z2 w2 M2 → A_X10_findFamily_6 G X P l1 0 w2 M2) : A_X10_findFamily_0 G X P l1 w M := by
  unfold A_X10_findFamily_0
  refine s_aload_n C (d_of DX10_findFamily 0 rfl) rfl ?_
  refine WA.fix (fun hF1 => ?_)
  obtain ⟨Q2, hKQ2, h⟩ := h
  refine s_callV (ci := 10) (av := []) (rest := []) (mc := 0) (ms := 0) C (d_of DX10_findFamily 1 rfl) lk_X10_269 (sh_41 hF1) (by decide) rfl rfl rfl (Nat.le_of_ble_eq_true rfl) (by decide) (by decide) hKQ2 (fun z2 w2 M2 hq => ?_)
  have h := h z2 w2 M2 hq
  refine s_iconst C (d_of DX10_findFamily 2 rfl) (by decide) ?_
  refine s_istore_n (ls' := [(2, 41), (0, l1), (0, 0), (3, 0), (3, 0), (3, 0)]) C (d_of DX10_findFamily 3 rfl) (by decide) rfl rfl ?_
  exact h
set_option maxHeartbeats 4000000 in
set_option maxRecDepth 100000 in
theorem B_X10_findFamily_6 {G : GP} {X : BX} {P : Int → NS → MM → Prop} {l1 : Int} {l2 : Int} {w : NS} {M : MM} (C : CX_X10_findFamily G X) (h : ((((M 41 12) ≤ l2) → A_X10_findFamily_40 G X P 1 1 w M) ∧ ((¬ ((M 41 12) ≤ l2)) → (((l2 ≠ l1) → (0 ≤ l2) ∧ (l2 < 24) ∧ (inR (l2 + 1)) ∧ A_X10_findFamily_6 G X P l1 (l2 + 1) w (up M 68 l2 0)) ∧ ((¬ (l2 ≠ l1)) → (0 ≤ l2) ∧ (l2 < 24) ∧ (inR (l2 + 1)) ∧ A_X10_findFamily_6 G X P l1 (l2 + 1) w (up M 68 l2 1)))))) : A_X10_findFamily_6 G X P l1 l2 w M := by
  unfold A_X10_findFamily_6
  refine s_iload_n C (d_of DX10_findFamily 4 rfl) rfl ?_
  refine s_aload_n C (d_of DX10_findFamily 5 rfl) rfl ?_
  refine WA.fix (fun hF1 => ?_)
  refine gf_X10_147 (v0 := (M 41 12)) C (sh_41 hF1) (d_of DX10_findFamily 6 rfl) rfl ?_
  refine s_icmpge C (d_of DX10_findFamily 7 rfl) rfl (fun hc => ?_) (fun hc => ?_)
  · have h := h.1 hc
    refine s_iconst C (d_of DX10_findFamily 20 rfl) (by decide) ?_
    refine s_istore_n (ls' := [(2, 41), (0, l1), (0, 1), (3, 0), (3, 0), (3, 0)]) C (d_of DX10_findFamily 21 rfl) (by decide) rfl rfl ?_
    refine s_iconst C (d_of DX10_findFamily 22 rfl) (by decide) ?_
    refine s_istore_n (ls' := [(2, 41), (0, l1), (0, 1), (0, 1), (3, 0), (3, 0)]) C (d_of DX10_findFamily 23 rfl) (by decide) rfl rfl ?_
    exact WA.wk h ⟨Or.inr rfl, Or.inl rfl, Or.inr rfl, Or.inr rfl, Or.inl rfl, Or.inl rfl, trivial⟩
  · have h := h.2 hc
    refine s_aload_n C (d_of DX10_findFamily 8 rfl) rfl ?_
    refine gf_X10_89 C (sh_41 hF1) (d_of DX10_findFamily 9 rfl) (fx_41_32 hF1) ?_
    refine s_iload_n C (d_of DX10_findFamily 10 rfl) rfl ?_
    refine s_iload_n C (d_of DX10_findFamily 11 rfl) rfl ?_
    refine s_iload_n C (d_of DX10_findFamily 12 rfl) rfl ?_
    refine s_icmpne C (d_of DX10_findFamily 13 rfl) rfl (fun hc => ?_) (fun hc => ?_)
    · have h := h.1 hc
      refine s_iconst C (d_of DX10_findFamily 16 rfl) (by decide) ?_
      obtain ⟨o2, h⟩ := h
      obtain ⟨o3, h⟩ := h
      refine s_zast C (sh_68 hF1) o2 o3 (by decide) (fun _ => by decide) (d_of DX10_findFamily 17 rfl) ?_
      obtain ⟨o4, h⟩ := h
      refine s_iinc (ls' := [(2, 41), (0, l1), (0, (l2 + 1)), (3, 0), (3, 0), (3, 0)]) C (d_of DX10_findFamily 18 rfl) (by decide) rfl o4 rfl rfl ?_
      refine s_goto C (d_of DX10_findFamily 19 rfl) rfl ?_
      exact h
    · have h := h.2 hc
      refine s_iconst C (d_of DX10_findFamily 14 rfl) (by decide) ?_
      refine s_goto C (d_of DX10_findFamily 15 rfl) rfl ?_
      obtain ⟨o5, h⟩ := h
      obtain ⟨o6, h⟩ := h
      refine s_zast C (sh_68 hF1) o5 o6 (by decide) (fun _ => by decide) (d_of DX10_findFamily 17 rfl) ?_
      obtain ⟨o7, h⟩ := h
      refine s_iinc (ls' := [(2, 41), (0, l1), (0, (l2 + 1)), (3, 0), (3, 0), (3, 0)]) C (d_of DX10_findFamily 18 rfl) (by decide) rfl o7 rfl rfl ?_
      refine s_goto C (d_of DX10_findFamily 19 rfl) rfl ?_
      exact h
set_option maxHeartbeats 4000000 in
set_option maxRecDepth 100000 in
theorem B_X10_findFamily_40 {G : GP} {X : BX} {P : Int → NS → MM → Prop} {l2 : Int} {l3 : Int} {w : NS} {M : MM} (C : CX_X10_findFamily G X) (h : (((l3 = 0) → P l2 w M) ∧ ((¬ (l3 = 0)) → A_X10_findFamily_49 G X P l2 0 0 w M))) : A_X10_findFamily_40 G X P l2 l3 w M := by
  unfold A_X10_findFamily_40
  refine s_iload_n C (d_of DX10_findFamily 24 rfl) rfl ?_
  refine s_ifeq C (d_of DX10_findFamily 25 rfl) rfl (fun hc => ?_) (fun hc => ?_)
  · have h := h.1 hc
    refine s_iload_n C (d_of DX10_findFamily 72 rfl) rfl ?_
    exact s_ireturn C (d_of DX10_findFamily 73 rfl) h
  · have h := h.2 hc
    refine s_iconst C (d_of DX10_findFamily 26 rfl) (by decide) ?_
    refine s_istore_n (ls' := [(2, 41), (3, 0), (0, l2), (0, 0), (3, 0), (3, 0)]) C (d_of DX10_findFamily 27 rfl) (by decide) rfl rfl ?_
    refine s_iconst C (d_of DX10_findFamily 28 rfl) (by decide) ?_
    refine s_istore (ls' := [(2, 41), (3, 0), (0, l2), (0, 0), (0, 0), (3, 0)]) C (d_of DX10_findFamily 29 rfl) (by decide) rfl rfl ?_
    exact h
set_option maxHeartbeats 4000000 in
set_option maxRecDepth 100000 in
theorem B_X10_findFamily_49 {G : GP} {X : BX} {P : Int → NS → MM → Prop} {l2 : Int} {l3 : Int} {l4 : Int} {w : NS} {M : MM} (C : CX_X10_findFamily G X) (h : ((((M 41 12) ≤ l4) → A_X10_findFamily_40 G X P l2 l3 w M) ∧ ((¬ ((M 41 12) ≤ l4)) → A_X10_findFamily_61 G X P l2 l3 l4 0 w M))) : A_X10_findFamily_49 G X P l2 l3 l4 w M := by
  unfold A_X10_findFamily_49
  refine s_iload C (d_of DX10_findFamily 30 rfl) rfl ?_
  refine s_aload_n C (d_of DX10_findFamily 31 rfl) rfl ?_
  refine WA.fix (fun hF1 => ?_)
  refine gf_X10_147 (v0 := (M 41 12)) C (sh_41 hF1) (d_of DX10_findFamily 32 rfl) rfl ?_
  refine s_icmpge C (d_of DX10_findFamily 33 rfl) rfl (fun hc => ?_) (fun hc => ?_)
  · have h := h.1 hc
    refine s_goto C (d_of DX10_findFamily 71 rfl) rfl ?_
    exact WA.wk h ⟨Or.inr rfl, Or.inl rfl, Or.inr rfl, Or.inr rfl, Or.inl rfl, Or.inl rfl, trivial⟩
  · have h := h.2 hc
    refine s_iconst C (d_of DX10_findFamily 34 rfl) (by decide) ?_
    refine s_istore (ls' := [(2, 41), (3, 0), (0, l2), (0, l3), (0, l4), (0, 0)]) C (d_of DX10_findFamily 35 rfl) (by decide) rfl rfl ?_
    exact h
set_option maxHeartbeats 4000000 in
set_option maxRecDepth 100000 in
theorem B_X10_findFamily_61 {G : GP} {X : BX} {P : Int → NS → MM → Prop} {l2 : Int} {l3 : Int} {l4 : Int} {l5 : Int} {w : NS} {M : MM} (C : CX_X10_findFamily G X) (h : ((((M 41 12) ≤ l5) → (inR (l4 + 1)) ∧ A_X10_findFamily_49 G X P l2 l3 (l4 + 1) w M) ∧ ((¬ ((M 41 12) ≤ l5)) → (0 ≤ l4) ∧ (l4 < 24) ∧ ((((M 68 l4) ≠ 0) → (inR (l4 + 1)) ∧ A_X10_findFamily_49 G X P l2 l3 (l4 + 1) w M) ∧ ((¬ ((M 68 l4) ≠ 0)) → (0 ≤ l5) ∧ (l5 < 24) ∧ ((((M 68 l5) = 0) → (inR (l5 + 1)) ∧ A_X10_findFamily_61 G X P l2 l3 l4 (l5 + 1) w M) ∧ ((¬ ((M 68 l5) = 0)) → (inR (24 * l4)) ∧ (inR ((24 * l4) + l5)) ∧ (0 ≤ ((24 * l4) + l5)) ∧ (((24 * l4) + l5) < 576) ∧ ((((M 69 ((24 * l4) + l5)) = 0) → (inR (l5 + 1)) ∧ A_X10_findFamily_61 G X P l2 l3 l4 (l5 + 1) w M) ∧ ((¬ ((M 69 ((24 * l4) + l5)) = 0)) → (inR (l2 + 1)) ∧ (inR (l5 + 1)) ∧ A_X10_findFamily_61 G X P (l2 + 1) 1 l4 (l5 + 1) w (up M 68 l4 1)))))))))) : A_X10_findFamily_61 G X P l2 l3 l4 l5 w M := by
  unfold A_X10_findFamily_61
  refine s_iload C (d_of DX10_findFamily 36 rfl) rfl ?_
  refine s_aload_n C (d_of DX10_findFamily 37 rfl) rfl ?_
  refine WA.fix (fun hF1 => ?_)
  refine gf_X10_147 (v0 := (M 41 12)) C (sh_41 hF1) (d_of DX10_findFamily 38 rfl) rfl ?_
  refine s_icmpge C (d_of DX10_findFamily 39 rfl) rfl (fun hc => ?_) (fun hc => ?_)
  · have h := h.1 hc
    obtain ⟨o2, h⟩ := h
    refine s_iinc (ls' := [(2, 41), (3, 0), (0, l2), (0, l3), (0, (l4 + 1)), (0, l5)]) C (d_of DX10_findFamily 69 rfl) (by decide) rfl o2 rfl rfl ?_
    refine s_goto C (d_of DX10_findFamily 70 rfl) rfl ?_
    exact WA.wk h ⟨Or.inr rfl, Or.inl rfl, Or.inr rfl, Or.inr rfl, Or.inr rfl, Or.inl rfl, trivial⟩
  · have h := h.2 hc
    refine s_aload_n C (d_of DX10_findFamily 40 rfl) rfl ?_
    refine gf_X10_89 C (sh_41 hF1) (d_of DX10_findFamily 41 rfl) (fx_41_32 hF1) ?_
    refine s_iload C (d_of DX10_findFamily 42 rfl) rfl ?_
    obtain ⟨o3, h⟩ := h
    obtain ⟨o4, h⟩ := h
    refine s_zald (v0 := (M 68 l4)) C (sh_68 hF1) o3 o4 (d_of DX10_findFamily 43 rfl) rfl ?_
    refine s_ifne C (d_of DX10_findFamily 44 rfl) rfl (fun hc => ?_) (fun hc => ?_)
    · have h := h.1 hc
      obtain ⟨o5, h⟩ := h
      refine s_iinc (ls' := [(2, 41), (3, 0), (0, l2), (0, l3), (0, (l4 + 1)), (0, l5)]) C (d_of DX10_findFamily 69 rfl) (by decide) rfl o5 rfl rfl ?_
      refine s_goto C (d_of DX10_findFamily 70 rfl) rfl ?_
      exact WA.wk h ⟨Or.inr rfl, Or.inl rfl, Or.inr rfl, Or.inr rfl, Or.inr rfl, Or.inl rfl, trivial⟩
    · have h := h.2 hc
      refine s_aload_n C (d_of DX10_findFamily 45 rfl) rfl ?_
      refine gf_X10_89 C (sh_41 hF1) (d_of DX10_findFamily 46 rfl) (fx_41_32 hF1) ?_
      refine s_iload C (d_of DX10_findFamily 47 rfl) rfl ?_
      obtain ⟨o6, h⟩ := h
      obtain ⟨o7, h⟩ := h
      refine s_zald (v0 := (M 68 l5)) C (sh_68 hF1) o6 o7 (d_of DX10_findFamily 48 rfl) rfl ?_
      refine s_ifeq C (d_of DX10_findFamily 49 rfl) rfl (fun hc => ?_) (fun hc => ?_)
      · have h := h.1 hc
        obtain ⟨o8, h⟩ := h
        refine s_iinc (ls' := [(2, 41), (3, 0), (0, l2), (0, l3), (0, l4), (0, (l5 + 1))]) C (d_of DX10_findFamily 67 rfl) (by decide) rfl o8 rfl rfl ?_
        refine s_goto C (d_of DX10_findFamily 68 rfl) rfl ?_
        exact h
      · have h := h.2 hc
        refine s_aload_n C (d_of DX10_findFamily 50 rfl) rfl ?_
        refine gf_X10_92 C (sh_41 hF1) (d_of DX10_findFamily 51 rfl) (fx_41_33 hF1) ?_
        refine s_bipush C (d_of DX10_findFamily 52 rfl) ⟨rfl, by decide, by decide⟩ ?_
        refine s_iload C (d_of DX10_findFamily 53 rfl) rfl ?_
        obtain ⟨o9, h⟩ := h
        refine s_imul C (d_of DX10_findFamily 54 rfl) o9 ?_
        refine s_iload C (d_of DX10_findFamily 55 rfl) rfl ?_
        obtain ⟨o10, h⟩ := h
        refine s_iadd C (d_of DX10_findFamily 56 rfl) o10 ?_
        obtain ⟨o11, h⟩ := h
        obtain ⟨o12, h⟩ := h
        refine s_zald (v0 := (M 69 ((24 * l4) + l5))) C (sh_69 hF1) o11 o12 (d_of DX10_findFamily 57 rfl) rfl ?_
        refine s_ifeq C (d_of DX10_findFamily 58 rfl) rfl (fun hc => ?_) (fun hc => ?_)
        · have h := h.1 hc
          obtain ⟨o13, h⟩ := h
          refine s_iinc (ls' := [(2, 41), (3, 0), (0, l2), (0, l3), (0, l4), (0, (l5 + 1))]) C (d_of DX10_findFamily 67 rfl) (by decide) rfl o13 rfl rfl ?_
          refine s_goto C (d_of DX10_findFamily 68 rfl) rfl ?_
          exact h
        · have h := h.2 hc
          refine s_aload_n C (d_of DX10_findFamily 59 rfl) rfl ?_
          refine gf_X10_89 C (sh_41 hF1) (d_of DX10_findFamily 60 rfl) (fx_41_32 hF1) ?_
          refine s_iload C (d_of DX10_findFamily 61 rfl) rfl ?_
          refine s_iconst C (d_of DX10_findFamily 62 rfl) (by decide) ?_
          refine s_zast C (sh_68 hF1) o3 o4 (by decide) (fun _ => by decide) (d_of DX10_findFamily 63 rfl) ?_
          obtain ⟨o14, h⟩ := h
          refine s_iinc (ls' := [(2, 41), (3, 0), (0, (l2 + 1)), (0, l3), (0, l4), (0, l5)]) C (d_of DX10_findFamily 64 rfl) (by decide) rfl o14 rfl rfl ?_
          refine s_iconst C (d_of DX10_findFamily 65 rfl) (by decide) ?_
          refine s_istore_n (ls' := [(2, 41), (3, 0), (0, (l2 + 1)), (0, 1), (0, l4), (0, l5)]) C (d_of DX10_findFamily 66 rfl) (by decide) rfl rfl ?_
          obtain ⟨o15, h⟩ := h
          refine s_iinc (ls' := [(2, 41), (3, 0), (0, (l2 + 1)), (0, 1), (0, l4), (0, (l5 + 1))]) C (d_of DX10_findFamily 67 rfl) (by decide) rfl o15 rfl rfl ?_
          refine s_goto C (d_of DX10_findFamily 68 rfl) rfl ?_
          exact h
theorem E_X10_findFamily {G : GP} {l : Launch} {P : Int → NS → MM → Prop} {l1 : Int} {w : NS} {M : MM} (h : inR l1 → ∀ X : BX, X.2.1 = l → CX_X10_findFamily G X → A_X10_findFamily_0 G X P l1 w M) : CT_X10_findFamily G l [(2, 41), (0, l1)] w M P :=
  CT.of RX10 "findFamily" (by decide +kernel) rfl rfl rfl (Nat.le_of_ble_eq_true rfl) (fun hr X hX C => h (hr (0, l1) (by simp)) X hX C)
def A_X10_isAhead_0 (G : GP) (X : BX) (P : Int → NS → MM → Prop) (l1 : Int) (l2 : Int) (w : NS) (M : MM) : Prop := WA true G X (QM G X true 0 P) 5 0 [(2, 41), (0, l1), (0, l2), (3, 0), (3, 0)] [] 0 0 w M
set_option maxHeartbeats 4000000 in
set_option maxRecDepth 100000 in
theorem B_X10_isAhead_0 {G : GP} {X : BX} {P : Int → NS → MM → Prop} {l1 : Int} {l2 : Int} {w : NS} {M : MM} (C : CX_X10_isAhead G X) (h : (0 ≤ l1) ∧ (l1 < 24) ∧ (0 ≤ l2) ∧ (l2 < 24) ∧ (0 ≤ (M 46 l1)) ∧ ((M 46 l1) < 8) ∧ (0 ≤ (M 46 l2)) ∧ ((M 46 l2) < 8) ∧ ((((M 44 (M 46 l1)) = (M 44 (M 46 l2))) → ((((M 43 (M 46 l1)) = (M 43 (M 46 l2))) → (((l2 ≤ l1) → P 0 w M) ∧ ((¬ (l2 ≤ l1)) → P 1 w M))) ∧ ((¬ ((M 43 (M 46 l1)) = (M 43 (M 46 l2)))) → ((((M 43 (M 46 l2)) ≤ (M 43 (M 46 l1))) → P 0 w M) ∧ ((¬ ((M 43 (M 46 l2)) ≤ (M 43 (M 46 l1)))) → P 1 w M))))) ∧ ((¬ ((M 44 (M 46 l1)) = (M 44 (M 46 l2)))) → ((((M 44 (M 46 l2)) ≤ (M 44 (M 46 l1))) → P 0 w M) ∧ ((¬ ((M 44 (M 46 l2)) ≤ (M 44 (M 46 l1)))) → P 1 w M))))) : A_X10_isAhead_0 G X P l1 l2 w M := by
  unfold A_X10_isAhead_0
  refine s_aload_n C (d_of DX10_isAhead 0 rfl) rfl ?_
  refine WA.fix (fun hF1 => ?_)
  refine gf_X10_22 C (sh_41 hF1) (d_of DX10_isAhead 1 rfl) (fx_41_5 hF1) ?_
  refine s_iload_n C (d_of DX10_isAhead 2 rfl) rfl ?_
  obtain ⟨o2, h⟩ := h
  obtain ⟨o3, h⟩ := h
  refine s_iald (v0 := (M 46 l1)) C (sh_46 hF1) o2 o3 (d_of DX10_isAhead 3 rfl) rfl ?_
  refine s_istore_n (ls' := [(2, 41), (0, l1), (0, l2), (0, (M 46 l1)), (3, 0)]) C (d_of DX10_isAhead 4 rfl) (by decide) rfl rfl ?_
  refine s_aload_n C (d_of DX10_isAhead 5 rfl) rfl ?_
  refine gf_X10_22 C (sh_41 hF1) (d_of DX10_isAhead 6 rfl) (fx_41_5 hF1) ?_
  refine s_iload_n C (d_of DX10_isAhead 7 rfl) rfl ?_
  obtain ⟨o4, h⟩ := h
  obtain ⟨o5, h⟩ := h
  refine s_iald (v0 := (M 46 l2)) C (sh_46 hF1) o4 o5 (d_of DX10_isAhead 8 rfl) rfl ?_
  refine s_istore (ls' := [(2, 41), (0, l1), (0, l2), (0, (M 46 l1)), (0, (M 46 l2))]) C (d_of DX10_isAhead 9 rfl) (by decide) rfl rfl ?_
  refine s_aload_n C (d_of DX10_isAhead 10 rfl) rfl ?_
  refine gf_X10_16 C (sh_41 hF1) (d_of DX10_isAhead 11 rfl) (fx_41_2 hF1) ?_
  refine s_iload_n C (d_of DX10_isAhead 12 rfl) rfl ?_
  obtain ⟨o6, h⟩ := h
  obtain ⟨o7, h⟩ := h
  refine s_iald (v0 := (M 44 (M 46 l1))) C (sh_44 hF1) o6 o7 (d_of DX10_isAhead 13 rfl) rfl ?_
  refine s_aload_n C (d_of DX10_isAhead 14 rfl) rfl ?_
  refine gf_X10_16 C (sh_41 hF1) (d_of DX10_isAhead 15 rfl) (fx_41_2 hF1) ?_
  refine s_iload C (d_of DX10_isAhead 16 rfl) rfl ?_
  obtain ⟨o8, h⟩ := h
  obtain ⟨o9, h⟩ := h
  refine s_iald (v0 := (M 44 (M 46 l2))) C (sh_44 hF1) o8 o9 (d_of DX10_isAhead 17 rfl) rfl ?_
  refine s_icmpeq C (d_of DX10_isAhead 18 rfl) rfl (fun hc => ?_) (fun hc => ?_)
  · have h := h.1 hc
    refine s_aload_n C (d_of DX10_isAhead 32 rfl) rfl ?_
    refine gf_X10_13 C (sh_41 hF1) (d_of DX10_isAhead 33 rfl) (fx_41_1 hF1) ?_
    refine s_iload_n C (d_of DX10_isAhead 34 rfl) rfl ?_
    refine s_iald (v0 := (M 43 (M 46 l1))) C (sh_43 hF1) o6 o7 (d_of DX10_isAhead 35 rfl) rfl ?_
    refine s_aload_n C (d_of DX10_isAhead 36 rfl) rfl ?_
    refine gf_X10_13 C (sh_41 hF1) (d_of DX10_isAhead 37 rfl) (fx_41_1 hF1) ?_
    refine s_iload C (d_of DX10_isAhead 38 rfl) rfl ?_
    refine s_iald (v0 := (M 43 (M 46 l2))) C (sh_43 hF1) o8 o9 (d_of DX10_isAhead 39 rfl) rfl ?_
    refine s_icmpeq C (d_of DX10_isAhead 40 rfl) rfl (fun hc => ?_) (fun hc => ?_)
    · have h := h.1 hc
      refine s_iload_n C (d_of DX10_isAhead 54 rfl) rfl ?_
      refine s_iload_n C (d_of DX10_isAhead 55 rfl) rfl ?_
      refine s_icmpge C (d_of DX10_isAhead 56 rfl) rfl (fun hc => ?_) (fun hc => ?_)
      · have h := h.1 hc
        refine s_iconst C (d_of DX10_isAhead 59 rfl) (by decide) ?_
        exact s_zreturn C (d_of DX10_isAhead 60 rfl) (by decide) h
      · have h := h.2 hc
        refine s_iconst C (d_of DX10_isAhead 57 rfl) (by decide) ?_
        refine s_goto C (d_of DX10_isAhead 58 rfl) rfl ?_
        exact s_zreturn C (d_of DX10_isAhead 60 rfl) (by decide) h
    · have h := h.2 hc
      refine s_aload_n C (d_of DX10_isAhead 41 rfl) rfl ?_
      refine gf_X10_13 C (sh_41 hF1) (d_of DX10_isAhead 42 rfl) (fx_41_1 hF1) ?_
      refine s_iload_n C (d_of DX10_isAhead 43 rfl) rfl ?_
      refine s_iald (v0 := (M 43 (M 46 l1))) C (sh_43 hF1) o6 o7 (d_of DX10_isAhead 44 rfl) rfl ?_
      refine s_aload_n C (d_of DX10_isAhead 45 rfl) rfl ?_
      refine gf_X10_13 C (sh_41 hF1) (d_of DX10_isAhead 46 rfl) (fx_41_1 hF1) ?_
      refine s_iload C (d_of DX10_isAhead 47 rfl) rfl ?_
      refine s_iald (v0 := (M 43 (M 46 l2))) C (sh_43 hF1) o8 o9 (d_of DX10_isAhead 48 rfl) rfl ?_
      refine s_icmpge C (d_of DX10_isAhead 49 rfl) rfl (fun hc => ?_) (fun hc => ?_)
      · have h := h.1 hc
        refine s_iconst C (d_of DX10_isAhead 52 rfl) (by decide) ?_
        refine s_goto C (d_of DX10_isAhead 53 rfl) rfl ?_
        exact s_zreturn C (d_of DX10_isAhead 60 rfl) (by decide) h
      · have h := h.2 hc
        refine s_iconst C (d_of DX10_isAhead 50 rfl) (by decide) ?_
        refine s_goto C (d_of DX10_isAhead 51 rfl) rfl ?_
        exact s_zreturn C (d_of DX10_isAhead 60 rfl) (by decide) h
  · have h := h.2 hc
    refine s_aload_n C (d_of DX10_isAhead 19 rfl) rfl ?_
    refine gf_X10_16 C (sh_41 hF1) (d_of DX10_isAhead 20 rfl) (fx_41_2 hF1) ?_
    refine s_iload_n C (d_of DX10_isAhead 21 rfl) rfl ?_
    refine s_iald (v0 := (M 44 (M 46 l1))) C (sh_44 hF1) o6 o7 (d_of DX10_isAhead 22 rfl) rfl ?_
    refine s_aload_n C (d_of DX10_isAhead 23 rfl) rfl ?_
    refine gf_X10_16 C (sh_41 hF1) (d_of DX10_isAhead 24 rfl) (fx_41_2 hF1) ?_
    refine s_iload C (d_of DX10_isAhead 25 rfl) rfl ?_
    refine s_iald (v0 := (M 44 (M 46 l2))) C (sh_44 hF1) o8 o9 (d_of DX10_isAhead 26 rfl) rfl ?_
    refine s_icmpge C (d_of DX10_isAhead 27 rfl) rfl (fun hc => ?_) (fun hc => ?_)
    · have h := h.1 hc
      refine s_iconst C (d_of DX10_isAhead 30 rfl) (by decide) ?_
      exact s_zreturn C (d_of DX10_isAhead 31 rfl) (by decide) h
    · have h := h.2 hc
      refine s_iconst C (d_of DX10_isAhead 28 rfl) (by decide) ?_
      refine s_goto C (d_of DX10_isAhead 29 rfl) rfl ?_
      exact s_zreturn C (d_of DX10_isAhead 31 rfl) (by decide) h
theorem E_X10_isAhead {G : GP} {l : Launch} {P : Int → NS → MM → Prop} {l1 : Int} {l2 : Int} {w : NS} {M : MM} (h : inR l1 → inR l2 → ∀ X : BX, X.2.1 = l → CX_X10_isAhead G X → A_X10_isAhead_0 G X P l1 l2 w M) : CT_X10_isAhead G l [(2, 41), (0, l1), (0, l2)] w M P :=
  CT.of RX10 "isAhead" (by decide +kernel) rfl rfl rfl (Nat.le_of_ble_eq_true rfl) (fun hr X hX C => h (hr (0, l1) (by simp)) (hr (0, l2) (by simp)) X hX C)
def A_X10_firstOf_0 (G : GP) (X : BX) (P : Int → NS → MM → Prop) (w : NS) (M : MM) : Prop := WA true G X (QM G X true 0 P) 3 0 [(2, 41), (3, 0), (3, 0)] [] 0 0 w M
def A_X10_firstOf_4 (G : GP) (X : BX) (P : Int → NS → MM → Prop) (l1 : Int) (l2 : Int) (w : NS) (M : MM) : Prop := WA true G X (QM G X true 0 P) 3 4 [(2, 41), (0, l1), (0, l2)] [] 0 0 w M
set_option maxHeartbeats 4000000 in
set_option maxRecDepth 100000 in
theorem B_X10_firstOf_0 {G : GP} {X : BX} {P : Int → NS → MM → Prop} {w : NS} {M : MM} (C : CX_X10_firstOf G X) (h : A_X10_firstOf_4 G X P (-1) 0 w M) : A_X10_firstOf_0 G X P w M := by
  unfold A_X10_firstOf_0
  refine s_iconst C (d_of DX10_firstOf 0 rfl) (by decide) ?_
  refine s_istore_n (ls' := [(2, 41), (0, (-1)), (3, 0)]) C (d_of DX10_firstOf 1 rfl) (by decide) rfl rfl ?_
  refine s_iconst C (d_of DX10_firstOf 2 rfl) (by decide) ?_
  refine s_istore_n (ls' := [(2, 41), (0, (-1)), (0, 0)]) C (d_of DX10_firstOf 3 rfl) (by decide) rfl rfl ?_
  exact h
set_option maxHeartbeats 4000000 in
set_option maxRecDepth 100000 in
theorem B_X10_firstOf_4 {G : GP} {X : BX} {P : Int → NS → MM → Prop} {l1 : Int} {l2 : Int} {w : NS} {M : MM} (C : CX_X10_firstOf G X) (h : ((((M 41 12) ≤ l2) → P l1 w M) ∧ ((¬ ((M 41 12) ≤ l2)) → (0 ≤ l2) ∧ (l2 < 24) ∧ ((((M 68 l2) = 0) → (inR (l2 + 1)) ∧ A_X10_firstOf_4 G X P l1 (l2 + 1) w M) ∧ ((¬ ((M 68 l2) = 0)) → (((l1 < 0) → (inR (l2 + 1)) ∧ A_X10_firstOf_4 G X P l2 (l2 + 1) w M) ∧ ((¬ (l1 < 0)) → ∃ Q6 : Int → NS → MM → Prop, CT_X10_isAhead G X.2.1 [(2, 41), (0, l2), (0, l1)] w M Q6 ∧ ∀ (z6 : Int) (w6 : NS) (M6 : MM), Q6 z6 w6 M6 → (((z6 = 0) → (inR (l2 + 1)) ∧ A_X10_firstOf_4 G X P l1 (l2 + 1) w6 M6) ∧ ((¬ (z6 = 0)) → (inR (l2 + 1)) ∧ A_X10_firstOf_4 G X P l2 (l2 + 1) w6 M6))))))))) : A_X10_firstOf_4 G X P l1 l2 w M := by
  unfold A_X10_firstOf_4
  refine s_iload_n C (d_of DX10_firstOf 4 rfl) rfl ?_
  refine s_aload_n C (d_of DX10_firstOf 5 rfl) rfl ?_
  refine WA.fix (fun hF1 => ?_)
  refine gf_X10_147 (v0 := (M 41 12)) C (sh_41 hF1) (d_of DX10_firstOf 6 rfl) rfl ?_
  refine s_icmpge C (d_of DX10_firstOf 7 rfl) rfl (fun hc => ?_) (fun hc => ?_)
  · have h := h.1 hc
    refine s_iload_n C (d_of DX10_firstOf 26 rfl) rfl ?_
    exact s_ireturn C (d_of DX10_firstOf 27 rfl) h
  · have h := h.2 hc
    refine s_aload_n C (d_of DX10_firstOf 8 rfl) rfl ?_
    refine gf_X10_89 C (sh_41 hF1) (d_of DX10_firstOf 9 rfl) (fx_41_32 hF1) ?_
    refine s_iload_n C (d_of DX10_firstOf 10 rfl) rfl ?_
    obtain ⟨o2, h⟩ := h
    obtain ⟨o3, h⟩ := h
    refine s_zald (v0 := (M 68 l2)) C (sh_68 hF1) o2 o3 (d_of DX10_firstOf 11 rfl) rfl ?_
    refine s_ifeq C (d_of DX10_firstOf 12 rfl) rfl (fun hc => ?_) (fun hc => ?_)
    · have h := h.1 hc
      refine s_iload_n C (d_of DX10_firstOf 22 rfl) rfl ?_
      refine s_istore_n (ls' := [(2, 41), (0, l1), (0, l2)]) C (d_of DX10_firstOf 23 rfl) (by decide) rfl rfl ?_
      obtain ⟨o4, h⟩ := h
      refine s_iinc (ls' := [(2, 41), (0, l1), (0, (l2 + 1))]) C (d_of DX10_firstOf 24 rfl) (by decide) rfl o4 rfl rfl ?_
      refine s_goto C (d_of DX10_firstOf 25 rfl) rfl ?_
      exact h
    · have h := h.2 hc
      refine s_iload_n C (d_of DX10_firstOf 13 rfl) rfl ?_
      refine s_iflt C (d_of DX10_firstOf 14 rfl) rfl (fun hc => ?_) (fun hc => ?_)
      · have h := h.1 hc
        refine s_iload_n C (d_of DX10_firstOf 20 rfl) rfl ?_
        refine s_goto C (d_of DX10_firstOf 21 rfl) rfl ?_
        refine s_istore_n (ls' := [(2, 41), (0, l2), (0, l2)]) C (d_of DX10_firstOf 23 rfl) (by decide) rfl rfl ?_
        obtain ⟨o5, h⟩ := h
        refine s_iinc (ls' := [(2, 41), (0, l2), (0, (l2 + 1))]) C (d_of DX10_firstOf 24 rfl) (by decide) rfl o5 rfl rfl ?_
        refine s_goto C (d_of DX10_firstOf 25 rfl) rfl ?_
        exact h
      · have h := h.2 hc
        refine s_aload_n C (d_of DX10_firstOf 15 rfl) rfl ?_
        refine s_iload_n C (d_of DX10_firstOf 16 rfl) rfl ?_
        refine s_iload_n C (d_of DX10_firstOf 17 rfl) rfl ?_
        obtain ⟨Q6, hKQ6, h⟩ := h
        refine s_callV (ci := 10) (av := [(0, l2), (0, l1)]) (rest := []) (mc := 0) (ms := 0) C (d_of DX10_firstOf 18 rfl) lk_X10_272 (sh_41 hF1) (by decide) rfl rfl rfl (Nat.le_of_ble_eq_true rfl) (by decide) (by decide) hKQ6 (fun z6 w6 M6 hq => ?_)
        have h := h z6 w6 M6 hq
        refine s_ifeq C (d_of DX10_firstOf 19 rfl) rfl (fun hc => ?_) (fun hc => ?_)
        · have h := h.1 hc
          refine s_iload_n C (d_of DX10_firstOf 22 rfl) rfl ?_
          refine s_istore_n (ls' := [(2, 41), (0, l1), (0, l2)]) C (d_of DX10_firstOf 23 rfl) (by decide) rfl rfl ?_
          obtain ⟨o7, h⟩ := h
          refine s_iinc (ls' := [(2, 41), (0, l1), (0, (l2 + 1))]) C (d_of DX10_firstOf 24 rfl) (by decide) rfl o7 rfl rfl ?_
          refine s_goto C (d_of DX10_firstOf 25 rfl) rfl ?_
          exact h
        · have h := h.2 hc
          refine s_iload_n C (d_of DX10_firstOf 20 rfl) rfl ?_
          refine s_goto C (d_of DX10_firstOf 21 rfl) rfl ?_
          refine s_istore_n (ls' := [(2, 41), (0, l2), (0, l2)]) C (d_of DX10_firstOf 23 rfl) (by decide) rfl rfl ?_
          obtain ⟨o8, h⟩ := h
          refine s_iinc (ls' := [(2, 41), (0, l2), (0, (l2 + 1))]) C (d_of DX10_firstOf 24 rfl) (by decide) rfl o8 rfl rfl ?_
          refine s_goto C (d_of DX10_firstOf 25 rfl) rfl ?_
          exact h
theorem E_X10_firstOf {G : GP} {l : Launch} {P : Int → NS → MM → Prop} {w : NS} {M : MM} (h : ∀ X : BX, X.2.1 = l → CX_X10_firstOf G X → A_X10_firstOf_0 G X P w M) : CT_X10_firstOf G l [(2, 41)] w M P :=
  CT.of RX10 "firstOf" (by decide +kernel) rfl rfl rfl (Nat.le_of_ble_eq_true rfl) (fun hr X hX C => h  X hX C)
def A_X10_about_0 (G : GP) (X : BX) (P : Int → NS → MM → Prop) (l1 : Int) (l2 : Int) (w : NS) (M : MM) : Prop := WA true G X (QM G X true 0 P) 3 0 [(2, 41), (0, l1), (0, l2)] [] 0 0 w M
set_option maxHeartbeats 4000000 in
set_option maxRecDepth 100000 in
theorem B_X10_about_0 {G : GP} {X : BX} {P : Int → NS → MM → Prop} {l1 : Int} {l2 : Int} {w : NS} {M : MM} (C : CX_X10_about G X) (h : (0 ≤ M 41 12) ∧ ((((0 ≤ l1 ∧ l1 < M 41 12)) → (((l2 < 0 ∨ 5 < l2) → P (-2) w M) ∧ (l2 = 0 → (0 ≤ l1) ∧ (l1 < 24) ∧ P (M 46 l1) w M) ∧ (l2 = 1 → ∃ Q6 : Int → NS → MM → Prop, CT_X10_layOne G X.2.1 [(2, 41), (0, l1)] w M Q6 ∧ ∀ (z6 : Int) (w6 : NS) (M6 : MM), Q6 z6 w6 M6 → P (M6 41 16) w6 M6) ∧ (l2 = 2 → (0 ≤ l1) ∧ (l1 < 24) ∧ P (M 51 l1) w M) ∧ (l2 = 3 → (0 ≤ l1) ∧ (l1 < 24) ∧ P (M 52 l1) w M) ∧ (l2 = 4 → ∃ Q12 : Int → NS → MM → Prop, CT_X10_findFamily G X.2.1 [(2, 41), (0, l1)] w M Q12 ∧ ∀ (z12 : Int) (w12 : NS) (M12 : MM), Q12 z12 w12 M12 → ∃ Q14 : Int → NS → MM → Prop, CT_X10_firstOf G X.2.1 [(2, 41)] w12 M12 Q14 ∧ ∀ (z14 : Int) (w14 : NS) (M14 : MM), Q14 z14 w14 M14 → P z14 w14 M14) ∧ (l2 = 5 → ∃ Q15 : Int → NS → MM → Prop, CT_X10_findFamily G X.2.1 [(2, 41), (0, l1)] w M Q15 ∧ ∀ (z15 : Int) (w15 : NS) (M15 : MM), Q15 z15 w15 M15 → P z15 w15 M15))) ∧ ((¬ (0 ≤ l1 ∧ l1 < M 41 12)) → P (-1) w M))) : A_X10_about_0 G X P l1 l2 w M := by
  unfold A_X10_about_0
  refine s_aload_n C (d_of DX10_about 0 rfl) rfl ?_
  refine s_iload_n C (d_of DX10_about 1 rfl) rfl ?_
  refine WA.fix (fun hF1 => ?_)
  obtain ⟨o2, h⟩ := h
  refine s_callV (ci := 10) (av := [(0, l1)]) (rest := []) (mc := 0) (ms := 0) C (d_of DX10_about 2 rfl) lk_X10_186 (sh_41 hF1) (by decide) rfl rfl rfl (Nat.le_of_ble_eq_true rfl) (by decide) (by decide) (pc_X10_isPiece o2) (fun z3 wz3 Mz3 hq => ?_)
  obtain ⟨hq1, hq2, hq3⟩ := hq
  have hq2 := hq2.symm
  have hq3 := hq3.symm
  subst hq1 hq2 hq3
  refine s_ifne C (d_of DX10_about 3 rfl) rfl (fun hc => ?_) (fun hc => ?_)
  · have h := h.1 (b2i_n0 hc)
    refine s_iload_n C (d_of DX10_about 6 rfl) rfl ?_
    rcases (show (l2 < 0 ∨ 5 < l2) ∨ l2 = 0 ∨ l2 = 1 ∨ l2 = 2 ∨ l2 = 3 ∨ l2 = 4 ∨ l2 = 5 from by omega) with hc | hc | hc | hc | hc | hc | hc
    · have h := h.1 hc
      refine s_tabOut C (d_of DX10_about 7 rfl) hc rfl ?_
      refine s_bipush C (d_of DX10_about 40 rfl) ⟨rfl, by decide, by decide⟩ ?_
      exact s_ireturn C (d_of DX10_about 41 rfl) h
    · have h := h.2.1 hc
      refine s_tabIn C (d_of DX10_about 7 rfl) hc (by decide) (by decide) rfl rfl ?_
      refine s_aload_n C (d_of DX10_about 8 rfl) rfl ?_
      refine gf_X10_22 C (sh_41 hF1) (d_of DX10_about 9 rfl) (fx_41_5 hF1) ?_
      refine s_iload_n C (d_of DX10_about 10 rfl) rfl ?_
      obtain ⟨o4, h⟩ := h
      obtain ⟨o5, h⟩ := h
      refine s_iald (v0 := (M 46 l1)) C (sh_46 hF1) o4 o5 (d_of DX10_about 11 rfl) rfl ?_
      exact s_ireturn C (d_of DX10_about 12 rfl) h
    · have h := h.2.2.1 hc
      refine s_tabIn C (d_of DX10_about 7 rfl) hc (by decide) (by decide) rfl rfl ?_
      refine s_aload_n C (d_of DX10_about 13 rfl) rfl ?_
      refine s_iload_n C (d_of DX10_about 14 rfl) rfl ?_
      obtain ⟨Q6, hKQ6, h⟩ := h
      refine s_callV (ci := 10) (av := [(0, l1)]) (rest := []) (mc := 0) (ms := 0) C (d_of DX10_about 15 rfl) lk_X10_179 (sh_41 hF1) (by decide) rfl rfl rfl (Nat.le_of_ble_eq_true rfl) (by decide) (by decide) hKQ6 (fun z6 w6 M6 hq => ?_)
      have h := h z6 w6 M6 hq
      refine s_aload_n C (d_of DX10_about 16 rfl) rfl ?_
      refine WA.fix (fun hF7 => ?_)
      refine gf_X10_176 (v0 := (M6 41 16)) C (sh_41 hF7) (d_of DX10_about 17 rfl) rfl ?_
      exact s_ireturn C (d_of DX10_about 18 rfl) h
    · have h := h.2.2.2.1 hc
      refine s_tabIn C (d_of DX10_about 7 rfl) hc (by decide) (by decide) rfl rfl ?_
      refine s_aload_n C (d_of DX10_about 19 rfl) rfl ?_
      refine gf_X10_37 C (sh_41 hF1) (d_of DX10_about 20 rfl) (fx_41_10 hF1) ?_
      refine s_iload_n C (d_of DX10_about 21 rfl) rfl ?_
      obtain ⟨o8, h⟩ := h
      obtain ⟨o9, h⟩ := h
      refine s_iald (v0 := (M 51 l1)) C (sh_51 hF1) o8 o9 (d_of DX10_about 22 rfl) rfl ?_
      exact s_ireturn C (d_of DX10_about 23 rfl) h
    · have h := h.2.2.2.2.1 hc
      refine s_tabIn C (d_of DX10_about 7 rfl) hc (by decide) (by decide) rfl rfl ?_
      refine s_aload_n C (d_of DX10_about 24 rfl) rfl ?_
      refine gf_X10_40 C (sh_41 hF1) (d_of DX10_about 25 rfl) (fx_41_11 hF1) ?_
      refine s_iload_n C (d_of DX10_about 26 rfl) rfl ?_
      obtain ⟨o10, h⟩ := h
      obtain ⟨o11, h⟩ := h
      refine s_iald (v0 := (M 52 l1)) C (sh_52 hF1) o10 o11 (d_of DX10_about 27 rfl) rfl ?_
      exact s_ireturn C (d_of DX10_about 28 rfl) h
    · have h := h.2.2.2.2.2.1 hc
      refine s_tabIn C (d_of DX10_about 7 rfl) hc (by decide) (by decide) rfl rfl ?_
      refine s_aload_n C (d_of DX10_about 29 rfl) rfl ?_
      refine s_iload_n C (d_of DX10_about 30 rfl) rfl ?_
      obtain ⟨Q12, hKQ12, h⟩ := h
      refine s_callV (ci := 10) (av := [(0, l1)]) (rest := []) (mc := 0) (ms := 0) C (d_of DX10_about 31 rfl) lk_X10_189 (sh_41 hF1) (by decide) rfl rfl rfl (Nat.le_of_ble_eq_true rfl) (by decide) (by decide) hKQ12 (fun z12 w12 M12 hq => ?_)
      have h := h z12 w12 M12 hq
      refine s_pop C (by simp) (d_of DX10_about 32 rfl) ?_
      refine s_aload_n C (d_of DX10_about 33 rfl) rfl ?_
      refine WA.fix (fun hF13 => ?_)
      obtain ⟨Q14, hKQ14, h⟩ := h
      refine s_callV (ci := 10) (av := []) (rest := []) (mc := 0) (ms := 0) C (d_of DX10_about 34 rfl) lk_X10_193 (sh_41 hF13) (by decide) rfl rfl rfl (Nat.le_of_ble_eq_true rfl) (by decide) (by decide) hKQ14 (fun z14 w14 M14 hq => ?_)
      have h := h z14 w14 M14 hq
      exact s_ireturn C (d_of DX10_about 35 rfl) h
    · have h := h.2.2.2.2.2.2 hc
      refine s_tabIn C (d_of DX10_about 7 rfl) hc (by decide) (by decide) rfl rfl ?_
      refine s_aload_n C (d_of DX10_about 36 rfl) rfl ?_
      refine s_iload_n C (d_of DX10_about 37 rfl) rfl ?_
      obtain ⟨Q15, hKQ15, h⟩ := h
      refine s_callV (ci := 10) (av := [(0, l1)]) (rest := []) (mc := 0) (ms := 0) C (d_of DX10_about 38 rfl) lk_X10_189 (sh_41 hF1) (by decide) rfl rfl rfl (Nat.le_of_ble_eq_true rfl) (by decide) (by decide) hKQ15 (fun z15 w15 M15 hq => ?_)
      have h := h z15 w15 M15 hq
      exact s_ireturn C (d_of DX10_about 39 rfl) h
  · have h := h.2 (b2i_nn hc)
    refine s_iconst C (d_of DX10_about 4 rfl) (by decide) ?_
    exact s_ireturn C (d_of DX10_about 5 rfl) h
theorem E_X10_about {G : GP} {l : Launch} {P : Int → NS → MM → Prop} {l1 : Int} {l2 : Int} {w : NS} {M : MM} (h : inR l1 → inR l2 → ∀ X : BX, X.2.1 = l → CX_X10_about G X → A_X10_about_0 G X P l1 l2 w M) : CT_X10_about G l [(2, 41), (0, l1), (0, l2)] w M P :=
  CT.of RX10 "about" (by decide +kernel) rfl rfl rfl (Nat.le_of_ble_eq_true rfl) (fun hr X hX C => h (hr (0, l1) (by simp)) (hr (0, l2) (by simp)) X hX C)
def A_X10_word_0 (G : GP) (X : BX) (P : Int → NS → MM → Prop) (l1 : Int) (l2 : Int) (w : NS) (M : MM) : Prop := WA true G X (QM G X true 0 P) 3 0 [(2, 41), (0, l1), (0, l2)] [] 0 0 w M
set_option maxHeartbeats 4000000 in
set_option maxRecDepth 100000 in
theorem B_X10_word_0 {G : GP} {X : BX} {P : Int → NS → MM → Prop} {l1 : Int} {l2 : Int} {w : NS} {M : MM} (C : CX_X10_word G X) (h : (0 ≤ M 41 12) ∧ ((((0 ≤ l1 ∧ l1 < M 41 12)) → ∃ Q4 : Int → NS → MM → Prop, CT_X10_layOne G X.2.1 [(2, 41), (0, l1)] w M Q4 ∧ ∀ (z4 : Int) (w4 : NS) (M4 : MM), Q4 z4 w4 M4 → (inR ((M4 41 16) - 1)) ∧ (((¬ (0 ≤ l2 ∧ l2 ≤ ((M4 41 16) - 1))) → P (-6) w4 M4) ∧ (((0 ≤ l2 ∧ l2 ≤ ((M4 41 16) - 1))) → (0 ≤ l2) ∧ (l2 < 60) ∧ P (M4 54 l2) w4 M4))) ∧ ((¬ (0 ≤ l1 ∧ l1 < M 41 12)) → P (-1) w M))) : A_X10_word_0 G X P l1 l2 w M := by
  unfold A_X10_word_0
  refine s_aload_n C (d_of DX10_word 0 rfl) rfl ?_
  refine s_iload_n C (d_of DX10_word 1 rfl) rfl ?_
  refine WA.fix (fun hF1 => ?_)
  obtain ⟨o2, h⟩ := h
  refine s_callV (ci := 10) (av := [(0, l1)]) (rest := []) (mc := 0) (ms := 0) C (d_of DX10_word 2 rfl) lk_X10_186 (sh_41 hF1) (by decide) rfl rfl rfl (Nat.le_of_ble_eq_true rfl) (by decide) (by decide) (pc_X10_isPiece o2) (fun z3 wz3 Mz3 hq => ?_)
  obtain ⟨hq1, hq2, hq3⟩ := hq
  have hq2 := hq2.symm
  have hq3 := hq3.symm
  subst hq1 hq2 hq3
  refine s_ifne C (d_of DX10_word 3 rfl) rfl (fun hc => ?_) (fun hc => ?_)
  · have h := h.1 (b2i_n0 hc)
    refine s_aload_n C (d_of DX10_word 6 rfl) rfl ?_
    refine s_iload_n C (d_of DX10_word 7 rfl) rfl ?_
    obtain ⟨Q4, hKQ4, h⟩ := h
    refine s_callV (ci := 10) (av := [(0, l1)]) (rest := []) (mc := 0) (ms := 0) C (d_of DX10_word 8 rfl) lk_X10_179 (sh_41 hF1) (by decide) rfl rfl rfl (Nat.le_of_ble_eq_true rfl) (by decide) (by decide) hKQ4 (fun z4 w4 M4 hq => ?_)
    have h := h z4 w4 M4 hq
    refine s_iload_n C (d_of DX10_word 9 rfl) rfl ?_
    refine s_i2l C (d_of DX10_word 10 rfl) ?_
    refine s_lconst (z := 0) C (d_of DX10_word 11 rfl) ⟨rfl, by decide⟩ ?_
    refine s_aload_n C (d_of DX10_word 12 rfl) rfl ?_
    refine WA.fix (fun hF5 => ?_)
    refine gf_X10_176 (v0 := (M4 41 16)) C (sh_41 hF5) (d_of DX10_word 13 rfl) rfl ?_
    refine s_iconst C (d_of DX10_word 14 rfl) (by decide) ?_
    obtain ⟨o6, h⟩ := h
    refine s_isub C (d_of DX10_word 15 rfl) o6 ?_
    refine s_i2l C (d_of DX10_word 16 rfl) ?_
    refine s_callS (av := [(1, l2), (1, 0), (1, ((M4 41 16) - 1))]) (rest := []) (mc := 0) (ms := 0) C (d_of DX10_word 17 rfl) lk_X10_139 rfl rfl (Nat.le_of_ble_eq_true rfl) (by decide) (by decide) (pc_X10_in) (fun z7 wz7 Mz7 hq => ?_)
    obtain ⟨hq1, hq2, hq3⟩ := hq
    have hq2 := hq2.symm
    have hq3 := hq3.symm
    subst hq1 hq2 hq3
    refine s_ifeq C (d_of DX10_word 18 rfl) rfl (fun hc => ?_) (fun hc => ?_)
    · have h := h.1 (b2i_0.mp hc)
      refine s_bipush C (d_of DX10_word 24 rfl) ⟨rfl, by decide, by decide⟩ ?_
      exact s_ireturn C (d_of DX10_word 25 rfl) h
    · have h := h.2 (b2i_n0 hc)
      refine s_aload_n C (d_of DX10_word 19 rfl) rfl ?_
      refine gf_X10_46 C (sh_41 hF5) (d_of DX10_word 20 rfl) (fx_41_14 hF5) ?_
      refine s_iload_n C (d_of DX10_word 21 rfl) rfl ?_
      obtain ⟨o8, h⟩ := h
      obtain ⟨o9, h⟩ := h
      refine s_iald (v0 := (M4 54 l2)) C (sh_54 hF5) o8 o9 (d_of DX10_word 22 rfl) rfl ?_
      refine s_goto C (d_of DX10_word 23 rfl) rfl ?_
      exact s_ireturn C (d_of DX10_word 25 rfl) h
  · have h := h.2 (b2i_nn hc)
    refine s_iconst C (d_of DX10_word 4 rfl) (by decide) ?_
    exact s_ireturn C (d_of DX10_word 5 rfl) h
theorem E_X10_word {G : GP} {l : Launch} {P : Int → NS → MM → Prop} {l1 : Int} {l2 : Int} {w : NS} {M : MM} (h : inR l1 → inR l2 → ∀ X : BX, X.2.1 = l → CX_X10_word G X → A_X10_word_0 G X P l1 l2 w M) : CT_X10_word G l [(2, 41), (0, l1), (0, l2)] w M P :=
  CT.of RX10 "word" (by decide +kernel) rfl rfl rfl (Nat.le_of_ble_eq_true rfl) (fun hr X hX C => h (hr (0, l1) (by simp)) (hr (0, l2) (by simp)) X hX C)
def A_X10_doClash_0 (G : GP) (X : BX) (P : Int → NS → MM → Prop) (l1 : Int) (l2 : Int) (w : NS) (M : MM) : Prop := WA true G X (QM G X true 0 P) 6 0 [(2, 41), (0, l1), (0, l2), (3, 0), (3, 0), (3, 0)] [] 0 0 w M
set_option maxHeartbeats 4000000 in
set_option maxRecDepth 100000 in
theorem B_X10_doClash_0 {G : GP} {X : BX} {P : Int → NS → MM → Prop} {l1 : Int} {l2 : Int} {w : NS} {M : MM} (C : CX_X10_doClash G X) (h : (0 ≤ l1) ∧ (l1 < 24) ∧ (0 ≤ l2) ∧ (l2 < 24) ∧ ((((M 46 l1) ≠ (M 46 l2)) → (0 ≤ (M 46 l1)) ∧ ((M 46 l1) < 8) ∧ ((((M 45 (M 46 l1)) = (M 46 l2)) → (inR (9 - (M 50 l2))) ∧ (inR (9 - (M 49 l2))) ∧ ((((M 48 l2) < (M 47 l1)) → P 0 w M) ∧ ((¬ ((M 48 l2) < (M 47 l1))) → ((((M 48 l1) < (M 47 l2)) → P 0 w M) ∧ ((¬ ((M 48 l1) < (M 47 l2))) → ((((9 - (M 49 l2)) < (M 49 l1)) → P 0 w M) ∧ ((¬ ((9 - (M 49 l2)) < (M 49 l1))) → ((((M 50 l1) < (9 - (M 50 l2))) → P 0 w M) ∧ ((¬ ((M 50 l1) < (9 - (M 50 l2)))) → P 1 w M))))))))) ∧ ((¬ ((M 45 (M 46 l1)) = (M 46 l2))) → P 0 w M))) ∧ ((¬ ((M 46 l1) ≠ (M 46 l2))) → ((((M 48 l2) < (M 47 l1)) → P 0 w M) ∧ ((¬ ((M 48 l2) < (M 47 l1))) → ((((M 48 l1) < (M 47 l2)) → P 0 w M) ∧ ((¬ ((M 48 l1) < (M 47 l2))) → ((((M 50 l2) < (M 49 l1)) → P 0 w M) ∧ ((¬ ((M 50 l2) < (M 49 l1))) → ((((M 50 l1) < (M 49 l2)) → P 0 w M) ∧ ((¬ ((M 50 l1) < (M 49 l2))) → P 1 w M))))))))))) : A_X10_doClash_0 G X P l1 l2 w M := by
  unfold A_X10_doClash_0
  refine s_aload_n C (d_of DX10_doClash 0 rfl) rfl ?_
  refine WA.fix (fun hF1 => ?_)
  refine gf_X10_22 C (sh_41 hF1) (d_of DX10_doClash 1 rfl) (fx_41_5 hF1) ?_
  refine s_iload_n C (d_of DX10_doClash 2 rfl) rfl ?_
  obtain ⟨o2, h⟩ := h
  obtain ⟨o3, h⟩ := h
  refine s_iald (v0 := (M 46 l1)) C (sh_46 hF1) o2 o3 (d_of DX10_doClash 3 rfl) rfl ?_
  refine s_aload_n C (d_of DX10_doClash 4 rfl) rfl ?_
  refine gf_X10_22 C (sh_41 hF1) (d_of DX10_doClash 5 rfl) (fx_41_5 hF1) ?_
  refine s_iload_n C (d_of DX10_doClash 6 rfl) rfl ?_
  obtain ⟨o4, h⟩ := h
  obtain ⟨o5, h⟩ := h
  refine s_iald (v0 := (M 46 l2)) C (sh_46 hF1) o4 o5 (d_of DX10_doClash 7 rfl) rfl ?_
  refine s_icmpne C (d_of DX10_doClash 8 rfl) rfl (fun hc => ?_) (fun hc => ?_)
  · have h := h.1 hc
    refine s_iconst C (d_of DX10_doClash 11 rfl) (by decide) ?_
    refine s_istore_n (ls' := [(2, 41), (0, l1), (0, l2), (0, 0), (3, 0), (3, 0)]) C (d_of DX10_doClash 12 rfl) (by decide) rfl rfl ?_
    refine s_iload_n C (d_of DX10_doClash 13 rfl) rfl ?_
    refine s_ifne C (d_of DX10_doClash 14 rfl) rfl (fun hc => absurd hc (by decide)) (fun hc => ?_)
    refine s_aload_n C (d_of DX10_doClash 15 rfl) rfl ?_
    refine gf_X10_19 C (sh_41 hF1) (d_of DX10_doClash 16 rfl) (fx_41_3 hF1) ?_
    refine s_aload_n C (d_of DX10_doClash 17 rfl) rfl ?_
    refine gf_X10_22 C (sh_41 hF1) (d_of DX10_doClash 18 rfl) (fx_41_5 hF1) ?_
    refine s_iload_n C (d_of DX10_doClash 19 rfl) rfl ?_
    refine s_iald (v0 := (M 46 l1)) C (sh_46 hF1) o2 o3 (d_of DX10_doClash 20 rfl) rfl ?_
    obtain ⟨o6, h⟩ := h
    obtain ⟨o7, h⟩ := h
    refine s_iald (v0 := (M 45 (M 46 l1))) C (sh_45 hF1) o6 o7 (d_of DX10_doClash 21 rfl) rfl ?_
    refine s_aload_n C (d_of DX10_doClash 22 rfl) rfl ?_
    refine gf_X10_22 C (sh_41 hF1) (d_of DX10_doClash 23 rfl) (fx_41_5 hF1) ?_
    refine s_iload_n C (d_of DX10_doClash 24 rfl) rfl ?_
    refine s_iald (v0 := (M 46 l2)) C (sh_46 hF1) o4 o5 (d_of DX10_doClash 25 rfl) rfl ?_
    refine s_icmpeq C (d_of DX10_doClash 26 rfl) rfl (fun hc => ?_) (fun hc => ?_)
    · have h := h.1 hc
      refine s_iload_n C (d_of DX10_doClash 29 rfl) rfl ?_
      refine s_ifeq C (d_of DX10_doClash 30 rfl) rfl (fun hc => ?_) (fun hc => absurd (by decide) hc)
      refine s_bipush C (d_of DX10_doClash 36 rfl) ⟨rfl, by decide, by decide⟩ ?_
      refine s_aload_n C (d_of DX10_doClash 37 rfl) rfl ?_
      refine gf_X10_34 C (sh_41 hF1) (d_of DX10_doClash 38 rfl) (fx_41_9 hF1) ?_
      refine s_iload_n C (d_of DX10_doClash 39 rfl) rfl ?_
      refine s_iald (v0 := (M 50 l2)) C (sh_50 hF1) o4 o5 (d_of DX10_doClash 40 rfl) rfl ?_
      obtain ⟨o8, h⟩ := h
      refine s_isub C (d_of DX10_doClash 41 rfl) o8 ?_
      refine s_istore (ls' := [(2, 41), (0, l1), (0, l2), (0, 0), (0, (9 - (M 50 l2))), (3, 0)]) C (d_of DX10_doClash 42 rfl) (by decide) rfl rfl ?_
      refine s_iload_n C (d_of DX10_doClash 43 rfl) rfl ?_
      refine s_ifeq C (d_of DX10_doClash 44 rfl) rfl (fun hc => ?_) (fun hc => absurd (by decide) hc)
      refine s_bipush C (d_of DX10_doClash 50 rfl) ⟨rfl, by decide, by decide⟩ ?_
      refine s_aload_n C (d_of DX10_doClash 51 rfl) rfl ?_
      refine gf_X10_31 C (sh_41 hF1) (d_of DX10_doClash 52 rfl) (fx_41_8 hF1) ?_
      refine s_iload_n C (d_of DX10_doClash 53 rfl) rfl ?_
      refine s_iald (v0 := (M 49 l2)) C (sh_49 hF1) o4 o5 (d_of DX10_doClash 54 rfl) rfl ?_
      obtain ⟨o9, h⟩ := h
      refine s_isub C (d_of DX10_doClash 55 rfl) o9 ?_
      refine s_istore (ls' := [(2, 41), (0, l1), (0, l2), (0, 0), (0, (9 - (M 50 l2))), (0, (9 - (M 49 l2)))]) C (d_of DX10_doClash 56 rfl) (by decide) rfl rfl ?_
      refine s_aload_n C (d_of DX10_doClash 57 rfl) rfl ?_
      refine gf_X10_25 C (sh_41 hF1) (d_of DX10_doClash 58 rfl) (fx_41_6 hF1) ?_
      refine s_iload_n C (d_of DX10_doClash 59 rfl) rfl ?_
      refine s_iald (v0 := (M 47 l1)) C (sh_47 hF1) o2 o3 (d_of DX10_doClash 60 rfl) rfl ?_
      refine s_aload_n C (d_of DX10_doClash 61 rfl) rfl ?_
      refine gf_X10_28 C (sh_41 hF1) (d_of DX10_doClash 62 rfl) (fx_41_7 hF1) ?_
      refine s_iload_n C (d_of DX10_doClash 63 rfl) rfl ?_
      refine s_iald (v0 := (M 48 l2)) C (sh_48 hF1) o4 o5 (d_of DX10_doClash 64 rfl) rfl ?_
      refine s_icmpgt C (d_of DX10_doClash 65 rfl) rfl (fun hc => ?_) (fun hc => ?_)
      · have h := h.1 hc
        refine s_iconst C (d_of DX10_doClash 89 rfl) (by decide) ?_
        exact s_zreturn C (d_of DX10_doClash 90 rfl) (by decide) h
      · have h := h.2 hc
        refine s_aload_n C (d_of DX10_doClash 66 rfl) rfl ?_
        refine gf_X10_25 C (sh_41 hF1) (d_of DX10_doClash 67 rfl) (fx_41_6 hF1) ?_
        refine s_iload_n C (d_of DX10_doClash 68 rfl) rfl ?_
        refine s_iald (v0 := (M 47 l2)) C (sh_47 hF1) o4 o5 (d_of DX10_doClash 69 rfl) rfl ?_
        refine s_aload_n C (d_of DX10_doClash 70 rfl) rfl ?_
        refine gf_X10_28 C (sh_41 hF1) (d_of DX10_doClash 71 rfl) (fx_41_7 hF1) ?_
        refine s_iload_n C (d_of DX10_doClash 72 rfl) rfl ?_
        refine s_iald (v0 := (M 48 l1)) C (sh_48 hF1) o2 o3 (d_of DX10_doClash 73 rfl) rfl ?_
        refine s_icmpgt C (d_of DX10_doClash 74 rfl) rfl (fun hc => ?_) (fun hc => ?_)
        · have h := h.1 hc
          refine s_iconst C (d_of DX10_doClash 89 rfl) (by decide) ?_
          exact s_zreturn C (d_of DX10_doClash 90 rfl) (by decide) h
        · have h := h.2 hc
          refine s_aload_n C (d_of DX10_doClash 75 rfl) rfl ?_
          refine gf_X10_31 C (sh_41 hF1) (d_of DX10_doClash 76 rfl) (fx_41_8 hF1) ?_
          refine s_iload_n C (d_of DX10_doClash 77 rfl) rfl ?_
          refine s_iald (v0 := (M 49 l1)) C (sh_49 hF1) o2 o3 (d_of DX10_doClash 78 rfl) rfl ?_
          refine s_iload C (d_of DX10_doClash 79 rfl) rfl ?_
          refine s_icmpgt C (d_of DX10_doClash 80 rfl) rfl (fun hc => ?_) (fun hc => ?_)
          · have h := h.1 hc
            refine s_iconst C (d_of DX10_doClash 89 rfl) (by decide) ?_
            exact s_zreturn C (d_of DX10_doClash 90 rfl) (by decide) h
          · have h := h.2 hc
            refine s_iload C (d_of DX10_doClash 81 rfl) rfl ?_
            refine s_aload_n C (d_of DX10_doClash 82 rfl) rfl ?_
            refine gf_X10_34 C (sh_41 hF1) (d_of DX10_doClash 83 rfl) (fx_41_9 hF1) ?_
            refine s_iload_n C (d_of DX10_doClash 84 rfl) rfl ?_
            refine s_iald (v0 := (M 50 l1)) C (sh_50 hF1) o2 o3 (d_of DX10_doClash 85 rfl) rfl ?_
            refine s_icmpgt C (d_of DX10_doClash 86 rfl) rfl (fun hc => ?_) (fun hc => ?_)
            · have h := h.1 hc
              refine s_iconst C (d_of DX10_doClash 89 rfl) (by decide) ?_
              exact s_zreturn C (d_of DX10_doClash 90 rfl) (by decide) h
            · have h := h.2 hc
              refine s_iconst C (d_of DX10_doClash 87 rfl) (by decide) ?_
              refine s_goto C (d_of DX10_doClash 88 rfl) rfl ?_
              exact s_zreturn C (d_of DX10_doClash 90 rfl) (by decide) h
    · have h := h.2 hc
      refine s_iconst C (d_of DX10_doClash 27 rfl) (by decide) ?_
      exact s_zreturn C (d_of DX10_doClash 28 rfl) (by decide) h
  · have h := h.2 hc
    refine s_iconst C (d_of DX10_doClash 9 rfl) (by decide) ?_
    refine s_goto C (d_of DX10_doClash 10 rfl) rfl ?_
    refine s_istore_n (ls' := [(2, 41), (0, l1), (0, l2), (0, 1), (3, 0), (3, 0)]) C (d_of DX10_doClash 12 rfl) (by decide) rfl rfl ?_
    refine s_iload_n C (d_of DX10_doClash 13 rfl) rfl ?_
    refine s_ifne C (d_of DX10_doClash 14 rfl) rfl (fun hc => ?_) (fun hc => absurd (by decide) hc)
    refine s_iload_n C (d_of DX10_doClash 29 rfl) rfl ?_
    refine s_ifeq C (d_of DX10_doClash 30 rfl) rfl (fun hc => absurd hc (by decide)) (fun hc => ?_)
    refine s_aload_n C (d_of DX10_doClash 31 rfl) rfl ?_
    refine gf_X10_31 C (sh_41 hF1) (d_of DX10_doClash 32 rfl) (fx_41_8 hF1) ?_
    refine s_iload_n C (d_of DX10_doClash 33 rfl) rfl ?_
    refine s_iald (v0 := (M 49 l2)) C (sh_49 hF1) o4 o5 (d_of DX10_doClash 34 rfl) rfl ?_
    refine s_goto C (d_of DX10_doClash 35 rfl) rfl ?_
    refine s_istore (ls' := [(2, 41), (0, l1), (0, l2), (0, 1), (0, (M 49 l2)), (3, 0)]) C (d_of DX10_doClash 42 rfl) (by decide) rfl rfl ?_
    refine s_iload_n C (d_of DX10_doClash 43 rfl) rfl ?_
    refine s_ifeq C (d_of DX10_doClash 44 rfl) rfl (fun hc => absurd hc (by decide)) (fun hc => ?_)
    refine s_aload_n C (d_of DX10_doClash 45 rfl) rfl ?_
    refine gf_X10_34 C (sh_41 hF1) (d_of DX10_doClash 46 rfl) (fx_41_9 hF1) ?_
    refine s_iload_n C (d_of DX10_doClash 47 rfl) rfl ?_
    refine s_iald (v0 := (M 50 l2)) C (sh_50 hF1) o4 o5 (d_of DX10_doClash 48 rfl) rfl ?_
    refine s_goto C (d_of DX10_doClash 49 rfl) rfl ?_
    refine s_istore (ls' := [(2, 41), (0, l1), (0, l2), (0, 1), (0, (M 49 l2)), (0, (M 50 l2))]) C (d_of DX10_doClash 56 rfl) (by decide) rfl rfl ?_
    refine s_aload_n C (d_of DX10_doClash 57 rfl) rfl ?_
    refine gf_X10_25 C (sh_41 hF1) (d_of DX10_doClash 58 rfl) (fx_41_6 hF1) ?_
    refine s_iload_n C (d_of DX10_doClash 59 rfl) rfl ?_
    refine s_iald (v0 := (M 47 l1)) C (sh_47 hF1) o2 o3 (d_of DX10_doClash 60 rfl) rfl ?_
    refine s_aload_n C (d_of DX10_doClash 61 rfl) rfl ?_
    refine gf_X10_28 C (sh_41 hF1) (d_of DX10_doClash 62 rfl) (fx_41_7 hF1) ?_
    refine s_iload_n C (d_of DX10_doClash 63 rfl) rfl ?_
    refine s_iald (v0 := (M 48 l2)) C (sh_48 hF1) o4 o5 (d_of DX10_doClash 64 rfl) rfl ?_
    refine s_icmpgt C (d_of DX10_doClash 65 rfl) rfl (fun hc => ?_) (fun hc => ?_)
    · have h := h.1 hc
      refine s_iconst C (d_of DX10_doClash 89 rfl) (by decide) ?_
      exact s_zreturn C (d_of DX10_doClash 90 rfl) (by decide) h
    · have h := h.2 hc
      refine s_aload_n C (d_of DX10_doClash 66 rfl) rfl ?_
      refine gf_X10_25 C (sh_41 hF1) (d_of DX10_doClash 67 rfl) (fx_41_6 hF1) ?_
      refine s_iload_n C (d_of DX10_doClash 68 rfl) rfl ?_
      refine s_iald (v0 := (M 47 l2)) C (sh_47 hF1) o4 o5 (d_of DX10_doClash 69 rfl) rfl ?_
      refine s_aload_n C (d_of DX10_doClash 70 rfl) rfl ?_
      refine gf_X10_28 C (sh_41 hF1) (d_of DX10_doClash 71 rfl) (fx_41_7 hF1) ?_
      refine s_iload_n C (d_of DX10_doClash 72 rfl) rfl ?_
      refine s_iald (v0 := (M 48 l1)) C (sh_48 hF1) o2 o3 (d_of DX10_doClash 73 rfl) rfl ?_
      refine s_icmpgt C (d_of DX10_doClash 74 rfl) rfl (fun hc => ?_) (fun hc => ?_)
      · have h := h.1 hc
        refine s_iconst C (d_of DX10_doClash 89 rfl) (by decide) ?_
        exact s_zreturn C (d_of DX10_doClash 90 rfl) (by decide) h
      · have h := h.2 hc
        refine s_aload_n C (d_of DX10_doClash 75 rfl) rfl ?_
        refine gf_X10_31 C (sh_41 hF1) (d_of DX10_doClash 76 rfl) (fx_41_8 hF1) ?_
        refine s_iload_n C (d_of DX10_doClash 77 rfl) rfl ?_
        refine s_iald (v0 := (M 49 l1)) C (sh_49 hF1) o2 o3 (d_of DX10_doClash 78 rfl) rfl ?_
        refine s_iload C (d_of DX10_doClash 79 rfl) rfl ?_
        refine s_icmpgt C (d_of DX10_doClash 80 rfl) rfl (fun hc => ?_) (fun hc => ?_)
        · have h := h.1 hc
          refine s_iconst C (d_of DX10_doClash 89 rfl) (by decide) ?_
          exact s_zreturn C (d_of DX10_doClash 90 rfl) (by decide) h
        · have h := h.2 hc
          refine s_iload C (d_of DX10_doClash 81 rfl) rfl ?_
          refine s_aload_n C (d_of DX10_doClash 82 rfl) rfl ?_
          refine gf_X10_34 C (sh_41 hF1) (d_of DX10_doClash 83 rfl) (fx_41_9 hF1) ?_
          refine s_iload_n C (d_of DX10_doClash 84 rfl) rfl ?_
          refine s_iald (v0 := (M 50 l1)) C (sh_50 hF1) o2 o3 (d_of DX10_doClash 85 rfl) rfl ?_
          refine s_icmpgt C (d_of DX10_doClash 86 rfl) rfl (fun hc => ?_) (fun hc => ?_)
          · have h := h.1 hc
            refine s_iconst C (d_of DX10_doClash 89 rfl) (by decide) ?_
            exact s_zreturn C (d_of DX10_doClash 90 rfl) (by decide) h
          · have h := h.2 hc
            refine s_iconst C (d_of DX10_doClash 87 rfl) (by decide) ?_
            refine s_goto C (d_of DX10_doClash 88 rfl) rfl ?_
            exact s_zreturn C (d_of DX10_doClash 90 rfl) (by decide) h
theorem E_X10_doClash {G : GP} {l : Launch} {P : Int → NS → MM → Prop} {l1 : Int} {l2 : Int} {w : NS} {M : MM} (h : inR l1 → inR l2 → ∀ X : BX, X.2.1 = l → CX_X10_doClash G X → A_X10_doClash_0 G X P l1 l2 w M) : CT_X10_doClash G l [(2, 41), (0, l1), (0, l2)] w M P :=
  CT.of RX10 "doClash" (by decide +kernel) rfl rfl rfl (Nat.le_of_ble_eq_true rfl) (fun hr X hX C => h (hr (0, l1) (by simp)) (hr (0, l2) (by simp)) X hX C)
def A_X10_clash_0 (G : GP) (X : BX) (P : Int → NS → MM → Prop) (l1 : Int) (l2 : Int) (w : NS) (M : MM) : Prop := WA true G X (QM G X true 0 P) 3 0 [(2, 41), (0, l1), (0, l2)] [] 0 0 w M
set_option maxHeartbeats 4000000 in
set_option maxRecDepth 100000 in
theorem B_X10_clash_0 {G : GP} {X : BX} {P : Int → NS → MM → Prop} {l1 : Int} {l2 : Int} {w : NS} {M : MM} (C : CX_X10_clash G X) (h : (0 ≤ M 41 12) ∧ (((¬ (0 ≤ l1 ∧ l1 < M 41 12)) → P (-1) w M) ∧ (((0 ≤ l1 ∧ l1 < M 41 12)) → (((¬ (0 ≤ l2 ∧ l2 < M 41 12)) → P (-1) w M) ∧ (((0 ≤ l2 ∧ l2 < M 41 12)) → ∃ Q5 : Int → NS → MM → Prop, CT_X10_doClash G X.2.1 [(2, 41), (0, l1), (0, l2)] w M Q5 ∧ ∀ (z5 : Int) (w5 : NS) (M5 : MM), Q5 z5 w5 M5 → (((z5 = 0) → P 0 w5 M5) ∧ ((¬ (z5 = 0)) → P 1 w5 M5))))))) : A_X10_clash_0 G X P l1 l2 w M := by
  unfold A_X10_clash_0
  refine s_aload_n C (d_of DX10_clash 0 rfl) rfl ?_
  refine s_iload_n C (d_of DX10_clash 1 rfl) rfl ?_
  refine WA.fix (fun hF1 => ?_)
  obtain ⟨o2, h⟩ := h
  refine s_callV (ci := 10) (av := [(0, l1)]) (rest := []) (mc := 0) (ms := 0) C (d_of DX10_clash 2 rfl) lk_X10_186 (sh_41 hF1) (by decide) rfl rfl rfl (Nat.le_of_ble_eq_true rfl) (by decide) (by decide) (pc_X10_isPiece o2) (fun z3 wz3 Mz3 hq => ?_)
  obtain ⟨hq1, hq2, hq3⟩ := hq
  have hq2 := hq2.symm
  have hq3 := hq3.symm
  subst hq1 hq2 hq3
  refine s_ifeq C (d_of DX10_clash 3 rfl) rfl (fun hc => ?_) (fun hc => ?_)
  · have h := h.1 (b2i_0.mp hc)
    refine s_iconst C (d_of DX10_clash 17 rfl) (by decide) ?_
    exact s_ireturn C (d_of DX10_clash 18 rfl) h
  · have h := h.2 (b2i_n0 hc)
    refine s_aload_n C (d_of DX10_clash 4 rfl) rfl ?_
    refine s_iload_n C (d_of DX10_clash 5 rfl) rfl ?_
    refine s_callV (ci := 10) (av := [(0, l2)]) (rest := []) (mc := 0) (ms := 0) C (d_of DX10_clash 6 rfl) lk_X10_186 (sh_41 hF1) (by decide) rfl rfl rfl (Nat.le_of_ble_eq_true rfl) (by decide) (by decide) (pc_X10_isPiece o2) (fun z4 wz4 Mz4 hq => ?_)
    obtain ⟨hq1, hq2, hq3⟩ := hq
    have hq2 := hq2.symm
    have hq3 := hq3.symm
    subst hq1 hq2 hq3
    refine s_ifeq C (d_of DX10_clash 7 rfl) rfl (fun hc => ?_) (fun hc => ?_)
    · have h := h.1 (b2i_0.mp hc)
      refine s_iconst C (d_of DX10_clash 17 rfl) (by decide) ?_
      exact s_ireturn C (d_of DX10_clash 18 rfl) h
    · have h := h.2 (b2i_n0 hc)
      refine s_aload_n C (d_of DX10_clash 8 rfl) rfl ?_
      refine s_iload_n C (d_of DX10_clash 9 rfl) rfl ?_
      refine s_iload_n C (d_of DX10_clash 10 rfl) rfl ?_
      obtain ⟨Q5, hKQ5, h⟩ := h
      refine s_callV (ci := 10) (av := [(0, l1), (0, l2)]) (rest := []) (mc := 0) (ms := 0) C (d_of DX10_clash 11 rfl) lk_X10_197 (sh_41 hF1) (by decide) rfl rfl rfl (Nat.le_of_ble_eq_true rfl) (by decide) (by decide) hKQ5 (fun z5 w5 M5 hq => ?_)
      have h := h z5 w5 M5 hq
      refine s_ifeq C (d_of DX10_clash 12 rfl) rfl (fun hc => ?_) (fun hc => ?_)
      · have h := h.1 hc
        refine s_iconst C (d_of DX10_clash 15 rfl) (by decide) ?_
        refine s_goto C (d_of DX10_clash 16 rfl) rfl ?_
        exact s_ireturn C (d_of DX10_clash 18 rfl) h
      · have h := h.2 hc
        refine s_iconst C (d_of DX10_clash 13 rfl) (by decide) ?_
        refine s_goto C (d_of DX10_clash 14 rfl) rfl ?_
        exact s_ireturn C (d_of DX10_clash 18 rfl) h
theorem E_X10_clash {G : GP} {l : Launch} {P : Int → NS → MM → Prop} {l1 : Int} {l2 : Int} {w : NS} {M : MM} (h : inR l1 → inR l2 → ∀ X : BX, X.2.1 = l → CX_X10_clash G X → A_X10_clash_0 G X P l1 l2 w M) : CT_X10_clash G l [(2, 41), (0, l1), (0, l2)] w M P :=
  CT.of RX10 "clash" (by decide +kernel) rfl rfl rfl (Nat.le_of_ble_eq_true rfl) (fun hr X hX C => h (hr (0, l1) (by simp)) (hr (0, l2) (by simp)) X hX C)
def A_X10_say_0 (G : GP) (X : BX) (P : Int → NS → MM → Prop) (l1 : Int) (w : NS) (M : MM) : Prop := WA true G X (QM G X true 0 P) 2 0 [(2, 41), (0, l1)] [] 0 0 w M
set_option maxHeartbeats 4000000 in
set_option maxRecDepth 100000 in
theorem B_X10_say_0 {G : GP} {X : BX} {P : Int → NS → MM → Prop} {l1 : Int} {w : NS} {M : MM} (C : CX_X10_say G X) (h : ((((33 ≤ l1 ∧ l1 ≤ 126)) → ((((M 57 10) ≠ 40) → (inR (400 + (M 57 10))) ∧ (0 ≤ (400 + (M 57 10))) ∧ ((400 + (M 57 10)) < 440) ∧ (inR ((M 57 10) + 1)) ∧ P ((M 57 10) + 1) w (up (up M 56 (400 + (M 57 10)) l1) 57 10 ((M 57 10) + 1))) ∧ ((¬ ((M 57 10) ≠ 40)) → P (-4) w M))) ∧ ((¬ (33 ≤ l1 ∧ l1 ≤ 126)) → P (-2) w M))) : A_X10_say_0 G X P l1 w M := by
  unfold A_X10_say_0
  refine s_iload_n C (d_of DX10_say 0 rfl) rfl ?_
  refine s_i2l C (d_of DX10_say 1 rfl) ?_
  refine s_ldc2 (z := 33) C (d_of DX10_say 2 rfl) (mG (wd_1022) rfl) ⟨rfl, by decide⟩ ?_
  refine s_ldc2 (z := 126) C (d_of DX10_say 3 rfl) (mG (wd_1023) rfl) ⟨rfl, by decide⟩ ?_
  refine s_callS (av := [(1, l1), (1, 33), (1, 126)]) (rest := []) (mc := 0) (ms := 0) C (d_of DX10_say 4 rfl) lk_X10_139 rfl rfl (Nat.le_of_ble_eq_true rfl) (by decide) (by decide) (pc_X10_in) (fun z1 wz1 Mz1 hq => ?_)
  obtain ⟨hq1, hq2, hq3⟩ := hq
  have hq2 := hq2.symm
  have hq3 := hq3.symm
  subst hq1 hq2 hq3
  refine s_ifne C (d_of DX10_say 5 rfl) rfl (fun hc => ?_) (fun hc => ?_)
  · have h := h.1 (b2i_n0 hc)
    refine s_aload_n C (d_of DX10_say 8 rfl) rfl ?_
    refine WA.fix (fun hF2 => ?_)
    refine gf_X10_55 C (sh_41 hF2) (d_of DX10_say 9 rfl) (fx_41_19 hF2) ?_
    refine s_bipush C (d_of DX10_say 10 rfl) ⟨rfl, by decide, by decide⟩ ?_
    refine s_iald (v0 := (M 57 10)) C (sh_57 hF2) (by decide) (by decide) (d_of DX10_say 11 rfl) rfl ?_
    refine s_bipush C (d_of DX10_say 12 rfl) ⟨rfl, by decide, by decide⟩ ?_
    refine s_icmpne C (d_of DX10_say 13 rfl) rfl (fun hc => ?_) (fun hc => ?_)
    · have h := h.1 hc
      refine s_aload_n C (d_of DX10_say 16 rfl) rfl ?_
      refine gf_X10_52 C (sh_41 hF2) (d_of DX10_say 17 rfl) (fx_41_18 hF2) ?_
      refine s_sipush C (d_of DX10_say 18 rfl) ⟨rfl, by decide, by decide⟩ ?_
      refine s_aload_n C (d_of DX10_say 19 rfl) rfl ?_
      refine gf_X10_55 C (sh_41 hF2) (d_of DX10_say 20 rfl) (fx_41_19 hF2) ?_
      refine s_bipush C (d_of DX10_say 21 rfl) ⟨rfl, by decide, by decide⟩ ?_
      refine s_iald (v0 := (M 57 10)) C (sh_57 hF2) (by decide) (by decide) (d_of DX10_say 22 rfl) rfl ?_
      obtain ⟨o3, h⟩ := h
      refine s_iadd C (d_of DX10_say 23 rfl) o3 ?_
      refine s_iload_n C (d_of DX10_say 24 rfl) rfl ?_
      obtain ⟨o4, h⟩ := h
      obtain ⟨o5, h⟩ := h
      refine s_iast C (sh_56 hF2) o4 o5 (fun _ => by decide) (d_of DX10_say 25 rfl) ?_
      refine s_aload_n C (d_of DX10_say 26 rfl) rfl ?_
      refine WA.fix (fun hF6 => ?_)
      refine gf_X10_55 C (sh_41 hF2) (d_of DX10_say 27 rfl) (fx_41_19 hF6) ?_
      refine s_bipush C (d_of DX10_say 28 rfl) ⟨rfl, by decide, by decide⟩ ?_
      refine s_dup2 C (by simp) (by simp) (d_of DX10_say 29 rfl) ?_
      refine s_iald (v0 := (M 57 10)) C (sh_57 hF2) (by decide) (by decide) (d_of DX10_say 30 rfl) (up_na (by decide)) ?_
      refine s_iconst C (d_of DX10_say 31 rfl) (by decide) ?_
      obtain ⟨o7, h⟩ := h
      refine s_iadd C (d_of DX10_say 32 rfl) o7 ?_
      refine s_iast C (sh_57 hF2) (by decide) (by decide) (fun _ => by decide) (d_of DX10_say 33 rfl) ?_
      refine s_aload_n C (d_of DX10_say 34 rfl) rfl ?_
      refine WA.fix (fun hF8 => ?_)
      refine gf_X10_55 C (sh_41 hF2) (d_of DX10_say 35 rfl) (fx_41_19 hF8) ?_
      refine s_bipush C (d_of DX10_say 36 rfl) ⟨rfl, by decide, by decide⟩ ?_
      refine s_iald (v0 := ((M 57 10) + 1)) C (sh_57 hF2) (by decide) (by decide) (d_of DX10_say 37 rfl) (up_eq) ?_
      exact s_ireturn C (d_of DX10_say 38 rfl) h
    · have h := h.2 hc
      refine s_bipush C (d_of DX10_say 14 rfl) ⟨rfl, by decide, by decide⟩ ?_
      exact s_ireturn C (d_of DX10_say 15 rfl) h
  · have h := h.2 (b2i_nn hc)
    refine s_bipush C (d_of DX10_say 6 rfl) ⟨rfl, by decide, by decide⟩ ?_
    exact s_ireturn C (d_of DX10_say 7 rfl) h
theorem E_X10_say {G : GP} {l : Launch} {P : Int → NS → MM → Prop} {l1 : Int} {w : NS} {M : MM} (h : inR l1 → ∀ X : BX, X.2.1 = l → CX_X10_say G X → A_X10_say_0 G X P l1 w M) : CT_X10_say G l [(2, 41), (0, l1)] w M P :=
  CT.of RX10 "say" (by decide +kernel) rfl rfl rfl (Nat.le_of_ble_eq_true rfl) (fun hr X hX C => h (hr (0, l1) (by simp)) X hX C)
def A_X10_wipe_0 (G : GP) (X : BX) (P : Int → NS → MM → Prop) (w : NS) (M : MM) : Prop := WA true G X (QM G X true 0 P) 2 0 [(2, 41), (3, 0)] [] 0 0 w M
set_option maxHeartbeats 4000000 in
set_option maxRecDepth 100000 in
theorem B_X10_wipe_0 {G : GP} {X : BX} {P : Int → NS → MM → Prop} {w : NS} {M : MM} (C : CX_X10_wipe G X) (h : P (M 57 10) w (up M 57 10 0)) : A_X10_wipe_0 G X P w M := by
  unfold A_X10_wipe_0
  refine s_aload_n C (d_of DX10_wipe 0 rfl) rfl ?_
  refine WA.fix (fun hF1 => ?_)
  refine gf_X10_55 C (sh_41 hF1) (d_of DX10_wipe 1 rfl) (fx_41_19 hF1) ?_
  refine s_bipush C (d_of DX10_wipe 2 rfl) ⟨rfl, by decide, by decide⟩ ?_
  refine s_iald (v0 := (M 57 10)) C (sh_57 hF1) (by decide) (by decide) (d_of DX10_wipe 3 rfl) rfl ?_
  refine s_istore_n (ls' := [(2, 41), (0, (M 57 10))]) C (d_of DX10_wipe 4 rfl) (by decide) rfl rfl ?_
  refine s_aload_n C (d_of DX10_wipe 5 rfl) rfl ?_
  refine gf_X10_55 C (sh_41 hF1) (d_of DX10_wipe 6 rfl) (fx_41_19 hF1) ?_
  refine s_bipush C (d_of DX10_wipe 7 rfl) ⟨rfl, by decide, by decide⟩ ?_
  refine s_iconst C (d_of DX10_wipe 8 rfl) (by decide) ?_
  refine s_iast C (sh_57 hF1) (by decide) (by decide) (fun _ => by decide) (d_of DX10_wipe 9 rfl) ?_
  refine s_iload_n C (d_of DX10_wipe 10 rfl) rfl ?_
  exact s_ireturn C (d_of DX10_wipe 11 rfl) h
theorem E_X10_wipe {G : GP} {l : Launch} {P : Int → NS → MM → Prop} {w : NS} {M : MM} (h : ∀ X : BX, X.2.1 = l → CX_X10_wipe G X → A_X10_wipe_0 G X P w M) : CT_X10_wipe G l [(2, 41)] w M P :=
  CT.of RX10 "wipe" (by decide +kernel) rfl rfl rfl (Nat.le_of_ble_eq_true rfl) (fun hr X hX C => h  X hX C)
def A_X10_stepOf_0 (G : GP) (X : BX) (P : Int → NS → MM → Prop) (l0 : Int) (l1 : Int) (l2 : Int) (w : NS) (M : MM) : Prop := WA true G X (QM G X true 0 P) 4 0 [(0, l0), (0, l1), (0, l2), (3, 0)] [] 0 0 w M
set_option maxHeartbeats 4000000 in
set_option maxRecDepth 100000 in
theorem B_X10_stepOf_0 {G : GP} {X : BX} {P : Int → NS → MM → Prop} {l0 : Int} {l1 : Int} {l2 : Int} {w : NS} {M : MM} (C : CX_X10_stepOf G X) (h : (((l0 < 0 ∨ 6 < l0) → (((¬ (48 ≤ l1 ∧ l1 ≤ 57)) → (((3 ≤ l0) → (((l1 = 38) → P 0 w M) ∧ ((¬ (l1 = 38)) → (((l1 ≠ 124) → (((l1 ≠ 41) → P (-1) w M) ∧ ((¬ (l1 ≠ 41)) → (((l2 ≤ 0) → P (-1) w M) ∧ ((¬ (l2 ≤ 0)) → P 8 w M))))) ∧ ((¬ (l1 ≠ 124)) → P 0 w M))))) ∧ ((¬ (3 ≤ l0)) → (((l1 = 126) → (((l1 ≠ 126) → P 5 w M) ∧ ((¬ (l1 ≠ 126)) → P 3 w M))) ∧ ((¬ (l1 = 126)) → (((l1 ≠ 62) → (((l1 = 38) → P 0 w M) ∧ ((¬ (l1 = 38)) → (((l1 ≠ 124) → (((l1 ≠ 41) → P (-1) w M) ∧ ((¬ (l1 ≠ 41)) → (((l2 ≤ 0) → P (-1) w M) ∧ ((¬ (l2 ≤ 0)) → P 8 w M))))) ∧ ((¬ (l1 ≠ 124)) → P 0 w M))))) ∧ ((¬ (l1 ≠ 62)) → (((l1 ≠ 126) → P 5 w M) ∧ ((¬ (l1 ≠ 126)) → P 3 w M))))))))) ∧ (((48 ≤ l1 ∧ l1 ≤ 57)) → (((l0 = 1) → (((l0 ≠ 1) → P 8 w M) ∧ ((¬ (l0 ≠ 1)) → P 2 w M))) ∧ ((¬ (l0 = 1)) → (((l0 ≠ 7) → (((3 ≤ l0) → (((l1 = 38) → P 0 w M) ∧ ((¬ (l1 = 38)) → (((l1 ≠ 124) → (((l1 ≠ 41) → P (-1) w M) ∧ ((¬ (l1 ≠ 41)) → (((l2 ≤ 0) → P (-1) w M) ∧ ((¬ (l2 ≤ 0)) → P 8 w M))))) ∧ ((¬ (l1 ≠ 124)) → P 0 w M))))) ∧ ((¬ (3 ≤ l0)) → (((l1 = 126) → (((l1 ≠ 126) → P 5 w M) ∧ ((¬ (l1 ≠ 126)) → P 3 w M))) ∧ ((¬ (l1 = 126)) → (((l1 ≠ 62) → (((l1 = 38) → P 0 w M) ∧ ((¬ (l1 = 38)) → (((l1 ≠ 124) → (((l1 ≠ 41) → P (-1) w M) ∧ ((¬ (l1 ≠ 41)) → (((l2 ≤ 0) → P (-1) w M) ∧ ((¬ (l2 ≤ 0)) → P 8 w M))))) ∧ ((¬ (l1 ≠ 124)) → P 0 w M))))) ∧ ((¬ (l1 ≠ 62)) → (((l1 ≠ 126) → P 5 w M) ∧ ((¬ (l1 ≠ 126)) → P 3 w M))))))))) ∧ ((¬ (l0 ≠ 7)) → (((l0 ≠ 1) → P 8 w M) ∧ ((¬ (l0 ≠ 1)) → P 2 w M))))))))) ∧ (l0 = 0 → (((¬ (48 ≤ l1 ∧ l1 ≤ 57)) → (((l1 = 33) → P 0 w M) ∧ ((¬ (l1 = 33)) → (((l1 ≠ 40) → P (-1) w M) ∧ ((¬ (l1 ≠ 40)) → (((8 ≤ l2) → P (-1) w M) ∧ ((¬ (8 ≤ l2)) → P 0 w M))))))) ∧ (((48 ≤ l1 ∧ l1 ≤ 57)) → P 1 w M))) ∧ (l0 = 1 → (((¬ (48 ≤ l1 ∧ l1 ≤ 57)) → (((3 ≤ l0) → (((l1 = 38) → P 0 w M) ∧ ((¬ (l1 = 38)) → (((l1 ≠ 124) → (((l1 ≠ 41) → P (-1) w M) ∧ ((¬ (l1 ≠ 41)) → (((l2 ≤ 0) → P (-1) w M) ∧ ((¬ (l2 ≤ 0)) → P 8 w M))))) ∧ ((¬ (l1 ≠ 124)) → P 0 w M))))) ∧ ((¬ (3 ≤ l0)) → (((l1 = 126) → (((l1 ≠ 126) → P 5 w M) ∧ ((¬ (l1 ≠ 126)) → P 3 w M))) ∧ ((¬ (l1 = 126)) → (((l1 ≠ 62) → (((l1 = 38) → P 0 w M) ∧ ((¬ (l1 = 38)) → (((l1 ≠ 124) → (((l1 ≠ 41) → P (-1) w M) ∧ ((¬ (l1 ≠ 41)) → (((l2 ≤ 0) → P (-1) w M) ∧ ((¬ (l2 ≤ 0)) → P 8 w M))))) ∧ ((¬ (l1 ≠ 124)) → P 0 w M))))) ∧ ((¬ (l1 ≠ 62)) → (((l1 ≠ 126) → P 5 w M) ∧ ((¬ (l1 ≠ 126)) → P 3 w M))))))))) ∧ (((48 ≤ l1 ∧ l1 ≤ 57)) → (((l0 = 1) → (((l0 ≠ 1) → P 8 w M) ∧ ((¬ (l0 ≠ 1)) → P 2 w M))) ∧ ((¬ (l0 = 1)) → (((l0 ≠ 7) → (((3 ≤ l0) → (((l1 = 38) → P 0 w M) ∧ ((¬ (l1 = 38)) → (((l1 ≠ 124) → (((l1 ≠ 41) → P (-1) w M) ∧ ((¬ (l1 ≠ 41)) → (((l2 ≤ 0) → P (-1) w M) ∧ ((¬ (l2 ≤ 0)) → P 8 w M))))) ∧ ((¬ (l1 ≠ 124)) → P 0 w M))))) ∧ ((¬ (3 ≤ l0)) → (((l1 = 126) → (((l1 ≠ 126) → P 5 w M) ∧ ((¬ (l1 ≠ 126)) → P 3 w M))) ∧ ((¬ (l1 = 126)) → (((l1 ≠ 62) → (((l1 = 38) → P 0 w M) ∧ ((¬ (l1 = 38)) → (((l1 ≠ 124) → (((l1 ≠ 41) → P (-1) w M) ∧ ((¬ (l1 ≠ 41)) → (((l2 ≤ 0) → P (-1) w M) ∧ ((¬ (l2 ≤ 0)) → P 8 w M))))) ∧ ((¬ (l1 ≠ 124)) → P 0 w M))))) ∧ ((¬ (l1 ≠ 62)) → (((l1 ≠ 126) → P 5 w M) ∧ ((¬ (l1 ≠ 126)) → P 3 w M))))))))) ∧ ((¬ (l0 ≠ 7)) → (((l0 ≠ 1) → P 8 w M) ∧ ((¬ (l0 ≠ 1)) → P 2 w M))))))))) ∧ (l0 = 2 → (((¬ (48 ≤ l1 ∧ l1 ≤ 57)) → (((3 ≤ l0) → (((l1 = 38) → P 0 w M) ∧ ((¬ (l1 = 38)) → (((l1 ≠ 124) → (((l1 ≠ 41) → P (-1) w M) ∧ ((¬ (l1 ≠ 41)) → (((l2 ≤ 0) → P (-1) w M) ∧ ((¬ (l2 ≤ 0)) → P 8 w M))))) ∧ ((¬ (l1 ≠ 124)) → P 0 w M))))) ∧ ((¬ (3 ≤ l0)) → (((l1 = 126) → (((l1 ≠ 126) → P 5 w M) ∧ ((¬ (l1 ≠ 126)) → P 3 w M))) ∧ ((¬ (l1 = 126)) → (((l1 ≠ 62) → (((l1 = 38) → P 0 w M) ∧ ((¬ (l1 = 38)) → (((l1 ≠ 124) → (((l1 ≠ 41) → P (-1) w M) ∧ ((¬ (l1 ≠ 41)) → (((l2 ≤ 0) → P (-1) w M) ∧ ((¬ (l2 ≤ 0)) → P 8 w M))))) ∧ ((¬ (l1 ≠ 124)) → P 0 w M))))) ∧ ((¬ (l1 ≠ 62)) → (((l1 ≠ 126) → P 5 w M) ∧ ((¬ (l1 ≠ 126)) → P 3 w M))))))))) ∧ (((48 ≤ l1 ∧ l1 ≤ 57)) → (((l0 = 1) → (((l0 ≠ 1) → P 8 w M) ∧ ((¬ (l0 ≠ 1)) → P 2 w M))) ∧ ((¬ (l0 = 1)) → (((l0 ≠ 7) → (((3 ≤ l0) → (((l1 = 38) → P 0 w M) ∧ ((¬ (l1 = 38)) → (((l1 ≠ 124) → (((l1 ≠ 41) → P (-1) w M) ∧ ((¬ (l1 ≠ 41)) → (((l2 ≤ 0) → P (-1) w M) ∧ ((¬ (l2 ≤ 0)) → P 8 w M))))) ∧ ((¬ (l1 ≠ 124)) → P 0 w M))))) ∧ ((¬ (3 ≤ l0)) → (((l1 = 126) → (((l1 ≠ 126) → P 5 w M) ∧ ((¬ (l1 ≠ 126)) → P 3 w M))) ∧ ((¬ (l1 = 126)) → (((l1 ≠ 62) → (((l1 = 38) → P 0 w M) ∧ ((¬ (l1 = 38)) → (((l1 ≠ 124) → (((l1 ≠ 41) → P (-1) w M) ∧ ((¬ (l1 ≠ 41)) → (((l2 ≤ 0) → P (-1) w M) ∧ ((¬ (l2 ≤ 0)) → P 8 w M))))) ∧ ((¬ (l1 ≠ 124)) → P 0 w M))))) ∧ ((¬ (l1 ≠ 62)) → (((l1 ≠ 126) → P 5 w M) ∧ ((¬ (l1 ≠ 126)) → P 3 w M))))))))) ∧ ((¬ (l0 ≠ 7)) → (((l0 ≠ 1) → P 8 w M) ∧ ((¬ (l0 ≠ 1)) → P 2 w M))))))))) ∧ (l0 = 3 → (((¬ (48 ≤ l1 ∧ l1 ≤ 57)) → P (-1) w M) ∧ (((48 ≤ l1 ∧ l1 ≤ 57)) → P 4 w M))) ∧ (l0 = 4 → (((l1 ≠ 58) → P (-1) w M) ∧ ((¬ (l1 ≠ 58)) → P 6 w M))) ∧ (l0 = 5 → (((¬ (48 ≤ l1 ∧ l1 ≤ 57)) → P (-1) w M) ∧ (((48 ≤ l1 ∧ l1 ≤ 57)) → P 8 w M))) ∧ (l0 = 6 → (((¬ (48 ≤ l1 ∧ l1 ≤ 57)) → P (-1) w M) ∧ (((48 ≤ l1 ∧ l1 ≤ 57)) → P 7 w M))))) : A_X10_stepOf_0 G X P l0 l1 l2 w M := by
  unfold A_X10_stepOf_0
  refine s_iload_n C (d_of DX10_stepOf 0 rfl) rfl ?_
  refine s_callS (av := [(0, l1)]) (rest := []) (mc := 0) (ms := 0) C (d_of DX10_stepOf 1 rfl) lk_X10_209 rfl rfl (Nat.le_of_ble_eq_true rfl) (by decide) (by decide) (pc_X10_isDigit) (fun z1 wz1 Mz1 hq => ?_)
  obtain ⟨hq1, hq2, hq3⟩ := hq
  have hq2 := hq2.symm
  have hq3 := hq3.symm
  subst hq1 hq2 hq3
  refine s_istore_n (ls' := [(0, l0), (0, l1), (0, l2), (0, (b2i (48 ≤ l1 ∧ l1 ≤ 57)))]) C (d_of DX10_stepOf 2 rfl) (by decide) rfl rfl ?_
  refine s_iload_n C (d_of DX10_stepOf 3 rfl) rfl ?_
  rcases (show (l0 < 0 ∨ 6 < l0) ∨ l0 = 0 ∨ l0 = 1 ∨ l0 = 2 ∨ l0 = 3 ∨ l0 = 4 ∨ l0 = 5 ∨ l0 = 6 from by omega) with hc | hc | hc | hc | hc | hc | hc | hc
  · have h := h.1 hc
    refine s_tabOut C (d_of DX10_stepOf 4 rfl) hc rfl ?_
    refine s_iload_n C (d_of DX10_stepOf 47 rfl) rfl ?_
    refine s_ifeq C (d_of DX10_stepOf 48 rfl) rfl (fun hc => ?_) (fun hc => ?_)
    · have h := h.1 (b2i_0.mp hc)
      refine s_iload_n C (d_of DX10_stepOf 62 rfl) rfl ?_
      refine s_iconst C (d_of DX10_stepOf 63 rfl) (by decide) ?_
      refine s_icmpge C (d_of DX10_stepOf 64 rfl) rfl (fun hc => ?_) (fun hc => ?_)
      · have h := h.1 hc
        refine s_iload_n C (d_of DX10_stepOf 78 rfl) rfl ?_
        refine s_bipush C (d_of DX10_stepOf 79 rfl) ⟨rfl, by decide, by decide⟩ ?_
        refine s_icmpeq C (d_of DX10_stepOf 80 rfl) rfl (fun hc => ?_) (fun hc => ?_)
        · have h := h.1 hc
          refine s_iconst C (d_of DX10_stepOf 84 rfl) (by decide) ?_
          refine s_goto C (d_of DX10_stepOf 85 rfl) rfl ?_
          exact s_ireturn C (d_of DX10_stepOf 94 rfl) h
        · have h := h.2 hc
          refine s_iload_n C (d_of DX10_stepOf 81 rfl) rfl ?_
          refine s_bipush C (d_of DX10_stepOf 82 rfl) ⟨rfl, by decide, by decide⟩ ?_
          refine s_icmpne C (d_of DX10_stepOf 83 rfl) rfl (fun hc => ?_) (fun hc => ?_)
          · have h := h.1 hc
            refine s_iload_n C (d_of DX10_stepOf 86 rfl) rfl ?_
            refine s_bipush C (d_of DX10_stepOf 87 rfl) ⟨rfl, by decide, by decide⟩ ?_
            refine s_icmpne C (d_of DX10_stepOf 88 rfl) rfl (fun hc => ?_) (fun hc => ?_)
            · have h := h.1 hc
              refine s_iconst C (d_of DX10_stepOf 93 rfl) (by decide) ?_
              exact s_ireturn C (d_of DX10_stepOf 94 rfl) h
            · have h := h.2 hc
              refine s_iload_n C (d_of DX10_stepOf 89 rfl) rfl ?_
              refine s_ifle C (d_of DX10_stepOf 90 rfl) rfl (fun hc => ?_) (fun hc => ?_)
              · have h := h.1 hc
                refine s_iconst C (d_of DX10_stepOf 93 rfl) (by decide) ?_
                exact s_ireturn C (d_of DX10_stepOf 94 rfl) h
              · have h := h.2 hc
                refine s_bipush C (d_of DX10_stepOf 91 rfl) ⟨rfl, by decide, by decide⟩ ?_
                refine s_goto C (d_of DX10_stepOf 92 rfl) rfl ?_
                exact s_ireturn C (d_of DX10_stepOf 94 rfl) h
          · have h := h.2 hc
            refine s_iconst C (d_of DX10_stepOf 84 rfl) (by decide) ?_
            refine s_goto C (d_of DX10_stepOf 85 rfl) rfl ?_
            exact s_ireturn C (d_of DX10_stepOf 94 rfl) h
      · have h := h.2 hc
        refine s_iload_n C (d_of DX10_stepOf 65 rfl) rfl ?_
        refine s_bipush C (d_of DX10_stepOf 66 rfl) ⟨rfl, by decide, by decide⟩ ?_
        refine s_icmpeq C (d_of DX10_stepOf 67 rfl) rfl (fun hc => ?_) (fun hc => ?_)
        · have h := h.1 hc
          refine s_iload_n C (d_of DX10_stepOf 71 rfl) rfl ?_
          refine s_bipush C (d_of DX10_stepOf 72 rfl) ⟨rfl, by decide, by decide⟩ ?_
          refine s_icmpne C (d_of DX10_stepOf 73 rfl) rfl (fun hc => ?_) (fun hc => ?_)
          · have h := h.1 hc
            refine s_iconst C (d_of DX10_stepOf 76 rfl) (by decide) ?_
            exact s_ireturn C (d_of DX10_stepOf 77 rfl) h
          · have h := h.2 hc
            refine s_iconst C (d_of DX10_stepOf 74 rfl) (by decide) ?_
            refine s_goto C (d_of DX10_stepOf 75 rfl) rfl ?_
            exact s_ireturn C (d_of DX10_stepOf 77 rfl) h
        · have h := h.2 hc
          refine s_iload_n C (d_of DX10_stepOf 68 rfl) rfl ?_
          refine s_bipush C (d_of DX10_stepOf 69 rfl) ⟨rfl, by decide, by decide⟩ ?_
          refine s_icmpne C (d_of DX10_stepOf 70 rfl) rfl (fun hc => ?_) (fun hc => ?_)
          · have h := h.1 hc
            refine s_iload_n C (d_of DX10_stepOf 78 rfl) rfl ?_
            refine s_bipush C (d_of DX10_stepOf 79 rfl) ⟨rfl, by decide, by decide⟩ ?_
            refine s_icmpeq C (d_of DX10_stepOf 80 rfl) rfl (fun hc => ?_) (fun hc => ?_)
            · have h := h.1 hc
              refine s_iconst C (d_of DX10_stepOf 84 rfl) (by decide) ?_
              refine s_goto C (d_of DX10_stepOf 85 rfl) rfl ?_
              exact s_ireturn C (d_of DX10_stepOf 94 rfl) h
            · have h := h.2 hc
              refine s_iload_n C (d_of DX10_stepOf 81 rfl) rfl ?_
              refine s_bipush C (d_of DX10_stepOf 82 rfl) ⟨rfl, by decide, by decide⟩ ?_
              refine s_icmpne C (d_of DX10_stepOf 83 rfl) rfl (fun hc => ?_) (fun hc => ?_)
              · have h := h.1 hc
                refine s_iload_n C (d_of DX10_stepOf 86 rfl) rfl ?_
                refine s_bipush C (d_of DX10_stepOf 87 rfl) ⟨rfl, by decide, by decide⟩ ?_
                refine s_icmpne C (d_of DX10_stepOf 88 rfl) rfl (fun hc => ?_) (fun hc => ?_)
                · have h := h.1 hc
                  refine s_iconst C (d_of DX10_stepOf 93 rfl) (by decide) ?_
                  exact s_ireturn C (d_of DX10_stepOf 94 rfl) h
                · have h := h.2 hc
                  refine s_iload_n C (d_of DX10_stepOf 89 rfl) rfl ?_
                  refine s_ifle C (d_of DX10_stepOf 90 rfl) rfl (fun hc => ?_) (fun hc => ?_)
                  · have h := h.1 hc
                    refine s_iconst C (d_of DX10_stepOf 93 rfl) (by decide) ?_
                    exact s_ireturn C (d_of DX10_stepOf 94 rfl) h
                  · have h := h.2 hc
                    refine s_bipush C (d_of DX10_stepOf 91 rfl) ⟨rfl, by decide, by decide⟩ ?_
                    refine s_goto C (d_of DX10_stepOf 92 rfl) rfl ?_
                    exact s_ireturn C (d_of DX10_stepOf 94 rfl) h
              · have h := h.2 hc
                refine s_iconst C (d_of DX10_stepOf 84 rfl) (by decide) ?_
                refine s_goto C (d_of DX10_stepOf 85 rfl) rfl ?_
                exact s_ireturn C (d_of DX10_stepOf 94 rfl) h
          · have h := h.2 hc
            refine s_iload_n C (d_of DX10_stepOf 71 rfl) rfl ?_
            refine s_bipush C (d_of DX10_stepOf 72 rfl) ⟨rfl, by decide, by decide⟩ ?_
            refine s_icmpne C (d_of DX10_stepOf 73 rfl) rfl (fun hc => ?_) (fun hc => ?_)
            · have h := h.1 hc
              refine s_iconst C (d_of DX10_stepOf 76 rfl) (by decide) ?_
              exact s_ireturn C (d_of DX10_stepOf 77 rfl) h
            · have h := h.2 hc
              refine s_iconst C (d_of DX10_stepOf 74 rfl) (by decide) ?_
              refine s_goto C (d_of DX10_stepOf 75 rfl) rfl ?_
              exact s_ireturn C (d_of DX10_stepOf 77 rfl) h
    · have h := h.2 (b2i_n0 hc)
      refine s_iload_n C (d_of DX10_stepOf 49 rfl) rfl ?_
      refine s_iconst C (d_of DX10_stepOf 50 rfl) (by decide) ?_
      refine s_icmpeq C (d_of DX10_stepOf 51 rfl) rfl (fun hc => ?_) (fun hc => ?_)
      · have h := h.1 hc
        refine s_iload_n C (d_of DX10_stepOf 55 rfl) rfl ?_
        refine s_iconst C (d_of DX10_stepOf 56 rfl) (by decide) ?_
        refine s_icmpne C (d_of DX10_stepOf 57 rfl) rfl (fun hc => ?_) (fun hc => ?_)
        · have h := h.1 hc
          refine s_bipush C (d_of DX10_stepOf 60 rfl) ⟨rfl, by decide, by decide⟩ ?_
          exact s_ireturn C (d_of DX10_stepOf 61 rfl) h
        · have h := h.2 hc
          refine s_iconst C (d_of DX10_stepOf 58 rfl) (by decide) ?_
          refine s_goto C (d_of DX10_stepOf 59 rfl) rfl ?_
          exact s_ireturn C (d_of DX10_stepOf 61 rfl) h
      · have h := h.2 hc
        refine s_iload_n C (d_of DX10_stepOf 52 rfl) rfl ?_
        refine s_bipush C (d_of DX10_stepOf 53 rfl) ⟨rfl, by decide, by decide⟩ ?_
        refine s_icmpne C (d_of DX10_stepOf 54 rfl) rfl (fun hc => ?_) (fun hc => ?_)
        · have h := h.1 hc
          refine s_iload_n C (d_of DX10_stepOf 62 rfl) rfl ?_
          refine s_iconst C (d_of DX10_stepOf 63 rfl) (by decide) ?_
          refine s_icmpge C (d_of DX10_stepOf 64 rfl) rfl (fun hc => ?_) (fun hc => ?_)
          · have h := h.1 hc
            refine s_iload_n C (d_of DX10_stepOf 78 rfl) rfl ?_
            refine s_bipush C (d_of DX10_stepOf 79 rfl) ⟨rfl, by decide, by decide⟩ ?_
            refine s_icmpeq C (d_of DX10_stepOf 80 rfl) rfl (fun hc => ?_) (fun hc => ?_)
            · have h := h.1 hc
              refine s_iconst C (d_of DX10_stepOf 84 rfl) (by decide) ?_
              refine s_goto C (d_of DX10_stepOf 85 rfl) rfl ?_
              exact s_ireturn C (d_of DX10_stepOf 94 rfl) h
            · have h := h.2 hc
              refine s_iload_n C (d_of DX10_stepOf 81 rfl) rfl ?_
              refine s_bipush C (d_of DX10_stepOf 82 rfl) ⟨rfl, by decide, by decide⟩ ?_
              refine s_icmpne C (d_of DX10_stepOf 83 rfl) rfl (fun hc => ?_) (fun hc => ?_)
              · have h := h.1 hc
                refine s_iload_n C (d_of DX10_stepOf 86 rfl) rfl ?_
                refine s_bipush C (d_of DX10_stepOf 87 rfl) ⟨rfl, by decide, by decide⟩ ?_
                refine s_icmpne C (d_of DX10_stepOf 88 rfl) rfl (fun hc => ?_) (fun hc => ?_)
                · have h := h.1 hc
                  refine s_iconst C (d_of DX10_stepOf 93 rfl) (by decide) ?_
                  exact s_ireturn C (d_of DX10_stepOf 94 rfl) h
                · have h := h.2 hc
                  refine s_iload_n C (d_of DX10_stepOf 89 rfl) rfl ?_
                  refine s_ifle C (d_of DX10_stepOf 90 rfl) rfl (fun hc => ?_) (fun hc => ?_)
                  · have h := h.1 hc
                    refine s_iconst C (d_of DX10_stepOf 93 rfl) (by decide) ?_
                    exact s_ireturn C (d_of DX10_stepOf 94 rfl) h
                  · have h := h.2 hc
                    refine s_bipush C (d_of DX10_stepOf 91 rfl) ⟨rfl, by decide, by decide⟩ ?_
                    refine s_goto C (d_of DX10_stepOf 92 rfl) rfl ?_
                    exact s_ireturn C (d_of DX10_stepOf 94 rfl) h
              · have h := h.2 hc
                refine s_iconst C (d_of DX10_stepOf 84 rfl) (by decide) ?_
                refine s_goto C (d_of DX10_stepOf 85 rfl) rfl ?_
                exact s_ireturn C (d_of DX10_stepOf 94 rfl) h
          · have h := h.2 hc
            refine s_iload_n C (d_of DX10_stepOf 65 rfl) rfl ?_
            refine s_bipush C (d_of DX10_stepOf 66 rfl) ⟨rfl, by decide, by decide⟩ ?_
            refine s_icmpeq C (d_of DX10_stepOf 67 rfl) rfl (fun hc => ?_) (fun hc => ?_)
            · have h := h.1 hc
              refine s_iload_n C (d_of DX10_stepOf 71 rfl) rfl ?_
              refine s_bipush C (d_of DX10_stepOf 72 rfl) ⟨rfl, by decide, by decide⟩ ?_
              refine s_icmpne C (d_of DX10_stepOf 73 rfl) rfl (fun hc => ?_) (fun hc => ?_)
              · have h := h.1 hc
                refine s_iconst C (d_of DX10_stepOf 76 rfl) (by decide) ?_
                exact s_ireturn C (d_of DX10_stepOf 77 rfl) h
              · have h := h.2 hc
                refine s_iconst C (d_of DX10_stepOf 74 rfl) (by decide) ?_
                refine s_goto C (d_of DX10_stepOf 75 rfl) rfl ?_
                exact s_ireturn C (d_of DX10_stepOf 77 rfl) h
            · have h := h.2 hc
              refine s_iload_n C (d_of DX10_stepOf 68 rfl) rfl ?_
              refine s_bipush C (d_of DX10_stepOf 69 rfl) ⟨rfl, by decide, by decide⟩ ?_
              refine s_icmpne C (d_of DX10_stepOf 70 rfl) rfl (fun hc => ?_) (fun hc => ?_)
              · have h := h.1 hc
                refine s_iload_n C (d_of DX10_stepOf 78 rfl) rfl ?_
                refine s_bipush C (d_of DX10_stepOf 79 rfl) ⟨rfl, by decide, by decide⟩ ?_
                refine s_icmpeq C (d_of DX10_stepOf 80 rfl) rfl (fun hc => ?_) (fun hc => ?_)
                · have h := h.1 hc
                  refine s_iconst C (d_of DX10_stepOf 84 rfl) (by decide) ?_
                  refine s_goto C (d_of DX10_stepOf 85 rfl) rfl ?_
                  exact s_ireturn C (d_of DX10_stepOf 94 rfl) h
                · have h := h.2 hc
                  refine s_iload_n C (d_of DX10_stepOf 81 rfl) rfl ?_
                  refine s_bipush C (d_of DX10_stepOf 82 rfl) ⟨rfl, by decide, by decide⟩ ?_
                  refine s_icmpne C (d_of DX10_stepOf 83 rfl) rfl (fun hc => ?_) (fun hc => ?_)
                  · have h := h.1 hc
                    refine s_iload_n C (d_of DX10_stepOf 86 rfl) rfl ?_
                    refine s_bipush C (d_of DX10_stepOf 87 rfl) ⟨rfl, by decide, by decide⟩ ?_
                    refine s_icmpne C (d_of DX10_stepOf 88 rfl) rfl (fun hc => ?_) (fun hc => ?_)
                    · have h := h.1 hc
                      refine s_iconst C (d_of DX10_stepOf 93 rfl) (by decide) ?_
                      exact s_ireturn C (d_of DX10_stepOf 94 rfl) h
                    · have h := h.2 hc
                      refine s_iload_n C (d_of DX10_stepOf 89 rfl) rfl ?_
                      refine s_ifle C (d_of DX10_stepOf 90 rfl) rfl (fun hc => ?_) (fun hc => ?_)
                      · have h := h.1 hc
                        refine s_iconst C (d_of DX10_stepOf 93 rfl) (by decide) ?_
                        exact s_ireturn C (d_of DX10_stepOf 94 rfl) h
                      · have h := h.2 hc
                        refine s_bipush C (d_of DX10_stepOf 91 rfl) ⟨rfl, by decide, by decide⟩ ?_
                        refine s_goto C (d_of DX10_stepOf 92 rfl) rfl ?_
                        exact s_ireturn C (d_of DX10_stepOf 94 rfl) h
                  · have h := h.2 hc
                    refine s_iconst C (d_of DX10_stepOf 84 rfl) (by decide) ?_
                    refine s_goto C (d_of DX10_stepOf 85 rfl) rfl ?_
                    exact s_ireturn C (d_of DX10_stepOf 94 rfl) h
              · have h := h.2 hc
                refine s_iload_n C (d_of DX10_stepOf 71 rfl) rfl ?_
                refine s_bipush C (d_of DX10_stepOf 72 rfl) ⟨rfl, by decide, by decide⟩ ?_
                refine s_icmpne C (d_of DX10_stepOf 73 rfl) rfl (fun hc => ?_) (fun hc => ?_)
                · have h := h.1 hc
                  refine s_iconst C (d_of DX10_stepOf 76 rfl) (by decide) ?_
                  exact s_ireturn C (d_of DX10_stepOf 77 rfl) h
                · have h := h.2 hc
                  refine s_iconst C (d_of DX10_stepOf 74 rfl) (by decide) ?_
                  refine s_goto C (d_of DX10_stepOf 75 rfl) rfl ?_
                  exact s_ireturn C (d_of DX10_stepOf 77 rfl) h
        · have h := h.2 hc
          refine s_iload_n C (d_of DX10_stepOf 55 rfl) rfl ?_
          refine s_iconst C (d_of DX10_stepOf 56 rfl) (by decide) ?_
          refine s_icmpne C (d_of DX10_stepOf 57 rfl) rfl (fun hc => ?_) (fun hc => ?_)
          · have h := h.1 hc
            refine s_bipush C (d_of DX10_stepOf 60 rfl) ⟨rfl, by decide, by decide⟩ ?_
            exact s_ireturn C (d_of DX10_stepOf 61 rfl) h
          · have h := h.2 hc
            refine s_iconst C (d_of DX10_stepOf 58 rfl) (by decide) ?_
            refine s_goto C (d_of DX10_stepOf 59 rfl) rfl ?_
            exact s_ireturn C (d_of DX10_stepOf 61 rfl) h
  · have h := h.2.1 hc
    refine s_tabIn C (d_of DX10_stepOf 4 rfl) hc (by decide) (by decide) rfl rfl ?_
    refine s_iload_n C (d_of DX10_stepOf 5 rfl) rfl ?_
    refine s_ifeq C (d_of DX10_stepOf 6 rfl) rfl (fun hc => ?_) (fun hc => ?_)
    · have h := h.1 (b2i_0.mp hc)
      refine s_iload_n C (d_of DX10_stepOf 9 rfl) rfl ?_
      refine s_bipush C (d_of DX10_stepOf 10 rfl) ⟨rfl, by decide, by decide⟩ ?_
      refine s_icmpeq C (d_of DX10_stepOf 11 rfl) rfl (fun hc => ?_) (fun hc => ?_)
      · have h := h.1 hc
        refine s_iconst C (d_of DX10_stepOf 18 rfl) (by decide) ?_
        refine s_goto C (d_of DX10_stepOf 19 rfl) rfl ?_
        exact s_ireturn C (d_of DX10_stepOf 21 rfl) h
      · have h := h.2 hc
        refine s_iload_n C (d_of DX10_stepOf 12 rfl) rfl ?_
        refine s_bipush C (d_of DX10_stepOf 13 rfl) ⟨rfl, by decide, by decide⟩ ?_
        refine s_icmpne C (d_of DX10_stepOf 14 rfl) rfl (fun hc => ?_) (fun hc => ?_)
        · have h := h.1 hc
          refine s_iconst C (d_of DX10_stepOf 20 rfl) (by decide) ?_
          exact s_ireturn C (d_of DX10_stepOf 21 rfl) h
        · have h := h.2 hc
          refine s_iload_n C (d_of DX10_stepOf 15 rfl) rfl ?_
          refine s_bipush C (d_of DX10_stepOf 16 rfl) ⟨rfl, by decide, by decide⟩ ?_
          refine s_icmpge C (d_of DX10_stepOf 17 rfl) rfl (fun hc => ?_) (fun hc => ?_)
          · have h := h.1 hc
            refine s_iconst C (d_of DX10_stepOf 20 rfl) (by decide) ?_
            exact s_ireturn C (d_of DX10_stepOf 21 rfl) h
          · have h := h.2 hc
            refine s_iconst C (d_of DX10_stepOf 18 rfl) (by decide) ?_
            refine s_goto C (d_of DX10_stepOf 19 rfl) rfl ?_
            exact s_ireturn C (d_of DX10_stepOf 21 rfl) h
    · have h := h.2 (b2i_n0 hc)
      refine s_iconst C (d_of DX10_stepOf 7 rfl) (by decide) ?_
      refine s_goto C (d_of DX10_stepOf 8 rfl) rfl ?_
      exact s_ireturn C (d_of DX10_stepOf 21 rfl) h
  · have h := h.2.2.1 hc
    refine s_tabIn C (d_of DX10_stepOf 4 rfl) hc (by decide) (by decide) rfl rfl ?_
    refine s_iload_n C (d_of DX10_stepOf 47 rfl) rfl ?_
    refine s_ifeq C (d_of DX10_stepOf 48 rfl) rfl (fun hc => ?_) (fun hc => ?_)
    · have h := h.1 (b2i_0.mp hc)
      refine s_iload_n C (d_of DX10_stepOf 62 rfl) rfl ?_
      refine s_iconst C (d_of DX10_stepOf 63 rfl) (by decide) ?_
      refine s_icmpge C (d_of DX10_stepOf 64 rfl) rfl (fun hc => ?_) (fun hc => ?_)
      · have h := h.1 hc
        refine s_iload_n C (d_of DX10_stepOf 78 rfl) rfl ?_
        refine s_bipush C (d_of DX10_stepOf 79 rfl) ⟨rfl, by decide, by decide⟩ ?_
        refine s_icmpeq C (d_of DX10_stepOf 80 rfl) rfl (fun hc => ?_) (fun hc => ?_)
        · have h := h.1 hc
          refine s_iconst C (d_of DX10_stepOf 84 rfl) (by decide) ?_
          refine s_goto C (d_of DX10_stepOf 85 rfl) rfl ?_
          exact s_ireturn C (d_of DX10_stepOf 94 rfl) h
        · have h := h.2 hc
          refine s_iload_n C (d_of DX10_stepOf 81 rfl) rfl ?_
          refine s_bipush C (d_of DX10_stepOf 82 rfl) ⟨rfl, by decide, by decide⟩ ?_
          refine s_icmpne C (d_of DX10_stepOf 83 rfl) rfl (fun hc => ?_) (fun hc => ?_)
          · have h := h.1 hc
            refine s_iload_n C (d_of DX10_stepOf 86 rfl) rfl ?_
            refine s_bipush C (d_of DX10_stepOf 87 rfl) ⟨rfl, by decide, by decide⟩ ?_
            refine s_icmpne C (d_of DX10_stepOf 88 rfl) rfl (fun hc => ?_) (fun hc => ?_)
            · have h := h.1 hc
              refine s_iconst C (d_of DX10_stepOf 93 rfl) (by decide) ?_
              exact s_ireturn C (d_of DX10_stepOf 94 rfl) h
            · have h := h.2 hc
              refine s_iload_n C (d_of DX10_stepOf 89 rfl) rfl ?_
              refine s_ifle C (d_of DX10_stepOf 90 rfl) rfl (fun hc => ?_) (fun hc => ?_)
              · have h := h.1 hc
                refine s_iconst C (d_of DX10_stepOf 93 rfl) (by decide) ?_
                exact s_ireturn C (d_of DX10_stepOf 94 rfl) h
              · have h := h.2 hc
                refine s_bipush C (d_of DX10_stepOf 91 rfl) ⟨rfl, by decide, by decide⟩ ?_
                refine s_goto C (d_of DX10_stepOf 92 rfl) rfl ?_
                exact s_ireturn C (d_of DX10_stepOf 94 rfl) h
          · have h := h.2 hc
            refine s_iconst C (d_of DX10_stepOf 84 rfl) (by decide) ?_
            refine s_goto C (d_of DX10_stepOf 85 rfl) rfl ?_
            exact s_ireturn C (d_of DX10_stepOf 94 rfl) h
      · have h := h.2 hc
        refine s_iload_n C (d_of DX10_stepOf 65 rfl) rfl ?_
        refine s_bipush C (d_of DX10_stepOf 66 rfl) ⟨rfl, by decide, by decide⟩ ?_
        refine s_icmpeq C (d_of DX10_stepOf 67 rfl) rfl (fun hc => ?_) (fun hc => ?_)
        · have h := h.1 hc
          refine s_iload_n C (d_of DX10_stepOf 71 rfl) rfl ?_
          refine s_bipush C (d_of DX10_stepOf 72 rfl) ⟨rfl, by decide, by decide⟩ ?_
          refine s_icmpne C (d_of DX10_stepOf 73 rfl) rfl (fun hc => ?_) (fun hc => ?_)
          · have h := h.1 hc
            refine s_iconst C (d_of DX10_stepOf 76 rfl) (by decide) ?_
            exact s_ireturn C (d_of DX10_stepOf 77 rfl) h
          · have h := h.2 hc
            refine s_iconst C (d_of DX10_stepOf 74 rfl) (by decide) ?_
            refine s_goto C (d_of DX10_stepOf 75 rfl) rfl ?_
            exact s_ireturn C (d_of DX10_stepOf 77 rfl) h
        · have h := h.2 hc
          refine s_iload_n C (d_of DX10_stepOf 68 rfl) rfl ?_
          refine s_bipush C (d_of DX10_stepOf 69 rfl) ⟨rfl, by decide, by decide⟩ ?_
          refine s_icmpne C (d_of DX10_stepOf 70 rfl) rfl (fun hc => ?_) (fun hc => ?_)
          · have h := h.1 hc
            refine s_iload_n C (d_of DX10_stepOf 78 rfl) rfl ?_
            refine s_bipush C (d_of DX10_stepOf 79 rfl) ⟨rfl, by decide, by decide⟩ ?_
            refine s_icmpeq C (d_of DX10_stepOf 80 rfl) rfl (fun hc => ?_) (fun hc => ?_)
            · have h := h.1 hc
              refine s_iconst C (d_of DX10_stepOf 84 rfl) (by decide) ?_
              refine s_goto C (d_of DX10_stepOf 85 rfl) rfl ?_
              exact s_ireturn C (d_of DX10_stepOf 94 rfl) h
            · have h := h.2 hc
              refine s_iload_n C (d_of DX10_stepOf 81 rfl) rfl ?_
              refine s_bipush C (d_of DX10_stepOf 82 rfl) ⟨rfl, by decide, by decide⟩ ?_
              refine s_icmpne C (d_of DX10_stepOf 83 rfl) rfl (fun hc => ?_) (fun hc => ?_)
              · have h := h.1 hc
                refine s_iload_n C (d_of DX10_stepOf 86 rfl) rfl ?_
                refine s_bipush C (d_of DX10_stepOf 87 rfl) ⟨rfl, by decide, by decide⟩ ?_
                refine s_icmpne C (d_of DX10_stepOf 88 rfl) rfl (fun hc => ?_) (fun hc => ?_)
                · have h := h.1 hc
                  refine s_iconst C (d_of DX10_stepOf 93 rfl) (by decide) ?_
                  exact s_ireturn C (d_of DX10_stepOf 94 rfl) h
                · have h := h.2 hc
                  refine s_iload_n C (d_of DX10_stepOf 89 rfl) rfl ?_
                  refine s_ifle C (d_of DX10_stepOf 90 rfl) rfl (fun hc => ?_) (fun hc => ?_)
                  · have h := h.1 hc
                    refine s_iconst C (d_of DX10_stepOf 93 rfl) (by decide) ?_
                    exact s_ireturn C (d_of DX10_stepOf 94 rfl) h
                  · have h := h.2 hc
                    refine s_bipush C (d_of DX10_stepOf 91 rfl) ⟨rfl, by decide, by decide⟩ ?_
                    refine s_goto C (d_of DX10_stepOf 92 rfl) rfl ?_
                    exact s_ireturn C (d_of DX10_stepOf 94 rfl) h
              · have h := h.2 hc
                refine s_iconst C (d_of DX10_stepOf 84 rfl) (by decide) ?_
                refine s_goto C (d_of DX10_stepOf 85 rfl) rfl ?_
                exact s_ireturn C (d_of DX10_stepOf 94 rfl) h
          · have h := h.2 hc
            refine s_iload_n C (d_of DX10_stepOf 71 rfl) rfl ?_
            refine s_bipush C (d_of DX10_stepOf 72 rfl) ⟨rfl, by decide, by decide⟩ ?_
            refine s_icmpne C (d_of DX10_stepOf 73 rfl) rfl (fun hc => ?_) (fun hc => ?_)
            · have h := h.1 hc
              refine s_iconst C (d_of DX10_stepOf 76 rfl) (by decide) ?_
              exact s_ireturn C (d_of DX10_stepOf 77 rfl) h
            · have h := h.2 hc
              refine s_iconst C (d_of DX10_stepOf 74 rfl) (by decide) ?_
              refine s_goto C (d_of DX10_stepOf 75 rfl) rfl ?_
              exact s_ireturn C (d_of DX10_stepOf 77 rfl) h
    · have h := h.2 (b2i_n0 hc)
      refine s_iload_n C (d_of DX10_stepOf 49 rfl) rfl ?_
      refine s_iconst C (d_of DX10_stepOf 50 rfl) (by decide) ?_
      refine s_icmpeq C (d_of DX10_stepOf 51 rfl) rfl (fun hc => ?_) (fun hc => ?_)
      · have h := h.1 hc
        refine s_iload_n C (d_of DX10_stepOf 55 rfl) rfl ?_
        refine s_iconst C (d_of DX10_stepOf 56 rfl) (by decide) ?_
        refine s_icmpne C (d_of DX10_stepOf 57 rfl) rfl (fun hc => ?_) (fun hc => ?_)
        · have h := h.1 hc
          refine s_bipush C (d_of DX10_stepOf 60 rfl) ⟨rfl, by decide, by decide⟩ ?_
          exact s_ireturn C (d_of DX10_stepOf 61 rfl) h
        · have h := h.2 hc
          refine s_iconst C (d_of DX10_stepOf 58 rfl) (by decide) ?_
          refine s_goto C (d_of DX10_stepOf 59 rfl) rfl ?_
          exact s_ireturn C (d_of DX10_stepOf 61 rfl) h
      · have h := h.2 hc
        refine s_iload_n C (d_of DX10_stepOf 52 rfl) rfl ?_
        refine s_bipush C (d_of DX10_stepOf 53 rfl) ⟨rfl, by decide, by decide⟩ ?_
        refine s_icmpne C (d_of DX10_stepOf 54 rfl) rfl (fun hc => ?_) (fun hc => ?_)
        · have h := h.1 hc
          refine s_iload_n C (d_of DX10_stepOf 62 rfl) rfl ?_
          refine s_iconst C (d_of DX10_stepOf 63 rfl) (by decide) ?_
          refine s_icmpge C (d_of DX10_stepOf 64 rfl) rfl (fun hc => ?_) (fun hc => ?_)
          · have h := h.1 hc
            refine s_iload_n C (d_of DX10_stepOf 78 rfl) rfl ?_
            refine s_bipush C (d_of DX10_stepOf 79 rfl) ⟨rfl, by decide, by decide⟩ ?_
            refine s_icmpeq C (d_of DX10_stepOf 80 rfl) rfl (fun hc => ?_) (fun hc => ?_)
            · have h := h.1 hc
              refine s_iconst C (d_of DX10_stepOf 84 rfl) (by decide) ?_
              refine s_goto C (d_of DX10_stepOf 85 rfl) rfl ?_
              exact s_ireturn C (d_of DX10_stepOf 94 rfl) h
            · have h := h.2 hc
              refine s_iload_n C (d_of DX10_stepOf 81 rfl) rfl ?_
              refine s_bipush C (d_of DX10_stepOf 82 rfl) ⟨rfl, by decide, by decide⟩ ?_
              refine s_icmpne C (d_of DX10_stepOf 83 rfl) rfl (fun hc => ?_) (fun hc => ?_)
              · have h := h.1 hc
                refine s_iload_n C (d_of DX10_stepOf 86 rfl) rfl ?_
                refine s_bipush C (d_of DX10_stepOf 87 rfl) ⟨rfl, by decide, by decide⟩ ?_
                refine s_icmpne C (d_of DX10_stepOf 88 rfl) rfl (fun hc => ?_) (fun hc => ?_)
                · have h := h.1 hc
                  refine s_iconst C (d_of DX10_stepOf 93 rfl) (by decide) ?_
                  exact s_ireturn C (d_of DX10_stepOf 94 rfl) h
                · have h := h.2 hc
                  refine s_iload_n C (d_of DX10_stepOf 89 rfl) rfl ?_
                  refine s_ifle C (d_of DX10_stepOf 90 rfl) rfl (fun hc => ?_) (fun hc => ?_)
                  · have h := h.1 hc
                    refine s_iconst C (d_of DX10_stepOf 93 rfl) (by decide) ?_
                    exact s_ireturn C (d_of DX10_stepOf 94 rfl) h
                  · have h := h.2 hc
                    refine s_bipush C (d_of DX10_stepOf 91 rfl) ⟨rfl, by decide, by decide⟩ ?_
                    refine s_goto C (d_of DX10_stepOf 92 rfl) rfl ?_
                    exact s_ireturn C (d_of DX10_stepOf 94 rfl) h
              · have h := h.2 hc
                refine s_iconst C (d_of DX10_stepOf 84 rfl) (by decide) ?_
                refine s_goto C (d_of DX10_stepOf 85 rfl) rfl ?_
                exact s_ireturn C (d_of DX10_stepOf 94 rfl) h
          · have h := h.2 hc
            refine s_iload_n C (d_of DX10_stepOf 65 rfl) rfl ?_
            refine s_bipush C (d_of DX10_stepOf 66 rfl) ⟨rfl, by decide, by decide⟩ ?_
            refine s_icmpeq C (d_of DX10_stepOf 67 rfl) rfl (fun hc => ?_) (fun hc => ?_)
            · have h := h.1 hc
              refine s_iload_n C (d_of DX10_stepOf 71 rfl) rfl ?_
              refine s_bipush C (d_of DX10_stepOf 72 rfl) ⟨rfl, by decide, by decide⟩ ?_
              refine s_icmpne C (d_of DX10_stepOf 73 rfl) rfl (fun hc => ?_) (fun hc => ?_)
              · have h := h.1 hc
                refine s_iconst C (d_of DX10_stepOf 76 rfl) (by decide) ?_
                exact s_ireturn C (d_of DX10_stepOf 77 rfl) h
              · have h := h.2 hc
                refine s_iconst C (d_of DX10_stepOf 74 rfl) (by decide) ?_
                refine s_goto C (d_of DX10_stepOf 75 rfl) rfl ?_
                exact s_ireturn C (d_of DX10_stepOf 77 rfl) h
            · have h := h.2 hc
              refine s_iload_n C (d_of DX10_stepOf 68 rfl) rfl ?_
              refine s_bipush C (d_of DX10_stepOf 69 rfl) ⟨rfl, by decide, by decide⟩ ?_
              refine s_icmpne C (d_of DX10_stepOf 70 rfl) rfl (fun hc => ?_) (fun hc => ?_)
              · have h := h.1 hc
                refine s_iload_n C (d_of DX10_stepOf 78 rfl) rfl ?_
                refine s_bipush C (d_of DX10_stepOf 79 rfl) ⟨rfl, by decide, by decide⟩ ?_
                refine s_icmpeq C (d_of DX10_stepOf 80 rfl) rfl (fun hc => ?_) (fun hc => ?_)
                · have h := h.1 hc
                  refine s_iconst C (d_of DX10_stepOf 84 rfl) (by decide) ?_
                  refine s_goto C (d_of DX10_stepOf 85 rfl) rfl ?_
                  exact s_ireturn C (d_of DX10_stepOf 94 rfl) h
                · have h := h.2 hc
                  refine s_iload_n C (d_of DX10_stepOf 81 rfl) rfl ?_
                  refine s_bipush C (d_of DX10_stepOf 82 rfl) ⟨rfl, by decide, by decide⟩ ?_
                  refine s_icmpne C (d_of DX10_stepOf 83 rfl) rfl (fun hc => ?_) (fun hc => ?_)
                  · have h := h.1 hc
                    refine s_iload_n C (d_of DX10_stepOf 86 rfl) rfl ?_
                    refine s_bipush C (d_of DX10_stepOf 87 rfl) ⟨rfl, by decide, by decide⟩ ?_
                    refine s_icmpne C (d_of DX10_stepOf 88 rfl) rfl (fun hc => ?_) (fun hc => ?_)
                    · have h := h.1 hc
                      refine s_iconst C (d_of DX10_stepOf 93 rfl) (by decide) ?_
                      exact s_ireturn C (d_of DX10_stepOf 94 rfl) h
                    · have h := h.2 hc
                      refine s_iload_n C (d_of DX10_stepOf 89 rfl) rfl ?_
                      refine s_ifle C (d_of DX10_stepOf 90 rfl) rfl (fun hc => ?_) (fun hc => ?_)
                      · have h := h.1 hc
                        refine s_iconst C (d_of DX10_stepOf 93 rfl) (by decide) ?_
                        exact s_ireturn C (d_of DX10_stepOf 94 rfl) h
                      · have h := h.2 hc
                        refine s_bipush C (d_of DX10_stepOf 91 rfl) ⟨rfl, by decide, by decide⟩ ?_
                        refine s_goto C (d_of DX10_stepOf 92 rfl) rfl ?_
                        exact s_ireturn C (d_of DX10_stepOf 94 rfl) h
                  · have h := h.2 hc
                    refine s_iconst C (d_of DX10_stepOf 84 rfl) (by decide) ?_
                    refine s_goto C (d_of DX10_stepOf 85 rfl) rfl ?_
                    exact s_ireturn C (d_of DX10_stepOf 94 rfl) h
              · have h := h.2 hc
                refine s_iload_n C (d_of DX10_stepOf 71 rfl) rfl ?_
                refine s_bipush C (d_of DX10_stepOf 72 rfl) ⟨rfl, by decide, by decide⟩ ?_
                refine s_icmpne C (d_of DX10_stepOf 73 rfl) rfl (fun hc => ?_) (fun hc => ?_)
                · have h := h.1 hc
                  refine s_iconst C (d_of DX10_stepOf 76 rfl) (by decide) ?_
                  exact s_ireturn C (d_of DX10_stepOf 77 rfl) h
                · have h := h.2 hc
                  refine s_iconst C (d_of DX10_stepOf 74 rfl) (by decide) ?_
                  refine s_goto C (d_of DX10_stepOf 75 rfl) rfl ?_
                  exact s_ireturn C (d_of DX10_stepOf 77 rfl) h
        · have h := h.2 hc
          refine s_iload_n C (d_of DX10_stepOf 55 rfl) rfl ?_
          refine s_iconst C (d_of DX10_stepOf 56 rfl) (by decide) ?_
          refine s_icmpne C (d_of DX10_stepOf 57 rfl) rfl (fun hc => ?_) (fun hc => ?_)
          · have h := h.1 hc
            refine s_bipush C (d_of DX10_stepOf 60 rfl) ⟨rfl, by decide, by decide⟩ ?_
            exact s_ireturn C (d_of DX10_stepOf 61 rfl) h
          · have h := h.2 hc
            refine s_iconst C (d_of DX10_stepOf 58 rfl) (by decide) ?_
            refine s_goto C (d_of DX10_stepOf 59 rfl) rfl ?_
            exact s_ireturn C (d_of DX10_stepOf 61 rfl) h
  · have h := h.2.2.2.1 hc
    refine s_tabIn C (d_of DX10_stepOf 4 rfl) hc (by decide) (by decide) rfl rfl ?_
    refine s_iload_n C (d_of DX10_stepOf 47 rfl) rfl ?_
    refine s_ifeq C (d_of DX10_stepOf 48 rfl) rfl (fun hc => ?_) (fun hc => ?_)
    · have h := h.1 (b2i_0.mp hc)
      refine s_iload_n C (d_of DX10_stepOf 62 rfl) rfl ?_
      refine s_iconst C (d_of DX10_stepOf 63 rfl) (by decide) ?_
      refine s_icmpge C (d_of DX10_stepOf 64 rfl) rfl (fun hc => ?_) (fun hc => ?_)
      · have h := h.1 hc
        refine s_iload_n C (d_of DX10_stepOf 78 rfl) rfl ?_
        refine s_bipush C (d_of DX10_stepOf 79 rfl) ⟨rfl, by decide, by decide⟩ ?_
        refine s_icmpeq C (d_of DX10_stepOf 80 rfl) rfl (fun hc => ?_) (fun hc => ?_)
        · have h := h.1 hc
          refine s_iconst C (d_of DX10_stepOf 84 rfl) (by decide) ?_
          refine s_goto C (d_of DX10_stepOf 85 rfl) rfl ?_
          exact s_ireturn C (d_of DX10_stepOf 94 rfl) h
        · have h := h.2 hc
          refine s_iload_n C (d_of DX10_stepOf 81 rfl) rfl ?_
          refine s_bipush C (d_of DX10_stepOf 82 rfl) ⟨rfl, by decide, by decide⟩ ?_
          refine s_icmpne C (d_of DX10_stepOf 83 rfl) rfl (fun hc => ?_) (fun hc => ?_)
          · have h := h.1 hc
            refine s_iload_n C (d_of DX10_stepOf 86 rfl) rfl ?_
            refine s_bipush C (d_of DX10_stepOf 87 rfl) ⟨rfl, by decide, by decide⟩ ?_
            refine s_icmpne C (d_of DX10_stepOf 88 rfl) rfl (fun hc => ?_) (fun hc => ?_)
            · have h := h.1 hc
              refine s_iconst C (d_of DX10_stepOf 93 rfl) (by decide) ?_
              exact s_ireturn C (d_of DX10_stepOf 94 rfl) h
            · have h := h.2 hc
              refine s_iload_n C (d_of DX10_stepOf 89 rfl) rfl ?_
              refine s_ifle C (d_of DX10_stepOf 90 rfl) rfl (fun hc => ?_) (fun hc => ?_)
              · have h := h.1 hc
                refine s_iconst C (d_of DX10_stepOf 93 rfl) (by decide) ?_
                exact s_ireturn C (d_of DX10_stepOf 94 rfl) h
              · have h := h.2 hc
                refine s_bipush C (d_of DX10_stepOf 91 rfl) ⟨rfl, by decide, by decide⟩ ?_
                refine s_goto C (d_of DX10_stepOf 92 rfl) rfl ?_
                exact s_ireturn C (d_of DX10_stepOf 94 rfl) h
          · have h := h.2 hc
            refine s_iconst C (d_of DX10_stepOf 84 rfl) (by decide) ?_
            refine s_goto C (d_of DX10_stepOf 85 rfl) rfl ?_
            exact s_ireturn C (d_of DX10_stepOf 94 rfl) h
      · have h := h.2 hc
        refine s_iload_n C (d_of DX10_stepOf 65 rfl) rfl ?_
        refine s_bipush C (d_of DX10_stepOf 66 rfl) ⟨rfl, by decide, by decide⟩ ?_
        refine s_icmpeq C (d_of DX10_stepOf 67 rfl) rfl (fun hc => ?_) (fun hc => ?_)
        · have h := h.1 hc
          refine s_iload_n C (d_of DX10_stepOf 71 rfl) rfl ?_
          refine s_bipush C (d_of DX10_stepOf 72 rfl) ⟨rfl, by decide, by decide⟩ ?_
          refine s_icmpne C (d_of DX10_stepOf 73 rfl) rfl (fun hc => ?_) (fun hc => ?_)
          · have h := h.1 hc
            refine s_iconst C (d_of DX10_stepOf 76 rfl) (by decide) ?_
            exact s_ireturn C (d_of DX10_stepOf 77 rfl) h
          · have h := h.2 hc
            refine s_iconst C (d_of DX10_stepOf 74 rfl) (by decide) ?_
            refine s_goto C (d_of DX10_stepOf 75 rfl) rfl ?_
            exact s_ireturn C (d_of DX10_stepOf 77 rfl) h
        · have h := h.2 hc
          refine s_iload_n C (d_of DX10_stepOf 68 rfl) rfl ?_
          refine s_bipush C (d_of DX10_stepOf 69 rfl) ⟨rfl, by decide, by decide⟩ ?_
          refine s_icmpne C (d_of DX10_stepOf 70 rfl) rfl (fun hc => ?_) (fun hc => ?_)
          · have h := h.1 hc
            refine s_iload_n C (d_of DX10_stepOf 78 rfl) rfl ?_
            refine s_bipush C (d_of DX10_stepOf 79 rfl) ⟨rfl, by decide, by decide⟩ ?_
            refine s_icmpeq C (d_of DX10_stepOf 80 rfl) rfl (fun hc => ?_) (fun hc => ?_)
            · have h := h.1 hc
              refine s_iconst C (d_of DX10_stepOf 84 rfl) (by decide) ?_
              refine s_goto C (d_of DX10_stepOf 85 rfl) rfl ?_
              exact s_ireturn C (d_of DX10_stepOf 94 rfl) h
            · have h := h.2 hc
              refine s_iload_n C (d_of DX10_stepOf 81 rfl) rfl ?_
              refine s_bipush C (d_of DX10_stepOf 82 rfl) ⟨rfl, by decide, by decide⟩ ?_
              refine s_icmpne C (d_of DX10_stepOf 83 rfl) rfl (fun hc => ?_) (fun hc => ?_)
              · have h := h.1 hc
                refine s_iload_n C (d_of DX10_stepOf 86 rfl) rfl ?_
                refine s_bipush C (d_of DX10_stepOf 87 rfl) ⟨rfl, by decide, by decide⟩ ?_
                refine s_icmpne C (d_of DX10_stepOf 88 rfl) rfl (fun hc => ?_) (fun hc => ?_)
                · have h := h.1 hc
                  refine s_iconst C (d_of DX10_stepOf 93 rfl) (by decide) ?_
                  exact s_ireturn C (d_of DX10_stepOf 94 rfl) h
                · have h := h.2 hc
                  refine s_iload_n C (d_of DX10_stepOf 89 rfl) rfl ?_
                  refine s_ifle C (d_of DX10_stepOf 90 rfl) rfl (fun hc => ?_) (fun hc => ?_)
                  · have h := h.1 hc
                    refine s_iconst C (d_of DX10_stepOf 93 rfl) (by decide) ?_
                    exact s_ireturn C (d_of DX10_stepOf 94 rfl) h
                  · have h := h.2 hc
                    refine s_bipush C (d_of DX10_stepOf 91 rfl) ⟨rfl, by decide, by decide⟩ ?_
                    refine s_goto C (d_of DX10_stepOf 92 rfl) rfl ?_
                    exact s_ireturn C (d_of DX10_stepOf 94 rfl) h
              · have h := h.2 hc
                refine s_iconst C (d_of DX10_stepOf 84 rfl) (by decide) ?_
                refine s_goto C (d_of DX10_stepOf 85 rfl) rfl ?_
                exact s_ireturn C (d_of DX10_stepOf 94 rfl) h
          · have h := h.2 hc
            refine s_iload_n C (d_of DX10_stepOf 71 rfl) rfl ?_
            refine s_bipush C (d_of DX10_stepOf 72 rfl) ⟨rfl, by decide, by decide⟩ ?_
            refine s_icmpne C (d_of DX10_stepOf 73 rfl) rfl (fun hc => ?_) (fun hc => ?_)
            · have h := h.1 hc
              refine s_iconst C (d_of DX10_stepOf 76 rfl) (by decide) ?_
              exact s_ireturn C (d_of DX10_stepOf 77 rfl) h
            · have h := h.2 hc
              refine s_iconst C (d_of DX10_stepOf 74 rfl) (by decide) ?_
              refine s_goto C (d_of DX10_stepOf 75 rfl) rfl ?_
              exact s_ireturn C (d_of DX10_stepOf 77 rfl) h
    · have h := h.2 (b2i_n0 hc)
      refine s_iload_n C (d_of DX10_stepOf 49 rfl) rfl ?_
      refine s_iconst C (d_of DX10_stepOf 50 rfl) (by decide) ?_
      refine s_icmpeq C (d_of DX10_stepOf 51 rfl) rfl (fun hc => ?_) (fun hc => ?_)
      · have h := h.1 hc
        refine s_iload_n C (d_of DX10_stepOf 55 rfl) rfl ?_
        refine s_iconst C (d_of DX10_stepOf 56 rfl) (by decide) ?_
        refine s_icmpne C (d_of DX10_stepOf 57 rfl) rfl (fun hc => ?_) (fun hc => ?_)
        · have h := h.1 hc
          refine s_bipush C (d_of DX10_stepOf 60 rfl) ⟨rfl, by decide, by decide⟩ ?_
          exact s_ireturn C (d_of DX10_stepOf 61 rfl) h
        · have h := h.2 hc
          refine s_iconst C (d_of DX10_stepOf 58 rfl) (by decide) ?_
          refine s_goto C (d_of DX10_stepOf 59 rfl) rfl ?_
          exact s_ireturn C (d_of DX10_stepOf 61 rfl) h
      · have h := h.2 hc
        refine s_iload_n C (d_of DX10_stepOf 52 rfl) rfl ?_
        refine s_bipush C (d_of DX10_stepOf 53 rfl) ⟨rfl, by decide, by decide⟩ ?_
        refine s_icmpne C (d_of DX10_stepOf 54 rfl) rfl (fun hc => ?_) (fun hc => ?_)
        · have h := h.1 hc
          refine s_iload_n C (d_of DX10_stepOf 62 rfl) rfl ?_
          refine s_iconst C (d_of DX10_stepOf 63 rfl) (by decide) ?_
          refine s_icmpge C (d_of DX10_stepOf 64 rfl) rfl (fun hc => ?_) (fun hc => ?_)
          · have h := h.1 hc
            refine s_iload_n C (d_of DX10_stepOf 78 rfl) rfl ?_
            refine s_bipush C (d_of DX10_stepOf 79 rfl) ⟨rfl, by decide, by decide⟩ ?_
            refine s_icmpeq C (d_of DX10_stepOf 80 rfl) rfl (fun hc => ?_) (fun hc => ?_)
            · have h := h.1 hc
              refine s_iconst C (d_of DX10_stepOf 84 rfl) (by decide) ?_
              refine s_goto C (d_of DX10_stepOf 85 rfl) rfl ?_
              exact s_ireturn C (d_of DX10_stepOf 94 rfl) h
            · have h := h.2 hc
              refine s_iload_n C (d_of DX10_stepOf 81 rfl) rfl ?_
              refine s_bipush C (d_of DX10_stepOf 82 rfl) ⟨rfl, by decide, by decide⟩ ?_
              refine s_icmpne C (d_of DX10_stepOf 83 rfl) rfl (fun hc => ?_) (fun hc => ?_)
              · have h := h.1 hc
                refine s_iload_n C (d_of DX10_stepOf 86 rfl) rfl ?_
                refine s_bipush C (d_of DX10_stepOf 87 rfl) ⟨rfl, by decide, by decide⟩ ?_
                refine s_icmpne C (d_of DX10_stepOf 88 rfl) rfl (fun hc => ?_) (fun hc => ?_)
                · have h := h.1 hc
                  refine s_iconst C (d_of DX10_stepOf 93 rfl) (by decide) ?_
                  exact s_ireturn C (d_of DX10_stepOf 94 rfl) h
                · have h := h.2 hc
                  refine s_iload_n C (d_of DX10_stepOf 89 rfl) rfl ?_
                  refine s_ifle C (d_of DX10_stepOf 90 rfl) rfl (fun hc => ?_) (fun hc => ?_)
                  · have h := h.1 hc
                    refine s_iconst C (d_of DX10_stepOf 93 rfl) (by decide) ?_
                    exact s_ireturn C (d_of DX10_stepOf 94 rfl) h
                  · have h := h.2 hc
                    refine s_bipush C (d_of DX10_stepOf 91 rfl) ⟨rfl, by decide, by decide⟩ ?_
                    refine s_goto C (d_of DX10_stepOf 92 rfl) rfl ?_
                    exact s_ireturn C (d_of DX10_stepOf 94 rfl) h
              · have h := h.2 hc
                refine s_iconst C (d_of DX10_stepOf 84 rfl) (by decide) ?_
                refine s_goto C (d_of DX10_stepOf 85 rfl) rfl ?_
                exact s_ireturn C (d_of DX10_stepOf 94 rfl) h
          · have h := h.2 hc
            refine s_iload_n C (d_of DX10_stepOf 65 rfl) rfl ?_
            refine s_bipush C (d_of DX10_stepOf 66 rfl) ⟨rfl, by decide, by decide⟩ ?_
            refine s_icmpeq C (d_of DX10_stepOf 67 rfl) rfl (fun hc => ?_) (fun hc => ?_)
            · have h := h.1 hc
              refine s_iload_n C (d_of DX10_stepOf 71 rfl) rfl ?_
              refine s_bipush C (d_of DX10_stepOf 72 rfl) ⟨rfl, by decide, by decide⟩ ?_
              refine s_icmpne C (d_of DX10_stepOf 73 rfl) rfl (fun hc => ?_) (fun hc => ?_)
              · have h := h.1 hc
                refine s_iconst C (d_of DX10_stepOf 76 rfl) (by decide) ?_
                exact s_ireturn C (d_of DX10_stepOf 77 rfl) h
              · have h := h.2 hc
                refine s_iconst C (d_of DX10_stepOf 74 rfl) (by decide) ?_
                refine s_goto C (d_of DX10_stepOf 75 rfl) rfl ?_
                exact s_ireturn C (d_of DX10_stepOf 77 rfl) h
            · have h := h.2 hc
              refine s_iload_n C (d_of DX10_stepOf 68 rfl) rfl ?_
              refine s_bipush C (d_of DX10_stepOf 69 rfl) ⟨rfl, by decide, by decide⟩ ?_
              refine s_icmpne C (d_of DX10_stepOf 70 rfl) rfl (fun hc => ?_) (fun hc => ?_)
              · have h := h.1 hc
                refine s_iload_n C (d_of DX10_stepOf 78 rfl) rfl ?_
                refine s_bipush C (d_of DX10_stepOf 79 rfl) ⟨rfl, by decide, by decide⟩ ?_
                refine s_icmpeq C (d_of DX10_stepOf 80 rfl) rfl (fun hc => ?_) (fun hc => ?_)
                · have h := h.1 hc
                  refine s_iconst C (d_of DX10_stepOf 84 rfl) (by decide) ?_
                  refine s_goto C (d_of DX10_stepOf 85 rfl) rfl ?_
                  exact s_ireturn C (d_of DX10_stepOf 94 rfl) h
                · have h := h.2 hc
                  refine s_iload_n C (d_of DX10_stepOf 81 rfl) rfl ?_
                  refine s_bipush C (d_of DX10_stepOf 82 rfl) ⟨rfl, by decide, by decide⟩ ?_
                  refine s_icmpne C (d_of DX10_stepOf 83 rfl) rfl (fun hc => ?_) (fun hc => ?_)
                  · have h := h.1 hc
                    refine s_iload_n C (d_of DX10_stepOf 86 rfl) rfl ?_
                    refine s_bipush C (d_of DX10_stepOf 87 rfl) ⟨rfl, by decide, by decide⟩ ?_
                    refine s_icmpne C (d_of DX10_stepOf 88 rfl) rfl (fun hc => ?_) (fun hc => ?_)
                    · have h := h.1 hc
                      refine s_iconst C (d_of DX10_stepOf 93 rfl) (by decide) ?_
                      exact s_ireturn C (d_of DX10_stepOf 94 rfl) h
                    · have h := h.2 hc
                      refine s_iload_n C (d_of DX10_stepOf 89 rfl) rfl ?_
                      refine s_ifle C (d_of DX10_stepOf 90 rfl) rfl (fun hc => ?_) (fun hc => ?_)
                      · have h := h.1 hc
                        refine s_iconst C (d_of DX10_stepOf 93 rfl) (by decide) ?_
                        exact s_ireturn C (d_of DX10_stepOf 94 rfl) h
                      · have h := h.2 hc
                        refine s_bipush C (d_of DX10_stepOf 91 rfl) ⟨rfl, by decide, by decide⟩ ?_
                        refine s_goto C (d_of DX10_stepOf 92 rfl) rfl ?_
                        exact s_ireturn C (d_of DX10_stepOf 94 rfl) h
                  · have h := h.2 hc
                    refine s_iconst C (d_of DX10_stepOf 84 rfl) (by decide) ?_
                    refine s_goto C (d_of DX10_stepOf 85 rfl) rfl ?_
                    exact s_ireturn C (d_of DX10_stepOf 94 rfl) h
              · have h := h.2 hc
                refine s_iload_n C (d_of DX10_stepOf 71 rfl) rfl ?_
                refine s_bipush C (d_of DX10_stepOf 72 rfl) ⟨rfl, by decide, by decide⟩ ?_
                refine s_icmpne C (d_of DX10_stepOf 73 rfl) rfl (fun hc => ?_) (fun hc => ?_)
                · have h := h.1 hc
                  refine s_iconst C (d_of DX10_stepOf 76 rfl) (by decide) ?_
                  exact s_ireturn C (d_of DX10_stepOf 77 rfl) h
                · have h := h.2 hc
                  refine s_iconst C (d_of DX10_stepOf 74 rfl) (by decide) ?_
                  refine s_goto C (d_of DX10_stepOf 75 rfl) rfl ?_
                  exact s_ireturn C (d_of DX10_stepOf 77 rfl) h
        · have h := h.2 hc
          refine s_iload_n C (d_of DX10_stepOf 55 rfl) rfl ?_
          refine s_iconst C (d_of DX10_stepOf 56 rfl) (by decide) ?_
          refine s_icmpne C (d_of DX10_stepOf 57 rfl) rfl (fun hc => ?_) (fun hc => ?_)
          · have h := h.1 hc
            refine s_bipush C (d_of DX10_stepOf 60 rfl) ⟨rfl, by decide, by decide⟩ ?_
            exact s_ireturn C (d_of DX10_stepOf 61 rfl) h
          · have h := h.2 hc
            refine s_iconst C (d_of DX10_stepOf 58 rfl) (by decide) ?_
            refine s_goto C (d_of DX10_stepOf 59 rfl) rfl ?_
            exact s_ireturn C (d_of DX10_stepOf 61 rfl) h
  · have h := h.2.2.2.2.1 hc
    refine s_tabIn C (d_of DX10_stepOf 4 rfl) hc (by decide) (by decide) rfl rfl ?_
    refine s_iload_n C (d_of DX10_stepOf 22 rfl) rfl ?_
    refine s_ifeq C (d_of DX10_stepOf 23 rfl) rfl (fun hc => ?_) (fun hc => ?_)
    · have h := h.1 (b2i_0.mp hc)
      refine s_iconst C (d_of DX10_stepOf 26 rfl) (by decide) ?_
      exact s_ireturn C (d_of DX10_stepOf 27 rfl) h
    · have h := h.2 (b2i_n0 hc)
      refine s_iconst C (d_of DX10_stepOf 24 rfl) (by decide) ?_
      refine s_goto C (d_of DX10_stepOf 25 rfl) rfl ?_
      exact s_ireturn C (d_of DX10_stepOf 27 rfl) h
  · have h := h.2.2.2.2.2.1 hc
    refine s_tabIn C (d_of DX10_stepOf 4 rfl) hc (by decide) (by decide) rfl rfl ?_
    refine s_iload_n C (d_of DX10_stepOf 28 rfl) rfl ?_
    refine s_bipush C (d_of DX10_stepOf 29 rfl) ⟨rfl, by decide, by decide⟩ ?_
    refine s_icmpne C (d_of DX10_stepOf 30 rfl) rfl (fun hc => ?_) (fun hc => ?_)
    · have h := h.1 hc
      refine s_iconst C (d_of DX10_stepOf 33 rfl) (by decide) ?_
      exact s_ireturn C (d_of DX10_stepOf 34 rfl) h
    · have h := h.2 hc
      refine s_bipush C (d_of DX10_stepOf 31 rfl) ⟨rfl, by decide, by decide⟩ ?_
      refine s_goto C (d_of DX10_stepOf 32 rfl) rfl ?_
      exact s_ireturn C (d_of DX10_stepOf 34 rfl) h
  · have h := h.2.2.2.2.2.2.1 hc
    refine s_tabIn C (d_of DX10_stepOf 4 rfl) hc (by decide) (by decide) rfl rfl ?_
    refine s_iload_n C (d_of DX10_stepOf 35 rfl) rfl ?_
    refine s_ifeq C (d_of DX10_stepOf 36 rfl) rfl (fun hc => ?_) (fun hc => ?_)
    · have h := h.1 (b2i_0.mp hc)
      refine s_iconst C (d_of DX10_stepOf 39 rfl) (by decide) ?_
      exact s_ireturn C (d_of DX10_stepOf 40 rfl) h
    · have h := h.2 (b2i_n0 hc)
      refine s_bipush C (d_of DX10_stepOf 37 rfl) ⟨rfl, by decide, by decide⟩ ?_
      refine s_goto C (d_of DX10_stepOf 38 rfl) rfl ?_
      exact s_ireturn C (d_of DX10_stepOf 40 rfl) h
  · have h := h.2.2.2.2.2.2.2 hc
    refine s_tabIn C (d_of DX10_stepOf 4 rfl) hc (by decide) (by decide) rfl rfl ?_
    refine s_iload_n C (d_of DX10_stepOf 41 rfl) rfl ?_
    refine s_ifeq C (d_of DX10_stepOf 42 rfl) rfl (fun hc => ?_) (fun hc => ?_)
    · have h := h.1 (b2i_0.mp hc)
      refine s_iconst C (d_of DX10_stepOf 45 rfl) (by decide) ?_
      exact s_ireturn C (d_of DX10_stepOf 46 rfl) h
    · have h := h.2 (b2i_n0 hc)
      refine s_bipush C (d_of DX10_stepOf 43 rfl) ⟨rfl, by decide, by decide⟩ ?_
      refine s_goto C (d_of DX10_stepOf 44 rfl) rfl ?_
      exact s_ireturn C (d_of DX10_stepOf 46 rfl) h
theorem E_X10_stepOf {G : GP} {l : Launch} {P : Int → NS → MM → Prop} {l0 : Int} {l1 : Int} {l2 : Int} {w : NS} {M : MM} (h : inR l0 → inR l1 → inR l2 → ∀ X : BX, X.2.1 = l → CX_X10_stepOf G X → A_X10_stepOf_0 G X P l0 l1 l2 w M) : CT_X10_stepOf G l [(0, l0), (0, l1), (0, l2)] w M P :=
  CT.of RX10 "stepOf" (by decide +kernel) rfl rfl rfl (Nat.le_of_ble_eq_true rfl) (fun hr X hX C => h (hr (0, l0) (by simp)) (hr (0, l1) (by simp)) (hr (0, l2) (by simp)) X hX C)
def A_X10_fault_0 (G : GP) (X : BX) (P : Int → NS → MM → Prop) (w : NS) (M : MM) : Prop := WA true G X (QM G X true 0 P) 5 0 [(2, 41), (3, 0), (3, 0), (3, 0), (3, 0)] [] 0 0 w M
def A_X10_fault_6 (G : GP) (X : BX) (P : Int → NS → MM → Prop) (l1 : Int) (l2 : Int) (l3 : Int) (w : NS) (M : MM) : Prop := WA true G X (QM G X true 0 P) 5 6 [(2, 41), (0, l1), (0, l2), (0, l3), (3, 0)] [] 0 0 w M
set_option maxHeartbeats 4000000 in
set_option maxRecDepth 100000 in
theorem B_X10_fault_0 {G : GP} {X : BX} {P : Int → NS → MM → Prop} {w : NS} {M : MM} (C : CX_X10_fault G X) (h : A_X10_fault_6 G X P 0 0 0 w M) : A_X10_fault_0 G X P w M := by
  unfold A_X10_fault_0
  refine s_iconst C (d_of DX10_fault 0 rfl) (by decide) ?_
  refine s_istore_n (ls' := [(2, 41), (0, 0), (3, 0), (3, 0), (3, 0)]) C (d_of DX10_fault 1 rfl) (by decide) rfl rfl ?_
  refine s_iconst C (d_of DX10_fault 2 rfl) (by decide) ?_
  refine s_istore_n (ls' := [(2, 41), (0, 0), (0, 0), (3, 0), (3, 0)]) C (d_of DX10_fault 3 rfl) (by decide) rfl rfl ?_
  refine s_iconst C (d_of DX10_fault 4 rfl) (by decide) ?_
  refine s_istore_n (ls' := [(2, 41), (0, 0), (0, 0), (0, 0), (3, 0)]) C (d_of DX10_fault 5 rfl) (by decide) rfl rfl ?_
  exact h
set_option maxHeartbeats 4000000 in
set_option maxRecDepth 100000 in
theorem B_X10_fault_6 {G : GP} {X : BX} {P : Int → NS → MM → Prop} {l1 : Int} {l2 : Int} {l3 : Int} {w : NS} {M : MM} (C : CX_X10_fault G X) (h : ((((M 57 10) ≤ l3) → (((l1 = 1) → (((l2 ≠ 0) → P (M 57 10) w M) ∧ ((¬ (l2 ≠ 0)) → P (-6) w M))) ∧ ((¬ (l1 = 1)) → (((l1 = 2) → (((l2 ≠ 0) → P (M 57 10) w M) ∧ ((¬ (l2 ≠ 0)) → P (-6) w M))) ∧ ((¬ (l1 = 2)) → (((l1 = 7) → (((l2 ≠ 0) → P (M 57 10) w M) ∧ ((¬ (l2 ≠ 0)) → P (-6) w M))) ∧ ((¬ (l1 = 7)) → (((l1 ≠ 8) → P (M 57 10) w M) ∧ ((¬ (l1 ≠ 8)) → (((l2 ≠ 0) → P (M 57 10) w M) ∧ ((¬ (l2 ≠ 0)) → P (-6) w M))))))))))) ∧ ((¬ ((M 57 10) ≤ l3)) → (inR (400 + l3)) ∧ (0 ≤ (400 + l3)) ∧ ((400 + l3) < 440) ∧ ∃ Q5 : Int → NS → MM → Prop, CT_X10_stepOf G X.2.1 [(0, l1), (0, (M 56 (400 + l3))), (0, l2)] w M Q5 ∧ ∀ (z5 : Int) (w5 : NS) (M5 : MM), Q5 z5 w5 M5 → (((0 ≤ z5) → ((((M 56 (400 + l3)) ≠ 40) → ((((M 56 (400 + l3)) ≠ 41) → (inR (l2 + 0)) ∧ (inR (l3 + 1)) ∧ A_X10_fault_6 G X P z5 (l2 + 0) (l3 + 1) w5 M5) ∧ ((¬ ((M 56 (400 + l3)) ≠ 41)) → (inR (l2 + (-1))) ∧ (inR (l3 + 1)) ∧ A_X10_fault_6 G X P z5 (l2 + (-1)) (l3 + 1) w5 M5))) ∧ ((¬ ((M 56 (400 + l3)) ≠ 40)) → (inR (l2 + 1)) ∧ (inR (l3 + 1)) ∧ A_X10_fault_6 G X P z5 (l2 + 1) (l3 + 1) w5 M5))) ∧ ((¬ (0 ≤ z5)) → P l3 w5 M5))))) : A_X10_fault_6 G X P l1 l2 l3 w M := by
  unfold A_X10_fault_6
  refine s_iload_n C (d_of DX10_fault 6 rfl) rfl ?_
  refine s_aload_n C (d_of DX10_fault 7 rfl) rfl ?_
  refine WA.fix (fun hF1 => ?_)
  refine gf_X10_55 C (sh_41 hF1) (d_of DX10_fault 8 rfl) (fx_41_19 hF1) ?_
  refine s_bipush C (d_of DX10_fault 9 rfl) ⟨rfl, by decide, by decide⟩ ?_
  refine s_iald (v0 := (M 57 10)) C (sh_57 hF1) (by decide) (by decide) (d_of DX10_fault 10 rfl) rfl ?_
  refine s_icmpge C (d_of DX10_fault 11 rfl) rfl (fun hc => ?_) (fun hc => ?_)
  · have h := h.1 hc
    refine s_iload_n C (d_of DX10_fault 44 rfl) rfl ?_
    refine s_iconst C (d_of DX10_fault 45 rfl) (by decide) ?_
    refine s_icmpeq C (d_of DX10_fault 46 rfl) rfl (fun hc => ?_) (fun hc => ?_)
    · have h := h.1 hc
      refine s_iconst C (d_of DX10_fault 56 rfl) (by decide) ?_
      refine s_goto C (d_of DX10_fault 57 rfl) rfl ?_
      refine s_istore_n (ls' := [(2, 41), (0, l1), (0, l2), (0, 1), (3, 0)]) C (d_of DX10_fault 59 rfl) (by decide) rfl rfl ?_
      refine s_iload_n C (d_of DX10_fault 60 rfl) rfl ?_
      refine s_ifeq C (d_of DX10_fault 61 rfl) rfl (fun hc => absurd hc (by decide)) (fun hc => ?_)
      refine s_iload_n C (d_of DX10_fault 62 rfl) rfl ?_
      refine s_ifne C (d_of DX10_fault 63 rfl) rfl (fun hc => ?_) (fun hc => ?_)
      · have h := h.1 hc
        refine s_aload_n C (d_of DX10_fault 66 rfl) rfl ?_
        refine gf_X10_55 C (sh_41 hF1) (d_of DX10_fault 67 rfl) (fx_41_19 hF1) ?_
        refine s_bipush C (d_of DX10_fault 68 rfl) ⟨rfl, by decide, by decide⟩ ?_
        refine s_iald (v0 := (M 57 10)) C (sh_57 hF1) (by decide) (by decide) (d_of DX10_fault 69 rfl) rfl ?_
        exact s_ireturn C (d_of DX10_fault 70 rfl) h
      · have h := h.2 hc
        refine s_bipush C (d_of DX10_fault 64 rfl) ⟨rfl, by decide, by decide⟩ ?_
        refine s_goto C (d_of DX10_fault 65 rfl) rfl ?_
        exact s_ireturn C (d_of DX10_fault 70 rfl) h
    · have h := h.2 hc
      refine s_iload_n C (d_of DX10_fault 47 rfl) rfl ?_
      refine s_iconst C (d_of DX10_fault 48 rfl) (by decide) ?_
      refine s_icmpeq C (d_of DX10_fault 49 rfl) rfl (fun hc => ?_) (fun hc => ?_)
      · have h := h.1 hc
        refine s_iconst C (d_of DX10_fault 56 rfl) (by decide) ?_
        refine s_goto C (d_of DX10_fault 57 rfl) rfl ?_
        refine s_istore_n (ls' := [(2, 41), (0, l1), (0, l2), (0, 1), (3, 0)]) C (d_of DX10_fault 59 rfl) (by decide) rfl rfl ?_
        refine s_iload_n C (d_of DX10_fault 60 rfl) rfl ?_
        refine s_ifeq C (d_of DX10_fault 61 rfl) rfl (fun hc => absurd hc (by decide)) (fun hc => ?_)
        refine s_iload_n C (d_of DX10_fault 62 rfl) rfl ?_
        refine s_ifne C (d_of DX10_fault 63 rfl) rfl (fun hc => ?_) (fun hc => ?_)
        · have h := h.1 hc
          refine s_aload_n C (d_of DX10_fault 66 rfl) rfl ?_
          refine gf_X10_55 C (sh_41 hF1) (d_of DX10_fault 67 rfl) (fx_41_19 hF1) ?_
          refine s_bipush C (d_of DX10_fault 68 rfl) ⟨rfl, by decide, by decide⟩ ?_
          refine s_iald (v0 := (M 57 10)) C (sh_57 hF1) (by decide) (by decide) (d_of DX10_fault 69 rfl) rfl ?_
          exact s_ireturn C (d_of DX10_fault 70 rfl) h
        · have h := h.2 hc
          refine s_bipush C (d_of DX10_fault 64 rfl) ⟨rfl, by decide, by decide⟩ ?_
          refine s_goto C (d_of DX10_fault 65 rfl) rfl ?_
          exact s_ireturn C (d_of DX10_fault 70 rfl) h
      · have h := h.2 hc
        refine s_iload_n C (d_of DX10_fault 50 rfl) rfl ?_
        refine s_bipush C (d_of DX10_fault 51 rfl) ⟨rfl, by decide, by decide⟩ ?_
        refine s_icmpeq C (d_of DX10_fault 52 rfl) rfl (fun hc => ?_) (fun hc => ?_)
        · have h := h.1 hc
          refine s_iconst C (d_of DX10_fault 56 rfl) (by decide) ?_
          refine s_goto C (d_of DX10_fault 57 rfl) rfl ?_
          refine s_istore_n (ls' := [(2, 41), (0, l1), (0, l2), (0, 1), (3, 0)]) C (d_of DX10_fault 59 rfl) (by decide) rfl rfl ?_
          refine s_iload_n C (d_of DX10_fault 60 rfl) rfl ?_
          refine s_ifeq C (d_of DX10_fault 61 rfl) rfl (fun hc => absurd hc (by decide)) (fun hc => ?_)
          refine s_iload_n C (d_of DX10_fault 62 rfl) rfl ?_
          refine s_ifne C (d_of DX10_fault 63 rfl) rfl (fun hc => ?_) (fun hc => ?_)
          · have h := h.1 hc
            refine s_aload_n C (d_of DX10_fault 66 rfl) rfl ?_
            refine gf_X10_55 C (sh_41 hF1) (d_of DX10_fault 67 rfl) (fx_41_19 hF1) ?_
            refine s_bipush C (d_of DX10_fault 68 rfl) ⟨rfl, by decide, by decide⟩ ?_
            refine s_iald (v0 := (M 57 10)) C (sh_57 hF1) (by decide) (by decide) (d_of DX10_fault 69 rfl) rfl ?_
            exact s_ireturn C (d_of DX10_fault 70 rfl) h
          · have h := h.2 hc
            refine s_bipush C (d_of DX10_fault 64 rfl) ⟨rfl, by decide, by decide⟩ ?_
            refine s_goto C (d_of DX10_fault 65 rfl) rfl ?_
            exact s_ireturn C (d_of DX10_fault 70 rfl) h
        · have h := h.2 hc
          refine s_iload_n C (d_of DX10_fault 53 rfl) rfl ?_
          refine s_bipush C (d_of DX10_fault 54 rfl) ⟨rfl, by decide, by decide⟩ ?_
          refine s_icmpne C (d_of DX10_fault 55 rfl) rfl (fun hc => ?_) (fun hc => ?_)
          · have h := h.1 hc
            refine s_iconst C (d_of DX10_fault 58 rfl) (by decide) ?_
            refine s_istore_n (ls' := [(2, 41), (0, l1), (0, l2), (0, 0), (3, 0)]) C (d_of DX10_fault 59 rfl) (by decide) rfl rfl ?_
            refine s_iload_n C (d_of DX10_fault 60 rfl) rfl ?_
            refine s_ifeq C (d_of DX10_fault 61 rfl) rfl (fun hc => ?_) (fun hc => absurd (by decide) hc)
            refine s_aload_n C (d_of DX10_fault 66 rfl) rfl ?_
            refine gf_X10_55 C (sh_41 hF1) (d_of DX10_fault 67 rfl) (fx_41_19 hF1) ?_
            refine s_bipush C (d_of DX10_fault 68 rfl) ⟨rfl, by decide, by decide⟩ ?_
            refine s_iald (v0 := (M 57 10)) C (sh_57 hF1) (by decide) (by decide) (d_of DX10_fault 69 rfl) rfl ?_
            exact s_ireturn C (d_of DX10_fault 70 rfl) h
          · have h := h.2 hc
            refine s_iconst C (d_of DX10_fault 56 rfl) (by decide) ?_
            refine s_goto C (d_of DX10_fault 57 rfl) rfl ?_
            refine s_istore_n (ls' := [(2, 41), (0, l1), (0, l2), (0, 1), (3, 0)]) C (d_of DX10_fault 59 rfl) (by decide) rfl rfl ?_
            refine s_iload_n C (d_of DX10_fault 60 rfl) rfl ?_
            refine s_ifeq C (d_of DX10_fault 61 rfl) rfl (fun hc => absurd hc (by decide)) (fun hc => ?_)
            refine s_iload_n C (d_of DX10_fault 62 rfl) rfl ?_
            refine s_ifne C (d_of DX10_fault 63 rfl) rfl (fun hc => ?_) (fun hc => ?_)
            · have h := h.1 hc
              refine s_aload_n C (d_of DX10_fault 66 rfl) rfl ?_
              refine gf_X10_55 C (sh_41 hF1) (d_of DX10_fault 67 rfl) (fx_41_19 hF1) ?_
              refine s_bipush C (d_of DX10_fault 68 rfl) ⟨rfl, by decide, by decide⟩ ?_
              refine s_iald (v0 := (M 57 10)) C (sh_57 hF1) (by decide) (by decide) (d_of DX10_fault 69 rfl) rfl ?_
              exact s_ireturn C (d_of DX10_fault 70 rfl) h
            · have h := h.2 hc
              refine s_bipush C (d_of DX10_fault 64 rfl) ⟨rfl, by decide, by decide⟩ ?_
              refine s_goto C (d_of DX10_fault 65 rfl) rfl ?_
              exact s_ireturn C (d_of DX10_fault 70 rfl) h
  · have h := h.2 hc
    refine s_aload_n C (d_of DX10_fault 12 rfl) rfl ?_
    refine gf_X10_52 C (sh_41 hF1) (d_of DX10_fault 13 rfl) (fx_41_18 hF1) ?_
    refine s_sipush C (d_of DX10_fault 14 rfl) ⟨rfl, by decide, by decide⟩ ?_
    refine s_iload_n C (d_of DX10_fault 15 rfl) rfl ?_
    obtain ⟨o2, h⟩ := h
    refine s_iadd C (d_of DX10_fault 16 rfl) o2 ?_
    obtain ⟨o3, h⟩ := h
    obtain ⟨o4, h⟩ := h
    refine s_iald (v0 := (M 56 (400 + l3))) C (sh_56 hF1) o3 o4 (d_of DX10_fault 17 rfl) rfl ?_
    refine s_istore (ls' := [(2, 41), (0, l1), (0, l2), (0, l3), (0, (M 56 (400 + l3)))]) C (d_of DX10_fault 18 rfl) (by decide) rfl rfl ?_
    refine s_iload_n C (d_of DX10_fault 19 rfl) rfl ?_
    refine s_iload C (d_of DX10_fault 20 rfl) rfl ?_
    refine s_iload_n C (d_of DX10_fault 21 rfl) rfl ?_
    obtain ⟨Q5, hKQ5, h⟩ := h
    refine s_callS (av := [(0, l1), (0, (M 56 (400 + l3))), (0, l2)]) (rest := []) (mc := 0) (ms := 0) C (d_of DX10_fault 22 rfl) lk_X10_212 rfl rfl (Nat.le_of_ble_eq_true rfl) (by decide) (by decide) hKQ5 (fun z5 w5 M5 hq => ?_)
    have h := h z5 w5 M5 hq
    refine s_istore_n (ls' := [(2, 41), (0, z5), (0, l2), (0, l3), (0, (M 56 (400 + l3)))]) C (d_of DX10_fault 23 rfl) (by decide) rfl rfl ?_
    refine s_iload_n C (d_of DX10_fault 24 rfl) rfl ?_
    refine s_ifge C (d_of DX10_fault 25 rfl) rfl (fun hc => ?_) (fun hc => ?_)
    · have h := h.1 hc
      refine s_iload_n C (d_of DX10_fault 28 rfl) rfl ?_
      refine s_iload C (d_of DX10_fault 29 rfl) rfl ?_
      refine s_bipush C (d_of DX10_fault 30 rfl) ⟨rfl, by decide, by decide⟩ ?_
      refine s_icmpne C (d_of DX10_fault 31 rfl) rfl (fun hc => ?_) (fun hc => ?_)
      · have h := h.1 hc
        refine s_iload C (d_of DX10_fault 34 rfl) rfl ?_
        refine s_bipush C (d_of DX10_fault 35 rfl) ⟨rfl, by decide, by decide⟩ ?_
        refine s_icmpne C (d_of DX10_fault 36 rfl) rfl (fun hc => ?_) (fun hc => ?_)
        · have h := h.1 hc
          refine s_iconst C (d_of DX10_fault 39 rfl) (by decide) ?_
          obtain ⟨o6, h⟩ := h
          refine s_iadd C (d_of DX10_fault 40 rfl) o6 ?_
          refine s_istore_n (ls' := [(2, 41), (0, z5), (0, (l2 + 0)), (0, l3), (0, (M 56 (400 + l3)))]) C (d_of DX10_fault 41 rfl) (by decide) rfl rfl ?_
          obtain ⟨o7, h⟩ := h
          refine s_iinc (ls' := [(2, 41), (0, z5), (0, (l2 + 0)), (0, (l3 + 1)), (0, (M 56 (400 + l3)))]) C (d_of DX10_fault 42 rfl) (by decide) rfl o7 rfl rfl ?_
          refine s_goto C (d_of DX10_fault 43 rfl) rfl ?_
          exact WA.wk h ⟨Or.inr rfl, Or.inr rfl, Or.inr rfl, Or.inr rfl, Or.inl rfl, trivial⟩
        · have h := h.2 hc
          refine s_iconst C (d_of DX10_fault 37 rfl) (by decide) ?_
          refine s_goto C (d_of DX10_fault 38 rfl) rfl ?_
          obtain ⟨o8, h⟩ := h
          refine s_iadd C (d_of DX10_fault 40 rfl) o8 ?_
          refine s_istore_n (ls' := [(2, 41), (0, z5), (0, (l2 + (-1))), (0, l3), (0, (M 56 (400 + l3)))]) C (d_of DX10_fault 41 rfl) (by decide) rfl rfl ?_
          obtain ⟨o9, h⟩ := h
          refine s_iinc (ls' := [(2, 41), (0, z5), (0, (l2 + (-1))), (0, (l3 + 1)), (0, (M 56 (400 + l3)))]) C (d_of DX10_fault 42 rfl) (by decide) rfl o9 rfl rfl ?_
          refine s_goto C (d_of DX10_fault 43 rfl) rfl ?_
          exact WA.wk h ⟨Or.inr rfl, Or.inr rfl, Or.inr rfl, Or.inr rfl, Or.inl rfl, trivial⟩
      · have h := h.2 hc
        refine s_iconst C (d_of DX10_fault 32 rfl) (by decide) ?_
        refine s_goto C (d_of DX10_fault 33 rfl) rfl ?_
        obtain ⟨o10, h⟩ := h
        refine s_iadd C (d_of DX10_fault 40 rfl) o10 ?_
        refine s_istore_n (ls' := [(2, 41), (0, z5), (0, (l2 + 1)), (0, l3), (0, (M 56 (400 + l3)))]) C (d_of DX10_fault 41 rfl) (by decide) rfl rfl ?_
        obtain ⟨o11, h⟩ := h
        refine s_iinc (ls' := [(2, 41), (0, z5), (0, (l2 + 1)), (0, (l3 + 1)), (0, (M 56 (400 + l3)))]) C (d_of DX10_fault 42 rfl) (by decide) rfl o11 rfl rfl ?_
        refine s_goto C (d_of DX10_fault 43 rfl) rfl ?_
        exact WA.wk h ⟨Or.inr rfl, Or.inr rfl, Or.inr rfl, Or.inr rfl, Or.inl rfl, trivial⟩
    · have h := h.2 hc
      refine s_iload_n C (d_of DX10_fault 26 rfl) rfl ?_
      exact s_ireturn C (d_of DX10_fault 27 rfl) h
theorem E_X10_fault {G : GP} {l : Launch} {P : Int → NS → MM → Prop} {w : NS} {M : MM} (h : ∀ X : BX, X.2.1 = l → CX_X10_fault G X → A_X10_fault_0 G X P w M) : CT_X10_fault G l [(2, 41)] w M P :=
  CT.of RX10 "fault" (by decide +kernel) rfl rfl rfl (Nat.le_of_ble_eq_true rfl) (fun hr X hX C => h  X hX C)
def A_X10_order_0 (G : GP) (X : BX) (P : Int → NS → MM → Prop) (l1 : Int) (l2 : Int) (l3 : Int) (l4 : Int) (l5 : Int) (l6 : Int) (w : NS) (M : MM) : Prop := WA true G X (QM G X true 0 P) 8 0 [(2, 41), (0, l1), (0, l2), (0, l3), (0, l4), (0, l5), (0, l6), (3, 0)] [] 0 0 w M
def A_X10_order_86 (G : GP) (X : BX) (P : Int → NS → MM → Prop) (l1 : Int) (l2 : Int) (l3 : Int) (l4 : Int) (l5 : Int) (l6 : Int) (l7 : Int) (w : NS) (M : MM) : Prop := WA true G X (QM G X true 0 P) 8 86 [(2, 41), (0, l1), (0, l2), (0, l3), (0, l4), (0, l5), (0, l6), (0, l7)] [] 0 0 w M
set_option maxHeartbeats 4000000 in
set_option maxRecDepth 100000 in
theorem B_X10_order_0 {G : GP} {X : BX} {P : Int → NS → MM → Prop} {l1 : Int} {l2 : Int} {l3 : Int} {l4 : Int} {l5 : Int} {l6 : Int} {w : NS} {M : MM} (C : CX_X10_order G X) (h : (((¬ (0 ≤ l1 ∧ l1 ≤ 5)) → P (-2) w M) ∧ (((0 ≤ l1 ∧ l1 ≤ 5)) → (((¬ (0 ≤ l2 ∧ l2 ≤ 1023)) → P (-2) w M) ∧ (((0 ≤ l2 ∧ l2 ≤ 1023)) → (((¬ (0 ≤ l3 ∧ l3 ≤ 99)) → P (-2) w M) ∧ (((0 ≤ l3 ∧ l3 ≤ 99)) → (((¬ (0 ≤ l4 ∧ l4 ≤ 99)) → P (-2) w M) ∧ (((0 ≤ l4 ∧ l4 ≤ 99)) → (((l4 < l3) → P (-2) w M) ∧ ((¬ (l4 < l3)) → ((((0 ≤ l5 ∧ l5 ≤ 20)) → ((((M 41 26) ≠ 10) → ∃ Q7 : Int → NS → MM → Prop, CT_X10_fault G X.2.1 [(2, 41)] w M Q7 ∧ ∀ (z7 : Int) (w7 : NS) (M7 : MM), Q7 z7 w7 M7 → (((z7 < 0) → A_X10_order_86 G X P l1 l2 l3 l4 l5 l6 0 w7 M7) ∧ ((¬ (z7 < 0)) → P (-5) w7 M7))) ∧ ((¬ ((M 41 26) ≠ 10)) → P (-4) w M))) ∧ ((¬ (0 ≤ l5 ∧ l5 ≤ 20)) → P (-2) w M))))))))))))) : A_X10_order_0 G X P l1 l2 l3 l4 l5 l6 w M := by
  unfold A_X10_order_0
  refine s_iload_n C (d_of DX10_order 0 rfl) rfl ?_
  refine s_i2l C (d_of DX10_order 1 rfl) ?_
  refine s_lconst (z := 0) C (d_of DX10_order 2 rfl) ⟨rfl, by decide⟩ ?_
  refine s_ldc2 (z := 5) C (d_of DX10_order 3 rfl) (mG (wd_965) rfl) ⟨rfl, by decide⟩ ?_
  refine s_callS (av := [(1, l1), (1, 0), (1, 5)]) (rest := []) (mc := 0) (ms := 0) C (d_of DX10_order 4 rfl) lk_X10_139 rfl rfl (Nat.le_of_ble_eq_true rfl) (by decide) (by decide) (pc_X10_in) (fun z1 wz1 Mz1 hq => ?_)
  obtain ⟨hq1, hq2, hq3⟩ := hq
  have hq2 := hq2.symm
  have hq3 := hq3.symm
  subst hq1 hq2 hq3
  refine s_ifeq C (d_of DX10_order 5 rfl) rfl (fun hc => ?_) (fun hc => ?_)
  · have h := h.1 (b2i_0.mp hc)
    refine s_bipush C (d_of DX10_order 27 rfl) ⟨rfl, by decide, by decide⟩ ?_
    exact s_ireturn C (d_of DX10_order 28 rfl) h
  · have h := h.2 (b2i_n0 hc)
    refine s_iload_n C (d_of DX10_order 6 rfl) rfl ?_
    refine s_i2l C (d_of DX10_order 7 rfl) ?_
    refine s_lconst (z := 0) C (d_of DX10_order 8 rfl) ⟨rfl, by decide⟩ ?_
    refine s_ldc2 (z := 1023) C (d_of DX10_order 9 rfl) (mG (wd_1044) rfl) ⟨rfl, by decide⟩ ?_
    refine s_callS (av := [(1, l2), (1, 0), (1, 1023)]) (rest := []) (mc := 0) (ms := 0) C (d_of DX10_order 10 rfl) lk_X10_139 rfl rfl (Nat.le_of_ble_eq_true rfl) (by decide) (by decide) (pc_X10_in) (fun z2 wz2 Mz2 hq => ?_)
    obtain ⟨hq1, hq2, hq3⟩ := hq
    have hq2 := hq2.symm
    have hq3 := hq3.symm
    subst hq1 hq2 hq3
    refine s_ifeq C (d_of DX10_order 11 rfl) rfl (fun hc => ?_) (fun hc => ?_)
    · have h := h.1 (b2i_0.mp hc)
      refine s_bipush C (d_of DX10_order 27 rfl) ⟨rfl, by decide, by decide⟩ ?_
      exact s_ireturn C (d_of DX10_order 28 rfl) h
    · have h := h.2 (b2i_n0 hc)
      refine s_iload_n C (d_of DX10_order 12 rfl) rfl ?_
      refine s_callS (av := [(0, l3)]) (rest := []) (mc := 0) (ms := 0) C (d_of DX10_order 13 rfl) lk_X10_152 rfl rfl (Nat.le_of_ble_eq_true rfl) (by decide) (by decide) (pc_X10_isDay) (fun z3 wz3 Mz3 hq => ?_)
      obtain ⟨hq1, hq2, hq3⟩ := hq
      have hq2 := hq2.symm
      have hq3 := hq3.symm
      subst hq1 hq2 hq3
      refine s_ifeq C (d_of DX10_order 14 rfl) rfl (fun hc => ?_) (fun hc => ?_)
      · have h := h.1 (b2i_0.mp hc)
        refine s_bipush C (d_of DX10_order 27 rfl) ⟨rfl, by decide, by decide⟩ ?_
        exact s_ireturn C (d_of DX10_order 28 rfl) h
      · have h := h.2 (b2i_n0 hc)
        refine s_iload C (d_of DX10_order 15 rfl) rfl ?_
        refine s_callS (av := [(0, l4)]) (rest := []) (mc := 0) (ms := 0) C (d_of DX10_order 16 rfl) lk_X10_152 rfl rfl (Nat.le_of_ble_eq_true rfl) (by decide) (by decide) (pc_X10_isDay) (fun z4 wz4 Mz4 hq => ?_)
        obtain ⟨hq1, hq2, hq3⟩ := hq
        have hq2 := hq2.symm
        have hq3 := hq3.symm
        subst hq1 hq2 hq3
        refine s_ifeq C (d_of DX10_order 17 rfl) rfl (fun hc => ?_) (fun hc => ?_)
        · have h := h.1 (b2i_0.mp hc)
          refine s_bipush C (d_of DX10_order 27 rfl) ⟨rfl, by decide, by decide⟩ ?_
          exact s_ireturn C (d_of DX10_order 28 rfl) h
        · have h := h.2 (b2i_n0 hc)
          refine s_iload_n C (d_of DX10_order 18 rfl) rfl ?_
          refine s_iload C (d_of DX10_order 19 rfl) rfl ?_
          refine s_icmpgt C (d_of DX10_order 20 rfl) rfl (fun hc => ?_) (fun hc => ?_)
          · have h := h.1 hc
            refine s_bipush C (d_of DX10_order 27 rfl) ⟨rfl, by decide, by decide⟩ ?_
            exact s_ireturn C (d_of DX10_order 28 rfl) h
          · have h := h.2 hc
            refine s_iload C (d_of DX10_order 21 rfl) rfl ?_
            refine s_i2l C (d_of DX10_order 22 rfl) ?_
            refine s_lconst (z := 0) C (d_of DX10_order 23 rfl) ⟨rfl, by decide⟩ ?_
            refine s_ldc2 (z := 20) C (d_of DX10_order 24 rfl) (mG (wd_1045) rfl) ⟨rfl, by decide⟩ ?_
            refine s_callS (av := [(1, l5), (1, 0), (1, 20)]) (rest := []) (mc := 0) (ms := 0) C (d_of DX10_order 25 rfl) lk_X10_139 rfl rfl (Nat.le_of_ble_eq_true rfl) (by decide) (by decide) (pc_X10_in) (fun z5 wz5 Mz5 hq => ?_)
            obtain ⟨hq1, hq2, hq3⟩ := hq
            have hq2 := hq2.symm
            have hq3 := hq3.symm
            subst hq1 hq2 hq3
            refine s_ifne C (d_of DX10_order 26 rfl) rfl (fun hc => ?_) (fun hc => ?_)
            · have h := h.1 (b2i_n0 hc)
              refine s_aload_n C (d_of DX10_order 29 rfl) rfl ?_
              refine WA.fix (fun hF6 => ?_)
              refine gf_X10_220 (v0 := (M 41 26)) C (sh_41 hF6) (d_of DX10_order 30 rfl) rfl ?_
              refine s_bipush C (d_of DX10_order 31 rfl) ⟨rfl, by decide, by decide⟩ ?_
              refine s_icmpne C (d_of DX10_order 32 rfl) rfl (fun hc => ?_) (fun hc => ?_)
              · have h := h.1 hc
                refine s_aload_n C (d_of DX10_order 35 rfl) rfl ?_
                obtain ⟨Q7, hKQ7, h⟩ := h
                refine s_callV (ci := 10) (av := []) (rest := []) (mc := 0) (ms := 0) C (d_of DX10_order 36 rfl) lk_X10_223 (sh_41 hF6) (by decide) rfl rfl rfl (Nat.le_of_ble_eq_true rfl) (by decide) (by decide) hKQ7 (fun z7 w7 M7 hq => ?_)
                have h := h z7 w7 M7 hq
                refine s_iflt C (d_of DX10_order 37 rfl) rfl (fun hc => ?_) (fun hc => ?_)
                · have h := h.1 hc
                  refine s_iconst C (d_of DX10_order 40 rfl) (by decide) ?_
                  refine s_istore (ls' := [(2, 41), (0, l1), (0, l2), (0, l3), (0, l4), (0, l5), (0, l6), (0, 0)]) C (d_of DX10_order 41 rfl) (by decide) rfl rfl ?_
                  exact h
                · have h := h.2 hc
                  refine s_bipush C (d_of DX10_order 38 rfl) ⟨rfl, by decide, by decide⟩ ?_
                  exact s_ireturn C (d_of DX10_order 39 rfl) h
              · have h := h.2 hc
                refine s_bipush C (d_of DX10_order 33 rfl) ⟨rfl, by decide, by decide⟩ ?_
                exact s_ireturn C (d_of DX10_order 34 rfl) h
            · have h := h.2 (b2i_nn hc)
              refine s_bipush C (d_of DX10_order 27 rfl) ⟨rfl, by decide, by decide⟩ ?_
              exact s_ireturn C (d_of DX10_order 28 rfl) h
set_option maxHeartbeats 4000000 in
set_option maxRecDepth 100000 in
theorem B_X10_order_86 {G : GP} {X : BX} {P : Int → NS → MM → Prop} {l1 : Int} {l2 : Int} {l3 : Int} {l4 : Int} {l5 : Int} {l6 : Int} {l7 : Int} {w : NS} {M : MM} (C : CX_X10_order G X) (h : ((((M 57 10) ≤ l7) → (0 ≤ (M 41 26)) ∧ ((M 41 26) < 11) ∧ ((M 41 26) < 10) ∧ (l6 = 0 ∨ l6 = 1) ∧ (inR ((M 41 26) + 1)) ∧ (inR (((M 41 26) + 1) - 1)) ∧ P (((M 41 26) + 1) - 1) w (up (up (up (up (up (up (up (up (up M 57 (M 41 26) (M 57 10)) 57 10 0) 58 (M 41 26) l1) 59 (M 41 26) l2) 60 (M 41 26) l3) 61 (M 41 26) l4) 62 (M 41 26) l5) 63 (M 41 26) l6) 41 26 ((M 41 26) + 1))) ∧ ((¬ ((M 57 10) ≤ l7)) → (inR (40 * (M 41 26))) ∧ (inR ((40 * (M 41 26)) + l7)) ∧ (inR (400 + l7)) ∧ (0 ≤ (400 + l7)) ∧ ((400 + l7) < 440) ∧ (0 ≤ ((40 * (M 41 26)) + l7)) ∧ (((40 * (M 41 26)) + l7) < 440) ∧ (inR (l7 + 1)) ∧ A_X10_order_86 G X P l1 l2 l3 l4 l5 l6 (l7 + 1) w (up M 56 ((40 * (M 41 26)) + l7) (M 56 (400 + l7)))))) : A_X10_order_86 G X P l1 l2 l3 l4 l5 l6 l7 w M := by
  unfold A_X10_order_86
  refine s_iload C (d_of DX10_order 42 rfl) rfl ?_
  refine s_aload_n C (d_of DX10_order 43 rfl) rfl ?_
  refine WA.fix (fun hF1 => ?_)
  refine gf_X10_55 C (sh_41 hF1) (d_of DX10_order 44 rfl) (fx_41_19 hF1) ?_
  refine s_bipush C (d_of DX10_order 45 rfl) ⟨rfl, by decide, by decide⟩ ?_
  refine s_iald (v0 := (M 57 10)) C (sh_57 hF1) (by decide) (by decide) (d_of DX10_order 46 rfl) rfl ?_
  refine s_icmpge C (d_of DX10_order 47 rfl) rfl (fun hc => ?_) (fun hc => ?_)
  · have h := h.1 hc
    refine s_aload_n C (d_of DX10_order 65 rfl) rfl ?_
    refine gf_X10_55 C (sh_41 hF1) (d_of DX10_order 66 rfl) (fx_41_19 hF1) ?_
    refine s_aload_n C (d_of DX10_order 67 rfl) rfl ?_
    refine gf_X10_220 (v0 := (M 41 26)) C (sh_41 hF1) (d_of DX10_order 68 rfl) rfl ?_
    refine s_aload_n C (d_of DX10_order 69 rfl) rfl ?_
    refine gf_X10_55 C (sh_41 hF1) (d_of DX10_order 70 rfl) (fx_41_19 hF1) ?_
    refine s_bipush C (d_of DX10_order 71 rfl) ⟨rfl, by decide, by decide⟩ ?_
    refine s_iald (v0 := (M 57 10)) C (sh_57 hF1) (by decide) (by decide) (d_of DX10_order 72 rfl) rfl ?_
    obtain ⟨o2, h⟩ := h
    obtain ⟨o3, h⟩ := h
    refine s_iast C (sh_57 hF1) o2 o3 (fun _ => by decide) (d_of DX10_order 73 rfl) ?_
    refine s_aload_n C (d_of DX10_order 74 rfl) rfl ?_
    refine WA.fix (fun hF4 => ?_)
    refine gf_X10_55 C (sh_41 hF1) (d_of DX10_order 75 rfl) (fx_41_19 hF4) ?_
    refine s_bipush C (d_of DX10_order 76 rfl) ⟨rfl, by decide, by decide⟩ ?_
    refine s_iconst C (d_of DX10_order 77 rfl) (by decide) ?_
    refine s_iast C (sh_57 hF1) (by decide) (by decide) (fun _ => by decide) (d_of DX10_order 78 rfl) ?_
    refine s_aload_n C (d_of DX10_order 79 rfl) rfl ?_
    refine WA.fix (fun hF5 => ?_)
    refine gf_X10_58 C (sh_41 hF1) (d_of DX10_order 80 rfl) (fx_41_20 hF5) ?_
    refine s_aload_n C (d_of DX10_order 81 rfl) rfl ?_
    refine gf_X10_220 (v0 := (M 41 26)) C (sh_41 hF1) (d_of DX10_order 82 rfl) ((up_na (by decide)).trans (up_na (by decide))) ?_
    refine s_iload_n C (d_of DX10_order 83 rfl) rfl ?_
    obtain ⟨o6, h⟩ := h
    refine s_iast C (sh_58 hF5) o2 o6 (fun _ => by decide) (d_of DX10_order 84 rfl) ?_
    refine s_aload_n C (d_of DX10_order 85 rfl) rfl ?_
    refine WA.fix (fun hF7 => ?_)
    refine gf_X10_61 C (sh_41 hF1) (d_of DX10_order 86 rfl) (fx_41_21 hF7) ?_
    refine s_aload_n C (d_of DX10_order 87 rfl) rfl ?_
    refine gf_X10_220 (v0 := (M 41 26)) C (sh_41 hF1) (d_of DX10_order 88 rfl) ((up_na (by decide)).trans ((up_na (by decide)).trans (up_na (by decide)))) ?_
    refine s_iload_n C (d_of DX10_order 89 rfl) rfl ?_
    refine s_iast C (sh_59 hF7) o2 o6 (fun _ => by decide) (d_of DX10_order 90 rfl) ?_
    refine s_aload_n C (d_of DX10_order 91 rfl) rfl ?_
    refine WA.fix (fun hF8 => ?_)
    refine gf_X10_64 C (sh_41 hF1) (d_of DX10_order 92 rfl) (fx_41_22 hF8) ?_
    refine s_aload_n C (d_of DX10_order 93 rfl) rfl ?_
    refine gf_X10_220 (v0 := (M 41 26)) C (sh_41 hF1) (d_of DX10_order 94 rfl) ((up_na (by decide)).trans ((up_na (by decide)).trans ((up_na (by decide)).trans (up_na (by decide))))) ?_
    refine s_iload_n C (d_of DX10_order 95 rfl) rfl ?_
    refine s_iast C (sh_60 hF8) o2 o6 (fun _ => by decide) (d_of DX10_order 96 rfl) ?_
    refine s_aload_n C (d_of DX10_order 97 rfl) rfl ?_
    refine WA.fix (fun hF9 => ?_)
    refine gf_X10_67 C (sh_41 hF1) (d_of DX10_order 98 rfl) (fx_41_23 hF9) ?_
    refine s_aload_n C (d_of DX10_order 99 rfl) rfl ?_
    refine gf_X10_220 (v0 := (M 41 26)) C (sh_41 hF1) (d_of DX10_order 100 rfl) ((up_na (by decide)).trans ((up_na (by decide)).trans ((up_na (by decide)).trans ((up_na (by decide)).trans (up_na (by decide)))))) ?_
    refine s_iload C (d_of DX10_order 101 rfl) rfl ?_
    refine s_iast C (sh_61 hF9) o2 o6 (fun _ => by decide) (d_of DX10_order 102 rfl) ?_
    refine s_aload_n C (d_of DX10_order 103 rfl) rfl ?_
    refine WA.fix (fun hF10 => ?_)
    refine gf_X10_70 C (sh_41 hF1) (d_of DX10_order 104 rfl) (fx_41_24 hF10) ?_
    refine s_aload_n C (d_of DX10_order 105 rfl) rfl ?_
    refine gf_X10_220 (v0 := (M 41 26)) C (sh_41 hF1) (d_of DX10_order 106 rfl) ((up_na (by decide)).trans ((up_na (by decide)).trans ((up_na (by decide)).trans ((up_na (by decide)).trans ((up_na (by decide)).trans (up_na (by decide))))))) ?_
    refine s_iload C (d_of DX10_order 107 rfl) rfl ?_
    refine s_iast C (sh_62 hF10) o2 o6 (fun _ => by decide) (d_of DX10_order 108 rfl) ?_
    refine s_aload_n C (d_of DX10_order 109 rfl) rfl ?_
    refine WA.fix (fun hF11 => ?_)
    refine gf_X10_73 C (sh_41 hF1) (d_of DX10_order 110 rfl) (fx_41_25 hF11) ?_
    refine s_aload_n C (d_of DX10_order 111 rfl) rfl ?_
    refine gf_X10_220 (v0 := (M 41 26)) C (sh_41 hF1) (d_of DX10_order 112 rfl) ((up_na (by decide)).trans ((up_na (by decide)).trans ((up_na (by decide)).trans ((up_na (by decide)).trans ((up_na (by decide)).trans ((up_na (by decide)).trans (up_na (by decide)))))))) ?_
    refine s_iload C (d_of DX10_order 113 rfl) rfl ?_
    obtain ⟨o12, h⟩ := h
    refine s_zast C (sh_63 hF11) o2 o6 o12 (fun _ => by decide) (d_of DX10_order 114 rfl) ?_
    refine s_aload_n C (d_of DX10_order 115 rfl) rfl ?_
    refine s_dup C (by simp) (d_of DX10_order 116 rfl) ?_
    refine gf_X10_220 (v0 := (M 41 26)) C (sh_41 hF1) (d_of DX10_order 117 rfl) ((up_na (by decide)).trans ((up_na (by decide)).trans ((up_na (by decide)).trans ((up_na (by decide)).trans ((up_na (by decide)).trans ((up_na (by decide)).trans ((up_na (by decide)).trans (up_na (by decide))))))))) ?_
    refine s_iconst C (d_of DX10_order 118 rfl) (by decide) ?_
    obtain ⟨o13, h⟩ := h
    refine s_iadd C (d_of DX10_order 119 rfl) o13 ?_
    refine pf_X10_220 C (sh_41 hF1) (fun _ => by decide) (d_of DX10_order 120 rfl) ?_
    refine s_aload_n C (d_of DX10_order 121 rfl) rfl ?_
    refine gf_X10_220 (v0 := ((M 41 26) + 1)) C (sh_41 hF1) (d_of DX10_order 122 rfl) (up_eq) ?_
    refine s_iconst C (d_of DX10_order 123 rfl) (by decide) ?_
    obtain ⟨o14, h⟩ := h
    refine s_isub C (d_of DX10_order 124 rfl) o14 ?_
    exact s_ireturn C (d_of DX10_order 125 rfl) h
  · have h := h.2 hc
    refine s_aload_n C (d_of DX10_order 48 rfl) rfl ?_
    refine gf_X10_52 C (sh_41 hF1) (d_of DX10_order 49 rfl) (fx_41_18 hF1) ?_
    refine s_bipush C (d_of DX10_order 50 rfl) ⟨rfl, by decide, by decide⟩ ?_
    refine s_aload_n C (d_of DX10_order 51 rfl) rfl ?_
    refine gf_X10_220 (v0 := (M 41 26)) C (sh_41 hF1) (d_of DX10_order 52 rfl) rfl ?_
    obtain ⟨o15, h⟩ := h
    refine s_imul C (d_of DX10_order 53 rfl) o15 ?_
    refine s_iload C (d_of DX10_order 54 rfl) rfl ?_
    obtain ⟨o16, h⟩ := h
    refine s_iadd C (d_of DX10_order 55 rfl) o16 ?_
    refine s_aload_n C (d_of DX10_order 56 rfl) rfl ?_
    refine gf_X10_52 C (sh_41 hF1) (d_of DX10_order 57 rfl) (fx_41_18 hF1) ?_
    refine s_sipush C (d_of DX10_order 58 rfl) ⟨rfl, by decide, by decide⟩ ?_
    refine s_iload C (d_of DX10_order 59 rfl) rfl ?_
    obtain ⟨o17, h⟩ := h
    refine s_iadd C (d_of DX10_order 60 rfl) o17 ?_
    obtain ⟨o18, h⟩ := h
    obtain ⟨o19, h⟩ := h
    refine s_iald (v0 := (M 56 (400 + l7))) C (sh_56 hF1) o18 o19 (d_of DX10_order 61 rfl) rfl ?_
    obtain ⟨o20, h⟩ := h
    obtain ⟨o21, h⟩ := h
    refine s_iast C (sh_56 hF1) o20 o21 (fun _ => by decide) (d_of DX10_order 62 rfl) ?_
    obtain ⟨o22, h⟩ := h
    refine s_iinc (ls' := [(2, 41), (0, l1), (0, l2), (0, l3), (0, l4), (0, l5), (0, l6), (0, (l7 + 1))]) C (d_of DX10_order 63 rfl) (by decide) rfl o22 rfl rfl ?_
    refine s_goto C (d_of DX10_order 64 rfl) rfl ?_
    exact h
theorem E_X10_order {G : GP} {l : Launch} {P : Int → NS → MM → Prop} {l1 : Int} {l2 : Int} {l3 : Int} {l4 : Int} {l5 : Int} {l6 : Int} {w : NS} {M : MM} (h : inR l1 → inR l2 → inR l3 → inR l4 → inR l5 → inR l6 → ∀ X : BX, X.2.1 = l → CX_X10_order G X → A_X10_order_0 G X P l1 l2 l3 l4 l5 l6 w M) : CT_X10_order G l [(2, 41), (0, l1), (0, l2), (0, l3), (0, l4), (0, l5), (0, l6)] w M P :=
  CT.of RX10 "order" (by decide +kernel) rfl rfl rfl (Nat.le_of_ble_eq_true rfl) (fun hr X hX C => h (hr (0, l1) (by simp)) (hr (0, l2) (by simp)) (hr (0, l3) (by simp)) (hr (0, l4) (by simp)) (hr (0, l5) (by simp)) (hr (0, l6) (by simp)) X hX C)
def A_X10_timesOf_0 (G : GP) (X : BX) (P : Int → NS → MM → Prop) (l1 : Int) (w : NS) (M : MM) : Prop := WA true G X (QM G X true 0 P) 4 0 [(2, 41), (0, l1), (3, 0), (3, 0)] [] 0 0 w M
def A_X10_timesOf_4 (G : GP) (X : BX) (P : Int → NS → MM → Prop) (l1 : Int) (l2 : Int) (l3 : Int) (w : NS) (M : MM) : Prop := WA true G X (QM G X true 0 P) 4 4 [(2, 41), (0, l1), (0, l2), (0, l3)] [] 0 0 w M
set_option maxHeartbeats 4000000 in
set_option maxRecDepth 100000 in
theorem B_X10_timesOf_0 {G : GP} {X : BX} {P : Int → NS → MM → Prop} {l1 : Int} {w : NS} {M : MM} (C : CX_X10_timesOf G X) (h : A_X10_timesOf_4 G X P l1 0 0 w M) : A_X10_timesOf_0 G X P l1 w M := by
  unfold A_X10_timesOf_0
  refine s_iconst C (d_of DX10_timesOf 0 rfl) (by decide) ?_
  refine s_istore_n (ls' := [(2, 41), (0, l1), (0, 0), (3, 0)]) C (d_of DX10_timesOf 1 rfl) (by decide) rfl rfl ?_
  refine s_iconst C (d_of DX10_timesOf 2 rfl) (by decide) ?_
  refine s_istore_n (ls' := [(2, 41), (0, l1), (0, 0), (0, 0)]) C (d_of DX10_timesOf 3 rfl) (by decide) rfl rfl ?_
  exact h
set_option maxHeartbeats 4000000 in
set_option maxRecDepth 100000 in
theorem B_X10_timesOf_4 {G : GP} {X : BX} {P : Int → NS → MM → Prop} {l1 : Int} {l2 : Int} {l3 : Int} {w : NS} {M : MM} (C : CX_X10_timesOf G X) (h : ((((M 41 16) ≤ l3) → P l2 w M) ∧ ((¬ ((M 41 16) ≤ l3)) → (0 ≤ l3) ∧ (l3 < 60) ∧ ((((M 54 l3) ≠ l1) → (inR (l2 + 0)) ∧ (inR (l3 + 1)) ∧ A_X10_timesOf_4 G X P l1 (l2 + 0) (l3 + 1) w M) ∧ ((¬ ((M 54 l3) ≠ l1)) → (inR (l2 + 1)) ∧ (inR (l3 + 1)) ∧ A_X10_timesOf_4 G X P l1 (l2 + 1) (l3 + 1) w M))))) : A_X10_timesOf_4 G X P l1 l2 l3 w M := by
  unfold A_X10_timesOf_4
  refine s_iload_n C (d_of DX10_timesOf 4 rfl) rfl ?_
  refine s_aload_n C (d_of DX10_timesOf 5 rfl) rfl ?_
  refine WA.fix (fun hF1 => ?_)
  refine gf_X10_176 (v0 := (M 41 16)) C (sh_41 hF1) (d_of DX10_timesOf 6 rfl) rfl ?_
  refine s_icmpge C (d_of DX10_timesOf 7 rfl) rfl (fun hc => ?_) (fun hc => ?_)
  · have h := h.1 hc
    refine s_iload_n C (d_of DX10_timesOf 22 rfl) rfl ?_
    exact s_ireturn C (d_of DX10_timesOf 23 rfl) h
  · have h := h.2 hc
    refine s_iload_n C (d_of DX10_timesOf 8 rfl) rfl ?_
    refine s_aload_n C (d_of DX10_timesOf 9 rfl) rfl ?_
    refine gf_X10_46 C (sh_41 hF1) (d_of DX10_timesOf 10 rfl) (fx_41_14 hF1) ?_
    refine s_iload_n C (d_of DX10_timesOf 11 rfl) rfl ?_
    obtain ⟨o2, h⟩ := h
    obtain ⟨o3, h⟩ := h
    refine s_iald (v0 := (M 54 l3)) C (sh_54 hF1) o2 o3 (d_of DX10_timesOf 12 rfl) rfl ?_
    refine s_iload_n C (d_of DX10_timesOf 13 rfl) rfl ?_
    refine s_icmpne C (d_of DX10_timesOf 14 rfl) rfl (fun hc => ?_) (fun hc => ?_)
    · have h := h.1 hc
      refine s_iconst C (d_of DX10_timesOf 17 rfl) (by decide) ?_
      obtain ⟨o4, h⟩ := h
      refine s_iadd C (d_of DX10_timesOf 18 rfl) o4 ?_
      refine s_istore_n (ls' := [(2, 41), (0, l1), (0, (l2 + 0)), (0, l3)]) C (d_of DX10_timesOf 19 rfl) (by decide) rfl rfl ?_
      obtain ⟨o5, h⟩ := h
      refine s_iinc (ls' := [(2, 41), (0, l1), (0, (l2 + 0)), (0, (l3 + 1))]) C (d_of DX10_timesOf 20 rfl) (by decide) rfl o5 rfl rfl ?_
      refine s_goto C (d_of DX10_timesOf 21 rfl) rfl ?_
      exact h
    · have h := h.2 hc
      refine s_iconst C (d_of DX10_timesOf 15 rfl) (by decide) ?_
      refine s_goto C (d_of DX10_timesOf 16 rfl) rfl ?_
      obtain ⟨o6, h⟩ := h
      refine s_iadd C (d_of DX10_timesOf 18 rfl) o6 ?_
      refine s_istore_n (ls' := [(2, 41), (0, l1), (0, (l2 + 1)), (0, l3)]) C (d_of DX10_timesOf 19 rfl) (by decide) rfl rfl ?_
      obtain ⟨o7, h⟩ := h
      refine s_iinc (ls' := [(2, 41), (0, l1), (0, (l2 + 1)), (0, (l3 + 1))]) C (d_of DX10_timesOf 20 rfl) (by decide) rfl o7 rfl rfl ?_
      refine s_goto C (d_of DX10_timesOf 21 rfl) rfl ?_
      exact h
theorem E_X10_timesOf {G : GP} {l : Launch} {P : Int → NS → MM → Prop} {l1 : Int} {w : NS} {M : MM} (h : inR l1 → ∀ X : BX, X.2.1 = l → CX_X10_timesOf G X → A_X10_timesOf_0 G X P l1 w M) : CT_X10_timesOf G l [(2, 41), (0, l1)] w M P :=
  CT.of RX10 "timesOf" (by decide +kernel) rfl rfl rfl (Nat.le_of_ble_eq_true rfl) (fun hr X hX C => h (hr (0, l1) (by simp)) X hX C)
def A_X10_areNear_0 (G : GP) (X : BX) (P : Int → NS → MM → Prop) (l1 : Int) (l2 : Int) (l3 : Int) (w : NS) (M : MM) : Prop := WA true G X (QM G X true 0 P) 8 0 [(2, 41), (0, l1), (0, l2), (0, l3), (3, 0), (3, 0), (3, 0), (3, 0)] [] 0 0 w M
def A_X10_areNear_6 (G : GP) (X : BX) (P : Int → NS → MM → Prop) (l1 : Int) (l2 : Int) (l3 : Int) (l4 : Int) (l5 : Int) (w : NS) (M : MM) : Prop := WA true G X (QM G X true 0 P) 8 6 [(2, 41), (0, l1), (0, l2), (0, l3), (0, l4), (0, l5), (3, 0), (3, 0)] [] 0 0 w M
def A_X10_areNear_18 (G : GP) (X : BX) (P : Int → NS → MM → Prop) (l1 : Int) (l2 : Int) (l3 : Int) (l4 : Int) (l5 : Int) (l6 : Int) (w : NS) (M : MM) : Prop := WA true G X (QM G X true 0 P) 8 18 [(2, 41), (0, l1), (0, l2), (0, l3), (0, l4), (0, l5), (0, l6), (3, 0)] [] 0 0 w M
set_option maxHeartbeats 4000000 in
set_option maxRecDepth 100000 in
theorem B_X10_areNear_0 {G : GP} {X : BX} {P : Int → NS → MM → Prop} {l1 : Int} {l2 : Int} {l3 : Int} {w : NS} {M : MM} (C : CX_X10_areNear G X) (h : A_X10_areNear_6 G X P l1 l2 l3 0 0 w M) : A_X10_areNear_0 G X P l1 l2 l3 w M := by
  unfold A_X10_areNear_0
  refine s_iconst C (d_of DX10_areNear 0 rfl) (by decide) ?_
  refine s_istore (ls' := [(2, 41), (0, l1), (0, l2), (0, l3), (0, 0), (3, 0), (3, 0), (3, 0)]) C (d_of DX10_areNear 1 rfl) (by decide) rfl rfl ?_
  refine s_iconst C (d_of DX10_areNear 2 rfl) (by decide) ?_
  refine s_istore (ls' := [(2, 41), (0, l1), (0, l2), (0, l3), (0, 0), (0, 0), (3, 0), (3, 0)]) C (d_of DX10_areNear 3 rfl) (by decide) rfl rfl ?_
  exact h
set_option maxHeartbeats 4000000 in
set_option maxRecDepth 100000 in
theorem B_X10_areNear_6 {G : GP} {X : BX} {P : Int → NS → MM → Prop} {l1 : Int} {l2 : Int} {l3 : Int} {l4 : Int} {l5 : Int} {w : NS} {M : MM} (C : CX_X10_areNear G X) (h : ((((M 41 16) ≤ l5) → (l4 = 0 ∨ l4 = 1) ∧ P l4 w M) ∧ ((¬ ((M 41 16) ≤ l5)) → A_X10_areNear_18 G X P l1 l2 l3 l4 l5 0 w M))) : A_X10_areNear_6 G X P l1 l2 l3 l4 l5 w M := by
  unfold A_X10_areNear_6
  refine s_iload C (d_of DX10_areNear 4 rfl) rfl ?_
  refine s_aload_n C (d_of DX10_areNear 5 rfl) rfl ?_
  refine WA.fix (fun hF1 => ?_)
  refine gf_X10_176 (v0 := (M 41 16)) C (sh_41 hF1) (d_of DX10_areNear 6 rfl) rfl ?_
  refine s_icmpge C (d_of DX10_areNear 7 rfl) rfl (fun hc => ?_) (fun hc => ?_)
  · have h := h.1 hc
    refine s_iload C (d_of DX10_areNear 52 rfl) rfl ?_
    obtain ⟨o2, h⟩ := h
    exact s_zreturn C (d_of DX10_areNear 53 rfl) o2 h
  · have h := h.2 hc
    refine s_iconst C (d_of DX10_areNear 8 rfl) (by decide) ?_
    refine s_istore (ls' := [(2, 41), (0, l1), (0, l2), (0, l3), (0, l4), (0, l5), (0, 0), (3, 0)]) C (d_of DX10_areNear 9 rfl) (by decide) rfl rfl ?_
    exact h
set_option maxHeartbeats 4000000 in
set_option maxRecDepth 100000 in
theorem B_X10_areNear_18 {G : GP} {X : BX} {P : Int → NS → MM → Prop} {l1 : Int} {l2 : Int} {l3 : Int} {l4 : Int} {l5 : Int} {l6 : Int} {w : NS} {M : MM} (C : CX_X10_areNear G X) (h : ((((M 41 16) ≤ l6) → (inR (l5 + 1)) ∧ A_X10_areNear_6 G X P l1 l2 l3 l4 (l5 + 1) w M) ∧ ((¬ ((M 41 16) ≤ l6)) → (((l6 ≤ l5) → (inR (l5 - l6)) ∧ (((l4 ≠ 0) → (inR (l6 + 1)) ∧ A_X10_areNear_18 G X P l1 l2 l3 1 l5 (l6 + 1) w M) ∧ ((¬ (l4 ≠ 0)) → (0 ≤ l5) ∧ (l5 < 60) ∧ ((((M 54 l5) ≠ l1) → (inR (l6 + 1)) ∧ A_X10_areNear_18 G X P l1 l2 l3 0 l5 (l6 + 1) w M) ∧ ((¬ ((M 54 l5) ≠ l1)) → (0 ≤ l6) ∧ (l6 < 60) ∧ ((((M 54 l6) ≠ l2) → (inR (l6 + 1)) ∧ A_X10_areNear_18 G X P l1 l2 l3 0 l5 (l6 + 1) w M) ∧ ((¬ ((M 54 l6) ≠ l2)) → ((((l5 - l6) ≤ 0) → (inR (l6 + 1)) ∧ A_X10_areNear_18 G X P l1 l2 l3 0 l5 (l6 + 1) w M) ∧ ((¬ ((l5 - l6) ≤ 0)) → (((l3 < (l5 - l6)) → (inR (l6 + 1)) ∧ A_X10_areNear_18 G X P l1 l2 l3 0 l5 (l6 + 1) w M) ∧ ((¬ (l3 < (l5 - l6))) → (inR (l6 + 1)) ∧ A_X10_areNear_18 G X P l1 l2 l3 1 l5 (l6 + 1) w M))))))))))) ∧ ((¬ (l6 ≤ l5)) → (inR (l6 - l5)) ∧ (((l4 ≠ 0) → (inR (l6 + 1)) ∧ A_X10_areNear_18 G X P l1 l2 l3 1 l5 (l6 + 1) w M) ∧ ((¬ (l4 ≠ 0)) → (0 ≤ l5) ∧ (l5 < 60) ∧ ((((M 54 l5) ≠ l1) → (inR (l6 + 1)) ∧ A_X10_areNear_18 G X P l1 l2 l3 0 l5 (l6 + 1) w M) ∧ ((¬ ((M 54 l5) ≠ l1)) → (0 ≤ l6) ∧ (l6 < 60) ∧ ((((M 54 l6) ≠ l2) → (inR (l6 + 1)) ∧ A_X10_areNear_18 G X P l1 l2 l3 0 l5 (l6 + 1) w M) ∧ ((¬ ((M 54 l6) ≠ l2)) → ((((l6 - l5) ≤ 0) → (inR (l6 + 1)) ∧ A_X10_areNear_18 G X P l1 l2 l3 0 l5 (l6 + 1) w M) ∧ ((¬ ((l6 - l5) ≤ 0)) → (((l3 < (l6 - l5)) → (inR (l6 + 1)) ∧ A_X10_areNear_18 G X P l1 l2 l3 0 l5 (l6 + 1) w M) ∧ ((¬ (l3 < (l6 - l5))) → (inR (l6 + 1)) ∧ A_X10_areNear_18 G X P l1 l2 l3 1 l5 (l6 + 1) w M))))))))))))))) : A_X10_areNear_18 G X P l1 l2 l3 l4 l5 l6 w M := by
  unfold A_X10_areNear_18
  refine s_iload C (d_of DX10_areNear 10 rfl) rfl ?_
  refine s_aload_n C (d_of DX10_areNear 11 rfl) rfl ?_
  refine WA.fix (fun hF1 => ?_)
  refine gf_X10_176 (v0 := (M 41 16)) C (sh_41 hF1) (d_of DX10_areNear 12 rfl) rfl ?_
  refine s_icmpge C (d_of DX10_areNear 13 rfl) rfl (fun hc => ?_) (fun hc => ?_)
  · have h := h.1 hc
    obtain ⟨o2, h⟩ := h
    refine s_iinc (ls' := [(2, 41), (0, l1), (0, l2), (0, l3), (0, l4), (0, (l5 + 1)), (0, l6), (3, 0)]) C (d_of DX10_areNear 50 rfl) (by decide) rfl o2 rfl rfl ?_
    refine s_goto C (d_of DX10_areNear 51 rfl) rfl ?_
    exact WA.wk h ⟨Or.inr rfl, Or.inr rfl, Or.inr rfl, Or.inr rfl, Or.inr rfl, Or.inr rfl, Or.inl rfl, Or.inl rfl, trivial⟩
  · have h := h.2 hc
    refine s_iload C (d_of DX10_areNear 14 rfl) rfl ?_
    refine s_iload C (d_of DX10_areNear 15 rfl) rfl ?_
    refine s_icmpge C (d_of DX10_areNear 16 rfl) rfl (fun hc => ?_) (fun hc => ?_)
    · have h := h.1 hc
      refine s_iload C (d_of DX10_areNear 21 rfl) rfl ?_
      refine s_iload C (d_of DX10_areNear 22 rfl) rfl ?_
      obtain ⟨o3, h⟩ := h
      refine s_isub C (d_of DX10_areNear 23 rfl) o3 ?_
      refine s_istore (ls' := [(2, 41), (0, l1), (0, l2), (0, l3), (0, l4), (0, l5), (0, l6), (0, (l5 - l6))]) C (d_of DX10_areNear 24 rfl) (by decide) rfl rfl ?_
      refine s_iload C (d_of DX10_areNear 25 rfl) rfl ?_
      refine s_ifne C (d_of DX10_areNear 26 rfl) rfl (fun hc => ?_) (fun hc => ?_)
      · have h := h.1 hc
        refine s_iconst C (d_of DX10_areNear 44 rfl) (by decide) ?_
        refine s_goto C (d_of DX10_areNear 45 rfl) rfl ?_
        refine s_istore (ls' := [(2, 41), (0, l1), (0, l2), (0, l3), (0, 1), (0, l5), (0, l6), (0, (l5 - l6))]) C (d_of DX10_areNear 47 rfl) (by decide) rfl rfl ?_
        obtain ⟨o4, h⟩ := h
        refine s_iinc (ls' := [(2, 41), (0, l1), (0, l2), (0, l3), (0, 1), (0, l5), (0, (l6 + 1)), (0, (l5 - l6))]) C (d_of DX10_areNear 48 rfl) (by decide) rfl o4 rfl rfl ?_
        refine s_goto C (d_of DX10_areNear 49 rfl) rfl ?_
        exact WA.wk h ⟨Or.inr rfl, Or.inr rfl, Or.inr rfl, Or.inr rfl, Or.inr rfl, Or.inr rfl, Or.inr rfl, Or.inl rfl, trivial⟩
      · have h := h.2 hc
        refine s_aload_n C (d_of DX10_areNear 27 rfl) rfl ?_
        refine gf_X10_46 C (sh_41 hF1) (d_of DX10_areNear 28 rfl) (fx_41_14 hF1) ?_
        refine s_iload C (d_of DX10_areNear 29 rfl) rfl ?_
        obtain ⟨o5, h⟩ := h
        obtain ⟨o6, h⟩ := h
        refine s_iald (v0 := (M 54 l5)) C (sh_54 hF1) o5 o6 (d_of DX10_areNear 30 rfl) rfl ?_
        refine s_iload_n C (d_of DX10_areNear 31 rfl) rfl ?_
        refine s_icmpne C (d_of DX10_areNear 32 rfl) rfl (fun hc => ?_) (fun hc => ?_)
        · have h := h.1 hc
          refine s_iconst C (d_of DX10_areNear 46 rfl) (by decide) ?_
          refine s_istore (ls' := [(2, 41), (0, l1), (0, l2), (0, l3), (0, 0), (0, l5), (0, l6), (0, (l5 - l6))]) C (d_of DX10_areNear 47 rfl) (by decide) rfl rfl ?_
          obtain ⟨o7, h⟩ := h
          refine s_iinc (ls' := [(2, 41), (0, l1), (0, l2), (0, l3), (0, 0), (0, l5), (0, (l6 + 1)), (0, (l5 - l6))]) C (d_of DX10_areNear 48 rfl) (by decide) rfl o7 rfl rfl ?_
          refine s_goto C (d_of DX10_areNear 49 rfl) rfl ?_
          exact WA.wk h ⟨Or.inr rfl, Or.inr rfl, Or.inr rfl, Or.inr rfl, Or.inr rfl, Or.inr rfl, Or.inr rfl, Or.inl rfl, trivial⟩
        · have h := h.2 hc
          refine s_aload_n C (d_of DX10_areNear 33 rfl) rfl ?_
          refine gf_X10_46 C (sh_41 hF1) (d_of DX10_areNear 34 rfl) (fx_41_14 hF1) ?_
          refine s_iload C (d_of DX10_areNear 35 rfl) rfl ?_
          obtain ⟨o8, h⟩ := h
          obtain ⟨o9, h⟩ := h
          refine s_iald (v0 := (M 54 l6)) C (sh_54 hF1) o8 o9 (d_of DX10_areNear 36 rfl) rfl ?_
          refine s_iload_n C (d_of DX10_areNear 37 rfl) rfl ?_
          refine s_icmpne C (d_of DX10_areNear 38 rfl) rfl (fun hc => ?_) (fun hc => ?_)
          · have h := h.1 hc
            refine s_iconst C (d_of DX10_areNear 46 rfl) (by decide) ?_
            refine s_istore (ls' := [(2, 41), (0, l1), (0, l2), (0, l3), (0, 0), (0, l5), (0, l6), (0, (l5 - l6))]) C (d_of DX10_areNear 47 rfl) (by decide) rfl rfl ?_
            obtain ⟨o10, h⟩ := h
            refine s_iinc (ls' := [(2, 41), (0, l1), (0, l2), (0, l3), (0, 0), (0, l5), (0, (l6 + 1)), (0, (l5 - l6))]) C (d_of DX10_areNear 48 rfl) (by decide) rfl o10 rfl rfl ?_
            refine s_goto C (d_of DX10_areNear 49 rfl) rfl ?_
            exact WA.wk h ⟨Or.inr rfl, Or.inr rfl, Or.inr rfl, Or.inr rfl, Or.inr rfl, Or.inr rfl, Or.inr rfl, Or.inl rfl, trivial⟩
          · have h := h.2 hc
            refine s_iload C (d_of DX10_areNear 39 rfl) rfl ?_
            refine s_ifle C (d_of DX10_areNear 40 rfl) rfl (fun hc => ?_) (fun hc => ?_)
            · have h := h.1 hc
              refine s_iconst C (d_of DX10_areNear 46 rfl) (by decide) ?_
              refine s_istore (ls' := [(2, 41), (0, l1), (0, l2), (0, l3), (0, 0), (0, l5), (0, l6), (0, (l5 - l6))]) C (d_of DX10_areNear 47 rfl) (by decide) rfl rfl ?_
              obtain ⟨o11, h⟩ := h
              refine s_iinc (ls' := [(2, 41), (0, l1), (0, l2), (0, l3), (0, 0), (0, l5), (0, (l6 + 1)), (0, (l5 - l6))]) C (d_of DX10_areNear 48 rfl) (by decide) rfl o11 rfl rfl ?_
              refine s_goto C (d_of DX10_areNear 49 rfl) rfl ?_
              exact WA.wk h ⟨Or.inr rfl, Or.inr rfl, Or.inr rfl, Or.inr rfl, Or.inr rfl, Or.inr rfl, Or.inr rfl, Or.inl rfl, trivial⟩
            · have h := h.2 hc
              refine s_iload C (d_of DX10_areNear 41 rfl) rfl ?_
              refine s_iload_n C (d_of DX10_areNear 42 rfl) rfl ?_
              refine s_icmpgt C (d_of DX10_areNear 43 rfl) rfl (fun hc => ?_) (fun hc => ?_)
              · have h := h.1 hc
                refine s_iconst C (d_of DX10_areNear 46 rfl) (by decide) ?_
                refine s_istore (ls' := [(2, 41), (0, l1), (0, l2), (0, l3), (0, 0), (0, l5), (0, l6), (0, (l5 - l6))]) C (d_of DX10_areNear 47 rfl) (by decide) rfl rfl ?_
                obtain ⟨o12, h⟩ := h
                refine s_iinc (ls' := [(2, 41), (0, l1), (0, l2), (0, l3), (0, 0), (0, l5), (0, (l6 + 1)), (0, (l5 - l6))]) C (d_of DX10_areNear 48 rfl) (by decide) rfl o12 rfl rfl ?_
                refine s_goto C (d_of DX10_areNear 49 rfl) rfl ?_
                exact WA.wk h ⟨Or.inr rfl, Or.inr rfl, Or.inr rfl, Or.inr rfl, Or.inr rfl, Or.inr rfl, Or.inr rfl, Or.inl rfl, trivial⟩
              · have h := h.2 hc
                refine s_iconst C (d_of DX10_areNear 44 rfl) (by decide) ?_
                refine s_goto C (d_of DX10_areNear 45 rfl) rfl ?_
                refine s_istore (ls' := [(2, 41), (0, l1), (0, l2), (0, l3), (0, 1), (0, l5), (0, l6), (0, (l5 - l6))]) C (d_of DX10_areNear 47 rfl) (by decide) rfl rfl ?_
                obtain ⟨o13, h⟩ := h
                refine s_iinc (ls' := [(2, 41), (0, l1), (0, l2), (0, l3), (0, 1), (0, l5), (0, (l6 + 1)), (0, (l5 - l6))]) C (d_of DX10_areNear 48 rfl) (by decide) rfl o13 rfl rfl ?_
                refine s_goto C (d_of DX10_areNear 49 rfl) rfl ?_
                exact WA.wk h ⟨Or.inr rfl, Or.inr rfl, Or.inr rfl, Or.inr rfl, Or.inr rfl, Or.inr rfl, Or.inr rfl, Or.inl rfl, trivial⟩
    · have h := h.2 hc
      refine s_iload C (d_of DX10_areNear 17 rfl) rfl ?_
      refine s_iload C (d_of DX10_areNear 18 rfl) rfl ?_
      obtain ⟨o14, h⟩ := h
      refine s_isub C (d_of DX10_areNear 19 rfl) o14 ?_
      refine s_goto C (d_of DX10_areNear 20 rfl) rfl ?_
      refine s_istore (ls' := [(2, 41), (0, l1), (0, l2), (0, l3), (0, l4), (0, l5), (0, l6), (0, (l6 - l5))]) C (d_of DX10_areNear 24 rfl) (by decide) rfl rfl ?_
      refine s_iload C (d_of DX10_areNear 25 rfl) rfl ?_
      refine s_ifne C (d_of DX10_areNear 26 rfl) rfl (fun hc => ?_) (fun hc => ?_)
      · have h := h.1 hc
        refine s_iconst C (d_of DX10_areNear 44 rfl) (by decide) ?_
        refine s_goto C (d_of DX10_areNear 45 rfl) rfl ?_
        refine s_istore (ls' := [(2, 41), (0, l1), (0, l2), (0, l3), (0, 1), (0, l5), (0, l6), (0, (l6 - l5))]) C (d_of DX10_areNear 47 rfl) (by decide) rfl rfl ?_
        obtain ⟨o15, h⟩ := h
        refine s_iinc (ls' := [(2, 41), (0, l1), (0, l2), (0, l3), (0, 1), (0, l5), (0, (l6 + 1)), (0, (l6 - l5))]) C (d_of DX10_areNear 48 rfl) (by decide) rfl o15 rfl rfl ?_
        refine s_goto C (d_of DX10_areNear 49 rfl) rfl ?_
        exact WA.wk h ⟨Or.inr rfl, Or.inr rfl, Or.inr rfl, Or.inr rfl, Or.inr rfl, Or.inr rfl, Or.inr rfl, Or.inl rfl, trivial⟩
      · have h := h.2 hc
        refine s_aload_n C (d_of DX10_areNear 27 rfl) rfl ?_
        refine gf_X10_46 C (sh_41 hF1) (d_of DX10_areNear 28 rfl) (fx_41_14 hF1) ?_
        refine s_iload C (d_of DX10_areNear 29 rfl) rfl ?_
        obtain ⟨o16, h⟩ := h
        obtain ⟨o17, h⟩ := h
        refine s_iald (v0 := (M 54 l5)) C (sh_54 hF1) o16 o17 (d_of DX10_areNear 30 rfl) rfl ?_
        refine s_iload_n C (d_of DX10_areNear 31 rfl) rfl ?_
        refine s_icmpne C (d_of DX10_areNear 32 rfl) rfl (fun hc => ?_) (fun hc => ?_)
        · have h := h.1 hc
          refine s_iconst C (d_of DX10_areNear 46 rfl) (by decide) ?_
          refine s_istore (ls' := [(2, 41), (0, l1), (0, l2), (0, l3), (0, 0), (0, l5), (0, l6), (0, (l6 - l5))]) C (d_of DX10_areNear 47 rfl) (by decide) rfl rfl ?_
          obtain ⟨o18, h⟩ := h
          refine s_iinc (ls' := [(2, 41), (0, l1), (0, l2), (0, l3), (0, 0), (0, l5), (0, (l6 + 1)), (0, (l6 - l5))]) C (d_of DX10_areNear 48 rfl) (by decide) rfl o18 rfl rfl ?_
          refine s_goto C (d_of DX10_areNear 49 rfl) rfl ?_
          exact WA.wk h ⟨Or.inr rfl, Or.inr rfl, Or.inr rfl, Or.inr rfl, Or.inr rfl, Or.inr rfl, Or.inr rfl, Or.inl rfl, trivial⟩
        · have h := h.2 hc
          refine s_aload_n C (d_of DX10_areNear 33 rfl) rfl ?_
          refine gf_X10_46 C (sh_41 hF1) (d_of DX10_areNear 34 rfl) (fx_41_14 hF1) ?_
          refine s_iload C (d_of DX10_areNear 35 rfl) rfl ?_
          obtain ⟨o19, h⟩ := h
          obtain ⟨o20, h⟩ := h
          refine s_iald (v0 := (M 54 l6)) C (sh_54 hF1) o19 o20 (d_of DX10_areNear 36 rfl) rfl ?_
          refine s_iload_n C (d_of DX10_areNear 37 rfl) rfl ?_
          refine s_icmpne C (d_of DX10_areNear 38 rfl) rfl (fun hc => ?_) (fun hc => ?_)
          · have h := h.1 hc
            refine s_iconst C (d_of DX10_areNear 46 rfl) (by decide) ?_
            refine s_istore (ls' := [(2, 41), (0, l1), (0, l2), (0, l3), (0, 0), (0, l5), (0, l6), (0, (l6 - l5))]) C (d_of DX10_areNear 47 rfl) (by decide) rfl rfl ?_
            obtain ⟨o21, h⟩ := h
            refine s_iinc (ls' := [(2, 41), (0, l1), (0, l2), (0, l3), (0, 0), (0, l5), (0, (l6 + 1)), (0, (l6 - l5))]) C (d_of DX10_areNear 48 rfl) (by decide) rfl o21 rfl rfl ?_
            refine s_goto C (d_of DX10_areNear 49 rfl) rfl ?_
            exact WA.wk h ⟨Or.inr rfl, Or.inr rfl, Or.inr rfl, Or.inr rfl, Or.inr rfl, Or.inr rfl, Or.inr rfl, Or.inl rfl, trivial⟩
          · have h := h.2 hc
            refine s_iload C (d_of DX10_areNear 39 rfl) rfl ?_
            refine s_ifle C (d_of DX10_areNear 40 rfl) rfl (fun hc => ?_) (fun hc => ?_)
            · have h := h.1 hc
              refine s_iconst C (d_of DX10_areNear 46 rfl) (by decide) ?_
              refine s_istore (ls' := [(2, 41), (0, l1), (0, l2), (0, l3), (0, 0), (0, l5), (0, l6), (0, (l6 - l5))]) C (d_of DX10_areNear 47 rfl) (by decide) rfl rfl ?_
              obtain ⟨o22, h⟩ := h
              refine s_iinc (ls' := [(2, 41), (0, l1), (0, l2), (0, l3), (0, 0), (0, l5), (0, (l6 + 1)), (0, (l6 - l5))]) C (d_of DX10_areNear 48 rfl) (by decide) rfl o22 rfl rfl ?_
              refine s_goto C (d_of DX10_areNear 49 rfl) rfl ?_
              exact WA.wk h ⟨Or.inr rfl, Or.inr rfl, Or.inr rfl, Or.inr rfl, Or.inr rfl, Or.inr rfl, Or.inr rfl, Or.inl rfl, trivial⟩
            · have h := h.2 hc
              refine s_iload C (d_of DX10_areNear 41 rfl) rfl ?_
              refine s_iload_n C (d_of DX10_areNear 42 rfl) rfl ?_
              refine s_icmpgt C (d_of DX10_areNear 43 rfl) rfl (fun hc => ?_) (fun hc => ?_)
              · have h := h.1 hc
                refine s_iconst C (d_of DX10_areNear 46 rfl) (by decide) ?_
                refine s_istore (ls' := [(2, 41), (0, l1), (0, l2), (0, l3), (0, 0), (0, l5), (0, l6), (0, (l6 - l5))]) C (d_of DX10_areNear 47 rfl) (by decide) rfl rfl ?_
                obtain ⟨o23, h⟩ := h
                refine s_iinc (ls' := [(2, 41), (0, l1), (0, l2), (0, l3), (0, 0), (0, l5), (0, (l6 + 1)), (0, (l6 - l5))]) C (d_of DX10_areNear 48 rfl) (by decide) rfl o23 rfl rfl ?_
                refine s_goto C (d_of DX10_areNear 49 rfl) rfl ?_
                exact WA.wk h ⟨Or.inr rfl, Or.inr rfl, Or.inr rfl, Or.inr rfl, Or.inr rfl, Or.inr rfl, Or.inr rfl, Or.inl rfl, trivial⟩
              · have h := h.2 hc
                refine s_iconst C (d_of DX10_areNear 44 rfl) (by decide) ?_
                refine s_goto C (d_of DX10_areNear 45 rfl) rfl ?_
                refine s_istore (ls' := [(2, 41), (0, l1), (0, l2), (0, l3), (0, 1), (0, l5), (0, l6), (0, (l6 - l5))]) C (d_of DX10_areNear 47 rfl) (by decide) rfl rfl ?_
                obtain ⟨o24, h⟩ := h
                refine s_iinc (ls' := [(2, 41), (0, l1), (0, l2), (0, l3), (0, 1), (0, l5), (0, (l6 + 1)), (0, (l6 - l5))]) C (d_of DX10_areNear 48 rfl) (by decide) rfl o24 rfl rfl ?_
                refine s_goto C (d_of DX10_areNear 49 rfl) rfl ?_
                exact WA.wk h ⟨Or.inr rfl, Or.inr rfl, Or.inr rfl, Or.inr rfl, Or.inr rfl, Or.inr rfl, Or.inr rfl, Or.inl rfl, trivial⟩
theorem E_X10_areNear {G : GP} {l : Launch} {P : Int → NS → MM → Prop} {l1 : Int} {l2 : Int} {l3 : Int} {w : NS} {M : MM} (h : inR l1 → inR l2 → inR l3 → ∀ X : BX, X.2.1 = l → CX_X10_areNear G X → A_X10_areNear_0 G X P l1 l2 l3 w M) : CT_X10_areNear G l [(2, 41), (0, l1), (0, l2), (0, l3)] w M P :=
  CT.of RX10 "areNear" (by decide +kernel) rfl rfl rfl (Nat.le_of_ble_eq_true rfl) (fun hr X hX C => h (hr (0, l1) (by simp)) (hr (0, l2) (by simp)) (hr (0, l3) (by simp)) X hX C)
def A_X10_begin_0 (G : GP) (X : BX) (P : Int → NS → MM → Prop) (l1 : Int) (w : NS) (M : MM) : Prop := WA true G X (QM G X true 4 P) 2 0 [(2, 41), (0, l1)] [] 0 0 w M
set_option maxHeartbeats 4000000 in
set_option maxRecDepth 100000 in
theorem B_X10_begin_0 {G : GP} {X : BX} {P : Int → NS → MM → Prop} {l1 : Int} {w : NS} {M : MM} (C : CX_X10_begin G X) (h : (0 ≤ l1) ∧ (l1 < 10) ∧ P 0 w (up (up (up M 64 l1 0) 65 l1 1) 66 l1 0)) : A_X10_begin_0 G X P l1 w M := by
  unfold A_X10_begin_0
  refine s_aload_n C (d_of DX10_begin 0 rfl) rfl ?_
  refine WA.fix (fun hF1 => ?_)
  refine gf_X10_77 C (sh_41 hF1) (d_of DX10_begin 1 rfl) (fx_41_27 hF1) ?_
  refine s_iload_n C (d_of DX10_begin 2 rfl) rfl ?_
  refine s_iconst C (d_of DX10_begin 3 rfl) (by decide) ?_
  obtain ⟨o2, h⟩ := h
  obtain ⟨o3, h⟩ := h
  refine s_zast C (sh_64 hF1) o2 o3 (by decide) (fun _ => by decide) (d_of DX10_begin 4 rfl) ?_
  refine s_aload_n C (d_of DX10_begin 5 rfl) rfl ?_
  refine WA.fix (fun hF4 => ?_)
  refine gf_X10_80 C (sh_41 hF1) (d_of DX10_begin 6 rfl) (fx_41_28 hF4) ?_
  refine s_iload_n C (d_of DX10_begin 7 rfl) rfl ?_
  refine s_iconst C (d_of DX10_begin 8 rfl) (by decide) ?_
  refine s_zast C (sh_65 hF4) o2 o3 (by decide) (fun _ => by decide) (d_of DX10_begin 9 rfl) ?_
  refine s_aload_n C (d_of DX10_begin 10 rfl) rfl ?_
  refine WA.fix (fun hF5 => ?_)
  refine gf_X10_83 C (sh_41 hF1) (d_of DX10_begin 11 rfl) (fx_41_29 hF5) ?_
  refine s_iload_n C (d_of DX10_begin 12 rfl) rfl ?_
  refine s_iconst C (d_of DX10_begin 13 rfl) (by decide) ?_
  refine s_zast C (sh_66 hF5) o2 o3 (by decide) (fun _ => by decide) (d_of DX10_begin 14 rfl) ?_
  exact s_vreturn C (d_of DX10_begin 15 rfl) h
theorem E_X10_begin {G : GP} {l : Launch} {P : Int → NS → MM → Prop} {l1 : Int} {w : NS} {M : MM} (h : inR l1 → ∀ X : BX, X.2.1 = l → CX_X10_begin G X → A_X10_begin_0 G X P l1 w M) : CT_X10_begin G l [(2, 41), (0, l1)] w M P :=
  CT.of RX10 "begin" (by decide +kernel) rfl rfl rfl (Nat.le_of_ble_eq_true rfl) (fun hr X hX C => h (hr (0, l1) (by simp)) X hX C)
def A_X10_join_0 (G : GP) (X : BX) (P : Int → NS → MM → Prop) (l1 : Int) (l2 : Int) (w : NS) (M : MM) : Prop := WA true G X (QM G X true 4 P) 3 0 [(2, 41), (0, l1), (0, l2)] [] 0 0 w M
set_option maxHeartbeats 4000000 in
set_option maxRecDepth 100000 in
theorem B_X10_join_0 {G : GP} {X : BX} {P : Int → NS → MM → Prop} {l1 : Int} {l2 : Int} {w : NS} {M : MM} (C : CX_X10_join G X) (h : (0 ≤ l1) ∧ (l1 < 10) ∧ ((((M 65 l1) = 0) → P 0 w (up (up M 65 l1 0) 66 l1 0)) ∧ ((¬ ((M 65 l1) = 0)) → (((l2 = (M 66 l1)) → P 0 w (up (up M 65 l1 0) 66 l1 0)) ∧ ((¬ (l2 = (M 66 l1))) → P 0 w (up (up M 65 l1 1) 66 l1 0)))))) : A_X10_join_0 G X P l1 l2 w M := by
  unfold A_X10_join_0
  refine s_aload_n C (d_of DX10_join 0 rfl) rfl ?_
  refine WA.fix (fun hF1 => ?_)
  refine gf_X10_80 C (sh_41 hF1) (d_of DX10_join 1 rfl) (fx_41_28 hF1) ?_
  refine s_iload_n C (d_of DX10_join 2 rfl) rfl ?_
  refine s_aload_n C (d_of DX10_join 3 rfl) rfl ?_
  refine gf_X10_80 C (sh_41 hF1) (d_of DX10_join 4 rfl) (fx_41_28 hF1) ?_
  refine s_iload_n C (d_of DX10_join 5 rfl) rfl ?_
  obtain ⟨o2, h⟩ := h
  obtain ⟨o3, h⟩ := h
  refine s_zald (v0 := (M 65 l1)) C (sh_65 hF1) o2 o3 (d_of DX10_join 6 rfl) rfl ?_
  refine s_ifeq C (d_of DX10_join 7 rfl) rfl (fun hc => ?_) (fun hc => ?_)
  · have h := h.1 hc
    refine s_iconst C (d_of DX10_join 16 rfl) (by decide) ?_
    refine s_zast C (sh_65 hF1) o2 o3 (by decide) (fun _ => by decide) (d_of DX10_join 17 rfl) ?_
    refine s_aload_n C (d_of DX10_join 18 rfl) rfl ?_
    refine WA.fix (fun hF4 => ?_)
    refine gf_X10_83 C (sh_41 hF1) (d_of DX10_join 19 rfl) (fx_41_29 hF4) ?_
    refine s_iload_n C (d_of DX10_join 20 rfl) rfl ?_
    refine s_iconst C (d_of DX10_join 21 rfl) (by decide) ?_
    refine s_zast C (sh_66 hF4) o2 o3 (by decide) (fun _ => by decide) (d_of DX10_join 22 rfl) ?_
    exact s_vreturn C (d_of DX10_join 23 rfl) h
  · have h := h.2 hc
    refine s_iload_n C (d_of DX10_join 8 rfl) rfl ?_
    refine s_aload_n C (d_of DX10_join 9 rfl) rfl ?_
    refine gf_X10_83 C (sh_41 hF1) (d_of DX10_join 10 rfl) (fx_41_29 hF1) ?_
    refine s_iload_n C (d_of DX10_join 11 rfl) rfl ?_
    refine s_zald (v0 := (M 66 l1)) C (sh_66 hF1) o2 o3 (d_of DX10_join 12 rfl) rfl ?_
    refine s_icmpeq C (d_of DX10_join 13 rfl) rfl (fun hc => ?_) (fun hc => ?_)
    · have h := h.1 hc
      refine s_iconst C (d_of DX10_join 16 rfl) (by decide) ?_
      refine s_zast C (sh_65 hF1) o2 o3 (by decide) (fun _ => by decide) (d_of DX10_join 17 rfl) ?_
      refine s_aload_n C (d_of DX10_join 18 rfl) rfl ?_
      refine WA.fix (fun hF5 => ?_)
      refine gf_X10_83 C (sh_41 hF1) (d_of DX10_join 19 rfl) (fx_41_29 hF5) ?_
      refine s_iload_n C (d_of DX10_join 20 rfl) rfl ?_
      refine s_iconst C (d_of DX10_join 21 rfl) (by decide) ?_
      refine s_zast C (sh_66 hF1) o2 o3 (by decide) (fun _ => by decide) (d_of DX10_join 22 rfl) ?_
      exact s_vreturn C (d_of DX10_join 23 rfl) h
    · have h := h.2 hc
      refine s_iconst C (d_of DX10_join 14 rfl) (by decide) ?_
      refine s_goto C (d_of DX10_join 15 rfl) rfl ?_
      refine s_zast C (sh_65 hF1) o2 o3 (by decide) (fun _ => by decide) (d_of DX10_join 17 rfl) ?_
      refine s_aload_n C (d_of DX10_join 18 rfl) rfl ?_
      refine WA.fix (fun hF6 => ?_)
      refine gf_X10_83 C (sh_41 hF1) (d_of DX10_join 19 rfl) (fx_41_29 hF6) ?_
      refine s_iload_n C (d_of DX10_join 20 rfl) rfl ?_
      refine s_iconst C (d_of DX10_join 21 rfl) (by decide) ?_
      refine s_zast C (sh_66 hF1) o2 o3 (by decide) (fun _ => by decide) (d_of DX10_join 22 rfl) ?_
      exact s_vreturn C (d_of DX10_join 23 rfl) h
theorem E_X10_join {G : GP} {l : Launch} {P : Int → NS → MM → Prop} {l1 : Int} {l2 : Int} {w : NS} {M : MM} (h : inR l1 → inR l2 → ∀ X : BX, X.2.1 = l → CX_X10_join G X → A_X10_join_0 G X P l1 l2 w M) : CT_X10_join G l [(2, 41), (0, l1), (0, l2)] w M P :=
  CT.of RX10 "join" (by decide +kernel) rfl rfl rfl (Nat.le_of_ble_eq_true rfl) (fun hr X hX C => h (hr (0, l1) (by simp)) (hr (0, l2) (by simp)) X hX C)
def A_X10_number_0 (G : GP) (X : BX) (P : Int → NS → MM → Prop) (l1 : Int) (w : NS) (M : MM) : Prop := WA true G X (QM G X true 0 P) 3 0 [(2, 41), (0, l1), (3, 0)] [] 0 0 w M
def A_X10_number_2 (G : GP) (X : BX) (P : Int → NS → MM → Prop) (l1 : Int) (l2 : Int) (w : NS) (M : MM) : Prop := WA true G X (QM G X true 0 P) 3 2 [(2, 41), (0, l1), (0, l2)] [] 0 0 w M
set_option maxHeartbeats 4000000 in
set_option maxRecDepth 100000 in
theorem B_X10_number_0 {G : GP} {X : BX} {P : Int → NS → MM → Prop} {l1 : Int} {w : NS} {M : MM} (C : CX_X10_number G X) (h : A_X10_number_2 G X P l1 0 w M) : A_X10_number_0 G X P l1 w M := by
  unfold A_X10_number_0
  refine s_iconst C (d_of DX10_number 0 rfl) (by decide) ?_
  refine s_istore_n (ls' := [(2, 41), (0, l1), (0, 0)]) C (d_of DX10_number 1 rfl) (by decide) rfl rfl ?_
  exact h
set_option maxHeartbeats 4000000 in
set_option maxRecDepth 100000 in
theorem B_X10_number_2 {G : GP} {X : BX} {P : Int → NS → MM → Prop} {l1 : Int} {l2 : Int} {w : NS} {M : MM} (C : CX_X10_number G X) (h : (((l1 ≤ (M 41 30)) → P l2 w M) ∧ ((¬ (l1 ≤ (M 41 30))) → (0 ≤ (M 41 30)) ∧ ((M 41 30) < 440) ∧ (((¬ (48 ≤ (M 56 (M 41 30)) ∧ (M 56 (M 41 30)) ≤ 57)) → P l2 w M) ∧ (((48 ≤ (M 56 (M 41 30)) ∧ (M 56 (M 41 30)) ≤ 57)) → (inR (10 * l2)) ∧ (inR ((10 * l2) + (M 56 (M 41 30)))) ∧ (inR (((10 * l2) + (M 56 (M 41 30))) - 48)) ∧ (inR ((M 41 30) + 1)) ∧ A_X10_number_2 G X P l1 (((10 * l2) + (M 56 (M 41 30))) - 48) w (up M 41 30 ((M 41 30) + 1))))))) : A_X10_number_2 G X P l1 l2 w M := by
  unfold A_X10_number_2
  refine s_aload_n C (d_of DX10_number 2 rfl) rfl ?_
  refine WA.fix (fun hF1 => ?_)
  refine gf_X10_226 (v0 := (M 41 30)) C (sh_41 hF1) (d_of DX10_number 3 rfl) rfl ?_
  refine s_iload_n C (d_of DX10_number 4 rfl) rfl ?_
  refine s_icmpge C (d_of DX10_number 5 rfl) rfl (fun hc => ?_) (fun hc => ?_)
  · have h := h.1 hc
    refine s_iload_n C (d_of DX10_number 32 rfl) rfl ?_
    exact s_ireturn C (d_of DX10_number 33 rfl) h
  · have h := h.2 hc
    refine s_aload_n C (d_of DX10_number 6 rfl) rfl ?_
    refine gf_X10_52 C (sh_41 hF1) (d_of DX10_number 7 rfl) (fx_41_18 hF1) ?_
    refine s_aload_n C (d_of DX10_number 8 rfl) rfl ?_
    refine gf_X10_226 (v0 := (M 41 30)) C (sh_41 hF1) (d_of DX10_number 9 rfl) rfl ?_
    obtain ⟨o2, h⟩ := h
    obtain ⟨o3, h⟩ := h
    refine s_iald (v0 := (M 56 (M 41 30))) C (sh_56 hF1) o2 o3 (d_of DX10_number 10 rfl) rfl ?_
    refine s_callS (av := [(0, (M 56 (M 41 30)))]) (rest := []) (mc := 0) (ms := 0) C (d_of DX10_number 11 rfl) lk_X10_209 rfl rfl (Nat.le_of_ble_eq_true rfl) (by decide) (by decide) (pc_X10_isDigit) (fun z4 wz4 Mz4 hq => ?_)
    obtain ⟨hq1, hq2, hq3⟩ := hq
    have hq2 := hq2.symm
    have hq3 := hq3.symm
    subst hq1 hq2 hq3
    refine s_ifeq C (d_of DX10_number 12 rfl) rfl (fun hc => ?_) (fun hc => ?_)
    · have h := h.1 (b2i_0.mp hc)
      refine s_iload_n C (d_of DX10_number 32 rfl) rfl ?_
      exact s_ireturn C (d_of DX10_number 33 rfl) h
    · have h := h.2 (b2i_n0 hc)
      refine s_bipush C (d_of DX10_number 13 rfl) ⟨rfl, by decide, by decide⟩ ?_
      refine s_iload_n C (d_of DX10_number 14 rfl) rfl ?_
      obtain ⟨o5, h⟩ := h
      refine s_imul C (d_of DX10_number 15 rfl) o5 ?_
      refine s_aload_n C (d_of DX10_number 16 rfl) rfl ?_
      refine gf_X10_52 C (sh_41 hF1) (d_of DX10_number 17 rfl) (fx_41_18 hF1) ?_
      refine s_aload_n C (d_of DX10_number 18 rfl) rfl ?_
      refine gf_X10_226 (v0 := (M 41 30)) C (sh_41 hF1) (d_of DX10_number 19 rfl) rfl ?_
      refine s_iald (v0 := (M 56 (M 41 30))) C (sh_56 hF1) o2 o3 (d_of DX10_number 20 rfl) rfl ?_
      obtain ⟨o6, h⟩ := h
      refine s_iadd C (d_of DX10_number 21 rfl) o6 ?_
      refine s_bipush C (d_of DX10_number 22 rfl) ⟨rfl, by decide, by decide⟩ ?_
      obtain ⟨o7, h⟩ := h
      refine s_isub C (d_of DX10_number 23 rfl) o7 ?_
      refine s_istore_n (ls' := [(2, 41), (0, l1), (0, (((10 * l2) + (M 56 (M 41 30))) - 48))]) C (d_of DX10_number 24 rfl) (by decide) rfl rfl ?_
      refine s_aload_n C (d_of DX10_number 25 rfl) rfl ?_
      refine s_dup C (by simp) (d_of DX10_number 26 rfl) ?_
      refine gf_X10_226 (v0 := (M 41 30)) C (sh_41 hF1) (d_of DX10_number 27 rfl) rfl ?_
      refine s_iconst C (d_of DX10_number 28 rfl) (by decide) ?_
      obtain ⟨o8, h⟩ := h
      refine s_iadd C (d_of DX10_number 29 rfl) o8 ?_
      refine pf_X10_226 C (sh_41 hF1) (fun _ => by decide) (d_of DX10_number 30 rfl) ?_
      refine s_goto C (d_of DX10_number 31 rfl) rfl ?_
      exact h
theorem E_X10_number {G : GP} {l : Launch} {P : Int → NS → MM → Prop} {l1 : Int} {w : NS} {M : MM} (h : inR l1 → ∀ X : BX, X.2.1 = l → CX_X10_number G X → A_X10_number_0 G X P l1 w M) : CT_X10_number G l [(2, 41), (0, l1)] w M P :=
  CT.of RX10 "number" (by decide +kernel) rfl rfl rfl (Nat.le_of_ble_eq_true rfl) (fun hr X hX C => h (hr (0, l1) (by simp)) X hX C)
def A_X10_isItem_0 (G : GP) (X : BX) (P : Int → NS → MM → Prop) (l1 : Int) (w : NS) (M : MM) : Prop := WA true G X (QM G X true 0 P) 4 0 [(2, 41), (0, l1), (3, 0), (3, 0)] [] 0 0 w M
set_option maxHeartbeats 4000000 in
set_option maxRecDepth 100000 in
theorem B_X10_isItem_0 {G : GP} {X : BX} {P : Int → NS → MM → Prop} {l1 : Int} {w : NS} {M : MM} (C : CX_X10_isItem G X) (h : ∃ Q2 : Int → NS → MM → Prop, CT_X10_number G X.2.1 [(2, 41), (0, l1)] w M Q2 ∧ ∀ (z2 : Int) (w2 : NS) (M2 : MM), Q2 z2 w2 M2 → (((l1 ≤ (M2 41 30)) → (((l1 ≤ (M2 41 30)) → ∃ Q4 : Int → NS → MM → Prop, CT_X10_timesOf G X.2.1 [(2, 41), (0, z2)] w2 M2 Q4 ∧ ∀ (z4 : Int) (w4 : NS) (M4 : MM), Q4 z4 w4 M4 → (((z4 ≤ 0) → P 0 w4 M4) ∧ ((¬ (z4 ≤ 0)) → P 1 w4 M4))) ∧ ((¬ (l1 ≤ (M2 41 30))) → (0 ≤ (M2 41 30)) ∧ ((M2 41 30) < 440) ∧ ((((M2 56 (M2 41 30)) ≠ 126) → ∃ Q7 : Int → NS → MM → Prop, CT_X10_timesOf G X.2.1 [(2, 41), (0, z2)] w2 M2 Q7 ∧ ∀ (z7 : Int) (w7 : NS) (M7 : MM), Q7 z7 w7 M7 → (((z7 ≤ 0) → P 0 w7 M7) ∧ ((¬ (z7 ≤ 0)) → P 1 w7 M7))) ∧ ((¬ ((M2 56 (M2 41 30)) ≠ 126)) → (inR ((M2 41 30) + 1)) ∧ (0 ≤ ((M2 41 30) + 1)) ∧ (((M2 41 30) + 1) < 440) ∧ (inR ((M2 56 ((M2 41 30) + 1)) - 48)) ∧ (inR ((M2 41 30) + 3)) ∧ ∃ Q13 : Int → NS → MM → Prop, CT_X10_number G X.2.1 [(2, 41), (0, l1)] w2 (up M2 41 30 ((M2 41 30) + 3)) Q13 ∧ ∀ (z13 : Int) (w13 : NS) (M13 : MM), Q13 z13 w13 M13 → ∃ Q15 : Int → NS → MM → Prop, CT_X10_areNear G X.2.1 [(2, 41), (0, z2), (0, z13), (0, ((M2 56 ((M2 41 30) + 1)) - 48))] w13 M13 Q15 ∧ ∀ (z15 : Int) (w15 : NS) (M15 : MM), Q15 z15 w15 M15 → (z15 = 0 ∨ z15 = 1) ∧ P z15 w15 M15))))) ∧ ((¬ (l1 ≤ (M2 41 30))) → (0 ≤ (M2 41 30)) ∧ ((M2 41 30) < 440) ∧ ((((M2 56 (M2 41 30)) ≠ 62) → (((l1 ≤ (M2 41 30)) → ∃ Q19 : Int → NS → MM → Prop, CT_X10_timesOf G X.2.1 [(2, 41), (0, z2)] w2 M2 Q19 ∧ ∀ (z19 : Int) (w19 : NS) (M19 : MM), Q19 z19 w19 M19 → (((z19 ≤ 0) → P 0 w19 M19) ∧ ((¬ (z19 ≤ 0)) → P 1 w19 M19))) ∧ ((¬ (l1 ≤ (M2 41 30))) → ((((M2 56 (M2 41 30)) ≠ 126) → ∃ Q20 : Int → NS → MM → Prop, CT_X10_timesOf G X.2.1 [(2, 41), (0, z2)] w2 M2 Q20 ∧ ∀ (z20 : Int) (w20 : NS) (M20 : MM), Q20 z20 w20 M20 → (((z20 ≤ 0) → P 0 w20 M20) ∧ ((¬ (z20 ≤ 0)) → P 1 w20 M20))) ∧ ((¬ ((M2 56 (M2 41 30)) ≠ 126)) → (inR ((M2 41 30) + 1)) ∧ (0 ≤ ((M2 41 30) + 1)) ∧ (((M2 41 30) + 1) < 440) ∧ (inR ((M2 56 ((M2 41 30) + 1)) - 48)) ∧ (inR ((M2 41 30) + 3)) ∧ ∃ Q26 : Int → NS → MM → Prop, CT_X10_number G X.2.1 [(2, 41), (0, l1)] w2 (up M2 41 30 ((M2 41 30) + 3)) Q26 ∧ ∀ (z26 : Int) (w26 : NS) (M26 : MM), Q26 z26 w26 M26 → ∃ Q28 : Int → NS → MM → Prop, CT_X10_areNear G X.2.1 [(2, 41), (0, z2), (0, z26), (0, ((M2 56 ((M2 41 30) + 1)) - 48))] w26 M26 Q28 ∧ ∀ (z28 : Int) (w28 : NS) (M28 : MM), Q28 z28 w28 M28 → (z28 = 0 ∨ z28 = 1) ∧ P z28 w28 M28))))) ∧ ((¬ ((M2 56 (M2 41 30)) ≠ 62)) → (inR ((M2 41 30) + 1)) ∧ ∃ Q31 : Int → NS → MM → Prop, CT_X10_timesOf G X.2.1 [(2, 41), (0, z2)] w2 (up M2 41 30 ((M2 41 30) + 1)) Q31 ∧ ∀ (z31 : Int) (w31 : NS) (M31 : MM), Q31 z31 w31 M31 → ∃ Q33 : Int → NS → MM → Prop, CT_X10_number G X.2.1 [(2, 41), (0, l1)] w31 M31 Q33 ∧ ∀ (z33 : Int) (w33 : NS) (M33 : MM), Q33 z33 w33 M33 → (((z31 ≤ z33) → P 0 w33 M33) ∧ ((¬ (z31 ≤ z33)) → P 1 w33 M33))))))) : A_X10_isItem_0 G X P l1 w M := by
  unfold A_X10_isItem_0
  refine s_aload_n C (d_of DX10_isItem 0 rfl) rfl ?_
  refine s_iload_n C (d_of DX10_isItem 1 rfl) rfl ?_
  refine WA.fix (fun hF1 => ?_)
  obtain ⟨Q2, hKQ2, h⟩ := h
  refine s_callV (ci := 10) (av := [(0, l1)]) (rest := []) (mc := 0) (ms := 0) C (d_of DX10_isItem 2 rfl) lk_X10_229 (sh_41 hF1) (by decide) rfl rfl rfl (Nat.le_of_ble_eq_true rfl) (by decide) (by decide) hKQ2 (fun z2 w2 M2 hq => ?_)
  have h := h z2 w2 M2 hq
  refine s_istore_n (ls' := [(2, 41), (0, l1), (0, z2), (3, 0)]) C (d_of DX10_isItem 3 rfl) (by decide) rfl rfl ?_
  refine s_aload_n C (d_of DX10_isItem 4 rfl) rfl ?_
  refine WA.fix (fun hF3 => ?_)
  refine gf_X10_226 (v0 := (M2 41 30)) C (sh_41 hF3) (d_of DX10_isItem 5 rfl) rfl ?_
  refine s_iload_n C (d_of DX10_isItem 6 rfl) rfl ?_
  refine s_icmpge C (d_of DX10_isItem 7 rfl) rfl (fun hc => ?_) (fun hc => ?_)
  · have h := h.1 hc
    refine s_aload_n C (d_of DX10_isItem 32 rfl) rfl ?_
    refine gf_X10_226 (v0 := (M2 41 30)) C (sh_41 hF3) (d_of DX10_isItem 33 rfl) rfl ?_
    refine s_iload_n C (d_of DX10_isItem 34 rfl) rfl ?_
    refine s_icmpge C (d_of DX10_isItem 35 rfl) rfl (fun hc => ?_) (fun hc => ?_)
    · have h := h.1 hc
      refine s_aload_n C (d_of DX10_isItem 67 rfl) rfl ?_
      refine s_iload_n C (d_of DX10_isItem 68 rfl) rfl ?_
      obtain ⟨Q4, hKQ4, h⟩ := h
      refine s_callV (ci := 10) (av := [(0, z2)]) (rest := []) (mc := 0) (ms := 0) C (d_of DX10_isItem 69 rfl) lk_X10_232 (sh_41 hF3) (by decide) rfl rfl rfl (Nat.le_of_ble_eq_true rfl) (by decide) (by decide) hKQ4 (fun z4 w4 M4 hq => ?_)
      have h := h z4 w4 M4 hq
      refine s_ifle C (d_of DX10_isItem 70 rfl) rfl (fun hc => ?_) (fun hc => ?_)
      · have h := h.1 hc
        refine s_iconst C (d_of DX10_isItem 73 rfl) (by decide) ?_
        exact s_zreturn C (d_of DX10_isItem 74 rfl) (by decide) h
      · have h := h.2 hc
        refine s_iconst C (d_of DX10_isItem 71 rfl) (by decide) ?_
        refine s_goto C (d_of DX10_isItem 72 rfl) rfl ?_
        exact s_zreturn C (d_of DX10_isItem 74 rfl) (by decide) h
    · have h := h.2 hc
      refine s_aload_n C (d_of DX10_isItem 36 rfl) rfl ?_
      refine gf_X10_52 C (sh_41 hF3) (d_of DX10_isItem 37 rfl) (fx_41_18 hF3) ?_
      refine s_aload_n C (d_of DX10_isItem 38 rfl) rfl ?_
      refine gf_X10_226 (v0 := (M2 41 30)) C (sh_41 hF3) (d_of DX10_isItem 39 rfl) rfl ?_
      obtain ⟨o5, h⟩ := h
      obtain ⟨o6, h⟩ := h
      refine s_iald (v0 := (M2 56 (M2 41 30))) C (sh_56 hF3) o5 o6 (d_of DX10_isItem 40 rfl) rfl ?_
      refine s_bipush C (d_of DX10_isItem 41 rfl) ⟨rfl, by decide, by decide⟩ ?_
      refine s_icmpne C (d_of DX10_isItem 42 rfl) rfl (fun hc => ?_) (fun hc => ?_)
      · have h := h.1 hc
        refine s_aload_n C (d_of DX10_isItem 67 rfl) rfl ?_
        refine s_iload_n C (d_of DX10_isItem 68 rfl) rfl ?_
        obtain ⟨Q7, hKQ7, h⟩ := h
        refine s_callV (ci := 10) (av := [(0, z2)]) (rest := []) (mc := 0) (ms := 0) C (d_of DX10_isItem 69 rfl) lk_X10_232 (sh_41 hF3) (by decide) rfl rfl rfl (Nat.le_of_ble_eq_true rfl) (by decide) (by decide) hKQ7 (fun z7 w7 M7 hq => ?_)
        have h := h z7 w7 M7 hq
        refine s_ifle C (d_of DX10_isItem 70 rfl) rfl (fun hc => ?_) (fun hc => ?_)
        · have h := h.1 hc
          refine s_iconst C (d_of DX10_isItem 73 rfl) (by decide) ?_
          exact s_zreturn C (d_of DX10_isItem 74 rfl) (by decide) h
        · have h := h.2 hc
          refine s_iconst C (d_of DX10_isItem 71 rfl) (by decide) ?_
          refine s_goto C (d_of DX10_isItem 72 rfl) rfl ?_
          exact s_zreturn C (d_of DX10_isItem 74 rfl) (by decide) h
      · have h := h.2 hc
        refine s_aload_n C (d_of DX10_isItem 43 rfl) rfl ?_
        refine gf_X10_52 C (sh_41 hF3) (d_of DX10_isItem 44 rfl) (fx_41_18 hF3) ?_
        refine s_aload_n C (d_of DX10_isItem 45 rfl) rfl ?_
        refine gf_X10_226 (v0 := (M2 41 30)) C (sh_41 hF3) (d_of DX10_isItem 46 rfl) rfl ?_
        refine s_iconst C (d_of DX10_isItem 47 rfl) (by decide) ?_
        obtain ⟨o8, h⟩ := h
        refine s_iadd C (d_of DX10_isItem 48 rfl) o8 ?_
        obtain ⟨o9, h⟩ := h
        obtain ⟨o10, h⟩ := h
        refine s_iald (v0 := (M2 56 ((M2 41 30) + 1))) C (sh_56 hF3) o9 o10 (d_of DX10_isItem 49 rfl) rfl ?_
        refine s_bipush C (d_of DX10_isItem 50 rfl) ⟨rfl, by decide, by decide⟩ ?_
        obtain ⟨o11, h⟩ := h
        refine s_isub C (d_of DX10_isItem 51 rfl) o11 ?_
        refine s_istore_n (ls' := [(2, 41), (0, l1), (0, z2), (0, ((M2 56 ((M2 41 30) + 1)) - 48))]) C (d_of DX10_isItem 52 rfl) (by decide) rfl rfl ?_
        refine s_aload_n C (d_of DX10_isItem 53 rfl) rfl ?_
        refine s_dup C (by simp) (d_of DX10_isItem 54 rfl) ?_
        refine gf_X10_226 (v0 := (M2 41 30)) C (sh_41 hF3) (d_of DX10_isItem 55 rfl) rfl ?_
        refine s_iconst C (d_of DX10_isItem 56 rfl) (by decide) ?_
        obtain ⟨o12, h⟩ := h
        refine s_iadd C (d_of DX10_isItem 57 rfl) o12 ?_
        refine pf_X10_226 C (sh_41 hF3) (fun _ => by decide) (d_of DX10_isItem 58 rfl) ?_
        refine s_aload_n C (d_of DX10_isItem 59 rfl) rfl ?_
        refine s_iload_n C (d_of DX10_isItem 60 rfl) rfl ?_
        refine s_aload_n C (d_of DX10_isItem 61 rfl) rfl ?_
        refine s_iload_n C (d_of DX10_isItem 62 rfl) rfl ?_
        obtain ⟨Q13, hKQ13, h⟩ := h
        refine s_callV (ci := 10) (av := [(0, l1)]) (rest := [(0, z2), (2, 41)]) (mc := 0) (ms := 0) C (d_of DX10_isItem 63 rfl) lk_X10_229 (sh_41 hF3) (by decide) rfl rfl rfl (Nat.le_of_ble_eq_true rfl) (by decide) (by decide) hKQ13 (fun z13 w13 M13 hq => ?_)
        have h := h z13 w13 M13 hq
        refine s_iload_n C (d_of DX10_isItem 64 rfl) rfl ?_
        refine WA.fix (fun hF14 => ?_)
        obtain ⟨Q15, hKQ15, h⟩ := h
        refine s_callV (ci := 10) (av := [(0, z2), (0, z13), (0, ((M2 56 ((M2 41 30) + 1)) - 48))]) (rest := []) (mc := 0) (ms := 0) C (d_of DX10_isItem 65 rfl) lk_X10_235 (sh_41 hF14) (by decide) rfl rfl rfl (Nat.le_of_ble_eq_true rfl) (by decide) (by decide) hKQ15 (fun z15 w15 M15 hq => ?_)
        have h := h z15 w15 M15 hq
        obtain ⟨o16, h⟩ := h
        exact s_zreturn C (d_of DX10_isItem 66 rfl) o16 h
  · have h := h.2 hc
    refine s_aload_n C (d_of DX10_isItem 8 rfl) rfl ?_
    refine gf_X10_52 C (sh_41 hF3) (d_of DX10_isItem 9 rfl) (fx_41_18 hF3) ?_
    refine s_aload_n C (d_of DX10_isItem 10 rfl) rfl ?_
    refine gf_X10_226 (v0 := (M2 41 30)) C (sh_41 hF3) (d_of DX10_isItem 11 rfl) rfl ?_
    obtain ⟨o17, h⟩ := h
    obtain ⟨o18, h⟩ := h
    refine s_iald (v0 := (M2 56 (M2 41 30))) C (sh_56 hF3) o17 o18 (d_of DX10_isItem 12 rfl) rfl ?_
    refine s_bipush C (d_of DX10_isItem 13 rfl) ⟨rfl, by decide, by decide⟩ ?_
    refine s_icmpne C (d_of DX10_isItem 14 rfl) rfl (fun hc => ?_) (fun hc => ?_)
    · have h := h.1 hc
      refine s_aload_n C (d_of DX10_isItem 32 rfl) rfl ?_
      refine gf_X10_226 (v0 := (M2 41 30)) C (sh_41 hF3) (d_of DX10_isItem 33 rfl) rfl ?_
      refine s_iload_n C (d_of DX10_isItem 34 rfl) rfl ?_
      refine s_icmpge C (d_of DX10_isItem 35 rfl) rfl (fun hc => ?_) (fun hc => ?_)
      · have h := h.1 hc
        refine s_aload_n C (d_of DX10_isItem 67 rfl) rfl ?_
        refine s_iload_n C (d_of DX10_isItem 68 rfl) rfl ?_
        obtain ⟨Q19, hKQ19, h⟩ := h
        refine s_callV (ci := 10) (av := [(0, z2)]) (rest := []) (mc := 0) (ms := 0) C (d_of DX10_isItem 69 rfl) lk_X10_232 (sh_41 hF3) (by decide) rfl rfl rfl (Nat.le_of_ble_eq_true rfl) (by decide) (by decide) hKQ19 (fun z19 w19 M19 hq => ?_)
        have h := h z19 w19 M19 hq
        refine s_ifle C (d_of DX10_isItem 70 rfl) rfl (fun hc => ?_) (fun hc => ?_)
        · have h := h.1 hc
          refine s_iconst C (d_of DX10_isItem 73 rfl) (by decide) ?_
          exact s_zreturn C (d_of DX10_isItem 74 rfl) (by decide) h
        · have h := h.2 hc
          refine s_iconst C (d_of DX10_isItem 71 rfl) (by decide) ?_
          refine s_goto C (d_of DX10_isItem 72 rfl) rfl ?_
          exact s_zreturn C (d_of DX10_isItem 74 rfl) (by decide) h
      · have h := h.2 hc
        refine s_aload_n C (d_of DX10_isItem 36 rfl) rfl ?_
        refine gf_X10_52 C (sh_41 hF3) (d_of DX10_isItem 37 rfl) (fx_41_18 hF3) ?_
        refine s_aload_n C (d_of DX10_isItem 38 rfl) rfl ?_
        refine gf_X10_226 (v0 := (M2 41 30)) C (sh_41 hF3) (d_of DX10_isItem 39 rfl) rfl ?_
        refine s_iald (v0 := (M2 56 (M2 41 30))) C (sh_56 hF3) o17 o18 (d_of DX10_isItem 40 rfl) rfl ?_
        refine s_bipush C (d_of DX10_isItem 41 rfl) ⟨rfl, by decide, by decide⟩ ?_
        refine s_icmpne C (d_of DX10_isItem 42 rfl) rfl (fun hc => ?_) (fun hc => ?_)
        · have h := h.1 hc
          refine s_aload_n C (d_of DX10_isItem 67 rfl) rfl ?_
          refine s_iload_n C (d_of DX10_isItem 68 rfl) rfl ?_
          obtain ⟨Q20, hKQ20, h⟩ := h
          refine s_callV (ci := 10) (av := [(0, z2)]) (rest := []) (mc := 0) (ms := 0) C (d_of DX10_isItem 69 rfl) lk_X10_232 (sh_41 hF3) (by decide) rfl rfl rfl (Nat.le_of_ble_eq_true rfl) (by decide) (by decide) hKQ20 (fun z20 w20 M20 hq => ?_)
          have h := h z20 w20 M20 hq
          refine s_ifle C (d_of DX10_isItem 70 rfl) rfl (fun hc => ?_) (fun hc => ?_)
          · have h := h.1 hc
            refine s_iconst C (d_of DX10_isItem 73 rfl) (by decide) ?_
            exact s_zreturn C (d_of DX10_isItem 74 rfl) (by decide) h
          · have h := h.2 hc
            refine s_iconst C (d_of DX10_isItem 71 rfl) (by decide) ?_
            refine s_goto C (d_of DX10_isItem 72 rfl) rfl ?_
            exact s_zreturn C (d_of DX10_isItem 74 rfl) (by decide) h
        · have h := h.2 hc
          refine s_aload_n C (d_of DX10_isItem 43 rfl) rfl ?_
          refine gf_X10_52 C (sh_41 hF3) (d_of DX10_isItem 44 rfl) (fx_41_18 hF3) ?_
          refine s_aload_n C (d_of DX10_isItem 45 rfl) rfl ?_
          refine gf_X10_226 (v0 := (M2 41 30)) C (sh_41 hF3) (d_of DX10_isItem 46 rfl) rfl ?_
          refine s_iconst C (d_of DX10_isItem 47 rfl) (by decide) ?_
          obtain ⟨o21, h⟩ := h
          refine s_iadd C (d_of DX10_isItem 48 rfl) o21 ?_
          obtain ⟨o22, h⟩ := h
          obtain ⟨o23, h⟩ := h
          refine s_iald (v0 := (M2 56 ((M2 41 30) + 1))) C (sh_56 hF3) o22 o23 (d_of DX10_isItem 49 rfl) rfl ?_
          refine s_bipush C (d_of DX10_isItem 50 rfl) ⟨rfl, by decide, by decide⟩ ?_
          obtain ⟨o24, h⟩ := h
          refine s_isub C (d_of DX10_isItem 51 rfl) o24 ?_
          refine s_istore_n (ls' := [(2, 41), (0, l1), (0, z2), (0, ((M2 56 ((M2 41 30) + 1)) - 48))]) C (d_of DX10_isItem 52 rfl) (by decide) rfl rfl ?_
          refine s_aload_n C (d_of DX10_isItem 53 rfl) rfl ?_
          refine s_dup C (by simp) (d_of DX10_isItem 54 rfl) ?_
          refine gf_X10_226 (v0 := (M2 41 30)) C (sh_41 hF3) (d_of DX10_isItem 55 rfl) rfl ?_
          refine s_iconst C (d_of DX10_isItem 56 rfl) (by decide) ?_
          obtain ⟨o25, h⟩ := h
          refine s_iadd C (d_of DX10_isItem 57 rfl) o25 ?_
          refine pf_X10_226 C (sh_41 hF3) (fun _ => by decide) (d_of DX10_isItem 58 rfl) ?_
          refine s_aload_n C (d_of DX10_isItem 59 rfl) rfl ?_
          refine s_iload_n C (d_of DX10_isItem 60 rfl) rfl ?_
          refine s_aload_n C (d_of DX10_isItem 61 rfl) rfl ?_
          refine s_iload_n C (d_of DX10_isItem 62 rfl) rfl ?_
          obtain ⟨Q26, hKQ26, h⟩ := h
          refine s_callV (ci := 10) (av := [(0, l1)]) (rest := [(0, z2), (2, 41)]) (mc := 0) (ms := 0) C (d_of DX10_isItem 63 rfl) lk_X10_229 (sh_41 hF3) (by decide) rfl rfl rfl (Nat.le_of_ble_eq_true rfl) (by decide) (by decide) hKQ26 (fun z26 w26 M26 hq => ?_)
          have h := h z26 w26 M26 hq
          refine s_iload_n C (d_of DX10_isItem 64 rfl) rfl ?_
          refine WA.fix (fun hF27 => ?_)
          obtain ⟨Q28, hKQ28, h⟩ := h
          refine s_callV (ci := 10) (av := [(0, z2), (0, z26), (0, ((M2 56 ((M2 41 30) + 1)) - 48))]) (rest := []) (mc := 0) (ms := 0) C (d_of DX10_isItem 65 rfl) lk_X10_235 (sh_41 hF27) (by decide) rfl rfl rfl (Nat.le_of_ble_eq_true rfl) (by decide) (by decide) hKQ28 (fun z28 w28 M28 hq => ?_)
          have h := h z28 w28 M28 hq
          obtain ⟨o29, h⟩ := h
          exact s_zreturn C (d_of DX10_isItem 66 rfl) o29 h
    · have h := h.2 hc
      refine s_aload_n C (d_of DX10_isItem 15 rfl) rfl ?_
      refine s_dup C (by simp) (d_of DX10_isItem 16 rfl) ?_
      refine gf_X10_226 (v0 := (M2 41 30)) C (sh_41 hF3) (d_of DX10_isItem 17 rfl) rfl ?_
      refine s_iconst C (d_of DX10_isItem 18 rfl) (by decide) ?_
      obtain ⟨o30, h⟩ := h
      refine s_iadd C (d_of DX10_isItem 19 rfl) o30 ?_
      refine pf_X10_226 C (sh_41 hF3) (fun _ => by decide) (d_of DX10_isItem 20 rfl) ?_
      refine s_aload_n C (d_of DX10_isItem 21 rfl) rfl ?_
      refine s_iload_n C (d_of DX10_isItem 22 rfl) rfl ?_
      obtain ⟨Q31, hKQ31, h⟩ := h
      refine s_callV (ci := 10) (av := [(0, z2)]) (rest := []) (mc := 0) (ms := 0) C (d_of DX10_isItem 23 rfl) lk_X10_232 (sh_41 hF3) (by decide) rfl rfl rfl (Nat.le_of_ble_eq_true rfl) (by decide) (by decide) hKQ31 (fun z31 w31 M31 hq => ?_)
      have h := h z31 w31 M31 hq
      refine s_aload_n C (d_of DX10_isItem 24 rfl) rfl ?_
      refine s_iload_n C (d_of DX10_isItem 25 rfl) rfl ?_
      refine WA.fix (fun hF32 => ?_)
      obtain ⟨Q33, hKQ33, h⟩ := h
      refine s_callV (ci := 10) (av := [(0, l1)]) (rest := [(0, z31)]) (mc := 0) (ms := 0) C (d_of DX10_isItem 26 rfl) lk_X10_229 (sh_41 hF32) (by decide) rfl rfl rfl (Nat.le_of_ble_eq_true rfl) (by decide) (by decide) hKQ33 (fun z33 w33 M33 hq => ?_)
      have h := h z33 w33 M33 hq
      refine s_icmple C (d_of DX10_isItem 27 rfl) rfl (fun hc => ?_) (fun hc => ?_)
      · have h := h.1 hc
        refine s_iconst C (d_of DX10_isItem 30 rfl) (by decide) ?_
        exact s_zreturn C (d_of DX10_isItem 31 rfl) (by decide) h
      · have h := h.2 hc
        refine s_iconst C (d_of DX10_isItem 28 rfl) (by decide) ?_
        refine s_goto C (d_of DX10_isItem 29 rfl) rfl ?_
        exact s_zreturn C (d_of DX10_isItem 31 rfl) (by decide) h
theorem E_X10_isItem {G : GP} {l : Launch} {P : Int → NS → MM → Prop} {l1 : Int} {w : NS} {M : MM} (h : inR l1 → ∀ X : BX, X.2.1 = l → CX_X10_isItem G X → A_X10_isItem_0 G X P l1 w M) : CT_X10_isItem G l [(2, 41), (0, l1)] w M P :=
  CT.of RX10 "isItem" (by decide +kernel) rfl rfl rfl (Nat.le_of_ble_eq_true rfl) (fun hr X hX C => h (hr (0, l1) (by simp)) X hX C)
