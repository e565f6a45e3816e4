def A_L_18 (G : GP) (X : BX) (Q : State → Prop) (l3 : Int) (rc rs : Nat) (w : NS) (M : MM) : Prop := WA true G X Q 4 18 [(2, (-4)), (2, 1), (2, 41), (0, l3)] [] rc rs w M
def A_L_1396 (G : GP) (X : BX) (Q : State → Prop) (l3 : Int) (rc rs : Nat) (w : NS) (M : MM) : Prop := WA true G X Q 4 1396 [(2, (-4)), (2, 1), (2, 41), (0, l3)] [] rc rs w M
def A_L_176 (G : GP) (X : BX) (Q : State → Prop) (l3 : Int) (rc rs : Nat) (w : NS) (M : MM) : Prop := WA true G X Q 4 176 [(2, (-4)), (2, 1), (2, 41), (0, l3)] [] rc rs w M
def A_L_209 (G : GP) (X : BX) (Q : State → Prop) (l3 : Int) (rc rs : Nat) (w : NS) (M : MM) : Prop := WA true G X Q 4 209 [(2, (-4)), (2, 1), (2, 41), (0, l3)] [] rc rs w M
def A_L_252 (G : GP) (X : BX) (Q : State → Prop) (l3 : Int) (rc rs : Nat) (w : NS) (M : MM) : Prop := WA true G X Q 4 252 [(2, (-4)), (2, 1), (2, 41), (0, l3)] [] rc rs w M
def A_L_285 (G : GP) (X : BX) (Q : State → Prop) (l3 : Int) (rc rs : Nat) (w : NS) (M : MM) : Prop := WA true G X Q 4 285 [(2, (-4)), (2, 1), (2, 41), (0, l3)] [] rc rs w M
def A_L_318 (G : GP) (X : BX) (Q : State → Prop) (l3 : Int) (rc rs : Nat) (w : NS) (M : MM) : Prop := WA true G X Q 4 318 [(2, (-4)), (2, 1), (2, 41), (0, l3)] [] rc rs w M
def A_L_381 (G : GP) (X : BX) (Q : State → Prop) (l3 : Int) (rc rs : Nat) (w : NS) (M : MM) : Prop := WA true G X Q 4 381 [(2, (-4)), (2, 1), (2, 41), (0, l3)] [] rc rs w M
def A_L_414 (G : GP) (X : BX) (Q : State → Prop) (l3 : Int) (rc rs : Nat) (w : NS) (M : MM) : Prop := WA true G X Q 4 414 [(2, (-4)), (2, 1), (2, 41), (0, l3)] [] rc rs w M
def A_L_447 (G : GP) (X : BX) (Q : State → Prop) (l3 : Int) (rc rs : Nat) (w : NS) (M : MM) : Prop := WA true G X Q 4 447 [(2, (-4)), (2, 1), (2, 41), (0, l3)] [] rc rs w M
def A_L_480 (G : GP) (X : BX) (Q : State → Prop) (l3 : Int) (rc rs : Nat) (w : NS) (M : MM) : Prop := WA true G X Q 4 480 [(2, (-4)), (2, 1), (2, 41), (0, l3)] [] rc rs w M
def A_L_503 (G : GP) (X : BX) (Q : State → Prop) (l3 : Int) (rc rs : Nat) (w : NS) (M : MM) : Prop := WA true G X Q 4 503 [(2, (-4)), (2, 1), (2, 41), (0, l3)] [] rc rs w M
def A_L_516 (G : GP) (X : BX) (Q : State → Prop) (l3 : Int) (rc rs : Nat) (w : NS) (M : MM) : Prop := WA true G X Q 4 516 [(2, (-4)), (2, 1), (2, 41), (0, l3)] [] rc rs w M
def A_L_529 (G : GP) (X : BX) (Q : State → Prop) (l3 : Int) (rc rs : Nat) (w : NS) (M : MM) : Prop := WA true G X Q 4 529 [(2, (-4)), (2, 1), (2, 41), (0, l3)] [] rc rs w M
def A_L_620 (G : GP) (X : BX) (Q : State → Prop) (l3 : Int) (rc rs : Nat) (w : NS) (M : MM) : Prop := WA true G X Q 4 620 [(2, (-4)), (2, 1), (2, 41), (0, l3)] [] rc rs w M
def A_L_663 (G : GP) (X : BX) (Q : State → Prop) (l3 : Int) (rc rs : Nat) (w : NS) (M : MM) : Prop := WA true G X Q 4 663 [(2, (-4)), (2, 1), (2, 41), (0, l3)] [] rc rs w M
def A_L_696 (G : GP) (X : BX) (Q : State → Prop) (l3 : Int) (rc rs : Nat) (w : NS) (M : MM) : Prop := WA true G X Q 4 696 [(2, (-4)), (2, 1), (2, 41), (0, l3)] [] rc rs w M
def A_L_729 (G : GP) (X : BX) (Q : State → Prop) (l3 : Int) (rc rs : Nat) (w : NS) (M : MM) : Prop := WA true G X Q 4 729 [(2, (-4)), (2, 1), (2, 41), (0, l3)] [] rc rs w M
def A_L_772 (G : GP) (X : BX) (Q : State → Prop) (l3 : Int) (rc rs : Nat) (w : NS) (M : MM) : Prop := WA true G X Q 4 772 [(2, (-4)), (2, 1), (2, 41), (0, l3)] [] rc rs w M
def A_L_805 (G : GP) (X : BX) (Q : State → Prop) (l3 : Int) (rc rs : Nat) (w : NS) (M : MM) : Prop := WA true G X Q 4 805 [(2, (-4)), (2, 1), (2, 41), (0, l3)] [] rc rs w M
def A_L_848 (G : GP) (X : BX) (Q : State → Prop) (l3 : Int) (rc rs : Nat) (w : NS) (M : MM) : Prop := WA true G X Q 4 848 [(2, (-4)), (2, 1), (2, 41), (0, l3)] [] rc rs w M
def A_L_891 (G : GP) (X : BX) (Q : State → Prop) (l3 : Int) (rc rs : Nat) (w : NS) (M : MM) : Prop := WA true G X Q 4 891 [(2, (-4)), (2, 1), (2, 41), (0, l3)] [] rc rs w M
def A_L_924 (G : GP) (X : BX) (Q : State → Prop) (l3 : Int) (rc rs : Nat) (w : NS) (M : MM) : Prop := WA true G X Q 4 924 [(2, (-4)), (2, 1), (2, 41), (0, l3)] [] rc rs w M
def A_L_967 (G : GP) (X : BX) (Q : State → Prop) (l3 : Int) (rc rs : Nat) (w : NS) (M : MM) : Prop := WA true G X Q 4 967 [(2, (-4)), (2, 1), (2, 41), (0, l3)] [] rc rs w M
def A_L_1026 (G : GP) (X : BX) (Q : State → Prop) (l3 : Int) (rc rs : Nat) (w : NS) (M : MM) : Prop := WA true G X Q 4 1026 [(2, (-4)), (2, 1), (2, 41), (0, l3)] [] rc rs w M
def A_L_1079 (G : GP) (X : BX) (Q : State → Prop) (l3 : Int) (rc rs : Nat) (w : NS) (M : MM) : Prop := WA true G X Q 4 1079 [(2, (-4)), (2, 1), (2, 41), (0, l3)] [] rc rs w M
def A_L_1122 (G : GP) (X : BX) (Q : State → Prop) (l3 : Int) (rc rs : Nat) (w : NS) (M : MM) : Prop := WA true G X Q 4 1122 [(2, (-4)), (2, 1), (2, 41), (0, l3)] [] rc rs w M
def A_L_1165 (G : GP) (X : BX) (Q : State → Prop) (l3 : Int) (rc rs : Nat) (w : NS) (M : MM) : Prop := WA true G X Q 4 1165 [(2, (-4)), (2, 1), (2, 41), (0, l3)] [] rc rs w M
def A_L_1198 (G : GP) (X : BX) (Q : State → Prop) (l3 : Int) (rc rs : Nat) (w : NS) (M : MM) : Prop := WA true G X Q 4 1198 [(2, (-4)), (2, 1), (2, 41), (0, l3)] [] rc rs w M
def A_L_1231 (G : GP) (X : BX) (Q : State → Prop) (l3 : Int) (rc rs : Nat) (w : NS) (M : MM) : Prop := WA true G X Q 4 1231 [(2, (-4)), (2, 1), (2, 41), (0, l3)] [] rc rs w M
def A_L_1254 (G : GP) (X : BX) (Q : State → Prop) (l3 : Int) (rc rs : Nat) (w : NS) (M : MM) : Prop := WA true G X Q 4 1254 [(2, (-4)), (2, 1), (2, 41), (0, l3)] [] rc rs w M
def A_L_1287 (G : GP) (X : BX) (Q : State → Prop) (l3 : Int) (rc rs : Nat) (w : NS) (M : MM) : Prop := WA true G X Q 4 1287 [(2, (-4)), (2, 1), (2, 41), (0, l3)] [] rc rs w M
def A_L_1320 (G : GP) (X : BX) (Q : State → Prop) (l3 : Int) (rc rs : Nat) (w : NS) (M : MM) : Prop := WA true G X Q 4 1320 [(2, (-4)), (2, 1), (2, 41), (0, l3)] [] rc rs w M
def A_L_1373 (G : GP) (X : BX) (Q : State → Prop) (l3 : Int) (rc rs : Nat) (w : NS) (M : MM) : Prop := WA true G X Q 4 1373 [(2, (-4)), (2, 1), (2, 41), (0, l3)] [] rc rs w M
set_option maxHeartbeats 4000000 in
set_option maxRecDepth 100000 in
theorem B_L_18 {G : GP} {X : BX} {Q : State → Prop} {nm : String} {L : Nat} {xs : Nat → Int32} {l3 : Int} {rc rs : Nat} {w : NS} {M : MM} (C : CL G X nm) (hT : SCR G X L xs) (hL : L ≤ 3584) (h0 : 0 ≤ l3) (hq : LQ G X Q) (h : (((((L : Int) - 7) < l3) → True) ∧ ((¬ (((L : Int) - 7) < l3)) → ((((zand ((xs (l3).toNat).toInt) 31) < 0 ∨ 31 < (zand ((xs (l3).toNat).toInt) 31)) → A_L_1396 G X Q l3 (rc + 0) (rs + 0) w M) ∧ ((zand ((xs (l3).toNat).toInt) 31) = 0 → A_L_176 G X Q l3 (rc + 0) (rs + 0) w M) ∧ ((zand ((xs (l3).toNat).toInt) 31) = 1 → A_L_209 G X Q l3 (rc + 0) (rs + 0) w M) ∧ ((zand ((xs (l3).toNat).toInt) 31) = 2 → A_L_252 G X Q l3 (rc + 0) (rs + 0) w M) ∧ ((zand ((xs (l3).toNat).toInt) 31) = 3 → A_L_285 G X Q l3 (rc + 0) (rs + 0) w M) ∧ ((zand ((xs (l3).toNat).toInt) 31) = 4 → A_L_318 G X Q l3 (rc + 0) (rs + 0) w M) ∧ ((zand ((xs (l3).toNat).toInt) 31) = 5 → A_L_381 G X Q l3 (rc + 0) (rs + 0) w M) ∧ ((zand ((xs (l3).toNat).toInt) 31) = 6 → A_L_414 G X Q l3 (rc + 0) (rs + 0) w M) ∧ ((zand ((xs (l3).toNat).toInt) 31) = 7 → A_L_447 G X Q l3 (rc + 0) (rs + 0) w M) ∧ ((zand ((xs (l3).toNat).toInt) 31) = 8 → A_L_480 G X Q l3 (rc + 0) (rs + 0) w M) ∧ ((zand ((xs (l3).toNat).toInt) 31) = 9 → A_L_503 G X Q l3 (rc + 0) (rs + 0) w M) ∧ ((zand ((xs (l3).toNat).toInt) 31) = 10 → A_L_516 G X Q l3 (rc + 0) (rs + 0) w M) ∧ ((zand ((xs (l3).toNat).toInt) 31) = 11 → A_L_529 G X Q l3 (rc + 0) (rs + 0) w M) ∧ ((zand ((xs (l3).toNat).toInt) 31) = 12 → A_L_620 G X Q l3 (rc + 0) (rs + 0) w M) ∧ ((zand ((xs (l3).toNat).toInt) 31) = 13 → A_L_663 G X Q l3 (rc + 0) (rs + 0) w M) ∧ ((zand ((xs (l3).toNat).toInt) 31) = 14 → A_L_696 G X Q l3 (rc + 0) (rs + 0) w M) ∧ ((zand ((xs (l3).toNat).toInt) 31) = 15 → A_L_729 G X Q l3 (rc + 0) (rs + 0) w M) ∧ ((zand ((xs (l3).toNat).toInt) 31) = 16 → A_L_772 G X Q l3 (rc + 0) (rs + 0) w M) ∧ ((zand ((xs (l3).toNat).toInt) 31) = 17 → A_L_805 G X Q l3 (rc + 0) (rs + 0) w M) ∧ ((zand ((xs (l3).toNat).toInt) 31) = 18 → A_L_848 G X Q l3 (rc + 0) (rs + 0) w M) ∧ ((zand ((xs (l3).toNat).toInt) 31) = 19 → A_L_891 G X Q l3 (rc + 0) (rs + 0) w M) ∧ ((zand ((xs (l3).toNat).toInt) 31) = 20 → A_L_924 G X Q l3 (rc + 0) (rs + 0) w M) ∧ ((zand ((xs (l3).toNat).toInt) 31) = 21 → A_L_967 G X Q l3 (rc + 0) (rs + 0) w M) ∧ ((zand ((xs (l3).toNat).toInt) 31) = 22 → A_L_1026 G X Q l3 (rc + 0) (rs + 0) w M) ∧ ((zand ((xs (l3).toNat).toInt) 31) = 23 → A_L_1079 G X Q l3 (rc + 0) (rs + 0) w M) ∧ ((zand ((xs (l3).toNat).toInt) 31) = 24 → A_L_1122 G X Q l3 (rc + 0) (rs + 0) w M) ∧ ((zand ((xs (l3).toNat).toInt) 31) = 25 → A_L_1165 G X Q l3 (rc + 0) (rs + 0) w M) ∧ ((zand ((xs (l3).toNat).toInt) 31) = 26 → A_L_1198 G X Q l3 (rc + 0) (rs + 0) w M) ∧ ((zand ((xs (l3).toNat).toInt) 31) = 27 → A_L_1231 G X Q l3 (rc + 0) (rs + 0) w M) ∧ ((zand ((xs (l3).toNat).toInt) 31) = 28 → A_L_1254 G X Q l3 (rc + 0) (rs + 0) w M) ∧ ((zand ((xs (l3).toNat).toInt) 31) = 29 → A_L_1287 G X Q l3 (rc + 0) (rs + 0) w M) ∧ ((zand ((xs (l3).toNat).toInt) 31) = 30 → A_L_1320 G X Q l3 (rc + 0) (rs + 0) w M) ∧ ((zand ((xs (l3).toNat).toInt) 31) = 31 → A_L_1373 G X Q l3 (rc + 0) (rs + 0) w M))))) : A_L_18 G X Q l3 (rc + 0) (rs + 0) w M := by
  unfold A_L_18
  unfold SCR at hT
  refine s_iload_n C (d_of DL_0 10 rfl) rfl ?_
  refine s_aload_n C (d_of DL_0 11 rfl) rfl ?_
  refine s_tlen (e := 4) C (by decide) hT ⟨by omega, by omega⟩ (d_of DL_0 12 rfl) ?_
  refine s_bipush C (d_of DL_0 13 rfl) ⟨rfl, by decide, by decide⟩ ?_
  refine s_isub C (d_of DL_0 14 rfl) ⟨by omega, by omega⟩ ?_
  refine s_icmpgt C (d_of DL_0 15 rfl) rfl (fun hc => ?_) (fun hc => ?_)
  · have h := h.1 hc
    refine s_iconst C (d_of DL_10 34 rfl) (by decide) ?_
    exact hq _ _ _ _ _ _ (d_of DL_10 35 rfl)
  · have h := h.2 hc
    refine s_aload_n C (d_of DL_0 16 rfl) rfl ?_
    refine s_iload_n C (d_of DL_0 17 rfl) rfl ?_
    refine s_tald (e := 4) C (by decide) hT (xs_r xs) (by omega) (by omega) (d_of DL_0 18 rfl) ?_
    refine s_bipush C (d_of DL_0 19 rfl) ⟨rfl, by decide, by decide⟩ ?_
    refine s_iand C (d_of DL_0 20 rfl) ?_
    rcases (show ((zand ((xs (l3).toNat).toInt) 31) < 0 ∨ 31 < (zand ((xs (l3).toNat).toInt) 31)) ∨ (zand ((xs (l3).toNat).toInt) 31) = 0 ∨ (zand ((xs (l3).toNat).toInt) 31) = 1 ∨ (zand ((xs (l3).toNat).toInt) 31) = 2 ∨ (zand ((xs (l3).toNat).toInt) 31) = 3 ∨ (zand ((xs (l3).toNat).toInt) 31) = 4 ∨ (zand ((xs (l3).toNat).toInt) 31) = 5 ∨ (zand ((xs (l3).toNat).toInt) 31) = 6 ∨ (zand ((xs (l3).toNat).toInt) 31) = 7 ∨ (zand ((xs (l3).toNat).toInt) 31) = 8 ∨ (zand ((xs (l3).toNat).toInt) 31) = 9 ∨ (zand ((xs (l3).toNat).toInt) 31) = 10 ∨ (zand ((xs (l3).toNat).toInt) 31) = 11 ∨ (zand ((xs (l3).toNat).toInt) 31) = 12 ∨ (zand ((xs (l3).toNat).toInt) 31) = 13 ∨ (zand ((xs (l3).toNat).toInt) 31) = 14 ∨ (zand ((xs (l3).toNat).toInt) 31) = 15 ∨ (zand ((xs (l3).toNat).toInt) 31) = 16 ∨ (zand ((xs (l3).toNat).toInt) 31) = 17 ∨ (zand ((xs (l3).toNat).toInt) 31) = 18 ∨ (zand ((xs (l3).toNat).toInt) 31) = 19 ∨ (zand ((xs (l3).toNat).toInt) 31) = 20 ∨ (zand ((xs (l3).toNat).toInt) 31) = 21 ∨ (zand ((xs (l3).toNat).toInt) 31) = 22 ∨ (zand ((xs (l3).toNat).toInt) 31) = 23 ∨ (zand ((xs (l3).toNat).toInt) 31) = 24 ∨ (zand ((xs (l3).toNat).toInt) 31) = 25 ∨ (zand ((xs (l3).toNat).toInt) 31) = 26 ∨ (zand ((xs (l3).toNat).toInt) 31) = 27 ∨ (zand ((xs (l3).toNat).toInt) 31) = 28 ∨ (zand ((xs (l3).toNat).toInt) 31) = 29 ∨ (zand ((xs (l3).toNat).toInt) 31) = 30 ∨ (zand ((xs (l3).toNat).toInt) 31) = 31 from by omega) with hc | hc | hc | hc | hc | hc | hc | hc | hc | hc | hc | hc | hc | hc | hc | hc | hc | hc | hc | hc | hc | hc | hc | hc | hc | hc | hc | hc | hc | hc | hc | hc | hc
    · have h := h.1 hc
      refine s_tabOut C (d_of DL_0 21 rfl) hc rfl ?_
      exact h
    · have h := h.2.1 hc
      refine s_tabIn C (d_of DL_0 21 rfl) hc (by decide) (by decide) rfl rfl ?_
      exact h
    · have h := h.2.2.1 hc
      refine s_tabIn C (d_of DL_0 21 rfl) hc (by decide) (by decide) rfl rfl ?_
      exact h
    · have h := h.2.2.2.1 hc
      refine s_tabIn C (d_of DL_0 21 rfl) hc (by decide) (by decide) rfl rfl ?_
      exact h
    · have h := h.2.2.2.2.1 hc
      refine s_tabIn C (d_of DL_0 21 rfl) hc (by decide) (by decide) rfl rfl ?_
      exact h
    · have h := h.2.2.2.2.2.1 hc
      refine s_tabIn C (d_of DL_0 21 rfl) hc (by decide) (by decide) rfl rfl ?_
      exact h
    · have h := h.2.2.2.2.2.2.1 hc
      refine s_tabIn C (d_of DL_0 21 rfl) hc (by decide) (by decide) rfl rfl ?_
      exact h
    · have h := h.2.2.2.2.2.2.2.1 hc
      refine s_tabIn C (d_of DL_0 21 rfl) hc (by decide) (by decide) rfl rfl ?_
      exact h
    · have h := h.2.2.2.2.2.2.2.2.1 hc
      refine s_tabIn C (d_of DL_0 21 rfl) hc (by decide) (by decide) rfl rfl ?_
      exact h
    · have h := h.2.2.2.2.2.2.2.2.2.1 hc
      refine s_tabIn C (d_of DL_0 21 rfl) hc (by decide) (by decide) rfl rfl ?_
      exact h
    · have h := h.2.2.2.2.2.2.2.2.2.2.1 hc
      refine s_tabIn C (d_of DL_0 21 rfl) hc (by decide) (by decide) rfl rfl ?_
      exact h
    · have h := h.2.2.2.2.2.2.2.2.2.2.2.1 hc
      refine s_tabIn C (d_of DL_0 21 rfl) hc (by decide) (by decide) rfl rfl ?_
      exact h
    · have h := h.2.2.2.2.2.2.2.2.2.2.2.2.1 hc
      refine s_tabIn C (d_of DL_0 21 rfl) hc (by decide) (by decide) rfl rfl ?_
      exact h
    · have h := h.2.2.2.2.2.2.2.2.2.2.2.2.2.1 hc
      refine s_tabIn C (d_of DL_0 21 rfl) hc (by decide) (by decide) rfl rfl ?_
      exact h
    · have h := h.2.2.2.2.2.2.2.2.2.2.2.2.2.2.1 hc
      refine s_tabIn C (d_of DL_0 21 rfl) hc (by decide) (by decide) rfl rfl ?_
      exact h
    · have h := h.2.2.2.2.2.2.2.2.2.2.2.2.2.2.2.1 hc
      refine s_tabIn C (d_of DL_0 21 rfl) hc (by decide) (by decide) rfl rfl ?_
      exact h
    · have h := h.2.2.2.2.2.2.2.2.2.2.2.2.2.2.2.2.1 hc
      refine s_tabIn C (d_of DL_0 21 rfl) hc (by decide) (by decide) rfl rfl ?_
      exact h
    · have h := h.2.2.2.2.2.2.2.2.2.2.2.2.2.2.2.2.2.1 hc
      refine s_tabIn C (d_of DL_0 21 rfl) hc (by decide) (by decide) rfl rfl ?_
      exact h
    · have h := h.2.2.2.2.2.2.2.2.2.2.2.2.2.2.2.2.2.2.1 hc
      refine s_tabIn C (d_of DL_0 21 rfl) hc (by decide) (by decide) rfl rfl ?_
      exact h
    · have h := h.2.2.2.2.2.2.2.2.2.2.2.2.2.2.2.2.2.2.2.1 hc
      refine s_tabIn C (d_of DL_0 21 rfl) hc (by decide) (by decide) rfl rfl ?_
      exact h
    · have h := h.2.2.2.2.2.2.2.2.2.2.2.2.2.2.2.2.2.2.2.2.1 hc
      refine s_tabIn C (d_of DL_0 21 rfl) hc (by decide) (by decide) rfl rfl ?_
      exact h
    · have h := h.2.2.2.2.2.2.2.2.2.2.2.2.2.2.2.2.2.2.2.2.2.1 hc
      refine s_tabIn C (d_of DL_0 21 rfl) hc (by decide) (by decide) rfl rfl ?_
      exact h
    · have h := h.2.2.2.2.2.2.2.2.2.2.2.2.2.2.2.2.2.2.2.2.2.2.1 hc
      refine s_tabIn C (d_of DL_0 21 rfl) hc (by decide) (by decide) rfl rfl ?_
      exact h
    · have h := h.2.2.2.2.2.2.2.2.2.2.2.2.2.2.2.2.2.2.2.2.2.2.2.1 hc
      refine s_tabIn C (d_of DL_0 21 rfl) hc (by decide) (by decide) rfl rfl ?_
      exact h
    · have h := h.2.2.2.2.2.2.2.2.2.2.2.2.2.2.2.2.2.2.2.2.2.2.2.2.1 hc
      refine s_tabIn C (d_of DL_0 21 rfl) hc (by decide) (by decide) rfl rfl ?_
      exact h
    · have h := h.2.2.2.2.2.2.2.2.2.2.2.2.2.2.2.2.2.2.2.2.2.2.2.2.2.1 hc
      refine s_tabIn C (d_of DL_0 21 rfl) hc (by decide) (by decide) rfl rfl ?_
      exact h
    · have h := h.2.2.2.2.2.2.2.2.2.2.2.2.2.2.2.2.2.2.2.2.2.2.2.2.2.2.1 hc
      refine s_tabIn C (d_of DL_0 21 rfl) hc (by decide) (by decide) rfl rfl ?_
      exact h
    · have h := h.2.2.2.2.2.2.2.2.2.2.2.2.2.2.2.2.2.2.2.2.2.2.2.2.2.2.2.1 hc
      refine s_tabIn C (d_of DL_0 21 rfl) hc (by decide) (by decide) rfl rfl ?_
      exact h
    · have h := h.2.2.2.2.2.2.2.2.2.2.2.2.2.2.2.2.2.2.2.2.2.2.2.2.2.2.2.2.1 hc
      refine s_tabIn C (d_of DL_0 21 rfl) hc (by decide) (by decide) rfl rfl ?_
      exact h
    · have h := h.2.2.2.2.2.2.2.2.2.2.2.2.2.2.2.2.2.2.2.2.2.2.2.2.2.2.2.2.2.1 hc
      refine s_tabIn C (d_of DL_0 21 rfl) hc (by decide) (by decide) rfl rfl ?_
      exact h
    · have h := h.2.2.2.2.2.2.2.2.2.2.2.2.2.2.2.2.2.2.2.2.2.2.2.2.2.2.2.2.2.2.1 hc
      refine s_tabIn C (d_of DL_0 21 rfl) hc (by decide) (by decide) rfl rfl ?_
      exact h
    · have h := h.2.2.2.2.2.2.2.2.2.2.2.2.2.2.2.2.2.2.2.2.2.2.2.2.2.2.2.2.2.2.2.1 hc
      refine s_tabIn C (d_of DL_0 21 rfl) hc (by decide) (by decide) rfl rfl ?_
      exact h
    · have h := h.2.2.2.2.2.2.2.2.2.2.2.2.2.2.2.2.2.2.2.2.2.2.2.2.2.2.2.2.2.2.2.2 hc
      refine s_tabIn C (d_of DL_0 21 rfl) hc (by decide) (by decide) rfl rfl ?_
      exact h
set_option maxHeartbeats 4000000 in
set_option maxRecDepth 100000 in
theorem B_L_1396 {G : GP} {X : BX} {Q : State → Prop} {nm : String} {L : Nat} {xs : Nat → Int32} {l3 : Int} {rc rs : Nat} {w : NS} {M : MM} (C : CL G X nm) (hT : SCR G X L xs) (hL : L ≤ 3584) (h0 : 0 ≤ l3) (h7 : l3 + 7 ≤ L) (h : A_L_18 G X Q (l3 + 7) (rc + 0) (rs + 0) w M) : A_L_1396 G X Q l3 (rc + 0) (rs + 0) w M := by
  unfold A_L_1396
  unfold SCR at hT
  refine s_iinc (ls' := [(2, (-4)), (2, 1), (2, 41), (0, (l3 + 7))]) C (d_of DL_10 32 rfl) (by decide) rfl ⟨by omega, by omega⟩ rfl rfl ?_
  refine s_goto C (d_of DL_10 33 rfl) rfl ?_
  exact h
set_option maxHeartbeats 4000000 in
set_option maxRecDepth 100000 in
theorem B_L_176 {G : GP} {X : BX} {Q : State → Prop} {nm : String} {L : Nat} {xs : Nat → Int32} {l3 : Int} {rc rs : Nat} {w : NS} {M : MM} (C : CL G X nm) (hT : SCR G X L xs) (hL : L ≤ 3584) (h0 : 0 ≤ l3) (h7 : l3 + 7 ≤ L) (h : ∃ Q2 : Int → NS → MM → Prop, CT_X9_page G X.2.1 [(2, 1), (0, ((xs ((l3 + 1)).toNat).toInt)), (0, ((xs ((l3 + 2)).toNat).toInt))] w M Q2 ∧ ∀ (z2 : Int) (w2 : NS) (M2 : MM), Q2 z2 w2 M2 → ∃ Q4 : Int → NS → MM → Prop, CT_X10_page G X.2.1 [(2, 41), (0, ((xs ((l3 + 1)).toNat).toInt)), (0, ((xs ((l3 + 2)).toNat).toInt))] w2 M2 Q4 ∧ ∀ (z4 : Int) (w4 : NS) (M4 : MM), Q4 z4 w4 M4 → (((z2 = z4) → A_L_1396 G X Q l3 (rc + 0) (rs + 0) w4 M4) ∧ ((¬ (z2 = z4)) → False))) : A_L_176 G X Q l3 (rc + 2) (rs + 65) w M := by
  unfold A_L_176
  unfold SCR at hT
  refine s_aload_n C (d_of DL_0 22 rfl) rfl ?_
  refine s_aload_n C (d_of DL_0 23 rfl) rfl ?_
  refine s_iload_n C (d_of DL_0 24 rfl) rfl ?_
  refine s_iconst C (d_of DL_0 25 rfl) (by decide) ?_
  refine s_iadd C (d_of DL_0 26 rfl) ⟨by omega, by omega⟩ ?_
  refine s_tald (e := 4) C (by decide) hT (xs_r xs) (by omega) (by omega) (d_of DL_0 27 rfl) ?_
  refine s_aload_n C (d_of DL_0 28 rfl) rfl ?_
  refine s_iload_n C (d_of DL_0 29 rfl) rfl ?_
  refine s_iconst C (d_of DL_0 30 rfl) (by decide) ?_
  refine s_iadd C (d_of DL_0 31 rfl) ⟨by omega, by omega⟩ ?_
  refine s_tald (e := 4) C (by decide) hT (xs_r xs) (by omega) (by omega) (d_of DL_0 32 rfl) ?_
  refine WA.fix (fun hF1 => ?_)
  obtain ⟨Q2, hKQ2, h⟩ := h
  refine s_callV (ci := 9) (av := [(0, ((xs ((l3 + 1)).toNat).toInt)), (0, ((xs ((l3 + 2)).toNat).toInt))]) (rest := []) (mc := 2) (ms := 65) C (d_of DL_0 33 rfl) lk_L_13 (sh_1 hF1) (by decide) rfl rfl rfl (Nat.le_of_ble_eq_true rfl) (by decide) (by decide) hKQ2 (fun z2 w2 M2 hq => ?_)
  have h := h z2 w2 M2 hq
  refine s_aload_n C (d_of DL_0 34 rfl) rfl ?_
  refine s_aload_n C (d_of DL_0 35 rfl) rfl ?_
  refine s_iload_n C (d_of DL_0 36 rfl) rfl ?_
  refine s_iconst C (d_of DL_0 37 rfl) (by decide) ?_
  refine s_iadd C (d_of DL_0 38 rfl) ⟨by omega, by omega⟩ ?_
  refine s_tald (e := 4) C (by decide) hT (xs_r xs) (by omega) (by omega) (d_of DL_0 39 rfl) ?_
  refine s_aload_n C (d_of DL_0 40 rfl) rfl ?_
  refine s_iload_n C (d_of DL_0 41 rfl) rfl ?_
  refine s_iconst C (d_of DL_0 42 rfl) (by decide) ?_
  refine s_iadd C (d_of DL_0 43 rfl) ⟨by omega, by omega⟩ ?_
  refine s_tald (e := 4) C (by decide) hT (xs_r xs) (by omega) (by omega) (d_of DL_0 44 rfl) ?_
  refine WA.fix (fun hF3 => ?_)
  obtain ⟨Q4, hKQ4, h⟩ := h
  refine s_callV (ci := 10) (av := [(0, ((xs ((l3 + 1)).toNat).toInt)), (0, ((xs ((l3 + 2)).toNat).toInt))]) (rest := [(0, z2)]) (mc := 0) (ms := 0) C (d_of DL_0 45 rfl) lk_L_17 (sh_41 hF3) (by decide) rfl rfl rfl (Nat.le_of_ble_eq_true rfl) (by decide) (by decide) hKQ4 (fun z4 w4 M4 hq => ?_)
  have h := h z4 w4 M4 hq
  refine s_icmpeq C (d_of DL_0 46 rfl) rfl (fun hc => ?_) (fun hc => ?_)
  · have h := h.1 hc
    exact h
  · have h := h.2 hc
    refine s_iconst C (d_of DL_0 47 rfl) (by decide) ?_
    exact h.elim
set_option maxHeartbeats 4000000 in
set_option maxRecDepth 100000 in
theorem B_L_209 {G : GP} {X : BX} {Q : State → Prop} {nm : String} {L : Nat} {xs : Nat → Int32} {l3 : Int} {rc rs : Nat} {w : NS} {M : MM} (C : CL G X nm) (hT : SCR G X L xs) (hL : L ≤ 3584) (h0 : 0 ≤ l3) (h7 : l3 + 7 ≤ L) (h : ∃ Q2 : Int → NS → MM → Prop, CT_X9_write G X.2.1 [(2, 1), (0, ((xs ((l3 + 1)).toNat).toInt)), (0, ((xs ((l3 + 2)).toNat).toInt)), (0, ((xs ((l3 + 3)).toNat).toInt))] w M Q2 ∧ ∀ (z2 : Int) (w2 : NS) (M2 : MM), Q2 z2 w2 M2 → ∃ Q4 : Int → NS → MM → Prop, CT_X10_write G X.2.1 [(2, 41), (0, ((xs ((l3 + 1)).toNat).toInt)), (0, ((xs ((l3 + 2)).toNat).toInt)), (0, ((xs ((l3 + 3)).toNat).toInt))] w2 M2 Q4 ∧ ∀ (z4 : Int) (w4 : NS) (M4 : MM), Q4 z4 w4 M4 → (((z2 = z4) → A_L_1396 G X Q l3 (rc + 0) (rs + 0) w4 M4) ∧ ((¬ (z2 = z4)) → False))) : A_L_209 G X Q l3 (rc + 0) (rs + 0) w M := by
  unfold A_L_209
  unfold SCR at hT
  refine s_aload_n C (d_of DL_0 49 rfl) rfl ?_
  refine s_aload_n C (d_of DL_0 50 rfl) rfl ?_
  refine s_iload_n C (d_of DL_0 51 rfl) rfl ?_
  refine s_iconst C (d_of DL_0 52 rfl) (by decide) ?_
  refine s_iadd C (d_of DL_0 53 rfl) ⟨by omega, by omega⟩ ?_
  refine s_tald (e := 4) C (by decide) hT (xs_r xs) (by omega) (by omega) (d_of DL_0 54 rfl) ?_
  refine s_aload_n C (d_of DL_0 55 rfl) rfl ?_
  refine s_iload_n C (d_of DL_0 56 rfl) rfl ?_
  refine s_iconst C (d_of DL_0 57 rfl) (by decide) ?_
  refine s_iadd C (d_of DL_0 58 rfl) ⟨by omega, by omega⟩ ?_
  refine s_tald (e := 4) C (by decide) hT (xs_r xs) (by omega) (by omega) (d_of DL_0 59 rfl) ?_
  refine s_aload_n C (d_of DL_0 60 rfl) rfl ?_
  refine s_iload_n C (d_of DL_0 61 rfl) rfl ?_
  refine s_iconst C (d_of DL_0 62 rfl) (by decide) ?_
  refine s_iadd C (d_of DL_0 63 rfl) ⟨by omega, by omega⟩ ?_
  refine s_tald (e := 4) C (by decide) hT (xs_r xs) (by omega) (by omega) (d_of DL_0 64 rfl) ?_
  refine WA.fix (fun hF1 => ?_)
  obtain ⟨Q2, hKQ2, h⟩ := h
  refine s_callV (ci := 9) (av := [(0, ((xs ((l3 + 1)).toNat).toInt)), (0, ((xs ((l3 + 2)).toNat).toInt)), (0, ((xs ((l3 + 3)).toNat).toInt))]) (rest := []) (mc := 0) (ms := 0) C (d_of DL_0 65 rfl) lk_L_18 (sh_1 hF1) (by decide) rfl rfl rfl (Nat.le_of_ble_eq_true rfl) (by decide) (by decide) hKQ2 (fun z2 w2 M2 hq => ?_)
  have h := h z2 w2 M2 hq
  refine s_aload_n C (d_of DL_0 66 rfl) rfl ?_
  refine s_aload_n C (d_of DL_0 67 rfl) rfl ?_
  refine s_iload_n C (d_of DL_0 68 rfl) rfl ?_
  refine s_iconst C (d_of DL_0 69 rfl) (by decide) ?_
  refine s_iadd C (d_of DL_0 70 rfl) ⟨by omega, by omega⟩ ?_
  refine s_tald (e := 4) C (by decide) hT (xs_r xs) (by omega) (by omega) (d_of DL_0 71 rfl) ?_
  refine s_aload_n C (d_of DL_0 72 rfl) rfl ?_
  refine s_iload_n C (d_of DL_0 73 rfl) rfl ?_
  refine s_iconst C (d_of DL_0 74 rfl) (by decide) ?_
  refine s_iadd C (d_of DL_0 75 rfl) ⟨by omega, by omega⟩ ?_
  refine s_tald (e := 4) C (by decide) hT (xs_r xs) (by omega) (by omega) (d_of DL_0 76 rfl) ?_
  refine s_aload_n C (d_of DL_0 77 rfl) rfl ?_
  refine s_iload_n C (d_of DL_0 78 rfl) rfl ?_
  refine s_iconst C (d_of DL_0 79 rfl) (by decide) ?_
  refine s_iadd C (d_of DL_0 80 rfl) ⟨by omega, by omega⟩ ?_
  refine s_tald (e := 4) C (by decide) hT (xs_r xs) (by omega) (by omega) (d_of DL_0 81 rfl) ?_
  refine WA.fix (fun hF3 => ?_)
  obtain ⟨Q4, hKQ4, h⟩ := h
  refine s_callV (ci := 10) (av := [(0, ((xs ((l3 + 1)).toNat).toInt)), (0, ((xs ((l3 + 2)).toNat).toInt)), (0, ((xs ((l3 + 3)).toNat).toInt))]) (rest := [(0, z2)]) (mc := 0) (ms := 0) C (d_of DL_0 82 rfl) lk_L_22 (sh_41 hF3) (by decide) rfl rfl rfl (Nat.le_of_ble_eq_true rfl) (by decide) (by decide) hKQ4 (fun z4 w4 M4 hq => ?_)
  have h := h z4 w4 M4 hq
  refine s_icmpeq C (d_of DL_0 83 rfl) rfl (fun hc => ?_) (fun hc => ?_)
  · have h := h.1 hc
    exact h
  · have h := h.2 hc
    refine s_iconst C (d_of DL_0 84 rfl) (by decide) ?_
    exact h.elim
set_option maxHeartbeats 4000000 in
set_option maxRecDepth 100000 in
theorem B_L_252 {G : GP} {X : BX} {Q : State → Prop} {nm : String} {L : Nat} {xs : Nat → Int32} {l3 : Int} {rc rs : Nat} {w : NS} {M : MM} (C : CL G X nm) (hT : SCR G X L xs) (hL : L ≤ 3584) (h0 : 0 ≤ l3) (h7 : l3 + 7 ≤ L) (h : ∃ Q2 : Int → NS → MM → Prop, CT_X9_sides G X.2.1 [(2, 1), (0, ((xs ((l3 + 1)).toNat).toInt)), (0, ((xs ((l3 + 2)).toNat).toInt))] w M Q2 ∧ ∀ (z2 : Int) (w2 : NS) (M2 : MM), Q2 z2 w2 M2 → ∃ Q4 : Int → NS → MM → Prop, CT_X10_sides G X.2.1 [(2, 41), (0, ((xs ((l3 + 1)).toNat).toInt)), (0, ((xs ((l3 + 2)).toNat).toInt))] w2 M2 Q4 ∧ ∀ (z4 : Int) (w4 : NS) (M4 : MM), Q4 z4 w4 M4 → (((z2 = z4) → A_L_1396 G X Q l3 (rc + 0) (rs + 0) w4 M4) ∧ ((¬ (z2 = z4)) → False))) : A_L_252 G X Q l3 (rc + 0) (rs + 0) w M := by
  unfold A_L_252
  unfold SCR at hT
  refine s_aload_n C (d_of DL_0 86 rfl) rfl ?_
  refine s_aload_n C (d_of DL_0 87 rfl) rfl ?_
  refine s_iload_n C (d_of DL_0 88 rfl) rfl ?_
  refine s_iconst C (d_of DL_0 89 rfl) (by decide) ?_
  refine s_iadd C (d_of DL_0 90 rfl) ⟨by omega, by omega⟩ ?_
  refine s_tald (e := 4) C (by decide) hT (xs_r xs) (by omega) (by omega) (d_of DL_0 91 rfl) ?_
  refine s_aload_n C (d_of DL_0 92 rfl) rfl ?_
  refine s_iload_n C (d_of DL_0 93 rfl) rfl ?_
  refine s_iconst C (d_of DL_0 94 rfl) (by decide) ?_
  refine s_iadd C (d_of DL_0 95 rfl) ⟨by omega, by omega⟩ ?_
  refine s_tald (e := 4) C (by decide) hT (xs_r xs) (by omega) (by omega) (d_of DL_0 96 rfl) ?_
  refine WA.fix (fun hF1 => ?_)
  obtain ⟨Q2, hKQ2, h⟩ := h
  refine s_callV (ci := 9) (av := [(0, ((xs ((l3 + 1)).toNat).toInt)), (0, ((xs ((l3 + 2)).toNat).toInt))]) (rest := []) (mc := 0) (ms := 0) C (d_of DL_0 97 rfl) lk_L_23 (sh_1 hF1) (by decide) rfl rfl rfl (Nat.le_of_ble_eq_true rfl) (by decide) (by decide) hKQ2 (fun z2 w2 M2 hq => ?_)
  have h := h z2 w2 M2 hq
  refine s_aload_n C (d_of DL_0 98 rfl) rfl ?_
  refine s_aload_n C (d_of DL_0 99 rfl) rfl ?_
  refine s_iload_n C (d_of DL_1 0 rfl) rfl ?_
  refine s_iconst C (d_of DL_1 1 rfl) (by decide) ?_
  refine s_iadd C (d_of DL_1 2 rfl) ⟨by omega, by omega⟩ ?_
  refine s_tald (e := 4) C (by decide) hT (xs_r xs) (by omega) (by omega) (d_of DL_1 3 rfl) ?_
  refine s_aload_n C (d_of DL_1 4 rfl) rfl ?_
  refine s_iload_n C (d_of DL_1 5 rfl) rfl ?_
  refine s_iconst C (d_of DL_1 6 rfl) (by decide) ?_
  refine s_iadd C (d_of DL_1 7 rfl) ⟨by omega, by omega⟩ ?_
  refine s_tald (e := 4) C (by decide) hT (xs_r xs) (by omega) (by omega) (d_of DL_1 8 rfl) ?_
  refine WA.fix (fun hF3 => ?_)
  obtain ⟨Q4, hKQ4, h⟩ := h
  refine s_callV (ci := 10) (av := [(0, ((xs ((l3 + 1)).toNat).toInt)), (0, ((xs ((l3 + 2)).toNat).toInt))]) (rest := [(0, z2)]) (mc := 0) (ms := 0) C (d_of DL_1 9 rfl) lk_L_26 (sh_41 hF3) (by decide) rfl rfl rfl (Nat.le_of_ble_eq_true rfl) (by decide) (by decide) hKQ4 (fun z4 w4 M4 hq => ?_)
  have h := h z4 w4 M4 hq
  refine s_icmpeq C (d_of DL_1 10 rfl) rfl (fun hc => ?_) (fun hc => ?_)
  · have h := h.1 hc
    exact h
  · have h := h.2 hc
    refine s_iconst C (d_of DL_1 11 rfl) (by decide) ?_
    exact h.elim
set_option maxHeartbeats 4000000 in
set_option maxRecDepth 100000 in
theorem B_L_285 {G : GP} {X : BX} {Q : State → Prop} {nm : String} {L : Nat} {xs : Nat → Int32} {l3 : Int} {rc rs : Nat} {w : NS} {M : MM} (C : CL G X nm) (hT : SCR G X L xs) (hL : L ≤ 3584) (h0 : 0 ≤ l3) (h7 : l3 + 7 ≤ L) (h : ∃ Q2 : Int → NS → MM → Prop, CT_X9_ofPage G X.2.1 [(2, 1), (0, ((xs ((l3 + 1)).toNat).toInt)), (0, ((xs ((l3 + 2)).toNat).toInt))] w M Q2 ∧ ∀ (z2 : Int) (w2 : NS) (M2 : MM), Q2 z2 w2 M2 → ∃ Q4 : Int → NS → MM → Prop, CT_X10_ofPage G X.2.1 [(2, 41), (0, ((xs ((l3 + 1)).toNat).toInt)), (0, ((xs ((l3 + 2)).toNat).toInt))] w2 M2 Q4 ∧ ∀ (z4 : Int) (w4 : NS) (M4 : MM), Q4 z4 w4 M4 → (((z2 = z4) → A_L_1396 G X Q l3 (rc + 0) (rs + 0) w4 M4) ∧ ((¬ (z2 = z4)) → False))) : A_L_285 G X Q l3 (rc + 0) (rs + 0) w M := by
  unfold A_L_285
  unfold SCR at hT
  refine s_aload_n C (d_of DL_1 13 rfl) rfl ?_
  refine s_aload_n C (d_of DL_1 14 rfl) rfl ?_
  refine s_iload_n C (d_of DL_1 15 rfl) rfl ?_
  refine s_iconst C (d_of DL_1 16 rfl) (by decide) ?_
  refine s_iadd C (d_of DL_1 17 rfl) ⟨by omega, by omega⟩ ?_
  refine s_tald (e := 4) C (by decide) hT (xs_r xs) (by omega) (by omega) (d_of DL_1 18 rfl) ?_
  refine s_aload_n C (d_of DL_1 19 rfl) rfl ?_
  refine s_iload_n C (d_of DL_1 20 rfl) rfl ?_
  refine s_iconst C (d_of DL_1 21 rfl) (by decide) ?_
  refine s_iadd C (d_of DL_1 22 rfl) ⟨by omega, by omega⟩ ?_
  refine s_tald (e := 4) C (by decide) hT (xs_r xs) (by omega) (by omega) (d_of DL_1 23 rfl) ?_
  refine WA.fix (fun hF1 => ?_)
  obtain ⟨Q2, hKQ2, h⟩ := h
  refine s_callV (ci := 9) (av := [(0, ((xs ((l3 + 1)).toNat).toInt)), (0, ((xs ((l3 + 2)).toNat).toInt))]) (rest := []) (mc := 0) (ms := 0) C (d_of DL_1 24 rfl) lk_L_27 (sh_1 hF1) (by decide) rfl rfl rfl (Nat.le_of_ble_eq_true rfl) (by decide) (by decide) hKQ2 (fun z2 w2 M2 hq => ?_)
  have h := h z2 w2 M2 hq
  refine s_aload_n C (d_of DL_1 25 rfl) rfl ?_
  refine s_aload_n C (d_of DL_1 26 rfl) rfl ?_
  refine s_iload_n C (d_of DL_1 27 rfl) rfl ?_
  refine s_iconst C (d_of DL_1 28 rfl) (by decide) ?_
  refine s_iadd C (d_of DL_1 29 rfl) ⟨by omega, by omega⟩ ?_
  refine s_tald (e := 4) C (by decide) hT (xs_r xs) (by omega) (by omega) (d_of DL_1 30 rfl) ?_
  refine s_aload_n C (d_of DL_1 31 rfl) rfl ?_
  refine s_iload_n C (d_of DL_1 32 rfl) rfl ?_
  refine s_iconst C (d_of DL_1 33 rfl) (by decide) ?_
  refine s_iadd C (d_of DL_1 34 rfl) ⟨by omega, by omega⟩ ?_
  refine s_tald (e := 4) C (by decide) hT (xs_r xs) (by omega) (by omega) (d_of DL_1 35 rfl) ?_
  refine WA.fix (fun hF3 => ?_)
  obtain ⟨Q4, hKQ4, h⟩ := h
  refine s_callV (ci := 10) (av := [(0, ((xs ((l3 + 1)).toNat).toInt)), (0, ((xs ((l3 + 2)).toNat).toInt))]) (rest := [(0, z2)]) (mc := 0) (ms := 0) C (d_of DL_1 36 rfl) lk_L_30 (sh_41 hF3) (by decide) rfl rfl rfl (Nat.le_of_ble_eq_true rfl) (by decide) (by decide) hKQ4 (fun z4 w4 M4 hq => ?_)
  have h := h z4 w4 M4 hq
  refine s_icmpeq C (d_of DL_1 37 rfl) rfl (fun hc => ?_) (fun hc => ?_)
  · have h := h.1 hc
    exact h
  · have h := h.2 hc
    refine s_iconst C (d_of DL_1 38 rfl) (by decide) ?_
    exact h.elim
set_option maxHeartbeats 4000000 in
set_option maxRecDepth 100000 in
theorem B_L_318 {G : GP} {X : BX} {Q : State → Prop} {nm : String} {L : Nat} {xs : Nat → Int32} {l3 : Int} {rc rs : Nat} {w : NS} {M : MM} (C : CL G X nm) (hT : SCR G X L xs) (hL : L ≤ 3584) (h0 : 0 ≤ l3) (h7 : l3 + 7 ≤ L) (h : ∃ Q2 : Int → NS → MM → Prop, CT_X9_piece G X.2.1 [(2, 1), (0, ((xs ((l3 + 1)).toNat).toInt)), (0, ((xs ((l3 + 2)).toNat).toInt)), (0, ((xs ((l3 + 3)).toNat).toInt)), (0, ((xs ((l3 + 4)).toNat).toInt)), (0, ((xs ((l3 + 5)).toNat).toInt))] w M Q2 ∧ ∀ (z2 : Int) (w2 : NS) (M2 : MM), Q2 z2 w2 M2 → ∃ Q4 : Int → NS → MM → Prop, CT_X10_piece G X.2.1 [(2, 41), (0, ((xs ((l3 + 1)).toNat).toInt)), (0, ((xs ((l3 + 2)).toNat).toInt)), (0, ((xs ((l3 + 3)).toNat).toInt)), (0, ((xs ((l3 + 4)).toNat).toInt)), (0, ((xs ((l3 + 5)).toNat).toInt))] w2 M2 Q4 ∧ ∀ (z4 : Int) (w4 : NS) (M4 : MM), Q4 z4 w4 M4 → (((z2 = z4) → A_L_1396 G X Q l3 (rc + 0) (rs + 0) w4 M4) ∧ ((¬ (z2 = z4)) → False))) : A_L_318 G X Q l3 (rc + 2) (rs + 72) w M := by
  unfold A_L_318
  unfold SCR at hT
  refine s_aload_n C (d_of DL_1 40 rfl) rfl ?_
  refine s_aload_n C (d_of DL_1 41 rfl) rfl ?_
  refine s_iload_n C (d_of DL_1 42 rfl) rfl ?_
  refine s_iconst C (d_of DL_1 43 rfl) (by decide) ?_
  refine s_iadd C (d_of DL_1 44 rfl) ⟨by omega, by omega⟩ ?_
  refine s_tald (e := 4) C (by decide) hT (xs_r xs) (by omega) (by omega) (d_of DL_1 45 rfl) ?_
  refine s_aload_n C (d_of DL_1 46 rfl) rfl ?_
  refine s_iload_n C (d_of DL_1 47 rfl) rfl ?_
  refine s_iconst C (d_of DL_1 48 rfl) (by decide) ?_
  refine s_iadd C (d_of DL_1 49 rfl) ⟨by omega, by omega⟩ ?_
  refine s_tald (e := 4) C (by decide) hT (xs_r xs) (by omega) (by omega) (d_of DL_1 50 rfl) ?_
  refine s_aload_n C (d_of DL_1 51 rfl) rfl ?_
  refine s_iload_n C (d_of DL_1 52 rfl) rfl ?_
  refine s_iconst C (d_of DL_1 53 rfl) (by decide) ?_
  refine s_iadd C (d_of DL_1 54 rfl) ⟨by omega, by omega⟩ ?_
  refine s_tald (e := 4) C (by decide) hT (xs_r xs) (by omega) (by omega) (d_of DL_1 55 rfl) ?_
  refine s_aload_n C (d_of DL_1 56 rfl) rfl ?_
  refine s_iload_n C (d_of DL_1 57 rfl) rfl ?_
  refine s_iconst C (d_of DL_1 58 rfl) (by decide) ?_
  refine s_iadd C (d_of DL_1 59 rfl) ⟨by omega, by omega⟩ ?_
  refine s_tald (e := 4) C (by decide) hT (xs_r xs) (by omega) (by omega) (d_of DL_1 60 rfl) ?_
  refine s_aload_n C (d_of DL_1 61 rfl) rfl ?_
  refine s_iload_n C (d_of DL_1 62 rfl) rfl ?_
  refine s_iconst C (d_of DL_1 63 rfl) (by decide) ?_
  refine s_iadd C (d_of DL_1 64 rfl) ⟨by omega, by omega⟩ ?_
  refine s_tald (e := 4) C (by decide) hT (xs_r xs) (by omega) (by omega) (d_of DL_1 65 rfl) ?_
  refine WA.fix (fun hF1 => ?_)
  obtain ⟨Q2, hKQ2, h⟩ := h
  refine s_callV (ci := 9) (av := [(0, ((xs ((l3 + 1)).toNat).toInt)), (0, ((xs ((l3 + 2)).toNat).toInt)), (0, ((xs ((l3 + 3)).toNat).toInt)), (0, ((xs ((l3 + 4)).toNat).toInt)), (0, ((xs ((l3 + 5)).toNat).toInt))]) (rest := []) (mc := 2) (ms := 72) C (d_of DL_1 66 rfl) lk_L_31 (sh_1 hF1) (by decide) rfl rfl rfl (Nat.le_of_ble_eq_true rfl) (by decide) (by decide) hKQ2 (fun z2 w2 M2 hq => ?_)
  have h := h z2 w2 M2 hq
  refine s_aload_n C (d_of DL_1 67 rfl) rfl ?_
  refine s_aload_n C (d_of DL_1 68 rfl) rfl ?_
  refine s_iload_n C (d_of DL_1 69 rfl) rfl ?_
  refine s_iconst C (d_of DL_1 70 rfl) (by decide) ?_
  refine s_iadd C (d_of DL_1 71 rfl) ⟨by omega, by omega⟩ ?_
  refine s_tald (e := 4) C (by decide) hT (xs_r xs) (by omega) (by omega) (d_of DL_1 72 rfl) ?_
  refine s_aload_n C (d_of DL_1 73 rfl) rfl ?_
  refine s_iload_n C (d_of DL_1 74 rfl) rfl ?_
  refine s_iconst C (d_of DL_1 75 rfl) (by decide) ?_
  refine s_iadd C (d_of DL_1 76 rfl) ⟨by omega, by omega⟩ ?_
  refine s_tald (e := 4) C (by decide) hT (xs_r xs) (by omega) (by omega) (d_of DL_1 77 rfl) ?_
  refine s_aload_n C (d_of DL_1 78 rfl) rfl ?_
  refine s_iload_n C (d_of DL_1 79 rfl) rfl ?_
  refine s_iconst C (d_of DL_1 80 rfl) (by decide) ?_
  refine s_iadd C (d_of DL_1 81 rfl) ⟨by omega, by omega⟩ ?_
  refine s_tald (e := 4) C (by decide) hT (xs_r xs) (by omega) (by omega) (d_of DL_1 82 rfl) ?_
  refine s_aload_n C (d_of DL_1 83 rfl) rfl ?_
  refine s_iload_n C (d_of DL_1 84 rfl) rfl ?_
  refine s_iconst C (d_of DL_1 85 rfl) (by decide) ?_
  refine s_iadd C (d_of DL_1 86 rfl) ⟨by omega, by omega⟩ ?_
  refine s_tald (e := 4) C (by decide) hT (xs_r xs) (by omega) (by omega) (d_of DL_1 87 rfl) ?_
  refine s_aload_n C (d_of DL_1 88 rfl) rfl ?_
  refine s_iload_n C (d_of DL_1 89 rfl) rfl ?_
  refine s_iconst C (d_of DL_1 90 rfl) (by decide) ?_
  refine s_iadd C (d_of DL_1 91 rfl) ⟨by omega, by omega⟩ ?_
  refine s_tald (e := 4) C (by decide) hT (xs_r xs) (by omega) (by omega) (d_of DL_1 92 rfl) ?_
  refine WA.fix (fun hF3 => ?_)
  obtain ⟨Q4, hKQ4, h⟩ := h
  refine s_callV (ci := 10) (av := [(0, ((xs ((l3 + 1)).toNat).toInt)), (0, ((xs ((l3 + 2)).toNat).toInt)), (0, ((xs ((l3 + 3)).toNat).toInt)), (0, ((xs ((l3 + 4)).toNat).toInt)), (0, ((xs ((l3 + 5)).toNat).toInt))]) (rest := [(0, z2)]) (mc := 0) (ms := 0) C (d_of DL_1 93 rfl) lk_L_35 (sh_41 hF3) (by decide) rfl rfl rfl (Nat.le_of_ble_eq_true rfl) (by decide) (by decide) hKQ4 (fun z4 w4 M4 hq => ?_)
  have h := h z4 w4 M4 hq
  refine s_icmpeq C (d_of DL_1 94 rfl) rfl (fun hc => ?_) (fun hc => ?_)
  · have h := h.1 hc
    exact h
  · have h := h.2 hc
    refine s_iconst C (d_of DL_1 95 rfl) (by decide) ?_
    exact h.elim
set_option maxHeartbeats 4000000 in
set_option maxRecDepth 100000 in
theorem B_L_381 {G : GP} {X : BX} {Q : State → Prop} {nm : String} {L : Nat} {xs : Nat → Int32} {l3 : Int} {rc rs : Nat} {w : NS} {M : MM} (C : CL G X nm) (hT : SCR G X L xs) (hL : L ≤ 3584) (h0 : 0 ≤ l3) (h7 : l3 + 7 ≤ L) (h : ∃ Q2 : Int → NS → MM → Prop, CT_X9_about G X.2.1 [(2, 1), (0, ((xs ((l3 + 1)).toNat).toInt)), (0, ((xs ((l3 + 2)).toNat).toInt))] w M Q2 ∧ ∀ (z2 : Int) (w2 : NS) (M2 : MM), Q2 z2 w2 M2 → ∃ Q4 : Int → NS → MM → Prop, CT_X10_about G X.2.1 [(2, 41), (0, ((xs ((l3 + 1)).toNat).toInt)), (0, ((xs ((l3 + 2)).toNat).toInt))] w2 M2 Q4 ∧ ∀ (z4 : Int) (w4 : NS) (M4 : MM), Q4 z4 w4 M4 → (((z2 = z4) → A_L_1396 G X Q l3 (rc + 0) (rs + 0) w4 M4) ∧ ((¬ (z2 = z4)) → False))) : A_L_381 G X Q l3 (rc + 0) (rs + 0) w M := by
  unfold A_L_381
  unfold SCR at hT
  refine s_aload_n C (d_of DL_1 97 rfl) rfl ?_
  refine s_aload_n C (d_of DL_1 98 rfl) rfl ?_
  refine s_iload_n C (d_of DL_1 99 rfl) rfl ?_
  refine s_iconst C (d_of DL_2 0 rfl) (by decide) ?_
  refine s_iadd C (d_of DL_2 1 rfl) ⟨by omega, by omega⟩ ?_
  refine s_tald (e := 4) C (by decide) hT (xs_r xs) (by omega) (by omega) (d_of DL_2 2 rfl) ?_
  refine s_aload_n C (d_of DL_2 3 rfl) rfl ?_
  refine s_iload_n C (d_of DL_2 4 rfl) rfl ?_
  refine s_iconst C (d_of DL_2 5 rfl) (by decide) ?_
  refine s_iadd C (d_of DL_2 6 rfl) ⟨by omega, by omega⟩ ?_
  refine s_tald (e := 4) C (by decide) hT (xs_r xs) (by omega) (by omega) (d_of DL_2 7 rfl) ?_
  refine WA.fix (fun hF1 => ?_)
  obtain ⟨Q2, hKQ2, h⟩ := h
  refine s_callV (ci := 9) (av := [(0, ((xs ((l3 + 1)).toNat).toInt)), (0, ((xs ((l3 + 2)).toNat).toInt))]) (rest := []) (mc := 0) (ms := 0) C (d_of DL_2 8 rfl) lk_L_36 (sh_1 hF1) (by decide) rfl rfl rfl (Nat.le_of_ble_eq_true rfl) (by decide) (by decide) hKQ2 (fun z2 w2 M2 hq => ?_)
  have h := h z2 w2 M2 hq
  refine s_aload_n C (d_of DL_2 9 rfl) rfl ?_
  refine s_aload_n C (d_of DL_2 10 rfl) rfl ?_
  refine s_iload_n C (d_of DL_2 11 rfl) rfl ?_
  refine s_iconst C (d_of DL_2 12 rfl) (by decide) ?_
  refine s_iadd C (d_of DL_2 13 rfl) ⟨by omega, by omega⟩ ?_
  refine s_tald (e := 4) C (by decide) hT (xs_r xs) (by omega) (by omega) (d_of DL_2 14 rfl) ?_
  refine s_aload_n C (d_of DL_2 15 rfl) rfl ?_
  refine s_iload_n C (d_of DL_2 16 rfl) rfl ?_
  refine s_iconst C (d_of DL_2 17 rfl) (by decide) ?_
  refine s_iadd C (d_of DL_2 18 rfl) ⟨by omega, by omega⟩ ?_
  refine s_tald (e := 4) C (by decide) hT (xs_r xs) (by omega) (by omega) (d_of DL_2 19 rfl) ?_
  refine WA.fix (fun hF3 => ?_)
  obtain ⟨Q4, hKQ4, h⟩ := h
  refine s_callV (ci := 10) (av := [(0, ((xs ((l3 + 1)).toNat).toInt)), (0, ((xs ((l3 + 2)).toNat).toInt))]) (rest := [(0, z2)]) (mc := 0) (ms := 0) C (d_of DL_2 20 rfl) lk_L_39 (sh_41 hF3) (by decide) rfl rfl rfl (Nat.le_of_ble_eq_true rfl) (by decide) (by decide) hKQ4 (fun z4 w4 M4 hq => ?_)
  have h := h z4 w4 M4 hq
  refine s_icmpeq C (d_of DL_2 21 rfl) rfl (fun hc => ?_) (fun hc => ?_)
  · have h := h.1 hc
    exact h
  · have h := h.2 hc
    refine s_iconst C (d_of DL_2 22 rfl) (by decide) ?_
    exact h.elim
set_option maxHeartbeats 4000000 in
set_option maxRecDepth 100000 in
theorem B_L_414 {G : GP} {X : BX} {Q : State → Prop} {nm : String} {L : Nat} {xs : Nat → Int32} {l3 : Int} {rc rs : Nat} {w : NS} {M : MM} (C : CL G X nm) (hT : SCR G X L xs) (hL : L ≤ 3584) (h0 : 0 ≤ l3) (h7 : l3 + 7 ≤ L) (h : ∃ Q2 : Int → NS → MM → Prop, CT_X9_word G X.2.1 [(2, 1), (0, ((xs ((l3 + 1)).toNat).toInt)), (0, ((xs ((l3 + 2)).toNat).toInt))] w M Q2 ∧ ∀ (z2 : Int) (w2 : NS) (M2 : MM), Q2 z2 w2 M2 → ∃ Q4 : Int → NS → MM → Prop, CT_X10_word G X.2.1 [(2, 41), (0, ((xs ((l3 + 1)).toNat).toInt)), (0, ((xs ((l3 + 2)).toNat).toInt))] w2 M2 Q4 ∧ ∀ (z4 : Int) (w4 : NS) (M4 : MM), Q4 z4 w4 M4 → (((z2 = z4) → A_L_1396 G X Q l3 (rc + 0) (rs + 0) w4 M4) ∧ ((¬ (z2 = z4)) → False))) : A_L_414 G X Q l3 (rc + 0) (rs + 0) w M := by
  unfold A_L_414
  unfold SCR at hT
  refine s_aload_n C (d_of DL_2 24 rfl) rfl ?_
  refine s_aload_n C (d_of DL_2 25 rfl) rfl ?_
  refine s_iload_n C (d_of DL_2 26 rfl) rfl ?_
  refine s_iconst C (d_of DL_2 27 rfl) (by decide) ?_
  refine s_iadd C (d_of DL_2 28 rfl) ⟨by omega, by omega⟩ ?_
  refine s_tald (e := 4) C (by decide) hT (xs_r xs) (by omega) (by omega) (d_of DL_2 29 rfl) ?_
  refine s_aload_n C (d_of DL_2 30 rfl) rfl ?_
  refine s_iload_n C (d_of DL_2 31 rfl) rfl ?_
  refine s_iconst C (d_of DL_2 32 rfl) (by decide) ?_
  refine s_iadd C (d_of DL_2 33 rfl) ⟨by omega, by omega⟩ ?_
  refine s_tald (e := 4) C (by decide) hT (xs_r xs) (by omega) (by omega) (d_of DL_2 34 rfl) ?_
  refine WA.fix (fun hF1 => ?_)
  obtain ⟨Q2, hKQ2, h⟩ := h
  refine s_callV (ci := 9) (av := [(0, ((xs ((l3 + 1)).toNat).toInt)), (0, ((xs ((l3 + 2)).toNat).toInt))]) (rest := []) (mc := 0) (ms := 0) C (d_of DL_2 35 rfl) lk_L_40 (sh_1 hF1) (by decide) rfl rfl rfl (Nat.le_of_ble_eq_true rfl) (by decide) (by decide) hKQ2 (fun z2 w2 M2 hq => ?_)
  have h := h z2 w2 M2 hq
  refine s_aload_n C (d_of DL_2 36 rfl) rfl ?_
  refine s_aload_n C (d_of DL_2 37 rfl) rfl ?_
  refine s_iload_n C (d_of DL_2 38 rfl) rfl ?_
  refine s_iconst C (d_of DL_2 39 rfl) (by decide) ?_
  refine s_iadd C (d_of DL_2 40 rfl) ⟨by omega, by omega⟩ ?_
  refine s_tald (e := 4) C (by decide) hT (xs_r xs) (by omega) (by omega) (d_of DL_2 41 rfl) ?_
  refine s_aload_n C (d_of DL_2 42 rfl) rfl ?_
  refine s_iload_n C (d_of DL_2 43 rfl) rfl ?_
  refine s_iconst C (d_of DL_2 44 rfl) (by decide) ?_
  refine s_iadd C (d_of DL_2 45 rfl) ⟨by omega, by omega⟩ ?_
  refine s_tald (e := 4) C (by decide) hT (xs_r xs) (by omega) (by omega) (d_of DL_2 46 rfl) ?_
  refine WA.fix (fun hF3 => ?_)
  obtain ⟨Q4, hKQ4, h⟩ := h
  refine s_callV (ci := 10) (av := [(0, ((xs ((l3 + 1)).toNat).toInt)), (0, ((xs ((l3 + 2)).toNat).toInt))]) (rest := [(0, z2)]) (mc := 0) (ms := 0) C (d_of DL_2 47 rfl) lk_L_43 (sh_41 hF3) (by decide) rfl rfl rfl (Nat.le_of_ble_eq_true rfl) (by decide) (by decide) hKQ4 (fun z4 w4 M4 hq => ?_)
  have h := h z4 w4 M4 hq
  refine s_icmpeq C (d_of DL_2 48 rfl) rfl (fun hc => ?_) (fun hc => ?_)
  · have h := h.1 hc
    exact h
  · have h := h.2 hc
    refine s_iconst C (d_of DL_2 49 rfl) (by decide) ?_
    exact h.elim
set_option maxHeartbeats 4000000 in
set_option maxRecDepth 100000 in
theorem B_L_447 {G : GP} {X : BX} {Q : State → Prop} {nm : String} {L : Nat} {xs : Nat → Int32} {l3 : Int} {rc rs : Nat} {w : NS} {M : MM} (C : CL G X nm) (hT : SCR G X L xs) (hL : L ≤ 3584) (h0 : 0 ≤ l3) (h7 : l3 + 7 ≤ L) (h : ∃ Q2 : Int → NS → MM → Prop, CT_X9_clash G X.2.1 [(2, 1), (0, ((xs ((l3 + 1)).toNat).toInt)), (0, ((xs ((l3 + 2)).toNat).toInt))] w M Q2 ∧ ∀ (z2 : Int) (w2 : NS) (M2 : MM), Q2 z2 w2 M2 → ∃ Q4 : Int → NS → MM → Prop, CT_X10_clash G X.2.1 [(2, 41), (0, ((xs ((l3 + 1)).toNat).toInt)), (0, ((xs ((l3 + 2)).toNat).toInt))] w2 M2 Q4 ∧ ∀ (z4 : Int) (w4 : NS) (M4 : MM), Q4 z4 w4 M4 → (((z2 = z4) → A_L_1396 G X Q l3 (rc + 0) (rs + 0) w4 M4) ∧ ((¬ (z2 = z4)) → False))) : A_L_447 G X Q l3 (rc + 0) (rs + 0) w M := by
  unfold A_L_447
  unfold SCR at hT
  refine s_aload_n C (d_of DL_2 51 rfl) rfl ?_
  refine s_aload_n C (d_of DL_2 52 rfl) rfl ?_
  refine s_iload_n C (d_of DL_2 53 rfl) rfl ?_
  refine s_iconst C (d_of DL_2 54 rfl) (by decide) ?_
  refine s_iadd C (d_of DL_2 55 rfl) ⟨by omega, by omega⟩ ?_
  refine s_tald (e := 4) C (by decide) hT (xs_r xs) (by omega) (by omega) (d_of DL_2 56 rfl) ?_
  refine s_aload_n C (d_of DL_2 57 rfl) rfl ?_
  refine s_iload_n C (d_of DL_2 58 rfl) rfl ?_
  refine s_iconst C (d_of DL_2 59 rfl) (by decide) ?_
  refine s_iadd C (d_of DL_2 60 rfl) ⟨by omega, by omega⟩ ?_
  refine s_tald (e := 4) C (by decide) hT (xs_r xs) (by omega) (by omega) (d_of DL_2 61 rfl) ?_
  refine WA.fix (fun hF1 => ?_)
  obtain ⟨Q2, hKQ2, h⟩ := h
  refine s_callV (ci := 9) (av := [(0, ((xs ((l3 + 1)).toNat).toInt)), (0, ((xs ((l3 + 2)).toNat).toInt))]) (rest := []) (mc := 0) (ms := 0) C (d_of DL_2 62 rfl) lk_L_44 (sh_1 hF1) (by decide) rfl rfl rfl (Nat.le_of_ble_eq_true rfl) (by decide) (by decide) hKQ2 (fun z2 w2 M2 hq => ?_)
  have h := h z2 w2 M2 hq
  refine s_aload_n C (d_of DL_2 63 rfl) rfl ?_
  refine s_aload_n C (d_of DL_2 64 rfl) rfl ?_
  refine s_iload_n C (d_of DL_2 65 rfl) rfl ?_
  refine s_iconst C (d_of DL_2 66 rfl) (by decide) ?_
  refine s_iadd C (d_of DL_2 67 rfl) ⟨by omega, by omega⟩ ?_
  refine s_tald (e := 4) C (by decide) hT (xs_r xs) (by omega) (by omega) (d_of DL_2 68 rfl) ?_
  refine s_aload_n C (d_of DL_2 69 rfl) rfl ?_
  refine s_iload_n C (d_of DL_2 70 rfl) rfl ?_
  refine s_iconst C (d_of DL_2 71 rfl) (by decide) ?_
  refine s_iadd C (d_of DL_2 72 rfl) ⟨by omega, by omega⟩ ?_
  refine s_tald (e := 4) C (by decide) hT (xs_r xs) (by omega) (by omega) (d_of DL_2 73 rfl) ?_
  refine WA.fix (fun hF3 => ?_)
  obtain ⟨Q4, hKQ4, h⟩ := h
  refine s_callV (ci := 10) (av := [(0, ((xs ((l3 + 1)).toNat).toInt)), (0, ((xs ((l3 + 2)).toNat).toInt))]) (rest := [(0, z2)]) (mc := 0) (ms := 0) C (d_of DL_2 74 rfl) lk_L_47 (sh_41 hF3) (by decide) rfl rfl rfl (Nat.le_of_ble_eq_true rfl) (by decide) (by decide) hKQ4 (fun z4 w4 M4 hq => ?_)
  have h := h z4 w4 M4 hq
  refine s_icmpeq C (d_of DL_2 75 rfl) rfl (fun hc => ?_) (fun hc => ?_)
  · have h := h.1 hc
    exact h
  · have h := h.2 hc
    refine s_iconst C (d_of DL_2 76 rfl) (by decide) ?_
    exact h.elim
set_option maxHeartbeats 4000000 in
set_option maxRecDepth 100000 in
theorem B_L_480 {G : GP} {X : BX} {Q : State → Prop} {nm : String} {L : Nat} {xs : Nat → Int32} {l3 : Int} {rc rs : Nat} {w : NS} {M : MM} (C : CL G X nm) (hT : SCR G X L xs) (hL : L ≤ 3584) (h0 : 0 ≤ l3) (h7 : l3 + 7 ≤ L) (h : ∃ Q2 : Int → NS → MM → Prop, CT_X9_say G X.2.1 [(2, 1), (0, ((xs ((l3 + 1)).toNat).toInt))] w M Q2 ∧ ∀ (z2 : Int) (w2 : NS) (M2 : MM), Q2 z2 w2 M2 → ∃ Q4 : Int → NS → MM → Prop, CT_X10_say G X.2.1 [(2, 41), (0, ((xs ((l3 + 1)).toNat).toInt))] w2 M2 Q4 ∧ ∀ (z4 : Int) (w4 : NS) (M4 : MM), Q4 z4 w4 M4 → (((z2 = z4) → A_L_1396 G X Q l3 (rc + 0) (rs + 0) w4 M4) ∧ ((¬ (z2 = z4)) → False))) : A_L_480 G X Q l3 (rc + 0) (rs + 0) w M := by
  unfold A_L_480
  unfold SCR at hT
  refine s_aload_n C (d_of DL_2 78 rfl) rfl ?_
  refine s_aload_n C (d_of DL_2 79 rfl) rfl ?_
  refine s_iload_n C (d_of DL_2 80 rfl) rfl ?_
  refine s_iconst C (d_of DL_2 81 rfl) (by decide) ?_
  refine s_iadd C (d_of DL_2 82 rfl) ⟨by omega, by omega⟩ ?_
  refine s_tald (e := 4) C (by decide) hT (xs_r xs) (by omega) (by omega) (d_of DL_2 83 rfl) ?_
  refine WA.fix (fun hF1 => ?_)
  obtain ⟨Q2, hKQ2, h⟩ := h
  refine s_callV (ci := 9) (av := [(0, ((xs ((l3 + 1)).toNat).toInt))]) (rest := []) (mc := 0) (ms := 0) C (d_of DL_2 84 rfl) lk_L_48 (sh_1 hF1) (by decide) rfl rfl rfl (Nat.le_of_ble_eq_true rfl) (by decide) (by decide) hKQ2 (fun z2 w2 M2 hq => ?_)
  have h := h z2 w2 M2 hq
  refine s_aload_n C (d_of DL_2 85 rfl) rfl ?_
  refine s_aload_n C (d_of DL_2 86 rfl) rfl ?_
  refine s_iload_n C (d_of DL_2 87 rfl) rfl ?_
  refine s_iconst C (d_of DL_2 88 rfl) (by decide) ?_
  refine s_iadd C (d_of DL_2 89 rfl) ⟨by omega, by omega⟩ ?_
  refine s_tald (e := 4) C (by decide) hT (xs_r xs) (by omega) (by omega) (d_of DL_2 90 rfl) ?_
  refine WA.fix (fun hF3 => ?_)
  obtain ⟨Q4, hKQ4, h⟩ := h
  refine s_callV (ci := 10) (av := [(0, ((xs ((l3 + 1)).toNat).toInt))]) (rest := [(0, z2)]) (mc := 0) (ms := 0) C (d_of DL_2 91 rfl) lk_L_52 (sh_41 hF3) (by decide) rfl rfl rfl (Nat.le_of_ble_eq_true rfl) (by decide) (by decide) hKQ4 (fun z4 w4 M4 hq => ?_)
  have h := h z4 w4 M4 hq
  refine s_icmpeq C (d_of DL_2 92 rfl) rfl (fun hc => ?_) (fun hc => ?_)
  · have h := h.1 hc
    exact h
  · have h := h.2 hc
    refine s_iconst C (d_of DL_2 93 rfl) (by decide) ?_
    exact h.elim
set_option maxHeartbeats 4000000 in
set_option maxRecDepth 100000 in
theorem B_L_503 {G : GP} {X : BX} {Q : State → Prop} {nm : String} {L : Nat} {xs : Nat → Int32} {l3 : Int} {rc rs : Nat} {w : NS} {M : MM} (C : CL G X nm) (hT : SCR G X L xs) (hL : L ≤ 3584) (h0 : 0 ≤ l3) (h7 : l3 + 7 ≤ L) (h : ∃ Q2 : Int → NS → MM → Prop, CT_X9_wipe G X.2.1 [(2, 1)] w M Q2 ∧ ∀ (z2 : Int) (w2 : NS) (M2 : MM), Q2 z2 w2 M2 → ∃ Q4 : Int → NS → MM → Prop, CT_X10_wipe G X.2.1 [(2, 41)] w2 M2 Q4 ∧ ∀ (z4 : Int) (w4 : NS) (M4 : MM), Q4 z4 w4 M4 → (((z2 = z4) → A_L_1396 G X Q l3 (rc + 0) (rs + 0) w4 M4) ∧ ((¬ (z2 = z4)) → False))) : A_L_503 G X Q l3 (rc + 0) (rs + 0) w M := by
  unfold A_L_503
  unfold SCR at hT
  refine s_aload_n C (d_of DL_2 95 rfl) rfl ?_
  refine WA.fix (fun hF1 => ?_)
  obtain ⟨Q2, hKQ2, h⟩ := h
  refine s_callV (ci := 9) (av := []) (rest := []) (mc := 0) (ms := 0) C (d_of DL_2 96 rfl) lk_L_53 (sh_1 hF1) (by decide) rfl rfl rfl (Nat.le_of_ble_eq_true rfl) (by decide) (by decide) hKQ2 (fun z2 w2 M2 hq => ?_)
  have h := h z2 w2 M2 hq
  refine s_aload_n C (d_of DL_2 97 rfl) rfl ?_
  refine WA.fix (fun hF3 => ?_)
  obtain ⟨Q4, hKQ4, h⟩ := h
  refine s_callV (ci := 10) (av := []) (rest := [(0, z2)]) (mc := 0) (ms := 0) C (d_of DL_2 98 rfl) lk_L_57 (sh_41 hF3) (by decide) rfl rfl rfl (Nat.le_of_ble_eq_true rfl) (by decide) (by decide) hKQ4 (fun z4 w4 M4 hq => ?_)
  have h := h z4 w4 M4 hq
  refine s_icmpeq C (d_of DL_2 99 rfl) rfl (fun hc => ?_) (fun hc => ?_)
  · have h := h.1 hc
    exact h
  · have h := h.2 hc
    refine s_iconst C (d_of DL_3 0 rfl) (by decide) ?_
    exact h.elim
set_option maxHeartbeats 4000000 in
set_option maxRecDepth 100000 in
theorem B_L_516 {G : GP} {X : BX} {Q : State → Prop} {nm : String} {L : Nat} {xs : Nat → Int32} {l3 : Int} {rc rs : Nat} {w : NS} {M : MM} (C : CL G X nm) (hT : SCR G X L xs) (hL : L ≤ 3584) (h0 : 0 ≤ l3) (h7 : l3 + 7 ≤ L) (h : ∃ Q2 : Int → NS → MM → Prop, CT_X9_fault G X.2.1 [(2, 1)] w M Q2 ∧ ∀ (z2 : Int) (w2 : NS) (M2 : MM), Q2 z2 w2 M2 → ∃ Q4 : Int → NS → MM → Prop, CT_X10_fault G X.2.1 [(2, 41)] w2 M2 Q4 ∧ ∀ (z4 : Int) (w4 : NS) (M4 : MM), Q4 z4 w4 M4 → (((z2 = z4) → A_L_1396 G X Q l3 (rc + 0) (rs + 0) w4 M4) ∧ ((¬ (z2 = z4)) → False))) : A_L_516 G X Q l3 (rc + 0) (rs + 0) w M := by
  unfold A_L_516
  unfold SCR at hT
  refine s_aload_n C (d_of DL_3 2 rfl) rfl ?_
  refine WA.fix (fun hF1 => ?_)
  obtain ⟨Q2, hKQ2, h⟩ := h
  refine s_callV (ci := 9) (av := []) (rest := []) (mc := 0) (ms := 0) C (d_of DL_3 3 rfl) lk_L_58 (sh_1 hF1) (by decide) rfl rfl rfl (Nat.le_of_ble_eq_true rfl) (by decide) (by decide) hKQ2 (fun z2 w2 M2 hq => ?_)
  have h := h z2 w2 M2 hq
  refine s_aload_n C (d_of DL_3 4 rfl) rfl ?_
  refine WA.fix (fun hF3 => ?_)
  obtain ⟨Q4, hKQ4, h⟩ := h
  refine s_callV (ci := 10) (av := []) (rest := [(0, z2)]) (mc := 0) (ms := 0) C (d_of DL_3 5 rfl) lk_L_61 (sh_41 hF3) (by decide) rfl rfl rfl (Nat.le_of_ble_eq_true rfl) (by decide) (by decide) hKQ4 (fun z4 w4 M4 hq => ?_)
  have h := h z4 w4 M4 hq
  refine s_icmpeq C (d_of DL_3 6 rfl) rfl (fun hc => ?_) (fun hc => ?_)
  · have h := h.1 hc
    exact h
  · have h := h.2 hc
    refine s_iconst C (d_of DL_3 7 rfl) (by decide) ?_
    exact h.elim
set_option maxHeartbeats 4000000 in
set_option maxRecDepth 100000 in
theorem B_L_529 {G : GP} {X : BX} {Q : State → Prop} {nm : String} {L : Nat} {xs : Nat → Int32} {l3 : Int} {rc rs : Nat} {w : NS} {M : MM} (C : CL G X nm) (hT : SCR G X L xs) (hL : L ≤ 3584) (h0 : 0 ≤ l3) (h7 : l3 + 7 ≤ L) (h : (((((xs ((l3 + 6)).toNat).toInt) = 0) → ∃ Q2 : Int → NS → MM → Prop, CT_X9_order G X.2.1 [(2, 1), (0, ((xs ((l3 + 1)).toNat).toInt)), (0, ((xs ((l3 + 2)).toNat).toInt)), (0, ((xs ((l3 + 3)).toNat).toInt)), (0, ((xs ((l3 + 4)).toNat).toInt)), (0, ((xs ((l3 + 5)).toNat).toInt)), (0, 0)] w M Q2 ∧ ∀ (z2 : Int) (w2 : NS) (M2 : MM), Q2 z2 w2 M2 → (((((xs ((l3 + 6)).toNat).toInt) = 0) → ∃ Q4 : Int → NS → MM → Prop, CT_X10_order G X.2.1 [(2, 41), (0, ((xs ((l3 + 1)).toNat).toInt)), (0, ((xs ((l3 + 2)).toNat).toInt)), (0, ((xs ((l3 + 3)).toNat).toInt)), (0, ((xs ((l3 + 4)).toNat).toInt)), (0, ((xs ((l3 + 5)).toNat).toInt)), (0, 0)] w2 M2 Q4 ∧ ∀ (z4 : Int) (w4 : NS) (M4 : MM), Q4 z4 w4 M4 → (((z2 = z4) → A_L_1396 G X Q l3 (rc + 0) (rs + 0) w4 M4) ∧ ((¬ (z2 = z4)) → False))) ∧ ((¬ (((xs ((l3 + 6)).toNat).toInt) = 0)) → ∃ Q6 : Int → NS → MM → Prop, CT_X10_order G X.2.1 [(2, 41), (0, ((xs ((l3 + 1)).toNat).toInt)), (0, ((xs ((l3 + 2)).toNat).toInt)), (0, ((xs ((l3 + 3)).toNat).toInt)), (0, ((xs ((l3 + 4)).toNat).toInt)), (0, ((xs ((l3 + 5)).toNat).toInt)), (0, 1)] w2 M2 Q6 ∧ ∀ (z6 : Int) (w6 : NS) (M6 : MM), Q6 z6 w6 M6 → (((z2 = z6) → A_L_1396 G X Q l3 (rc + 0) (rs + 0) w6 M6) ∧ ((¬ (z2 = z6)) → False))))) ∧ ((¬ (((xs ((l3 + 6)).toNat).toInt) = 0)) → ∃ Q8 : Int → NS → MM → Prop, CT_X9_order G X.2.1 [(2, 1), (0, ((xs ((l3 + 1)).toNat).toInt)), (0, ((xs ((l3 + 2)).toNat).toInt)), (0, ((xs ((l3 + 3)).toNat).toInt)), (0, ((xs ((l3 + 4)).toNat).toInt)), (0, ((xs ((l3 + 5)).toNat).toInt)), (0, 1)] w M Q8 ∧ ∀ (z8 : Int) (w8 : NS) (M8 : MM), Q8 z8 w8 M8 → (((((xs ((l3 + 6)).toNat).toInt) = 0) → ∃ Q10 : Int → NS → MM → Prop, CT_X10_order G X.2.1 [(2, 41), (0, ((xs ((l3 + 1)).toNat).toInt)), (0, ((xs ((l3 + 2)).toNat).toInt)), (0, ((xs ((l3 + 3)).toNat).toInt)), (0, ((xs ((l3 + 4)).toNat).toInt)), (0, ((xs ((l3 + 5)).toNat).toInt)), (0, 0)] w8 M8 Q10 ∧ ∀ (z10 : Int) (w10 : NS) (M10 : MM), Q10 z10 w10 M10 → (((z8 = z10) → A_L_1396 G X Q l3 (rc + 0) (rs + 0) w10 M10) ∧ ((¬ (z8 = z10)) → False))) ∧ ((¬ (((xs ((l3 + 6)).toNat).toInt) = 0)) → ∃ Q12 : Int → NS → MM → Prop, CT_X10_order G X.2.1 [(2, 41), (0, ((xs ((l3 + 1)).toNat).toInt)), (0, ((xs ((l3 + 2)).toNat).toInt)), (0, ((xs ((l3 + 3)).toNat).toInt)), (0, ((xs ((l3 + 4)).toNat).toInt)), (0, ((xs ((l3 + 5)).toNat).toInt)), (0, 1)] w8 M8 Q12 ∧ ∀ (z12 : Int) (w12 : NS) (M12 : MM), Q12 z12 w12 M12 → (((z8 = z12) → A_L_1396 G X Q l3 (rc + 0) (rs + 0) w12 M12) ∧ ((¬ (z8 = z12)) → False))))))) : A_L_529 G X Q l3 (rc + 3) (rs + 49) w M := by
  unfold A_L_529
  unfold SCR at hT
  refine s_aload_n C (d_of DL_3 9 rfl) rfl ?_
  refine s_aload_n C (d_of DL_3 10 rfl) rfl ?_
  refine s_iload_n C (d_of DL_3 11 rfl) rfl ?_
  refine s_iconst C (d_of DL_3 12 rfl) (by decide) ?_
  refine s_iadd C (d_of DL_3 13 rfl) ⟨by omega, by omega⟩ ?_
  refine s_tald (e := 4) C (by decide) hT (xs_r xs) (by omega) (by omega) (d_of DL_3 14 rfl) ?_
  refine s_aload_n C (d_of DL_3 15 rfl) rfl ?_
  refine s_iload_n C (d_of DL_3 16 rfl) rfl ?_
  refine s_iconst C (d_of DL_3 17 rfl) (by decide) ?_
  refine s_iadd C (d_of DL_3 18 rfl) ⟨by omega, by omega⟩ ?_
  refine s_tald (e := 4) C (by decide) hT (xs_r xs) (by omega) (by omega) (d_of DL_3 19 rfl) ?_
  refine s_aload_n C (d_of DL_3 20 rfl) rfl ?_
  refine s_iload_n C (d_of DL_3 21 rfl) rfl ?_
  refine s_iconst C (d_of DL_3 22 rfl) (by decide) ?_
  refine s_iadd C (d_of DL_3 23 rfl) ⟨by omega, by omega⟩ ?_
  refine s_tald (e := 4) C (by decide) hT (xs_r xs) (by omega) (by omega) (d_of DL_3 24 rfl) ?_
  refine s_aload_n C (d_of DL_3 25 rfl) rfl ?_
  refine s_iload_n C (d_of DL_3 26 rfl) rfl ?_
  refine s_iconst C (d_of DL_3 27 rfl) (by decide) ?_
  refine s_iadd C (d_of DL_3 28 rfl) ⟨by omega, by omega⟩ ?_
  refine s_tald (e := 4) C (by decide) hT (xs_r xs) (by omega) (by omega) (d_of DL_3 29 rfl) ?_
  refine s_aload_n C (d_of DL_3 30 rfl) rfl ?_
  refine s_iload_n C (d_of DL_3 31 rfl) rfl ?_
  refine s_iconst C (d_of DL_3 32 rfl) (by decide) ?_
  refine s_iadd C (d_of DL_3 33 rfl) ⟨by omega, by omega⟩ ?_
  refine s_tald (e := 4) C (by decide) hT (xs_r xs) (by omega) (by omega) (d_of DL_3 34 rfl) ?_
  refine s_aload_n C (d_of DL_3 35 rfl) rfl ?_
  refine s_iload_n C (d_of DL_3 36 rfl) rfl ?_
  refine s_bipush C (d_of DL_3 37 rfl) ⟨rfl, by decide, by decide⟩ ?_
  refine s_iadd C (d_of DL_3 38 rfl) ⟨by omega, by omega⟩ ?_
  refine s_tald (e := 4) C (by decide) hT (xs_r xs) (by omega) (by omega) (d_of DL_3 39 rfl) ?_
  refine s_ifeq C (d_of DL_3 40 rfl) rfl (fun hc => ?_) (fun hc => ?_)
  · have h := h.1 hc
    refine s_iconst C (d_of DL_3 43 rfl) (by decide) ?_
    refine WA.fix (fun hF1 => ?_)
    obtain ⟨Q2, hKQ2, h⟩ := h
    refine s_callV (ci := 9) (av := [(0, ((xs ((l3 + 1)).toNat).toInt)), (0, ((xs ((l3 + 2)).toNat).toInt)), (0, ((xs ((l3 + 3)).toNat).toInt)), (0, ((xs ((l3 + 4)).toNat).toInt)), (0, ((xs ((l3 + 5)).toNat).toInt)), (0, 0)]) (rest := []) (mc := 3) (ms := 49) C (d_of DL_3 44 rfl) lk_L_62 (sh_1 hF1) (by decide) rfl rfl rfl (Nat.le_of_ble_eq_true rfl) (by decide) (by decide) hKQ2 (fun z2 w2 M2 hq => ?_)
    have h := h z2 w2 M2 hq
    refine s_aload_n C (d_of DL_3 45 rfl) rfl ?_
    refine s_aload_n C (d_of DL_3 46 rfl) rfl ?_
    refine s_iload_n C (d_of DL_3 47 rfl) rfl ?_
    refine s_iconst C (d_of DL_3 48 rfl) (by decide) ?_
    refine s_iadd C (d_of DL_3 49 rfl) ⟨by omega, by omega⟩ ?_
    refine s_tald (e := 4) C (by decide) hT (xs_r xs) (by omega) (by omega) (d_of DL_3 50 rfl) ?_
    refine s_aload_n C (d_of DL_3 51 rfl) rfl ?_
    refine s_iload_n C (d_of DL_3 52 rfl) rfl ?_
    refine s_iconst C (d_of DL_3 53 rfl) (by decide) ?_
    refine s_iadd C (d_of DL_3 54 rfl) ⟨by omega, by omega⟩ ?_
    refine s_tald (e := 4) C (by decide) hT (xs_r xs) (by omega) (by omega) (d_of DL_3 55 rfl) ?_
    refine s_aload_n C (d_of DL_3 56 rfl) rfl ?_
    refine s_iload_n C (d_of DL_3 57 rfl) rfl ?_
    refine s_iconst C (d_of DL_3 58 rfl) (by decide) ?_
    refine s_iadd C (d_of DL_3 59 rfl) ⟨by omega, by omega⟩ ?_
    refine s_tald (e := 4) C (by decide) hT (xs_r xs) (by omega) (by omega) (d_of DL_3 60 rfl) ?_
    refine s_aload_n C (d_of DL_3 61 rfl) rfl ?_
    refine s_iload_n C (d_of DL_3 62 rfl) rfl ?_
    refine s_iconst C (d_of DL_3 63 rfl) (by decide) ?_
    refine s_iadd C (d_of DL_3 64 rfl) ⟨by omega, by omega⟩ ?_
    refine s_tald (e := 4) C (by decide) hT (xs_r xs) (by omega) (by omega) (d_of DL_3 65 rfl) ?_
    refine s_aload_n C (d_of DL_3 66 rfl) rfl ?_
    refine s_iload_n C (d_of DL_3 67 rfl) rfl ?_
    refine s_iconst C (d_of DL_3 68 rfl) (by decide) ?_
    refine s_iadd C (d_of DL_3 69 rfl) ⟨by omega, by omega⟩ ?_
    refine s_tald (e := 4) C (by decide) hT (xs_r xs) (by omega) (by omega) (d_of DL_3 70 rfl) ?_
    refine s_aload_n C (d_of DL_3 71 rfl) rfl ?_
    refine s_iload_n C (d_of DL_3 72 rfl) rfl ?_
    refine s_bipush C (d_of DL_3 73 rfl) ⟨rfl, by decide, by decide⟩ ?_
    refine s_iadd C (d_of DL_3 74 rfl) ⟨by omega, by omega⟩ ?_
    refine s_tald (e := 4) C (by decide) hT (xs_r xs) (by omega) (by omega) (d_of DL_3 75 rfl) ?_
    refine s_ifeq C (d_of DL_3 76 rfl) rfl (fun hc => ?_) (fun hc => ?_)
    · have h := h.1 hc
      refine s_iconst C (d_of DL_3 79 rfl) (by decide) ?_
      refine WA.fix (fun hF3 => ?_)
      obtain ⟨Q4, hKQ4, h⟩ := h
      refine s_callV (ci := 10) (av := [(0, ((xs ((l3 + 1)).toNat).toInt)), (0, ((xs ((l3 + 2)).toNat).toInt)), (0, ((xs ((l3 + 3)).toNat).toInt)), (0, ((xs ((l3 + 4)).toNat).toInt)), (0, ((xs ((l3 + 5)).toNat).toInt)), (0, 0)]) (rest := [(0, z2)]) (mc := 0) (ms := 0) C (d_of DL_3 80 rfl) lk_L_66 (sh_41 hF3) (by decide) rfl rfl rfl (Nat.le_of_ble_eq_true rfl) (by decide) (by decide) hKQ4 (fun z4 w4 M4 hq => ?_)
      have h := h z4 w4 M4 hq
      refine s_icmpeq C (d_of DL_3 81 rfl) rfl (fun hc => ?_) (fun hc => ?_)
      · have h := h.1 hc
        exact h
      · have h := h.2 hc
        refine s_iconst C (d_of DL_3 82 rfl) (by decide) ?_
        exact h.elim
    · have h := h.2 hc
      refine s_iconst C (d_of DL_3 77 rfl) (by decide) ?_
      refine s_goto C (d_of DL_3 78 rfl) rfl ?_
      refine WA.fix (fun hF5 => ?_)
      obtain ⟨Q6, hKQ6, h⟩ := h
      refine s_callV (ci := 10) (av := [(0, ((xs ((l3 + 1)).toNat).toInt)), (0, ((xs ((l3 + 2)).toNat).toInt)), (0, ((xs ((l3 + 3)).toNat).toInt)), (0, ((xs ((l3 + 4)).toNat).toInt)), (0, ((xs ((l3 + 5)).toNat).toInt)), (0, 1)]) (rest := [(0, z2)]) (mc := 0) (ms := 0) C (d_of DL_3 80 rfl) lk_L_66 (sh_41 hF5) (by decide) rfl rfl rfl (Nat.le_of_ble_eq_true rfl) (by decide) (by decide) hKQ6 (fun z6 w6 M6 hq => ?_)
      have h := h z6 w6 M6 hq
      refine s_icmpeq C (d_of DL_3 81 rfl) rfl (fun hc => ?_) (fun hc => ?_)
      · have h := h.1 hc
        exact h
      · have h := h.2 hc
        refine s_iconst C (d_of DL_3 82 rfl) (by decide) ?_
        exact h.elim
  · have h := h.2 hc
    refine s_iconst C (d_of DL_3 41 rfl) (by decide) ?_
    refine s_goto C (d_of DL_3 42 rfl) rfl ?_
    refine WA.fix (fun hF7 => ?_)
    obtain ⟨Q8, hKQ8, h⟩ := h
    refine s_callV (ci := 9) (av := [(0, ((xs ((l3 + 1)).toNat).toInt)), (0, ((xs ((l3 + 2)).toNat).toInt)), (0, ((xs ((l3 + 3)).toNat).toInt)), (0, ((xs ((l3 + 4)).toNat).toInt)), (0, ((xs ((l3 + 5)).toNat).toInt)), (0, 1)]) (rest := []) (mc := 3) (ms := 49) C (d_of DL_3 44 rfl) lk_L_62 (sh_1 hF7) (by decide) rfl rfl rfl (Nat.le_of_ble_eq_true rfl) (by decide) (by decide) hKQ8 (fun z8 w8 M8 hq => ?_)
    have h := h z8 w8 M8 hq
    refine s_aload_n C (d_of DL_3 45 rfl) rfl ?_
    refine s_aload_n C (d_of DL_3 46 rfl) rfl ?_
    refine s_iload_n C (d_of DL_3 47 rfl) rfl ?_
    refine s_iconst C (d_of DL_3 48 rfl) (by decide) ?_
    refine s_iadd C (d_of DL_3 49 rfl) ⟨by omega, by omega⟩ ?_
    refine s_tald (e := 4) C (by decide) hT (xs_r xs) (by omega) (by omega) (d_of DL_3 50 rfl) ?_
    refine s_aload_n C (d_of DL_3 51 rfl) rfl ?_
    refine s_iload_n C (d_of DL_3 52 rfl) rfl ?_
    refine s_iconst C (d_of DL_3 53 rfl) (by decide) ?_
    refine s_iadd C (d_of DL_3 54 rfl) ⟨by omega, by omega⟩ ?_
    refine s_tald (e := 4) C (by decide) hT (xs_r xs) (by omega) (by omega) (d_of DL_3 55 rfl) ?_
    refine s_aload_n C (d_of DL_3 56 rfl) rfl ?_
    refine s_iload_n C (d_of DL_3 57 rfl) rfl ?_
    refine s_iconst C (d_of DL_3 58 rfl) (by decide) ?_
    refine s_iadd C (d_of DL_3 59 rfl) ⟨by omega, by omega⟩ ?_
    refine s_tald (e := 4) C (by decide) hT (xs_r xs) (by omega) (by omega) (d_of DL_3 60 rfl) ?_
    refine s_aload_n C (d_of DL_3 61 rfl) rfl ?_
    refine s_iload_n C (d_of DL_3 62 rfl) rfl ?_
    refine s_iconst C (d_of DL_3 63 rfl) (by decide) ?_
    refine s_iadd C (d_of DL_3 64 rfl) ⟨by omega, by omega⟩ ?_
    refine s_tald (e := 4) C (by decide) hT (xs_r xs) (by omega) (by omega) (d_of DL_3 65 rfl) ?_
    refine s_aload_n C (d_of DL_3 66 rfl) rfl ?_
    refine s_iload_n C (d_of DL_3 67 rfl) rfl ?_
    refine s_iconst C (d_of DL_3 68 rfl) (by decide) ?_
    refine s_iadd C (d_of DL_3 69 rfl) ⟨by omega, by omega⟩ ?_
    refine s_tald (e := 4) C (by decide) hT (xs_r xs) (by omega) (by omega) (d_of DL_3 70 rfl) ?_
    refine s_aload_n C (d_of DL_3 71 rfl) rfl ?_
    refine s_iload_n C (d_of DL_3 72 rfl) rfl ?_
    refine s_bipush C (d_of DL_3 73 rfl) ⟨rfl, by decide, by decide⟩ ?_
    refine s_iadd C (d_of DL_3 74 rfl) ⟨by omega, by omega⟩ ?_
    refine s_tald (e := 4) C (by decide) hT (xs_r xs) (by omega) (by omega) (d_of DL_3 75 rfl) ?_
    refine s_ifeq C (d_of DL_3 76 rfl) rfl (fun hc => ?_) (fun hc => ?_)
    · have h := h.1 hc
      refine s_iconst C (d_of DL_3 79 rfl) (by decide) ?_
      refine WA.fix (fun hF9 => ?_)
      obtain ⟨Q10, hKQ10, h⟩ := h
      refine s_callV (ci := 10) (av := [(0, ((xs ((l3 + 1)).toNat).toInt)), (0, ((xs ((l3 + 2)).toNat).toInt)), (0, ((xs ((l3 + 3)).toNat).toInt)), (0, ((xs ((l3 + 4)).toNat).toInt)), (0, ((xs ((l3 + 5)).toNat).toInt)), (0, 0)]) (rest := [(0, z8)]) (mc := 0) (ms := 0) C (d_of DL_3 80 rfl) lk_L_66 (sh_41 hF9) (by decide) rfl rfl rfl (Nat.le_of_ble_eq_true rfl) (by decide) (by decide) hKQ10 (fun z10 w10 M10 hq => ?_)
      have h := h z10 w10 M10 hq
      refine s_icmpeq C (d_of DL_3 81 rfl) rfl (fun hc => ?_) (fun hc => ?_)
      · have h := h.1 hc
        exact h
      · have h := h.2 hc
        refine s_iconst C (d_of DL_3 82 rfl) (by decide) ?_
        exact h.elim
    · have h := h.2 hc
      refine s_iconst C (d_of DL_3 77 rfl) (by decide) ?_
      refine s_goto C (d_of DL_3 78 rfl) rfl ?_
      refine WA.fix (fun hF11 => ?_)
      obtain ⟨Q12, hKQ12, h⟩ := h
      refine s_callV (ci := 10) (av := [(0, ((xs ((l3 + 1)).toNat).toInt)), (0, ((xs ((l3 + 2)).toNat).toInt)), (0, ((xs ((l3 + 3)).toNat).toInt)), (0, ((xs ((l3 + 4)).toNat).toInt)), (0, ((xs ((l3 + 5)).toNat).toInt)), (0, 1)]) (rest := [(0, z8)]) (mc := 0) (ms := 0) C (d_of DL_3 80 rfl) lk_L_66 (sh_41 hF11) (by decide) rfl rfl rfl (Nat.le_of_ble_eq_true rfl) (by decide) (by decide) hKQ12 (fun z12 w12 M12 hq => ?_)
      have h := h z12 w12 M12 hq
      refine s_icmpeq C (d_of DL_3 81 rfl) rfl (fun hc => ?_) (fun hc => ?_)
      · have h := h.1 hc
        exact h
      · have h := h.2 hc
        refine s_iconst C (d_of DL_3 82 rfl) (by decide) ?_
        exact h.elim
set_option maxHeartbeats 4000000 in
set_option maxRecDepth 100000 in
theorem B_L_620 {G : GP} {X : BX} {Q : State → Prop} {nm : String} {L : Nat} {xs : Nat → Int32} {l3 : Int} {rc rs : Nat} {w : NS} {M : MM} (C : CL G X nm) (hT : SCR G X L xs) (hL : L ≤ 3584) (h0 : 0 ≤ l3) (h7 : l3 + 7 ≤ L) (h : ∃ Q2 : Int → NS → MM → Prop, CT_X9_wants G X.2.1 [(2, 1), (0, ((xs ((l3 + 1)).toNat).toInt)), (0, ((xs ((l3 + 2)).toNat).toInt)), (0, ((xs ((l3 + 3)).toNat).toInt))] w M Q2 ∧ ∀ (z2 : Int) (w2 : NS) (M2 : MM), Q2 z2 w2 M2 → ∃ Q4 : Int → NS → MM → Prop, CT_X10_wants G X.2.1 [(2, 41), (0, ((xs ((l3 + 1)).toNat).toInt)), (0, ((xs ((l3 + 2)).toNat).toInt)), (0, ((xs ((l3 + 3)).toNat).toInt))] w2 M2 Q4 ∧ ∀ (z4 : Int) (w4 : NS) (M4 : MM), Q4 z4 w4 M4 → (((z2 = z4) → A_L_1396 G X Q l3 (rc + 0) (rs + 0) w4 M4) ∧ ((¬ (z2 = z4)) → False))) : A_L_620 G X Q l3 (rc + 0) (rs + 0) w M := by
  unfold A_L_620
  unfold SCR at hT
  refine s_aload_n C (d_of DL_3 84 rfl) rfl ?_
  refine s_aload_n C (d_of DL_3 85 rfl) rfl ?_
  refine s_iload_n C (d_of DL_3 86 rfl) rfl ?_
  refine s_iconst C (d_of DL_3 87 rfl) (by decide) ?_
  refine s_iadd C (d_of DL_3 88 rfl) ⟨by omega, by omega⟩ ?_
  refine s_tald (e := 4) C (by decide) hT (xs_r xs) (by omega) (by omega) (d_of DL_3 89 rfl) ?_
  refine s_aload_n C (d_of DL_3 90 rfl) rfl ?_
  refine s_iload_n C (d_of DL_3 91 rfl) rfl ?_
  refine s_iconst C (d_of DL_3 92 rfl) (by decide) ?_
  refine s_iadd C (d_of DL_3 93 rfl) ⟨by omega, by omega⟩ ?_
  refine s_tald (e := 4) C (by decide) hT (xs_r xs) (by omega) (by omega) (d_of DL_3 94 rfl) ?_
  refine s_aload_n C (d_of DL_3 95 rfl) rfl ?_
  refine s_iload_n C (d_of DL_3 96 rfl) rfl ?_
  refine s_iconst C (d_of DL_3 97 rfl) (by decide) ?_
  refine s_iadd C (d_of DL_3 98 rfl) ⟨by omega, by omega⟩ ?_
  refine s_tald (e := 4) C (by decide) hT (xs_r xs) (by omega) (by omega) (d_of DL_3 99 rfl) ?_
  refine WA.fix (fun hF1 => ?_)
  obtain ⟨Q2, hKQ2, h⟩ := h
  refine s_callV (ci := 9) (av := [(0, ((xs ((l3 + 1)).toNat).toInt)), (0, ((xs ((l3 + 2)).toNat).toInt)), (0, ((xs ((l3 + 3)).toNat).toInt))]) (rest := []) (mc := 0) (ms := 0) C (d_of DL_4 0 rfl) lk_L_67 (sh_1 hF1) (by decide) rfl rfl rfl (Nat.le_of_ble_eq_true rfl) (by decide) (by decide) hKQ2 (fun z2 w2 M2 hq => ?_)
  have h := h z2 w2 M2 hq
  refine s_aload_n C (d_of DL_4 1 rfl) rfl ?_
  refine s_aload_n C (d_of DL_4 2 rfl) rfl ?_
  refine s_iload_n C (d_of DL_4 3 rfl) rfl ?_
  refine s_iconst C (d_of DL_4 4 rfl) (by decide) ?_
  refine s_iadd C (d_of DL_4 5 rfl) ⟨by omega, by omega⟩ ?_
  refine s_tald (e := 4) C (by decide) hT (xs_r xs) (by omega) (by omega) (d_of DL_4 6 rfl) ?_
  refine s_aload_n C (d_of DL_4 7 rfl) rfl ?_
  refine s_iload_n C (d_of DL_4 8 rfl) rfl ?_
  refine s_iconst C (d_of DL_4 9 rfl) (by decide) ?_
  refine s_iadd C (d_of DL_4 10 rfl) ⟨by omega, by omega⟩ ?_
  refine s_tald (e := 4) C (by decide) hT (xs_r xs) (by omega) (by omega) (d_of DL_4 11 rfl) ?_
  refine s_aload_n C (d_of DL_4 12 rfl) rfl ?_
  refine s_iload_n C (d_of DL_4 13 rfl) rfl ?_
  refine s_iconst C (d_of DL_4 14 rfl) (by decide) ?_
  refine s_iadd C (d_of DL_4 15 rfl) ⟨by omega, by omega⟩ ?_
  refine s_tald (e := 4) C (by decide) hT (xs_r xs) (by omega) (by omega) (d_of DL_4 16 rfl) ?_
  refine WA.fix (fun hF3 => ?_)
  obtain ⟨Q4, hKQ4, h⟩ := h
  refine s_callV (ci := 10) (av := [(0, ((xs ((l3 + 1)).toNat).toInt)), (0, ((xs ((l3 + 2)).toNat).toInt)), (0, ((xs ((l3 + 3)).toNat).toInt))]) (rest := [(0, z2)]) (mc := 0) (ms := 0) C (d_of DL_4 17 rfl) lk_L_70 (sh_41 hF3) (by decide) rfl rfl rfl (Nat.le_of_ble_eq_true rfl) (by decide) (by decide) hKQ4 (fun z4 w4 M4 hq => ?_)
  have h := h z4 w4 M4 hq
  refine s_icmpeq C (d_of DL_4 18 rfl) rfl (fun hc => ?_) (fun hc => ?_)
  · have h := h.1 hc
    exact h
  · have h := h.2 hc
    refine s_iconst C (d_of DL_4 19 rfl) (by decide) ?_
    exact h.elim
set_option maxHeartbeats 4000000 in
set_option maxRecDepth 100000 in
theorem B_L_663 {G : GP} {X : BX} {Q : State → Prop} {nm : String} {L : Nat} {xs : Nat → Int32} {l3 : Int} {rc rs : Nat} {w : NS} {M : MM} (C : CL G X nm) (hT : SCR G X L xs) (hL : L ≤ 3584) (h0 : 0 ≤ l3) (h7 : l3 + 7 ≤ L) (h : ∃ Q2 : Int → NS → MM → Prop, CT_X9_changes G X.2.1 [(2, 1), (0, ((xs ((l3 + 1)).toNat).toInt)), (0, ((xs ((l3 + 2)).toNat).toInt))] w M Q2 ∧ ∀ (z2 : Int) (w2 : NS) (M2 : MM), Q2 z2 w2 M2 → ∃ Q4 : Int → NS → MM → Prop, CT_X10_changes G X.2.1 [(2, 41), (0, ((xs ((l3 + 1)).toNat).toInt)), (0, ((xs ((l3 + 2)).toNat).toInt))] w2 M2 Q4 ∧ ∀ (z4 : Int) (w4 : NS) (M4 : MM), Q4 z4 w4 M4 → (((z2 = z4) → A_L_1396 G X Q l3 (rc + 0) (rs + 0) w4 M4) ∧ ((¬ (z2 = z4)) → False))) : A_L_663 G X Q l3 (rc + 0) (rs + 0) w M := by
  unfold A_L_663
  unfold SCR at hT
  refine s_aload_n C (d_of DL_4 21 rfl) rfl ?_
  refine s_aload_n C (d_of DL_4 22 rfl) rfl ?_
  refine s_iload_n C (d_of DL_4 23 rfl) rfl ?_
  refine s_iconst C (d_of DL_4 24 rfl) (by decide) ?_
  refine s_iadd C (d_of DL_4 25 rfl) ⟨by omega, by omega⟩ ?_
  refine s_tald (e := 4) C (by decide) hT (xs_r xs) (by omega) (by omega) (d_of DL_4 26 rfl) ?_
  refine s_aload_n C (d_of DL_4 27 rfl) rfl ?_
  refine s_iload_n C (d_of DL_4 28 rfl) rfl ?_
  refine s_iconst C (d_of DL_4 29 rfl) (by decide) ?_
  refine s_iadd C (d_of DL_4 30 rfl) ⟨by omega, by omega⟩ ?_
  refine s_tald (e := 4) C (by decide) hT (xs_r xs) (by omega) (by omega) (d_of DL_4 31 rfl) ?_
  refine WA.fix (fun hF1 => ?_)
  obtain ⟨Q2, hKQ2, h⟩ := h
  refine s_callV (ci := 9) (av := [(0, ((xs ((l3 + 1)).toNat).toInt)), (0, ((xs ((l3 + 2)).toNat).toInt))]) (rest := []) (mc := 0) (ms := 0) C (d_of DL_4 32 rfl) lk_L_71 (sh_1 hF1) (by decide) rfl rfl rfl (Nat.le_of_ble_eq_true rfl) (by decide) (by decide) hKQ2 (fun z2 w2 M2 hq => ?_)
  have h := h z2 w2 M2 hq
  refine s_aload_n C (d_of DL_4 33 rfl) rfl ?_
  refine s_aload_n C (d_of DL_4 34 rfl) rfl ?_
  refine s_iload_n C (d_of DL_4 35 rfl) rfl ?_
  refine s_iconst C (d_of DL_4 36 rfl) (by decide) ?_
  refine s_iadd C (d_of DL_4 37 rfl) ⟨by omega, by omega⟩ ?_
  refine s_tald (e := 4) C (by decide) hT (xs_r xs) (by omega) (by omega) (d_of DL_4 38 rfl) ?_
  refine s_aload_n C (d_of DL_4 39 rfl) rfl ?_
  refine s_iload_n C (d_of DL_4 40 rfl) rfl ?_
  refine s_iconst C (d_of DL_4 41 rfl) (by decide) ?_
  refine s_iadd C (d_of DL_4 42 rfl) ⟨by omega, by omega⟩ ?_
  refine s_tald (e := 4) C (by decide) hT (xs_r xs) (by omega) (by omega) (d_of DL_4 43 rfl) ?_
  refine WA.fix (fun hF3 => ?_)
  obtain ⟨Q4, hKQ4, h⟩ := h
  refine s_callV (ci := 10) (av := [(0, ((xs ((l3 + 1)).toNat).toInt)), (0, ((xs ((l3 + 2)).toNat).toInt))]) (rest := [(0, z2)]) (mc := 0) (ms := 0) C (d_of DL_4 44 rfl) lk_L_74 (sh_41 hF3) (by decide) rfl rfl rfl (Nat.le_of_ble_eq_true rfl) (by decide) (by decide) hKQ4 (fun z4 w4 M4 hq => ?_)
  have h := h z4 w4 M4 hq
  refine s_icmpeq C (d_of DL_4 45 rfl) rfl (fun hc => ?_) (fun hc => ?_)
  · have h := h.1 hc
    exact h
  · have h := h.2 hc
    refine s_iconst C (d_of DL_4 46 rfl) (by decide) ?_
    exact h.elim
set_option maxHeartbeats 4000000 in
set_option maxRecDepth 100000 in
theorem B_L_696 {G : GP} {X : BX} {Q : State → Prop} {nm : String} {L : Nat} {xs : Nat → Int32} {l3 : Int} {rc rs : Nat} {w : NS} {M : MM} (C : CL G X nm) (hT : SCR G X L xs) (hL : L ≤ 3584) (h0 : 0 ≤ l3) (h7 : l3 + 7 ≤ L) (h : ∃ Q2 : Int → NS → MM → Prop, CT_X9_set G X.2.1 [(2, 1), (0, ((xs ((l3 + 1)).toNat).toInt)), (0, ((xs ((l3 + 2)).toNat).toInt))] w M Q2 ∧ ∀ (z2 : Int) (w2 : NS) (M2 : MM), Q2 z2 w2 M2 → ∃ Q4 : Int → NS → MM → Prop, CT_X10_set G X.2.1 [(2, 41), (0, ((xs ((l3 + 1)).toNat).toInt)), (0, ((xs ((l3 + 2)).toNat).toInt))] w2 M2 Q4 ∧ ∀ (z4 : Int) (w4 : NS) (M4 : MM), Q4 z4 w4 M4 → (((z2 = z4) → A_L_1396 G X Q l3 (rc + 0) (rs + 0) w4 M4) ∧ ((¬ (z2 = z4)) → False))) : A_L_696 G X Q l3 (rc + 0) (rs + 0) w M := by
  unfold A_L_696
  unfold SCR at hT
  refine s_aload_n C (d_of DL_4 48 rfl) rfl ?_
  refine s_aload_n C (d_of DL_4 49 rfl) rfl ?_
  refine s_iload_n C (d_of DL_4 50 rfl) rfl ?_
  refine s_iconst C (d_of DL_4 51 rfl) (by decide) ?_
  refine s_iadd C (d_of DL_4 52 rfl) ⟨by omega, by omega⟩ ?_
  refine s_tald (e := 4) C (by decide) hT (xs_r xs) (by omega) (by omega) (d_of DL_4 53 rfl) ?_
  refine s_aload_n C (d_of DL_4 54 rfl) rfl ?_
  refine s_iload_n C (d_of DL_4 55 rfl) rfl ?_
  refine s_iconst C (d_of DL_4 56 rfl) (by decide) ?_
  refine s_iadd C (d_of DL_4 57 rfl) ⟨by omega, by omega⟩ ?_
  refine s_tald (e := 4) C (by decide) hT (xs_r xs) (by omega) (by omega) (d_of DL_4 58 rfl) ?_
  refine WA.fix (fun hF1 => ?_)
  obtain ⟨Q2, hKQ2, h⟩ := h
  refine s_callV (ci := 9) (av := [(0, ((xs ((l3 + 1)).toNat).toInt)), (0, ((xs ((l3 + 2)).toNat).toInt))]) (rest := []) (mc := 0) (ms := 0) C (d_of DL_4 59 rfl) lk_L_75 (sh_1 hF1) (by decide) rfl rfl rfl (Nat.le_of_ble_eq_true rfl) (by decide) (by decide) hKQ2 (fun z2 w2 M2 hq => ?_)
  have h := h z2 w2 M2 hq
  refine s_aload_n C (d_of DL_4 60 rfl) rfl ?_
  refine s_aload_n C (d_of DL_4 61 rfl) rfl ?_
  refine s_iload_n C (d_of DL_4 62 rfl) rfl ?_
  refine s_iconst C (d_of DL_4 63 rfl) (by decide) ?_
  refine s_iadd C (d_of DL_4 64 rfl) ⟨by omega, by omega⟩ ?_
  refine s_tald (e := 4) C (by decide) hT (xs_r xs) (by omega) (by omega) (d_of DL_4 65 rfl) ?_
  refine s_aload_n C (d_of DL_4 66 rfl) rfl ?_
  refine s_iload_n C (d_of DL_4 67 rfl) rfl ?_
  refine s_iconst C (d_of DL_4 68 rfl) (by decide) ?_
  refine s_iadd C (d_of DL_4 69 rfl) ⟨by omega, by omega⟩ ?_
  refine s_tald (e := 4) C (by decide) hT (xs_r xs) (by omega) (by omega) (d_of DL_4 70 rfl) ?_
  refine WA.fix (fun hF3 => ?_)
  obtain ⟨Q4, hKQ4, h⟩ := h
  refine s_callV (ci := 10) (av := [(0, ((xs ((l3 + 1)).toNat).toInt)), (0, ((xs ((l3 + 2)).toNat).toInt))]) (rest := [(0, z2)]) (mc := 0) (ms := 0) C (d_of DL_4 71 rfl) lk_L_78 (sh_41 hF3) (by decide) rfl rfl rfl (Nat.le_of_ble_eq_true rfl) (by decide) (by decide) hKQ4 (fun z4 w4 M4 hq => ?_)
  have h := h z4 w4 M4 hq
  refine s_icmpeq C (d_of DL_4 72 rfl) rfl (fun hc => ?_) (fun hc => ?_)
  · have h := h.1 hc
    exact h
  · have h := h.2 hc
    refine s_iconst C (d_of DL_4 73 rfl) (by decide) ?_
    exact h.elim
set_option maxHeartbeats 4000000 in
set_option maxRecDepth 100000 in
theorem B_L_729 {G : GP} {X : BX} {Q : State → Prop} {nm : String} {L : Nat} {xs : Nat → Int32} {l3 : Int} {rc rs : Nat} {w : NS} {M : MM} (C : CL G X nm) (hT : SCR G X L xs) (hL : L ≤ 3584) (h0 : 0 ≤ l3) (h7 : l3 + 7 ≤ L) (h : ∃ Q2 : Int → NS → MM → Prop, CT_X9_list G X.2.1 [(2, 1), (0, ((xs ((l3 + 1)).toNat).toInt)), (0, ((xs ((l3 + 2)).toNat).toInt)), (0, ((xs ((l3 + 3)).toNat).toInt))] w M Q2 ∧ ∀ (z2 : Int) (w2 : NS) (M2 : MM), Q2 z2 w2 M2 → ∃ Q4 : Int → NS → MM → Prop, CT_X10_list G X.2.1 [(2, 41), (0, ((xs ((l3 + 1)).toNat).toInt)), (0, ((xs ((l3 + 2)).toNat).toInt)), (0, ((xs ((l3 + 3)).toNat).toInt))] w2 M2 Q4 ∧ ∀ (z4 : Int) (w4 : NS) (M4 : MM), Q4 z4 w4 M4 → (((z2 = z4) → A_L_1396 G X Q l3 (rc + 0) (rs + 0) w4 M4) ∧ ((¬ (z2 = z4)) → False))) : A_L_729 G X Q l3 (rc + 0) (rs + 0) w M := by
  unfold A_L_729
  unfold SCR at hT
  refine s_aload_n C (d_of DL_4 75 rfl) rfl ?_
  refine s_aload_n C (d_of DL_4 76 rfl) rfl ?_
  refine s_iload_n C (d_of DL_4 77 rfl) rfl ?_
  refine s_iconst C (d_of DL_4 78 rfl) (by decide) ?_
  refine s_iadd C (d_of DL_4 79 rfl) ⟨by omega, by omega⟩ ?_
  refine s_tald (e := 4) C (by decide) hT (xs_r xs) (by omega) (by omega) (d_of DL_4 80 rfl) ?_
  refine s_aload_n C (d_of DL_4 81 rfl) rfl ?_
  refine s_iload_n C (d_of DL_4 82 rfl) rfl ?_
  refine s_iconst C (d_of DL_4 83 rfl) (by decide) ?_
  refine s_iadd C (d_of DL_4 84 rfl) ⟨by omega, by omega⟩ ?_
  refine s_tald (e := 4) C (by decide) hT (xs_r xs) (by omega) (by omega) (d_of DL_4 85 rfl) ?_
  refine s_aload_n C (d_of DL_4 86 rfl) rfl ?_
  refine s_iload_n C (d_of DL_4 87 rfl) rfl ?_
  refine s_iconst C (d_of DL_4 88 rfl) (by decide) ?_
  refine s_iadd C (d_of DL_4 89 rfl) ⟨by omega, by omega⟩ ?_
  refine s_tald (e := 4) C (by decide) hT (xs_r xs) (by omega) (by omega) (d_of DL_4 90 rfl) ?_
  refine WA.fix (fun hF1 => ?_)
  obtain ⟨Q2, hKQ2, h⟩ := h
  refine s_callV (ci := 9) (av := [(0, ((xs ((l3 + 1)).toNat).toInt)), (0, ((xs ((l3 + 2)).toNat).toInt)), (0, ((xs ((l3 + 3)).toNat).toInt))]) (rest := []) (mc := 0) (ms := 0) C (d_of DL_4 91 rfl) lk_L_79 (sh_1 hF1) (by decide) rfl rfl rfl (Nat.le_of_ble_eq_true rfl) (by decide) (by decide) hKQ2 (fun z2 w2 M2 hq => ?_)
  have h := h z2 w2 M2 hq
  refine s_aload_n C (d_of DL_4 92 rfl) rfl ?_
  refine s_aload_n C (d_of DL_4 93 rfl) rfl ?_
  refine s_iload_n C (d_of DL_4 94 rfl) rfl ?_
  refine s_iconst C (d_of DL_4 95 rfl) (by decide) ?_
  refine s_iadd C (d_of DL_4 96 rfl) ⟨by omega, by omega⟩ ?_
  refine s_tald (e := 4) C (by decide) hT (xs_r xs) (by omega) (by omega) (d_of DL_4 97 rfl) ?_
  refine s_aload_n C (d_of DL_4 98 rfl) rfl ?_
  refine s_iload_n C (d_of DL_4 99 rfl) rfl ?_
  refine s_iconst C (d_of DL_5 0 rfl) (by decide) ?_
  refine s_iadd C (d_of DL_5 1 rfl) ⟨by omega, by omega⟩ ?_
  refine s_tald (e := 4) C (by decide) hT (xs_r xs) (by omega) (by omega) (d_of DL_5 2 rfl) ?_
  refine s_aload_n C (d_of DL_5 3 rfl) rfl ?_
  refine s_iload_n C (d_of DL_5 4 rfl) rfl ?_
  refine s_iconst C (d_of DL_5 5 rfl) (by decide) ?_
  refine s_iadd C (d_of DL_5 6 rfl) ⟨by omega, by omega⟩ ?_
  refine s_tald (e := 4) C (by decide) hT (xs_r xs) (by omega) (by omega) (d_of DL_5 7 rfl) ?_
  refine WA.fix (fun hF3 => ?_)
  obtain ⟨Q4, hKQ4, h⟩ := h
  refine s_callV (ci := 10) (av := [(0, ((xs ((l3 + 1)).toNat).toInt)), (0, ((xs ((l3 + 2)).toNat).toInt)), (0, ((xs ((l3 + 3)).toNat).toInt))]) (rest := [(0, z2)]) (mc := 0) (ms := 0) C (d_of DL_5 8 rfl) lk_L_82 (sh_41 hF3) (by decide) rfl rfl rfl (Nat.le_of_ble_eq_true rfl) (by decide) (by decide) hKQ4 (fun z4 w4 M4 hq => ?_)
  have h := h z4 w4 M4 hq
  refine s_icmpeq C (d_of DL_5 9 rfl) rfl (fun hc => ?_) (fun hc => ?_)
  · have h := h.1 hc
    exact h
  · have h := h.2 hc
    refine s_iconst C (d_of DL_5 10 rfl) (by decide) ?_
    exact h.elim
set_option maxHeartbeats 4000000 in
set_option maxRecDepth 100000 in
theorem B_L_772 {G : GP} {X : BX} {Q : State → Prop} {nm : String} {L : Nat} {xs : Nat → Int32} {l3 : Int} {rc rs : Nat} {w : NS} {M : MM} (C : CL G X nm) (hT : SCR G X L xs) (hL : L ≤ 3584) (h0 : 0 ≤ l3) (h7 : l3 + 7 ≤ L) (h : ∃ Q2 : Int → NS → MM → Prop, CT_X9_name G X.2.1 [(2, 1), (0, ((xs ((l3 + 1)).toNat).toInt)), (0, ((xs ((l3 + 2)).toNat).toInt))] w M Q2 ∧ ∀ (z2 : Int) (w2 : NS) (M2 : MM), Q2 z2 w2 M2 → ∃ Q4 : Int → NS → MM → Prop, CT_X10_name G X.2.1 [(2, 41), (0, ((xs ((l3 + 1)).toNat).toInt)), (0, ((xs ((l3 + 2)).toNat).toInt))] w2 M2 Q4 ∧ ∀ (z4 : Int) (w4 : NS) (M4 : MM), Q4 z4 w4 M4 → (((z2 = z4) → A_L_1396 G X Q l3 (rc + 0) (rs + 0) w4 M4) ∧ ((¬ (z2 = z4)) → False))) : A_L_772 G X Q l3 (rc + 0) (rs + 0) w M := by
  unfold A_L_772
  unfold SCR at hT
  refine s_aload_n C (d_of DL_5 12 rfl) rfl ?_
  refine s_aload_n C (d_of DL_5 13 rfl) rfl ?_
  refine s_iload_n C (d_of DL_5 14 rfl) rfl ?_
  refine s_iconst C (d_of DL_5 15 rfl) (by decide) ?_
  refine s_iadd C (d_of DL_5 16 rfl) ⟨by omega, by omega⟩ ?_
  refine s_tald (e := 4) C (by decide) hT (xs_r xs) (by omega) (by omega) (d_of DL_5 17 rfl) ?_
  refine s_aload_n C (d_of DL_5 18 rfl) rfl ?_
  refine s_iload_n C (d_of DL_5 19 rfl) rfl ?_
  refine s_iconst C (d_of DL_5 20 rfl) (by decide) ?_
  refine s_iadd C (d_of DL_5 21 rfl) ⟨by omega, by omega⟩ ?_
  refine s_tald (e := 4) C (by decide) hT (xs_r xs) (by omega) (by omega) (d_of DL_5 22 rfl) ?_
  refine WA.fix (fun hF1 => ?_)
  obtain ⟨Q2, hKQ2, h⟩ := h
  refine s_callV (ci := 9) (av := [(0, ((xs ((l3 + 1)).toNat).toInt)), (0, ((xs ((l3 + 2)).toNat).toInt))]) (rest := []) (mc := 0) (ms := 0) C (d_of DL_5 23 rfl) lk_L_83 (sh_1 hF1) (by decide) rfl rfl rfl (Nat.le_of_ble_eq_true rfl) (by decide) (by decide) hKQ2 (fun z2 w2 M2 hq => ?_)
  have h := h z2 w2 M2 hq
  refine s_aload_n C (d_of DL_5 24 rfl) rfl ?_
  refine s_aload_n C (d_of DL_5 25 rfl) rfl ?_
  refine s_iload_n C (d_of DL_5 26 rfl) rfl ?_
  refine s_iconst C (d_of DL_5 27 rfl) (by decide) ?_
  refine s_iadd C (d_of DL_5 28 rfl) ⟨by omega, by omega⟩ ?_
  refine s_tald (e := 4) C (by decide) hT (xs_r xs) (by omega) (by omega) (d_of DL_5 29 rfl) ?_
  refine s_aload_n C (d_of DL_5 30 rfl) rfl ?_
  refine s_iload_n C (d_of DL_5 31 rfl) rfl ?_
  refine s_iconst C (d_of DL_5 32 rfl) (by decide) ?_
  refine s_iadd C (d_of DL_5 33 rfl) ⟨by omega, by omega⟩ ?_
  refine s_tald (e := 4) C (by decide) hT (xs_r xs) (by omega) (by omega) (d_of DL_5 34 rfl) ?_
  refine WA.fix (fun hF3 => ?_)
  obtain ⟨Q4, hKQ4, h⟩ := h
  refine s_callV (ci := 10) (av := [(0, ((xs ((l3 + 1)).toNat).toInt)), (0, ((xs ((l3 + 2)).toNat).toInt))]) (rest := [(0, z2)]) (mc := 0) (ms := 0) C (d_of DL_5 35 rfl) lk_L_86 (sh_41 hF3) (by decide) rfl rfl rfl (Nat.le_of_ble_eq_true rfl) (by decide) (by decide) hKQ4 (fun z4 w4 M4 hq => ?_)
  have h := h z4 w4 M4 hq
  refine s_icmpeq C (d_of DL_5 36 rfl) rfl (fun hc => ?_) (fun hc => ?_)
  · have h := h.1 hc
    exact h
  · have h := h.2 hc
    refine s_iconst C (d_of DL_5 37 rfl) (by decide) ?_
    exact h.elim
set_option maxHeartbeats 4000000 in
set_option maxRecDepth 100000 in
theorem B_L_805 {G : GP} {X : BX} {Q : State → Prop} {nm : String} {L : Nat} {xs : Nat → Int32} {l3 : Int} {rc rs : Nat} {w : NS} {M : MM} (C : CL G X nm) (hT : SCR G X L xs) (hL : L ≤ 3584) (h0 : 0 ≤ l3) (h7 : l3 + 7 ≤ L) (h : ∃ Q2 : Int → NS → MM → Prop, CT_X9_counts G X.2.1 [(2, 1), (0, ((xs ((l3 + 1)).toNat).toInt)), (0, ((xs ((l3 + 2)).toNat).toInt)), (0, ((xs ((l3 + 3)).toNat).toInt))] w M Q2 ∧ ∀ (z2 : Int) (w2 : NS) (M2 : MM), Q2 z2 w2 M2 → ∃ Q4 : Int → NS → MM → Prop, CT_X10_counts G X.2.1 [(2, 41), (0, ((xs ((l3 + 1)).toNat).toInt)), (0, ((xs ((l3 + 2)).toNat).toInt)), (0, ((xs ((l3 + 3)).toNat).toInt))] w2 M2 Q4 ∧ ∀ (z4 : Int) (w4 : NS) (M4 : MM), Q4 z4 w4 M4 → (((z2 = z4) → A_L_1396 G X Q l3 (rc + 0) (rs + 0) w4 M4) ∧ ((¬ (z2 = z4)) → False))) : A_L_805 G X Q l3 (rc + 0) (rs + 0) w M := by
  unfold A_L_805
  unfold SCR at hT
  refine s_aload_n C (d_of DL_5 39 rfl) rfl ?_
  refine s_aload_n C (d_of DL_5 40 rfl) rfl ?_
  refine s_iload_n C (d_of DL_5 41 rfl) rfl ?_
  refine s_iconst C (d_of DL_5 42 rfl) (by decide) ?_
  refine s_iadd C (d_of DL_5 43 rfl) ⟨by omega, by omega⟩ ?_
  refine s_tald (e := 4) C (by decide) hT (xs_r xs) (by omega) (by omega) (d_of DL_5 44 rfl) ?_
  refine s_aload_n C (d_of DL_5 45 rfl) rfl ?_
  refine s_iload_n C (d_of DL_5 46 rfl) rfl ?_
  refine s_iconst C (d_of DL_5 47 rfl) (by decide) ?_
  refine s_iadd C (d_of DL_5 48 rfl) ⟨by omega, by omega⟩ ?_
  refine s_tald (e := 4) C (by decide) hT (xs_r xs) (by omega) (by omega) (d_of DL_5 49 rfl) ?_
  refine s_aload_n C (d_of DL_5 50 rfl) rfl ?_
  refine s_iload_n C (d_of DL_5 51 rfl) rfl ?_
  refine s_iconst C (d_of DL_5 52 rfl) (by decide) ?_
  refine s_iadd C (d_of DL_5 53 rfl) ⟨by omega, by omega⟩ ?_
  refine s_tald (e := 4) C (by decide) hT (xs_r xs) (by omega) (by omega) (d_of DL_5 54 rfl) ?_
  refine WA.fix (fun hF1 => ?_)
  obtain ⟨Q2, hKQ2, h⟩ := h
  refine s_callV (ci := 9) (av := [(0, ((xs ((l3 + 1)).toNat).toInt)), (0, ((xs ((l3 + 2)).toNat).toInt)), (0, ((xs ((l3 + 3)).toNat).toInt))]) (rest := []) (mc := 0) (ms := 0) C (d_of DL_5 55 rfl) lk_L_87 (sh_1 hF1) (by decide) rfl rfl rfl (Nat.le_of_ble_eq_true rfl) (by decide) (by decide) hKQ2 (fun z2 w2 M2 hq => ?_)
  have h := h z2 w2 M2 hq
  refine s_aload_n C (d_of DL_5 56 rfl) rfl ?_
  refine s_aload_n C (d_of DL_5 57 rfl) rfl ?_
  refine s_iload_n C (d_of DL_5 58 rfl) rfl ?_
  refine s_iconst C (d_of DL_5 59 rfl) (by decide) ?_
  refine s_iadd C (d_of DL_5 60 rfl) ⟨by omega, by omega⟩ ?_
  refine s_tald (e := 4) C (by decide) hT (xs_r xs) (by omega) (by omega) (d_of DL_5 61 rfl) ?_
  refine s_aload_n C (d_of DL_5 62 rfl) rfl ?_
  refine s_iload_n C (d_of DL_5 63 rfl) rfl ?_
  refine s_iconst C (d_of DL_5 64 rfl) (by decide) ?_
  refine s_iadd C (d_of DL_5 65 rfl) ⟨by omega, by omega⟩ ?_
  refine s_tald (e := 4) C (by decide) hT (xs_r xs) (by omega) (by omega) (d_of DL_5 66 rfl) ?_
  refine s_aload_n C (d_of DL_5 67 rfl) rfl ?_
  refine s_iload_n C (d_of DL_5 68 rfl) rfl ?_
  refine s_iconst C (d_of DL_5 69 rfl) (by decide) ?_
  refine s_iadd C (d_of DL_5 70 rfl) ⟨by omega, by omega⟩ ?_
  refine s_tald (e := 4) C (by decide) hT (xs_r xs) (by omega) (by omega) (d_of DL_5 71 rfl) ?_
  refine WA.fix (fun hF3 => ?_)
  obtain ⟨Q4, hKQ4, h⟩ := h
  refine s_callV (ci := 10) (av := [(0, ((xs ((l3 + 1)).toNat).toInt)), (0, ((xs ((l3 + 2)).toNat).toInt)), (0, ((xs ((l3 + 3)).toNat).toInt))]) (rest := [(0, z2)]) (mc := 0) (ms := 0) C (d_of DL_5 72 rfl) lk_L_90 (sh_41 hF3) (by decide) rfl rfl rfl (Nat.le_of_ble_eq_true rfl) (by decide) (by decide) hKQ4 (fun z4 w4 M4 hq => ?_)
  have h := h z4 w4 M4 hq
  refine s_icmpeq C (d_of DL_5 73 rfl) rfl (fun hc => ?_) (fun hc => ?_)
  · have h := h.1 hc
    exact h
  · have h := h.2 hc
    refine s_iconst C (d_of DL_5 74 rfl) (by decide) ?_
    exact h.elim
set_option maxHeartbeats 4000000 in
set_option maxRecDepth 100000 in
theorem B_L_848 {G : GP} {X : BX} {Q : State → Prop} {nm : String} {L : Nat} {xs : Nat → Int32} {l3 : Int} {rc rs : Nat} {w : NS} {M : MM} (C : CL G X nm) (hT : SCR G X L xs) (hL : L ≤ 3584) (h0 : 0 ≤ l3) (h7 : l3 + 7 ≤ L) (h : ∃ Q2 : Int → NS → MM → Prop, CT_X9_likely G X.2.1 [(2, 1), (0, ((xs ((l3 + 1)).toNat).toInt)), (0, ((xs ((l3 + 2)).toNat).toInt)), (0, ((xs ((l3 + 3)).toNat).toInt))] w M Q2 ∧ ∀ (z2 : Int) (w2 : NS) (M2 : MM), Q2 z2 w2 M2 → ∃ Q4 : Int → NS → MM → Prop, CT_X10_likely G X.2.1 [(2, 41), (0, ((xs ((l3 + 1)).toNat).toInt)), (0, ((xs ((l3 + 2)).toNat).toInt)), (0, ((xs ((l3 + 3)).toNat).toInt))] w2 M2 Q4 ∧ ∀ (z4 : Int) (w4 : NS) (M4 : MM), Q4 z4 w4 M4 → (((z2 = z4) → A_L_1396 G X Q l3 (rc + 0) (rs + 0) w4 M4) ∧ ((¬ (z2 = z4)) → False))) : A_L_848 G X Q l3 (rc + 0) (rs + 0) w M := by
  unfold A_L_848
  unfold SCR at hT
  refine s_aload_n C (d_of DL_5 76 rfl) rfl ?_
  refine s_aload_n C (d_of DL_5 77 rfl) rfl ?_
  refine s_iload_n C (d_of DL_5 78 rfl) rfl ?_
  refine s_iconst C (d_of DL_5 79 rfl) (by decide) ?_
  refine s_iadd C (d_of DL_5 80 rfl) ⟨by omega, by omega⟩ ?_
  refine s_tald (e := 4) C (by decide) hT (xs_r xs) (by omega) (by omega) (d_of DL_5 81 rfl) ?_
  refine s_aload_n C (d_of DL_5 82 rfl) rfl ?_
  refine s_iload_n C (d_of DL_5 83 rfl) rfl ?_
  refine s_iconst C (d_of DL_5 84 rfl) (by decide) ?_
  refine s_iadd C (d_of DL_5 85 rfl) ⟨by omega, by omega⟩ ?_
  refine s_tald (e := 4) C (by decide) hT (xs_r xs) (by omega) (by omega) (d_of DL_5 86 rfl) ?_
  refine s_aload_n C (d_of DL_5 87 rfl) rfl ?_
  refine s_iload_n C (d_of DL_5 88 rfl) rfl ?_
  refine s_iconst C (d_of DL_5 89 rfl) (by decide) ?_
  refine s_iadd C (d_of DL_5 90 rfl) ⟨by omega, by omega⟩ ?_
  refine s_tald (e := 4) C (by decide) hT (xs_r xs) (by omega) (by omega) (d_of DL_5 91 rfl) ?_
  refine WA.fix (fun hF1 => ?_)
  obtain ⟨Q2, hKQ2, h⟩ := h
  refine s_callV (ci := 9) (av := [(0, ((xs ((l3 + 1)).toNat).toInt)), (0, ((xs ((l3 + 2)).toNat).toInt)), (0, ((xs ((l3 + 3)).toNat).toInt))]) (rest := []) (mc := 0) (ms := 0) C (d_of DL_5 92 rfl) lk_L_91 (sh_1 hF1) (by decide) rfl rfl rfl (Nat.le_of_ble_eq_true rfl) (by decide) (by decide) hKQ2 (fun z2 w2 M2 hq => ?_)
  have h := h z2 w2 M2 hq
  refine s_aload_n C (d_of DL_5 93 rfl) rfl ?_
  refine s_aload_n C (d_of DL_5 94 rfl) rfl ?_
  refine s_iload_n C (d_of DL_5 95 rfl) rfl ?_
  refine s_iconst C (d_of DL_5 96 rfl) (by decide) ?_
  refine s_iadd C (d_of DL_5 97 rfl) ⟨by omega, by omega⟩ ?_
  refine s_tald (e := 4) C (by decide) hT (xs_r xs) (by omega) (by omega) (d_of DL_5 98 rfl) ?_
  refine s_aload_n C (d_of DL_5 99 rfl) rfl ?_
  refine s_iload_n C (d_of DL_6 0 rfl) rfl ?_
  refine s_iconst C (d_of DL_6 1 rfl) (by decide) ?_
  refine s_iadd C (d_of DL_6 2 rfl) ⟨by omega, by omega⟩ ?_
  refine s_tald (e := 4) C (by decide) hT (xs_r xs) (by omega) (by omega) (d_of DL_6 3 rfl) ?_
  refine s_aload_n C (d_of DL_6 4 rfl) rfl ?_
  refine s_iload_n C (d_of DL_6 5 rfl) rfl ?_
  refine s_iconst C (d_of DL_6 6 rfl) (by decide) ?_
  refine s_iadd C (d_of DL_6 7 rfl) ⟨by omega, by omega⟩ ?_
  refine s_tald (e := 4) C (by decide) hT (xs_r xs) (by omega) (by omega) (d_of DL_6 8 rfl) ?_
  refine WA.fix (fun hF3 => ?_)
  obtain ⟨Q4, hKQ4, h⟩ := h
  refine s_callV (ci := 10) (av := [(0, ((xs ((l3 + 1)).toNat).toInt)), (0, ((xs ((l3 + 2)).toNat).toInt)), (0, ((xs ((l3 + 3)).toNat).toInt))]) (rest := [(0, z2)]) (mc := 0) (ms := 0) C (d_of DL_6 9 rfl) lk_L_94 (sh_41 hF3) (by decide) rfl rfl rfl (Nat.le_of_ble_eq_true rfl) (by decide) (by decide) hKQ4 (fun z4 w4 M4 hq => ?_)
  have h := h z4 w4 M4 hq
  refine s_icmpeq C (d_of DL_6 10 rfl) rfl (fun hc => ?_) (fun hc => ?_)
  · have h := h.1 hc
    exact h
  · have h := h.2 hc
    refine s_iconst C (d_of DL_6 11 rfl) (by decide) ?_
    exact h.elim
set_option maxHeartbeats 4000000 in
set_option maxRecDepth 100000 in
theorem B_L_891 {G : GP} {X : BX} {Q : State → Prop} {nm : String} {L : Nat} {xs : Nat → Int32} {l3 : Int} {rc rs : Nat} {w : NS} {M : MM} (C : CL G X nm) (hT : SCR G X L xs) (hL : L ≤ 3584) (h0 : 0 ≤ l3) (h7 : l3 + 7 ≤ L) (h : ∃ Q2 : Int → NS → MM → Prop, CT_X9_asked G X.2.1 [(2, 1), (0, ((xs ((l3 + 1)).toNat).toInt)), (0, ((xs ((l3 + 2)).toNat).toInt))] w M Q2 ∧ ∀ (z2 : Int) (w2 : NS) (M2 : MM), Q2 z2 w2 M2 → ∃ Q4 : Int → NS → MM → Prop, CT_X10_asked G X.2.1 [(2, 41), (0, ((xs ((l3 + 1)).toNat).toInt)), (0, ((xs ((l3 + 2)).toNat).toInt))] w2 M2 Q4 ∧ ∀ (z4 : Int) (w4 : NS) (M4 : MM), Q4 z4 w4 M4 → (((z2 = z4) → A_L_1396 G X Q l3 (rc + 0) (rs + 0) w4 M4) ∧ ((¬ (z2 = z4)) → False))) : A_L_891 G X Q l3 (rc + 0) (rs + 0) w M := by
  unfold A_L_891
  unfold SCR at hT
  refine s_aload_n C (d_of DL_6 13 rfl) rfl ?_
  refine s_aload_n C (d_of DL_6 14 rfl) rfl ?_
  refine s_iload_n C (d_of DL_6 15 rfl) rfl ?_
  refine s_iconst C (d_of DL_6 16 rfl) (by decide) ?_
  refine s_iadd C (d_of DL_6 17 rfl) ⟨by omega, by omega⟩ ?_
  refine s_tald (e := 4) C (by decide) hT (xs_r xs) (by omega) (by omega) (d_of DL_6 18 rfl) ?_
  refine s_aload_n C (d_of DL_6 19 rfl) rfl ?_
  refine s_iload_n C (d_of DL_6 20 rfl) rfl ?_
  refine s_iconst C (d_of DL_6 21 rfl) (by decide) ?_
  refine s_iadd C (d_of DL_6 22 rfl) ⟨by omega, by omega⟩ ?_
  refine s_tald (e := 4) C (by decide) hT (xs_r xs) (by omega) (by omega) (d_of DL_6 23 rfl) ?_
  refine WA.fix (fun hF1 => ?_)
  obtain ⟨Q2, hKQ2, h⟩ := h
  refine s_callV (ci := 9) (av := [(0, ((xs ((l3 + 1)).toNat).toInt)), (0, ((xs ((l3 + 2)).toNat).toInt))]) (rest := []) (mc := 0) (ms := 0) C (d_of DL_6 24 rfl) lk_L_95 (sh_1 hF1) (by decide) rfl rfl rfl (Nat.le_of_ble_eq_true rfl) (by decide) (by decide) hKQ2 (fun z2 w2 M2 hq => ?_)
  have h := h z2 w2 M2 hq
  refine s_aload_n C (d_of DL_6 25 rfl) rfl ?_
  refine s_aload_n C (d_of DL_6 26 rfl) rfl ?_
  refine s_iload_n C (d_of DL_6 27 rfl) rfl ?_
  refine s_iconst C (d_of DL_6 28 rfl) (by decide) ?_
  refine s_iadd C (d_of DL_6 29 rfl) ⟨by omega, by omega⟩ ?_
  refine s_tald (e := 4) C (by decide) hT (xs_r xs) (by omega) (by omega) (d_of DL_6 30 rfl) ?_
  refine s_aload_n C (d_of DL_6 31 rfl) rfl ?_
  refine s_iload_n C (d_of DL_6 32 rfl) rfl ?_
  refine s_iconst C (d_of DL_6 33 rfl) (by decide) ?_
  refine s_iadd C (d_of DL_6 34 rfl) ⟨by omega, by omega⟩ ?_
  refine s_tald (e := 4) C (by decide) hT (xs_r xs) (by omega) (by omega) (d_of DL_6 35 rfl) ?_
  refine WA.fix (fun hF3 => ?_)
  obtain ⟨Q4, hKQ4, h⟩ := h
  refine s_callV (ci := 10) (av := [(0, ((xs ((l3 + 1)).toNat).toInt)), (0, ((xs ((l3 + 2)).toNat).toInt))]) (rest := [(0, z2)]) (mc := 0) (ms := 0) C (d_of DL_6 36 rfl) lk_L_98 (sh_41 hF3) (by decide) rfl rfl rfl (Nat.le_of_ble_eq_true rfl) (by decide) (by decide) hKQ4 (fun z4 w4 M4 hq => ?_)
  have h := h z4 w4 M4 hq
  refine s_icmpeq C (d_of DL_6 37 rfl) rfl (fun hc => ?_) (fun hc => ?_)
  · have h := h.1 hc
    exact h
  · have h := h.2 hc
    refine s_iconst C (d_of DL_6 38 rfl) (by decide) ?_
    exact h.elim
set_option maxHeartbeats 4000000 in
set_option maxRecDepth 100000 in
theorem B_L_924 {G : GP} {X : BX} {Q : State → Prop} {nm : String} {L : Nat} {xs : Nat → Int32} {l3 : Int} {rc rs : Nat} {w : NS} {M : MM} (C : CL G X nm) (hT : SCR G X L xs) (hL : L ≤ 3584) (h0 : 0 ≤ l3) (h7 : l3 + 7 ≤ L) (h : ∃ Q2 : Int → NS → MM → Prop, CT_X9_served G X.2.1 [(2, 1), (0, ((xs ((l3 + 1)).toNat).toInt)), (0, ((xs ((l3 + 2)).toNat).toInt)), (0, ((xs ((l3 + 3)).toNat).toInt))] w M Q2 ∧ ∀ (z2 : Int) (w2 : NS) (M2 : MM), Q2 z2 w2 M2 → ∃ Q4 : Int → NS → MM → Prop, CT_X10_served G X.2.1 [(2, 41), (0, ((xs ((l3 + 1)).toNat).toInt)), (0, ((xs ((l3 + 2)).toNat).toInt)), (0, ((xs ((l3 + 3)).toNat).toInt))] w2 M2 Q4 ∧ ∀ (z4 : Int) (w4 : NS) (M4 : MM), Q4 z4 w4 M4 → (((z2 = z4) → A_L_1396 G X Q l3 (rc + 0) (rs + 0) w4 M4) ∧ ((¬ (z2 = z4)) → False))) : A_L_924 G X Q l3 (rc + 0) (rs + 0) w M := by
  unfold A_L_924
  unfold SCR at hT
  refine s_aload_n C (d_of DL_6 40 rfl) rfl ?_
  refine s_aload_n C (d_of DL_6 41 rfl) rfl ?_
  refine s_iload_n C (d_of DL_6 42 rfl) rfl ?_
  refine s_iconst C (d_of DL_6 43 rfl) (by decide) ?_
  refine s_iadd C (d_of DL_6 44 rfl) ⟨by omega, by omega⟩ ?_
  refine s_tald (e := 4) C (by decide) hT (xs_r xs) (by omega) (by omega) (d_of DL_6 45 rfl) ?_
  refine s_aload_n C (d_of DL_6 46 rfl) rfl ?_
  refine s_iload_n C (d_of DL_6 47 rfl) rfl ?_
  refine s_iconst C (d_of DL_6 48 rfl) (by decide) ?_
  refine s_iadd C (d_of DL_6 49 rfl) ⟨by omega, by omega⟩ ?_
  refine s_tald (e := 4) C (by decide) hT (xs_r xs) (by omega) (by omega) (d_of DL_6 50 rfl) ?_
  refine s_aload_n C (d_of DL_6 51 rfl) rfl ?_
  refine s_iload_n C (d_of DL_6 52 rfl) rfl ?_
  refine s_iconst C (d_of DL_6 53 rfl) (by decide) ?_
  refine s_iadd C (d_of DL_6 54 rfl) ⟨by omega, by omega⟩ ?_
  refine s_tald (e := 4) C (by decide) hT (xs_r xs) (by omega) (by omega) (d_of DL_6 55 rfl) ?_
  refine WA.fix (fun hF1 => ?_)
  obtain ⟨Q2, hKQ2, h⟩ := h
  refine s_callV (ci := 9) (av := [(0, ((xs ((l3 + 1)).toNat).toInt)), (0, ((xs ((l3 + 2)).toNat).toInt)), (0, ((xs ((l3 + 3)).toNat).toInt))]) (rest := []) (mc := 0) (ms := 0) C (d_of DL_6 56 rfl) lk_L_99 (sh_1 hF1) (by decide) rfl rfl rfl (Nat.le_of_ble_eq_true rfl) (by decide) (by decide) hKQ2 (fun z2 w2 M2 hq => ?_)
  have h := h z2 w2 M2 hq
  refine s_aload_n C (d_of DL_6 57 rfl) rfl ?_
  refine s_aload_n C (d_of DL_6 58 rfl) rfl ?_
  refine s_iload_n C (d_of DL_6 59 rfl) rfl ?_
  refine s_iconst C (d_of DL_6 60 rfl) (by decide) ?_
  refine s_iadd C (d_of DL_6 61 rfl) ⟨by omega, by omega⟩ ?_
  refine s_tald (e := 4) C (by decide) hT (xs_r xs) (by omega) (by omega) (d_of DL_6 62 rfl) ?_
  refine s_aload_n C (d_of DL_6 63 rfl) rfl ?_
  refine s_iload_n C (d_of DL_6 64 rfl) rfl ?_
  refine s_iconst C (d_of DL_6 65 rfl) (by decide) ?_
  refine s_iadd C (d_of DL_6 66 rfl) ⟨by omega, by omega⟩ ?_
  refine s_tald (e := 4) C (by decide) hT (xs_r xs) (by omega) (by omega) (d_of DL_6 67 rfl) ?_
  refine s_aload_n C (d_of DL_6 68 rfl) rfl ?_
  refine s_iload_n C (d_of DL_6 69 rfl) rfl ?_
  refine s_iconst C (d_of DL_6 70 rfl) (by decide) ?_
  refine s_iadd C (d_of DL_6 71 rfl) ⟨by omega, by omega⟩ ?_
  refine s_tald (e := 4) C (by decide) hT (xs_r xs) (by omega) (by omega) (d_of DL_6 72 rfl) ?_
  refine WA.fix (fun hF3 => ?_)
  obtain ⟨Q4, hKQ4, h⟩ := h
  refine s_callV (ci := 10) (av := [(0, ((xs ((l3 + 1)).toNat).toInt)), (0, ((xs ((l3 + 2)).toNat).toInt)), (0, ((xs ((l3 + 3)).toNat).toInt))]) (rest := [(0, z2)]) (mc := 0) (ms := 0) C (d_of DL_6 73 rfl) lk_L_102 (sh_41 hF3) (by decide) rfl rfl rfl (Nat.le_of_ble_eq_true rfl) (by decide) (by decide) hKQ4 (fun z4 w4 M4 hq => ?_)
  have h := h z4 w4 M4 hq
  refine s_icmpeq C (d_of DL_6 74 rfl) rfl (fun hc => ?_) (fun hc => ?_)
  · have h := h.1 hc
    exact h
  · have h := h.2 hc
    refine s_iconst C (d_of DL_6 75 rfl) (by decide) ?_
    exact h.elim
set_option maxHeartbeats 4000000 in
set_option maxRecDepth 100000 in
theorem B_L_967 {G : GP} {X : BX} {Q : State → Prop} {nm : String} {L : Nat} {xs : Nat → Int32} {l3 : Int} {rc rs : Nat} {w : NS} {M : MM} (C : CL G X nm) (hT : SCR G X L xs) (hL : L ≤ 3584) (h0 : 0 ≤ l3) (h7 : l3 + 7 ≤ L) (h : (((((xs ((l3 + 3)).toNat).toInt) = 0) → ∃ Q2 : Int → NS → MM → Prop, CT_X9_find G X.2.1 [(2, 1), (0, ((xs ((l3 + 1)).toNat).toInt)), (0, ((xs ((l3 + 2)).toNat).toInt)), (0, 0)] w M Q2 ∧ ∀ (z2 : Int) (w2 : NS) (M2 : MM), Q2 z2 w2 M2 → (((((xs ((l3 + 3)).toNat).toInt) = 0) → ∃ Q4 : Int → NS → MM → Prop, CT_X10_find G X.2.1 [(2, 41), (0, ((xs ((l3 + 1)).toNat).toInt)), (0, ((xs ((l3 + 2)).toNat).toInt)), (0, 0)] w2 M2 Q4 ∧ ∀ (z4 : Int) (w4 : NS) (M4 : MM), Q4 z4 w4 M4 → (((z2 = z4) → A_L_1396 G X Q l3 (rc + 0) (rs + 0) w4 M4) ∧ ((¬ (z2 = z4)) → False))) ∧ ((¬ (((xs ((l3 + 3)).toNat).toInt) = 0)) → ∃ Q6 : Int → NS → MM → Prop, CT_X10_find G X.2.1 [(2, 41), (0, ((xs ((l3 + 1)).toNat).toInt)), (0, ((xs ((l3 + 2)).toNat).toInt)), (0, 1)] w2 M2 Q6 ∧ ∀ (z6 : Int) (w6 : NS) (M6 : MM), Q6 z6 w6 M6 → (((z2 = z6) → A_L_1396 G X Q l3 (rc + 0) (rs + 0) w6 M6) ∧ ((¬ (z2 = z6)) → False))))) ∧ ((¬ (((xs ((l3 + 3)).toNat).toInt) = 0)) → ∃ Q8 : Int → NS → MM → Prop, CT_X9_find G X.2.1 [(2, 1), (0, ((xs ((l3 + 1)).toNat).toInt)), (0, ((xs ((l3 + 2)).toNat).toInt)), (0, 1)] w M Q8 ∧ ∀ (z8 : Int) (w8 : NS) (M8 : MM), Q8 z8 w8 M8 → (((((xs ((l3 + 3)).toNat).toInt) = 0) → ∃ Q10 : Int → NS → MM → Prop, CT_X10_find G X.2.1 [(2, 41), (0, ((xs ((l3 + 1)).toNat).toInt)), (0, ((xs ((l3 + 2)).toNat).toInt)), (0, 0)] w8 M8 Q10 ∧ ∀ (z10 : Int) (w10 : NS) (M10 : MM), Q10 z10 w10 M10 → (((z8 = z10) → A_L_1396 G X Q l3 (rc + 0) (rs + 0) w10 M10) ∧ ((¬ (z8 = z10)) → False))) ∧ ((¬ (((xs ((l3 + 3)).toNat).toInt) = 0)) → ∃ Q12 : Int → NS → MM → Prop, CT_X10_find G X.2.1 [(2, 41), (0, ((xs ((l3 + 1)).toNat).toInt)), (0, ((xs ((l3 + 2)).toNat).toInt)), (0, 1)] w8 M8 Q12 ∧ ∀ (z12 : Int) (w12 : NS) (M12 : MM), Q12 z12 w12 M12 → (((z8 = z12) → A_L_1396 G X Q l3 (rc + 0) (rs + 0) w12 M12) ∧ ((¬ (z8 = z12)) → False))))))) : A_L_967 G X Q l3 (rc + 0) (rs + 0) w M := by
  unfold A_L_967
  unfold SCR at hT
  refine s_aload_n C (d_of DL_6 77 rfl) rfl ?_
  refine s_aload_n C (d_of DL_6 78 rfl) rfl ?_
  refine s_iload_n C (d_of DL_6 79 rfl) rfl ?_
  refine s_iconst C (d_of DL_6 80 rfl) (by decide) ?_
  refine s_iadd C (d_of DL_6 81 rfl) ⟨by omega, by omega⟩ ?_
  refine s_tald (e := 4) C (by decide) hT (xs_r xs) (by omega) (by omega) (d_of DL_6 82 rfl) ?_
  refine s_aload_n C (d_of DL_6 83 rfl) rfl ?_
  refine s_iload_n C (d_of DL_6 84 rfl) rfl ?_
  refine s_iconst C (d_of DL_6 85 rfl) (by decide) ?_
  refine s_iadd C (d_of DL_6 86 rfl) ⟨by omega, by omega⟩ ?_
  refine s_tald (e := 4) C (by decide) hT (xs_r xs) (by omega) (by omega) (d_of DL_6 87 rfl) ?_
  refine s_aload_n C (d_of DL_6 88 rfl) rfl ?_
  refine s_iload_n C (d_of DL_6 89 rfl) rfl ?_
  refine s_iconst C (d_of DL_6 90 rfl) (by decide) ?_
  refine s_iadd C (d_of DL_6 91 rfl) ⟨by omega, by omega⟩ ?_
  refine s_tald (e := 4) C (by decide) hT (xs_r xs) (by omega) (by omega) (d_of DL_6 92 rfl) ?_
  refine s_ifeq C (d_of DL_6 93 rfl) rfl (fun hc => ?_) (fun hc => ?_)
  · have h := h.1 hc
    refine s_iconst C (d_of DL_6 96 rfl) (by decide) ?_
    refine WA.fix (fun hF1 => ?_)
    obtain ⟨Q2, hKQ2, h⟩ := h
    refine s_callV (ci := 9) (av := [(0, ((xs ((l3 + 1)).toNat).toInt)), (0, ((xs ((l3 + 2)).toNat).toInt)), (0, 0)]) (rest := []) (mc := 0) (ms := 0) C (d_of DL_6 97 rfl) lk_L_103 (sh_1 hF1) (by decide) rfl rfl rfl (Nat.le_of_ble_eq_true rfl) (by decide) (by decide) hKQ2 (fun z2 w2 M2 hq => ?_)
    have h := h z2 w2 M2 hq
    refine s_aload_n C (d_of DL_6 98 rfl) rfl ?_
    refine s_aload_n C (d_of DL_6 99 rfl) rfl ?_
    refine s_iload_n C (d_of DL_7 0 rfl) rfl ?_
    refine s_iconst C (d_of DL_7 1 rfl) (by decide) ?_
    refine s_iadd C (d_of DL_7 2 rfl) ⟨by omega, by omega⟩ ?_
    refine s_tald (e := 4) C (by decide) hT (xs_r xs) (by omega) (by omega) (d_of DL_7 3 rfl) ?_
    refine s_aload_n C (d_of DL_7 4 rfl) rfl ?_
    refine s_iload_n C (d_of DL_7 5 rfl) rfl ?_
    refine s_iconst C (d_of DL_7 6 rfl) (by decide) ?_
    refine s_iadd C (d_of DL_7 7 rfl) ⟨by omega, by omega⟩ ?_
    refine s_tald (e := 4) C (by decide) hT (xs_r xs) (by omega) (by omega) (d_of DL_7 8 rfl) ?_
    refine s_aload_n C (d_of DL_7 9 rfl) rfl ?_
    refine s_iload_n C (d_of DL_7 10 rfl) rfl ?_
    refine s_iconst C (d_of DL_7 11 rfl) (by decide) ?_
    refine s_iadd C (d_of DL_7 12 rfl) ⟨by omega, by omega⟩ ?_
    refine s_tald (e := 4) C (by decide) hT (xs_r xs) (by omega) (by omega) (d_of DL_7 13 rfl) ?_
    refine s_ifeq C (d_of DL_7 14 rfl) rfl (fun hc => ?_) (fun hc => ?_)
    · have h := h.1 hc
      refine s_iconst C (d_of DL_7 17 rfl) (by decide) ?_
      refine WA.fix (fun hF3 => ?_)
      obtain ⟨Q4, hKQ4, h⟩ := h
      refine s_callV (ci := 10) (av := [(0, ((xs ((l3 + 1)).toNat).toInt)), (0, ((xs ((l3 + 2)).toNat).toInt)), (0, 0)]) (rest := [(0, z2)]) (mc := 0) (ms := 0) C (d_of DL_7 18 rfl) lk_L_107 (sh_41 hF3) (by decide) rfl rfl rfl (Nat.le_of_ble_eq_true rfl) (by decide) (by decide) hKQ4 (fun z4 w4 M4 hq => ?_)
      have h := h z4 w4 M4 hq
      refine s_icmpeq C (d_of DL_7 19 rfl) rfl (fun hc => ?_) (fun hc => ?_)
      · have h := h.1 hc
        exact h
      · have h := h.2 hc
        refine s_iconst C (d_of DL_7 20 rfl) (by decide) ?_
        exact h.elim
    · have h := h.2 hc
      refine s_iconst C (d_of DL_7 15 rfl) (by decide) ?_
      refine s_goto C (d_of DL_7 16 rfl) rfl ?_
      refine WA.fix (fun hF5 => ?_)
      obtain ⟨Q6, hKQ6, h⟩ := h
      refine s_callV (ci := 10) (av := [(0, ((xs ((l3 + 1)).toNat).toInt)), (0, ((xs ((l3 + 2)).toNat).toInt)), (0, 1)]) (rest := [(0, z2)]) (mc := 0) (ms := 0) C (d_of DL_7 18 rfl) lk_L_107 (sh_41 hF5) (by decide) rfl rfl rfl (Nat.le_of_ble_eq_true rfl) (by decide) (by decide) hKQ6 (fun z6 w6 M6 hq => ?_)
      have h := h z6 w6 M6 hq
      refine s_icmpeq C (d_of DL_7 19 rfl) rfl (fun hc => ?_) (fun hc => ?_)
      · have h := h.1 hc
        exact h
      · have h := h.2 hc
        refine s_iconst C (d_of DL_7 20 rfl) (by decide) ?_
        exact h.elim
  · have h := h.2 hc
    refine s_iconst C (d_of DL_6 94 rfl) (by decide) ?_
    refine s_goto C (d_of DL_6 95 rfl) rfl ?_
    refine WA.fix (fun hF7 => ?_)
    obtain ⟨Q8, hKQ8, h⟩ := h
    refine s_callV (ci := 9) (av := [(0, ((xs ((l3 + 1)).toNat).toInt)), (0, ((xs ((l3 + 2)).toNat).toInt)), (0, 1)]) (rest := []) (mc := 0) (ms := 0) C (d_of DL_6 97 rfl) lk_L_103 (sh_1 hF7) (by decide) rfl rfl rfl (Nat.le_of_ble_eq_true rfl) (by decide) (by decide) hKQ8 (fun z8 w8 M8 hq => ?_)
    have h := h z8 w8 M8 hq
    refine s_aload_n C (d_of DL_6 98 rfl) rfl ?_
    refine s_aload_n C (d_of DL_6 99 rfl) rfl ?_
    refine s_iload_n C (d_of DL_7 0 rfl) rfl ?_
    refine s_iconst C (d_of DL_7 1 rfl) (by decide) ?_
    refine s_iadd C (d_of DL_7 2 rfl) ⟨by omega, by omega⟩ ?_
    refine s_tald (e := 4) C (by decide) hT (xs_r xs) (by omega) (by omega) (d_of DL_7 3 rfl) ?_
    refine s_aload_n C (d_of DL_7 4 rfl) rfl ?_
    refine s_iload_n C (d_of DL_7 5 rfl) rfl ?_
    refine s_iconst C (d_of DL_7 6 rfl) (by decide) ?_
    refine s_iadd C (d_of DL_7 7 rfl) ⟨by omega, by omega⟩ ?_
    refine s_tald (e := 4) C (by decide) hT (xs_r xs) (by omega) (by omega) (d_of DL_7 8 rfl) ?_
    refine s_aload_n C (d_of DL_7 9 rfl) rfl ?_
    refine s_iload_n C (d_of DL_7 10 rfl) rfl ?_
    refine s_iconst C (d_of DL_7 11 rfl) (by decide) ?_
    refine s_iadd C (d_of DL_7 12 rfl) ⟨by omega, by omega⟩ ?_
    refine s_tald (e := 4) C (by decide) hT (xs_r xs) (by omega) (by omega) (d_of DL_7 13 rfl) ?_
    refine s_ifeq C (d_of DL_7 14 rfl) rfl (fun hc => ?_) (fun hc => ?_)
    · have h := h.1 hc
      refine s_iconst C (d_of DL_7 17 rfl) (by decide) ?_
      refine WA.fix (fun hF9 => ?_)
      obtain ⟨Q10, hKQ10, h⟩ := h
      refine s_callV (ci := 10) (av := [(0, ((xs ((l3 + 1)).toNat).toInt)), (0, ((xs ((l3 + 2)).toNat).toInt)), (0, 0)]) (rest := [(0, z8)]) (mc := 0) (ms := 0) C (d_of DL_7 18 rfl) lk_L_107 (sh_41 hF9) (by decide) rfl rfl rfl (Nat.le_of_ble_eq_true rfl) (by decide) (by decide) hKQ10 (fun z10 w10 M10 hq => ?_)
      have h := h z10 w10 M10 hq
      refine s_icmpeq C (d_of DL_7 19 rfl) rfl (fun hc => ?_) (fun hc => ?_)
      · have h := h.1 hc
        exact h
      · have h := h.2 hc
        refine s_iconst C (d_of DL_7 20 rfl) (by decide) ?_
        exact h.elim
    · have h := h.2 hc
      refine s_iconst C (d_of DL_7 15 rfl) (by decide) ?_
      refine s_goto C (d_of DL_7 16 rfl) rfl ?_
      refine WA.fix (fun hF11 => ?_)
      obtain ⟨Q12, hKQ12, h⟩ := h
      refine s_callV (ci := 10) (av := [(0, ((xs ((l3 + 1)).toNat).toInt)), (0, ((xs ((l3 + 2)).toNat).toInt)), (0, 1)]) (rest := [(0, z8)]) (mc := 0) (ms := 0) C (d_of DL_7 18 rfl) lk_L_107 (sh_41 hF11) (by decide) rfl rfl rfl (Nat.le_of_ble_eq_true rfl) (by decide) (by decide) hKQ12 (fun z12 w12 M12 hq => ?_)
      have h := h z12 w12 M12 hq
      refine s_icmpeq C (d_of DL_7 19 rfl) rfl (fun hc => ?_) (fun hc => ?_)
      · have h := h.1 hc
        exact h
      · have h := h.2 hc
        refine s_iconst C (d_of DL_7 20 rfl) (by decide) ?_
        exact h.elim
set_option maxHeartbeats 4000000 in
set_option maxRecDepth 100000 in
theorem B_L_1026 {G : GP} {X : BX} {Q : State → Prop} {nm : String} {L : Nat} {xs : Nat → Int32} {l3 : Int} {rc rs : Nat} {w : NS} {M : MM} (C : CL G X nm) (hT : SCR G X L xs) (hL : L ≤ 3584) (h0 : 0 ≤ l3) (h7 : l3 + 7 ≤ L) (h : ∃ Q2 : Int → NS → MM → Prop, CT_X9_misses G X.2.1 [(2, 1), (0, ((xs ((l3 + 1)).toNat).toInt)), (0, ((xs ((l3 + 2)).toNat).toInt)), (0, ((xs ((l3 + 3)).toNat).toInt)), (0, ((xs ((l3 + 4)).toNat).toInt))] w M Q2 ∧ ∀ (z2 : Int) (w2 : NS) (M2 : MM), Q2 z2 w2 M2 → ∃ Q4 : Int → NS → MM → Prop, CT_X10_misses G X.2.1 [(2, 41), (0, ((xs ((l3 + 1)).toNat).toInt)), (0, ((xs ((l3 + 2)).toNat).toInt)), (0, ((xs ((l3 + 3)).toNat).toInt)), (0, ((xs ((l3 + 4)).toNat).toInt))] w2 M2 Q4 ∧ ∀ (z4 : Int) (w4 : NS) (M4 : MM), Q4 z4 w4 M4 → (((z2 = z4) → A_L_1396 G X Q l3 (rc + 0) (rs + 0) w4 M4) ∧ ((¬ (z2 = z4)) → False))) : A_L_1026 G X Q l3 (rc + 0) (rs + 0) w M := by
  unfold A_L_1026
  unfold SCR at hT
  refine s_aload_n C (d_of DL_7 22 rfl) rfl ?_
  refine s_aload_n C (d_of DL_7 23 rfl) rfl ?_
  refine s_iload_n C (d_of DL_7 24 rfl) rfl ?_
  refine s_iconst C (d_of DL_7 25 rfl) (by decide) ?_
  refine s_iadd C (d_of DL_7 26 rfl) ⟨by omega, by omega⟩ ?_
  refine s_tald (e := 4) C (by decide) hT (xs_r xs) (by omega) (by omega) (d_of DL_7 27 rfl) ?_
  refine s_aload_n C (d_of DL_7 28 rfl) rfl ?_
  refine s_iload_n C (d_of DL_7 29 rfl) rfl ?_
  refine s_iconst C (d_of DL_7 30 rfl) (by decide) ?_
  refine s_iadd C (d_of DL_7 31 rfl) ⟨by omega, by omega⟩ ?_
  refine s_tald (e := 4) C (by decide) hT (xs_r xs) (by omega) (by omega) (d_of DL_7 32 rfl) ?_
  refine s_aload_n C (d_of DL_7 33 rfl) rfl ?_
  refine s_iload_n C (d_of DL_7 34 rfl) rfl ?_
  refine s_iconst C (d_of DL_7 35 rfl) (by decide) ?_
  refine s_iadd C (d_of DL_7 36 rfl) ⟨by omega, by omega⟩ ?_
  refine s_tald (e := 4) C (by decide) hT (xs_r xs) (by omega) (by omega) (d_of DL_7 37 rfl) ?_
  refine s_aload_n C (d_of DL_7 38 rfl) rfl ?_
  refine s_iload_n C (d_of DL_7 39 rfl) rfl ?_
  refine s_iconst C (d_of DL_7 40 rfl) (by decide) ?_
  refine s_iadd C (d_of DL_7 41 rfl) ⟨by omega, by omega⟩ ?_
  refine s_tald (e := 4) C (by decide) hT (xs_r xs) (by omega) (by omega) (d_of DL_7 42 rfl) ?_
  refine WA.fix (fun hF1 => ?_)
  obtain ⟨Q2, hKQ2, h⟩ := h
  refine s_callV (ci := 9) (av := [(0, ((xs ((l3 + 1)).toNat).toInt)), (0, ((xs ((l3 + 2)).toNat).toInt)), (0, ((xs ((l3 + 3)).toNat).toInt)), (0, ((xs ((l3 + 4)).toNat).toInt))]) (rest := []) (mc := 0) (ms := 0) C (d_of DL_7 43 rfl) lk_L_108 (sh_1 hF1) (by decide) rfl rfl rfl (Nat.le_of_ble_eq_true rfl) (by decide) (by decide) hKQ2 (fun z2 w2 M2 hq => ?_)
  have h := h z2 w2 M2 hq
  refine s_aload_n C (d_of DL_7 44 rfl) rfl ?_
  refine s_aload_n C (d_of DL_7 45 rfl) rfl ?_
  refine s_iload_n C (d_of DL_7 46 rfl) rfl ?_
  refine s_iconst C (d_of DL_7 47 rfl) (by decide) ?_
  refine s_iadd C (d_of DL_7 48 rfl) ⟨by omega, by omega⟩ ?_
  refine s_tald (e := 4) C (by decide) hT (xs_r xs) (by omega) (by omega) (d_of DL_7 49 rfl) ?_
  refine s_aload_n C (d_of DL_7 50 rfl) rfl ?_
  refine s_iload_n C (d_of DL_7 51 rfl) rfl ?_
  refine s_iconst C (d_of DL_7 52 rfl) (by decide) ?_
  refine s_iadd C (d_of DL_7 53 rfl) ⟨by omega, by omega⟩ ?_
  refine s_tald (e := 4) C (by decide) hT (xs_r xs) (by omega) (by omega) (d_of DL_7 54 rfl) ?_
  refine s_aload_n C (d_of DL_7 55 rfl) rfl ?_
  refine s_iload_n C (d_of DL_7 56 rfl) rfl ?_
  refine s_iconst C (d_of DL_7 57 rfl) (by decide) ?_
  refine s_iadd C (d_of DL_7 58 rfl) ⟨by omega, by omega⟩ ?_
  refine s_tald (e := 4) C (by decide) hT (xs_r xs) (by omega) (by omega) (d_of DL_7 59 rfl) ?_
  refine s_aload_n C (d_of DL_7 60 rfl) rfl ?_
  refine s_iload_n C (d_of DL_7 61 rfl) rfl ?_
  refine s_iconst C (d_of DL_7 62 rfl) (by decide) ?_
  refine s_iadd C (d_of DL_7 63 rfl) ⟨by omega, by omega⟩ ?_
  refine s_tald (e := 4) C (by decide) hT (xs_r xs) (by omega) (by omega) (d_of DL_7 64 rfl) ?_
  refine WA.fix (fun hF3 => ?_)
  obtain ⟨Q4, hKQ4, h⟩ := h
  refine s_callV (ci := 10) (av := [(0, ((xs ((l3 + 1)).toNat).toInt)), (0, ((xs ((l3 + 2)).toNat).toInt)), (0, ((xs ((l3 + 3)).toNat).toInt)), (0, ((xs ((l3 + 4)).toNat).toInt))]) (rest := [(0, z2)]) (mc := 0) (ms := 0) C (d_of DL_7 65 rfl) lk_L_112 (sh_41 hF3) (by decide) rfl rfl rfl (Nat.le_of_ble_eq_true rfl) (by decide) (by decide) hKQ4 (fun z4 w4 M4 hq => ?_)
  have h := h z4 w4 M4 hq
  refine s_icmpeq C (d_of DL_7 66 rfl) rfl (fun hc => ?_) (fun hc => ?_)
  · have h := h.1 hc
    exact h
  · have h := h.2 hc
    refine s_iconst C (d_of DL_7 67 rfl) (by decide) ?_
    exact h.elim
set_option maxHeartbeats 4000000 in
set_option maxRecDepth 100000 in
theorem B_L_1079 {G : GP} {X : BX} {Q : State → Prop} {nm : String} {L : Nat} {xs : Nat → Int32} {l3 : Int} {rc rs : Nat} {w : NS} {M : MM} (C : CL G X nm) (hT : SCR G X L xs) (hL : L ≤ 3584) (h0 : 0 ≤ l3) (h7 : l3 + 7 ≤ L) (h : ∃ Q2 : Int → NS → MM → Prop, CT_X9_reader G X.2.1 [(2, 1), (0, ((xs ((l3 + 1)).toNat).toInt)), (0, ((xs ((l3 + 2)).toNat).toInt)), (0, ((xs ((l3 + 3)).toNat).toInt))] w M Q2 ∧ ∀ (z2 : Int) (w2 : NS) (M2 : MM), Q2 z2 w2 M2 → ∃ Q4 : Int → NS → MM → Prop, CT_X10_reader G X.2.1 [(2, 41), (0, ((xs ((l3 + 1)).toNat).toInt)), (0, ((xs ((l3 + 2)).toNat).toInt)), (0, ((xs ((l3 + 3)).toNat).toInt))] w2 M2 Q4 ∧ ∀ (z4 : Int) (w4 : NS) (M4 : MM), Q4 z4 w4 M4 → (((z2 = z4) → A_L_1396 G X Q l3 (rc + 0) (rs + 0) w4 M4) ∧ ((¬ (z2 = z4)) → False))) : A_L_1079 G X Q l3 (rc + 0) (rs + 0) w M := by
  unfold A_L_1079
  unfold SCR at hT
  refine s_aload_n C (d_of DL_7 69 rfl) rfl ?_
  refine s_aload_n C (d_of DL_7 70 rfl) rfl ?_
  refine s_iload_n C (d_of DL_7 71 rfl) rfl ?_
  refine s_iconst C (d_of DL_7 72 rfl) (by decide) ?_
  refine s_iadd C (d_of DL_7 73 rfl) ⟨by omega, by omega⟩ ?_
  refine s_tald (e := 4) C (by decide) hT (xs_r xs) (by omega) (by omega) (d_of DL_7 74 rfl) ?_
  refine s_aload_n C (d_of DL_7 75 rfl) rfl ?_
  refine s_iload_n C (d_of DL_7 76 rfl) rfl ?_
  refine s_iconst C (d_of DL_7 77 rfl) (by decide) ?_
  refine s_iadd C (d_of DL_7 78 rfl) ⟨by omega, by omega⟩ ?_
  refine s_tald (e := 4) C (by decide) hT (xs_r xs) (by omega) (by omega) (d_of DL_7 79 rfl) ?_
  refine s_aload_n C (d_of DL_7 80 rfl) rfl ?_
  refine s_iload_n C (d_of DL_7 81 rfl) rfl ?_
  refine s_iconst C (d_of DL_7 82 rfl) (by decide) ?_
  refine s_iadd C (d_of DL_7 83 rfl) ⟨by omega, by omega⟩ ?_
  refine s_tald (e := 4) C (by decide) hT (xs_r xs) (by omega) (by omega) (d_of DL_7 84 rfl) ?_
  refine WA.fix (fun hF1 => ?_)
  obtain ⟨Q2, hKQ2, h⟩ := h
  refine s_callV (ci := 9) (av := [(0, ((xs ((l3 + 1)).toNat).toInt)), (0, ((xs ((l3 + 2)).toNat).toInt)), (0, ((xs ((l3 + 3)).toNat).toInt))]) (rest := []) (mc := 0) (ms := 0) C (d_of DL_7 85 rfl) lk_L_113 (sh_1 hF1) (by decide) rfl rfl rfl (Nat.le_of_ble_eq_true rfl) (by decide) (by decide) hKQ2 (fun z2 w2 M2 hq => ?_)
  have h := h z2 w2 M2 hq
  refine s_aload_n C (d_of DL_7 86 rfl) rfl ?_
  refine s_aload_n C (d_of DL_7 87 rfl) rfl ?_
  refine s_iload_n C (d_of DL_7 88 rfl) rfl ?_
  refine s_iconst C (d_of DL_7 89 rfl) (by decide) ?_
  refine s_iadd C (d_of DL_7 90 rfl) ⟨by omega, by omega⟩ ?_
  refine s_tald (e := 4) C (by decide) hT (xs_r xs) (by omega) (by omega) (d_of DL_7 91 rfl) ?_
  refine s_aload_n C (d_of DL_7 92 rfl) rfl ?_
  refine s_iload_n C (d_of DL_7 93 rfl) rfl ?_
  refine s_iconst C (d_of DL_7 94 rfl) (by decide) ?_
  refine s_iadd C (d_of DL_7 95 rfl) ⟨by omega, by omega⟩ ?_
  refine s_tald (e := 4) C (by decide) hT (xs_r xs) (by omega) (by omega) (d_of DL_7 96 rfl) ?_
  refine s_aload_n C (d_of DL_7 97 rfl) rfl ?_
  refine s_iload_n C (d_of DL_7 98 rfl) rfl ?_
  refine s_iconst C (d_of DL_7 99 rfl) (by decide) ?_
  refine s_iadd C (d_of DL_8 0 rfl) ⟨by omega, by omega⟩ ?_
  refine s_tald (e := 4) C (by decide) hT (xs_r xs) (by omega) (by omega) (d_of DL_8 1 rfl) ?_
  refine WA.fix (fun hF3 => ?_)
  obtain ⟨Q4, hKQ4, h⟩ := h
  refine s_callV (ci := 10) (av := [(0, ((xs ((l3 + 1)).toNat).toInt)), (0, ((xs ((l3 + 2)).toNat).toInt)), (0, ((xs ((l3 + 3)).toNat).toInt))]) (rest := [(0, z2)]) (mc := 0) (ms := 0) C (d_of DL_8 2 rfl) lk_L_116 (sh_41 hF3) (by decide) rfl rfl rfl (Nat.le_of_ble_eq_true rfl) (by decide) (by decide) hKQ4 (fun z4 w4 M4 hq => ?_)
  have h := h z4 w4 M4 hq
  refine s_icmpeq C (d_of DL_8 3 rfl) rfl (fun hc => ?_) (fun hc => ?_)
  · have h := h.1 hc
    exact h
  · have h := h.2 hc
    refine s_iconst C (d_of DL_8 4 rfl) (by decide) ?_
    exact h.elim
set_option maxHeartbeats 4000000 in
set_option maxRecDepth 100000 in
theorem B_L_1122 {G : GP} {X : BX} {Q : State → Prop} {nm : String} {L : Nat} {xs : Nat → Int32} {l3 : Int} {rc rs : Nat} {w : NS} {M : MM} (C : CL G X nm) (hT : SCR G X L xs) (hL : L ≤ 3584) (h0 : 0 ≤ l3) (h7 : l3 + 7 ≤ L) (h : ∃ Q2 : Int → NS → MM → Prop, CT_X9_slips G X.2.1 [(2, 1), (0, ((xs ((l3 + 1)).toNat).toInt)), (0, ((xs ((l3 + 2)).toNat).toInt)), (0, ((xs ((l3 + 3)).toNat).toInt))] w M Q2 ∧ ∀ (z2 : Int) (w2 : NS) (M2 : MM), Q2 z2 w2 M2 → ∃ Q4 : Int → NS → MM → Prop, CT_X10_slips G X.2.1 [(2, 41), (0, ((xs ((l3 + 1)).toNat).toInt)), (0, ((xs ((l3 + 2)).toNat).toInt)), (0, ((xs ((l3 + 3)).toNat).toInt))] w2 M2 Q4 ∧ ∀ (z4 : Int) (w4 : NS) (M4 : MM), Q4 z4 w4 M4 → (((z2 = z4) → A_L_1396 G X Q l3 (rc + 0) (rs + 0) w4 M4) ∧ ((¬ (z2 = z4)) → False))) : A_L_1122 G X Q l3 (rc + 0) (rs + 0) w M := by
  unfold A_L_1122
  unfold SCR at hT
  refine s_aload_n C (d_of DL_8 6 rfl) rfl ?_
  refine s_aload_n C (d_of DL_8 7 rfl) rfl ?_
  refine s_iload_n C (d_of DL_8 8 rfl) rfl ?_
  refine s_iconst C (d_of DL_8 9 rfl) (by decide) ?_
  refine s_iadd C (d_of DL_8 10 rfl) ⟨by omega, by omega⟩ ?_
  refine s_tald (e := 4) C (by decide) hT (xs_r xs) (by omega) (by omega) (d_of DL_8 11 rfl) ?_
  refine s_aload_n C (d_of DL_8 12 rfl) rfl ?_
  refine s_iload_n C (d_of DL_8 13 rfl) rfl ?_
  refine s_iconst C (d_of DL_8 14 rfl) (by decide) ?_
  refine s_iadd C (d_of DL_8 15 rfl) ⟨by omega, by omega⟩ ?_
  refine s_tald (e := 4) C (by decide) hT (xs_r xs) (by omega) (by omega) (d_of DL_8 16 rfl) ?_
  refine s_aload_n C (d_of DL_8 17 rfl) rfl ?_
  refine s_iload_n C (d_of DL_8 18 rfl) rfl ?_
  refine s_iconst C (d_of DL_8 19 rfl) (by decide) ?_
  refine s_iadd C (d_of DL_8 20 rfl) ⟨by omega, by omega⟩ ?_
  refine s_tald (e := 4) C (by decide) hT (xs_r xs) (by omega) (by omega) (d_of DL_8 21 rfl) ?_
  refine WA.fix (fun hF1 => ?_)
  obtain ⟨Q2, hKQ2, h⟩ := h
  refine s_callV (ci := 9) (av := [(0, ((xs ((l3 + 1)).toNat).toInt)), (0, ((xs ((l3 + 2)).toNat).toInt)), (0, ((xs ((l3 + 3)).toNat).toInt))]) (rest := []) (mc := 0) (ms := 0) C (d_of DL_8 22 rfl) lk_L_117 (sh_1 hF1) (by decide) rfl rfl rfl (Nat.le_of_ble_eq_true rfl) (by decide) (by decide) hKQ2 (fun z2 w2 M2 hq => ?_)
  have h := h z2 w2 M2 hq
  refine s_aload_n C (d_of DL_8 23 rfl) rfl ?_
  refine s_aload_n C (d_of DL_8 24 rfl) rfl ?_
  refine s_iload_n C (d_of DL_8 25 rfl) rfl ?_
  refine s_iconst C (d_of DL_8 26 rfl) (by decide) ?_
  refine s_iadd C (d_of DL_8 27 rfl) ⟨by omega, by omega⟩ ?_
  refine s_tald (e := 4) C (by decide) hT (xs_r xs) (by omega) (by omega) (d_of DL_8 28 rfl) ?_
  refine s_aload_n C (d_of DL_8 29 rfl) rfl ?_
  refine s_iload_n C (d_of DL_8 30 rfl) rfl ?_
  refine s_iconst C (d_of DL_8 31 rfl) (by decide) ?_
  refine s_iadd C (d_of DL_8 32 rfl) ⟨by omega, by omega⟩ ?_
  refine s_tald (e := 4) C (by decide) hT (xs_r xs) (by omega) (by omega) (d_of DL_8 33 rfl) ?_
  refine s_aload_n C (d_of DL_8 34 rfl) rfl ?_
  refine s_iload_n C (d_of DL_8 35 rfl) rfl ?_
  refine s_iconst C (d_of DL_8 36 rfl) (by decide) ?_
  refine s_iadd C (d_of DL_8 37 rfl) ⟨by omega, by omega⟩ ?_
  refine s_tald (e := 4) C (by decide) hT (xs_r xs) (by omega) (by omega) (d_of DL_8 38 rfl) ?_
  refine WA.fix (fun hF3 => ?_)
  obtain ⟨Q4, hKQ4, h⟩ := h
  refine s_callV (ci := 10) (av := [(0, ((xs ((l3 + 1)).toNat).toInt)), (0, ((xs ((l3 + 2)).toNat).toInt)), (0, ((xs ((l3 + 3)).toNat).toInt))]) (rest := [(0, z2)]) (mc := 0) (ms := 0) C (d_of DL_8 39 rfl) lk_L_120 (sh_41 hF3) (by decide) rfl rfl rfl (Nat.le_of_ble_eq_true rfl) (by decide) (by decide) hKQ4 (fun z4 w4 M4 hq => ?_)
  have h := h z4 w4 M4 hq
  refine s_icmpeq C (d_of DL_8 40 rfl) rfl (fun hc => ?_) (fun hc => ?_)
  · have h := h.1 hc
    exact h
  · have h := h.2 hc
    refine s_iconst C (d_of DL_8 41 rfl) (by decide) ?_
    exact h.elim
set_option maxHeartbeats 4000000 in
set_option maxRecDepth 100000 in
theorem B_L_1165 {G : GP} {X : BX} {Q : State → Prop} {nm : String} {L : Nat} {xs : Nat → Int32} {l3 : Int} {rc rs : Nat} {w : NS} {M : MM} (C : CL G X nm) (hT : SCR G X L xs) (hL : L ≤ 3584) (h0 : 0 ≤ l3) (h7 : l3 + 7 ≤ L) (h : ∃ Q2 : Int → NS → MM → Prop, CT_X9_parted G X.2.1 [(2, 1), (0, ((xs ((l3 + 1)).toNat).toInt)), (0, ((xs ((l3 + 2)).toNat).toInt))] w M Q2 ∧ ∀ (z2 : Int) (w2 : NS) (M2 : MM), Q2 z2 w2 M2 → ∃ Q4 : Int → NS → MM → Prop, CT_X10_parted G X.2.1 [(2, 41), (0, ((xs ((l3 + 1)).toNat).toInt)), (0, ((xs ((l3 + 2)).toNat).toInt))] w2 M2 Q4 ∧ ∀ (z4 : Int) (w4 : NS) (M4 : MM), Q4 z4 w4 M4 → (((z2 = z4) → A_L_1396 G X Q l3 (rc + 0) (rs + 0) w4 M4) ∧ ((¬ (z2 = z4)) → False))) : A_L_1165 G X Q l3 (rc + 0) (rs + 0) w M := by
  unfold A_L_1165
  unfold SCR at hT
  refine s_aload_n C (d_of DL_8 43 rfl) rfl ?_
  refine s_aload_n C (d_of DL_8 44 rfl) rfl ?_
  refine s_iload_n C (d_of DL_8 45 rfl) rfl ?_
  refine s_iconst C (d_of DL_8 46 rfl) (by decide) ?_
  refine s_iadd C (d_of DL_8 47 rfl) ⟨by omega, by omega⟩ ?_
  refine s_tald (e := 4) C (by decide) hT (xs_r xs) (by omega) (by omega) (d_of DL_8 48 rfl) ?_
  refine s_aload_n C (d_of DL_8 49 rfl) rfl ?_
  refine s_iload_n C (d_of DL_8 50 rfl) rfl ?_
  refine s_iconst C (d_of DL_8 51 rfl) (by decide) ?_
  refine s_iadd C (d_of DL_8 52 rfl) ⟨by omega, by omega⟩ ?_
  refine s_tald (e := 4) C (by decide) hT (xs_r xs) (by omega) (by omega) (d_of DL_8 53 rfl) ?_
  refine WA.fix (fun hF1 => ?_)
  obtain ⟨Q2, hKQ2, h⟩ := h
  refine s_callV (ci := 9) (av := [(0, ((xs ((l3 + 1)).toNat).toInt)), (0, ((xs ((l3 + 2)).toNat).toInt))]) (rest := []) (mc := 0) (ms := 0) C (d_of DL_8 54 rfl) lk_L_121 (sh_1 hF1) (by decide) rfl rfl rfl (Nat.le_of_ble_eq_true rfl) (by decide) (by decide) hKQ2 (fun z2 w2 M2 hq => ?_)
  have h := h z2 w2 M2 hq
  refine s_aload_n C (d_of DL_8 55 rfl) rfl ?_
  refine s_aload_n C (d_of DL_8 56 rfl) rfl ?_
  refine s_iload_n C (d_of DL_8 57 rfl) rfl ?_
  refine s_iconst C (d_of DL_8 58 rfl) (by decide) ?_
  refine s_iadd C (d_of DL_8 59 rfl) ⟨by omega, by omega⟩ ?_
  refine s_tald (e := 4) C (by decide) hT (xs_r xs) (by omega) (by omega) (d_of DL_8 60 rfl) ?_
  refine s_aload_n C (d_of DL_8 61 rfl) rfl ?_
  refine s_iload_n C (d_of DL_8 62 rfl) rfl ?_
  refine s_iconst C (d_of DL_8 63 rfl) (by decide) ?_
  refine s_iadd C (d_of DL_8 64 rfl) ⟨by omega, by omega⟩ ?_
  refine s_tald (e := 4) C (by decide) hT (xs_r xs) (by omega) (by omega) (d_of DL_8 65 rfl) ?_
  refine WA.fix (fun hF3 => ?_)
  obtain ⟨Q4, hKQ4, h⟩ := h
  refine s_callV (ci := 10) (av := [(0, ((xs ((l3 + 1)).toNat).toInt)), (0, ((xs ((l3 + 2)).toNat).toInt))]) (rest := [(0, z2)]) (mc := 0) (ms := 0) C (d_of DL_8 66 rfl) lk_L_124 (sh_41 hF3) (by decide) rfl rfl rfl (Nat.le_of_ble_eq_true rfl) (by decide) (by decide) hKQ4 (fun z4 w4 M4 hq => ?_)
  have h := h z4 w4 M4 hq
  refine s_icmpeq C (d_of DL_8 67 rfl) rfl (fun hc => ?_) (fun hc => ?_)
  · have h := h.1 hc
    exact h
  · have h := h.2 hc
    refine s_iconst C (d_of DL_8 68 rfl) (by decide) ?_
    exact h.elim
set_option maxHeartbeats 4000000 in
set_option maxRecDepth 100000 in
theorem B_L_1198 {G : GP} {X : BX} {Q : State → Prop} {nm : String} {L : Nat} {xs : Nat → Int32} {l3 : Int} {rc rs : Nat} {w : NS} {M : MM} (C : CL G X nm) (hT : SCR G X L xs) (hL : L ≤ 3584) (h0 : 0 ≤ l3) (h7 : l3 + 7 ≤ L) (h : ∃ Q2 : Int → NS → MM → Prop, CT_X9_send G X.2.1 [(2, 1), (0, ((xs ((l3 + 1)).toNat).toInt)), (0, ((xs ((l3 + 2)).toNat).toInt))] w M Q2 ∧ ∀ (z2 : Int) (w2 : NS) (M2 : MM), Q2 z2 w2 M2 → ∃ Q4 : Int → NS → MM → Prop, CT_X10_send G X.2.1 [(2, 41), (0, ((xs ((l3 + 1)).toNat).toInt)), (0, ((xs ((l3 + 2)).toNat).toInt))] w2 M2 Q4 ∧ ∀ (z4 : Int) (w4 : NS) (M4 : MM), Q4 z4 w4 M4 → (((z2 = z4) → A_L_1396 G X Q l3 (rc + 0) (rs + 0) w4 M4) ∧ ((¬ (z2 = z4)) → False))) : A_L_1198 G X Q l3 (rc + 0) (rs + 0) w M := by
  unfold A_L_1198
  unfold SCR at hT
  refine s_aload_n C (d_of DL_8 70 rfl) rfl ?_
  refine s_aload_n C (d_of DL_8 71 rfl) rfl ?_
  refine s_iload_n C (d_of DL_8 72 rfl) rfl ?_
  refine s_iconst C (d_of DL_8 73 rfl) (by decide) ?_
  refine s_iadd C (d_of DL_8 74 rfl) ⟨by omega, by omega⟩ ?_
  refine s_tald (e := 4) C (by decide) hT (xs_r xs) (by omega) (by omega) (d_of DL_8 75 rfl) ?_
  refine s_aload_n C (d_of DL_8 76 rfl) rfl ?_
  refine s_iload_n C (d_of DL_8 77 rfl) rfl ?_
  refine s_iconst C (d_of DL_8 78 rfl) (by decide) ?_
  refine s_iadd C (d_of DL_8 79 rfl) ⟨by omega, by omega⟩ ?_
  refine s_tald (e := 4) C (by decide) hT (xs_r xs) (by omega) (by omega) (d_of DL_8 80 rfl) ?_
  refine WA.fix (fun hF1 => ?_)
  obtain ⟨Q2, hKQ2, h⟩ := h
  refine s_callV (ci := 9) (av := [(0, ((xs ((l3 + 1)).toNat).toInt)), (0, ((xs ((l3 + 2)).toNat).toInt))]) (rest := []) (mc := 0) (ms := 0) C (d_of DL_8 81 rfl) lk_L_125 (sh_1 hF1) (by decide) rfl rfl rfl (Nat.le_of_ble_eq_true rfl) (by decide) (by decide) hKQ2 (fun z2 w2 M2 hq => ?_)
  have h := h z2 w2 M2 hq
  refine s_aload_n C (d_of DL_8 82 rfl) rfl ?_
  refine s_aload_n C (d_of DL_8 83 rfl) rfl ?_
  refine s_iload_n C (d_of DL_8 84 rfl) rfl ?_
  refine s_iconst C (d_of DL_8 85 rfl) (by decide) ?_
  refine s_iadd C (d_of DL_8 86 rfl) ⟨by omega, by omega⟩ ?_
  refine s_tald (e := 4) C (by decide) hT (xs_r xs) (by omega) (by omega) (d_of DL_8 87 rfl) ?_
  refine s_aload_n C (d_of DL_8 88 rfl) rfl ?_
  refine s_iload_n C (d_of DL_8 89 rfl) rfl ?_
  refine s_iconst C (d_of DL_8 90 rfl) (by decide) ?_
  refine s_iadd C (d_of DL_8 91 rfl) ⟨by omega, by omega⟩ ?_
  refine s_tald (e := 4) C (by decide) hT (xs_r xs) (by omega) (by omega) (d_of DL_8 92 rfl) ?_
  refine WA.fix (fun hF3 => ?_)
  obtain ⟨Q4, hKQ4, h⟩ := h
  refine s_callV (ci := 10) (av := [(0, ((xs ((l3 + 1)).toNat).toInt)), (0, ((xs ((l3 + 2)).toNat).toInt))]) (rest := [(0, z2)]) (mc := 0) (ms := 0) C (d_of DL_8 93 rfl) lk_L_128 (sh_41 hF3) (by decide) rfl rfl rfl (Nat.le_of_ble_eq_true rfl) (by decide) (by decide) hKQ4 (fun z4 w4 M4 hq => ?_)
  have h := h z4 w4 M4 hq
  refine s_icmpeq C (d_of DL_8 94 rfl) rfl (fun hc => ?_) (fun hc => ?_)
  · have h := h.1 hc
    exact h
  · have h := h.2 hc
    refine s_iconst C (d_of DL_8 95 rfl) (by decide) ?_
    exact h.elim
set_option maxHeartbeats 4000000 in
set_option maxRecDepth 100000 in
theorem B_L_1231 {G : GP} {X : BX} {Q : State → Prop} {nm : String} {L : Nat} {xs : Nat → Int32} {l3 : Int} {rc rs : Nat} {w : NS} {M : MM} (C : CL G X nm) (hT : SCR G X L xs) (hL : L ≤ 3584) (h0 : 0 ≤ l3) (h7 : l3 + 7 ≤ L) (h : ∃ Q2 : Int → NS → MM → Prop, CT_X9_miss G X.2.1 [(2, 1), (0, ((xs ((l3 + 1)).toNat).toInt))] w M Q2 ∧ ∀ (z2 : Int) (w2 : NS) (M2 : MM), Q2 z2 w2 M2 → ∃ Q4 : Int → NS → MM → Prop, CT_X10_miss G X.2.1 [(2, 41), (0, ((xs ((l3 + 1)).toNat).toInt))] w2 M2 Q4 ∧ ∀ (z4 : Int) (w4 : NS) (M4 : MM), Q4 z4 w4 M4 → (((z2 = z4) → A_L_1396 G X Q l3 (rc + 0) (rs + 0) w4 M4) ∧ ((¬ (z2 = z4)) → False))) : A_L_1231 G X Q l3 (rc + 0) (rs + 0) w M := by
  unfold A_L_1231
  unfold SCR at hT
  refine s_aload_n C (d_of DL_8 97 rfl) rfl ?_
  refine s_aload_n C (d_of DL_8 98 rfl) rfl ?_
  refine s_iload_n C (d_of DL_8 99 rfl) rfl ?_
  refine s_iconst C (d_of DL_9 0 rfl) (by decide) ?_
  refine s_iadd C (d_of DL_9 1 rfl) ⟨by omega, by omega⟩ ?_
  refine s_tald (e := 4) C (by decide) hT (xs_r xs) (by omega) (by omega) (d_of DL_9 2 rfl) ?_
  refine WA.fix (fun hF1 => ?_)
  obtain ⟨Q2, hKQ2, h⟩ := h
  refine s_callV (ci := 9) (av := [(0, ((xs ((l3 + 1)).toNat).toInt))]) (rest := []) (mc := 0) (ms := 0) C (d_of DL_9 3 rfl) lk_L_129 (sh_1 hF1) (by decide) rfl rfl rfl (Nat.le_of_ble_eq_true rfl) (by decide) (by decide) hKQ2 (fun z2 w2 M2 hq => ?_)
  have h := h z2 w2 M2 hq
  refine s_aload_n C (d_of DL_9 4 rfl) rfl ?_
  refine s_aload_n C (d_of DL_9 5 rfl) rfl ?_
  refine s_iload_n C (d_of DL_9 6 rfl) rfl ?_
  refine s_iconst C (d_of DL_9 7 rfl) (by decide) ?_
  refine s_iadd C (d_of DL_9 8 rfl) ⟨by omega, by omega⟩ ?_
  refine s_tald (e := 4) C (by decide) hT (xs_r xs) (by omega) (by omega) (d_of DL_9 9 rfl) ?_
  refine WA.fix (fun hF3 => ?_)
  obtain ⟨Q4, hKQ4, h⟩ := h
  refine s_callV (ci := 10) (av := [(0, ((xs ((l3 + 1)).toNat).toInt))]) (rest := [(0, z2)]) (mc := 0) (ms := 0) C (d_of DL_9 10 rfl) lk_L_132 (sh_41 hF3) (by decide) rfl rfl rfl (Nat.le_of_ble_eq_true rfl) (by decide) (by decide) hKQ4 (fun z4 w4 M4 hq => ?_)
  have h := h z4 w4 M4 hq
  refine s_icmpeq C (d_of DL_9 11 rfl) rfl (fun hc => ?_) (fun hc => ?_)
  · have h := h.1 hc
    exact h
  · have h := h.2 hc
    refine s_iconst C (d_of DL_9 12 rfl) (by decide) ?_
    exact h.elim
set_option maxHeartbeats 4000000 in
set_option maxRecDepth 100000 in
theorem B_L_1254 {G : GP} {X : BX} {Q : State → Prop} {nm : String} {L : Nat} {xs : Nat → Int32} {l3 : Int} {rc rs : Nat} {w : NS} {M : MM} (C : CL G X nm) (hT : SCR G X L xs) (hL : L ≤ 3584) (h0 : 0 ≤ l3) (h7 : l3 + 7 ≤ L) (h : ∃ Q2 : Int → NS → MM → Prop, CT_X9_bill G X.2.1 [(2, 1), (0, ((xs ((l3 + 1)).toNat).toInt)), (0, ((xs ((l3 + 2)).toNat).toInt))] w M Q2 ∧ ∀ (z2 : Int) (w2 : NS) (M2 : MM), Q2 z2 w2 M2 → ∃ Q4 : Int → NS → MM → Prop, CT_X10_bill G X.2.1 [(2, 41), (0, ((xs ((l3 + 1)).toNat).toInt)), (0, ((xs ((l3 + 2)).toNat).toInt))] w2 M2 Q4 ∧ ∀ (z4 : Int) (w4 : NS) (M4 : MM), Q4 z4 w4 M4 → (((z2 = z4) → A_L_1396 G X Q l3 (rc + 0) (rs + 0) w4 M4) ∧ ((¬ (z2 = z4)) → False))) : A_L_1254 G X Q l3 (rc + 0) (rs + 0) w M := by
  unfold A_L_1254
  unfold SCR at hT
  refine s_aload_n C (d_of DL_9 14 rfl) rfl ?_
  refine s_aload_n C (d_of DL_9 15 rfl) rfl ?_
  refine s_iload_n C (d_of DL_9 16 rfl) rfl ?_
  refine s_iconst C (d_of DL_9 17 rfl) (by decide) ?_
  refine s_iadd C (d_of DL_9 18 rfl) ⟨by omega, by omega⟩ ?_
  refine s_tald (e := 4) C (by decide) hT (xs_r xs) (by omega) (by omega) (d_of DL_9 19 rfl) ?_
  refine s_aload_n C (d_of DL_9 20 rfl) rfl ?_
  refine s_iload_n C (d_of DL_9 21 rfl) rfl ?_
  refine s_iconst C (d_of DL_9 22 rfl) (by decide) ?_
  refine s_iadd C (d_of DL_9 23 rfl) ⟨by omega, by omega⟩ ?_
  refine s_tald (e := 4) C (by decide) hT (xs_r xs) (by omega) (by omega) (d_of DL_9 24 rfl) ?_
  refine WA.fix (fun hF1 => ?_)
  obtain ⟨Q2, hKQ2, h⟩ := h
  refine s_callV (ci := 9) (av := [(0, ((xs ((l3 + 1)).toNat).toInt)), (0, ((xs ((l3 + 2)).toNat).toInt))]) (rest := []) (mc := 0) (ms := 0) C (d_of DL_9 25 rfl) lk_L_133 (sh_1 hF1) (by decide) rfl rfl rfl (Nat.le_of_ble_eq_true rfl) (by decide) (by decide) hKQ2 (fun z2 w2 M2 hq => ?_)
  have h := h z2 w2 M2 hq
  refine s_aload_n C (d_of DL_9 26 rfl) rfl ?_
  refine s_aload_n C (d_of DL_9 27 rfl) rfl ?_
  refine s_iload_n C (d_of DL_9 28 rfl) rfl ?_
  refine s_iconst C (d_of DL_9 29 rfl) (by decide) ?_
  refine s_iadd C (d_of DL_9 30 rfl) ⟨by omega, by omega⟩ ?_
  refine s_tald (e := 4) C (by decide) hT (xs_r xs) (by omega) (by omega) (d_of DL_9 31 rfl) ?_
  refine s_aload_n C (d_of DL_9 32 rfl) rfl ?_
  refine s_iload_n C (d_of DL_9 33 rfl) rfl ?_
  refine s_iconst C (d_of DL_9 34 rfl) (by decide) ?_
  refine s_iadd C (d_of DL_9 35 rfl) ⟨by omega, by omega⟩ ?_
  refine s_tald (e := 4) C (by decide) hT (xs_r xs) (by omega) (by omega) (d_of DL_9 36 rfl) ?_
  refine WA.fix (fun hF3 => ?_)
  obtain ⟨Q4, hKQ4, h⟩ := h
  refine s_callV (ci := 10) (av := [(0, ((xs ((l3 + 1)).toNat).toInt)), (0, ((xs ((l3 + 2)).toNat).toInt))]) (rest := [(0, z2)]) (mc := 0) (ms := 0) C (d_of DL_9 37 rfl) lk_L_136 (sh_41 hF3) (by decide) rfl rfl rfl (Nat.le_of_ble_eq_true rfl) (by decide) (by decide) hKQ4 (fun z4 w4 M4 hq => ?_)
  have h := h z4 w4 M4 hq
  refine s_icmpeq C (d_of DL_9 38 rfl) rfl (fun hc => ?_) (fun hc => ?_)
  · have h := h.1 hc
    exact h
  · have h := h.2 hc
    refine s_iconst C (d_of DL_9 39 rfl) (by decide) ?_
    exact h.elim
set_option maxHeartbeats 4000000 in
set_option maxRecDepth 100000 in
theorem B_L_1287 {G : GP} {X : BX} {Q : State → Prop} {nm : String} {L : Nat} {xs : Nat → Int32} {l3 : Int} {rc rs : Nat} {w : NS} {M : MM} (C : CL G X nm) (hT : SCR G X L xs) (hL : L ≤ 3584) (h0 : 0 ≤ l3) (h7 : l3 + 7 ≤ L) (h : ∃ Q2 : Int → NS → MM → Prop, CT_X9_file G X.2.1 [(2, 1), (0, ((xs ((l3 + 1)).toNat).toInt)), (0, ((xs ((l3 + 2)).toNat).toInt))] w M Q2 ∧ ∀ (z2 : Int) (w2 : NS) (M2 : MM), Q2 z2 w2 M2 → ∃ Q4 : Int → NS → MM → Prop, CT_X10_file G X.2.1 [(2, 41), (0, ((xs ((l3 + 1)).toNat).toInt)), (0, ((xs ((l3 + 2)).toNat).toInt))] w2 M2 Q4 ∧ ∀ (z4 : Int) (w4 : NS) (M4 : MM), Q4 z4 w4 M4 → (((z2 = z4) → A_L_1396 G X Q l3 (rc + 0) (rs + 0) w4 M4) ∧ ((¬ (z2 = z4)) → False))) : A_L_1287 G X Q l3 (rc + 0) (rs + 0) w M := by
  unfold A_L_1287
  unfold SCR at hT
  refine s_aload_n C (d_of DL_9 41 rfl) rfl ?_
  refine s_aload_n C (d_of DL_9 42 rfl) rfl ?_
  refine s_iload_n C (d_of DL_9 43 rfl) rfl ?_
  refine s_iconst C (d_of DL_9 44 rfl) (by decide) ?_
  refine s_iadd C (d_of DL_9 45 rfl) ⟨by omega, by omega⟩ ?_
  refine s_tald (e := 4) C (by decide) hT (xs_r xs) (by omega) (by omega) (d_of DL_9 46 rfl) ?_
  refine s_aload_n C (d_of DL_9 47 rfl) rfl ?_
  refine s_iload_n C (d_of DL_9 48 rfl) rfl ?_
  refine s_iconst C (d_of DL_9 49 rfl) (by decide) ?_
  refine s_iadd C (d_of DL_9 50 rfl) ⟨by omega, by omega⟩ ?_
  refine s_tald (e := 4) C (by decide) hT (xs_r xs) (by omega) (by omega) (d_of DL_9 51 rfl) ?_
  refine WA.fix (fun hF1 => ?_)
  obtain ⟨Q2, hKQ2, h⟩ := h
  refine s_callV (ci := 9) (av := [(0, ((xs ((l3 + 1)).toNat).toInt)), (0, ((xs ((l3 + 2)).toNat).toInt))]) (rest := []) (mc := 0) (ms := 0) C (d_of DL_9 52 rfl) lk_L_137 (sh_1 hF1) (by decide) rfl rfl rfl (Nat.le_of_ble_eq_true rfl) (by decide) (by decide) hKQ2 (fun z2 w2 M2 hq => ?_)
  have h := h z2 w2 M2 hq
  refine s_aload_n C (d_of DL_9 53 rfl) rfl ?_
  refine s_aload_n C (d_of DL_9 54 rfl) rfl ?_
  refine s_iload_n C (d_of DL_9 55 rfl) rfl ?_
  refine s_iconst C (d_of DL_9 56 rfl) (by decide) ?_
  refine s_iadd C (d_of DL_9 57 rfl) ⟨by omega, by omega⟩ ?_
  refine s_tald (e := 4) C (by decide) hT (xs_r xs) (by omega) (by omega) (d_of DL_9 58 rfl) ?_
  refine s_aload_n C (d_of DL_9 59 rfl) rfl ?_
  refine s_iload_n C (d_of DL_9 60 rfl) rfl ?_
  refine s_iconst C (d_of DL_9 61 rfl) (by decide) ?_
  refine s_iadd C (d_of DL_9 62 rfl) ⟨by omega, by omega⟩ ?_
  refine s_tald (e := 4) C (by decide) hT (xs_r xs) (by omega) (by omega) (d_of DL_9 63 rfl) ?_
  refine WA.fix (fun hF3 => ?_)
  obtain ⟨Q4, hKQ4, h⟩ := h
  refine s_callV (ci := 10) (av := [(0, ((xs ((l3 + 1)).toNat).toInt)), (0, ((xs ((l3 + 2)).toNat).toInt))]) (rest := [(0, z2)]) (mc := 0) (ms := 0) C (d_of DL_9 64 rfl) lk_L_140 (sh_41 hF3) (by decide) rfl rfl rfl (Nat.le_of_ble_eq_true rfl) (by decide) (by decide) hKQ4 (fun z4 w4 M4 hq => ?_)
  have h := h z4 w4 M4 hq
  refine s_icmpeq C (d_of DL_9 65 rfl) rfl (fun hc => ?_) (fun hc => ?_)
  · have h := h.1 hc
    exact h
  · have h := h.2 hc
    refine s_iconst C (d_of DL_9 66 rfl) (by decide) ?_
    exact h.elim
set_option maxHeartbeats 4000000 in
set_option maxRecDepth 100000 in
theorem B_L_1320 {G : GP} {X : BX} {Q : State → Prop} {nm : String} {L : Nat} {xs : Nat → Int32} {l3 : Int} {rc rs : Nat} {w : NS} {M : MM} (C : CL G X nm) (hT : SCR G X L xs) (hL : L ≤ 3584) (h0 : 0 ≤ l3) (h7 : l3 + 7 ≤ L) (h : ∃ Q2 : Int → NS → MM → Prop, CT_X9_old G X.2.1 [(2, 1), (0, ((xs ((l3 + 1)).toNat).toInt)), (0, ((xs ((l3 + 2)).toNat).toInt)), (0, ((xs ((l3 + 3)).toNat).toInt)), (0, ((xs ((l3 + 4)).toNat).toInt))] w M Q2 ∧ ∀ (z2 : Int) (w2 : NS) (M2 : MM), Q2 z2 w2 M2 → ∃ Q4 : Int → NS → MM → Prop, CT_X10_old G X.2.1 [(2, 41), (0, ((xs ((l3 + 1)).toNat).toInt)), (0, ((xs ((l3 + 2)).toNat).toInt)), (0, ((xs ((l3 + 3)).toNat).toInt)), (0, ((xs ((l3 + 4)).toNat).toInt))] w2 M2 Q4 ∧ ∀ (z4 : Int) (w4 : NS) (M4 : MM), Q4 z4 w4 M4 → (((z2 = z4) → A_L_1396 G X Q l3 (rc + 0) (rs + 0) w4 M4) ∧ ((¬ (z2 = z4)) → False))) : A_L_1320 G X Q l3 (rc + 0) (rs + 0) w M := by
  unfold A_L_1320
  unfold SCR at hT
  refine s_aload_n C (d_of DL_9 68 rfl) rfl ?_
  refine s_aload_n C (d_of DL_9 69 rfl) rfl ?_
  refine s_iload_n C (d_of DL_9 70 rfl) rfl ?_
  refine s_iconst C (d_of DL_9 71 rfl) (by decide) ?_
  refine s_iadd C (d_of DL_9 72 rfl) ⟨by omega, by omega⟩ ?_
  refine s_tald (e := 4) C (by decide) hT (xs_r xs) (by omega) (by omega) (d_of DL_9 73 rfl) ?_
  refine s_aload_n C (d_of DL_9 74 rfl) rfl ?_
  refine s_iload_n C (d_of DL_9 75 rfl) rfl ?_
  refine s_iconst C (d_of DL_9 76 rfl) (by decide) ?_
  refine s_iadd C (d_of DL_9 77 rfl) ⟨by omega, by omega⟩ ?_
  refine s_tald (e := 4) C (by decide) hT (xs_r xs) (by omega) (by omega) (d_of DL_9 78 rfl) ?_
  refine s_aload_n C (d_of DL_9 79 rfl) rfl ?_
  refine s_iload_n C (d_of DL_9 80 rfl) rfl ?_
  refine s_iconst C (d_of DL_9 81 rfl) (by decide) ?_
  refine s_iadd C (d_of DL_9 82 rfl) ⟨by omega, by omega⟩ ?_
  refine s_tald (e := 4) C (by decide) hT (xs_r xs) (by omega) (by omega) (d_of DL_9 83 rfl) ?_
  refine s_aload_n C (d_of DL_9 84 rfl) rfl ?_
  refine s_iload_n C (d_of DL_9 85 rfl) rfl ?_
  refine s_iconst C (d_of DL_9 86 rfl) (by decide) ?_
  refine s_iadd C (d_of DL_9 87 rfl) ⟨by omega, by omega⟩ ?_
  refine s_tald (e := 4) C (by decide) hT (xs_r xs) (by omega) (by omega) (d_of DL_9 88 rfl) ?_
  refine WA.fix (fun hF1 => ?_)
  obtain ⟨Q2, hKQ2, h⟩ := h
  refine s_callV (ci := 9) (av := [(0, ((xs ((l3 + 1)).toNat).toInt)), (0, ((xs ((l3 + 2)).toNat).toInt)), (0, ((xs ((l3 + 3)).toNat).toInt)), (0, ((xs ((l3 + 4)).toNat).toInt))]) (rest := []) (mc := 0) (ms := 0) C (d_of DL_9 89 rfl) lk_L_141 (sh_1 hF1) (by decide) rfl rfl rfl (Nat.le_of_ble_eq_true rfl) (by decide) (by decide) hKQ2 (fun z2 w2 M2 hq => ?_)
  have h := h z2 w2 M2 hq
  refine s_aload_n C (d_of DL_9 90 rfl) rfl ?_
  refine s_aload_n C (d_of DL_9 91 rfl) rfl ?_
  refine s_iload_n C (d_of DL_9 92 rfl) rfl ?_
  refine s_iconst C (d_of DL_9 93 rfl) (by decide) ?_
  refine s_iadd C (d_of DL_9 94 rfl) ⟨by omega, by omega⟩ ?_
  refine s_tald (e := 4) C (by decide) hT (xs_r xs) (by omega) (by omega) (d_of DL_9 95 rfl) ?_
  refine s_aload_n C (d_of DL_9 96 rfl) rfl ?_
  refine s_iload_n C (d_of DL_9 97 rfl) rfl ?_
  refine s_iconst C (d_of DL_9 98 rfl) (by decide) ?_
  refine s_iadd C (d_of DL_9 99 rfl) ⟨by omega, by omega⟩ ?_
  refine s_tald (e := 4) C (by decide) hT (xs_r xs) (by omega) (by omega) (d_of DL_10 0 rfl) ?_
  refine s_aload_n C (d_of DL_10 1 rfl) rfl ?_
  refine s_iload_n C (d_of DL_10 2 rfl) rfl ?_
  refine s_iconst C (d_of DL_10 3 rfl) (by decide) ?_
  refine s_iadd C (d_of DL_10 4 rfl) ⟨by omega, by omega⟩ ?_
  refine s_tald (e := 4) C (by decide) hT (xs_r xs) (by omega) (by omega) (d_of DL_10 5 rfl) ?_
  refine s_aload_n C (d_of DL_10 6 rfl) rfl ?_
  refine s_iload_n C (d_of DL_10 7 rfl) rfl ?_
  refine s_iconst C (d_of DL_10 8 rfl) (by decide) ?_
  refine s_iadd C (d_of DL_10 9 rfl) ⟨by omega, by omega⟩ ?_
  refine s_tald (e := 4) C (by decide) hT (xs_r xs) (by omega) (by omega) (d_of DL_10 10 rfl) ?_
  refine WA.fix (fun hF3 => ?_)
  obtain ⟨Q4, hKQ4, h⟩ := h
  refine s_callV (ci := 10) (av := [(0, ((xs ((l3 + 1)).toNat).toInt)), (0, ((xs ((l3 + 2)).toNat).toInt)), (0, ((xs ((l3 + 3)).toNat).toInt)), (0, ((xs ((l3 + 4)).toNat).toInt))]) (rest := [(0, z2)]) (mc := 0) (ms := 0) C (d_of DL_10 11 rfl) lk_L_144 (sh_41 hF3) (by decide) rfl rfl rfl (Nat.le_of_ble_eq_true rfl) (by decide) (by decide) hKQ4 (fun z4 w4 M4 hq => ?_)
  have h := h z4 w4 M4 hq
  refine s_icmpeq C (d_of DL_10 12 rfl) rfl (fun hc => ?_) (fun hc => ?_)
  · have h := h.1 hc
    exact h
  · have h := h.2 hc
    refine s_iconst C (d_of DL_10 13 rfl) (by decide) ?_
    exact h.elim
set_option maxHeartbeats 4000000 in
set_option maxRecDepth 100000 in
theorem B_L_1373 {G : GP} {X : BX} {Q : State → Prop} {nm : String} {L : Nat} {xs : Nat → Int32} {l3 : Int} {rc rs : Nat} {w : NS} {M : MM} (C : CL G X nm) (hT : SCR G X L xs) (hL : L ≤ 3584) (h0 : 0 ≤ l3) (h7 : l3 + 7 ≤ L) (h : ∃ Q2 : Int → NS → MM → Prop, CT_X9_told G X.2.1 [(2, 1), (0, ((xs ((l3 + 1)).toNat).toInt))] w M Q2 ∧ ∀ (z2 : Int) (w2 : NS) (M2 : MM), Q2 z2 w2 M2 → ∃ Q4 : Int → NS → MM → Prop, CT_X10_told G X.2.1 [(2, 41), (0, ((xs ((l3 + 1)).toNat).toInt))] w2 M2 Q4 ∧ ∀ (z4 : Int) (w4 : NS) (M4 : MM), Q4 z4 w4 M4 → (((z2 = z4) → A_L_1396 G X Q l3 (rc + 0) (rs + 0) w4 M4) ∧ ((¬ (z2 = z4)) → False))) : A_L_1373 G X Q l3 (rc + 0) (rs + 0) w M := by
  unfold A_L_1373
  unfold SCR at hT
  refine s_aload_n C (d_of DL_10 15 rfl) rfl ?_
  refine s_aload_n C (d_of DL_10 16 rfl) rfl ?_
  refine s_iload_n C (d_of DL_10 17 rfl) rfl ?_
  refine s_iconst C (d_of DL_10 18 rfl) (by decide) ?_
  refine s_iadd C (d_of DL_10 19 rfl) ⟨by omega, by omega⟩ ?_
  refine s_tald (e := 4) C (by decide) hT (xs_r xs) (by omega) (by omega) (d_of DL_10 20 rfl) ?_
  refine WA.fix (fun hF1 => ?_)
  obtain ⟨Q2, hKQ2, h⟩ := h
  refine s_callV (ci := 9) (av := [(0, ((xs ((l3 + 1)).toNat).toInt))]) (rest := []) (mc := 0) (ms := 0) C (d_of DL_10 21 rfl) lk_L_145 (sh_1 hF1) (by decide) rfl rfl rfl (Nat.le_of_ble_eq_true rfl) (by decide) (by decide) hKQ2 (fun z2 w2 M2 hq => ?_)
  have h := h z2 w2 M2 hq
  refine s_aload_n C (d_of DL_10 22 rfl) rfl ?_
  refine s_aload_n C (d_of DL_10 23 rfl) rfl ?_
  refine s_iload_n C (d_of DL_10 24 rfl) rfl ?_
  refine s_iconst C (d_of DL_10 25 rfl) (by decide) ?_
  refine s_iadd C (d_of DL_10 26 rfl) ⟨by omega, by omega⟩ ?_
  refine s_tald (e := 4) C (by decide) hT (xs_r xs) (by omega) (by omega) (d_of DL_10 27 rfl) ?_
  refine WA.fix (fun hF3 => ?_)
  obtain ⟨Q4, hKQ4, h⟩ := h
  refine s_callV (ci := 10) (av := [(0, ((xs ((l3 + 1)).toNat).toInt))]) (rest := [(0, z2)]) (mc := 0) (ms := 0) C (d_of DL_10 28 rfl) lk_L_148 (sh_41 hF3) (by decide) rfl rfl rfl (Nat.le_of_ble_eq_true rfl) (by decide) (by decide) hKQ4 (fun z4 w4 M4 hq => ?_)
  have h := h z4 w4 M4 hq
  refine s_icmpeq C (d_of DL_10 29 rfl) rfl (fun hc => ?_) (fun hc => ?_)
  · have h := h.1 hc
    exact h
  · have h := h.2 hc
    refine s_iconst C (d_of DL_10 30 rfl) (by decide) ?_
    exact h.elim
