/-! THE MODEL: changes, doubles, families -/
def FLB (x i : Int) : Prop := x = 54 ∨ x = 55 ∨ x = 67 ∨ (x = 41 ∧ (i = 16 ∨ i = 17))
theorem FLB_wk : WK FLB := fun x i h => by
  rcases h with rfl | rfl | rfl | ⟨rfl, rfl | rfl⟩ <;> first | exact ⟨rfl, fun q => absurd q (by decide)⟩ | exact ⟨rfl, fun _ => rfl⟩
theorem FLB_in : ∀ x i, FLB x i → 41 ≤ x ∧ x ≤ 83 := fun x i h => by unfold FLB at h; omega
theorem FLB_dk : ∀ x i, FLB x i → ¬ DC x i := fun x i h => by unfold FLB at h; unfold DC; omega
theorem FL1_LB : ∀ x i, FL1 x i → FLB x i := fun x i h => by unfold FL1 at h; unfold FLB; omega
def PLB (S : MM) (a b : Int) (w : NS) (M : MM) : Int → NS → MM → Prop := fun _ w' M' => w = w' ∧ (M' 41 16 = (wl S a).length ∧ M' 41 17 = (wl S b).length) ∧ AL M' 54 (wl S a) ∧ AL M' 55 (wl S b) ∧ Fo FLB M M'
theorem cm_layBoth {G : GP} {l : Launch} {w : NS} {S M : MM} {a b : Int} (hI : SInv S) (hA : Ag S M) (ha : isPc S a) (hb : isPc S b) : CT_X10_layBoth G l [(2, 41), (0, a), (0, b)] w M (PLB S a b w M) := by
  refine E_X10_layBoth (fun _ _ X hX C => ?_)
  have hlb := wl_len hI b
  have hla := wl_len hI a
  have L : ∀ i, i ≤ ((wl S b).length : Int) → ∀ M1, 0 ≤ i → Fo FLB M M1 → M1 41 16 = (wl S b).length → AL M1 54 (wl S b) → AL M1 55 ((wl S b).take i.toNat) → A_X10_layBoth_7 G X (PLB S a b w M) a i w M1 := up_ind _ (fun i hi ih M1 h0 hF hn hL hK => by
    refine B_X10_layBoth_7 C ?_
    rw [hn]
    refine ⟨fun h => ⟨_, cm_layOne hI ((fo_up hF _ (Or.inr (Or.inr (Or.inr ⟨rfl, Or.inr rfl⟩)))).ag FLB_wk hA) ha, ?_⟩, fun h => ⟨h0, by omega, by omega, ?_⟩⟩
    · rintro z2 _ M2 ⟨rfl, k1, k2, k3⟩
      have e : (wl S b).take i.toNat = wl S b := List.take_of_length_le (by omega)
      rw [e] at hK
      refine ⟨rfl, ⟨k1, ?_⟩, k2, ?_, (fo_up hF _ (Or.inr (Or.inr (Or.inr ⟨rfl, Or.inr rfl⟩)))).tr (k3.mono FL1_LB)⟩
      · rw [k3 41 17 (by unfold FL1; omega), up_eq]
      · exact al_fr (al_fr hK (fun j => up_na (by decide))) (fun j => k3 55 j (by unfold FL1; omega))
    · have hit : i.toNat < (wl S b).length := by omega
      have hti : ((wl S b).take i.toNat).length = i.toNat := by rw [List.length_take]; omega
      refine ih (i + 1) (by omega) (by omega) _ (by omega) (fo_up hF _ (Or.inr (Or.inl rfl))) (by rw [up_na (by decide)]; exact hn) (al_fr hL (fun j => up_na (by decide))) ?_
      have e2 : (wl S b).take (i + 1).toNat = (wl S b).take i.toNat ++ [M1 54 i] := by
        rw [show (i + 1).toNat = i.toNat + 1 by omega, List.take_succ_eq_append_getElem hit, al_at hL h0 (by omega), List.getD_eq_getElem?_getD, List.getElem?_eq_getElem hit]; rfl
      rw [e2]
      have := al_snoc hK (M1 54 i)
      rw [hti, show ((i.toNat : Nat) : Int) = i by omega] at this
      exact this)
  refine B_X10_layBoth_0 C ⟨_, cm_layOne hI hA hb, ?_⟩
  rintro z2 _ M2 ⟨rfl, k1, k2, k3⟩
  exact L 0 (by omega) M2 (by omega) (k3.mono FL1_LB) k1 k2 (by simp [AL])
def PCh (S : MM) (a b : Int) (w : NS) (M : MM) : Int → NS → MM → Prop := fun z w' M' => (edS (wl S a) (wl S b) : Int) = z ∧ w = w' ∧ (M' 41 16 = (wl S a).length ∧ M' 41 17 = (wl S b).length) ∧ Fo FLB M M'
/-- the row of the counts, while line i is written: new ones before k, old ones from k on -/
def ROW (M : MM) (c : Int) (a b : List Int) (i k : Nat) : Prop := ∀ j : Nat, j ≤ b.length → M c j = (if j < k then (dpr a b (i + 1) j : Int) else dpr a b i j)
theorem row_step {M : MM} {c : Int} {a b : List Int} {i k : Nat} (h : ROW M c a b i k) (hk : k ≤ b.length) : ROW (up M c k (dpr a b (i + 1) k)) c a b i (k + 1) := by
  intro j hj
  by_cases e : j = k
  · rw [e, up_eq, if_pos (by omega)]
  · rw [up_ni (by omega), h j hj]
    by_cases h2 : j < k
    · rw [if_pos h2, if_pos (by omega)]
    · rw [if_neg h2, if_neg (by omega)]
theorem row_next {M : MM} {c : Int} {a b : List Int} {i : Nat} (h : ROW M c a b i (b.length + 1)) : ROW M c a b (i + 1) 0 := by
  intro j hj
  rw [if_neg (by omega), h j hj, if_pos (by omega)]
theorem getD_at {L : List Int} {i : Int} (h0 : 1 ≤ i) : L.getD (i - 1).toNat 0 = L.getD (i.toNat - 1) 0 := by rw [show (i - 1).toNat = i.toNat - 1 by omega]
theorem cm_changesOf {G : GP} {l : Launch} {w : NS} {S M : MM} {a b : Int} (hI : SInv S) (hA : Ag S M) (ha : isPc S a) (hb : isPc S b) : CT_X10_changesOf G l [(2, 41), (0, a), (0, b)] w M (PCh S a b w M) := by
  refine E_X10_changesOf (fun _ _ X hX C => ?_)
  have hlb := wl_len hI b
  have hla := wl_len hI a
  generalize hWa : wl S a = Wa at hla
  generalize hWb : wl S b = Wb at hlb
  have hF67 : ∀ {i : Int}, FLB 67 i := fun {i} => Or.inr (Or.inr (Or.inl rfl))
  have K3 : ∀ i : Nat, i < Wa.length → (∀ M1, Fo FLB M M1 → (M1 41 16 = Wa.length ∧ M1 41 17 = Wb.length) → AL M1 54 Wa → AL M1 55 Wb → ROW M1 67 Wa Wb (i + 1) 0 → A_X10_changesOf_31 G X (PCh S a b w M) ((i : Int) + 2) w M1) →
      ∀ k : Int, k ≤ (Wb.length : Int) + 1 → ∀ (M1 : MM) (cn : Int), 1 ≤ k → Fo FLB M M1 → (M1 41 16 = Wa.length ∧ M1 41 17 = Wb.length) → AL M1 54 Wa → AL M1 55 Wb → ROW M1 67 Wa Wb i k.toNat → cn = dpr Wa Wb i (k - 1).toNat → A_X10_changesOf_57 G X (PCh S a b w M) ((i : Int) + 1) cn k w M1 := fun i hi nx => up_ind _ (fun k hk ih M1 cn h1 hF hn hL hL2 hR hcn => by
    refine B_X10_changesOf_57 C ?_
    rw [hn.2]
    refine ⟨fun h => ⟨by omega, ?_⟩, fun h => ?_⟩
    · rw [show (i : Int) + 1 + 1 = (i : Int) + 2 by omega]
      refine nx M1 hF hn hL hL2 (row_next ?_)
      rw [show Wb.length + 1 = k.toNat by omega]; exact hR
    · obtain ⟨kk, hkk⟩ : ∃ kk : Nat, k = (kk : Int) + 1 := ⟨(k - 1).toNat, by omega⟩
      have hR0 := hR kk (by omega)
      have hR1 := hR (kk + 1) (by omega)
      rw [if_pos (by omega)] at hR0
      rw [if_neg (by omega)] at hR1
      have hcn2 : cn = dpr Wa Wb i kk := by rw [hcn, show (k - 1).toNat = kk by omega]
      have b1 := dpr_le Wa Wb i kk
      have b2 := dpr_le Wa Wb (i + 1) kk
      have b3 := dpr_le Wa Wb i (kk + 1)
      have hss := dpr_ss Wa Wb i kk
      have hk1 : k - 1 = kk := by omega
      have hk2 : M1 67 k = dpr Wa Wb i (kk + 1) := by rw [hkk]; exact hR1
      have h54 : M1 54 ((i : Int) + 1 - 1) = Wa.getD i 0 := by rw [show (i : Int) + 1 - 1 = i by omega]; exact hL i hi
      have h55 : M1 55 (k - 1) = Wb.getD kk 0 := by rw [hk1]; exact hL2 kk (by omega)
      have fin : ∀ v : Int, v = dpr Wa Wb (i + 1) (kk + 1) → A_X10_changesOf_57 G X (PCh S a b w M) ((i : Int) + 1) (M1 67 k) (k + 1) w (up M1 67 k v) := fun v hv => by
        refine ih (k + 1) (by omega) (by omega) _ _ (by omega) (fo_up hF _ hF67) ⟨by rw [up_na (by decide)]; exact hn.1, by rw [up_na (by decide)]; exact hn.2⟩ (al_fr hL (fun j => up_na (by decide))) (al_fr hL2 (fun j => up_na (by decide))) ?_ (by rw [hk2, show (k + 1 - 1).toNat = kk + 1 by omega])
        rw [hv, show (k + 1).toNat = (kk + 1) + 1 by omega, show k = ((kk + 1 : Nat) : Int) by omega]
        refine row_step ?_ (by omega)
        rw [show kk + 1 = k.toNat by omega]; exact hR
      rw [h54, h55, hk1, hR0]
      simp only [hk2] at fin ⊢
      rw [hcn2]
      refine ⟨by omega, by omega, by omega, by omega, by omega, by omega, by omega, by omega, fun h2 => ?_, fun h2 => ?_⟩
      · rw [if_neg h2] at hss
        refine ⟨by omega, by omega, fun h3 => ⟨by omega, by omega, fun h4 => ⟨by omega, fin _ (by omega)⟩, fun h4 => ⟨by omega, fin _ (by omega)⟩⟩, fun h3 => ⟨by omega, by omega, fun h4 => ⟨by omega, fin _ (by omega)⟩, fun h4 => ⟨by omega, fin _ (by omega)⟩⟩⟩
      · rw [if_pos (Decidable.not_not.mp h2)] at hss
        refine ⟨by omega, by omega, fun h3 => ⟨by omega, by omega, fun h4 => ⟨by omega, fin _ (by omega)⟩, fun h4 => ⟨by omega, fin _ (by omega)⟩⟩, fun h3 => ⟨by omega, by omega, fun h4 => ⟨by omega, fin _ (by omega)⟩, fun h4 => ⟨by omega, fin _ (by omega)⟩⟩⟩)
  have K2 : ∀ i : Int, i ≤ (Wa.length : Int) + 1 → ∀ M1, 1 ≤ i → Fo FLB M M1 → (M1 41 16 = Wa.length ∧ M1 41 17 = Wb.length) → AL M1 54 Wa → AL M1 55 Wb → ROW M1 67 Wa Wb (i - 1).toNat 0 → A_X10_changesOf_31 G X (PCh S a b w M) i w M1 := up_ind _ (fun i hi ih M1 h1 hF hn hL hL2 hR => by
    refine B_X10_changesOf_31 C ?_
    rw [hn.1, hn.2]
    refine ⟨fun h => ⟨by omega, by omega, ?_, rfl, ⟨by rw [hWa]; exact hn.1, by rw [hWb]; exact hn.2⟩, hF⟩, fun h => ?_⟩
    · rw [hR Wb.length (Nat.le_refl _), if_neg (by omega), hWa, hWb, show (i - 1).toNat = Wa.length by omega]; rfl
    · obtain ⟨ii, hii⟩ : ∃ ii : Nat, i = (ii : Int) + 1 := ⟨(i - 1).toNat, by omega⟩
      have e0 : (i - 1).toNat = ii := by omega
      rw [e0] at hR
      rw [hii]
      refine K3 ii (by omega) (fun M2 g1 g2 g3 g4 g5 => ?_) 1 (by omega) _ _ (by omega) (fo_up hF _ hF67) ⟨by rw [up_na (by decide)]; exact hn.1, by rw [up_na (by decide)]; exact hn.2⟩ (al_fr hL (fun j => up_na (by decide))) (al_fr hL2 (fun j => up_na (by decide))) ?_ ?_
      · rw [show (ii : Int) + 2 = i + 1 by omega]
        refine ih (i + 1) (by omega) (by omega) M2 (by omega) g1 g2 g3 g4 ?_
        rw [show (i + 1 - 1).toNat = ii + 1 by omega]; exact g5
      · have := row_step hR (k := 0) (by omega)
        rw [dpr_k0] at this
        exact_mod_cast this
      · have := hR 0 (by omega)
        rw [if_neg (by omega)] at this
        simpa using this)
  have K1 : ∀ k : Int, k ≤ (Wb.length : Int) + 1 → ∀ M1, 0 ≤ k → Fo FLB M M1 → (M1 41 16 = Wa.length ∧ M1 41 17 = Wb.length) → AL M1 54 Wa → AL M1 55 Wb → (∀ j : Int, 0 ≤ j → j < k → M1 67 j = j) → A_X10_changesOf_8 G X (PCh S a b w M) k w M1 := up_ind _ (fun k hk ih M1 h1 hF hn hL hL2 hR => by
    refine B_X10_changesOf_8 C ?_
    rw [hn.2]
    refine ⟨fun h => K2 1 (by omega) M1 (by omega) hF hn hL hL2 (fun j hj => ?_), fun h => ⟨by omega, by omega, by omega, ?_⟩⟩
    · rw [if_neg (by omega), hR j (by omega) (by omega), show (1 - 1 : Int).toNat = 0 from rfl, dpr_0]
    · refine ih (k + 1) (by omega) (by omega) _ (by omega) (fo_up hF _ hF67) ⟨by rw [up_na (by decide)]; exact hn.1, by rw [up_na (by decide)]; exact hn.2⟩ (al_fr hL (fun j => up_na (by decide))) (al_fr hL2 (fun j => up_na (by decide))) (fun j j0 j1 => ?_)
      by_cases e : j = k
      · rw [e, up_eq]
      · rw [up_ni e]; exact hR j j0 (by omega))
  refine B_X10_changesOf_0 C ⟨_, cm_layBoth hI hA ha hb, ?_⟩
  rintro z2 _ M2 ⟨rfl, ⟨k1, k2⟩, k3, k4, k5⟩
  rw [hWa] at k1 k3
  rw [hWb] at k2 k4
  exact K1 0 (by omega) M2 (by omega) k5 ⟨k1, k2⟩ k3 k4 (fun j j0 j1 => by omega)
def op_changes (S : MM) (a b : Int) : Int × MM := (if isPc S a ∧ isPc S b then (edS (wl S a) (wl S b) : Int) else -1, S)
theorem cm_changes {G : GP} {l : Launch} {w : NS} {S M : MM} {a b : Int} (hI : SInv S) (hA : Ag S M) : CT_X10_changes G l [(2, 41), (0, a), (0, b)] w M (PM w M (op_changes S a b)) := by
  refine E_X10_changes (fun _ _ X hX C => ?_)
  have hp2 := hI.pc
  refine B_X10_changes_0 C ?_
  rw [hA.2 12 rfl]
  refine ⟨by omega, fun h1 => ?_, fun h1 => ⟨fun h2 => ?_, fun h2 => ⟨_, cm_changesOf hI hA h1 h2, ?_⟩⟩⟩
  · exact pm_s hA (by unfold op_changes; rw [if_neg (fun q => h1 q.1)])
  · exact pm_s hA (by unfold op_changes; rw [if_neg (fun q => h2 q.2)])
  · rintro z5 _ M5 ⟨e1, rfl, -, hF⟩
    exact pm_u (S1 := S) (by unfold op_changes; rw [if_pos ⟨h1, h2⟩, e1]) (hF.ag FLB_wk hA) (hF.frm FLB_in) (hF.dk FLB_dk)
theorem ed_le {S : MM} (hI : SInv S) (a b : Int) : edS (wl S a) (wl S b) ≤ 120 := by
  have h1 := dpr_le (wl S a) (wl S b) (wl S a).length (wl S b).length
  have h2 := wl_len hI a
  have h3 := wl_len hI b
  unfold edS; omega
theorem cm_areDoubles {G : GP} {l : Launch} {w : NS} {S M : MM} {a b : Int} (hI : SInv S) (hA : Ag S M) (ha : isPc S a) (hb : isPc S b) : CT_X10_areDoubles G l [(2, 41), (0, a), (0, b)] w M (fun z w' M' => bi (dblS S a b) = z ∧ w = w' ∧ Fo FLB M M') := by
  refine E_X10_areDoubles (fun _ _ X hX C => ?_)
  refine B_X10_areDoubles_0 C ⟨_, cm_changesOf hI hA ha hb, ?_⟩
  rintro z2 _ M2 ⟨e1, rfl, ⟨e2, e3⟩, hF⟩
  have hA2 := hF.ag FLB_wk hA
  have hed := ed_le hI a b
  have hla := wl_len hI a
  have hlb := wl_len hI b
  have hnm := hI.nm 0 (by decide) (by decide)
  have hn0 : 0 ≤ S 53 0 ∧ S 53 0 ≤ 100 := hnm
  rw [hA2.1 53 0 rfl, e2, e3]
  have fin : ∀ z, bi (dblS S a b) = z → bi (dblS S a b) = z ∧ w = w ∧ Fo FLB M M2 := fun z hz => ⟨hz, rfl, hF⟩
  have g1 := mulb (x := S 53 0) (y := ((wl S b).length : Int)) (by omega) (by omega) (by omega) (by omega)
  have g2 := mulb (x := S 53 0) (y := ((wl S a).length : Int)) (by omega) (by omega) (by omega) (by omega)
  have hD : dblS S a b = (decide (0 < (wl S a).length) && decide (0 < (wl S b).length) && decide (100 * (edS (wl S a) (wl S b) : Int) ≤ S 53 0 * (if (wl S a).length ≤ (wl S b).length then ((wl S b).length : Int) else (wl S a).length))) := by
    unfold dblS
    rw [show ((max (wl S a).length (wl S b).length : Nat) : Int) = if (wl S a).length ≤ (wl S b).length then ((wl S b).length : Int) else (wl S a).length by split <;> omega]
  generalize hWa : wl S a = Wa at *
  generalize hWb : wl S b = Wb at *
  rw [← e1]
  refine ⟨fun h1 => ?_, fun h1 => ?_⟩
  · rw [if_pos (by omega)] at hD
    refine ⟨fun h2 => fin _ ?_, fun h2 => ⟨fun h3 => fin _ ?_, fun h3 => ⟨by omega, by omega, fun h4 => fin _ ?_, fun h4 => fin _ ?_⟩⟩⟩
    · rw [hD, show decide (0 < Wa.length) = false from decide_eq_false (by omega)]; rfl
    · rw [hD, show decide (0 < Wb.length) = false from decide_eq_false (by omega), Bool.and_false]; rfl
    · rw [hD, show decide (100 * (edS Wa Wb : Int) ≤ S 53 0 * (Wb.length : Int)) = false from decide_eq_false (by omega), Bool.and_false]; rfl
    · rw [hD, show decide (100 * (edS Wa Wb : Int) ≤ S 53 0 * (Wb.length : Int)) = true from decide_eq_true (by omega), show decide (0 < Wa.length) = true from decide_eq_true (by omega), show decide (0 < Wb.length) = true from decide_eq_true (by omega)]; rfl
  · rw [if_neg (by omega)] at hD
    refine ⟨fun h2 => fin _ ?_, fun h2 => ⟨fun h3 => fin _ ?_, fun h3 => ⟨by omega, by omega, fun h4 => fin _ ?_, fun h4 => fin _ ?_⟩⟩⟩
    · rw [hD, show decide (0 < Wa.length) = false from decide_eq_false (by omega)]; rfl
    · rw [hD, show decide (0 < Wb.length) = false from decide_eq_false (by omega), Bool.and_false]; rfl
    · rw [hD, show decide (100 * (edS Wa Wb : Int) ≤ S 53 0 * (Wa.length : Int)) = false from decide_eq_false (by omega), Bool.and_false]; rfl
    · rw [hD, show decide (100 * (edS Wa Wb : Int) ≤ S 53 0 * (Wa.length : Int)) = true from decide_eq_true (by omega), show decide (0 < Wa.length) = true from decide_eq_true (by omega), show decide (0 < Wb.length) = true from decide_eq_true (by omega)]; rfl
