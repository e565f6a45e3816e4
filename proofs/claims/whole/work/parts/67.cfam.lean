/-! THE CLASS: its cells for work; changes, doubles -/
def FWK (S M : MM) (x i : Int) : Prop := (9 ≤ x ∧ x ≤ 12) ∨ (14 ≤ x ∧ x ≤ 18) ∨ (20 ≤ x ∧ x ≤ 23) ∨ (x = 1 ∧ i = 11) ∨ ∃ k, isPc S k ∧ x = M 4 k ∧ (i = 8 ∨ i = 9)
theorem fwk_low {S : MM} {w : NS} {M M' : MM} (hC : CInv S w M) (hF : Fo (FWK S M) M M') {x i : Int} (h1 : x ≤ 83) (h2 : ¬ ((9 ≤ x ∧ x ≤ 12) ∨ (14 ≤ x ∧ x ≤ 18) ∨ (20 ≤ x ∧ x ≤ 23) ∨ (x = 1 ∧ i = 11))) : M' x i = M x i := hF x i (by
  rintro (q | q | q | q | ⟨k, hk, q, -⟩)
  · omega
  · omega
  · omega
  · omega
  · have := (hC.pc k hk).1; omega)
theorem fwk_tag {S : MM} {w : NS} {M M' : MM} (hC : CInv S w M) (hF : Fo (FWK S M) M M') {x : Int} {t : Nat × Nat} (hx : w.2 x = t) (ht : t ≠ (7, 12)) (h1 : 83 < x) : M' x = M x := funext fun i => hF x i (by
  rintro (q | q | q | q | ⟨k, hk, q, -⟩)
  · omega
  · omega
  · omega
  · omega
  · exact ne_sh hx (hC.pc k hk).2.1 ht q)
theorem fwk_pc {S : MM} {w : NS} {M M' : MM} (hC : CInv S w M) (hF : Fo (FWK S M) M M') {k i : Int} (hk : isPc S k) (h8 : i ≠ 8) (h9 : i ≠ 9) : M' (M 4 k) i = M (M 4 k) i := hF _ i (by
  have := (hC.pc k hk).1
  rintro (q | q | q | q | ⟨k, hk, q, q2⟩) <;> omega)
theorem CInv.work {S : MM} {w : NS} {M M' : MM} (hC : CInv S w M) (hI : SInv S) (hF : Fo (FWK S M) M M') (hf : CFam S M') : CInv S w M' := by
  have low : ∀ x i, x ≤ 83 → ¬ ((9 ≤ x ∧ x ≤ 12) ∨ (14 ≤ x ∧ x ≤ 18) ∨ (20 ≤ x ∧ x ≤ 23) ∨ (x = 1 ∧ i = 11)) → M' x i = M x i := fun x i h1 h2 => fwk_low hC hF h1 h2
  have lowf : ∀ x, x ≤ 83 → ¬ ((9 ≤ x ∧ x ≤ 12) ∨ (14 ≤ x ∧ x ≤ 18) ∨ (20 ≤ x ∧ x ≤ 23) ∨ x = 1) → M' x = M x := fun x h1 h2 => funext fun i => low x i h1 (by omega)
  have tg : ∀ x t, w.2 x = t → t ≠ (7, 12) → 83 < x → M' x = M x := fun x t h1 h2 h3 => fwk_tag hC hF h1 h2 h3
  have rl : ∀ r o, CRule S w M r o → M' r = M r ∧ M' (r + 1) = M (r + 1) := fun r o hr => by
    rcases hr.1 with e | e
    · rw [e]; exact ⟨lowf 7 (by omega) (by omega), lowf 8 (by omega) (by omega)⟩
    · exact ⟨tg _ _ hr.2.1 (by decide) e, tg _ _ hr.2.2.1 (by decide) (by omega)⟩
  refine ⟨⟨?_, ?_, ?_⟩, ⟨fun k p q => ?_, fun k p q => ?_⟩, fun p hp => ?_, fun k hk => ?_, fun o ho => ?_, ?_, fun n p q => ?_, fun r p q => ?_, fun j hj => ?_, hf⟩
  · rw [low 1 2 (by omega) (by omega)]; exact hC.top.1
  · rw [low 1 4 (by omega) (by omega)]; exact hC.top.2.1
  · rw [low 1 7 (by omega) (by omega)]; exact hC.top.2.2
  · rw [low 2 k (by omega) (by omega)]; exact hC.num.1 k p q
  · rw [low 24 k (by omega) (by omega)]; exact hC.num.2 k p q
  · have hQ := hC.pg p hp
    have h83 := hQ.1
    exact hQ.mv (lowf 3 (by omega) (by omega)) (tg _ _ hQ.2.1 (by decide) h83) (tg _ _ hQ.2.2.1 (by decide) (by omega)) rfl rfl rfl (fun i _ _ => rfl) rfl rfl
  · have hK := hC.pc k hk
    have h83 := hK.1
    exact hK.mv (low 4 k (by omega) (by omega)) (low 3 _ (by omega) (by omega)) (fun i h8 h9 => fwk_pc hC hF hk h8 h9) (tg _ _ hK.2.2.1 (by decide) (by omega)) rfl rfl rfl rfl rfl rfl rfl rfl rfl rfl
  · have hO := hC.od o ho
    have h83 := hO.1
    have hr := rl _ _ hO.2.2.2.1
    exact hO.mv (low 6 o (by omega) (by omega)) (tg _ _ hO.2.1 (by decide) h83) hr.1 hr.2 (Or.inl (low 1 8 (by omega) (by omega))) (fun x _ _ => rfl) (fun i _ _ => rfl) (hI.sm o).2 rfl rfl rfl
  · rw [low 1 8 (by omega) (by omega)]
    have hr := rl _ _ hC.sp
    exact hC.sp.mv hr.1 hr.2 rfl (fun i _ _ => rfl) (hI.sm 10).2 rfl rfl
  · have hn := hC.nm n p q
    rw [lowf (25 + 2 * n) (by omega) (by omega), lowf (25 + 2 * n + 1) (by omega) (by omega)]; exact hn
  · have hr := hC.rd r p q
    rw [lowf (33 + 2 * r) (by omega) (by omega), lowf (33 + 2 * r + 1) (by omega) (by omega)]; exact hr
  · rw [low 5 _ (by omega) (by omega), low 4 _ (by omega) (by omega)]; exact hC.ln j hj
theorem FWK.frc {S : MM} {w : NS} {M M' : MM} (hC : CInv S w M) (hF : Fo (FWK S M) M M') : FrC M M' := fun x i hx => fwk_low hC hF (by omega) (by omega)
/-- the families as they were -/
theorem CFam.wk {S : MM} {w : NS} {M M' : MM} (hC : CInv S w M) (e9 : M' 9 0 = M 9 0) (e4 : ∀ k, M' 4 k = M 4 k) (e : ∀ k i, isPc S k → M' (M 4 k) i = M (M 4 k) i) : CFam S M' := by
  rcases hC.fm with hf | ⟨hf, hk⟩
  · left; rw [e9]; exact hf
  · right
    refine ⟨by rw [e9]; exact hf, fun k q => ?_⟩
    rw [e4, e k 8 q, e k 9 q]
    exact hk k q
def F11 (x _i : Int) : Prop := x = 11
def CPcs (S : MM) (w : NS) (M : MM) : Prop := ∀ k, isPc S k → CPiece S w M k
def PLc (S : MM) (a b : Int) (w : NS) (M : MM) : Int → NS → MM → Prop := fun z w' M' => (edS (wl S a) (wl S b) : Int) = z ∧ w = w' ∧ Fo F11 M M'
theorem cc_leastChanges {G : GP} {l : Launch} {w : NS} {S M : MM} {a b : Int} (hI : SInv S) (hP : CPcs S w M) (ha : isPc S a) (hb : isPc S b) : CT_X1_leastChanges G l [(2, 9), (2, M 4 a), (2, M 4 b)] w M (PLc S a b w M) := by
  refine E_X1_leastChanges (fun X hX C => ?_)
  obtain ⟨a1, a2, a3, -, -, -, -, a8, a9⟩ := hP a ha
  obtain ⟨b1, b2, b3, -, -, -, -, b8, b9⟩ := hP b hb
  have hlb := wl_len hI b
  have hla := wl_len hI a
  have ea : ∀ {M1 : MM}, Fo F11 M M1 → M1 (M 4 a) 7 = (wl S a).length ∧ AL M1 (M 4 a + 1) (wl S a) := fun {M1} hF => ⟨by rw [hF _ _ (by unfold F11; omega)]; exact a8, al_fr a9 (fun i => hF _ _ (by unfold F11; omega))⟩
  have eb : ∀ {M1 : MM}, Fo F11 M M1 → M1 (M 4 b) 7 = (wl S b).length ∧ AL M1 (M 4 b + 1) (wl S b) := fun {M1} hF => ⟨by rw [hF _ _ (by unfold F11; omega)]; exact b8, al_fr b9 (fun i => hF _ _ (by unfold F11; omega))⟩
  generalize hWa : wl S a = Wa at *
  generalize hWb : wl S b = Wb at *
  have K3 : ∀ i : Nat, i < Wa.length → (∀ M1, Fo F11 M M1 → ROW M1 11 Wa Wb (i + 1) 0 → A_X1_leastChanges_25 G X (PLc S a b w M) (M 4 a) (M 4 b) ((i : Int) + 2) w M1) →
      ∀ k : Int, k ≤ (Wb.length : Int) + 1 → ∀ (M1 : MM) (cn : Int), 1 ≤ k → Fo F11 M M1 → ROW M1 11 Wa Wb i k.toNat → cn = dpr Wa Wb i (k - 1).toNat → A_X1_leastChanges_51 G X (PLc S a b w M) (M 4 a) (M 4 b) ((i : Int) + 1) cn k w M1 := fun i hi nx => up_ind _ (fun k hk ih M1 cn h1 hF hR hcn => by
    refine B_X1_leastChanges_51 C ?_
    have e1 := ea hF
    have e2 := eb hF
    rw [e2.1]
    refine ⟨b2, fun h => ⟨by omega, ?_⟩, fun h => ?_⟩
    · rw [show (i : Int) + 1 + 1 = (i : Int) + 2 by omega]
      refine nx M1 hF (row_next ?_)
      rw [show Wb.length + 1 = k.toNat by omega]; exact hR
    · obtain ⟨kk, hkk⟩ : ∃ kk : Nat, k = (kk : Int) + 1 := ⟨(k - 1).toNat, by omega⟩
      have hR0 := hR kk (by omega)
      have hR1 := hR (kk + 1) (by omega)
      rw [if_pos (by omega)] at hR0
      rw [if_neg (by omega)] at hR1
      have hcn2 : cn = dpr Wa Wb i kk := by rw [hcn, show (k - 1).toNat = kk by omega]
      have q1 := dpr_le Wa Wb i kk
      have q2 := dpr_le Wa Wb (i + 1) kk
      have q3 := dpr_le Wa Wb i (kk + 1)
      have hss := dpr_ss Wa Wb i kk
      have hk1 : k - 1 = kk := by omega
      have hk2 : M1 11 k = dpr Wa Wb i (kk + 1) := by rw [hkk]; exact hR1
      have h54 : M1 (M 4 a + 1) ((i : Int) + 1 - 1) = Wa.getD i 0 := by rw [show (i : Int) + 1 - 1 = i by omega]; exact e1.2 i hi
      have h55 : M1 (M 4 b + 1) (k - 1) = Wb.getD kk 0 := by rw [hk1]; exact e2.2 kk (by omega)
      have fin : ∀ v : Int, v = dpr Wa Wb (i + 1) (kk + 1) → A_X1_leastChanges_51 G X (PLc S a b w M) (M 4 a) (M 4 b) ((i : Int) + 1) (M1 11 k) (k + 1) w (up M1 11 k v) := fun v hv => by
        refine ih (k + 1) (by omega) (by omega) _ _ (by omega) (fo_up hF _ rfl) ?_ (by rw [hk2, show (k + 1 - 1).toNat = kk + 1 by omega])
        rw [hv, show (k + 1).toNat = (kk + 1) + 1 by omega, show k = ((kk + 1 : Nat) : Int) by omega]
        refine row_step ?_ (by omega)
        rw [show kk + 1 = k.toNat by omega]; exact hR
      rw [h54, h55, hk1, hR0]
      simp only [hk2] at fin ⊢
      rw [hcn2]
      have z0 : b2i ((0 : Nat) ≠ 0) = 0 := by unfold b2i; simp
      have z1 : b2i ((1 : Nat) ≠ 0) = 1 := by unfold b2i; simp
      rw [z0, z1]
      refine ⟨a2, by omega, by omega, by omega, by omega, by omega, by omega, fun h2 => ?_, fun h2 => ?_⟩
      · rw [if_pos h2] at hss
        exact ⟨by omega, by omega, by omega, by omega, by omega, by omega, fin _ (by omega)⟩
      · rw [if_neg h2] at hss
        exact ⟨by omega, by omega, by omega, by omega, by omega, by omega, fin _ (by omega)⟩)
  have K2 : ∀ i : Int, i ≤ (Wa.length : Int) + 1 → ∀ M1, 1 ≤ i → Fo F11 M M1 → ROW M1 11 Wa Wb (i - 1).toNat 0 → A_X1_leastChanges_25 G X (PLc S a b w M) (M 4 a) (M 4 b) i w M1 := up_ind _ (fun i hi ih M1 h1 hF hR => by
    refine B_X1_leastChanges_25 C ?_
    have e1 := ea hF
    have e2 := eb hF
    rw [e1.1, e2.1]
    refine ⟨a2, fun h => ⟨b2, by omega, by omega, ?_, rfl, hF⟩, fun h => ?_⟩
    · rw [hR Wb.length (Nat.le_refl _), if_neg (by omega), hWa, hWb, show (i - 1).toNat = Wa.length by omega]; rfl
    · obtain ⟨ii, hii⟩ : ∃ ii : Nat, i = (ii : Int) + 1 := ⟨(i - 1).toNat, by omega⟩
      have e0 : (i - 1).toNat = ii := by omega
      rw [e0] at hR
      rw [hii]
      refine K3 ii (by omega) (fun M2 g1 g5 => ?_) 1 (by omega) _ _ (by omega) (fo_up hF _ rfl) ?_ ?_
      · rw [show (ii : Int) + 2 = i + 1 by omega]
        refine ih (i + 1) (by omega) (by omega) M2 (by omega) g1 ?_
        rw [show (i + 1 - 1).toNat = ii + 1 by omega]; exact g5
      · have := row_step hR (k := 0) (by omega)
        rw [dpr_k0] at this
        exact_mod_cast this
      · have := hR 0 (by omega)
        rw [if_neg (by omega)] at this
        simpa using this)
  have K1 : ∀ k : Int, k ≤ (Wb.length : Int) + 1 → ∀ M1, 0 ≤ k → Fo F11 M M1 → (∀ j : Int, 0 ≤ j → j < k → M1 11 j = j) → A_X1_leastChanges_2 G X (PLc S a b w M) (M 4 a) (M 4 b) k w M1 := up_ind _ (fun k hk ih M1 h1 hF hR => by
    refine B_X1_leastChanges_2 C ?_
    have e2 := eb hF
    rw [e2.1]
    refine ⟨b2, fun h => K2 1 (by omega) M1 (by omega) hF (fun j hj => ?_), fun h => ⟨by omega, by omega, by omega, ?_⟩⟩
    · rw [if_neg (by omega), hR j (by omega) (by omega), show (1 - 1 : Int).toNat = 0 from rfl, dpr_0]
    · refine ih (k + 1) (by omega) (by omega) _ (by omega) (fo_up hF _ rfl) (fun j j0 j1 => ?_)
      by_cases e : j = k
      · rw [e, up_eq]
      · rw [up_ni e]; exact hR j j0 (by omega))
  exact B_X1_leastChanges_0 C (K1 0 (by omega) M (by omega) (Fo.rfl' _ _) (fun j j0 j1 => by omega))
theorem cc_changes {G : GP} {l : Launch} {w : NS} {S M : MM} {a b : Int} (hI : SInv S) (hC : CInv S w M) : CT_X9_changes G l [(2, 1), (0, a), (0, b)] w M (PC M (op_changes S a b)) := by
  refine E_X9_changes (fun _ _ X hX C => ?_)
  refine B_X9_changes_0 C ?_
  have hpc := hI.pc
  rw [hC.top.2.1]
  refine ⟨by omega, by omega, fun h => ?_, fun h => ⟨fun h2 => ?_, fun h2 => ?_⟩⟩
  · exact pc_s hC (by unfold op_changes; rw [if_neg (fun q => (pcO_ne hC).mp h q.1)])
  · have ha : isPc S a := Decidable.not_not.mp (fun q => h ((pcO_ne hC).mpr q))
    have hb : isPc S b := Decidable.not_not.mp (fun q => h2 ((pcO_ne hC).mpr q))
    rw [pcO_in hC ha, pcO_in hC hb]
    refine ⟨_, cc_leastChanges hI hC.pc ha hb, ?_⟩
    rintro z6 _ M6 ⟨e1, rfl, hF⟩
    have hF2 : Fo (FWK S M) M M6 := hF.mono (fun x i q => by have : x = 11 := q; unfold FWK; omega)
    refine pc_u (S1 := S) (by unfold op_changes; rw [if_pos ⟨ha, hb⟩, e1]) (hC.work hI hF2 (CFam.wk hC (hF _ _ (by unfold F11; omega)) (fun k => hF _ _ (by unfold F11; omega)) (fun k i hk => hF _ _ (by have := (hC.pc k hk).1; unfold F11; omega)))) (FWK.frc hC hF2)
  · exact pc_s hC (by unfold op_changes; rw [if_neg (fun q => (pcO_ne hC).mp (Decidable.not_not.mp h2) q.2)])
theorem cc_areDoubles {G : GP} {l : Launch} {w : NS} {S M : MM} {a b : Int} (hI : SInv S) (hP : CPcs S w M) (ha : isPc S a) (hb : isPc S b) : CT_X1_areDoubles G l [(2, 9), (2, M 4 a), (2, M 4 b), (0, S 53 0)] w M (fun z w' M' => bi (dblS S a b) = z ∧ w = w' ∧ Fo F11 M M') := by
  refine E_X1_areDoubles (fun _ X hX C => ?_)
  refine B_X1_areDoubles_0 C ?_
  obtain ⟨a1, a2, a3, -, -, -, -, a8, a9⟩ := hP a ha
  obtain ⟨b1, b2, b3, -, -, -, -, b8, b9⟩ := hP b hb
  have hed := ed_le hI a b
  have hla := wl_len hI a
  have hlb := wl_len hI b
  have hn0 : 0 ≤ S 53 0 ∧ S 53 0 ≤ 100 := hI.nm 0 (by decide) (by decide)
  have hge := dpr_ge (wl S a) (wl S b) (wl S a).length (wl S b).length
  have hge2 : (wl S a).length ≤ edS (wl S a) (wl S b) + (wl S b).length ∧ (wl S b).length ≤ edS (wl S a) (wl S b) + (wl S a).length := hge
  rw [a8, b8]
  have fin : ∀ z M2, bi (dblS S a b) = z → Fo F11 M M2 → bi (dblS S a b) = z ∧ w = w ∧ Fo F11 M M2 := fun z M2 hz hF => ⟨hz, rfl, hF⟩
  have g1 := mulb (x := S 53 0) (y := ((wl S b).length : Int)) (by omega) (by omega) (by omega) (by omega)
  have g2 := mulb (x := S 53 0) (y := ((wl S a).length : Int)) (by omega) (by omega) (by omega) (by omega)
  have hD : dblS S a b = (decide (0 < (wl S a).length) && decide (0 < (wl S b).length) && decide (100 * (edS (wl S a) (wl S b) : Int) ≤ S 53 0 * (if (wl S a).length ≤ (wl S b).length then ((wl S b).length : Int) else (wl S a).length))) := by
    unfold dblS
    rw [show ((max (wl S a).length (wl S b).length : Nat) : Int) = if (wl S a).length ≤ (wl S b).length then ((wl S b).length : Int) else (wl S a).length by split <;> omega]
  have lc := fun (l2 : Launch) => cc_leastChanges (G := G) (l := l2) hI hP ha hb
  have d0 : ∀ {n : Nat}, ¬ 0 < n → decide (0 < n) = false := fun h => decide_eq_false h
  have d1 : ∀ {n : Nat}, 0 < n → decide (0 < n) = true := fun h => decide_eq_true h
  generalize hWa : wl S a = Wa at *
  generalize hWb : wl S b = Wb at *
  refine ⟨a2, fun h1 => fin _ _ ?_ (Fo.rfl' _ _), fun h1 => ⟨b2, fun h2 => ⟨fun h3 => ?_, fun h3 => ?_⟩, fun h2 => fin _ _ ?_ (Fo.rfl' _ _)⟩⟩
  · rw [hD, d0 (by omega)]; rfl
  · rw [if_pos (by omega)] at hD
    refine ⟨by omega, by omega, by omega, by omega, by omega, fun h4 => fin _ _ ?_ (Fo.rfl' _ _), fun h4 => ⟨_, lc _, ?_⟩⟩
    · rw [hD, show decide (100 * (edS Wa Wb : Int) ≤ S 53 0 * (Wb.length : Int)) = false from decide_eq_false (by omega), Bool.and_false]; rfl
    · rintro z9 _ M9 ⟨e1, rfl, hF⟩
      rw [hWa, hWb] at e1
      refine ⟨by omega, fun h5 => fin _ _ ?_ hF, fun h5 => fin _ _ ?_ hF⟩
      · rw [hD, show decide (100 * (edS Wa Wb : Int) ≤ S 53 0 * (Wb.length : Int)) = false from decide_eq_false (by omega), Bool.and_false]; rfl
      · rw [hD, show decide (100 * (edS Wa Wb : Int) ≤ S 53 0 * (Wb.length : Int)) = true from decide_eq_true (by omega), d1 (by omega), d1 (by omega)]; rfl
  · rw [if_neg (by omega)] at hD
    refine ⟨by omega, by omega, by omega, by omega, by omega, fun h4 => fin _ _ ?_ (Fo.rfl' _ _), fun h4 => ⟨_, lc _, ?_⟩⟩
    · rw [hD, show decide (100 * (edS Wa Wb : Int) ≤ S 53 0 * (Wa.length : Int)) = false from decide_eq_false (by omega), Bool.and_false]; rfl
    · rintro z9 _ M9 ⟨e1, rfl, hF⟩
      rw [hWa, hWb] at e1
      refine ⟨by omega, fun h5 => fin _ _ ?_ hF, fun h5 => fin _ _ ?_ hF⟩
      · rw [hD, show decide (100 * (edS Wa Wb : Int) ≤ S 53 0 * (Wa.length : Int)) = false from decide_eq_false (by omega), Bool.and_false]; rfl
      · rw [hD, show decide (100 * (edS Wa Wb : Int) ≤ S 53 0 * (Wa.length : Int)) = true from decide_eq_true (by omega), d1 (by omega), d1 (by omega)]; rfl
  · rw [hD, d0 (show ¬ 0 < Wb.length by omega), Bool.and_false]; rfl
