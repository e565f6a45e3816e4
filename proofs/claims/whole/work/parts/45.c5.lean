/-! THE CLASS: say, wipe -/
theorem CInv.rule {S S' : MM} {w : NS} {M M' : MM} (hC : CInv S w M) (hI : SInv S) (hm : ∀ x, x ≠ M 1 8 → x ≠ M 1 8 + 1 → M' x = M x) (s : ∀ x, x ≠ 56 → x ≠ 57 → S' x = S x) (s57 : ∀ o, o ≠ 10 → S' 57 o = S 57 o) (s56 : ∀ i, i < 400 → S' 56 i = S 56 i) (hr : CRule S' w M' (M 1 8) 10) : CInv S' w M' := by
  obtain ⟨r1, r2, r3, -⟩ := hC.sp
  have tg : ∀ x t, w.2 x = t → t ≠ (9, 2) → t ≠ (12, 40) → M' x = M x := fun x t hx h1 h2 => hm x (ne_sh hx r2 h1) (ne_sh hx r3 h2)
  have low : ∀ x, x ≤ 83 → x ≠ 7 → x ≠ 8 → M' x = M x := fun x h1 h2 h3 => hm x (by omega) (by omega)
  have sv : SV S S' := ⟨by rw [s 41 (by decide) (by decide)], trivial, fun k _ => ⟨trivial, by rw [s 46 (by decide) (by decide)], by rw [s 43 (by decide) (by decide)], by rw [s 44 (by decide) (by decide)]⟩⟩
  have s2 : ∀ x i, x ≠ 56 → x ≠ 57 → S' x i = S x i := fun x i h1 h2 => by rw [s x h1 h2]
  have swl : ∀ k, wl S' k = wl S k := fun k => wl_c (s _ (by decide) (by decide)) (s2 _ _ (by decide) (by decide)) (s2 _ _ (by decide) (by decide)) (s2 _ _ (by decide) (by decide)) (s2 _ _ (by decide) (by decide)) (s2 _ _ (by decide) (by decide))
  have e1 : M' 1 = M 1 := low 1 (by decide) (by decide) (by decide)
  refine hC.mk3 hI (fun x hx h7 h8 _ => low x hx h7 h8) (fun i => s2 _ _ (by decide) (by decide)) (fun x hx => s x (by omega) (by omega)) sv (fun p hp => ?_) (fun k hk => ?_) (fun o ho => ?_) (by rw [e1]; exact hr) (CFam.mv hC hI sv ⟨s2 _ _ (by decide) (by decide), fun k _ => swl k⟩ (by rw [low 9 (by decide) (by decide) (by decide)]) (low 4 (by decide) (by decide) (by decide)) (fun k hk => by rw [tg _ _ (hC.pc k hk).2.1 (by decide) (by decide)]; exact ⟨rfl, rfl⟩))
  · have hQ := hC.pg p hp
    exact hQ.mv (low 3 (by decide) (by decide) (by decide)) (tg _ _ hQ.2.1 (by decide) (by decide)) (tg _ _ hQ.2.2.1 (by decide) (by decide)) (s2 _ _ (by decide) (by decide)) (s2 _ _ (by decide) (by decide)) (s2 _ _ (by decide) (by decide)) (fun i _ _ => s2 _ _ (by decide) (by decide)) rfl rfl
  · have hK := hC.pc k hk
    exact hK.mv (by rw [low 4 (by decide) (by decide) (by decide)]) (by rw [low 3 (by decide) (by decide) (by decide)]) (fun i _ _ => by rw [tg _ _ hK.2.1 (by decide) (by decide)]) (tg _ _ hK.2.2.1 (by decide) (by decide)) (s2 _ _ (by decide) (by decide)) (s2 _ _ (by decide) (by decide)) (s2 _ _ (by decide) (by decide)) (s2 _ _ (by decide) (by decide)) (s2 _ _ (by decide) (by decide)) (s2 _ _ (by decide) (by decide)) (s2 _ _ (by decide) (by decide)) (swl k) rfl rfl
  · have hO := hC.od o ho
    obtain ⟨q1, q2, q3, -⟩ := hO.2.2.2.1
    have hne := hO.2.2.2.2
    have hoc := hI.oc
    have ho2 : o < 10 := by have := ho.2; omega
    exact hO.mv (by rw [low 6 (by decide) (by decide) (by decide)]) (tg _ _ hO.2.1 (by decide) (by decide)) (hm _ hne (ne_sh q2 r3 (by decide))) (hm _ (ne_sh q3 r2 (by decide)) (by omega)) (Or.inl (by rw [e1])) (fun x h1 h2 => by
      by_cases hx : x = 57
      · rw [hx]; exact s57 o (by omega)
      · exact s2 x o (by omega) hx) (fun i h1 h2 => s56 _ (by omega)) (hI.sm o).2 rfl rfl rfl
theorem cc_wipe {G : GP} {l : Launch} {w : NS} {S M : MM} (hI : SInv S) (hC : CInv S w M) : CT_X9_wipe G l [(2, 1)] w M (PC M (op_wipe S)) := by
  refine E_X9_wipe (fun X hX C => ?_)
  refine B_X9_wipe_0 C ?_
  obtain ⟨r1, r2, r3, r4, r5⟩ := hC.sp
  refine ⟨r2, pc_u (S1 := up S 57 10 0) (by unfold op_wipe; rw [r4]) (hC.rule hI (fun x h1 _ => up_fn h1) (fun x _ h => up_fn h) (fun o h => up_ni h) (fun i _ => up_na (by decide)) ⟨r1, r2, r3, by rw [up_eq, up_eq], fun i h1 h2 => by rw [up_eq] at h2; omega⟩) (frc_up (FrC.rfl' M) _ (by omega))⟩
theorem cc_say {G : GP} {l : Launch} {w : NS} {S M : MM} {a : Int} (hI : SInv S) (hC : CInv S w M) : CT_X9_say G l [(2, 1), (0, a)] w M (PC M (op_say S a)) := by
  refine E_X9_say (fun _ X hX C => ?_)
  refine B_X9_say_0 C ?_
  obtain ⟨r1, r2, r3, r4, r5⟩ := hC.sp
  have hm := hI.sm 10
  rw [r4]
  refine ⟨fun h => ⟨r2, fun h2 => ⟨by omega, by omega, by omega, ?_⟩, fun h2 => pc_s hC (by unfold op_say; grind)⟩, fun h => pc_s hC (by unfold op_say; grind)⟩
  have e : op_say S a = (S 57 10 + 1, up (up S 56 (400 + S 57 10) a) 57 10 (S 57 10 + 1)) := by unfold op_say; rw [if_pos h, if_neg (by omega)]
  refine pc_u e (hC.rule hI (fun x h1 h3 => (up_fn h1).trans (up_fn h3)) (fun x h1 h3 => (up_fn h3).trans (up_fn h1)) (fun o h1 => (up_ni h1).trans (up_na (by decide))) (fun i h1 => (up_na (by decide)).trans (up_ni (by omega))) ⟨r1, r2, r3, by rw [up_eq, up_eq], fun i h1 h3 => ?_⟩) (frc_up (frc_up (FrC.rfl' M) _ (by omega)) _ (by omega))
  rw [up_eq] at h3
  rw [show up (up M (M 1 8 + 1) (S 57 10) a) (M 1 8) 1 (S 57 10 + 1) (M 1 8 + 1) i = up M (M 1 8 + 1) (S 57 10) a (M 1 8 + 1) i from up_na (by omega), show up (up S 56 (400 + S 57 10) a) 57 10 (S 57 10 + 1) 56 (40 * 10 + i) = up S 56 (400 + S 57 10) a 56 (40 * 10 + i) from up_na (by decide)]
  by_cases hi : i = S 57 10
  · rw [hi, up_eq, show 40 * 10 + S 57 10 = 400 + S 57 10 by omega, up_eq]
  · rw [up_ni hi, up_ni (by omega)]
    exact r5 i h1 (by omega)
