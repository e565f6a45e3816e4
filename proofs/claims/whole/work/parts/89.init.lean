/-! THE MAKERS of the class and of the model -/
theorem iR {x : Int} (h1 : -2147483648 ≤ x) (h2 : x ≤ 2147483647) : inR x := ⟨h1, by omega⟩
theorem Q_X9_init_190 {G : GP} {X : BX} {P : Int → NS → MM → Prop} {l0 l1 : Int} {rc rs : Nat} {w : NS} {M : MM} (C : CX_X9_init G X) (h1 : 4 ≤ l1) (h : A_X9_init_216 G X P l0 0 rc rs w M) : A_X9_init_190 G X P l0 l1 rc rs w M := by
  unfold A_X9_init_190
  refine s_iload_n C (d_of DX9_init 108 rfl) rfl ?_
  refine s_iconst C (d_of DX9_init 109 rfl) (by decide) ?_
  refine s_icmpge C (d_of DX9_init 110 rfl) rfl (fun hc => ?_) (fun hc => absurd h1 hc)
  refine s_iconst C (d_of DX9_init 120 rfl) (by decide) ?_
  refine s_istore_n (ls' := [(2, l0), (0, 0)]) C (d_of DX9_init 121 rfl) (by decide) rfl rfl ?_
  exact h
theorem Q_X9_init_216 {G : GP} {X : BX} {P : Int → NS → MM → Prop} {l0 l1 : Int} {rc rs : Nat} {w : NS} {M : MM} (C : CX_X9_init G X) (h1 : 4 ≤ l1) (h : P 0 w M) : A_X9_init_216 G X P l0 l1 rc rs w M := by
  unfold A_X9_init_216
  refine s_iload_n C (d_of DX9_init 122 rfl) rfl ?_
  refine s_iconst C (d_of DX9_init 123 rfl) (by decide) ?_
  refine s_icmpge C (d_of DX9_init 124 rfl) rfl (fun hc => ?_) (fun hc => absurd h1 hc)
  exact s_vreturn C (d_of DX9_init 134 rfl) h
theorem ce_X9 {G : GP} {l : Launch} : CT_X9_init G l [(2, 1)] (wN 2) M00 (EX (wN 41) M01) := by
  refine E_X9_init (fun X hX C => ?_)
  refine B_X9_init_0 (rc := 37) (rs := 1757) C ⟨by decide +kernel, wst (by decide) (by decide +kernel) ⟨by decide +kernel, ?_⟩⟩
  rintro _ rfl _ rfl _ rfl _ rfl _ rfl _ rfl _ rfl _ rfl _ rfl _ rfl
  refine wst (by decide) (by decide +kernel) ?_
  rintro _ rfl
  refine B_X9_init_65 (rc := 36) (rs := 1733) C ⟨by decide +kernel, ?_⟩
  rintro _ rfl
  refine wst (by decide) (by decide +kernel) ⟨by decide +kernel, ?_⟩
  rintro _ rfl
  refine B_X9_init_79 (rc := 35) (rs := 1709) C ⟨by decide +kernel, ?_⟩
  rintro _ rfl
  refine wst (by decide) (by decide +kernel) ⟨by decide +kernel, ?_⟩
  rintro _ rfl
  refine B_X9_init_93 (rc := 34) (rs := 1699) C (wst (by decide) (by decide +kernel) ⟨by decide +kernel, ?_⟩)
  rintro _ rfl _ rfl
  refine B_X9_init_107 (rc := 29) (rs := 1569) C (wst (by decide) (by decide +kernel) ⟨_, ce_X8 (by decide) (by decide +kernel) (by decide +kernel), ?_⟩)
  rintro _ _ _ ⟨rfl, rfl⟩
  refine ⟨by decide +kernel, by decide +kernel, by decide +kernel, ?_⟩
  rintro _ rfl
  refine wst (by decide) (by decide +kernel) ⟨by decide +kernel, _, ce_X1 (by decide) (by decide +kernel) (by decide +kernel) (by decide +kernel), ?_⟩
  rintro _ _ _ ⟨rfl, rfl⟩
  refine ⟨by decide +kernel, by decide +kernel, by decide +kernel, by decide +kernel, by decide +kernel, by decide +kernel, ?_⟩
  rintro _ rfl
  refine B_X9_init_129 (rc := 28) (rs := 1545) C (wst (by decide) (by decide +kernel) ⟨by decide +kernel, ?_⟩)
  rintro _ rfl _ rfl
  refine B_X9_init_142 (rc := 22) (rs := 997) C (wst (by decide) (by decide +kernel) ⟨by decide +kernel, ?_⟩)
  rintro _ rfl
  refine wst (by decide) (by decide +kernel) ⟨by decide +kernel, _, ce_X0 (by decide) (by decide +kernel) (by decide +kernel) (by decide +kernel) (by decide +kernel) (by decide +kernel), ?_⟩
  rintro _ _ _ ⟨rfl, rfl⟩
  refine ⟨by decide +kernel, by decide +kernel, by decide +kernel, by decide +kernel, by decide +kernel, by decide +kernel, ?_⟩
  rintro _ rfl
  refine B_X9_init_161 (rc := 17) (rs := 470) C (wst (by decide) (by decide +kernel) ⟨by decide +kernel, ?_⟩)
  rintro _ rfl
  refine wst (by decide) (by decide +kernel) ⟨by decide +kernel, _, ce_X5 (by decide) (by decide +kernel) (by decide +kernel) (by decide +kernel) (by decide +kernel), ?_⟩
  rintro _ _ _ ⟨rfl, rfl⟩
  refine ⟨by decide +kernel, by decide +kernel, by decide +kernel, by decide +kernel, by decide +kernel, by decide +kernel, ?_⟩
  rintro _ rfl
  refine B_X9_init_180 (rc := 16) (rs := 464) C (wst (by decide) (by decide +kernel) ⟨by decide +kernel, ?_⟩)
  rintro _ rfl
  refine B_X9_init_190 (rc := 14) (rs := 362) C ⟨fun h => absurd h (by decide), fun h => ⟨by decide +kernel, wst (by decide) (by decide +kernel) ⟨by decide +kernel, _, ce_X2 (by decide) (by decide +kernel) (by decide +kernel), ?_⟩⟩⟩
  rintro _ _ _ ⟨rfl, rfl⟩
  refine ⟨by decide +kernel, by decide +kernel, by decide +kernel, by decide +kernel, by decide +kernel, by decide, by decide, ?_⟩
  rintro _ rfl
  refine ⟨iR (by decide) (by decide), ?_⟩
  refine B_X9_init_190 (rc := 12) (rs := 260) C ⟨fun h => absurd h (by decide), fun h => ⟨by decide +kernel, wst (by decide) (by decide +kernel) ⟨by decide +kernel, _, ce_X2 (by decide) (by decide +kernel) (by decide +kernel), ?_⟩⟩⟩
  rintro _ _ _ ⟨rfl, rfl⟩
  refine ⟨by decide +kernel, by decide +kernel, by decide +kernel, by decide +kernel, by decide +kernel, by decide, by decide, ?_⟩
  rintro _ rfl
  refine ⟨iR (by decide) (by decide), ?_⟩
  refine B_X9_init_190 (rc := 10) (rs := 158) C ⟨fun h => absurd h (by decide), fun h => ⟨by decide +kernel, wst (by decide) (by decide +kernel) ⟨by decide +kernel, _, ce_X2 (by decide) (by decide +kernel) (by decide +kernel), ?_⟩⟩⟩
  rintro _ _ _ ⟨rfl, rfl⟩
  refine ⟨by decide +kernel, by decide +kernel, by decide +kernel, by decide +kernel, by decide +kernel, by decide, by decide, ?_⟩
  rintro _ rfl
  refine ⟨iR (by decide) (by decide), ?_⟩
  refine B_X9_init_190 (rc := 8) (rs := 56) C ⟨fun h => absurd h (by decide), fun h => ⟨by decide +kernel, wst (by decide) (by decide +kernel) ⟨by decide +kernel, _, ce_X2 (by decide) (by decide +kernel) (by decide +kernel), ?_⟩⟩⟩
  rintro _ _ _ ⟨rfl, rfl⟩
  refine ⟨by decide +kernel, by decide +kernel, by decide +kernel, by decide +kernel, by decide +kernel, by decide, by decide, ?_⟩
  rintro _ rfl
  refine ⟨iR (by decide) (by decide), ?_⟩
  refine Q_X9_init_190 C (by decide) ?_
  refine B_X9_init_216 (rc := 6) (rs := 42) C ⟨fun h => absurd h (by decide), fun h => ⟨by decide +kernel, wst (by decide) (by decide +kernel) ⟨by decide +kernel, _, ce_X7 (by decide) (by decide +kernel) (by decide +kernel), ?_⟩⟩⟩
  rintro _ _ _ ⟨rfl, rfl⟩
  refine ⟨by decide +kernel, by decide +kernel, by decide +kernel, by decide +kernel, by decide +kernel, by decide, by decide, ?_⟩
  rintro _ rfl
  refine ⟨iR (by decide) (by decide), ?_⟩
  refine B_X9_init_216 (rc := 4) (rs := 28) C ⟨fun h => absurd h (by decide), fun h => ⟨by decide +kernel, wst (by decide) (by decide +kernel) ⟨by decide +kernel, _, ce_X7 (by decide) (by decide +kernel) (by decide +kernel), ?_⟩⟩⟩
  rintro _ _ _ ⟨rfl, rfl⟩
  refine ⟨by decide +kernel, by decide +kernel, by decide +kernel, by decide +kernel, by decide +kernel, by decide, by decide, ?_⟩
  rintro _ rfl
  refine ⟨iR (by decide) (by decide), ?_⟩
  refine B_X9_init_216 (rc := 2) (rs := 14) C ⟨fun h => absurd h (by decide), fun h => ⟨by decide +kernel, wst (by decide) (by decide +kernel) ⟨by decide +kernel, _, ce_X7 (by decide) (by decide +kernel) (by decide +kernel), ?_⟩⟩⟩
  rintro _ _ _ ⟨rfl, rfl⟩
  refine ⟨by decide +kernel, by decide +kernel, by decide +kernel, by decide +kernel, by decide +kernel, by decide, by decide, ?_⟩
  rintro _ rfl
  refine ⟨iR (by decide) (by decide), ?_⟩
  refine B_X9_init_216 (rc := 0) (rs := 0) C ⟨fun h => absurd h (by decide), fun h => ⟨by decide +kernel, wst (by decide) (by decide +kernel) ⟨by decide +kernel, _, ce_X7 (by decide) (by decide +kernel) (by decide +kernel), ?_⟩⟩⟩
  rintro _ _ _ ⟨rfl, rfl⟩
  refine ⟨by decide +kernel, by decide +kernel, by decide +kernel, by decide +kernel, by decide +kernel, by decide, by decide, ?_⟩
  rintro _ rfl
  refine ⟨iR (by decide) (by decide), ?_⟩
  refine Q_X9_init_216 C (by decide) ?_
  exact ⟨rfl, rfl⟩
