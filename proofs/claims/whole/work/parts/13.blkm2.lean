def A_X10_isRule_0 (G : GP) (X : BX) (P : Int → NS → MM → Prop) (l1 : Int) (l2 : Int) (w : NS) (M : MM) : Prop := WA true G X (QM G X true 0 P) 6 0 [(2, 41), (0, l1), (0, l2), (3, 0), (3, 0), (3, 0)] [] 0 0 w M
def A_X10_isRule_33 (G : GP) (X : BX) (P : Int → NS → MM → Prop) (l3 : Int) (l4 : Int) (w : NS) (M : MM) : Prop := WA true G X (QM G X true 0 P) 6 33 [(2, 41), (3, 0), (3, 0), (0, l3), (0, l4), (3, 0)] [] 0 0 w M
set_option maxHeartbeats 4000000 in
set_option maxRecDepth 100000 in
theorem B_X10_isRule_0 {G : GP} {X : BX} {P : Int → NS → MM → Prop} {l1 : Int} {l2 : Int} {w : NS} {M : MM} (C : CX_X10_isRule G X) (h : ∃ Q2 : Int → NS → MM → Prop, CT_X10_layOne G X.2.1 [(2, 41), (0, l2)] w M Q2 ∧ ∀ (z2 : Int) (w2 : NS) (M2 : MM), Q2 z2 w2 M2 → ∃ Q4 : Int → NS → MM → Prop, CT_X10_begin G X.2.1 [(2, 41), (0, 0)] w2 M2 Q4 ∧ ∀ (z4 : Int) (w4 : NS) (M4 : MM), Q4 z4 w4 M4 → (inR (40 * l1)) ∧ (0 ≤ l1) ∧ (l1 < 11) ∧ (inR ((40 * l1) + (M4 57 l1))) ∧ A_X10_isRule_33 G X P 0 ((40 * l1) + (M4 57 l1)) w4 (up M4 41 30 (40 * l1))) : A_X10_isRule_0 G X P l1 l2 w M := by
  unfold A_X10_isRule_0
  refine s_aload_n C (d_of DX10_isRule 0 rfl) rfl ?_
  refine s_iload_n C (d_of DX10_isRule 1 rfl) rfl ?_
  refine WA.fix (fun hF1 => ?_)
  obtain ⟨Q2, hKQ2, h⟩ := h
  refine s_callV (ci := 10) (av := [(0, l2)]) (rest := []) (mc := 0) (ms := 0) C (d_of DX10_isRule 2 rfl) lk_X10_179 (sh_41 hF1) (by decide) rfl rfl rfl (Nat.le_of_ble_eq_true rfl) (by decide) (by decide) hKQ2 (fun z2 w2 M2 hq => ?_)
  have h := h z2 w2 M2 hq
  refine s_iconst C (d_of DX10_isRule 3 rfl) (by decide) ?_
  refine s_istore_n (ls' := [(2, 41), (0, l1), (0, l2), (0, 0), (3, 0), (3, 0)]) C (d_of DX10_isRule 4 rfl) (by decide) rfl rfl ?_
  refine s_aload_n C (d_of DX10_isRule 5 rfl) rfl ?_
  refine s_iconst C (d_of DX10_isRule 6 rfl) (by decide) ?_
  refine WA.fix (fun hF3 => ?_)
  obtain ⟨Q4, hKQ4, h⟩ := h
  refine s_callV (ci := 10) (av := [(0, 0)]) (rest := []) (mc := 0) (ms := 0) C (d_of DX10_isRule 7 rfl) lk_X10_239 (sh_41 hF3) (by decide) rfl rfl rfl (Nat.le_of_ble_eq_true rfl) (by decide) (by decide) hKQ4 (fun z4 w4 M4 hq => ?_)
  have h := h z4 w4 M4 hq
  refine s_aload_n C (d_of DX10_isRule 8 rfl) rfl ?_
  refine s_bipush C (d_of DX10_isRule 9 rfl) ⟨rfl, by decide, by decide⟩ ?_
  refine s_iload_n C (d_of DX10_isRule 10 rfl) rfl ?_
  obtain ⟨o5, h⟩ := h
  refine s_imul C (d_of DX10_isRule 11 rfl) o5 ?_
  refine WA.fix (fun hF6 => ?_)
  refine pf_X10_226 C (sh_41 hF6) (fun _ => by decide) (d_of DX10_isRule 12 rfl) ?_
  refine s_aload_n C (d_of DX10_isRule 13 rfl) rfl ?_
  refine gf_X10_226 (v0 := (40 * l1)) C (sh_41 hF6) (d_of DX10_isRule 14 rfl) (up_eq) ?_
  refine s_aload_n C (d_of DX10_isRule 15 rfl) rfl ?_
  refine WA.fix (fun hF7 => ?_)
  refine gf_X10_55 C (sh_41 hF6) (d_of DX10_isRule 16 rfl) (fx_41_19 hF7) ?_
  refine s_iload_n C (d_of DX10_isRule 17 rfl) rfl ?_
  obtain ⟨o8, h⟩ := h
  obtain ⟨o9, h⟩ := h
  refine s_iald (v0 := (M4 57 l1)) C (sh_57 hF7) o8 o9 (d_of DX10_isRule 18 rfl) (up_na (by decide)) ?_
  obtain ⟨o10, h⟩ := h
  refine s_iadd C (d_of DX10_isRule 19 rfl) o10 ?_
  refine s_istore (ls' := [(2, 41), (0, l1), (0, l2), (0, 0), (0, ((40 * l1) + (M4 57 l1))), (3, 0)]) C (d_of DX10_isRule 20 rfl) (by decide) rfl rfl ?_
  exact WA.wk h ⟨Or.inr rfl, Or.inl rfl, Or.inl rfl, Or.inr rfl, Or.inr rfl, Or.inl rfl, trivial⟩
set_option maxHeartbeats 4000000 in
set_option maxRecDepth 100000 in
theorem B_X10_isRule_33 {G : GP} {X : BX} {P : Int → NS → MM → Prop} {l3 : Int} {l4 : Int} {w : NS} {M : MM} (C : CX_X10_isRule G X) (h : (((l4 ≤ (M 41 30)) → ((((M 64 0) ≠ 0) → P 1 w M) ∧ ((¬ ((M 64 0) ≠ 0)) → ((((M 65 0) = 0) → P 0 w M) ∧ ((¬ ((M 65 0) = 0)) → P 1 w M))))) ∧ ((¬ (l4 ≤ (M 41 30))) → (0 ≤ (M 41 30)) ∧ ((M 41 30) < 440) ∧ (((¬ (48 ≤ (M 56 (M 41 30)) ∧ (M 56 (M 41 30)) ≤ 57)) → (inR ((M 41 30) + 1)) ∧ ((((M 56 (M 41 30)) ≠ 33) → ((((M 56 (M 41 30)) ≠ 40) → ((((M 56 (M 41 30)) ≠ 41) → ((((M 56 (M 41 30)) ≠ 124) → A_X10_isRule_33 G X P l3 l4 w (up M 41 30 ((M 41 30) + 1))) ∧ ((¬ ((M 56 (M 41 30)) ≠ 124)) → (0 ≤ l3) ∧ (l3 < 10) ∧ ((((M 64 l3) ≠ 0) → A_X10_isRule_33 G X P l3 l4 w (up (up (up M 41 30 ((M 41 30) + 1)) 64 l3 1) 65 l3 1)) ∧ ((¬ ((M 64 l3) ≠ 0)) → ((((M 65 l3) = 0) → A_X10_isRule_33 G X P l3 l4 w (up (up (up M 41 30 ((M 41 30) + 1)) 64 l3 0) 65 l3 1)) ∧ ((¬ ((M 65 l3) = 0)) → A_X10_isRule_33 G X P l3 l4 w (up (up (up M 41 30 ((M 41 30) + 1)) 64 l3 1) 65 l3 1)))))))) ∧ ((¬ ((M 56 (M 41 30)) ≠ 41)) → (inR (l3 + (-1))) ∧ (inR ((l3 + (-1)) + 1)) ∧ (0 ≤ ((l3 + (-1)) + 1)) ∧ (((l3 + (-1)) + 1) < 10) ∧ ((((M 64 ((l3 + (-1)) + 1)) ≠ 0) → ∃ Q17 : Int → NS → MM → Prop, CT_X10_join G X.2.1 [(2, 41), (0, (l3 + (-1))), (0, 1)] w (up M 41 30 ((M 41 30) + 1)) Q17 ∧ ∀ (z17 : Int) (w17 : NS) (M17 : MM), Q17 z17 w17 M17 → A_X10_isRule_33 G X P (l3 + (-1)) l4 w17 M17) ∧ ((¬ ((M 64 ((l3 + (-1)) + 1)) ≠ 0)) → ((((M 65 ((l3 + (-1)) + 1)) = 0) → ∃ Q18 : Int → NS → MM → Prop, CT_X10_join G X.2.1 [(2, 41), (0, (l3 + (-1))), (0, 0)] w (up M 41 30 ((M 41 30) + 1)) Q18 ∧ ∀ (z18 : Int) (w18 : NS) (M18 : MM), Q18 z18 w18 M18 → A_X10_isRule_33 G X P (l3 + (-1)) l4 w18 M18) ∧ ((¬ ((M 65 ((l3 + (-1)) + 1)) = 0)) → ∃ Q19 : Int → NS → MM → Prop, CT_X10_join G X.2.1 [(2, 41), (0, (l3 + (-1))), (0, 1)] w (up M 41 30 ((M 41 30) + 1)) Q19 ∧ ∀ (z19 : Int) (w19 : NS) (M19 : MM), Q19 z19 w19 M19 → A_X10_isRule_33 G X P (l3 + (-1)) l4 w19 M19))))))) ∧ ((¬ ((M 56 (M 41 30)) ≠ 40)) → (inR (l3 + 1)) ∧ ∃ Q21 : Int → NS → MM → Prop, CT_X10_begin G X.2.1 [(2, 41), (0, (l3 + 1))] w (up M 41 30 ((M 41 30) + 1)) Q21 ∧ ∀ (z21 : Int) (w21 : NS) (M21 : MM), Q21 z21 w21 M21 → A_X10_isRule_33 G X P (l3 + 1) l4 w21 M21))) ∧ ((¬ ((M 56 (M 41 30)) ≠ 33)) → (0 ≤ l3) ∧ (l3 < 10) ∧ ((((M 66 l3) ≠ 0) → A_X10_isRule_33 G X P l3 l4 w (up (up M 41 30 ((M 41 30) + 1)) 66 l3 0)) ∧ ((¬ ((M 66 l3) ≠ 0)) → A_X10_isRule_33 G X P l3 l4 w (up (up M 41 30 ((M 41 30) + 1)) 66 l3 1)))))) ∧ (((48 ≤ (M 56 (M 41 30)) ∧ (M 56 (M 41 30)) ≤ 57)) → ∃ Q25 : Int → NS → MM → Prop, CT_X10_isItem G X.2.1 [(2, 41), (0, l4)] w M Q25 ∧ ∀ (z25 : Int) (w25 : NS) (M25 : MM), Q25 z25 w25 M25 → ∃ Q27 : Int → NS → MM → Prop, CT_X10_join G X.2.1 [(2, 41), (0, l3), (0, z25)] w25 M25 Q27 ∧ ∀ (z27 : Int) (w27 : NS) (M27 : MM), Q27 z27 w27 M27 → A_X10_isRule_33 G X P l3 l4 w27 M27))))) : A_X10_isRule_33 G X P l3 l4 w M := by
  unfold A_X10_isRule_33
  refine s_aload_n C (d_of DX10_isRule 21 rfl) rfl ?_
  refine WA.fix (fun hF1 => ?_)
  refine gf_X10_226 (v0 := (M 41 30)) C (sh_41 hF1) (d_of DX10_isRule 22 rfl) rfl ?_
  refine s_iload C (d_of DX10_isRule 23 rfl) rfl ?_
  refine s_icmpge C (d_of DX10_isRule 24 rfl) rfl (fun hc => ?_) (fun hc => ?_)
  · have h := h.1 hc
    refine s_aload_n C (d_of DX10_isRule 122 rfl) rfl ?_
    refine gf_X10_77 C (sh_41 hF1) (d_of DX10_isRule 123 rfl) (fx_41_27 hF1) ?_
    refine s_iconst C (d_of DX10_isRule 124 rfl) (by decide) ?_
    refine s_zald (v0 := (M 64 0)) C (sh_64 hF1) (by decide) (by decide) (d_of DX10_isRule 125 rfl) rfl ?_
    refine s_ifne C (d_of DX10_isRule 126 rfl) rfl (fun hc => ?_) (fun hc => ?_)
    · have h := h.1 hc
      refine s_iconst C (d_of DX10_isRule 132 rfl) (by decide) ?_
      refine s_goto C (d_of DX10_isRule 133 rfl) rfl ?_
      exact s_zreturn C (d_of DX10_isRule 135 rfl) (by decide) h
    · have h := h.2 hc
      refine s_aload_n C (d_of DX10_isRule 127 rfl) rfl ?_
      refine gf_X10_80 C (sh_41 hF1) (d_of DX10_isRule 128 rfl) (fx_41_28 hF1) ?_
      refine s_iconst C (d_of DX10_isRule 129 rfl) (by decide) ?_
      refine s_zald (v0 := (M 65 0)) C (sh_65 hF1) (by decide) (by decide) (d_of DX10_isRule 130 rfl) rfl ?_
      refine s_ifeq C (d_of DX10_isRule 131 rfl) rfl (fun hc => ?_) (fun hc => ?_)
      · have h := h.1 hc
        refine s_iconst C (d_of DX10_isRule 134 rfl) (by decide) ?_
        exact s_zreturn C (d_of DX10_isRule 135 rfl) (by decide) h
      · have h := h.2 hc
        refine s_iconst C (d_of DX10_isRule 132 rfl) (by decide) ?_
        refine s_goto C (d_of DX10_isRule 133 rfl) rfl ?_
        exact s_zreturn C (d_of DX10_isRule 135 rfl) (by decide) h
  · have h := h.2 hc
    refine s_aload_n C (d_of DX10_isRule 25 rfl) rfl ?_
    refine gf_X10_52 C (sh_41 hF1) (d_of DX10_isRule 26 rfl) (fx_41_18 hF1) ?_
    refine s_aload_n C (d_of DX10_isRule 27 rfl) rfl ?_
    refine gf_X10_226 (v0 := (M 41 30)) C (sh_41 hF1) (d_of DX10_isRule 28 rfl) rfl ?_
    obtain ⟨o2, h⟩ := h
    obtain ⟨o3, h⟩ := h
    refine s_iald (v0 := (M 56 (M 41 30))) C (sh_56 hF1) o2 o3 (d_of DX10_isRule 29 rfl) rfl ?_
    refine s_istore (ls' := [(2, 41), (3, 0), (3, 0), (0, l3), (0, l4), (0, (M 56 (M 41 30)))]) C (d_of DX10_isRule 30 rfl) (by decide) rfl rfl ?_
    refine s_iload C (d_of DX10_isRule 31 rfl) rfl ?_
    refine s_callS (av := [(0, (M 56 (M 41 30)))]) (rest := []) (mc := 0) (ms := 0) C (d_of DX10_isRule 32 rfl) lk_X10_209 rfl rfl (Nat.le_of_ble_eq_true rfl) (by decide) (by decide) (pc_X10_isDigit) (fun z4 wz4 Mz4 hq => ?_)
    obtain ⟨hq1, hq2, hq3⟩ := hq
    have hq2 := hq2.symm
    have hq3 := hq3.symm
    subst hq1 hq2 hq3
    refine s_ifeq C (d_of DX10_isRule 33 rfl) rfl (fun hc => ?_) (fun hc => ?_)
    · have h := h.1 (b2i_0.mp hc)
      refine s_aload_n C (d_of DX10_isRule 41 rfl) rfl ?_
      refine s_dup C (by simp) (d_of DX10_isRule 42 rfl) ?_
      refine gf_X10_226 (v0 := (M 41 30)) C (sh_41 hF1) (d_of DX10_isRule 43 rfl) rfl ?_
      refine s_iconst C (d_of DX10_isRule 44 rfl) (by decide) ?_
      obtain ⟨o5, h⟩ := h
      refine s_iadd C (d_of DX10_isRule 45 rfl) o5 ?_
      refine pf_X10_226 C (sh_41 hF1) (fun _ => by decide) (d_of DX10_isRule 46 rfl) ?_
      refine s_iload C (d_of DX10_isRule 47 rfl) rfl ?_
      refine s_bipush C (d_of DX10_isRule 48 rfl) ⟨rfl, by decide, by decide⟩ ?_
      refine s_icmpne C (d_of DX10_isRule 49 rfl) rfl (fun hc => ?_) (fun hc => ?_)
      · have h := h.1 hc
        refine s_iload C (d_of DX10_isRule 63 rfl) rfl ?_
        refine s_bipush C (d_of DX10_isRule 64 rfl) ⟨rfl, by decide, by decide⟩ ?_
        refine s_icmpne C (d_of DX10_isRule 65 rfl) rfl (fun hc => ?_) (fun hc => ?_)
        · have h := h.1 hc
          refine s_iload C (d_of DX10_isRule 71 rfl) rfl ?_
          refine s_bipush C (d_of DX10_isRule 72 rfl) ⟨rfl, by decide, by decide⟩ ?_
          refine s_icmpne C (d_of DX10_isRule 73 rfl) rfl (fun hc => ?_) (fun hc => ?_)
          · have h := h.1 hc
            refine s_iload C (d_of DX10_isRule 96 rfl) rfl ?_
            refine s_bipush C (d_of DX10_isRule 97 rfl) ⟨rfl, by decide, by decide⟩ ?_
            refine s_icmpne C (d_of DX10_isRule 98 rfl) rfl (fun hc => ?_) (fun hc => ?_)
            · have h := h.1 hc
              refine s_goto C (d_of DX10_isRule 121 rfl) rfl ?_
              exact WA.wk h ⟨Or.inr rfl, Or.inl rfl, Or.inl rfl, Or.inr rfl, Or.inr rfl, Or.inl rfl, trivial⟩
            · have h := h.2 hc
              refine s_aload_n C (d_of DX10_isRule 99 rfl) rfl ?_
              refine WA.fix (fun hF6 => ?_)
              refine gf_X10_77 C (sh_41 hF1) (d_of DX10_isRule 100 rfl) (fx_41_27 hF6) ?_
              refine s_iload_n C (d_of DX10_isRule 101 rfl) rfl ?_
              refine s_aload_n C (d_of DX10_isRule 102 rfl) rfl ?_
              refine gf_X10_77 C (sh_41 hF1) (d_of DX10_isRule 103 rfl) (fx_41_27 hF6) ?_
              refine s_iload_n C (d_of DX10_isRule 104 rfl) rfl ?_
              obtain ⟨o7, h⟩ := h
              obtain ⟨o8, h⟩ := h
              refine s_zald (v0 := (M 64 l3)) C (sh_64 hF6) o7 o8 (d_of DX10_isRule 105 rfl) (up_na (by decide)) ?_
              refine s_ifne C (d_of DX10_isRule 106 rfl) rfl (fun hc => ?_) (fun hc => ?_)
              · have h := h.1 hc
                refine s_iconst C (d_of DX10_isRule 112 rfl) (by decide) ?_
                refine s_goto C (d_of DX10_isRule 113 rfl) rfl ?_
                refine s_zast C (sh_64 hF6) o7 o8 (by decide) (fun _ => by decide) (d_of DX10_isRule 115 rfl) ?_
                refine s_aload_n C (d_of DX10_isRule 116 rfl) rfl ?_
                refine WA.fix (fun hF9 => ?_)
                refine gf_X10_80 C (sh_41 hF1) (d_of DX10_isRule 117 rfl) (fx_41_28 hF9) ?_
                refine s_iload_n C (d_of DX10_isRule 118 rfl) rfl ?_
                refine s_iconst C (d_of DX10_isRule 119 rfl) (by decide) ?_
                refine s_zast C (sh_65 hF9) o7 o8 (by decide) (fun _ => by decide) (d_of DX10_isRule 120 rfl) ?_
                refine s_goto C (d_of DX10_isRule 121 rfl) rfl ?_
                exact WA.wk h ⟨Or.inr rfl, Or.inl rfl, Or.inl rfl, Or.inr rfl, Or.inr rfl, Or.inl rfl, trivial⟩
              · have h := h.2 hc
                refine s_aload_n C (d_of DX10_isRule 107 rfl) rfl ?_
                refine gf_X10_80 C (sh_41 hF1) (d_of DX10_isRule 108 rfl) (fx_41_28 hF6) ?_
                refine s_iload_n C (d_of DX10_isRule 109 rfl) rfl ?_
                refine s_zald (v0 := (M 65 l3)) C (sh_65 hF6) o7 o8 (d_of DX10_isRule 110 rfl) (up_na (by decide)) ?_
                refine s_ifeq C (d_of DX10_isRule 111 rfl) rfl (fun hc => ?_) (fun hc => ?_)
                · have h := h.1 hc
                  refine s_iconst C (d_of DX10_isRule 114 rfl) (by decide) ?_
                  refine s_zast C (sh_64 hF6) o7 o8 (by decide) (fun _ => by decide) (d_of DX10_isRule 115 rfl) ?_
                  refine s_aload_n C (d_of DX10_isRule 116 rfl) rfl ?_
                  refine WA.fix (fun hF10 => ?_)
                  refine gf_X10_80 C (sh_41 hF1) (d_of DX10_isRule 117 rfl) (fx_41_28 hF10) ?_
                  refine s_iload_n C (d_of DX10_isRule 118 rfl) rfl ?_
                  refine s_iconst C (d_of DX10_isRule 119 rfl) (by decide) ?_
                  refine s_zast C (sh_65 hF6) o7 o8 (by decide) (fun _ => by decide) (d_of DX10_isRule 120 rfl) ?_
                  refine s_goto C (d_of DX10_isRule 121 rfl) rfl ?_
                  exact WA.wk h ⟨Or.inr rfl, Or.inl rfl, Or.inl rfl, Or.inr rfl, Or.inr rfl, Or.inl rfl, trivial⟩
                · have h := h.2 hc
                  refine s_iconst C (d_of DX10_isRule 112 rfl) (by decide) ?_
                  refine s_goto C (d_of DX10_isRule 113 rfl) rfl ?_
                  refine s_zast C (sh_64 hF6) o7 o8 (by decide) (fun _ => by decide) (d_of DX10_isRule 115 rfl) ?_
                  refine s_aload_n C (d_of DX10_isRule 116 rfl) rfl ?_
                  refine WA.fix (fun hF11 => ?_)
                  refine gf_X10_80 C (sh_41 hF1) (d_of DX10_isRule 117 rfl) (fx_41_28 hF11) ?_
                  refine s_iload_n C (d_of DX10_isRule 118 rfl) rfl ?_
                  refine s_iconst C (d_of DX10_isRule 119 rfl) (by decide) ?_
                  refine s_zast C (sh_65 hF6) o7 o8 (by decide) (fun _ => by decide) (d_of DX10_isRule 120 rfl) ?_
                  refine s_goto C (d_of DX10_isRule 121 rfl) rfl ?_
                  exact WA.wk h ⟨Or.inr rfl, Or.inl rfl, Or.inl rfl, Or.inr rfl, Or.inr rfl, Or.inl rfl, trivial⟩
          · have h := h.2 hc
            obtain ⟨o12, h⟩ := h
            refine s_iinc (ls' := [(2, 41), (3, 0), (3, 0), (0, (l3 + (-1))), (0, l4), (0, (M 56 (M 41 30)))]) C (d_of DX10_isRule 74 rfl) (by decide) rfl o12 rfl rfl ?_
            refine s_aload_n C (d_of DX10_isRule 75 rfl) rfl ?_
            refine s_iload_n C (d_of DX10_isRule 76 rfl) rfl ?_
            refine s_aload_n C (d_of DX10_isRule 77 rfl) rfl ?_
            refine WA.fix (fun hF13 => ?_)
            refine gf_X10_77 C (sh_41 hF1) (d_of DX10_isRule 78 rfl) (fx_41_27 hF13) ?_
            refine s_iload_n C (d_of DX10_isRule 79 rfl) rfl ?_
            refine s_iconst C (d_of DX10_isRule 80 rfl) (by decide) ?_
            obtain ⟨o14, h⟩ := h
            refine s_iadd C (d_of DX10_isRule 81 rfl) o14 ?_
            obtain ⟨o15, h⟩ := h
            obtain ⟨o16, h⟩ := h
            refine s_zald (v0 := (M 64 ((l3 + (-1)) + 1))) C (sh_64 hF13) o15 o16 (d_of DX10_isRule 82 rfl) (up_na (by decide)) ?_
            refine s_ifne C (d_of DX10_isRule 83 rfl) rfl (fun hc => ?_) (fun hc => ?_)
            · have h := h.1 hc
              refine s_iconst C (d_of DX10_isRule 91 rfl) (by decide) ?_
              refine s_goto C (d_of DX10_isRule 92 rfl) rfl ?_
              obtain ⟨Q17, hKQ17, h⟩ := h
              refine s_callV (ci := 10) (av := [(0, (l3 + (-1))), (0, 1)]) (rest := []) (mc := 0) (ms := 0) C (d_of DX10_isRule 94 rfl) lk_X10_245 (sh_41 hF1) (by decide) rfl rfl rfl (Nat.le_of_ble_eq_true rfl) (by decide) (by decide) hKQ17 (fun z17 w17 M17 hq => ?_)
              have h := h z17 w17 M17 hq
              refine s_goto C (d_of DX10_isRule 95 rfl) rfl ?_
              refine s_goto C (d_of DX10_isRule 121 rfl) rfl ?_
              exact WA.wk h ⟨Or.inr rfl, Or.inl rfl, Or.inl rfl, Or.inr rfl, Or.inr rfl, Or.inl rfl, trivial⟩
            · have h := h.2 hc
              refine s_aload_n C (d_of DX10_isRule 84 rfl) rfl ?_
              refine gf_X10_80 C (sh_41 hF1) (d_of DX10_isRule 85 rfl) (fx_41_28 hF13) ?_
              refine s_iload_n C (d_of DX10_isRule 86 rfl) rfl ?_
              refine s_iconst C (d_of DX10_isRule 87 rfl) (by decide) ?_
              refine s_iadd C (d_of DX10_isRule 88 rfl) o14 ?_
              refine s_zald (v0 := (M 65 ((l3 + (-1)) + 1))) C (sh_65 hF13) o15 o16 (d_of DX10_isRule 89 rfl) (up_na (by decide)) ?_
              refine s_ifeq C (d_of DX10_isRule 90 rfl) rfl (fun hc => ?_) (fun hc => ?_)
              · have h := h.1 hc
                refine s_iconst C (d_of DX10_isRule 93 rfl) (by decide) ?_
                obtain ⟨Q18, hKQ18, h⟩ := h
                refine s_callV (ci := 10) (av := [(0, (l3 + (-1))), (0, 0)]) (rest := []) (mc := 0) (ms := 0) C (d_of DX10_isRule 94 rfl) lk_X10_245 (sh_41 hF1) (by decide) rfl rfl rfl (Nat.le_of_ble_eq_true rfl) (by decide) (by decide) hKQ18 (fun z18 w18 M18 hq => ?_)
                have h := h z18 w18 M18 hq
                refine s_goto C (d_of DX10_isRule 95 rfl) rfl ?_
                refine s_goto C (d_of DX10_isRule 121 rfl) rfl ?_
                exact WA.wk h ⟨Or.inr rfl, Or.inl rfl, Or.inl rfl, Or.inr rfl, Or.inr rfl, Or.inl rfl, trivial⟩
              · have h := h.2 hc
                refine s_iconst C (d_of DX10_isRule 91 rfl) (by decide) ?_
                refine s_goto C (d_of DX10_isRule 92 rfl) rfl ?_
                obtain ⟨Q19, hKQ19, h⟩ := h
                refine s_callV (ci := 10) (av := [(0, (l3 + (-1))), (0, 1)]) (rest := []) (mc := 0) (ms := 0) C (d_of DX10_isRule 94 rfl) lk_X10_245 (sh_41 hF1) (by decide) rfl rfl rfl (Nat.le_of_ble_eq_true rfl) (by decide) (by decide) hKQ19 (fun z19 w19 M19 hq => ?_)
                have h := h z19 w19 M19 hq
                refine s_goto C (d_of DX10_isRule 95 rfl) rfl ?_
                refine s_goto C (d_of DX10_isRule 121 rfl) rfl ?_
                exact WA.wk h ⟨Or.inr rfl, Or.inl rfl, Or.inl rfl, Or.inr rfl, Or.inr rfl, Or.inl rfl, trivial⟩
        · have h := h.2 hc
          obtain ⟨o20, h⟩ := h
          refine s_iinc (ls' := [(2, 41), (3, 0), (3, 0), (0, (l3 + 1)), (0, l4), (0, (M 56 (M 41 30)))]) C (d_of DX10_isRule 66 rfl) (by decide) rfl o20 rfl rfl ?_
          refine s_aload_n C (d_of DX10_isRule 67 rfl) rfl ?_
          refine s_iload_n C (d_of DX10_isRule 68 rfl) rfl ?_
          obtain ⟨Q21, hKQ21, h⟩ := h
          refine s_callV (ci := 10) (av := [(0, (l3 + 1))]) (rest := []) (mc := 0) (ms := 0) C (d_of DX10_isRule 69 rfl) lk_X10_239 (sh_41 hF1) (by decide) rfl rfl rfl (Nat.le_of_ble_eq_true rfl) (by decide) (by decide) hKQ21 (fun z21 w21 M21 hq => ?_)
          have h := h z21 w21 M21 hq
          refine s_goto C (d_of DX10_isRule 70 rfl) rfl ?_
          refine s_goto C (d_of DX10_isRule 121 rfl) rfl ?_
          exact WA.wk h ⟨Or.inr rfl, Or.inl rfl, Or.inl rfl, Or.inr rfl, Or.inr rfl, Or.inl rfl, trivial⟩
      · have h := h.2 hc
        refine s_aload_n C (d_of DX10_isRule 50 rfl) rfl ?_
        refine WA.fix (fun hF22 => ?_)
        refine gf_X10_83 C (sh_41 hF1) (d_of DX10_isRule 51 rfl) (fx_41_29 hF22) ?_
        refine s_iload_n C (d_of DX10_isRule 52 rfl) rfl ?_
        refine s_aload_n C (d_of DX10_isRule 53 rfl) rfl ?_
        refine gf_X10_83 C (sh_41 hF1) (d_of DX10_isRule 54 rfl) (fx_41_29 hF22) ?_
        refine s_iload_n C (d_of DX10_isRule 55 rfl) rfl ?_
        obtain ⟨o23, h⟩ := h
        obtain ⟨o24, h⟩ := h
        refine s_zald (v0 := (M 66 l3)) C (sh_66 hF22) o23 o24 (d_of DX10_isRule 56 rfl) (up_na (by decide)) ?_
        refine s_ifne C (d_of DX10_isRule 57 rfl) rfl (fun hc => ?_) (fun hc => ?_)
        · have h := h.1 hc
          refine s_iconst C (d_of DX10_isRule 60 rfl) (by decide) ?_
          refine s_zast C (sh_66 hF22) o23 o24 (by decide) (fun _ => by decide) (d_of DX10_isRule 61 rfl) ?_
          refine s_goto C (d_of DX10_isRule 62 rfl) rfl ?_
          refine s_goto C (d_of DX10_isRule 121 rfl) rfl ?_
          exact WA.wk h ⟨Or.inr rfl, Or.inl rfl, Or.inl rfl, Or.inr rfl, Or.inr rfl, Or.inl rfl, trivial⟩
        · have h := h.2 hc
          refine s_iconst C (d_of DX10_isRule 58 rfl) (by decide) ?_
          refine s_goto C (d_of DX10_isRule 59 rfl) rfl ?_
          refine s_zast C (sh_66 hF22) o23 o24 (by decide) (fun _ => by decide) (d_of DX10_isRule 61 rfl) ?_
          refine s_goto C (d_of DX10_isRule 62 rfl) rfl ?_
          refine s_goto C (d_of DX10_isRule 121 rfl) rfl ?_
          exact WA.wk h ⟨Or.inr rfl, Or.inl rfl, Or.inl rfl, Or.inr rfl, Or.inr rfl, Or.inl rfl, trivial⟩
    · have h := h.2 (b2i_n0 hc)
      refine s_aload_n C (d_of DX10_isRule 34 rfl) rfl ?_
      refine s_iload_n C (d_of DX10_isRule 35 rfl) rfl ?_
      refine s_aload_n C (d_of DX10_isRule 36 rfl) rfl ?_
      refine s_iload C (d_of DX10_isRule 37 rfl) rfl ?_
      obtain ⟨Q25, hKQ25, h⟩ := h
      refine s_callV (ci := 10) (av := [(0, l4)]) (rest := [(0, l3), (2, 41)]) (mc := 0) (ms := 0) C (d_of DX10_isRule 38 rfl) lk_X10_242 (sh_41 hF1) (by decide) rfl rfl rfl (Nat.le_of_ble_eq_true rfl) (by decide) (by decide) hKQ25 (fun z25 w25 M25 hq => ?_)
      have h := h z25 w25 M25 hq
      refine WA.fix (fun hF26 => ?_)
      obtain ⟨Q27, hKQ27, h⟩ := h
      refine s_callV (ci := 10) (av := [(0, l3), (0, z25)]) (rest := []) (mc := 0) (ms := 0) C (d_of DX10_isRule 39 rfl) lk_X10_245 (sh_41 hF26) (by decide) rfl rfl rfl (Nat.le_of_ble_eq_true rfl) (by decide) (by decide) hKQ27 (fun z27 w27 M27 hq => ?_)
      have h := h z27 w27 M27 hq
      refine s_goto C (d_of DX10_isRule 40 rfl) rfl ?_
      refine s_goto C (d_of DX10_isRule 121 rfl) rfl ?_
      exact WA.wk h ⟨Or.inr rfl, Or.inl rfl, Or.inl rfl, Or.inr rfl, Or.inr rfl, Or.inl rfl, trivial⟩
theorem E_X10_isRule {G : GP} {l : Launch} {P : Int → NS → MM → Prop} {l1 : Int} {l2 : Int} {w : NS} {M : MM} (h : inR l1 → inR l2 → ∀ X : BX, X.2.1 = l → CX_X10_isRule G X → A_X10_isRule_0 G X P l1 l2 w M) : CT_X10_isRule G l [(2, 41), (0, l1), (0, l2)] w M P :=
  CT.of RX10 "isRule" (by decide +kernel) rfl rfl rfl (Nat.le_of_ble_eq_true rfl) (fun hr X hX C => h (hr (0, l1) (by simp)) (hr (0, l2) (by simp)) X hX C)
def A_X10_doesWant_0 (G : GP) (X : BX) (P : Int → NS → MM → Prop) (l1 : Int) (l2 : Int) (w : NS) (M : MM) : Prop := WA true G X (QM G X true 0 P) 4 0 [(2, 41), (0, l1), (0, l2), (3, 0)] [] 0 0 w M
set_option maxHeartbeats 4000000 in
set_option maxRecDepth 100000 in
theorem B_X10_doesWant_0 {G : GP} {X : BX} {P : Int → NS → MM → Prop} {l1 : Int} {l2 : Int} {w : NS} {M : MM} (C : CX_X10_doesWant G X) (h : (0 ≤ l2) ∧ (l2 < 24) ∧ (0 ≤ l1) ∧ (l1 < 10) ∧ (0 ≤ (M 46 l2)) ∧ ((M 46 l2) < 8) ∧ ((((zand (zshr (M 59 l1) (M 43 (M 46 l2))) 1) ≠ 1) → P 0 w M) ∧ ((¬ ((zand (zshr (M 59 l1) (M 43 (M 46 l2))) 1) ≠ 1)) → (((¬ ((M 60 l1) ≤ (M 44 (M 46 l2)) ∧ (M 44 (M 46 l2)) ≤ (M 61 l1))) → P 0 w M) ∧ ((((M 60 l1) ≤ (M 44 (M 46 l2)) ∧ (M 44 (M 46 l2)) ≤ (M 61 l1))) → ∃ Q9 : Int → NS → MM → Prop, CT_X10_isRule G X.2.1 [(2, 41), (0, l1), (0, l2)] w M Q9 ∧ ∀ (z9 : Int) (w9 : NS) (M9 : MM), Q9 z9 w9 M9 → (((z9 = 0) → P 0 w9 M9) ∧ ((¬ (z9 = 0)) → P 1 w9 M9))))))) : A_X10_doesWant_0 G X P l1 l2 w M := by
  unfold A_X10_doesWant_0
  refine s_aload_n C (d_of DX10_doesWant 0 rfl) rfl ?_
  refine WA.fix (fun hF1 => ?_)
  refine gf_X10_22 C (sh_41 hF1) (d_of DX10_doesWant 1 rfl) (fx_41_5 hF1) ?_
  refine s_iload_n C (d_of DX10_doesWant 2 rfl) rfl ?_
  obtain ⟨o2, h⟩ := h
  obtain ⟨o3, h⟩ := h
  refine s_iald (v0 := (M 46 l2)) C (sh_46 hF1) o2 o3 (d_of DX10_doesWant 3 rfl) rfl ?_
  refine s_istore_n (ls' := [(2, 41), (0, l1), (0, l2), (0, (M 46 l2))]) C (d_of DX10_doesWant 4 rfl) (by decide) rfl rfl ?_
  refine s_aload_n C (d_of DX10_doesWant 5 rfl) rfl ?_
  refine gf_X10_61 C (sh_41 hF1) (d_of DX10_doesWant 6 rfl) (fx_41_21 hF1) ?_
  refine s_iload_n C (d_of DX10_doesWant 7 rfl) rfl ?_
  obtain ⟨o4, h⟩ := h
  obtain ⟨o5, h⟩ := h
  refine s_iald (v0 := (M 59 l1)) C (sh_59 hF1) o4 o5 (d_of DX10_doesWant 8 rfl) rfl ?_
  refine s_aload_n C (d_of DX10_doesWant 9 rfl) rfl ?_
  refine gf_X10_13 C (sh_41 hF1) (d_of DX10_doesWant 10 rfl) (fx_41_1 hF1) ?_
  refine s_iload_n C (d_of DX10_doesWant 11 rfl) rfl ?_
  obtain ⟨o6, h⟩ := h
  obtain ⟨o7, h⟩ := h
  refine s_iald (v0 := (M 43 (M 46 l2))) C (sh_43 hF1) o6 o7 (d_of DX10_doesWant 12 rfl) rfl ?_
  refine s_ishr C (d_of DX10_doesWant 13 rfl) ?_
  refine s_iconst C (d_of DX10_doesWant 14 rfl) (by decide) ?_
  refine s_iand C (d_of DX10_doesWant 15 rfl) ?_
  refine s_iconst C (d_of DX10_doesWant 16 rfl) (by decide) ?_
  refine s_icmpne C (d_of DX10_doesWant 17 rfl) rfl (fun hc => ?_) (fun hc => ?_)
  · have h := h.1 hc
    refine s_iconst C (d_of DX10_doesWant 42 rfl) (by decide) ?_
    exact s_zreturn C (d_of DX10_doesWant 43 rfl) (by decide) h
  · have h := h.2 hc
    refine s_aload_n C (d_of DX10_doesWant 18 rfl) rfl ?_
    refine gf_X10_16 C (sh_41 hF1) (d_of DX10_doesWant 19 rfl) (fx_41_2 hF1) ?_
    refine s_iload_n C (d_of DX10_doesWant 20 rfl) rfl ?_
    refine s_iald (v0 := (M 44 (M 46 l2))) C (sh_44 hF1) o6 o7 (d_of DX10_doesWant 21 rfl) rfl ?_
    refine s_i2l C (d_of DX10_doesWant 22 rfl) ?_
    refine s_aload_n C (d_of DX10_doesWant 23 rfl) rfl ?_
    refine gf_X10_64 C (sh_41 hF1) (d_of DX10_doesWant 24 rfl) (fx_41_22 hF1) ?_
    refine s_iload_n C (d_of DX10_doesWant 25 rfl) rfl ?_
    refine s_iald (v0 := (M 60 l1)) C (sh_60 hF1) o4 o5 (d_of DX10_doesWant 26 rfl) rfl ?_
    refine s_i2l C (d_of DX10_doesWant 27 rfl) ?_
    refine s_aload_n C (d_of DX10_doesWant 28 rfl) rfl ?_
    refine gf_X10_67 C (sh_41 hF1) (d_of DX10_doesWant 29 rfl) (fx_41_23 hF1) ?_
    refine s_iload_n C (d_of DX10_doesWant 30 rfl) rfl ?_
    refine s_iald (v0 := (M 61 l1)) C (sh_61 hF1) o4 o5 (d_of DX10_doesWant 31 rfl) rfl ?_
    refine s_i2l C (d_of DX10_doesWant 32 rfl) ?_
    refine s_callS (av := [(1, (M 44 (M 46 l2))), (1, (M 60 l1)), (1, (M 61 l1))]) (rest := []) (mc := 0) (ms := 0) C (d_of DX10_doesWant 33 rfl) lk_X10_139 rfl rfl (Nat.le_of_ble_eq_true rfl) (by decide) (by decide) (pc_X10_in) (fun z8 wz8 Mz8 hq => ?_)
    obtain ⟨hq1, hq2, hq3⟩ := hq
    have hq2 := hq2.symm
    have hq3 := hq3.symm
    subst hq1 hq2 hq3
    refine s_ifeq C (d_of DX10_doesWant 34 rfl) rfl (fun hc => ?_) (fun hc => ?_)
    · have h := h.1 (b2i_0.mp hc)
      refine s_iconst C (d_of DX10_doesWant 42 rfl) (by decide) ?_
      exact s_zreturn C (d_of DX10_doesWant 43 rfl) (by decide) h
    · have h := h.2 (b2i_n0 hc)
      refine s_aload_n C (d_of DX10_doesWant 35 rfl) rfl ?_
      refine s_iload_n C (d_of DX10_doesWant 36 rfl) rfl ?_
      refine s_iload_n C (d_of DX10_doesWant 37 rfl) rfl ?_
      obtain ⟨Q9, hKQ9, h⟩ := h
      refine s_callV (ci := 10) (av := [(0, l1), (0, l2)]) (rest := []) (mc := 0) (ms := 0) C (d_of DX10_doesWant 38 rfl) lk_X10_249 (sh_41 hF1) (by decide) rfl rfl rfl (Nat.le_of_ble_eq_true rfl) (by decide) (by decide) hKQ9 (fun z9 w9 M9 hq => ?_)
      have h := h z9 w9 M9 hq
      refine s_ifeq C (d_of DX10_doesWant 39 rfl) rfl (fun hc => ?_) (fun hc => ?_)
      · have h := h.1 hc
        refine s_iconst C (d_of DX10_doesWant 42 rfl) (by decide) ?_
        exact s_zreturn C (d_of DX10_doesWant 43 rfl) (by decide) h
      · have h := h.2 hc
        refine s_iconst C (d_of DX10_doesWant 40 rfl) (by decide) ?_
        refine s_goto C (d_of DX10_doesWant 41 rfl) rfl ?_
        exact s_zreturn C (d_of DX10_doesWant 43 rfl) (by decide) h
theorem E_X10_doesWant {G : GP} {l : Launch} {P : Int → NS → MM → Prop} {l1 : Int} {l2 : Int} {w : NS} {M : MM} (h : inR l1 → inR l2 → ∀ X : BX, X.2.1 = l → CX_X10_doesWant G X → A_X10_doesWant_0 G X P l1 l2 w M) : CT_X10_doesWant G l [(2, 41), (0, l1), (0, l2)] w M P :=
  CT.of RX10 "doesWant" (by decide +kernel) rfl rfl rfl (Nat.le_of_ble_eq_true rfl) (fun hr X hX C => h (hr (0, l1) (by simp)) (hr (0, l2) (by simp)) X hX C)
def A_X10_wants_0 (G : GP) (X : BX) (P : Int → NS → MM → Prop) (l1 : Int) (l2 : Int) (l3 : Int) (w : NS) (M : MM) : Prop := WA true G X (QM G X true 0 P) 5 0 [(2, 41), (0, l1), (0, l2), (0, l3), (3, 0)] [] 0 0 w M
set_option maxHeartbeats 4000000 in
set_option maxRecDepth 100000 in
theorem B_X10_wants_0 {G : GP} {X : BX} {P : Int → NS → MM → Prop} {l1 : Int} {l2 : Int} {l3 : Int} {w : NS} {M : MM} (C : CX_X10_wants G X) (h : (0 ≤ M 41 26) ∧ (((¬ (0 ≤ l1 ∧ l1 < M 41 26)) → P (-1) w M) ∧ (((0 ≤ l1 ∧ l1 < M 41 26)) → (0 ≤ M 41 12) ∧ ((((0 ≤ l2 ∧ l2 < M 41 12)) → ((((0 ≤ l3 ∧ l3 ≤ 1)) → (((l3 ≠ 0) → ∃ Q7 : Int → NS → MM → Prop, CT_X10_isRule G X.2.1 [(2, 41), (0, l1), (0, l2)] w M Q7 ∧ ∀ (z7 : Int) (w7 : NS) (M7 : MM), Q7 z7 w7 M7 → (((z7 = 0) → P 0 w7 M7) ∧ ((¬ (z7 = 0)) → P 1 w7 M7))) ∧ ((¬ (l3 ≠ 0)) → ∃ Q8 : Int → NS → MM → Prop, CT_X10_doesWant G X.2.1 [(2, 41), (0, l1), (0, l2)] w M Q8 ∧ ∀ (z8 : Int) (w8 : NS) (M8 : MM), Q8 z8 w8 M8 → (((z8 = 0) → P 0 w8 M8) ∧ ((¬ (z8 = 0)) → P 1 w8 M8))))) ∧ ((¬ (0 ≤ l3 ∧ l3 ≤ 1)) → P (-2) w M))) ∧ ((¬ (0 ≤ l2 ∧ l2 < M 41 12)) → P (-1) w M))))) : A_X10_wants_0 G X P l1 l2 l3 w M := by
  unfold A_X10_wants_0
  refine s_aload_n C (d_of DX10_wants 0 rfl) rfl ?_
  refine s_iload_n C (d_of DX10_wants 1 rfl) rfl ?_
  refine WA.fix (fun hF1 => ?_)
  obtain ⟨o2, h⟩ := h
  refine s_callV (ci := 10) (av := [(0, l1)]) (rest := []) (mc := 0) (ms := 0) C (d_of DX10_wants 2 rfl) lk_X10_252 (sh_41 hF1) (by decide) rfl rfl rfl (Nat.le_of_ble_eq_true rfl) (by decide) (by decide) (pc_X10_isOrder o2) (fun z3 wz3 Mz3 hq => ?_)
  obtain ⟨hq1, hq2, hq3⟩ := hq
  have hq2 := hq2.symm
  have hq3 := hq3.symm
  subst hq1 hq2 hq3
  refine s_ifeq C (d_of DX10_wants 3 rfl) rfl (fun hc => ?_) (fun hc => ?_)
  · have h := h.1 (b2i_0.mp hc)
    refine s_iconst C (d_of DX10_wants 8 rfl) (by decide) ?_
    exact s_ireturn C (d_of DX10_wants 9 rfl) h
  · have h := h.2 (b2i_n0 hc)
    refine s_aload_n C (d_of DX10_wants 4 rfl) rfl ?_
    refine s_iload_n C (d_of DX10_wants 5 rfl) rfl ?_
    obtain ⟨o4, h⟩ := h
    refine s_callV (ci := 10) (av := [(0, l2)]) (rest := []) (mc := 0) (ms := 0) C (d_of DX10_wants 6 rfl) lk_X10_186 (sh_41 hF1) (by decide) rfl rfl rfl (Nat.le_of_ble_eq_true rfl) (by decide) (by decide) (pc_X10_isPiece o4) (fun z5 wz5 Mz5 hq => ?_)
    obtain ⟨hq1, hq2, hq3⟩ := hq
    have hq2 := hq2.symm
    have hq3 := hq3.symm
    subst hq1 hq2 hq3
    refine s_ifne C (d_of DX10_wants 7 rfl) rfl (fun hc => ?_) (fun hc => ?_)
    · have h := h.1 (b2i_n0 hc)
      refine s_iload_n C (d_of DX10_wants 10 rfl) rfl ?_
      refine s_i2l C (d_of DX10_wants 11 rfl) ?_
      refine s_lconst (z := 0) C (d_of DX10_wants 12 rfl) ⟨rfl, by decide⟩ ?_
      refine s_lconst (z := 1) C (d_of DX10_wants 13 rfl) ⟨rfl, by decide⟩ ?_
      refine s_callS (av := [(1, l3), (1, 0), (1, 1)]) (rest := []) (mc := 0) (ms := 0) C (d_of DX10_wants 14 rfl) lk_X10_139 rfl rfl (Nat.le_of_ble_eq_true rfl) (by decide) (by decide) (pc_X10_in) (fun z6 wz6 Mz6 hq => ?_)
      obtain ⟨hq1, hq2, hq3⟩ := hq
      have hq2 := hq2.symm
      have hq3 := hq3.symm
      subst hq1 hq2 hq3
      refine s_ifne C (d_of DX10_wants 15 rfl) rfl (fun hc => ?_) (fun hc => ?_)
      · have h := h.1 (b2i_n0 hc)
        refine s_iload_n C (d_of DX10_wants 18 rfl) rfl ?_
        refine s_ifne C (d_of DX10_wants 19 rfl) rfl (fun hc => ?_) (fun hc => ?_)
        · have h := h.1 hc
          refine s_aload_n C (d_of DX10_wants 25 rfl) rfl ?_
          refine s_iload_n C (d_of DX10_wants 26 rfl) rfl ?_
          refine s_iload_n C (d_of DX10_wants 27 rfl) rfl ?_
          obtain ⟨Q7, hKQ7, h⟩ := h
          refine s_callV (ci := 10) (av := [(0, l1), (0, l2)]) (rest := []) (mc := 0) (ms := 0) C (d_of DX10_wants 28 rfl) lk_X10_249 (sh_41 hF1) (by decide) rfl rfl rfl (Nat.le_of_ble_eq_true rfl) (by decide) (by decide) hKQ7 (fun z7 w7 M7 hq => ?_)
          have h := h z7 w7 M7 hq
          refine s_istore (ls' := [(2, 41), (0, l1), (0, l2), (0, l3), (0, z7)]) C (d_of DX10_wants 29 rfl) (by decide) rfl rfl ?_
          refine s_iload C (d_of DX10_wants 30 rfl) rfl ?_
          refine s_ifeq C (d_of DX10_wants 31 rfl) rfl (fun hc => ?_) (fun hc => ?_)
          · have h := h.1 hc
            refine s_iconst C (d_of DX10_wants 34 rfl) (by decide) ?_
            exact s_ireturn C (d_of DX10_wants 35 rfl) h
          · have h := h.2 hc
            refine s_iconst C (d_of DX10_wants 32 rfl) (by decide) ?_
            refine s_goto C (d_of DX10_wants 33 rfl) rfl ?_
            exact s_ireturn C (d_of DX10_wants 35 rfl) h
        · have h := h.2 hc
          refine s_aload_n C (d_of DX10_wants 20 rfl) rfl ?_
          refine s_iload_n C (d_of DX10_wants 21 rfl) rfl ?_
          refine s_iload_n C (d_of DX10_wants 22 rfl) rfl ?_
          obtain ⟨Q8, hKQ8, h⟩ := h
          refine s_callV (ci := 10) (av := [(0, l1), (0, l2)]) (rest := []) (mc := 0) (ms := 0) C (d_of DX10_wants 23 rfl) lk_X10_255 (sh_41 hF1) (by decide) rfl rfl rfl (Nat.le_of_ble_eq_true rfl) (by decide) (by decide) hKQ8 (fun z8 w8 M8 hq => ?_)
          have h := h z8 w8 M8 hq
          refine s_goto C (d_of DX10_wants 24 rfl) rfl ?_
          refine s_istore (ls' := [(2, 41), (0, l1), (0, l2), (0, l3), (0, z8)]) C (d_of DX10_wants 29 rfl) (by decide) rfl rfl ?_
          refine s_iload C (d_of DX10_wants 30 rfl) rfl ?_
          refine s_ifeq C (d_of DX10_wants 31 rfl) rfl (fun hc => ?_) (fun hc => ?_)
          · have h := h.1 hc
            refine s_iconst C (d_of DX10_wants 34 rfl) (by decide) ?_
            exact s_ireturn C (d_of DX10_wants 35 rfl) h
          · have h := h.2 hc
            refine s_iconst C (d_of DX10_wants 32 rfl) (by decide) ?_
            refine s_goto C (d_of DX10_wants 33 rfl) rfl ?_
            exact s_ireturn C (d_of DX10_wants 35 rfl) h
      · have h := h.2 (b2i_nn hc)
        refine s_bipush C (d_of DX10_wants 16 rfl) ⟨rfl, by decide, by decide⟩ ?_
        exact s_ireturn C (d_of DX10_wants 17 rfl) h
    · have h := h.2 (b2i_nn hc)
      refine s_iconst C (d_of DX10_wants 8 rfl) (by decide) ?_
      exact s_ireturn C (d_of DX10_wants 9 rfl) h
theorem E_X10_wants {G : GP} {l : Launch} {P : Int → NS → MM → Prop} {l1 : Int} {l2 : Int} {l3 : Int} {w : NS} {M : MM} (h : inR l1 → inR l2 → inR l3 → ∀ X : BX, X.2.1 = l → CX_X10_wants G X → A_X10_wants_0 G X P l1 l2 l3 w M) : CT_X10_wants G l [(2, 41), (0, l1), (0, l2), (0, l3)] w M P :=
  CT.of RX10 "wants" (by decide +kernel) rfl rfl rfl (Nat.le_of_ble_eq_true rfl) (fun hr X hX C => h (hr (0, l1) (by simp)) (hr (0, l2) (by simp)) (hr (0, l3) (by simp)) X hX C)
def A_X10_changes_0 (G : GP) (X : BX) (P : Int → NS → MM → Prop) (l1 : Int) (l2 : Int) (w : NS) (M : MM) : Prop := WA true G X (QM G X true 0 P) 3 0 [(2, 41), (0, l1), (0, l2)] [] 0 0 w M
set_option maxHeartbeats 4000000 in
set_option maxRecDepth 100000 in
theorem B_X10_changes_0 {G : GP} {X : BX} {P : Int → NS → MM → Prop} {l1 : Int} {l2 : Int} {w : NS} {M : MM} (C : CX_X10_changes G X) (h : (0 ≤ M 41 12) ∧ (((¬ (0 ≤ l1 ∧ l1 < M 41 12)) → P (-1) w M) ∧ (((0 ≤ l1 ∧ l1 < M 41 12)) → (((¬ (0 ≤ l2 ∧ l2 < M 41 12)) → P (-1) w M) ∧ (((0 ≤ l2 ∧ l2 < M 41 12)) → ∃ Q5 : Int → NS → MM → Prop, CT_X10_changesOf G X.2.1 [(2, 41), (0, l1), (0, l2)] w M Q5 ∧ ∀ (z5 : Int) (w5 : NS) (M5 : MM), Q5 z5 w5 M5 → P z5 w5 M5))))) : A_X10_changes_0 G X P l1 l2 w M := by
  unfold A_X10_changes_0
  refine s_aload_n C (d_of DX10_changes 0 rfl) rfl ?_
  refine s_iload_n C (d_of DX10_changes 1 rfl) rfl ?_
  refine WA.fix (fun hF1 => ?_)
  obtain ⟨o2, h⟩ := h
  refine s_callV (ci := 10) (av := [(0, l1)]) (rest := []) (mc := 0) (ms := 0) C (d_of DX10_changes 2 rfl) lk_X10_186 (sh_41 hF1) (by decide) rfl rfl rfl (Nat.le_of_ble_eq_true rfl) (by decide) (by decide) (pc_X10_isPiece o2) (fun z3 wz3 Mz3 hq => ?_)
  obtain ⟨hq1, hq2, hq3⟩ := hq
  have hq2 := hq2.symm
  have hq3 := hq3.symm
  subst hq1 hq2 hq3
  refine s_ifeq C (d_of DX10_changes 3 rfl) rfl (fun hc => ?_) (fun hc => ?_)
  · have h := h.1 (b2i_0.mp hc)
    refine s_iconst C (d_of DX10_changes 13 rfl) (by decide) ?_
    exact s_ireturn C (d_of DX10_changes 14 rfl) h
  · have h := h.2 (b2i_n0 hc)
    refine s_aload_n C (d_of DX10_changes 4 rfl) rfl ?_
    refine s_iload_n C (d_of DX10_changes 5 rfl) rfl ?_
    refine s_callV (ci := 10) (av := [(0, l2)]) (rest := []) (mc := 0) (ms := 0) C (d_of DX10_changes 6 rfl) lk_X10_186 (sh_41 hF1) (by decide) rfl rfl rfl (Nat.le_of_ble_eq_true rfl) (by decide) (by decide) (pc_X10_isPiece o2) (fun z4 wz4 Mz4 hq => ?_)
    obtain ⟨hq1, hq2, hq3⟩ := hq
    have hq2 := hq2.symm
    have hq3 := hq3.symm
    subst hq1 hq2 hq3
    refine s_ifeq C (d_of DX10_changes 7 rfl) rfl (fun hc => ?_) (fun hc => ?_)
    · have h := h.1 (b2i_0.mp hc)
      refine s_iconst C (d_of DX10_changes 13 rfl) (by decide) ?_
      exact s_ireturn C (d_of DX10_changes 14 rfl) h
    · have h := h.2 (b2i_n0 hc)
      refine s_aload_n C (d_of DX10_changes 8 rfl) rfl ?_
      refine s_iload_n C (d_of DX10_changes 9 rfl) rfl ?_
      refine s_iload_n C (d_of DX10_changes 10 rfl) rfl ?_
      obtain ⟨Q5, hKQ5, h⟩ := h
      refine s_callV (ci := 10) (av := [(0, l1), (0, l2)]) (rest := []) (mc := 0) (ms := 0) C (d_of DX10_changes 11 rfl) lk_X10_262 (sh_41 hF1) (by decide) rfl rfl rfl (Nat.le_of_ble_eq_true rfl) (by decide) (by decide) hKQ5 (fun z5 w5 M5 hq => ?_)
      have h := h z5 w5 M5 hq
      refine s_goto C (d_of DX10_changes 12 rfl) rfl ?_
      exact s_ireturn C (d_of DX10_changes 14 rfl) h
theorem E_X10_changes {G : GP} {l : Launch} {P : Int → NS → MM → Prop} {l1 : Int} {l2 : Int} {w : NS} {M : MM} (h : inR l1 → inR l2 → ∀ X : BX, X.2.1 = l → CX_X10_changes G X → A_X10_changes_0 G X P l1 l2 w M) : CT_X10_changes G l [(2, 41), (0, l1), (0, l2)] w M P :=
  CT.of RX10 "changes" (by decide +kernel) rfl rfl rfl (Nat.le_of_ble_eq_true rfl) (fun hr X hX C => h (hr (0, l1) (by simp)) (hr (0, l2) (by simp)) X hX C)
def A_X10_set_0 (G : GP) (X : BX) (P : Int → NS → MM → Prop) (l1 : Int) (l2 : Int) (w : NS) (M : MM) : Prop := WA true G X (QM G X true 0 P) 4 0 [(2, 41), (0, l1), (0, l2), (3, 0)] [] 0 0 w M
set_option maxHeartbeats 4000000 in
set_option maxRecDepth 100000 in
theorem B_X10_set_0 {G : GP} {X : BX} {P : Int → NS → MM → Prop} {l1 : Int} {l2 : Int} {w : NS} {M : MM} (C : CX_X10_set G X) (h : (((¬ (0 ≤ l1 ∧ l1 ≤ 8)) → P (-2) w M) ∧ (((0 ≤ l1 ∧ l1 ≤ 8)) → (((((lstO l1) ≤ l2 ∧ l2 ≤ (grtO l1))) → (0 ≤ l1) ∧ (l1 < 9) ∧ P (M 53 l1) w (up (up M 53 l1 l2) 41 34 0)) ∧ ((¬ ((lstO l1) ≤ l2 ∧ l2 ≤ (grtO l1))) → P (-2) w M))))) : A_X10_set_0 G X P l1 l2 w M := by
  unfold A_X10_set_0
  refine s_iload_n C (d_of DX10_set 0 rfl) rfl ?_
  refine s_i2l C (d_of DX10_set 1 rfl) ?_
  refine s_lconst (z := 0) C (d_of DX10_set 2 rfl) ⟨rfl, by decide⟩ ?_
  refine s_ldc2 (z := 8) C (d_of DX10_set 3 rfl) (mG (wd_1095) rfl) ⟨rfl, by decide⟩ ?_
  refine s_callS (av := [(1, l1), (1, 0), (1, 8)]) (rest := []) (mc := 0) (ms := 0) C (d_of DX10_set 4 rfl) lk_X10_139 rfl rfl (Nat.le_of_ble_eq_true rfl) (by decide) (by decide) (pc_X10_in) (fun z1 wz1 Mz1 hq => ?_)
  obtain ⟨hq1, hq2, hq3⟩ := hq
  have hq2 := hq2.symm
  have hq3 := hq3.symm
  subst hq1 hq2 hq3
  refine s_ifeq C (d_of DX10_set 5 rfl) rfl (fun hc => ?_) (fun hc => ?_)
  · have h := h.1 (b2i_0.mp hc)
    refine s_bipush C (d_of DX10_set 16 rfl) ⟨rfl, by decide, by decide⟩ ?_
    exact s_ireturn C (d_of DX10_set 17 rfl) h
  · have h := h.2 (b2i_n0 hc)
    refine s_iload_n C (d_of DX10_set 6 rfl) rfl ?_
    refine s_i2l C (d_of DX10_set 7 rfl) ?_
    refine s_iload_n C (d_of DX10_set 8 rfl) rfl ?_
    refine s_callS (av := [(0, l1)]) (rest := [(1, l2)]) (mc := 0) (ms := 0) C (d_of DX10_set 9 rfl) lk_X10_277 rfl rfl (Nat.le_of_ble_eq_true rfl) (by decide) (by decide) (pc_X10_leastOf) (fun z2 wz2 Mz2 hq => ?_)
    obtain ⟨hq1, hq2, hq3⟩ := hq
    have hq2 := hq2.symm
    have hq3 := hq3.symm
    subst hq1 hq2 hq3
    refine s_i2l C (d_of DX10_set 10 rfl) ?_
    refine s_iload_n C (d_of DX10_set 11 rfl) rfl ?_
    refine s_callS (av := [(0, l1)]) (rest := [(1, (lstO l1)), (1, l2)]) (mc := 0) (ms := 0) C (d_of DX10_set 12 rfl) lk_X10_280 rfl rfl (Nat.le_of_ble_eq_true rfl) (by decide) (by decide) (pc_X10_greatestOf) (fun z3 wz3 Mz3 hq => ?_)
    obtain ⟨hq1, hq2, hq3⟩ := hq
    have hq2 := hq2.symm
    have hq3 := hq3.symm
    subst hq1 hq2 hq3
    refine s_i2l C (d_of DX10_set 13 rfl) ?_
    refine s_callS (av := [(1, l2), (1, (lstO l1)), (1, (grtO l1))]) (rest := []) (mc := 0) (ms := 0) C (d_of DX10_set 14 rfl) lk_X10_139 rfl rfl (Nat.le_of_ble_eq_true rfl) (by decide) (by decide) (pc_X10_in) (fun z4 wz4 Mz4 hq => ?_)
    obtain ⟨hq1, hq2, hq3⟩ := hq
    have hq2 := hq2.symm
    have hq3 := hq3.symm
    subst hq1 hq2 hq3
    refine s_ifne C (d_of DX10_set 15 rfl) rfl (fun hc => ?_) (fun hc => ?_)
    · have h := h.1 (b2i_n0 hc)
      refine s_aload_n C (d_of DX10_set 18 rfl) rfl ?_
      refine WA.fix (fun hF5 => ?_)
      refine gf_X10_43 C (sh_41 hF5) (d_of DX10_set 19 rfl) (fx_41_13 hF5) ?_
      refine s_iload_n C (d_of DX10_set 20 rfl) rfl ?_
      obtain ⟨o6, h⟩ := h
      obtain ⟨o7, h⟩ := h
      refine s_iald (v0 := (M 53 l1)) C (sh_53 hF5) o6 o7 (d_of DX10_set 21 rfl) rfl ?_
      refine s_istore_n (ls' := [(2, 41), (0, l1), (0, l2), (0, (M 53 l1))]) C (d_of DX10_set 22 rfl) (by decide) rfl rfl ?_
      refine s_aload_n C (d_of DX10_set 23 rfl) rfl ?_
      refine gf_X10_43 C (sh_41 hF5) (d_of DX10_set 24 rfl) (fx_41_13 hF5) ?_
      refine s_iload_n C (d_of DX10_set 25 rfl) rfl ?_
      refine s_iload_n C (d_of DX10_set 26 rfl) rfl ?_
      refine s_iast C (sh_53 hF5) o6 o7 (fun _ => by decide) (d_of DX10_set 27 rfl) ?_
      refine s_aload_n C (d_of DX10_set 28 rfl) rfl ?_
      refine s_iconst C (d_of DX10_set 29 rfl) (by decide) ?_
      refine pf_X10_166 C (sh_41 hF5) (by decide) (fun _ => by decide) (d_of DX10_set 30 rfl) ?_
      refine s_iload_n C (d_of DX10_set 31 rfl) rfl ?_
      exact s_ireturn C (d_of DX10_set 32 rfl) h
    · have h := h.2 (b2i_nn hc)
      refine s_bipush C (d_of DX10_set 16 rfl) ⟨rfl, by decide, by decide⟩ ?_
      exact s_ireturn C (d_of DX10_set 17 rfl) h
theorem E_X10_set {G : GP} {l : Launch} {P : Int → NS → MM → Prop} {l1 : Int} {l2 : Int} {w : NS} {M : MM} (h : inR l1 → inR l2 → ∀ X : BX, X.2.1 = l → CX_X10_set G X → A_X10_set_0 G X P l1 l2 w M) : CT_X10_set G l [(2, 41), (0, l1), (0, l2)] w M P :=
  CT.of RX10 "set" (by decide +kernel) rfl rfl rfl (Nat.le_of_ble_eq_true rfl) (fun hr X hX C => h (hr (0, l1) (by simp)) (hr (0, l2) (by simp)) X hX C)
def A_X10_isDoubled_0 (G : GP) (X : BX) (P : Int → NS → MM → Prop) (l1 : Int) (w : NS) (M : MM) : Prop := WA true G X (QM G X true 0 P) 4 0 [(2, 41), (0, l1), (3, 0), (3, 0)] [] 0 0 w M
def A_X10_isDoubled_10 (G : GP) (X : BX) (P : Int → NS → MM → Prop) (l1 : Int) (l2 : Int) (l3 : Int) (w : NS) (M : MM) : Prop := WA true G X (QM G X true 0 P) 4 10 [(2, 41), (0, l1), (0, l2), (0, l3)] [] 0 0 w M
set_option maxHeartbeats 4000000 in
set_option maxRecDepth 100000 in
theorem B_X10_isDoubled_0 {G : GP} {X : BX} {P : Int → NS → MM → Prop} {l1 : Int} {w : NS} {M : MM} (C : CX_X10_isDoubled G X) (h : ∃ Q2 : Int → NS → MM → Prop, CT_X10_findFamily G X.2.1 [(2, 41), (0, l1)] w M Q2 ∧ ∀ (z2 : Int) (w2 : NS) (M2 : MM), Q2 z2 w2 M2 → A_X10_isDoubled_10 G X P l1 0 0 w2 M2) : A_X10_isDoubled_0 G X P l1 w M := by
  unfold A_X10_isDoubled_0
  refine s_aload_n C (d_of DX10_isDoubled 0 rfl) rfl ?_
  refine s_iload_n C (d_of DX10_isDoubled 1 rfl) rfl ?_
  refine WA.fix (fun hF1 => ?_)
  obtain ⟨Q2, hKQ2, h⟩ := h
  refine s_callV (ci := 10) (av := [(0, l1)]) (rest := []) (mc := 0) (ms := 0) C (d_of DX10_isDoubled 2 rfl) lk_X10_189 (sh_41 hF1) (by decide) rfl rfl rfl (Nat.le_of_ble_eq_true rfl) (by decide) (by decide) hKQ2 (fun z2 w2 M2 hq => ?_)
  have h := h z2 w2 M2 hq
  refine s_pop C (by simp) (d_of DX10_isDoubled 3 rfl) ?_
  refine s_iconst C (d_of DX10_isDoubled 4 rfl) (by decide) ?_
  refine s_istore_n (ls' := [(2, 41), (0, l1), (0, 0), (3, 0)]) C (d_of DX10_isDoubled 5 rfl) (by decide) rfl rfl ?_
  refine s_iconst C (d_of DX10_isDoubled 6 rfl) (by decide) ?_
  refine s_istore_n (ls' := [(2, 41), (0, l1), (0, 0), (0, 0)]) C (d_of DX10_isDoubled 7 rfl) (by decide) rfl rfl ?_
  exact h
set_option maxHeartbeats 4000000 in
set_option maxRecDepth 100000 in
theorem B_X10_isDoubled_10 {G : GP} {X : BX} {P : Int → NS → MM → Prop} {l1 : Int} {l2 : Int} {l3 : Int} {w : NS} {M : MM} (C : CX_X10_isDoubled G X) (h : ((((M 41 12) ≤ l3) → (l2 = 0 ∨ l2 = 1) ∧ P l2 w M) ∧ ((¬ ((M 41 12) ≤ l3)) → (((l2 ≠ 0) → (inR (l3 + 1)) ∧ A_X10_isDoubled_10 G X P l1 1 (l3 + 1) w M) ∧ ((¬ (l2 ≠ 0)) → (0 ≤ l3) ∧ (l3 < 24) ∧ ((((M 68 l3) = 0) → (inR (l3 + 1)) ∧ A_X10_isDoubled_10 G X P l1 0 (l3 + 1) w M) ∧ ((¬ ((M 68 l3) = 0)) → (((l3 = l1) → (inR (l3 + 1)) ∧ A_X10_isDoubled_10 G X P l1 0 (l3 + 1) w M) ∧ ((¬ (l3 = l1)) → ∃ Q8 : Int → NS → MM → Prop, CT_X10_isAhead G X.2.1 [(2, 41), (0, l3), (0, l1)] w M Q8 ∧ ∀ (z8 : Int) (w8 : NS) (M8 : MM), Q8 z8 w8 M8 → (((z8 = 0) → (inR (l3 + 1)) ∧ A_X10_isDoubled_10 G X P l1 0 (l3 + 1) w8 M8) ∧ ((¬ (z8 = 0)) → ((((M8 71 l3) = 0) → (inR (l3 + 1)) ∧ A_X10_isDoubled_10 G X P l1 0 (l3 + 1) w8 M8) ∧ ((¬ ((M8 71 l3) = 0)) → (inR (l3 + 1)) ∧ A_X10_isDoubled_10 G X P l1 1 (l3 + 1) w8 M8))))))))))))) : A_X10_isDoubled_10 G X P l1 l2 l3 w M := by
  unfold A_X10_isDoubled_10
  refine s_iload_n C (d_of DX10_isDoubled 8 rfl) rfl ?_
  refine s_aload_n C (d_of DX10_isDoubled 9 rfl) rfl ?_
  refine WA.fix (fun hF1 => ?_)
  refine gf_X10_147 (v0 := (M 41 12)) C (sh_41 hF1) (d_of DX10_isDoubled 10 rfl) rfl ?_
  refine s_icmpge C (d_of DX10_isDoubled 11 rfl) rfl (fun hc => ?_) (fun hc => ?_)
  · have h := h.1 hc
    refine s_iload_n C (d_of DX10_isDoubled 38 rfl) rfl ?_
    obtain ⟨o2, h⟩ := h
    exact s_zreturn C (d_of DX10_isDoubled 39 rfl) o2 h
  · have h := h.2 hc
    refine s_iload_n C (d_of DX10_isDoubled 12 rfl) rfl ?_
    refine s_ifne C (d_of DX10_isDoubled 13 rfl) rfl (fun hc => ?_) (fun hc => ?_)
    · have h := h.1 hc
      refine s_iconst C (d_of DX10_isDoubled 32 rfl) (by decide) ?_
      refine s_goto C (d_of DX10_isDoubled 33 rfl) rfl ?_
      refine s_istore_n (ls' := [(2, 41), (0, l1), (0, 1), (0, l3)]) C (d_of DX10_isDoubled 35 rfl) (by decide) rfl rfl ?_
      obtain ⟨o3, h⟩ := h
      refine s_iinc (ls' := [(2, 41), (0, l1), (0, 1), (0, (l3 + 1))]) C (d_of DX10_isDoubled 36 rfl) (by decide) rfl o3 rfl rfl ?_
      refine s_goto C (d_of DX10_isDoubled 37 rfl) rfl ?_
      exact h
    · have h := h.2 hc
      refine s_aload_n C (d_of DX10_isDoubled 14 rfl) rfl ?_
      refine gf_X10_89 C (sh_41 hF1) (d_of DX10_isDoubled 15 rfl) (fx_41_32 hF1) ?_
      refine s_iload_n C (d_of DX10_isDoubled 16 rfl) rfl ?_
      obtain ⟨o4, h⟩ := h
      obtain ⟨o5, h⟩ := h
      refine s_zald (v0 := (M 68 l3)) C (sh_68 hF1) o4 o5 (d_of DX10_isDoubled 17 rfl) rfl ?_
      refine s_ifeq C (d_of DX10_isDoubled 18 rfl) rfl (fun hc => ?_) (fun hc => ?_)
      · have h := h.1 hc
        refine s_iconst C (d_of DX10_isDoubled 34 rfl) (by decide) ?_
        refine s_istore_n (ls' := [(2, 41), (0, l1), (0, 0), (0, l3)]) C (d_of DX10_isDoubled 35 rfl) (by decide) rfl rfl ?_
        obtain ⟨o6, h⟩ := h
        refine s_iinc (ls' := [(2, 41), (0, l1), (0, 0), (0, (l3 + 1))]) C (d_of DX10_isDoubled 36 rfl) (by decide) rfl o6 rfl rfl ?_
        refine s_goto C (d_of DX10_isDoubled 37 rfl) rfl ?_
        exact h
      · have h := h.2 hc
        refine s_iload_n C (d_of DX10_isDoubled 19 rfl) rfl ?_
        refine s_iload_n C (d_of DX10_isDoubled 20 rfl) rfl ?_
        refine s_icmpeq C (d_of DX10_isDoubled 21 rfl) rfl (fun hc => ?_) (fun hc => ?_)
        · have h := h.1 hc
          refine s_iconst C (d_of DX10_isDoubled 34 rfl) (by decide) ?_
          refine s_istore_n (ls' := [(2, 41), (0, l1), (0, 0), (0, l3)]) C (d_of DX10_isDoubled 35 rfl) (by decide) rfl rfl ?_
          obtain ⟨o7, h⟩ := h
          refine s_iinc (ls' := [(2, 41), (0, l1), (0, 0), (0, (l3 + 1))]) C (d_of DX10_isDoubled 36 rfl) (by decide) rfl o7 rfl rfl ?_
          refine s_goto C (d_of DX10_isDoubled 37 rfl) rfl ?_
          exact h
        · have h := h.2 hc
          refine s_aload_n C (d_of DX10_isDoubled 22 rfl) rfl ?_
          refine s_iload_n C (d_of DX10_isDoubled 23 rfl) rfl ?_
          refine s_iload_n C (d_of DX10_isDoubled 24 rfl) rfl ?_
          obtain ⟨Q8, hKQ8, h⟩ := h
          refine s_callV (ci := 10) (av := [(0, l3), (0, l1)]) (rest := []) (mc := 0) (ms := 0) C (d_of DX10_isDoubled 25 rfl) lk_X10_272 (sh_41 hF1) (by decide) rfl rfl rfl (Nat.le_of_ble_eq_true rfl) (by decide) (by decide) hKQ8 (fun z8 w8 M8 hq => ?_)
          have h := h z8 w8 M8 hq
          refine s_ifeq C (d_of DX10_isDoubled 26 rfl) rfl (fun hc => ?_) (fun hc => ?_)
          · have h := h.1 hc
            refine s_iconst C (d_of DX10_isDoubled 34 rfl) (by decide) ?_
            refine s_istore_n (ls' := [(2, 41), (0, l1), (0, 0), (0, l3)]) C (d_of DX10_isDoubled 35 rfl) (by decide) rfl rfl ?_
            obtain ⟨o9, h⟩ := h
            refine s_iinc (ls' := [(2, 41), (0, l1), (0, 0), (0, (l3 + 1))]) C (d_of DX10_isDoubled 36 rfl) (by decide) rfl o9 rfl rfl ?_
            refine s_goto C (d_of DX10_isDoubled 37 rfl) rfl ?_
            exact h
          · have h := h.2 hc
            refine s_aload_n C (d_of DX10_isDoubled 27 rfl) rfl ?_
            refine WA.fix (fun hF10 => ?_)
            refine gf_X10_98 C (sh_41 hF10) (d_of DX10_isDoubled 28 rfl) (fx_41_37 hF10) ?_
            refine s_iload_n C (d_of DX10_isDoubled 29 rfl) rfl ?_
            refine s_zald (v0 := (M8 71 l3)) C (sh_71 hF10) o4 o5 (d_of DX10_isDoubled 30 rfl) rfl ?_
            refine s_ifeq C (d_of DX10_isDoubled 31 rfl) rfl (fun hc => ?_) (fun hc => ?_)
            · have h := h.1 hc
              refine s_iconst C (d_of DX10_isDoubled 34 rfl) (by decide) ?_
              refine s_istore_n (ls' := [(2, 41), (0, l1), (0, 0), (0, l3)]) C (d_of DX10_isDoubled 35 rfl) (by decide) rfl rfl ?_
              obtain ⟨o11, h⟩ := h
              refine s_iinc (ls' := [(2, 41), (0, l1), (0, 0), (0, (l3 + 1))]) C (d_of DX10_isDoubled 36 rfl) (by decide) rfl o11 rfl rfl ?_
              refine s_goto C (d_of DX10_isDoubled 37 rfl) rfl ?_
              exact h
            · have h := h.2 hc
              refine s_iconst C (d_of DX10_isDoubled 32 rfl) (by decide) ?_
              refine s_goto C (d_of DX10_isDoubled 33 rfl) rfl ?_
              refine s_istore_n (ls' := [(2, 41), (0, l1), (0, 1), (0, l3)]) C (d_of DX10_isDoubled 35 rfl) (by decide) rfl rfl ?_
              obtain ⟨o12, h⟩ := h
              refine s_iinc (ls' := [(2, 41), (0, l1), (0, 1), (0, (l3 + 1))]) C (d_of DX10_isDoubled 36 rfl) (by decide) rfl o12 rfl rfl ?_
              refine s_goto C (d_of DX10_isDoubled 37 rfl) rfl ?_
              exact h
theorem E_X10_isDoubled {G : GP} {l : Launch} {P : Int → NS → MM → Prop} {l1 : Int} {w : NS} {M : MM} (h : inR l1 → ∀ X : BX, X.2.1 = l → CX_X10_isDoubled G X → A_X10_isDoubled_0 G X P l1 w M) : CT_X10_isDoubled G l [(2, 41), (0, l1)] w M P :=
  CT.of RX10 "isDoubled" (by decide +kernel) rfl rfl rfl (Nat.le_of_ble_eq_true rfl) (fun hr X hX C => h (hr (0, l1) (by simp)) X hX C)
def A_X10_findList_0 (G : GP) (X : BX) (P : Int → NS → MM → Prop) (l1 : Int) (l2 : Int) (w : NS) (M : MM) : Prop := WA true G X (QM G X true 4 P) 6 0 [(2, 41), (0, l1), (0, l2), (3, 0), (3, 0), (3, 0)] [] 0 0 w M
def A_X10_findList_7 (G : GP) (X : BX) (P : Int → NS → MM → Prop) (l1 : Int) (l2 : Int) (l3 : Int) (w : NS) (M : MM) : Prop := WA true G X (QM G X true 4 P) 6 7 [(2, 41), (0, l1), (0, l2), (0, l3), (3, 0), (3, 0)] [] 0 0 w M
def A_X10_findList_67 (G : GP) (X : BX) (P : Int → NS → MM → Prop) (l1 : Int) (l2 : Int) (l3 : Int) (w : NS) (M : MM) : Prop := WA true G X (QM G X true 4 P) 6 67 [(2, 41), (0, l1), (0, l2), (0, l3), (3, 0), (3, 0)] [] 0 0 w M
def A_X10_findList_76 (G : GP) (X : BX) (P : Int → NS → MM → Prop) (l1 : Int) (l2 : Int) (l3 : Int) (l4 : Int) (w : NS) (M : MM) : Prop := WA true G X (QM G X true 4 P) 6 76 [(2, 41), (0, l1), (0, l2), (0, l3), (0, l4), (3, 0)] [] 0 0 w M
set_option maxHeartbeats 4000000 in
set_option maxRecDepth 100000 in
theorem B_X10_findList_0 {G : GP} {X : BX} {P : Int → NS → MM → Prop} {l1 : Int} {l2 : Int} {w : NS} {M : MM} (C : CX_X10_findList G X) (h : A_X10_findList_7 G X P l1 l2 0 w (up M 41 36 0)) : A_X10_findList_0 G X P l1 l2 w M := by
  unfold A_X10_findList_0
  refine s_aload_n C (d_of DX10_findList 0 rfl) rfl ?_
  refine s_iconst C (d_of DX10_findList 1 rfl) (by decide) ?_
  refine WA.fix (fun hF1 => ?_)
  refine pf_X10_283 C (sh_41 hF1) (fun _ => by decide) (d_of DX10_findList 2 rfl) ?_
  refine s_iconst C (d_of DX10_findList 3 rfl) (by decide) ?_
  refine s_istore_n (ls' := [(2, 41), (0, l1), (0, l2), (0, 0), (3, 0), (3, 0)]) C (d_of DX10_findList 4 rfl) (by decide) rfl rfl ?_
  exact h
set_option maxHeartbeats 4000000 in
set_option maxRecDepth 100000 in
theorem B_X10_findList_7 {G : GP} {X : BX} {P : Int → NS → MM → Prop} {l1 : Int} {l2 : Int} {l3 : Int} {w : NS} {M : MM} (C : CX_X10_findList G X) (h : ((((M 41 12) ≤ l3) → A_X10_findList_67 G X P l1 l2 0 w M) ∧ ((¬ ((M 41 12) ≤ l3)) → (0 ≤ l1) ∧ (l1 < 10) ∧ ((((M 63 l1) ≠ 0) → ∃ Q4 : Int → NS → MM → Prop, CT_X10_doesWant G X.2.1 [(2, 41), (0, l1), (0, l3)] w M Q4 ∧ ∀ (z4 : Int) (w4 : NS) (M4 : MM), Q4 z4 w4 M4 → (((z4 = 0) → (0 ≤ l3) ∧ (l3 < 24) ∧ (inR (l3 + 1)) ∧ A_X10_findList_7 G X P l1 l2 (l3 + 1) w4 (up M4 71 l3 0)) ∧ ((¬ (z4 = 0)) → (0 ≤ l3) ∧ (l3 < 24) ∧ (inR (l3 + 1)) ∧ A_X10_findList_7 G X P l1 l2 (l3 + 1) w4 (up M4 71 l3 1)))) ∧ ((¬ ((M 63 l1) ≠ 0)) → (0 ≤ l3) ∧ (l3 < 24) ∧ (0 ≤ (M 46 l3)) ∧ ((M 46 l3) < 8) ∧ ((((M 44 (M 46 l3)) ≠ l2) → (inR (l3 + 1)) ∧ A_X10_findList_7 G X P l1 l2 (l3 + 1) w (up M 71 l3 0)) ∧ ((¬ ((M 44 (M 46 l3)) ≠ l2)) → ∃ Q18 : Int → NS → MM → Prop, CT_X10_doesWant G X.2.1 [(2, 41), (0, l1), (0, l3)] w M Q18 ∧ ∀ (z18 : Int) (w18 : NS) (M18 : MM), Q18 z18 w18 M18 → (((z18 = 0) → (inR (l3 + 1)) ∧ A_X10_findList_7 G X P l1 l2 (l3 + 1) w18 (up M18 71 l3 0)) ∧ ((¬ (z18 = 0)) → (inR (l3 + 1)) ∧ A_X10_findList_7 G X P l1 l2 (l3 + 1) w18 (up M18 71 l3 1)))))))))) : A_X10_findList_7 G X P l1 l2 l3 w M := by
  unfold A_X10_findList_7
  refine s_iload_n C (d_of DX10_findList 5 rfl) rfl ?_
  refine s_aload_n C (d_of DX10_findList 6 rfl) rfl ?_
  refine WA.fix (fun hF1 => ?_)
  refine gf_X10_147 (v0 := (M 41 12)) C (sh_41 hF1) (d_of DX10_findList 7 rfl) rfl ?_
  refine s_icmpge C (d_of DX10_findList 8 rfl) rfl (fun hc => ?_) (fun hc => ?_)
  · have h := h.1 hc
    refine s_iconst C (d_of DX10_findList 37 rfl) (by decide) ?_
    refine s_istore_n (ls' := [(2, 41), (0, l1), (0, l2), (0, 0), (3, 0), (3, 0)]) C (d_of DX10_findList 38 rfl) (by decide) rfl rfl ?_
    exact h
  · have h := h.2 hc
    refine s_aload_n C (d_of DX10_findList 9 rfl) rfl ?_
    refine gf_X10_98 C (sh_41 hF1) (d_of DX10_findList 10 rfl) (fx_41_37 hF1) ?_
    refine s_iload_n C (d_of DX10_findList 11 rfl) rfl ?_
    refine s_aload_n C (d_of DX10_findList 12 rfl) rfl ?_
    refine gf_X10_73 C (sh_41 hF1) (d_of DX10_findList 13 rfl) (fx_41_25 hF1) ?_
    refine s_iload_n C (d_of DX10_findList 14 rfl) rfl ?_
    obtain ⟨o2, h⟩ := h
    obtain ⟨o3, h⟩ := h
    refine s_zald (v0 := (M 63 l1)) C (sh_63 hF1) o2 o3 (d_of DX10_findList 15 rfl) rfl ?_
    refine s_ifne C (d_of DX10_findList 16 rfl) rfl (fun hc => ?_) (fun hc => ?_)
    · have h := h.1 hc
      refine s_aload_n C (d_of DX10_findList 26 rfl) rfl ?_
      refine s_iload_n C (d_of DX10_findList 27 rfl) rfl ?_
      refine s_iload_n C (d_of DX10_findList 28 rfl) rfl ?_
      obtain ⟨Q4, hKQ4, h⟩ := h
      refine s_callV (ci := 10) (av := [(0, l1), (0, l3)]) (rest := [(0, l3), (2, 71)]) (mc := 0) (ms := 0) C (d_of DX10_findList 29 rfl) lk_X10_255 (sh_41 hF1) (by decide) rfl rfl rfl (Nat.le_of_ble_eq_true rfl) (by decide) (by decide) hKQ4 (fun z4 w4 M4 hq => ?_)
      have h := h z4 w4 M4 hq
      refine s_ifeq C (d_of DX10_findList 30 rfl) rfl (fun hc => ?_) (fun hc => ?_)
      · have h := h.1 hc
        refine s_iconst C (d_of DX10_findList 33 rfl) (by decide) ?_
        refine WA.fix (fun hF5 => ?_)
        obtain ⟨o6, h⟩ := h
        obtain ⟨o7, h⟩ := h
        refine s_zast C (sh_71 hF5) o6 o7 (by decide) (fun _ => by decide) (d_of DX10_findList 34 rfl) ?_
        obtain ⟨o8, h⟩ := h
        refine s_iinc (ls' := [(2, 41), (0, l1), (0, l2), (0, (l3 + 1)), (3, 0), (3, 0)]) C (d_of DX10_findList 35 rfl) (by decide) rfl o8 rfl rfl ?_
        refine s_goto C (d_of DX10_findList 36 rfl) rfl ?_
        exact h
      · have h := h.2 hc
        refine s_iconst C (d_of DX10_findList 31 rfl) (by decide) ?_
        refine s_goto C (d_of DX10_findList 32 rfl) rfl ?_
        refine WA.fix (fun hF9 => ?_)
        obtain ⟨o10, h⟩ := h
        obtain ⟨o11, h⟩ := h
        refine s_zast C (sh_71 hF9) o10 o11 (by decide) (fun _ => by decide) (d_of DX10_findList 34 rfl) ?_
        obtain ⟨o12, h⟩ := h
        refine s_iinc (ls' := [(2, 41), (0, l1), (0, l2), (0, (l3 + 1)), (3, 0), (3, 0)]) C (d_of DX10_findList 35 rfl) (by decide) rfl o12 rfl rfl ?_
        refine s_goto C (d_of DX10_findList 36 rfl) rfl ?_
        exact h
    · have h := h.2 hc
      refine s_aload_n C (d_of DX10_findList 17 rfl) rfl ?_
      refine gf_X10_16 C (sh_41 hF1) (d_of DX10_findList 18 rfl) (fx_41_2 hF1) ?_
      refine s_aload_n C (d_of DX10_findList 19 rfl) rfl ?_
      refine gf_X10_22 C (sh_41 hF1) (d_of DX10_findList 20 rfl) (fx_41_5 hF1) ?_
      refine s_iload_n C (d_of DX10_findList 21 rfl) rfl ?_
      obtain ⟨o13, h⟩ := h
      obtain ⟨o14, h⟩ := h
      refine s_iald (v0 := (M 46 l3)) C (sh_46 hF1) o13 o14 (d_of DX10_findList 22 rfl) rfl ?_
      obtain ⟨o15, h⟩ := h
      obtain ⟨o16, h⟩ := h
      refine s_iald (v0 := (M 44 (M 46 l3))) C (sh_44 hF1) o15 o16 (d_of DX10_findList 23 rfl) rfl ?_
      refine s_iload_n C (d_of DX10_findList 24 rfl) rfl ?_
      refine s_icmpne C (d_of DX10_findList 25 rfl) rfl (fun hc => ?_) (fun hc => ?_)
      · have h := h.1 hc
        refine s_iconst C (d_of DX10_findList 33 rfl) (by decide) ?_
        refine s_zast C (sh_71 hF1) o13 o14 (by decide) (fun _ => by decide) (d_of DX10_findList 34 rfl) ?_
        obtain ⟨o17, h⟩ := h
        refine s_iinc (ls' := [(2, 41), (0, l1), (0, l2), (0, (l3 + 1)), (3, 0), (3, 0)]) C (d_of DX10_findList 35 rfl) (by decide) rfl o17 rfl rfl ?_
        refine s_goto C (d_of DX10_findList 36 rfl) rfl ?_
        exact h
      · have h := h.2 hc
        refine s_aload_n C (d_of DX10_findList 26 rfl) rfl ?_
        refine s_iload_n C (d_of DX10_findList 27 rfl) rfl ?_
        refine s_iload_n C (d_of DX10_findList 28 rfl) rfl ?_
        obtain ⟨Q18, hKQ18, h⟩ := h
        refine s_callV (ci := 10) (av := [(0, l1), (0, l3)]) (rest := [(0, l3), (2, 71)]) (mc := 0) (ms := 0) C (d_of DX10_findList 29 rfl) lk_X10_255 (sh_41 hF1) (by decide) rfl rfl rfl (Nat.le_of_ble_eq_true rfl) (by decide) (by decide) hKQ18 (fun z18 w18 M18 hq => ?_)
        have h := h z18 w18 M18 hq
        refine s_ifeq C (d_of DX10_findList 30 rfl) rfl (fun hc => ?_) (fun hc => ?_)
        · have h := h.1 hc
          refine s_iconst C (d_of DX10_findList 33 rfl) (by decide) ?_
          refine WA.fix (fun hF19 => ?_)
          refine s_zast C (sh_71 hF19) o13 o14 (by decide) (fun _ => by decide) (d_of DX10_findList 34 rfl) ?_
          obtain ⟨o20, h⟩ := h
          refine s_iinc (ls' := [(2, 41), (0, l1), (0, l2), (0, (l3 + 1)), (3, 0), (3, 0)]) C (d_of DX10_findList 35 rfl) (by decide) rfl o20 rfl rfl ?_
          refine s_goto C (d_of DX10_findList 36 rfl) rfl ?_
          exact h
        · have h := h.2 hc
          refine s_iconst C (d_of DX10_findList 31 rfl) (by decide) ?_
          refine s_goto C (d_of DX10_findList 32 rfl) rfl ?_
          refine WA.fix (fun hF21 => ?_)
          refine s_zast C (sh_71 hF21) o13 o14 (by decide) (fun _ => by decide) (d_of DX10_findList 34 rfl) ?_
          obtain ⟨o22, h⟩ := h
          refine s_iinc (ls' := [(2, 41), (0, l1), (0, l2), (0, (l3 + 1)), (3, 0), (3, 0)]) C (d_of DX10_findList 35 rfl) (by decide) rfl o22 rfl rfl ?_
          refine s_goto C (d_of DX10_findList 36 rfl) rfl ?_
          exact h
set_option maxHeartbeats 4000000 in
set_option maxRecDepth 100000 in
theorem B_X10_findList_67 {G : GP} {X : BX} {P : Int → NS → MM → Prop} {l1 : Int} {l2 : Int} {l3 : Int} {w : NS} {M : MM} (C : CX_X10_findList G X) (h : (((10 ≤ l3) → P 0 w M) ∧ ((¬ (10 ≤ l3)) → A_X10_findList_76 G X P l1 l2 l3 0 w M))) : A_X10_findList_67 G X P l1 l2 l3 w M := by
  unfold A_X10_findList_67
  refine s_iload_n C (d_of DX10_findList 39 rfl) rfl ?_
  refine s_bipush C (d_of DX10_findList 40 rfl) ⟨rfl, by decide, by decide⟩ ?_
  refine s_icmpge C (d_of DX10_findList 41 rfl) rfl (fun hc => ?_) (fun hc => ?_)
  · have h := h.1 hc
    exact s_vreturn C (d_of DX10_findList 109 rfl) h
  · have h := h.2 hc
    refine s_iconst C (d_of DX10_findList 42 rfl) (by decide) ?_
    refine s_istore (ls' := [(2, 41), (0, l1), (0, l2), (0, l3), (0, 0), (3, 0)]) C (d_of DX10_findList 43 rfl) (by decide) rfl rfl ?_
    exact h
set_option maxHeartbeats 4000000 in
set_option maxRecDepth 100000 in
theorem B_X10_findList_76 {G : GP} {X : BX} {P : Int → NS → MM → Prop} {l1 : Int} {l2 : Int} {l3 : Int} {l4 : Int} {w : NS} {M : MM} (C : CX_X10_findList G X) (h : ((((M 41 12) ≤ l4) → (inR (l3 + 1)) ∧ A_X10_findList_67 G X P l1 l2 (l3 + 1) w M) ∧ ((¬ ((M 41 12) ≤ l4)) → (0 ≤ l4) ∧ (l4 < 24) ∧ (0 ≤ (M 46 l4)) ∧ ((M 46 l4) < 8) ∧ ((((M 44 (M 46 l4)) ≠ l2) → (inR (l4 + 1)) ∧ A_X10_findList_76 G X P l1 l2 l3 (l4 + 1) w M) ∧ ((¬ ((M 44 (M 46 l4)) ≠ l2)) → ((((M 43 (M 46 l4)) ≠ l3) → (inR (l4 + 1)) ∧ A_X10_findList_76 G X P l1 l2 l3 (l4 + 1) w M) ∧ ((¬ ((M 43 (M 46 l4)) ≠ l3)) → (0 ≤ l1) ∧ (l1 < 10) ∧ ((((M 62 l1) ≤ (M 41 36)) → (inR (l4 + 1)) ∧ A_X10_findList_76 G X P l1 l2 l3 (l4 + 1) w M) ∧ ((¬ ((M 62 l1) ≤ (M 41 36))) → ((((M 71 l4) = 0) → (inR (l4 + 1)) ∧ A_X10_findList_76 G X P l1 l2 l3 (l4 + 1) w M) ∧ ((¬ ((M 71 l4) = 0)) → ((((M 63 l1) = 0) → (0 ≤ (M 41 36)) ∧ ((M 41 36) < 24) ∧ (inR ((M 41 36) + 1)) ∧ (inR (l4 + 1)) ∧ A_X10_findList_76 G X P l1 l2 l3 (l4 + 1) w (up (up M 70 (M 41 36) l4) 41 36 ((M 41 36) + 1))) ∧ ((¬ ((M 63 l1) = 0)) → ∃ Q17 : Int → NS → MM → Prop, CT_X10_isDoubled G X.2.1 [(2, 41), (0, l4)] w M Q17 ∧ ∀ (z17 : Int) (w17 : NS) (M17 : MM), Q17 z17 w17 M17 → (((z17 ≠ 0) → (inR (l4 + 1)) ∧ A_X10_findList_76 G X P l1 l2 l3 (l4 + 1) w17 M17) ∧ ((¬ (z17 ≠ 0)) → (0 ≤ (M17 41 36)) ∧ ((M17 41 36) < 24) ∧ (inR ((M17 41 36) + 1)) ∧ (inR (l4 + 1)) ∧ A_X10_findList_76 G X P l1 l2 l3 (l4 + 1) w17 (up (up M17 70 (M17 41 36) l4) 41 36 ((M17 41 36) + 1))))))))))))))))) : A_X10_findList_76 G X P l1 l2 l3 l4 w M := by
  unfold A_X10_findList_76
  refine s_iload C (d_of DX10_findList 44 rfl) rfl ?_
  refine s_aload_n C (d_of DX10_findList 45 rfl) rfl ?_
  refine WA.fix (fun hF1 => ?_)
  refine gf_X10_147 (v0 := (M 41 12)) C (sh_41 hF1) (d_of DX10_findList 46 rfl) rfl ?_
  refine s_icmpge C (d_of DX10_findList 47 rfl) rfl (fun hc => ?_) (fun hc => ?_)
  · have h := h.1 hc
    obtain ⟨o2, h⟩ := h
    refine s_iinc (ls' := [(2, 41), (0, l1), (0, l2), (0, (l3 + 1)), (0, l4), (3, 0)]) C (d_of DX10_findList 107 rfl) (by decide) rfl o2 rfl rfl ?_
    refine s_goto C (d_of DX10_findList 108 rfl) rfl ?_
    exact WA.wk h ⟨Or.inr rfl, Or.inr rfl, Or.inr rfl, Or.inr rfl, Or.inl rfl, Or.inl rfl, trivial⟩
  · have h := h.2 hc
    refine s_aload_n C (d_of DX10_findList 48 rfl) rfl ?_
    refine gf_X10_16 C (sh_41 hF1) (d_of DX10_findList 49 rfl) (fx_41_2 hF1) ?_
    refine s_aload_n C (d_of DX10_findList 50 rfl) rfl ?_
    refine gf_X10_22 C (sh_41 hF1) (d_of DX10_findList 51 rfl) (fx_41_5 hF1) ?_
    refine s_iload C (d_of DX10_findList 52 rfl) rfl ?_
    obtain ⟨o3, h⟩ := h
    obtain ⟨o4, h⟩ := h
    refine s_iald (v0 := (M 46 l4)) C (sh_46 hF1) o3 o4 (d_of DX10_findList 53 rfl) rfl ?_
    obtain ⟨o5, h⟩ := h
    obtain ⟨o6, h⟩ := h
    refine s_iald (v0 := (M 44 (M 46 l4))) C (sh_44 hF1) o5 o6 (d_of DX10_findList 54 rfl) rfl ?_
    refine s_iload_n C (d_of DX10_findList 55 rfl) rfl ?_
    refine s_icmpne C (d_of DX10_findList 56 rfl) rfl (fun hc => ?_) (fun hc => ?_)
    · have h := h.1 hc
      refine s_iconst C (d_of DX10_findList 75 rfl) (by decide) ?_
      refine s_istore (ls' := [(2, 41), (0, l1), (0, l2), (0, l3), (0, l4), (0, 0)]) C (d_of DX10_findList 76 rfl) (by decide) rfl rfl ?_
      refine s_iload C (d_of DX10_findList 77 rfl) rfl ?_
      refine s_ifeq C (d_of DX10_findList 78 rfl) rfl (fun hc => ?_) (fun hc => absurd (by decide) hc)
      obtain ⟨o7, h⟩ := h
      refine s_iinc (ls' := [(2, 41), (0, l1), (0, l2), (0, l3), (0, (l4 + 1)), (0, 0)]) C (d_of DX10_findList 105 rfl) (by decide) rfl o7 rfl rfl ?_
      refine s_goto C (d_of DX10_findList 106 rfl) rfl ?_
      exact WA.wk h ⟨Or.inr rfl, Or.inr rfl, Or.inr rfl, Or.inr rfl, Or.inr rfl, Or.inl rfl, trivial⟩
    · have h := h.2 hc
      refine s_aload_n C (d_of DX10_findList 57 rfl) rfl ?_
      refine gf_X10_13 C (sh_41 hF1) (d_of DX10_findList 58 rfl) (fx_41_1 hF1) ?_
      refine s_aload_n C (d_of DX10_findList 59 rfl) rfl ?_
      refine gf_X10_22 C (sh_41 hF1) (d_of DX10_findList 60 rfl) (fx_41_5 hF1) ?_
      refine s_iload C (d_of DX10_findList 61 rfl) rfl ?_
      refine s_iald (v0 := (M 46 l4)) C (sh_46 hF1) o3 o4 (d_of DX10_findList 62 rfl) rfl ?_
      refine s_iald (v0 := (M 43 (M 46 l4))) C (sh_43 hF1) o5 o6 (d_of DX10_findList 63 rfl) rfl ?_
      refine s_iload_n C (d_of DX10_findList 64 rfl) rfl ?_
      refine s_icmpne C (d_of DX10_findList 65 rfl) rfl (fun hc => ?_) (fun hc => ?_)
      · have h := h.1 hc
        refine s_iconst C (d_of DX10_findList 75 rfl) (by decide) ?_
        refine s_istore (ls' := [(2, 41), (0, l1), (0, l2), (0, l3), (0, l4), (0, 0)]) C (d_of DX10_findList 76 rfl) (by decide) rfl rfl ?_
        refine s_iload C (d_of DX10_findList 77 rfl) rfl ?_
        refine s_ifeq C (d_of DX10_findList 78 rfl) rfl (fun hc => ?_) (fun hc => absurd (by decide) hc)
        obtain ⟨o8, h⟩ := h
        refine s_iinc (ls' := [(2, 41), (0, l1), (0, l2), (0, l3), (0, (l4 + 1)), (0, 0)]) C (d_of DX10_findList 105 rfl) (by decide) rfl o8 rfl rfl ?_
        refine s_goto C (d_of DX10_findList 106 rfl) rfl ?_
        exact WA.wk h ⟨Or.inr rfl, Or.inr rfl, Or.inr rfl, Or.inr rfl, Or.inr rfl, Or.inl rfl, trivial⟩
      · have h := h.2 hc
        refine s_aload_n C (d_of DX10_findList 66 rfl) rfl ?_
        refine gf_X10_283 (v0 := (M 41 36)) C (sh_41 hF1) (d_of DX10_findList 67 rfl) rfl ?_
        refine s_aload_n C (d_of DX10_findList 68 rfl) rfl ?_
        refine gf_X10_70 C (sh_41 hF1) (d_of DX10_findList 69 rfl) (fx_41_24 hF1) ?_
        refine s_iload_n C (d_of DX10_findList 70 rfl) rfl ?_
        obtain ⟨o9, h⟩ := h
        obtain ⟨o10, h⟩ := h
        refine s_iald (v0 := (M 62 l1)) C (sh_62 hF1) o9 o10 (d_of DX10_findList 71 rfl) rfl ?_
        refine s_icmpge C (d_of DX10_findList 72 rfl) rfl (fun hc => ?_) (fun hc => ?_)
        · have h := h.1 hc
          refine s_iconst C (d_of DX10_findList 75 rfl) (by decide) ?_
          refine s_istore (ls' := [(2, 41), (0, l1), (0, l2), (0, l3), (0, l4), (0, 0)]) C (d_of DX10_findList 76 rfl) (by decide) rfl rfl ?_
          refine s_iload C (d_of DX10_findList 77 rfl) rfl ?_
          refine s_ifeq C (d_of DX10_findList 78 rfl) rfl (fun hc => ?_) (fun hc => absurd (by decide) hc)
          obtain ⟨o11, h⟩ := h
          refine s_iinc (ls' := [(2, 41), (0, l1), (0, l2), (0, l3), (0, (l4 + 1)), (0, 0)]) C (d_of DX10_findList 105 rfl) (by decide) rfl o11 rfl rfl ?_
          refine s_goto C (d_of DX10_findList 106 rfl) rfl ?_
          exact WA.wk h ⟨Or.inr rfl, Or.inr rfl, Or.inr rfl, Or.inr rfl, Or.inr rfl, Or.inl rfl, trivial⟩
        · have h := h.2 hc
          refine s_iconst C (d_of DX10_findList 73 rfl) (by decide) ?_
          refine s_goto C (d_of DX10_findList 74 rfl) rfl ?_
          refine s_istore (ls' := [(2, 41), (0, l1), (0, l2), (0, l3), (0, l4), (0, 1)]) C (d_of DX10_findList 76 rfl) (by decide) rfl rfl ?_
          refine s_iload C (d_of DX10_findList 77 rfl) rfl ?_
          refine s_ifeq C (d_of DX10_findList 78 rfl) rfl (fun hc => absurd hc (by decide)) (fun hc => ?_)
          refine s_aload_n C (d_of DX10_findList 79 rfl) rfl ?_
          refine gf_X10_98 C (sh_41 hF1) (d_of DX10_findList 80 rfl) (fx_41_37 hF1) ?_
          refine s_iload C (d_of DX10_findList 81 rfl) rfl ?_
          refine s_zald (v0 := (M 71 l4)) C (sh_71 hF1) o3 o4 (d_of DX10_findList 82 rfl) rfl ?_
          refine s_ifeq C (d_of DX10_findList 83 rfl) rfl (fun hc => ?_) (fun hc => ?_)
          · have h := h.1 hc
            obtain ⟨o12, h⟩ := h
            refine s_iinc (ls' := [(2, 41), (0, l1), (0, l2), (0, l3), (0, (l4 + 1)), (0, 1)]) C (d_of DX10_findList 105 rfl) (by decide) rfl o12 rfl rfl ?_
            refine s_goto C (d_of DX10_findList 106 rfl) rfl ?_
            exact WA.wk h ⟨Or.inr rfl, Or.inr rfl, Or.inr rfl, Or.inr rfl, Or.inr rfl, Or.inl rfl, trivial⟩
          · have h := h.2 hc
            refine s_aload_n C (d_of DX10_findList 84 rfl) rfl ?_
            refine gf_X10_73 C (sh_41 hF1) (d_of DX10_findList 85 rfl) (fx_41_25 hF1) ?_
            refine s_iload_n C (d_of DX10_findList 86 rfl) rfl ?_
            refine s_zald (v0 := (M 63 l1)) C (sh_63 hF1) o9 o10 (d_of DX10_findList 87 rfl) rfl ?_
            refine s_ifeq C (d_of DX10_findList 88 rfl) rfl (fun hc => ?_) (fun hc => ?_)
            · have h := h.1 hc
              refine s_aload_n C (d_of DX10_findList 93 rfl) rfl ?_
              refine gf_X10_95 C (sh_41 hF1) (d_of DX10_findList 94 rfl) (fx_41_35 hF1) ?_
              refine s_aload_n C (d_of DX10_findList 95 rfl) rfl ?_
              refine gf_X10_283 (v0 := (M 41 36)) C (sh_41 hF1) (d_of DX10_findList 96 rfl) rfl ?_
              refine s_iload C (d_of DX10_findList 97 rfl) rfl ?_
              obtain ⟨o13, h⟩ := h
              obtain ⟨o14, h⟩ := h
              refine s_iast C (sh_70 hF1) o13 o14 (fun _ => by decide) (d_of DX10_findList 98 rfl) ?_
              refine s_aload_n C (d_of DX10_findList 99 rfl) rfl ?_
              refine s_dup C (by simp) (d_of DX10_findList 100 rfl) ?_
              refine gf_X10_283 (v0 := (M 41 36)) C (sh_41 hF1) (d_of DX10_findList 101 rfl) (up_na (by decide)) ?_
              refine s_iconst C (d_of DX10_findList 102 rfl) (by decide) ?_
              obtain ⟨o15, h⟩ := h
              refine s_iadd C (d_of DX10_findList 103 rfl) o15 ?_
              refine pf_X10_283 C (sh_41 hF1) (fun _ => by decide) (d_of DX10_findList 104 rfl) ?_
              obtain ⟨o16, h⟩ := h
              refine s_iinc (ls' := [(2, 41), (0, l1), (0, l2), (0, l3), (0, (l4 + 1)), (0, 1)]) C (d_of DX10_findList 105 rfl) (by decide) rfl o16 rfl rfl ?_
              refine s_goto C (d_of DX10_findList 106 rfl) rfl ?_
              exact WA.wk h ⟨Or.inr rfl, Or.inr rfl, Or.inr rfl, Or.inr rfl, Or.inr rfl, Or.inl rfl, trivial⟩
            · have h := h.2 hc
              refine s_aload_n C (d_of DX10_findList 89 rfl) rfl ?_
              refine s_iload C (d_of DX10_findList 90 rfl) rfl ?_
              obtain ⟨Q17, hKQ17, h⟩ := h
              refine s_callV (ci := 10) (av := [(0, l4)]) (rest := []) (mc := 0) (ms := 0) C (d_of DX10_findList 91 rfl) lk_X10_286 (sh_41 hF1) (by decide) rfl rfl rfl (Nat.le_of_ble_eq_true rfl) (by decide) (by decide) hKQ17 (fun z17 w17 M17 hq => ?_)
              have h := h z17 w17 M17 hq
              refine s_ifne C (d_of DX10_findList 92 rfl) rfl (fun hc => ?_) (fun hc => ?_)
              · have h := h.1 hc
                obtain ⟨o18, h⟩ := h
                refine s_iinc (ls' := [(2, 41), (0, l1), (0, l2), (0, l3), (0, (l4 + 1)), (0, 1)]) C (d_of DX10_findList 105 rfl) (by decide) rfl o18 rfl rfl ?_
                refine s_goto C (d_of DX10_findList 106 rfl) rfl ?_
                exact WA.wk h ⟨Or.inr rfl, Or.inr rfl, Or.inr rfl, Or.inr rfl, Or.inr rfl, Or.inl rfl, trivial⟩
              · have h := h.2 hc
                refine s_aload_n C (d_of DX10_findList 93 rfl) rfl ?_
                refine WA.fix (fun hF19 => ?_)
                refine gf_X10_95 C (sh_41 hF19) (d_of DX10_findList 94 rfl) (fx_41_35 hF19) ?_
                refine s_aload_n C (d_of DX10_findList 95 rfl) rfl ?_
                refine gf_X10_283 (v0 := (M17 41 36)) C (sh_41 hF19) (d_of DX10_findList 96 rfl) rfl ?_
                refine s_iload C (d_of DX10_findList 97 rfl) rfl ?_
                obtain ⟨o20, h⟩ := h
                obtain ⟨o21, h⟩ := h
                refine s_iast C (sh_70 hF19) o20 o21 (fun _ => by decide) (d_of DX10_findList 98 rfl) ?_
                refine s_aload_n C (d_of DX10_findList 99 rfl) rfl ?_
                refine s_dup C (by simp) (d_of DX10_findList 100 rfl) ?_
                refine gf_X10_283 (v0 := (M17 41 36)) C (sh_41 hF19) (d_of DX10_findList 101 rfl) (up_na (by decide)) ?_
                refine s_iconst C (d_of DX10_findList 102 rfl) (by decide) ?_
                obtain ⟨o22, h⟩ := h
                refine s_iadd C (d_of DX10_findList 103 rfl) o22 ?_
                refine pf_X10_283 C (sh_41 hF19) (fun _ => by decide) (d_of DX10_findList 104 rfl) ?_
                obtain ⟨o23, h⟩ := h
                refine s_iinc (ls' := [(2, 41), (0, l1), (0, l2), (0, l3), (0, (l4 + 1)), (0, 1)]) C (d_of DX10_findList 105 rfl) (by decide) rfl o23 rfl rfl ?_
                refine s_goto C (d_of DX10_findList 106 rfl) rfl ?_
                exact WA.wk h ⟨Or.inr rfl, Or.inr rfl, Or.inr rfl, Or.inr rfl, Or.inr rfl, Or.inl rfl, trivial⟩
theorem E_X10_findList {G : GP} {l : Launch} {P : Int → NS → MM → Prop} {l1 : Int} {l2 : Int} {w : NS} {M : MM} (h : inR l1 → inR l2 → ∀ X : BX, X.2.1 = l → CX_X10_findList G X → A_X10_findList_0 G X P l1 l2 w M) : CT_X10_findList G l [(2, 41), (0, l1), (0, l2)] w M P :=
  CT.of RX10 "findList" (by decide +kernel) rfl rfl rfl (Nat.le_of_ble_eq_true rfl) (fun hr X hX C => h (hr (0, l1) (by simp)) (hr (0, l2) (by simp)) X hX C)
def A_X10_list_0 (G : GP) (X : BX) (P : Int → NS → MM → Prop) (l1 : Int) (l2 : Int) (l3 : Int) (w : NS) (M : MM) : Prop := WA true G X (QM G X true 0 P) 4 0 [(2, 41), (0, l1), (0, l2), (0, l3)] [] 0 0 w M
set_option maxHeartbeats 4000000 in
set_option maxRecDepth 100000 in
theorem B_X10_list_0 {G : GP} {X : BX} {P : Int → NS → MM → Prop} {l1 : Int} {l2 : Int} {l3 : Int} {w : NS} {M : MM} (C : CX_X10_list G X) (h : (0 ≤ M 41 26) ∧ ((((0 ≤ l1 ∧ l1 < M 41 26)) → ((((0 ≤ l2 ∧ l2 ≤ 99)) → ∃ Q5 : Int → NS → MM → Prop, CT_X10_findList G X.2.1 [(2, 41), (0, l1), (0, l2)] w M Q5 ∧ ∀ (z5 : Int) (w5 : NS) (M5 : MM), Q5 z5 w5 M5 → (((l3 ≠ (-1)) → (inR ((M5 41 36) - 1)) ∧ (((¬ (0 ≤ l3 ∧ l3 ≤ ((M5 41 36) - 1))) → P (-6) w5 M5) ∧ (((0 ≤ l3 ∧ l3 ≤ ((M5 41 36) - 1))) → (0 ≤ l3) ∧ (l3 < 24) ∧ P (M5 70 l3) w5 M5))) ∧ ((¬ (l3 ≠ (-1))) → P (M5 41 36) w5 M5))) ∧ ((¬ (0 ≤ l2 ∧ l2 ≤ 99)) → P (-2) w M))) ∧ ((¬ (0 ≤ l1 ∧ l1 < M 41 26)) → P (-1) w M))) : A_X10_list_0 G X P l1 l2 l3 w M := by
  unfold A_X10_list_0
  refine s_aload_n C (d_of DX10_list 0 rfl) rfl ?_
  refine s_iload_n C (d_of DX10_list 1 rfl) rfl ?_
  refine WA.fix (fun hF1 => ?_)
  obtain ⟨o2, h⟩ := h
  refine s_callV (ci := 10) (av := [(0, l1)]) (rest := []) (mc := 0) (ms := 0) C (d_of DX10_list 2 rfl) lk_X10_252 (sh_41 hF1) (by decide) rfl rfl rfl (Nat.le_of_ble_eq_true rfl) (by decide) (by decide) (pc_X10_isOrder o2) (fun z3 wz3 Mz3 hq => ?_)
  obtain ⟨hq1, hq2, hq3⟩ := hq
  have hq2 := hq2.symm
  have hq3 := hq3.symm
  subst hq1 hq2 hq3
  refine s_ifne C (d_of DX10_list 3 rfl) rfl (fun hc => ?_) (fun hc => ?_)
  · have h := h.1 (b2i_n0 hc)
    refine s_iload_n C (d_of DX10_list 6 rfl) rfl ?_
    refine s_callS (av := [(0, l2)]) (rest := []) (mc := 0) (ms := 0) C (d_of DX10_list 7 rfl) lk_X10_152 rfl rfl (Nat.le_of_ble_eq_true rfl) (by decide) (by decide) (pc_X10_isDay) (fun z4 wz4 Mz4 hq => ?_)
    obtain ⟨hq1, hq2, hq3⟩ := hq
    have hq2 := hq2.symm
    have hq3 := hq3.symm
    subst hq1 hq2 hq3
    refine s_ifne C (d_of DX10_list 8 rfl) rfl (fun hc => ?_) (fun hc => ?_)
    · have h := h.1 (b2i_n0 hc)
      refine s_aload_n C (d_of DX10_list 11 rfl) rfl ?_
      refine s_iload_n C (d_of DX10_list 12 rfl) rfl ?_
      refine s_iload_n C (d_of DX10_list 13 rfl) rfl ?_
      obtain ⟨Q5, hKQ5, h⟩ := h
      refine s_callV (ci := 10) (av := [(0, l1), (0, l2)]) (rest := []) (mc := 0) (ms := 0) C (d_of DX10_list 14 rfl) lk_X10_289 (sh_41 hF1) (by decide) rfl rfl rfl (Nat.le_of_ble_eq_true rfl) (by decide) (by decide) hKQ5 (fun z5 w5 M5 hq => ?_)
      have h := h z5 w5 M5 hq
      refine s_iload_n C (d_of DX10_list 15 rfl) rfl ?_
      refine s_iconst C (d_of DX10_list 16 rfl) (by decide) ?_
      refine s_icmpne C (d_of DX10_list 17 rfl) rfl (fun hc => ?_) (fun hc => ?_)
      · have h := h.1 hc
        refine s_iload_n C (d_of DX10_list 21 rfl) rfl ?_
        refine s_i2l C (d_of DX10_list 22 rfl) ?_
        refine s_lconst (z := 0) C (d_of DX10_list 23 rfl) ⟨rfl, by decide⟩ ?_
        refine s_aload_n C (d_of DX10_list 24 rfl) rfl ?_
        refine WA.fix (fun hF6 => ?_)
        refine gf_X10_283 (v0 := (M5 41 36)) C (sh_41 hF6) (d_of DX10_list 25 rfl) rfl ?_
        refine s_iconst C (d_of DX10_list 26 rfl) (by decide) ?_
        obtain ⟨o7, h⟩ := h
        refine s_isub C (d_of DX10_list 27 rfl) o7 ?_
        refine s_i2l C (d_of DX10_list 28 rfl) ?_
        refine s_callS (av := [(1, l3), (1, 0), (1, ((M5 41 36) - 1))]) (rest := []) (mc := 0) (ms := 0) C (d_of DX10_list 29 rfl) lk_X10_139 rfl rfl (Nat.le_of_ble_eq_true rfl) (by decide) (by decide) (pc_X10_in) (fun z8 wz8 Mz8 hq => ?_)
        obtain ⟨hq1, hq2, hq3⟩ := hq
        have hq2 := hq2.symm
        have hq3 := hq3.symm
        subst hq1 hq2 hq3
        refine s_ifeq C (d_of DX10_list 30 rfl) rfl (fun hc => ?_) (fun hc => ?_)
        · have h := h.1 (b2i_0.mp hc)
          refine s_bipush C (d_of DX10_list 36 rfl) ⟨rfl, by decide, by decide⟩ ?_
          exact s_ireturn C (d_of DX10_list 37 rfl) h
        · have h := h.2 (b2i_n0 hc)
          refine s_aload_n C (d_of DX10_list 31 rfl) rfl ?_
          refine gf_X10_95 C (sh_41 hF6) (d_of DX10_list 32 rfl) (fx_41_35 hF6) ?_
          refine s_iload_n C (d_of DX10_list 33 rfl) rfl ?_
          obtain ⟨o9, h⟩ := h
          obtain ⟨o10, h⟩ := h
          refine s_iald (v0 := (M5 70 l3)) C (sh_70 hF6) o9 o10 (d_of DX10_list 34 rfl) rfl ?_
          refine s_goto C (d_of DX10_list 35 rfl) rfl ?_
          exact s_ireturn C (d_of DX10_list 37 rfl) h
      · have h := h.2 hc
        refine s_aload_n C (d_of DX10_list 18 rfl) rfl ?_
        refine WA.fix (fun hF11 => ?_)
        refine gf_X10_283 (v0 := (M5 41 36)) C (sh_41 hF11) (d_of DX10_list 19 rfl) rfl ?_
        refine s_goto C (d_of DX10_list 20 rfl) rfl ?_
        exact s_ireturn C (d_of DX10_list 37 rfl) h
    · have h := h.2 (b2i_nn hc)
      refine s_bipush C (d_of DX10_list 9 rfl) ⟨rfl, by decide, by decide⟩ ?_
      exact s_ireturn C (d_of DX10_list 10 rfl) h
  · have h := h.2 (b2i_nn hc)
    refine s_iconst C (d_of DX10_list 4 rfl) (by decide) ?_
    exact s_ireturn C (d_of DX10_list 5 rfl) h
theorem E_X10_list {G : GP} {l : Launch} {P : Int → NS → MM → Prop} {l1 : Int} {l2 : Int} {l3 : Int} {w : NS} {M : MM} (h : inR l1 → inR l2 → inR l3 → ∀ X : BX, X.2.1 = l → CX_X10_list G X → A_X10_list_0 G X P l1 l2 l3 w M) : CT_X10_list G l [(2, 41), (0, l1), (0, l2), (0, l3)] w M P :=
  CT.of RX10 "list" (by decide +kernel) rfl rfl rfl (Nat.le_of_ble_eq_true rfl) (fun hr X hX C => h (hr (0, l1) (by simp)) (hr (0, l2) (by simp)) (hr (0, l3) (by simp)) X hX C)
def A_X10_name_0 (G : GP) (X : BX) (P : Int → NS → MM → Prop) (l1 : Int) (l2 : Int) (w : NS) (M : MM) : Prop := WA true G X (QM G X true 0 P) 4 0 [(2, 41), (0, l1), (0, l2), (3, 0)] [] 0 0 w M
set_option maxHeartbeats 4000000 in
set_option maxRecDepth 100000 in
theorem B_X10_name_0 {G : GP} {X : BX} {P : Int → NS → MM → Prop} {l1 : Int} {l2 : Int} {w : NS} {M : MM} (C : CX_X10_name G X) (h : ((((0 ≤ l1 ∧ l1 ≤ 3)) → (((((-1) ≤ l2 ∧ l2 ≤ 99)) → (0 ≤ l1) ∧ (l1 < 4) ∧ (((0 ≤ l2) → P (M 72 l1) w (up M 72 l1 l2)) ∧ ((¬ (0 ≤ l2)) → P (M 72 l1) w (up M 72 l1 (-6))))) ∧ ((¬ ((-1) ≤ l2 ∧ l2 ≤ 99)) → P (-2) w M))) ∧ ((¬ (0 ≤ l1 ∧ l1 ≤ 3)) → P (-1) w M))) : A_X10_name_0 G X P l1 l2 w M := by
  unfold A_X10_name_0
  refine s_iload_n C (d_of DX10_name 0 rfl) rfl ?_
  refine s_callS (av := [(0, l1)]) (rest := []) (mc := 0) (ms := 0) C (d_of DX10_name 1 rfl) lk_X10_294 rfl rfl (Nat.le_of_ble_eq_true rfl) (by decide) (by decide) (pc_X10_isName) (fun z1 wz1 Mz1 hq => ?_)
  obtain ⟨hq1, hq2, hq3⟩ := hq
  have hq2 := hq2.symm
  have hq3 := hq3.symm
  subst hq1 hq2 hq3
  refine s_ifne C (d_of DX10_name 2 rfl) rfl (fun hc => ?_) (fun hc => ?_)
  · have h := h.1 (b2i_n0 hc)
    refine s_iload_n C (d_of DX10_name 5 rfl) rfl ?_
    refine s_i2l C (d_of DX10_name 6 rfl) ?_
    refine s_ldc2 (z := -1) C (d_of DX10_name 7 rfl) (mG (wd_946) rfl) ⟨rfl, by decide⟩ ?_
    refine s_ldc2 (z := 99) C (d_of DX10_name 8 rfl) (mG (wd_936) rfl) ⟨rfl, by decide⟩ ?_
    refine s_callS (av := [(1, l2), (1, (-1)), (1, 99)]) (rest := []) (mc := 0) (ms := 0) C (d_of DX10_name 9 rfl) lk_X10_139 rfl rfl (Nat.le_of_ble_eq_true rfl) (by decide) (by decide) (pc_X10_in) (fun z2 wz2 Mz2 hq => ?_)
    obtain ⟨hq1, hq2, hq3⟩ := hq
    have hq2 := hq2.symm
    have hq3 := hq3.symm
    subst hq1 hq2 hq3
    refine s_ifne C (d_of DX10_name 10 rfl) rfl (fun hc => ?_) (fun hc => ?_)
    · have h := h.1 (b2i_n0 hc)
      refine s_aload_n C (d_of DX10_name 13 rfl) rfl ?_
      refine WA.fix (fun hF3 => ?_)
      refine gf_X10_101 C (sh_41 hF3) (d_of DX10_name 14 rfl) (fx_41_38 hF3) ?_
      refine s_iload_n C (d_of DX10_name 15 rfl) rfl ?_
      obtain ⟨o4, h⟩ := h
      obtain ⟨o5, h⟩ := h
      refine s_iald (v0 := (M 72 l1)) C (sh_72 hF3) o4 o5 (d_of DX10_name 16 rfl) rfl ?_
      refine s_istore_n (ls' := [(2, 41), (0, l1), (0, l2), (0, (M 72 l1))]) C (d_of DX10_name 17 rfl) (by decide) rfl rfl ?_
      refine s_aload_n C (d_of DX10_name 18 rfl) rfl ?_
      refine gf_X10_101 C (sh_41 hF3) (d_of DX10_name 19 rfl) (fx_41_38 hF3) ?_
      refine s_iload_n C (d_of DX10_name 20 rfl) rfl ?_
      refine s_iload_n C (d_of DX10_name 21 rfl) rfl ?_
      refine s_ifge C (d_of DX10_name 22 rfl) rfl (fun hc => ?_) (fun hc => ?_)
      · have h := h.1 hc
        refine s_iload_n C (d_of DX10_name 25 rfl) rfl ?_
        refine s_iast C (sh_72 hF3) o4 o5 (fun _ => by decide) (d_of DX10_name 26 rfl) ?_
        refine s_iload_n C (d_of DX10_name 27 rfl) rfl ?_
        exact s_ireturn C (d_of DX10_name 28 rfl) h
      · have h := h.2 hc
        refine s_bipush C (d_of DX10_name 23 rfl) ⟨rfl, by decide, by decide⟩ ?_
        refine s_goto C (d_of DX10_name 24 rfl) rfl ?_
        refine s_iast C (sh_72 hF3) o4 o5 (fun _ => by decide) (d_of DX10_name 26 rfl) ?_
        refine s_iload_n C (d_of DX10_name 27 rfl) rfl ?_
        exact s_ireturn C (d_of DX10_name 28 rfl) h
    · have h := h.2 (b2i_nn hc)
      refine s_bipush C (d_of DX10_name 11 rfl) ⟨rfl, by decide, by decide⟩ ?_
      exact s_ireturn C (d_of DX10_name 12 rfl) h
  · have h := h.2 (b2i_nn hc)
    refine s_iconst C (d_of DX10_name 3 rfl) (by decide) ?_
    exact s_ireturn C (d_of DX10_name 4 rfl) h
theorem E_X10_name {G : GP} {l : Launch} {P : Int → NS → MM → Prop} {l1 : Int} {l2 : Int} {w : NS} {M : MM} (h : inR l1 → inR l2 → ∀ X : BX, X.2.1 = l → CX_X10_name G X → A_X10_name_0 G X P l1 l2 w M) : CT_X10_name G l [(2, 41), (0, l1), (0, l2)] w M P :=
  CT.of RX10 "name" (by decide +kernel) rfl rfl rfl (Nat.le_of_ble_eq_true rfl) (fun hr X hX C => h (hr (0, l1) (by simp)) (hr (0, l2) (by simp)) X hX C)
def A_X10_counts_0 (G : GP) (X : BX) (P : Int → NS → MM → Prop) (l1 : Int) (l2 : Int) (l3 : Int) (w : NS) (M : MM) : Prop := WA true G X (QM G X true 0 P) 5 0 [(2, 41), (0, l1), (0, l2), (0, l3), (3, 0)] [] 0 0 w M
set_option maxHeartbeats 4000000 in
set_option maxRecDepth 100000 in
theorem B_X10_counts_0 {G : GP} {X : BX} {P : Int → NS → MM → Prop} {l1 : Int} {l2 : Int} {l3 : Int} {w : NS} {M : MM} (C : CX_X10_counts G X) (h : ((((0 ≤ l1 ∧ l1 ≤ 3)) → (((¬ (0 ≤ l2 ∧ l2 ≤ 99)) → P (-2) w M) ∧ (((0 ≤ l2 ∧ l2 ≤ 99)) → (((((-100) ≤ l3 ∧ l3 ≤ 100)) → (inR (100 * l1)) ∧ (inR ((100 * l1) + l2)) ∧ (0 ≤ ((100 * l1) + l2)) ∧ (((100 * l1) + l2) < 400) ∧ P (M 73 ((100 * l1) + l2)) w (up M 73 ((100 * l1) + l2) l3)) ∧ ((¬ ((-100) ≤ l3 ∧ l3 ≤ 100)) → P (-2) w M))))) ∧ ((¬ (0 ≤ l1 ∧ l1 ≤ 3)) → P (-1) w M))) : A_X10_counts_0 G X P l1 l2 l3 w M := by
  unfold A_X10_counts_0
  refine s_iload_n C (d_of DX10_counts 0 rfl) rfl ?_
  refine s_callS (av := [(0, l1)]) (rest := []) (mc := 0) (ms := 0) C (d_of DX10_counts 1 rfl) lk_X10_294 rfl rfl (Nat.le_of_ble_eq_true rfl) (by decide) (by decide) (pc_X10_isName) (fun z1 wz1 Mz1 hq => ?_)
  obtain ⟨hq1, hq2, hq3⟩ := hq
  have hq2 := hq2.symm
  have hq3 := hq3.symm
  subst hq1 hq2 hq3
  refine s_ifne C (d_of DX10_counts 2 rfl) rfl (fun hc => ?_) (fun hc => ?_)
  · have h := h.1 (b2i_n0 hc)
    refine s_iload_n C (d_of DX10_counts 5 rfl) rfl ?_
    refine s_i2l C (d_of DX10_counts 6 rfl) ?_
    refine s_lconst (z := 0) C (d_of DX10_counts 7 rfl) ⟨rfl, by decide⟩ ?_
    refine s_ldc2 (z := 99) C (d_of DX10_counts 8 rfl) (mG (wd_936) rfl) ⟨rfl, by decide⟩ ?_
    refine s_callS (av := [(1, l2), (1, 0), (1, 99)]) (rest := []) (mc := 0) (ms := 0) C (d_of DX10_counts 9 rfl) lk_X10_139 rfl rfl (Nat.le_of_ble_eq_true rfl) (by decide) (by decide) (pc_X10_in) (fun z2 wz2 Mz2 hq => ?_)
    obtain ⟨hq1, hq2, hq3⟩ := hq
    have hq2 := hq2.symm
    have hq3 := hq3.symm
    subst hq1 hq2 hq3
    refine s_ifeq C (d_of DX10_counts 10 rfl) rfl (fun hc => ?_) (fun hc => ?_)
    · have h := h.1 (b2i_0.mp hc)
      refine s_bipush C (d_of DX10_counts 17 rfl) ⟨rfl, by decide, by decide⟩ ?_
      exact s_ireturn C (d_of DX10_counts 18 rfl) h
    · have h := h.2 (b2i_n0 hc)
      refine s_iload_n C (d_of DX10_counts 11 rfl) rfl ?_
      refine s_i2l C (d_of DX10_counts 12 rfl) ?_
      refine s_ldc2 (z := -100) C (d_of DX10_counts 13 rfl) (mG (wd_1126) rfl) ⟨rfl, by decide⟩ ?_
      refine s_ldc2 (z := 100) C (d_of DX10_counts 14 rfl) (mG (wd_959) rfl) ⟨rfl, by decide⟩ ?_
      refine s_callS (av := [(1, l3), (1, (-100)), (1, 100)]) (rest := []) (mc := 0) (ms := 0) C (d_of DX10_counts 15 rfl) lk_X10_139 rfl rfl (Nat.le_of_ble_eq_true rfl) (by decide) (by decide) (pc_X10_in) (fun z3 wz3 Mz3 hq => ?_)
      obtain ⟨hq1, hq2, hq3⟩ := hq
      have hq2 := hq2.symm
      have hq3 := hq3.symm
      subst hq1 hq2 hq3
      refine s_ifne C (d_of DX10_counts 16 rfl) rfl (fun hc => ?_) (fun hc => ?_)
      · have h := h.1 (b2i_n0 hc)
        refine s_aload_n C (d_of DX10_counts 19 rfl) rfl ?_
        refine WA.fix (fun hF4 => ?_)
        refine gf_X10_104 C (sh_41 hF4) (d_of DX10_counts 20 rfl) (fx_41_39 hF4) ?_
        refine s_bipush C (d_of DX10_counts 21 rfl) ⟨rfl, by decide, by decide⟩ ?_
        refine s_iload_n C (d_of DX10_counts 22 rfl) rfl ?_
        obtain ⟨o5, h⟩ := h
        refine s_imul C (d_of DX10_counts 23 rfl) o5 ?_
        refine s_iload_n C (d_of DX10_counts 24 rfl) rfl ?_
        obtain ⟨o6, h⟩ := h
        refine s_iadd C (d_of DX10_counts 25 rfl) o6 ?_
        obtain ⟨o7, h⟩ := h
        obtain ⟨o8, h⟩ := h
        refine s_iald (v0 := (M 73 ((100 * l1) + l2))) C (sh_73 hF4) o7 o8 (d_of DX10_counts 26 rfl) rfl ?_
        refine s_istore (ls' := [(2, 41), (0, l1), (0, l2), (0, l3), (0, (M 73 ((100 * l1) + l2)))]) C (d_of DX10_counts 27 rfl) (by decide) rfl rfl ?_
        refine s_aload_n C (d_of DX10_counts 28 rfl) rfl ?_
        refine gf_X10_104 C (sh_41 hF4) (d_of DX10_counts 29 rfl) (fx_41_39 hF4) ?_
        refine s_bipush C (d_of DX10_counts 30 rfl) ⟨rfl, by decide, by decide⟩ ?_
        refine s_iload_n C (d_of DX10_counts 31 rfl) rfl ?_
        refine s_imul C (d_of DX10_counts 32 rfl) o5 ?_
        refine s_iload_n C (d_of DX10_counts 33 rfl) rfl ?_
        refine s_iadd C (d_of DX10_counts 34 rfl) o6 ?_
        refine s_iload_n C (d_of DX10_counts 35 rfl) rfl ?_
        refine s_iast C (sh_73 hF4) o7 o8 (fun _ => by decide) (d_of DX10_counts 36 rfl) ?_
        refine s_iload C (d_of DX10_counts 37 rfl) rfl ?_
        exact s_ireturn C (d_of DX10_counts 38 rfl) h
      · have h := h.2 (b2i_nn hc)
        refine s_bipush C (d_of DX10_counts 17 rfl) ⟨rfl, by decide, by decide⟩ ?_
        exact s_ireturn C (d_of DX10_counts 18 rfl) h
  · have h := h.2 (b2i_nn hc)
    refine s_iconst C (d_of DX10_counts 3 rfl) (by decide) ?_
    exact s_ireturn C (d_of DX10_counts 4 rfl) h
theorem E_X10_counts {G : GP} {l : Launch} {P : Int → NS → MM → Prop} {l1 : Int} {l2 : Int} {l3 : Int} {w : NS} {M : MM} (h : inR l1 → inR l2 → inR l3 → ∀ X : BX, X.2.1 = l → CX_X10_counts G X → A_X10_counts_0 G X P l1 l2 l3 w M) : CT_X10_counts G l [(2, 41), (0, l1), (0, l2), (0, l3)] w M P :=
  CT.of RX10 "counts" (by decide +kernel) rfl rfl rfl (Nat.le_of_ble_eq_true rfl) (fun hr X hX C => h (hr (0, l1) (by simp)) (hr (0, l2) (by simp)) (hr (0, l3) (by simp)) X hX C)
def A_X10_sumAt_0 (G : GP) (X : BX) (P : Int → NS → MM → Prop) (l1 : Int) (l2 : Int) (w : NS) (M : MM) : Prop := WA true G X (QM G X true 0 P) 6 0 [(2, 41), (0, l1), (0, l2), (3, 0), (3, 0), (3, 0)] [] 0 0 w M
def A_X10_sumAt_5 (G : GP) (X : BX) (P : Int → NS → MM → Prop) (l1 : Int) (l2 : Int) (l3 : Int) (l4 : Int) (w : NS) (M : MM) : Prop := WA true G X (QM G X true 0 P) 6 5 [(2, 41), (0, l1), (0, l2), (0, l3), (0, l4), (3, 0)] [] 0 0 w M
set_option maxHeartbeats 4000000 in
set_option maxRecDepth 100000 in
theorem B_X10_sumAt_0 {G : GP} {X : BX} {P : Int → NS → MM → Prop} {l1 : Int} {l2 : Int} {w : NS} {M : MM} (C : CX_X10_sumAt G X) (h : A_X10_sumAt_5 G X P l1 l2 0 0 w M) : A_X10_sumAt_0 G X P l1 l2 w M := by
  unfold A_X10_sumAt_0
  refine s_iconst C (d_of DX10_sumAt 0 rfl) (by decide) ?_
  refine s_istore_n (ls' := [(2, 41), (0, l1), (0, l2), (0, 0), (3, 0), (3, 0)]) C (d_of DX10_sumAt 1 rfl) (by decide) rfl rfl ?_
  refine s_iconst C (d_of DX10_sumAt 2 rfl) (by decide) ?_
  refine s_istore (ls' := [(2, 41), (0, l1), (0, l2), (0, 0), (0, 0), (3, 0)]) C (d_of DX10_sumAt 3 rfl) (by decide) rfl rfl ?_
  exact h
set_option maxHeartbeats 4000000 in
set_option maxRecDepth 100000 in
theorem B_X10_sumAt_5 {G : GP} {X : BX} {P : Int → NS → MM → Prop} {l1 : Int} {l2 : Int} {l3 : Int} {l4 : Int} {w : NS} {M : MM} (C : CX_X10_sumAt G X) (h : ((((M 41 16) ≤ l4) → P l3 w M) ∧ ((¬ ((M 41 16) ≤ l4)) → (((l4 ≤ l2) → (inR (l2 - l4)) ∧ ((((l2 - l4) ≤ 0) → (inR (l3 + 0)) ∧ (inR (l4 + 1)) ∧ A_X10_sumAt_5 G X P l1 l2 (l3 + 0) (l4 + 1) w M) ∧ ((¬ ((l2 - l4) ≤ 0)) → ((((M 53 1) < (l2 - l4)) → (inR (l3 + 0)) ∧ (inR (l4 + 1)) ∧ A_X10_sumAt_5 G X P l1 l2 (l3 + 0) (l4 + 1) w M) ∧ ((¬ ((M 53 1) < (l2 - l4))) → (inR (100 * l1)) ∧ (0 ≤ l4) ∧ (l4 < 60) ∧ (inR ((100 * l1) + (M 54 l4))) ∧ (0 ≤ ((100 * l1) + (M 54 l4))) ∧ (((100 * l1) + (M 54 l4)) < 400) ∧ (inR (l3 + (M 73 ((100 * l1) + (M 54 l4))))) ∧ (inR (l4 + 1)) ∧ A_X10_sumAt_5 G X P l1 l2 (l3 + (M 73 ((100 * l1) + (M 54 l4)))) (l4 + 1) w M))))) ∧ ((¬ (l4 ≤ l2)) → (inR (l4 - l2)) ∧ ((((l4 - l2) ≤ 0) → (inR (l3 + 0)) ∧ (inR (l4 + 1)) ∧ A_X10_sumAt_5 G X P l1 l2 (l3 + 0) (l4 + 1) w M) ∧ ((¬ ((l4 - l2) ≤ 0)) → ((((M 53 1) < (l4 - l2)) → (inR (l3 + 0)) ∧ (inR (l4 + 1)) ∧ A_X10_sumAt_5 G X P l1 l2 (l3 + 0) (l4 + 1) w M) ∧ ((¬ ((M 53 1) < (l4 - l2))) → (inR (100 * l1)) ∧ (0 ≤ l4) ∧ (l4 < 60) ∧ (inR ((100 * l1) + (M 54 l4))) ∧ (0 ≤ ((100 * l1) + (M 54 l4))) ∧ (((100 * l1) + (M 54 l4)) < 400) ∧ (inR (l3 + (M 73 ((100 * l1) + (M 54 l4))))) ∧ (inR (l4 + 1)) ∧ A_X10_sumAt_5 G X P l1 l2 (l3 + (M 73 ((100 * l1) + (M 54 l4)))) (l4 + 1) w M))))))))) : A_X10_sumAt_5 G X P l1 l2 l3 l4 w M := by
  unfold A_X10_sumAt_5
  refine s_iload C (d_of DX10_sumAt 4 rfl) rfl ?_
  refine s_aload_n C (d_of DX10_sumAt 5 rfl) rfl ?_
  refine WA.fix (fun hF1 => ?_)
  refine gf_X10_176 (v0 := (M 41 16)) C (sh_41 hF1) (d_of DX10_sumAt 6 rfl) rfl ?_
  refine s_icmpge C (d_of DX10_sumAt 7 rfl) rfl (fun hc => ?_) (fun hc => ?_)
  · have h := h.1 hc
    refine s_iload_n C (d_of DX10_sumAt 45 rfl) rfl ?_
    exact s_ireturn C (d_of DX10_sumAt 46 rfl) h
  · have h := h.2 hc
    refine s_iload_n C (d_of DX10_sumAt 8 rfl) rfl ?_
    refine s_iload C (d_of DX10_sumAt 9 rfl) rfl ?_
    refine s_icmpge C (d_of DX10_sumAt 10 rfl) rfl (fun hc => ?_) (fun hc => ?_)
    · have h := h.1 hc
      refine s_iload_n C (d_of DX10_sumAt 15 rfl) rfl ?_
      refine s_iload C (d_of DX10_sumAt 16 rfl) rfl ?_
      obtain ⟨o2, h⟩ := h
      refine s_isub C (d_of DX10_sumAt 17 rfl) o2 ?_
      refine s_istore (ls' := [(2, 41), (0, l1), (0, l2), (0, l3), (0, l4), (0, (l2 - l4))]) C (d_of DX10_sumAt 18 rfl) (by decide) rfl rfl ?_
      refine s_iload_n C (d_of DX10_sumAt 19 rfl) rfl ?_
      refine s_iload C (d_of DX10_sumAt 20 rfl) rfl ?_
      refine s_ifle C (d_of DX10_sumAt 21 rfl) rfl (fun hc => ?_) (fun hc => ?_)
      · have h := h.1 hc
        refine s_iconst C (d_of DX10_sumAt 40 rfl) (by decide) ?_
        obtain ⟨o3, h⟩ := h
        refine s_iadd C (d_of DX10_sumAt 41 rfl) o3 ?_
        refine s_istore_n (ls' := [(2, 41), (0, l1), (0, l2), (0, (l3 + 0)), (0, l4), (0, (l2 - l4))]) C (d_of DX10_sumAt 42 rfl) (by decide) rfl rfl ?_
        obtain ⟨o4, h⟩ := h
        refine s_iinc (ls' := [(2, 41), (0, l1), (0, l2), (0, (l3 + 0)), (0, (l4 + 1)), (0, (l2 - l4))]) C (d_of DX10_sumAt 43 rfl) (by decide) rfl o4 rfl rfl ?_
        refine s_goto C (d_of DX10_sumAt 44 rfl) rfl ?_
        exact WA.wk h ⟨Or.inr rfl, Or.inr rfl, Or.inr rfl, Or.inr rfl, Or.inr rfl, Or.inl rfl, trivial⟩
      · have h := h.2 hc
        refine s_iload C (d_of DX10_sumAt 22 rfl) rfl ?_
        refine s_aload_n C (d_of DX10_sumAt 23 rfl) rfl ?_
        refine gf_X10_43 C (sh_41 hF1) (d_of DX10_sumAt 24 rfl) (fx_41_13 hF1) ?_
        refine s_iconst C (d_of DX10_sumAt 25 rfl) (by decide) ?_
        refine s_iald (v0 := (M 53 1)) C (sh_53 hF1) (by decide) (by decide) (d_of DX10_sumAt 26 rfl) rfl ?_
        refine s_icmpgt C (d_of DX10_sumAt 27 rfl) rfl (fun hc => ?_) (fun hc => ?_)
        · have h := h.1 hc
          refine s_iconst C (d_of DX10_sumAt 40 rfl) (by decide) ?_
          obtain ⟨o5, h⟩ := h
          refine s_iadd C (d_of DX10_sumAt 41 rfl) o5 ?_
          refine s_istore_n (ls' := [(2, 41), (0, l1), (0, l2), (0, (l3 + 0)), (0, l4), (0, (l2 - l4))]) C (d_of DX10_sumAt 42 rfl) (by decide) rfl rfl ?_
          obtain ⟨o6, h⟩ := h
          refine s_iinc (ls' := [(2, 41), (0, l1), (0, l2), (0, (l3 + 0)), (0, (l4 + 1)), (0, (l2 - l4))]) C (d_of DX10_sumAt 43 rfl) (by decide) rfl o6 rfl rfl ?_
          refine s_goto C (d_of DX10_sumAt 44 rfl) rfl ?_
          exact WA.wk h ⟨Or.inr rfl, Or.inr rfl, Or.inr rfl, Or.inr rfl, Or.inr rfl, Or.inl rfl, trivial⟩
        · have h := h.2 hc
          refine s_aload_n C (d_of DX10_sumAt 28 rfl) rfl ?_
          refine gf_X10_104 C (sh_41 hF1) (d_of DX10_sumAt 29 rfl) (fx_41_39 hF1) ?_
          refine s_bipush C (d_of DX10_sumAt 30 rfl) ⟨rfl, by decide, by decide⟩ ?_
          refine s_iload_n C (d_of DX10_sumAt 31 rfl) rfl ?_
          obtain ⟨o7, h⟩ := h
          refine s_imul C (d_of DX10_sumAt 32 rfl) o7 ?_
          refine s_aload_n C (d_of DX10_sumAt 33 rfl) rfl ?_
          refine gf_X10_46 C (sh_41 hF1) (d_of DX10_sumAt 34 rfl) (fx_41_14 hF1) ?_
          refine s_iload C (d_of DX10_sumAt 35 rfl) rfl ?_
          obtain ⟨o8, h⟩ := h
          obtain ⟨o9, h⟩ := h
          refine s_iald (v0 := (M 54 l4)) C (sh_54 hF1) o8 o9 (d_of DX10_sumAt 36 rfl) rfl ?_
          obtain ⟨o10, h⟩ := h
          refine s_iadd C (d_of DX10_sumAt 37 rfl) o10 ?_
          obtain ⟨o11, h⟩ := h
          obtain ⟨o12, h⟩ := h
          refine s_iald (v0 := (M 73 ((100 * l1) + (M 54 l4)))) C (sh_73 hF1) o11 o12 (d_of DX10_sumAt 38 rfl) rfl ?_
          refine s_goto C (d_of DX10_sumAt 39 rfl) rfl ?_
          obtain ⟨o13, h⟩ := h
          refine s_iadd C (d_of DX10_sumAt 41 rfl) o13 ?_
          refine s_istore_n (ls' := [(2, 41), (0, l1), (0, l2), (0, (l3 + (M 73 ((100 * l1) + (M 54 l4))))), (0, l4), (0, (l2 - l4))]) C (d_of DX10_sumAt 42 rfl) (by decide) rfl rfl ?_
          obtain ⟨o14, h⟩ := h
          refine s_iinc (ls' := [(2, 41), (0, l1), (0, l2), (0, (l3 + (M 73 ((100 * l1) + (M 54 l4))))), (0, (l4 + 1)), (0, (l2 - l4))]) C (d_of DX10_sumAt 43 rfl) (by decide) rfl o14 rfl rfl ?_
          refine s_goto C (d_of DX10_sumAt 44 rfl) rfl ?_
          exact WA.wk h ⟨Or.inr rfl, Or.inr rfl, Or.inr rfl, Or.inr rfl, Or.inr rfl, Or.inl rfl, trivial⟩
    · have h := h.2 hc
      refine s_iload C (d_of DX10_sumAt 11 rfl) rfl ?_
      refine s_iload_n C (d_of DX10_sumAt 12 rfl) rfl ?_
      obtain ⟨o15, h⟩ := h
      refine s_isub C (d_of DX10_sumAt 13 rfl) o15 ?_
      refine s_goto C (d_of DX10_sumAt 14 rfl) rfl ?_
      refine s_istore (ls' := [(2, 41), (0, l1), (0, l2), (0, l3), (0, l4), (0, (l4 - l2))]) C (d_of DX10_sumAt 18 rfl) (by decide) rfl rfl ?_
      refine s_iload_n C (d_of DX10_sumAt 19 rfl) rfl ?_
      refine s_iload C (d_of DX10_sumAt 20 rfl) rfl ?_
      refine s_ifle C (d_of DX10_sumAt 21 rfl) rfl (fun hc => ?_) (fun hc => ?_)
      · have h := h.1 hc
        refine s_iconst C (d_of DX10_sumAt 40 rfl) (by decide) ?_
        obtain ⟨o16, h⟩ := h
        refine s_iadd C (d_of DX10_sumAt 41 rfl) o16 ?_
        refine s_istore_n (ls' := [(2, 41), (0, l1), (0, l2), (0, (l3 + 0)), (0, l4), (0, (l4 - l2))]) C (d_of DX10_sumAt 42 rfl) (by decide) rfl rfl ?_
        obtain ⟨o17, h⟩ := h
        refine s_iinc (ls' := [(2, 41), (0, l1), (0, l2), (0, (l3 + 0)), (0, (l4 + 1)), (0, (l4 - l2))]) C (d_of DX10_sumAt 43 rfl) (by decide) rfl o17 rfl rfl ?_
        refine s_goto C (d_of DX10_sumAt 44 rfl) rfl ?_
        exact WA.wk h ⟨Or.inr rfl, Or.inr rfl, Or.inr rfl, Or.inr rfl, Or.inr rfl, Or.inl rfl, trivial⟩
      · have h := h.2 hc
        refine s_iload C (d_of DX10_sumAt 22 rfl) rfl ?_
        refine s_aload_n C (d_of DX10_sumAt 23 rfl) rfl ?_
        refine gf_X10_43 C (sh_41 hF1) (d_of DX10_sumAt 24 rfl) (fx_41_13 hF1) ?_
        refine s_iconst C (d_of DX10_sumAt 25 rfl) (by decide) ?_
        refine s_iald (v0 := (M 53 1)) C (sh_53 hF1) (by decide) (by decide) (d_of DX10_sumAt 26 rfl) rfl ?_
        refine s_icmpgt C (d_of DX10_sumAt 27 rfl) rfl (fun hc => ?_) (fun hc => ?_)
        · have h := h.1 hc
          refine s_iconst C (d_of DX10_sumAt 40 rfl) (by decide) ?_
          obtain ⟨o18, h⟩ := h
          refine s_iadd C (d_of DX10_sumAt 41 rfl) o18 ?_
          refine s_istore_n (ls' := [(2, 41), (0, l1), (0, l2), (0, (l3 + 0)), (0, l4), (0, (l4 - l2))]) C (d_of DX10_sumAt 42 rfl) (by decide) rfl rfl ?_
          obtain ⟨o19, h⟩ := h
          refine s_iinc (ls' := [(2, 41), (0, l1), (0, l2), (0, (l3 + 0)), (0, (l4 + 1)), (0, (l4 - l2))]) C (d_of DX10_sumAt 43 rfl) (by decide) rfl o19 rfl rfl ?_
          refine s_goto C (d_of DX10_sumAt 44 rfl) rfl ?_
          exact WA.wk h ⟨Or.inr rfl, Or.inr rfl, Or.inr rfl, Or.inr rfl, Or.inr rfl, Or.inl rfl, trivial⟩
        · have h := h.2 hc
          refine s_aload_n C (d_of DX10_sumAt 28 rfl) rfl ?_
          refine gf_X10_104 C (sh_41 hF1) (d_of DX10_sumAt 29 rfl) (fx_41_39 hF1) ?_
          refine s_bipush C (d_of DX10_sumAt 30 rfl) ⟨rfl, by decide, by decide⟩ ?_
          refine s_iload_n C (d_of DX10_sumAt 31 rfl) rfl ?_
          obtain ⟨o20, h⟩ := h
          refine s_imul C (d_of DX10_sumAt 32 rfl) o20 ?_
          refine s_aload_n C (d_of DX10_sumAt 33 rfl) rfl ?_
          refine gf_X10_46 C (sh_41 hF1) (d_of DX10_sumAt 34 rfl) (fx_41_14 hF1) ?_
          refine s_iload C (d_of DX10_sumAt 35 rfl) rfl ?_
          obtain ⟨o21, h⟩ := h
          obtain ⟨o22, h⟩ := h
          refine s_iald (v0 := (M 54 l4)) C (sh_54 hF1) o21 o22 (d_of DX10_sumAt 36 rfl) rfl ?_
          obtain ⟨o23, h⟩ := h
          refine s_iadd C (d_of DX10_sumAt 37 rfl) o23 ?_
          obtain ⟨o24, h⟩ := h
          obtain ⟨o25, h⟩ := h
          refine s_iald (v0 := (M 73 ((100 * l1) + (M 54 l4)))) C (sh_73 hF1) o24 o25 (d_of DX10_sumAt 38 rfl) rfl ?_
          refine s_goto C (d_of DX10_sumAt 39 rfl) rfl ?_
          obtain ⟨o26, h⟩ := h
          refine s_iadd C (d_of DX10_sumAt 41 rfl) o26 ?_
          refine s_istore_n (ls' := [(2, 41), (0, l1), (0, l2), (0, (l3 + (M 73 ((100 * l1) + (M 54 l4))))), (0, l4), (0, (l4 - l2))]) C (d_of DX10_sumAt 42 rfl) (by decide) rfl rfl ?_
          obtain ⟨o27, h⟩ := h
          refine s_iinc (ls' := [(2, 41), (0, l1), (0, l2), (0, (l3 + (M 73 ((100 * l1) + (M 54 l4))))), (0, (l4 + 1)), (0, (l4 - l2))]) C (d_of DX10_sumAt 43 rfl) (by decide) rfl o27 rfl rfl ?_
          refine s_goto C (d_of DX10_sumAt 44 rfl) rfl ?_
          exact WA.wk h ⟨Or.inr rfl, Or.inr rfl, Or.inr rfl, Or.inr rfl, Or.inr rfl, Or.inl rfl, trivial⟩
theorem E_X10_sumAt {G : GP} {l : Launch} {P : Int → NS → MM → Prop} {l1 : Int} {l2 : Int} {w : NS} {M : MM} (h : inR l1 → inR l2 → ∀ X : BX, X.2.1 = l → CX_X10_sumAt G X → A_X10_sumAt_0 G X P l1 l2 w M) : CT_X10_sumAt G l [(2, 41), (0, l1), (0, l2)] w M P :=
  CT.of RX10 "sumAt" (by decide +kernel) rfl rfl rfl (Nat.le_of_ble_eq_true rfl) (fun hr X hX C => h (hr (0, l1) (by simp)) (hr (0, l2) (by simp)) X hX C)
def A_X10_likely_0 (G : GP) (X : BX) (P : Int → NS → MM → Prop) (l1 : Int) (l2 : Int) (l3 : Int) (w : NS) (M : MM) : Prop := WA true G X (QM G X true 0 P) 7 0 [(2, 41), (0, l1), (0, l2), (0, l3), (3, 0), (3, 0), (3, 0)] [] 0 0 w M
def A_X10_likely_47 (G : GP) (X : BX) (P : Int → NS → MM → Prop) (l1 : Int) (l3 : Int) (l4 : Int) (l5 : Int) (l6 : Int) (w : NS) (M : MM) : Prop := WA true G X (QM G X true 0 P) 7 47 [(2, 41), (0, l1), (3, 0), (0, l3), (0, l4), (0, l5), (0, l6)] [] 0 0 w M
set_option maxHeartbeats 4000000 in
set_option maxRecDepth 100000 in
theorem B_X10_likely_0 {G : GP} {X : BX} {P : Int → NS → MM → Prop} {l1 : Int} {l2 : Int} {l3 : Int} {w : NS} {M : MM} (C : CX_X10_likely G X) (h : (((¬ (0 ≤ l1 ∧ l1 ≤ 3)) → P (-1) w M) ∧ (((0 ≤ l1 ∧ l1 ≤ 3)) → (0 ≤ M 41 12) ∧ ((((0 ≤ l2 ∧ l2 < M 41 12)) → ((((0 ≤ l3 ∧ l3 ≤ 2)) → ∃ Q6 : Int → NS → MM → Prop, CT_X10_layOne G X.2.1 [(2, 41), (0, l2)] w M Q6 ∧ ∀ (z6 : Int) (w6 : NS) (M6 : MM), Q6 z6 w6 M6 → A_X10_likely_47 G X P l1 l3 (-6) 0 0 w6 M6) ∧ ((¬ (0 ≤ l3 ∧ l3 ≤ 2)) → P (-2) w M))) ∧ ((¬ (0 ≤ l2 ∧ l2 < M 41 12)) → P (-1) w M))))) : A_X10_likely_0 G X P l1 l2 l3 w M := by
  unfold A_X10_likely_0
  refine s_iload_n C (d_of DX10_likely 0 rfl) rfl ?_
  refine s_callS (av := [(0, l1)]) (rest := []) (mc := 0) (ms := 0) C (d_of DX10_likely 1 rfl) lk_X10_294 rfl rfl (Nat.le_of_ble_eq_true rfl) (by decide) (by decide) (pc_X10_isName) (fun z1 wz1 Mz1 hq => ?_)
  obtain ⟨hq1, hq2, hq3⟩ := hq
  have hq2 := hq2.symm
  have hq3 := hq3.symm
  subst hq1 hq2 hq3
  refine s_ifeq C (d_of DX10_likely 2 rfl) rfl (fun hc => ?_) (fun hc => ?_)
  · have h := h.1 (b2i_0.mp hc)
    refine s_iconst C (d_of DX10_likely 7 rfl) (by decide) ?_
    exact s_ireturn C (d_of DX10_likely 8 rfl) h
  · have h := h.2 (b2i_n0 hc)
    refine s_aload_n C (d_of DX10_likely 3 rfl) rfl ?_
    refine s_iload_n C (d_of DX10_likely 4 rfl) rfl ?_
    refine WA.fix (fun hF2 => ?_)
    obtain ⟨o3, h⟩ := h
    refine s_callV (ci := 10) (av := [(0, l2)]) (rest := []) (mc := 0) (ms := 0) C (d_of DX10_likely 5 rfl) lk_X10_186 (sh_41 hF2) (by decide) rfl rfl rfl (Nat.le_of_ble_eq_true rfl) (by decide) (by decide) (pc_X10_isPiece o3) (fun z4 wz4 Mz4 hq => ?_)
    obtain ⟨hq1, hq2, hq3⟩ := hq
    have hq2 := hq2.symm
    have hq3 := hq3.symm
    subst hq1 hq2 hq3
    refine s_ifne C (d_of DX10_likely 6 rfl) rfl (fun hc => ?_) (fun hc => ?_)
    · have h := h.1 (b2i_n0 hc)
      refine s_iload_n C (d_of DX10_likely 9 rfl) rfl ?_
      refine s_i2l C (d_of DX10_likely 10 rfl) ?_
      refine s_lconst (z := 0) C (d_of DX10_likely 11 rfl) ⟨rfl, by decide⟩ ?_
      refine s_ldc2 (z := 2) C (d_of DX10_likely 12 rfl) (mG (wd_1131) rfl) ⟨rfl, by decide⟩ ?_
      refine s_callS (av := [(1, l3), (1, 0), (1, 2)]) (rest := []) (mc := 0) (ms := 0) C (d_of DX10_likely 13 rfl) lk_X10_139 rfl rfl (Nat.le_of_ble_eq_true rfl) (by decide) (by decide) (pc_X10_in) (fun z5 wz5 Mz5 hq => ?_)
      obtain ⟨hq1, hq2, hq3⟩ := hq
      have hq2 := hq2.symm
      have hq3 := hq3.symm
      subst hq1 hq2 hq3
      refine s_ifne C (d_of DX10_likely 14 rfl) rfl (fun hc => ?_) (fun hc => ?_)
      · have h := h.1 (b2i_n0 hc)
        refine s_aload_n C (d_of DX10_likely 17 rfl) rfl ?_
        refine s_iload_n C (d_of DX10_likely 18 rfl) rfl ?_
        obtain ⟨Q6, hKQ6, h⟩ := h
        refine s_callV (ci := 10) (av := [(0, l2)]) (rest := []) (mc := 0) (ms := 0) C (d_of DX10_likely 19 rfl) lk_X10_179 (sh_41 hF2) (by decide) rfl rfl rfl (Nat.le_of_ble_eq_true rfl) (by decide) (by decide) hKQ6 (fun z6 w6 M6 hq => ?_)
        have h := h z6 w6 M6 hq
        refine s_bipush C (d_of DX10_likely 20 rfl) ⟨rfl, by decide, by decide⟩ ?_
        refine s_istore (ls' := [(2, 41), (0, l1), (0, l2), (0, l3), (0, (-6)), (3, 0), (3, 0)]) C (d_of DX10_likely 21 rfl) (by decide) rfl rfl ?_
        refine s_iconst C (d_of DX10_likely 22 rfl) (by decide) ?_
        refine s_istore (ls' := [(2, 41), (0, l1), (0, l2), (0, l3), (0, (-6)), (0, 0), (3, 0)]) C (d_of DX10_likely 23 rfl) (by decide) rfl rfl ?_
        refine s_iconst C (d_of DX10_likely 24 rfl) (by decide) ?_
        refine s_istore (ls' := [(2, 41), (0, l1), (0, l2), (0, l3), (0, (-6)), (0, 0), (0, 0)]) C (d_of DX10_likely 25 rfl) (by decide) rfl rfl ?_
        exact WA.wk h ⟨Or.inr rfl, Or.inr rfl, Or.inl rfl, Or.inr rfl, Or.inr rfl, Or.inr rfl, Or.inr rfl, trivial⟩
      · have h := h.2 (b2i_nn hc)
        refine s_bipush C (d_of DX10_likely 15 rfl) ⟨rfl, by decide, by decide⟩ ?_
        exact s_ireturn C (d_of DX10_likely 16 rfl) h
    · have h := h.2 (b2i_nn hc)
      refine s_iconst C (d_of DX10_likely 7 rfl) (by decide) ?_
      exact s_ireturn C (d_of DX10_likely 8 rfl) h
set_option maxHeartbeats 4000000 in
set_option maxRecDepth 100000 in
theorem B_X10_likely_47 {G : GP} {X : BX} {P : Int → NS → MM → Prop} {l1 : Int} {l3 : Int} {l4 : Int} {l5 : Int} {l6 : Int} {w : NS} {M : MM} (C : CX_X10_likely G X) (h : ((((M 41 16) ≤ l6) → (((0 < l3) → (((l3 ≠ 2) → P l5 w M) ∧ ((¬ (l3 ≠ 2)) → P l4 w M))) ∧ ((¬ (0 < l3)) → (((0 ≤ l4) → (((l5 < (M 53 2)) → (inR (-(M 53 2))) ∧ ((((-(M 53 2)) < l5) → P 3 w M) ∧ ((¬ ((-(M 53 2)) < l5)) → P 2 w M))) ∧ ((¬ (l5 < (M 53 2))) → P 1 w M))) ∧ ((¬ (0 ≤ l4)) → (((l3 ≠ 2) → P l5 w M) ∧ ((¬ (l3 ≠ 2)) → P l4 w M))))))) ∧ ((¬ ((M 41 16) ≤ l6)) → (0 ≤ l6) ∧ (l6 < 60) ∧ (0 ≤ l1) ∧ (l1 < 4) ∧ ((((M 54 l6) ≠ (M 72 l1)) → (inR (l6 + 1)) ∧ A_X10_likely_47 G X P l1 l3 l4 l5 (l6 + 1) w M) ∧ ((¬ ((M 54 l6) ≠ (M 72 l1))) → (((l4 < 0) → ∃ Q8 : Int → NS → MM → Prop, CT_X10_sumAt G X.2.1 [(2, 41), (0, l1), (0, l6)] w M Q8 ∧ ∀ (z8 : Int) (w8 : NS) (M8 : MM), Q8 z8 w8 M8 → (inR (l6 + 1)) ∧ A_X10_likely_47 G X P l1 l3 l6 z8 (l6 + 1) w8 M8) ∧ ((¬ (l4 < 0)) → ∃ Q10 : Int → NS → MM → Prop, CT_X10_sumAt G X.2.1 [(2, 41), (0, l1), (0, l6)] w M Q10 ∧ ∀ (z10 : Int) (w10 : NS) (M10 : MM), Q10 z10 w10 M10 → (((z10 ≤ l5) → (inR (l6 + 1)) ∧ A_X10_likely_47 G X P l1 l3 l4 l5 (l6 + 1) w10 M10) ∧ ((¬ (z10 ≤ l5)) → ∃ Q13 : Int → NS → MM → Prop, CT_X10_sumAt G X.2.1 [(2, 41), (0, l1), (0, l6)] w10 M10 Q13 ∧ ∀ (z13 : Int) (w13 : NS) (M13 : MM), Q13 z13 w13 M13 → (inR (l6 + 1)) ∧ A_X10_likely_47 G X P l1 l3 l6 z13 (l6 + 1) w13 M13))))))))) : A_X10_likely_47 G X P l1 l3 l4 l5 l6 w M := by
  unfold A_X10_likely_47
  refine s_iload C (d_of DX10_likely 26 rfl) rfl ?_
  refine s_aload_n C (d_of DX10_likely 27 rfl) rfl ?_
  refine WA.fix (fun hF1 => ?_)
  refine gf_X10_176 (v0 := (M 41 16)) C (sh_41 hF1) (d_of DX10_likely 28 rfl) rfl ?_
  refine s_icmpge C (d_of DX10_likely 29 rfl) rfl (fun hc => ?_) (fun hc => ?_)
  · have h := h.1 hc
    refine s_iload_n C (d_of DX10_likely 56 rfl) rfl ?_
    refine s_ifgt C (d_of DX10_likely 57 rfl) rfl (fun hc => ?_) (fun hc => ?_)
    · have h := h.1 hc
      refine s_iload_n C (d_of DX10_likely 60 rfl) rfl ?_
      refine s_iconst C (d_of DX10_likely 61 rfl) (by decide) ?_
      refine s_icmpne C (d_of DX10_likely 62 rfl) rfl (fun hc => ?_) (fun hc => ?_)
      · have h := h.1 hc
        refine s_iload C (d_of DX10_likely 65 rfl) rfl ?_
        exact s_ireturn C (d_of DX10_likely 66 rfl) h
      · have h := h.2 hc
        refine s_iload C (d_of DX10_likely 63 rfl) rfl ?_
        refine s_goto C (d_of DX10_likely 64 rfl) rfl ?_
        exact s_ireturn C (d_of DX10_likely 66 rfl) h
    · have h := h.2 hc
      refine s_iload C (d_of DX10_likely 58 rfl) rfl ?_
      refine s_ifge C (d_of DX10_likely 59 rfl) rfl (fun hc => ?_) (fun hc => ?_)
      · have h := h.1 hc
        refine s_iload C (d_of DX10_likely 67 rfl) rfl ?_
        refine s_aload_n C (d_of DX10_likely 68 rfl) rfl ?_
        refine gf_X10_43 C (sh_41 hF1) (d_of DX10_likely 69 rfl) (fx_41_13 hF1) ?_
        refine s_iconst C (d_of DX10_likely 70 rfl) (by decide) ?_
        refine s_iald (v0 := (M 53 2)) C (sh_53 hF1) (by decide) (by decide) (d_of DX10_likely 71 rfl) rfl ?_
        refine s_icmplt C (d_of DX10_likely 72 rfl) rfl (fun hc => ?_) (fun hc => ?_)
        · have h := h.1 hc
          refine s_iload C (d_of DX10_likely 75 rfl) rfl ?_
          refine s_aload_n C (d_of DX10_likely 76 rfl) rfl ?_
          refine gf_X10_43 C (sh_41 hF1) (d_of DX10_likely 77 rfl) (fx_41_13 hF1) ?_
          refine s_iconst C (d_of DX10_likely 78 rfl) (by decide) ?_
          refine s_iald (v0 := (M 53 2)) C (sh_53 hF1) (by decide) (by decide) (d_of DX10_likely 79 rfl) rfl ?_
          obtain ⟨o2, h⟩ := h
          refine s_ineg C (d_of DX10_likely 80 rfl) o2 ?_
          refine s_icmpgt C (d_of DX10_likely 81 rfl) rfl (fun hc => ?_) (fun hc => ?_)
          · have h := h.1 hc
            refine s_iconst C (d_of DX10_likely 84 rfl) (by decide) ?_
            exact s_ireturn C (d_of DX10_likely 85 rfl) h
          · have h := h.2 hc
            refine s_iconst C (d_of DX10_likely 82 rfl) (by decide) ?_
            refine s_goto C (d_of DX10_likely 83 rfl) rfl ?_
            exact s_ireturn C (d_of DX10_likely 85 rfl) h
        · have h := h.2 hc
          refine s_iconst C (d_of DX10_likely 73 rfl) (by decide) ?_
          refine s_goto C (d_of DX10_likely 74 rfl) rfl ?_
          exact s_ireturn C (d_of DX10_likely 85 rfl) h
      · have h := h.2 hc
        refine s_iload_n C (d_of DX10_likely 60 rfl) rfl ?_
        refine s_iconst C (d_of DX10_likely 61 rfl) (by decide) ?_
        refine s_icmpne C (d_of DX10_likely 62 rfl) rfl (fun hc => ?_) (fun hc => ?_)
        · have h := h.1 hc
          refine s_iload C (d_of DX10_likely 65 rfl) rfl ?_
          exact s_ireturn C (d_of DX10_likely 66 rfl) h
        · have h := h.2 hc
          refine s_iload C (d_of DX10_likely 63 rfl) rfl ?_
          refine s_goto C (d_of DX10_likely 64 rfl) rfl ?_
          exact s_ireturn C (d_of DX10_likely 66 rfl) h
  · have h := h.2 hc
    refine s_aload_n C (d_of DX10_likely 30 rfl) rfl ?_
    refine gf_X10_46 C (sh_41 hF1) (d_of DX10_likely 31 rfl) (fx_41_14 hF1) ?_
    refine s_iload C (d_of DX10_likely 32 rfl) rfl ?_
    obtain ⟨o3, h⟩ := h
    obtain ⟨o4, h⟩ := h
    refine s_iald (v0 := (M 54 l6)) C (sh_54 hF1) o3 o4 (d_of DX10_likely 33 rfl) rfl ?_
    refine s_aload_n C (d_of DX10_likely 34 rfl) rfl ?_
    refine gf_X10_101 C (sh_41 hF1) (d_of DX10_likely 35 rfl) (fx_41_38 hF1) ?_
    refine s_iload_n C (d_of DX10_likely 36 rfl) rfl ?_
    obtain ⟨o5, h⟩ := h
    obtain ⟨o6, h⟩ := h
    refine s_iald (v0 := (M 72 l1)) C (sh_72 hF1) o5 o6 (d_of DX10_likely 37 rfl) rfl ?_
    refine s_icmpne C (d_of DX10_likely 38 rfl) rfl (fun hc => ?_) (fun hc => ?_)
    · have h := h.1 hc
      obtain ⟨o7, h⟩ := h
      refine s_iinc (ls' := [(2, 41), (0, l1), (3, 0), (0, l3), (0, l4), (0, l5), (0, (l6 + 1))]) C (d_of DX10_likely 54 rfl) (by decide) rfl o7 rfl rfl ?_
      refine s_goto C (d_of DX10_likely 55 rfl) rfl ?_
      exact h
    · have h := h.2 hc
      refine s_iload C (d_of DX10_likely 39 rfl) rfl ?_
      refine s_iflt C (d_of DX10_likely 40 rfl) rfl (fun hc => ?_) (fun hc => ?_)
      · have h := h.1 hc
        refine s_iload C (d_of DX10_likely 47 rfl) rfl ?_
        refine s_istore (ls' := [(2, 41), (0, l1), (3, 0), (0, l3), (0, l6), (0, l5), (0, l6)]) C (d_of DX10_likely 48 rfl) (by decide) rfl rfl ?_
        refine s_aload_n C (d_of DX10_likely 49 rfl) rfl ?_
        refine s_iload_n C (d_of DX10_likely 50 rfl) rfl ?_
        refine s_iload C (d_of DX10_likely 51 rfl) rfl ?_
        obtain ⟨Q8, hKQ8, h⟩ := h
        refine s_callV (ci := 10) (av := [(0, l1), (0, l6)]) (rest := []) (mc := 0) (ms := 0) C (d_of DX10_likely 52 rfl) lk_X10_301 (sh_41 hF1) (by decide) rfl rfl rfl (Nat.le_of_ble_eq_true rfl) (by decide) (by decide) hKQ8 (fun z8 w8 M8 hq => ?_)
        have h := h z8 w8 M8 hq
        refine s_istore (ls' := [(2, 41), (0, l1), (3, 0), (0, l3), (0, l6), (0, z8), (0, l6)]) C (d_of DX10_likely 53 rfl) (by decide) rfl rfl ?_
        obtain ⟨o9, h⟩ := h
        refine s_iinc (ls' := [(2, 41), (0, l1), (3, 0), (0, l3), (0, l6), (0, z8), (0, (l6 + 1))]) C (d_of DX10_likely 54 rfl) (by decide) rfl o9 rfl rfl ?_
        refine s_goto C (d_of DX10_likely 55 rfl) rfl ?_
        exact h
      · have h := h.2 hc
        refine s_aload_n C (d_of DX10_likely 41 rfl) rfl ?_
        refine s_iload_n C (d_of DX10_likely 42 rfl) rfl ?_
        refine s_iload C (d_of DX10_likely 43 rfl) rfl ?_
        obtain ⟨Q10, hKQ10, h⟩ := h
        refine s_callV (ci := 10) (av := [(0, l1), (0, l6)]) (rest := []) (mc := 0) (ms := 0) C (d_of DX10_likely 44 rfl) lk_X10_301 (sh_41 hF1) (by decide) rfl rfl rfl (Nat.le_of_ble_eq_true rfl) (by decide) (by decide) hKQ10 (fun z10 w10 M10 hq => ?_)
        have h := h z10 w10 M10 hq
        refine s_iload C (d_of DX10_likely 45 rfl) rfl ?_
        refine s_icmple C (d_of DX10_likely 46 rfl) rfl (fun hc => ?_) (fun hc => ?_)
        · have h := h.1 hc
          obtain ⟨o11, h⟩ := h
          refine s_iinc (ls' := [(2, 41), (0, l1), (3, 0), (0, l3), (0, l4), (0, l5), (0, (l6 + 1))]) C (d_of DX10_likely 54 rfl) (by decide) rfl o11 rfl rfl ?_
          refine s_goto C (d_of DX10_likely 55 rfl) rfl ?_
          exact h
        · have h := h.2 hc
          refine s_iload C (d_of DX10_likely 47 rfl) rfl ?_
          refine s_istore (ls' := [(2, 41), (0, l1), (3, 0), (0, l3), (0, l6), (0, l5), (0, l6)]) C (d_of DX10_likely 48 rfl) (by decide) rfl rfl ?_
          refine s_aload_n C (d_of DX10_likely 49 rfl) rfl ?_
          refine s_iload_n C (d_of DX10_likely 50 rfl) rfl ?_
          refine s_iload C (d_of DX10_likely 51 rfl) rfl ?_
          refine WA.fix (fun hF12 => ?_)
          obtain ⟨Q13, hKQ13, h⟩ := h
          refine s_callV (ci := 10) (av := [(0, l1), (0, l6)]) (rest := []) (mc := 0) (ms := 0) C (d_of DX10_likely 52 rfl) lk_X10_301 (sh_41 hF12) (by decide) rfl rfl rfl (Nat.le_of_ble_eq_true rfl) (by decide) (by decide) hKQ13 (fun z13 w13 M13 hq => ?_)
          have h := h z13 w13 M13 hq
          refine s_istore (ls' := [(2, 41), (0, l1), (3, 0), (0, l3), (0, l6), (0, z13), (0, l6)]) C (d_of DX10_likely 53 rfl) (by decide) rfl rfl ?_
          obtain ⟨o14, h⟩ := h
          refine s_iinc (ls' := [(2, 41), (0, l1), (3, 0), (0, l3), (0, l6), (0, z13), (0, (l6 + 1))]) C (d_of DX10_likely 54 rfl) (by decide) rfl o14 rfl rfl ?_
          refine s_goto C (d_of DX10_likely 55 rfl) rfl ?_
          exact h
theorem E_X10_likely {G : GP} {l : Launch} {P : Int → NS → MM → Prop} {l1 : Int} {l2 : Int} {l3 : Int} {w : NS} {M : MM} (h : inR l1 → inR l2 → inR l3 → ∀ X : BX, X.2.1 = l → CX_X10_likely G X → A_X10_likely_0 G X P l1 l2 l3 w M) : CT_X10_likely G l [(2, 41), (0, l1), (0, l2), (0, l3)] w M P :=
  CT.of RX10 "likely" (by decide +kernel) rfl rfl rfl (Nat.le_of_ble_eq_true rfl) (fun hr X hX C => h (hr (0, l1) (by simp)) (hr (0, l2) (by simp)) (hr (0, l3) (by simp)) X hX C)
def A_X10_findAsked_0 (G : GP) (X : BX) (P : Int → NS → MM → Prop) (l1 : Int) (w : NS) (M : MM) : Prop := WA true G X (QM G X true 4 P) 5 0 [(2, 41), (0, l1), (3, 0), (3, 0), (3, 0)] [] 0 0 w M
def A_X10_findAsked_7 (G : GP) (X : BX) (P : Int → NS → MM → Prop) (l1 : Int) (l2 : Int) (w : NS) (M : MM) : Prop := WA true G X (QM G X true 4 P) 5 7 [(2, 41), (0, l1), (0, l2), (3, 0), (3, 0)] [] 0 0 w M
def A_X10_findAsked_37 (G : GP) (X : BX) (P : Int → NS → MM → Prop) (l1 : Int) (l2 : Int) (l3 : Int) (w : NS) (M : MM) : Prop := WA true G X (QM G X true 4 P) 5 37 [(2, 41), (0, l1), (0, l2), (0, l3), (3, 0)] [] 0 0 w M
set_option maxHeartbeats 4000000 in
set_option maxRecDepth 100000 in
theorem B_X10_findAsked_0 {G : GP} {X : BX} {P : Int → NS → MM → Prop} {l1 : Int} {w : NS} {M : MM} (C : CX_X10_findAsked G X) (h : A_X10_findAsked_7 G X P l1 0 w (up M 41 42 0)) : A_X10_findAsked_0 G X P l1 w M := by
  unfold A_X10_findAsked_0
  refine s_aload_n C (d_of DX10_findAsked 0 rfl) rfl ?_
  refine s_iconst C (d_of DX10_findAsked 1 rfl) (by decide) ?_
  refine WA.fix (fun hF1 => ?_)
  refine pf_X10_304 C (sh_41 hF1) (fun _ => by decide) (d_of DX10_findAsked 2 rfl) ?_
  refine s_iconst C (d_of DX10_findAsked 3 rfl) (by decide) ?_
  refine s_istore_n (ls' := [(2, 41), (0, l1), (0, 0), (3, 0), (3, 0)]) C (d_of DX10_findAsked 4 rfl) (by decide) rfl rfl ?_
  exact h
set_option maxHeartbeats 4000000 in
set_option maxRecDepth 100000 in
theorem B_X10_findAsked_7 {G : GP} {X : BX} {P : Int → NS → MM → Prop} {l1 : Int} {l2 : Int} {w : NS} {M : MM} (C : CX_X10_findAsked G X) (h : ((((M 41 26) ≤ l2) → P 0 w M) ∧ ((¬ ((M 41 26) ≤ l2)) → (((9 ≤ (M 41 42)) → P 0 w M) ∧ ((¬ (9 ≤ (M 41 42))) → (0 ≤ l1) ∧ (l1 < 8) ∧ ∃ Q4 : Int → NS → MM → Prop, CT_X10_findList G X.2.1 [(2, 41), (0, l2), (0, (M 44 l1))] w M Q4 ∧ ∀ (z4 : Int) (w4 : NS) (M4 : MM), Q4 z4 w4 M4 → A_X10_findAsked_37 G X P l1 l2 0 w4 M4))))) : A_X10_findAsked_7 G X P l1 l2 w M := by
  unfold A_X10_findAsked_7
  refine s_iload_n C (d_of DX10_findAsked 5 rfl) rfl ?_
  refine s_aload_n C (d_of DX10_findAsked 6 rfl) rfl ?_
  refine WA.fix (fun hF1 => ?_)
  refine gf_X10_220 (v0 := (M 41 26)) C (sh_41 hF1) (d_of DX10_findAsked 7 rfl) rfl ?_
  refine s_icmpge C (d_of DX10_findAsked 8 rfl) rfl (fun hc => ?_) (fun hc => ?_)
  · have h := h.1 hc
    exact s_vreturn C (d_of DX10_findAsked 72 rfl) h
  · have h := h.2 hc
    refine s_aload_n C (d_of DX10_findAsked 9 rfl) rfl ?_
    refine gf_X10_304 (v0 := (M 41 42)) C (sh_41 hF1) (d_of DX10_findAsked 10 rfl) rfl ?_
    refine s_bipush C (d_of DX10_findAsked 11 rfl) ⟨rfl, by decide, by decide⟩ ?_
    refine s_icmpge C (d_of DX10_findAsked 12 rfl) rfl (fun hc => ?_) (fun hc => ?_)
    · have h := h.1 hc
      exact s_vreturn C (d_of DX10_findAsked 72 rfl) h
    · have h := h.2 hc
      refine s_aload_n C (d_of DX10_findAsked 13 rfl) rfl ?_
      refine s_iload_n C (d_of DX10_findAsked 14 rfl) rfl ?_
      refine s_aload_n C (d_of DX10_findAsked 15 rfl) rfl ?_
      refine gf_X10_16 C (sh_41 hF1) (d_of DX10_findAsked 16 rfl) (fx_41_2 hF1) ?_
      refine s_iload_n C (d_of DX10_findAsked 17 rfl) rfl ?_
      obtain ⟨o2, h⟩ := h
      obtain ⟨o3, h⟩ := h
      refine s_iald (v0 := (M 44 l1)) C (sh_44 hF1) o2 o3 (d_of DX10_findAsked 18 rfl) rfl ?_
      obtain ⟨Q4, hKQ4, h⟩ := h
      refine s_callV (ci := 10) (av := [(0, l2), (0, (M 44 l1))]) (rest := []) (mc := 0) (ms := 0) C (d_of DX10_findAsked 19 rfl) lk_X10_289 (sh_41 hF1) (by decide) rfl rfl rfl (Nat.le_of_ble_eq_true rfl) (by decide) (by decide) hKQ4 (fun z4 w4 M4 hq => ?_)
      have h := h z4 w4 M4 hq
      refine s_iconst C (d_of DX10_findAsked 20 rfl) (by decide) ?_
      refine s_istore_n (ls' := [(2, 41), (0, l1), (0, l2), (0, 0), (3, 0)]) C (d_of DX10_findAsked 21 rfl) (by decide) rfl rfl ?_
      exact h
set_option maxHeartbeats 4000000 in
set_option maxRecDepth 100000 in
theorem B_X10_findAsked_37 {G : GP} {X : BX} {P : Int → NS → MM → Prop} {l1 : Int} {l2 : Int} {l3 : Int} {w : NS} {M : MM} (C : CX_X10_findAsked G X) (h : ((((M 41 36) ≤ l3) → (inR (l2 + 1)) ∧ A_X10_findAsked_7 G X P l1 (l2 + 1) w M) ∧ ((¬ ((M 41 36) ≤ l3)) → (((9 ≤ (M 41 42)) → (inR (l2 + 1)) ∧ A_X10_findAsked_7 G X P l1 (l2 + 1) w M) ∧ ((¬ (9 ≤ (M 41 42))) → (0 ≤ l3) ∧ (l3 < 24) ∧ (0 ≤ (M 70 l3)) ∧ ((M 70 l3) < 24) ∧ ((((M 46 (M 70 l3)) = l1) → (0 ≤ (M 41 42)) ∧ ((M 41 42) < 9) ∧ (inR ((M 41 42) + 1)) ∧ (inR (l3 + 1)) ∧ A_X10_findAsked_37 G X P l1 l2 (l3 + 1) w (up (up (up M 74 (M 41 42) l2) 75 (M 41 42) (M 70 l3)) 41 42 ((M 41 42) + 1))) ∧ ((¬ ((M 46 (M 70 l3)) = l1)) → (0 ≤ l1) ∧ (l1 < 8) ∧ ((((M 45 l1) ≠ (M 46 (M 70 l3))) → (inR (l3 + 1)) ∧ A_X10_findAsked_37 G X P l1 l2 (l3 + 1) w M) ∧ ((¬ ((M 45 l1) ≠ (M 46 (M 70 l3)))) → (0 ≤ (M 41 42)) ∧ ((M 41 42) < 9) ∧ (inR ((M 41 42) + 1)) ∧ (inR (l3 + 1)) ∧ A_X10_findAsked_37 G X P l1 l2 (l3 + 1) w (up (up (up M 74 (M 41 42) l2) 75 (M 41 42) (M 70 l3)) 41 42 ((M 41 42) + 1))))))))))) : A_X10_findAsked_37 G X P l1 l2 l3 w M := by
  unfold A_X10_findAsked_37
  refine s_iload_n C (d_of DX10_findAsked 22 rfl) rfl ?_
  refine s_aload_n C (d_of DX10_findAsked 23 rfl) rfl ?_
  refine WA.fix (fun hF1 => ?_)
  refine gf_X10_283 (v0 := (M 41 36)) C (sh_41 hF1) (d_of DX10_findAsked 24 rfl) rfl ?_
  refine s_icmpge C (d_of DX10_findAsked 25 rfl) rfl (fun hc => ?_) (fun hc => ?_)
  · have h := h.1 hc
    obtain ⟨o2, h⟩ := h
    refine s_iinc (ls' := [(2, 41), (0, l1), (0, (l2 + 1)), (0, l3), (3, 0)]) C (d_of DX10_findAsked 70 rfl) (by decide) rfl o2 rfl rfl ?_
    refine s_goto C (d_of DX10_findAsked 71 rfl) rfl ?_
    exact WA.wk h ⟨Or.inr rfl, Or.inr rfl, Or.inr rfl, Or.inl rfl, Or.inl rfl, trivial⟩
  · have h := h.2 hc
    refine s_aload_n C (d_of DX10_findAsked 26 rfl) rfl ?_
    refine gf_X10_304 (v0 := (M 41 42)) C (sh_41 hF1) (d_of DX10_findAsked 27 rfl) rfl ?_
    refine s_bipush C (d_of DX10_findAsked 28 rfl) ⟨rfl, by decide, by decide⟩ ?_
    refine s_icmpge C (d_of DX10_findAsked 29 rfl) rfl (fun hc => ?_) (fun hc => ?_)
    · have h := h.1 hc
      obtain ⟨o3, h⟩ := h
      refine s_iinc (ls' := [(2, 41), (0, l1), (0, (l2 + 1)), (0, l3), (3, 0)]) C (d_of DX10_findAsked 70 rfl) (by decide) rfl o3 rfl rfl ?_
      refine s_goto C (d_of DX10_findAsked 71 rfl) rfl ?_
      exact WA.wk h ⟨Or.inr rfl, Or.inr rfl, Or.inr rfl, Or.inl rfl, Or.inl rfl, trivial⟩
    · have h := h.2 hc
      refine s_aload_n C (d_of DX10_findAsked 30 rfl) rfl ?_
      refine gf_X10_22 C (sh_41 hF1) (d_of DX10_findAsked 31 rfl) (fx_41_5 hF1) ?_
      refine s_aload_n C (d_of DX10_findAsked 32 rfl) rfl ?_
      refine gf_X10_95 C (sh_41 hF1) (d_of DX10_findAsked 33 rfl) (fx_41_35 hF1) ?_
      refine s_iload_n C (d_of DX10_findAsked 34 rfl) rfl ?_
      obtain ⟨o4, h⟩ := h
      obtain ⟨o5, h⟩ := h
      refine s_iald (v0 := (M 70 l3)) C (sh_70 hF1) o4 o5 (d_of DX10_findAsked 35 rfl) rfl ?_
      obtain ⟨o6, h⟩ := h
      obtain ⟨o7, h⟩ := h
      refine s_iald (v0 := (M 46 (M 70 l3))) C (sh_46 hF1) o6 o7 (d_of DX10_findAsked 36 rfl) rfl ?_
      refine s_istore (ls' := [(2, 41), (0, l1), (0, l2), (0, l3), (0, (M 46 (M 70 l3)))]) C (d_of DX10_findAsked 37 rfl) (by decide) rfl rfl ?_
      refine s_iload C (d_of DX10_findAsked 38 rfl) rfl ?_
      refine s_iload_n C (d_of DX10_findAsked 39 rfl) rfl ?_
      refine s_icmpeq C (d_of DX10_findAsked 40 rfl) rfl (fun hc => ?_) (fun hc => ?_)
      · have h := h.1 hc
        refine s_aload_n C (d_of DX10_findAsked 47 rfl) rfl ?_
        refine gf_X10_107 C (sh_41 hF1) (d_of DX10_findAsked 48 rfl) (fx_41_40 hF1) ?_
        refine s_aload_n C (d_of DX10_findAsked 49 rfl) rfl ?_
        refine gf_X10_304 (v0 := (M 41 42)) C (sh_41 hF1) (d_of DX10_findAsked 50 rfl) rfl ?_
        refine s_iload_n C (d_of DX10_findAsked 51 rfl) rfl ?_
        obtain ⟨o8, h⟩ := h
        obtain ⟨o9, h⟩ := h
        refine s_iast C (sh_74 hF1) o8 o9 (fun _ => by decide) (d_of DX10_findAsked 52 rfl) ?_
        refine s_aload_n C (d_of DX10_findAsked 53 rfl) rfl ?_
        refine WA.fix (fun hF10 => ?_)
        refine gf_X10_110 C (sh_41 hF1) (d_of DX10_findAsked 54 rfl) (fx_41_41 hF10) ?_
        refine s_aload_n C (d_of DX10_findAsked 55 rfl) rfl ?_
        refine gf_X10_304 (v0 := (M 41 42)) C (sh_41 hF1) (d_of DX10_findAsked 56 rfl) (up_na (by decide)) ?_
        refine s_aload_n C (d_of DX10_findAsked 57 rfl) rfl ?_
        refine gf_X10_95 C (sh_41 hF1) (d_of DX10_findAsked 58 rfl) (fx_41_35 hF10) ?_
        refine s_iload_n C (d_of DX10_findAsked 59 rfl) rfl ?_
        refine s_iald (v0 := (M 70 l3)) C (sh_70 hF1) o4 o5 (d_of DX10_findAsked 60 rfl) (up_na (by decide)) ?_
        refine s_iast C (sh_75 hF10) o8 o9 (fun _ => by decide) (d_of DX10_findAsked 61 rfl) ?_
        refine s_aload_n C (d_of DX10_findAsked 62 rfl) rfl ?_
        refine s_dup C (by simp) (d_of DX10_findAsked 63 rfl) ?_
        refine gf_X10_304 (v0 := (M 41 42)) C (sh_41 hF1) (d_of DX10_findAsked 64 rfl) ((up_na (by decide)).trans (up_na (by decide))) ?_
        refine s_iconst C (d_of DX10_findAsked 65 rfl) (by decide) ?_
        obtain ⟨o11, h⟩ := h
        refine s_iadd C (d_of DX10_findAsked 66 rfl) o11 ?_
        refine pf_X10_304 C (sh_41 hF1) (fun _ => by decide) (d_of DX10_findAsked 67 rfl) ?_
        obtain ⟨o12, h⟩ := h
        refine s_iinc (ls' := [(2, 41), (0, l1), (0, l2), (0, (l3 + 1)), (0, (M 46 (M 70 l3)))]) C (d_of DX10_findAsked 68 rfl) (by decide) rfl o12 rfl rfl ?_
        refine s_goto C (d_of DX10_findAsked 69 rfl) rfl ?_
        exact WA.wk h ⟨Or.inr rfl, Or.inr rfl, Or.inr rfl, Or.inr rfl, Or.inl rfl, trivial⟩
      · have h := h.2 hc
        refine s_aload_n C (d_of DX10_findAsked 41 rfl) rfl ?_
        refine gf_X10_19 C (sh_41 hF1) (d_of DX10_findAsked 42 rfl) (fx_41_3 hF1) ?_
        refine s_iload_n C (d_of DX10_findAsked 43 rfl) rfl ?_
        obtain ⟨o13, h⟩ := h
        obtain ⟨o14, h⟩ := h
        refine s_iald (v0 := (M 45 l1)) C (sh_45 hF1) o13 o14 (d_of DX10_findAsked 44 rfl) rfl ?_
        refine s_iload C (d_of DX10_findAsked 45 rfl) rfl ?_
        refine s_icmpne C (d_of DX10_findAsked 46 rfl) rfl (fun hc => ?_) (fun hc => ?_)
        · have h := h.1 hc
          obtain ⟨o15, h⟩ := h
          refine s_iinc (ls' := [(2, 41), (0, l1), (0, l2), (0, (l3 + 1)), (0, (M 46 (M 70 l3)))]) C (d_of DX10_findAsked 68 rfl) (by decide) rfl o15 rfl rfl ?_
          refine s_goto C (d_of DX10_findAsked 69 rfl) rfl ?_
          exact WA.wk h ⟨Or.inr rfl, Or.inr rfl, Or.inr rfl, Or.inr rfl, Or.inl rfl, trivial⟩
        · have h := h.2 hc
          refine s_aload_n C (d_of DX10_findAsked 47 rfl) rfl ?_
          refine gf_X10_107 C (sh_41 hF1) (d_of DX10_findAsked 48 rfl) (fx_41_40 hF1) ?_
          refine s_aload_n C (d_of DX10_findAsked 49 rfl) rfl ?_
          refine gf_X10_304 (v0 := (M 41 42)) C (sh_41 hF1) (d_of DX10_findAsked 50 rfl) rfl ?_
          refine s_iload_n C (d_of DX10_findAsked 51 rfl) rfl ?_
          obtain ⟨o16, h⟩ := h
          obtain ⟨o17, h⟩ := h
          refine s_iast C (sh_74 hF1) o16 o17 (fun _ => by decide) (d_of DX10_findAsked 52 rfl) ?_
          refine s_aload_n C (d_of DX10_findAsked 53 rfl) rfl ?_
          refine WA.fix (fun hF18 => ?_)
          refine gf_X10_110 C (sh_41 hF1) (d_of DX10_findAsked 54 rfl) (fx_41_41 hF18) ?_
          refine s_aload_n C (d_of DX10_findAsked 55 rfl) rfl ?_
          refine gf_X10_304 (v0 := (M 41 42)) C (sh_41 hF1) (d_of DX10_findAsked 56 rfl) (up_na (by decide)) ?_
          refine s_aload_n C (d_of DX10_findAsked 57 rfl) rfl ?_
          refine gf_X10_95 C (sh_41 hF1) (d_of DX10_findAsked 58 rfl) (fx_41_35 hF18) ?_
          refine s_iload_n C (d_of DX10_findAsked 59 rfl) rfl ?_
          refine s_iald (v0 := (M 70 l3)) C (sh_70 hF1) o4 o5 (d_of DX10_findAsked 60 rfl) (up_na (by decide)) ?_
          refine s_iast C (sh_75 hF18) o16 o17 (fun _ => by decide) (d_of DX10_findAsked 61 rfl) ?_
          refine s_aload_n C (d_of DX10_findAsked 62 rfl) rfl ?_
          refine s_dup C (by simp) (d_of DX10_findAsked 63 rfl) ?_
          refine gf_X10_304 (v0 := (M 41 42)) C (sh_41 hF1) (d_of DX10_findAsked 64 rfl) ((up_na (by decide)).trans (up_na (by decide))) ?_
          refine s_iconst C (d_of DX10_findAsked 65 rfl) (by decide) ?_
          obtain ⟨o19, h⟩ := h
          refine s_iadd C (d_of DX10_findAsked 66 rfl) o19 ?_
          refine pf_X10_304 C (sh_41 hF1) (fun _ => by decide) (d_of DX10_findAsked 67 rfl) ?_
          obtain ⟨o20, h⟩ := h
          refine s_iinc (ls' := [(2, 41), (0, l1), (0, l2), (0, (l3 + 1)), (0, (M 46 (M 70 l3)))]) C (d_of DX10_findAsked 68 rfl) (by decide) rfl o20 rfl rfl ?_
          refine s_goto C (d_of DX10_findAsked 69 rfl) rfl ?_
          exact WA.wk h ⟨Or.inr rfl, Or.inr rfl, Or.inr rfl, Or.inr rfl, Or.inl rfl, trivial⟩
theorem E_X10_findAsked {G : GP} {l : Launch} {P : Int → NS → MM → Prop} {l1 : Int} {w : NS} {M : MM} (h : inR l1 → ∀ X : BX, X.2.1 = l → CX_X10_findAsked G X → A_X10_findAsked_0 G X P l1 w M) : CT_X10_findAsked G l [(2, 41), (0, l1)] w M P :=
  CT.of RX10 "findAsked" (by decide +kernel) rfl rfl rfl (Nat.le_of_ble_eq_true rfl) (fun hr X hX C => h (hr (0, l1) (by simp)) X hX C)
def A_X10_asked_0 (G : GP) (X : BX) (P : Int → NS → MM → Prop) (l1 : Int) (l2 : Int) (w : NS) (M : MM) : Prop := WA true G X (QM G X true 0 P) 3 0 [(2, 41), (0, l1), (0, l2)] [] 0 0 w M
set_option maxHeartbeats 4000000 in
set_option maxRecDepth 100000 in
theorem B_X10_asked_0 {G : GP} {X : BX} {P : Int → NS → MM → Prop} {l1 : Int} {l2 : Int} {w : NS} {M : MM} (C : CX_X10_asked G X) (h : (0 ≤ M 41 4) ∧ ((((0 ≤ l1 ∧ l1 < M 41 4)) → ∃ Q4 : Int → NS → MM → Prop, CT_X10_findAsked G X.2.1 [(2, 41), (0, l1)] w M Q4 ∧ ∀ (z4 : Int) (w4 : NS) (M4 : MM), Q4 z4 w4 M4 → (((l2 ≠ (-1)) → (inR ((M4 41 42) - 1)) ∧ (((¬ (0 ≤ l2 ∧ l2 ≤ ((M4 41 42) - 1))) → P (-6) w4 M4) ∧ (((0 ≤ l2 ∧ l2 ≤ ((M4 41 42) - 1))) → (0 ≤ l2) ∧ (l2 < 9) ∧ (inR (100 * (M4 74 l2))) ∧ (inR ((100 * (M4 74 l2)) + (M4 75 l2))) ∧ P ((100 * (M4 74 l2)) + (M4 75 l2)) w4 M4))) ∧ ((¬ (l2 ≠ (-1))) → P (M4 41 42) w4 M4))) ∧ ((¬ (0 ≤ l1 ∧ l1 < M 41 4)) → P (-1) w M))) : A_X10_asked_0 G X P l1 l2 w M := by
  unfold A_X10_asked_0
  refine s_aload_n C (d_of DX10_asked 0 rfl) rfl ?_
  refine s_iload_n C (d_of DX10_asked 1 rfl) rfl ?_
  refine WA.fix (fun hF1 => ?_)
  obtain ⟨o2, h⟩ := h
  refine s_callV (ci := 10) (av := [(0, l1)]) (rest := []) (mc := 0) (ms := 0) C (d_of DX10_asked 2 rfl) lk_X10_156 (sh_41 hF1) (by decide) rfl rfl rfl (Nat.le_of_ble_eq_true rfl) (by decide) (by decide) (pc_X10_isPage o2) (fun z3 wz3 Mz3 hq => ?_)
  obtain ⟨hq1, hq2, hq3⟩ := hq
  have hq2 := hq2.symm
  have hq3 := hq3.symm
  subst hq1 hq2 hq3
  refine s_ifne C (d_of DX10_asked 3 rfl) rfl (fun hc => ?_) (fun hc => ?_)
  · have h := h.1 (b2i_n0 hc)
    refine s_aload_n C (d_of DX10_asked 6 rfl) rfl ?_
    refine s_iload_n C (d_of DX10_asked 7 rfl) rfl ?_
    obtain ⟨Q4, hKQ4, h⟩ := h
    refine s_callV (ci := 10) (av := [(0, l1)]) (rest := []) (mc := 0) (ms := 0) C (d_of DX10_asked 8 rfl) lk_X10_307 (sh_41 hF1) (by decide) rfl rfl rfl (Nat.le_of_ble_eq_true rfl) (by decide) (by decide) hKQ4 (fun z4 w4 M4 hq => ?_)
    have h := h z4 w4 M4 hq
    refine s_iload_n C (d_of DX10_asked 9 rfl) rfl ?_
    refine s_iconst C (d_of DX10_asked 10 rfl) (by decide) ?_
    refine s_icmpne C (d_of DX10_asked 11 rfl) rfl (fun hc => ?_) (fun hc => ?_)
    · have h := h.1 hc
      refine s_iload_n C (d_of DX10_asked 15 rfl) rfl ?_
      refine s_i2l C (d_of DX10_asked 16 rfl) ?_
      refine s_lconst (z := 0) C (d_of DX10_asked 17 rfl) ⟨rfl, by decide⟩ ?_
      refine s_aload_n C (d_of DX10_asked 18 rfl) rfl ?_
      refine WA.fix (fun hF5 => ?_)
      refine gf_X10_304 (v0 := (M4 41 42)) C (sh_41 hF5) (d_of DX10_asked 19 rfl) rfl ?_
      refine s_iconst C (d_of DX10_asked 20 rfl) (by decide) ?_
      obtain ⟨o6, h⟩ := h
      refine s_isub C (d_of DX10_asked 21 rfl) o6 ?_
      refine s_i2l C (d_of DX10_asked 22 rfl) ?_
      refine s_callS (av := [(1, l2), (1, 0), (1, ((M4 41 42) - 1))]) (rest := []) (mc := 0) (ms := 0) C (d_of DX10_asked 23 rfl) lk_X10_139 rfl rfl (Nat.le_of_ble_eq_true rfl) (by decide) (by decide) (pc_X10_in) (fun z7 wz7 Mz7 hq => ?_)
      obtain ⟨hq1, hq2, hq3⟩ := hq
      have hq2 := hq2.symm
      have hq3 := hq3.symm
      subst hq1 hq2 hq3
      refine s_ifeq C (d_of DX10_asked 24 rfl) rfl (fun hc => ?_) (fun hc => ?_)
      · have h := h.1 (b2i_0.mp hc)
        refine s_bipush C (d_of DX10_asked 37 rfl) ⟨rfl, by decide, by decide⟩ ?_
        exact s_ireturn C (d_of DX10_asked 38 rfl) h
      · have h := h.2 (b2i_n0 hc)
        refine s_bipush C (d_of DX10_asked 25 rfl) ⟨rfl, by decide, by decide⟩ ?_
        refine s_aload_n C (d_of DX10_asked 26 rfl) rfl ?_
        refine gf_X10_107 C (sh_41 hF5) (d_of DX10_asked 27 rfl) (fx_41_40 hF5) ?_
        refine s_iload_n C (d_of DX10_asked 28 rfl) rfl ?_
        obtain ⟨o8, h⟩ := h
        obtain ⟨o9, h⟩ := h
        refine s_iald (v0 := (M4 74 l2)) C (sh_74 hF5) o8 o9 (d_of DX10_asked 29 rfl) rfl ?_
        obtain ⟨o10, h⟩ := h
        refine s_imul C (d_of DX10_asked 30 rfl) o10 ?_
        refine s_aload_n C (d_of DX10_asked 31 rfl) rfl ?_
        refine gf_X10_110 C (sh_41 hF5) (d_of DX10_asked 32 rfl) (fx_41_41 hF5) ?_
        refine s_iload_n C (d_of DX10_asked 33 rfl) rfl ?_
        refine s_iald (v0 := (M4 75 l2)) C (sh_75 hF5) o8 o9 (d_of DX10_asked 34 rfl) rfl ?_
        obtain ⟨o11, h⟩ := h
        refine s_iadd C (d_of DX10_asked 35 rfl) o11 ?_
        refine s_goto C (d_of DX10_asked 36 rfl) rfl ?_
        exact s_ireturn C (d_of DX10_asked 38 rfl) h
    · have h := h.2 hc
      refine s_aload_n C (d_of DX10_asked 12 rfl) rfl ?_
      refine WA.fix (fun hF12 => ?_)
      refine gf_X10_304 (v0 := (M4 41 42)) C (sh_41 hF12) (d_of DX10_asked 13 rfl) rfl ?_
      refine s_goto C (d_of DX10_asked 14 rfl) rfl ?_
      exact s_ireturn C (d_of DX10_asked 38 rfl) h
  · have h := h.2 (b2i_nn hc)
    refine s_iconst C (d_of DX10_asked 4 rfl) (by decide) ?_
    exact s_ireturn C (d_of DX10_asked 5 rfl) h
theorem E_X10_asked {G : GP} {l : Launch} {P : Int → NS → MM → Prop} {l1 : Int} {l2 : Int} {w : NS} {M : MM} (h : inR l1 → inR l2 → ∀ X : BX, X.2.1 = l → CX_X10_asked G X → A_X10_asked_0 G X P l1 l2 w M) : CT_X10_asked G l [(2, 41), (0, l1), (0, l2)] w M P :=
  CT.of RX10 "asked" (by decide +kernel) rfl rfl rfl (Nat.le_of_ble_eq_true rfl) (fun hr X hX C => h (hr (0, l1) (by simp)) (hr (0, l2) (by simp)) X hX C)
def A_X10_isOneSheet_0 (G : GP) (X : BX) (P : Int → NS → MM → Prop) (l1 : Int) (w : NS) (M : MM) : Prop := WA true G X (QM G X true 0 P) 6 0 [(2, 41), (0, l1), (3, 0), (3, 0), (3, 0), (3, 0)] [] 0 0 w M
def A_X10_isOneSheet_4 (G : GP) (X : BX) (P : Int → NS → MM → Prop) (l1 : Int) (l2 : Int) (l3 : Int) (w : NS) (M : MM) : Prop := WA true G X (QM G X true 0 P) 6 4 [(2, 41), (0, l1), (0, l2), (0, l3), (3, 0), (3, 0)] [] 0 0 w M
def A_X10_isOneSheet_15 (G : GP) (X : BX) (P : Int → NS → MM → Prop) (l1 : Int) (l2 : Int) (l3 : Int) (l4 : Int) (w : NS) (M : MM) : Prop := WA true G X (QM G X true 0 P) 6 15 [(2, 41), (0, l1), (0, l2), (0, l3), (0, l4), (3, 0)] [] 0 0 w M
set_option maxHeartbeats 4000000 in
set_option maxRecDepth 100000 in
theorem B_X10_isOneSheet_0 {G : GP} {X : BX} {P : Int → NS → MM → Prop} {l1 : Int} {w : NS} {M : MM} (C : CX_X10_isOneSheet G X) (h : A_X10_isOneSheet_4 G X P l1 1 0 w M) : A_X10_isOneSheet_0 G X P l1 w M := by
  unfold A_X10_isOneSheet_0
  refine s_iconst C (d_of DX10_isOneSheet 0 rfl) (by decide) ?_
  refine s_istore_n (ls' := [(2, 41), (0, l1), (0, 1), (3, 0), (3, 0), (3, 0)]) C (d_of DX10_isOneSheet 1 rfl) (by decide) rfl rfl ?_
  refine s_iconst C (d_of DX10_isOneSheet 2 rfl) (by decide) ?_
  refine s_istore_n (ls' := [(2, 41), (0, l1), (0, 1), (0, 0), (3, 0), (3, 0)]) C (d_of DX10_isOneSheet 3 rfl) (by decide) rfl rfl ?_
  exact h
set_option maxHeartbeats 4000000 in
set_option maxRecDepth 100000 in
theorem B_X10_isOneSheet_4 {G : GP} {X : BX} {P : Int → NS → MM → Prop} {l1 : Int} {l2 : Int} {l3 : Int} {w : NS} {M : MM} (C : CX_X10_isOneSheet G X) (h : ((((M 41 42) ≤ l3) → (l2 = 0 ∨ l2 = 1) ∧ P l2 w M) ∧ ((¬ ((M 41 42) ≤ l3)) → A_X10_isOneSheet_15 G X P l1 l2 l3 0 w M))) : A_X10_isOneSheet_4 G X P l1 l2 l3 w M := by
  unfold A_X10_isOneSheet_4
  refine s_iload_n C (d_of DX10_isOneSheet 4 rfl) rfl ?_
  refine s_aload_n C (d_of DX10_isOneSheet 5 rfl) rfl ?_
  refine WA.fix (fun hF1 => ?_)
  refine gf_X10_304 (v0 := (M 41 42)) C (sh_41 hF1) (d_of DX10_isOneSheet 6 rfl) rfl ?_
  refine s_icmpge C (d_of DX10_isOneSheet 7 rfl) rfl (fun hc => ?_) (fun hc => ?_)
  · have h := h.1 hc
    refine s_iload_n C (d_of DX10_isOneSheet 54 rfl) rfl ?_
    obtain ⟨o2, h⟩ := h
    exact s_zreturn C (d_of DX10_isOneSheet 55 rfl) o2 h
  · have h := h.2 hc
    refine s_iconst C (d_of DX10_isOneSheet 8 rfl) (by decide) ?_
    refine s_istore (ls' := [(2, 41), (0, l1), (0, l2), (0, l3), (0, 0), (3, 0)]) C (d_of DX10_isOneSheet 9 rfl) (by decide) rfl rfl ?_
    exact h
set_option maxHeartbeats 4000000 in
set_option maxRecDepth 100000 in
theorem B_X10_isOneSheet_15 {G : GP} {X : BX} {P : Int → NS → MM → Prop} {l1 : Int} {l2 : Int} {l3 : Int} {l4 : Int} {w : NS} {M : MM} (C : CX_X10_isOneSheet G X) (h : (((l3 ≤ l4) → (inR (l3 + 1)) ∧ A_X10_isOneSheet_4 G X P l1 l2 (l3 + 1) w M) ∧ ((¬ (l3 ≤ l4)) → ((((zand (zshr l1 l3) 1) ≠ 1) → (((l2 = 0) → (inR (l4 + 1)) ∧ A_X10_isOneSheet_15 G X P l1 0 l3 (l4 + 1) w M) ∧ ((¬ (l2 = 0)) → (inR (l4 + 1)) ∧ A_X10_isOneSheet_15 G X P l1 1 l3 (l4 + 1) w M))) ∧ ((¬ ((zand (zshr l1 l3) 1) ≠ 1)) → ((((zand (zshr l1 l4) 1) ≠ 1) → (((l2 = 0) → (inR (l4 + 1)) ∧ A_X10_isOneSheet_15 G X P l1 0 l3 (l4 + 1) w M) ∧ ((¬ (l2 = 0)) → (inR (l4 + 1)) ∧ A_X10_isOneSheet_15 G X P l1 1 l3 (l4 + 1) w M))) ∧ ((¬ ((zand (zshr l1 l4) 1) ≠ 1)) → (((l2 = 0) → (inR (l4 + 1)) ∧ A_X10_isOneSheet_15 G X P l1 0 l3 (l4 + 1) w M) ∧ ((¬ (l2 = 0)) → (0 ≤ l3) ∧ (l3 < 9) ∧ (0 ≤ l4) ∧ (l4 < 9) ∧ ∃ Q12 : Int → NS → MM → Prop, CT_X10_doClash G X.2.1 [(2, 41), (0, (M 75 l3)), (0, (M 75 l4))] w M Q12 ∧ ∀ (z12 : Int) (w12 : NS) (M12 : MM), Q12 z12 w12 M12 → (((z12 ≠ 0) → (inR (l4 + 1)) ∧ A_X10_isOneSheet_15 G X P l1 0 l3 (l4 + 1) w12 M12) ∧ ((¬ (z12 ≠ 0)) → (inR (l4 + 1)) ∧ A_X10_isOneSheet_15 G X P l1 1 l3 (l4 + 1) w12 M12))))))))))) : A_X10_isOneSheet_15 G X P l1 l2 l3 l4 w M := by
  unfold A_X10_isOneSheet_15
  refine s_iload C (d_of DX10_isOneSheet 10 rfl) rfl ?_
  refine s_iload_n C (d_of DX10_isOneSheet 11 rfl) rfl ?_
  refine s_icmpge C (d_of DX10_isOneSheet 12 rfl) rfl (fun hc => ?_) (fun hc => ?_)
  · have h := h.1 hc
    obtain ⟨o1, h⟩ := h
    refine s_iinc (ls' := [(2, 41), (0, l1), (0, l2), (0, (l3 + 1)), (0, l4), (3, 0)]) C (d_of DX10_isOneSheet 52 rfl) (by decide) rfl o1 rfl rfl ?_
    refine s_goto C (d_of DX10_isOneSheet 53 rfl) rfl ?_
    exact WA.wk h ⟨Or.inr rfl, Or.inr rfl, Or.inr rfl, Or.inr rfl, Or.inl rfl, Or.inl rfl, trivial⟩
  · have h := h.2 hc
    refine s_iload_n C (d_of DX10_isOneSheet 13 rfl) rfl ?_
    refine s_iload_n C (d_of DX10_isOneSheet 14 rfl) rfl ?_
    refine s_ishr C (d_of DX10_isOneSheet 15 rfl) ?_
    refine s_iconst C (d_of DX10_isOneSheet 16 rfl) (by decide) ?_
    refine s_iand C (d_of DX10_isOneSheet 17 rfl) ?_
    refine s_iconst C (d_of DX10_isOneSheet 18 rfl) (by decide) ?_
    refine s_icmpne C (d_of DX10_isOneSheet 19 rfl) rfl (fun hc => ?_) (fun hc => ?_)
    · have h := h.1 hc
      refine s_iconst C (d_of DX10_isOneSheet 29 rfl) (by decide) ?_
      refine s_istore (ls' := [(2, 41), (0, l1), (0, l2), (0, l3), (0, l4), (0, 0)]) C (d_of DX10_isOneSheet 30 rfl) (by decide) rfl rfl ?_
      refine s_iload_n C (d_of DX10_isOneSheet 31 rfl) rfl ?_
      refine s_ifeq C (d_of DX10_isOneSheet 32 rfl) rfl (fun hc => ?_) (fun hc => ?_)
      · have h := h.1 hc
        refine s_iconst C (d_of DX10_isOneSheet 48 rfl) (by decide) ?_
        refine s_istore_n (ls' := [(2, 41), (0, l1), (0, 0), (0, l3), (0, l4), (0, 0)]) C (d_of DX10_isOneSheet 49 rfl) (by decide) rfl rfl ?_
        obtain ⟨o2, h⟩ := h
        refine s_iinc (ls' := [(2, 41), (0, l1), (0, 0), (0, l3), (0, (l4 + 1)), (0, 0)]) C (d_of DX10_isOneSheet 50 rfl) (by decide) rfl o2 rfl rfl ?_
        refine s_goto C (d_of DX10_isOneSheet 51 rfl) rfl ?_
        exact WA.wk h ⟨Or.inr rfl, Or.inr rfl, Or.inr rfl, Or.inr rfl, Or.inr rfl, Or.inl rfl, trivial⟩
      · have h := h.2 hc
        refine s_iload C (d_of DX10_isOneSheet 33 rfl) rfl ?_
        refine s_ifeq C (d_of DX10_isOneSheet 34 rfl) rfl (fun hc => ?_) (fun hc => absurd (by decide) hc)
        refine s_iconst C (d_of DX10_isOneSheet 46 rfl) (by decide) ?_
        refine s_goto C (d_of DX10_isOneSheet 47 rfl) rfl ?_
        refine s_istore_n (ls' := [(2, 41), (0, l1), (0, 1), (0, l3), (0, l4), (0, 0)]) C (d_of DX10_isOneSheet 49 rfl) (by decide) rfl rfl ?_
        obtain ⟨o3, h⟩ := h
        refine s_iinc (ls' := [(2, 41), (0, l1), (0, 1), (0, l3), (0, (l4 + 1)), (0, 0)]) C (d_of DX10_isOneSheet 50 rfl) (by decide) rfl o3 rfl rfl ?_
        refine s_goto C (d_of DX10_isOneSheet 51 rfl) rfl ?_
        exact WA.wk h ⟨Or.inr rfl, Or.inr rfl, Or.inr rfl, Or.inr rfl, Or.inr rfl, Or.inl rfl, trivial⟩
    · have h := h.2 hc
      refine s_iload_n C (d_of DX10_isOneSheet 20 rfl) rfl ?_
      refine s_iload C (d_of DX10_isOneSheet 21 rfl) rfl ?_
      refine s_ishr C (d_of DX10_isOneSheet 22 rfl) ?_
      refine s_iconst C (d_of DX10_isOneSheet 23 rfl) (by decide) ?_
      refine s_iand C (d_of DX10_isOneSheet 24 rfl) ?_
      refine s_iconst C (d_of DX10_isOneSheet 25 rfl) (by decide) ?_
      refine s_icmpne C (d_of DX10_isOneSheet 26 rfl) rfl (fun hc => ?_) (fun hc => ?_)
      · have h := h.1 hc
        refine s_iconst C (d_of DX10_isOneSheet 29 rfl) (by decide) ?_
        refine s_istore (ls' := [(2, 41), (0, l1), (0, l2), (0, l3), (0, l4), (0, 0)]) C (d_of DX10_isOneSheet 30 rfl) (by decide) rfl rfl ?_
        refine s_iload_n C (d_of DX10_isOneSheet 31 rfl) rfl ?_
        refine s_ifeq C (d_of DX10_isOneSheet 32 rfl) rfl (fun hc => ?_) (fun hc => ?_)
        · have h := h.1 hc
          refine s_iconst C (d_of DX10_isOneSheet 48 rfl) (by decide) ?_
          refine s_istore_n (ls' := [(2, 41), (0, l1), (0, 0), (0, l3), (0, l4), (0, 0)]) C (d_of DX10_isOneSheet 49 rfl) (by decide) rfl rfl ?_
          obtain ⟨o4, h⟩ := h
          refine s_iinc (ls' := [(2, 41), (0, l1), (0, 0), (0, l3), (0, (l4 + 1)), (0, 0)]) C (d_of DX10_isOneSheet 50 rfl) (by decide) rfl o4 rfl rfl ?_
          refine s_goto C (d_of DX10_isOneSheet 51 rfl) rfl ?_
          exact WA.wk h ⟨Or.inr rfl, Or.inr rfl, Or.inr rfl, Or.inr rfl, Or.inr rfl, Or.inl rfl, trivial⟩
        · have h := h.2 hc
          refine s_iload C (d_of DX10_isOneSheet 33 rfl) rfl ?_
          refine s_ifeq C (d_of DX10_isOneSheet 34 rfl) rfl (fun hc => ?_) (fun hc => absurd (by decide) hc)
          refine s_iconst C (d_of DX10_isOneSheet 46 rfl) (by decide) ?_
          refine s_goto C (d_of DX10_isOneSheet 47 rfl) rfl ?_
          refine s_istore_n (ls' := [(2, 41), (0, l1), (0, 1), (0, l3), (0, l4), (0, 0)]) C (d_of DX10_isOneSheet 49 rfl) (by decide) rfl rfl ?_
          obtain ⟨o5, h⟩ := h
          refine s_iinc (ls' := [(2, 41), (0, l1), (0, 1), (0, l3), (0, (l4 + 1)), (0, 0)]) C (d_of DX10_isOneSheet 50 rfl) (by decide) rfl o5 rfl rfl ?_
          refine s_goto C (d_of DX10_isOneSheet 51 rfl) rfl ?_
          exact WA.wk h ⟨Or.inr rfl, Or.inr rfl, Or.inr rfl, Or.inr rfl, Or.inr rfl, Or.inl rfl, trivial⟩
      · have h := h.2 hc
        refine s_iconst C (d_of DX10_isOneSheet 27 rfl) (by decide) ?_
        refine s_goto C (d_of DX10_isOneSheet 28 rfl) rfl ?_
        refine s_istore (ls' := [(2, 41), (0, l1), (0, l2), (0, l3), (0, l4), (0, 1)]) C (d_of DX10_isOneSheet 30 rfl) (by decide) rfl rfl ?_
        refine s_iload_n C (d_of DX10_isOneSheet 31 rfl) rfl ?_
        refine s_ifeq C (d_of DX10_isOneSheet 32 rfl) rfl (fun hc => ?_) (fun hc => ?_)
        · have h := h.1 hc
          refine s_iconst C (d_of DX10_isOneSheet 48 rfl) (by decide) ?_
          refine s_istore_n (ls' := [(2, 41), (0, l1), (0, 0), (0, l3), (0, l4), (0, 1)]) C (d_of DX10_isOneSheet 49 rfl) (by decide) rfl rfl ?_
          obtain ⟨o6, h⟩ := h
          refine s_iinc (ls' := [(2, 41), (0, l1), (0, 0), (0, l3), (0, (l4 + 1)), (0, 1)]) C (d_of DX10_isOneSheet 50 rfl) (by decide) rfl o6 rfl rfl ?_
          refine s_goto C (d_of DX10_isOneSheet 51 rfl) rfl ?_
          exact WA.wk h ⟨Or.inr rfl, Or.inr rfl, Or.inr rfl, Or.inr rfl, Or.inr rfl, Or.inl rfl, trivial⟩
        · have h := h.2 hc
          refine s_iload C (d_of DX10_isOneSheet 33 rfl) rfl ?_
          refine s_ifeq C (d_of DX10_isOneSheet 34 rfl) rfl (fun hc => absurd hc (by decide)) (fun hc => ?_)
          refine s_aload_n C (d_of DX10_isOneSheet 35 rfl) rfl ?_
          refine s_aload_n C (d_of DX10_isOneSheet 36 rfl) rfl ?_
          refine WA.fix (fun hF7 => ?_)
          refine gf_X10_110 C (sh_41 hF7) (d_of DX10_isOneSheet 37 rfl) (fx_41_41 hF7) ?_
          refine s_iload_n C (d_of DX10_isOneSheet 38 rfl) rfl ?_
          obtain ⟨o8, h⟩ := h
          obtain ⟨o9, h⟩ := h
          refine s_iald (v0 := (M 75 l3)) C (sh_75 hF7) o8 o9 (d_of DX10_isOneSheet 39 rfl) rfl ?_
          refine s_aload_n C (d_of DX10_isOneSheet 40 rfl) rfl ?_
          refine gf_X10_110 C (sh_41 hF7) (d_of DX10_isOneSheet 41 rfl) (fx_41_41 hF7) ?_
          refine s_iload C (d_of DX10_isOneSheet 42 rfl) rfl ?_
          obtain ⟨o10, h⟩ := h
          obtain ⟨o11, h⟩ := h
          refine s_iald (v0 := (M 75 l4)) C (sh_75 hF7) o10 o11 (d_of DX10_isOneSheet 43 rfl) rfl ?_
          obtain ⟨Q12, hKQ12, h⟩ := h
          refine s_callV (ci := 10) (av := [(0, (M 75 l3)), (0, (M 75 l4))]) (rest := []) (mc := 0) (ms := 0) C (d_of DX10_isOneSheet 44 rfl) lk_X10_197 (sh_41 hF7) (by decide) rfl rfl rfl (Nat.le_of_ble_eq_true rfl) (by decide) (by decide) hKQ12 (fun z12 w12 M12 hq => ?_)
          have h := h z12 w12 M12 hq
          refine s_ifne C (d_of DX10_isOneSheet 45 rfl) rfl (fun hc => ?_) (fun hc => ?_)
          · have h := h.1 hc
            refine s_iconst C (d_of DX10_isOneSheet 48 rfl) (by decide) ?_
            refine s_istore_n (ls' := [(2, 41), (0, l1), (0, 0), (0, l3), (0, l4), (0, 1)]) C (d_of DX10_isOneSheet 49 rfl) (by decide) rfl rfl ?_
            obtain ⟨o13, h⟩ := h
            refine s_iinc (ls' := [(2, 41), (0, l1), (0, 0), (0, l3), (0, (l4 + 1)), (0, 1)]) C (d_of DX10_isOneSheet 50 rfl) (by decide) rfl o13 rfl rfl ?_
            refine s_goto C (d_of DX10_isOneSheet 51 rfl) rfl ?_
            exact WA.wk h ⟨Or.inr rfl, Or.inr rfl, Or.inr rfl, Or.inr rfl, Or.inr rfl, Or.inl rfl, trivial⟩
          · have h := h.2 hc
            refine s_iconst C (d_of DX10_isOneSheet 46 rfl) (by decide) ?_
            refine s_goto C (d_of DX10_isOneSheet 47 rfl) rfl ?_
            refine s_istore_n (ls' := [(2, 41), (0, l1), (0, 1), (0, l3), (0, l4), (0, 1)]) C (d_of DX10_isOneSheet 49 rfl) (by decide) rfl rfl ?_
            obtain ⟨o14, h⟩ := h
            refine s_iinc (ls' := [(2, 41), (0, l1), (0, 1), (0, l3), (0, (l4 + 1)), (0, 1)]) C (d_of DX10_isOneSheet 50 rfl) (by decide) rfl o14 rfl rfl ?_
            refine s_goto C (d_of DX10_isOneSheet 51 rfl) rfl ?_
            exact WA.wk h ⟨Or.inr rfl, Or.inr rfl, Or.inr rfl, Or.inr rfl, Or.inr rfl, Or.inl rfl, trivial⟩
theorem E_X10_isOneSheet {G : GP} {l : Launch} {P : Int → NS → MM → Prop} {l1 : Int} {w : NS} {M : MM} (h : inR l1 → ∀ X : BX, X.2.1 = l → CX_X10_isOneSheet G X → A_X10_isOneSheet_0 G X P l1 w M) : CT_X10_isOneSheet G l [(2, 41), (0, l1)] w M P :=
  CT.of RX10 "isOneSheet" (by decide +kernel) rfl rfl rfl (Nat.le_of_ble_eq_true rfl) (fun hr X hX C => h (hr (0, l1) (by simp)) X hX C)
def A_X10_findSheets_0 (G : GP) (X : BX) (P : Int → NS → MM → Prop) (l1 : Int) (w : NS) (M : MM) : Prop := WA true G X (QM G X true 4 P) 7 0 [(2, 41), (0, l1), (3, 0), (3, 0), (3, 0), (3, 0), (3, 0)] [] 0 0 w M
def A_X10_findSheets_9 (G : GP) (X : BX) (P : Int → NS → MM → Prop) (l1 : Int) (l2 : Int) (l3 : Int) (w : NS) (M : MM) : Prop := WA true G X (QM G X true 4 P) 7 9 [(2, 41), (0, l1), (0, l2), (0, l3), (3, 0), (3, 0), (3, 0)] [] 0 0 w M
def A_X10_findSheets_52 (G : GP) (X : BX) (P : Int → NS → MM → Prop) (l1 : Int) (l2 : Int) (l3 : Int) (w : NS) (M : MM) : Prop := WA true G X (QM G X true 4 P) 7 52 [(2, 41), (0, l1), (0, l2), (0, l3), (3, 0), (3, 0), (3, 0)] [] 0 0 w M
def A_X10_findSheets_60 (G : GP) (X : BX) (P : Int → NS → MM → Prop) (l1 : Int) (l2 : Int) (l3 : Int) (l4 : Int) (w : NS) (M : MM) : Prop := WA true G X (QM G X true 4 P) 7 60 [(2, 41), (0, l1), (0, l2), (0, l3), (0, l4), (3, 0), (3, 0)] [] 0 0 w M
def A_X10_findSheets_89 (G : GP) (X : BX) (P : Int → NS → MM → Prop) (l1 : Int) (l2 : Int) (l3 : Int) (l4 : Int) (l5 : Int) (l6 : Int) (w : NS) (M : MM) : Prop := WA true G X (QM G X true 4 P) 7 89 [(2, 41), (0, l1), (0, l2), (0, l3), (0, l4), (0, l5), (0, l6)] [] 0 0 w M
set_option maxHeartbeats 4000000 in
set_option maxRecDepth 100000 in
theorem B_X10_findSheets_0 {G : GP} {X : BX} {P : Int → NS → MM → Prop} {l1 : Int} {w : NS} {M : MM} (C : CX_X10_findSheets G X) (h : A_X10_findSheets_9 G X P l1 (zshl 1 (M 41 42)) 0 w M) : A_X10_findSheets_0 G X P l1 w M := by
  unfold A_X10_findSheets_0
  refine s_iconst C (d_of DX10_findSheets 0 rfl) (by decide) ?_
  refine s_aload_n C (d_of DX10_findSheets 1 rfl) rfl ?_
  refine WA.fix (fun hF1 => ?_)
  refine gf_X10_304 (v0 := (M 41 42)) C (sh_41 hF1) (d_of DX10_findSheets 2 rfl) rfl ?_
  refine s_ishl C (d_of DX10_findSheets 3 rfl) ?_
  refine s_istore_n (ls' := [(2, 41), (0, l1), (0, (zshl 1 (M 41 42))), (3, 0), (3, 0), (3, 0), (3, 0)]) C (d_of DX10_findSheets 4 rfl) (by decide) rfl rfl ?_
  refine s_iconst C (d_of DX10_findSheets 5 rfl) (by decide) ?_
  refine s_istore_n (ls' := [(2, 41), (0, l1), (0, (zshl 1 (M 41 42))), (0, 0), (3, 0), (3, 0), (3, 0)]) C (d_of DX10_findSheets 6 rfl) (by decide) rfl rfl ?_
  exact h
set_option maxHeartbeats 4000000 in
set_option maxRecDepth 100000 in
theorem B_X10_findSheets_9 {G : GP} {X : BX} {P : Int → NS → MM → Prop} {l1 : Int} {l2 : Int} {l3 : Int} {w : NS} {M : MM} (C : CX_X10_findSheets G X) (h : (((l2 ≤ l3) → A_X10_findSheets_52 G X P l1 l2 1 w M) ∧ ((¬ (l2 ≤ l3)) → (((l3 ≠ 0) → (0 ≤ l3) ∧ (l3 < 2560) ∧ (inR (2048 + l3)) ∧ ∃ Q6 : Int → NS → MM → Prop, CT_X10_isOneSheet G X.2.1 [(2, 41), (0, l3)] w (up M 76 l3 0) Q6 ∧ ∀ (z6 : Int) (w6 : NS) (M6 : MM), Q6 z6 w6 M6 → (0 ≤ (2048 + l3)) ∧ ((2048 + l3) < 2560) ∧ (z6 = 0 ∨ z6 = 1) ∧ (inR (l3 + 1)) ∧ A_X10_findSheets_9 G X P l1 l2 (l3 + 1) w6 (up M6 76 (2048 + l3) z6)) ∧ ((¬ (l3 ≠ 0)) → (0 ≤ l3) ∧ (l3 < 2560) ∧ (inR (2048 + l3)) ∧ ∃ Q16 : Int → NS → MM → Prop, CT_X10_isOneSheet G X.2.1 [(2, 41), (0, l3)] w (up M 76 l3 1) Q16 ∧ ∀ (z16 : Int) (w16 : NS) (M16 : MM), Q16 z16 w16 M16 → (0 ≤ (2048 + l3)) ∧ ((2048 + l3) < 2560) ∧ (z16 = 0 ∨ z16 = 1) ∧ (inR (l3 + 1)) ∧ A_X10_findSheets_9 G X P l1 l2 (l3 + 1) w16 (up M16 76 (2048 + l3) z16)))))) : A_X10_findSheets_9 G X P l1 l2 l3 w M := by
  unfold A_X10_findSheets_9
  refine s_iload_n C (d_of DX10_findSheets 7 rfl) rfl ?_
  refine s_iload_n C (d_of DX10_findSheets 8 rfl) rfl ?_
  refine s_icmpge C (d_of DX10_findSheets 9 rfl) rfl (fun hc => ?_) (fun hc => ?_)
  · have h := h.1 hc
    refine s_iconst C (d_of DX10_findSheets 30 rfl) (by decide) ?_
    refine s_istore_n (ls' := [(2, 41), (0, l1), (0, l2), (0, 1), (3, 0), (3, 0), (3, 0)]) C (d_of DX10_findSheets 31 rfl) (by decide) rfl rfl ?_
    exact h
  · have h := h.2 hc
    refine s_aload_n C (d_of DX10_findSheets 10 rfl) rfl ?_
    refine WA.fix (fun hF1 => ?_)
    refine gf_X10_113 C (sh_41 hF1) (d_of DX10_findSheets 11 rfl) (fx_41_43 hF1) ?_
    refine s_iload_n C (d_of DX10_findSheets 12 rfl) rfl ?_
    refine s_iload_n C (d_of DX10_findSheets 13 rfl) rfl ?_
    refine s_ifne C (d_of DX10_findSheets 14 rfl) rfl (fun hc => ?_) (fun hc => ?_)
    · have h := h.1 hc
      refine s_iconst C (d_of DX10_findSheets 17 rfl) (by decide) ?_
      obtain ⟨o2, h⟩ := h
      obtain ⟨o3, h⟩ := h
      refine s_zast C (sh_76 hF1) o2 o3 (by decide) (fun _ => by decide) (d_of DX10_findSheets 18 rfl) ?_
      refine s_aload_n C (d_of DX10_findSheets 19 rfl) rfl ?_
      refine WA.fix (fun hF4 => ?_)
      refine gf_X10_113 C (sh_41 hF1) (d_of DX10_findSheets 20 rfl) (fx_41_43 hF4) ?_
      refine s_sipush C (d_of DX10_findSheets 21 rfl) ⟨rfl, by decide, by decide⟩ ?_
      refine s_iload_n C (d_of DX10_findSheets 22 rfl) rfl ?_
      obtain ⟨o5, h⟩ := h
      refine s_iadd C (d_of DX10_findSheets 23 rfl) o5 ?_
      refine s_aload_n C (d_of DX10_findSheets 24 rfl) rfl ?_
      refine s_iload_n C (d_of DX10_findSheets 25 rfl) rfl ?_
      obtain ⟨Q6, hKQ6, h⟩ := h
      refine s_callV (ci := 10) (av := [(0, l3)]) (rest := [(0, (2048 + l3)), (2, 76)]) (mc := 0) (ms := 0) C (d_of DX10_findSheets 26 rfl) lk_X10_310 (sh_41 hF1) (by decide) rfl rfl rfl (Nat.le_of_ble_eq_true rfl) (by decide) (by decide) hKQ6 (fun z6 w6 M6 hq => ?_)
      have h := h z6 w6 M6 hq
      refine WA.fix (fun hF7 => ?_)
      obtain ⟨o8, h⟩ := h
      obtain ⟨o9, h⟩ := h
      obtain ⟨o10, h⟩ := h
      refine s_zast C (sh_76 hF7) o8 o9 o10 (fun _ => by decide) (d_of DX10_findSheets 27 rfl) ?_
      obtain ⟨o11, h⟩ := h
      refine s_iinc (ls' := [(2, 41), (0, l1), (0, l2), (0, (l3 + 1)), (3, 0), (3, 0), (3, 0)]) C (d_of DX10_findSheets 28 rfl) (by decide) rfl o11 rfl rfl ?_
      refine s_goto C (d_of DX10_findSheets 29 rfl) rfl ?_
      exact h
    · have h := h.2 hc
      refine s_iconst C (d_of DX10_findSheets 15 rfl) (by decide) ?_
      refine s_goto C (d_of DX10_findSheets 16 rfl) rfl ?_
      obtain ⟨o12, h⟩ := h
      obtain ⟨o13, h⟩ := h
      refine s_zast C (sh_76 hF1) o12 o13 (by decide) (fun _ => by decide) (d_of DX10_findSheets 18 rfl) ?_
      refine s_aload_n C (d_of DX10_findSheets 19 rfl) rfl ?_
      refine WA.fix (fun hF14 => ?_)
      refine gf_X10_113 C (sh_41 hF1) (d_of DX10_findSheets 20 rfl) (fx_41_43 hF14) ?_
      refine s_sipush C (d_of DX10_findSheets 21 rfl) ⟨rfl, by decide, by decide⟩ ?_
      refine s_iload_n C (d_of DX10_findSheets 22 rfl) rfl ?_
      obtain ⟨o15, h⟩ := h
      refine s_iadd C (d_of DX10_findSheets 23 rfl) o15 ?_
      refine s_aload_n C (d_of DX10_findSheets 24 rfl) rfl ?_
      refine s_iload_n C (d_of DX10_findSheets 25 rfl) rfl ?_
      obtain ⟨Q16, hKQ16, h⟩ := h
      refine s_callV (ci := 10) (av := [(0, l3)]) (rest := [(0, (2048 + l3)), (2, 76)]) (mc := 0) (ms := 0) C (d_of DX10_findSheets 26 rfl) lk_X10_310 (sh_41 hF1) (by decide) rfl rfl rfl (Nat.le_of_ble_eq_true rfl) (by decide) (by decide) hKQ16 (fun z16 w16 M16 hq => ?_)
      have h := h z16 w16 M16 hq
      refine WA.fix (fun hF17 => ?_)
      obtain ⟨o18, h⟩ := h
      obtain ⟨o19, h⟩ := h
      obtain ⟨o20, h⟩ := h
      refine s_zast C (sh_76 hF17) o18 o19 o20 (fun _ => by decide) (d_of DX10_findSheets 27 rfl) ?_
      obtain ⟨o21, h⟩ := h
      refine s_iinc (ls' := [(2, 41), (0, l1), (0, l2), (0, (l3 + 1)), (3, 0), (3, 0), (3, 0)]) C (d_of DX10_findSheets 28 rfl) (by decide) rfl o21 rfl rfl ?_
      refine s_goto C (d_of DX10_findSheets 29 rfl) rfl ?_
      exact h
set_option maxHeartbeats 4000000 in
set_option maxRecDepth 100000 in
theorem B_X10_findSheets_52 {G : GP} {X : BX} {P : Int → NS → MM → Prop} {l1 : Int} {l2 : Int} {l3 : Int} {w : NS} {M : MM} (C : CX_X10_findSheets G X) (h : (((l1 < l3) → P 0 w M) ∧ ((¬ (l1 < l3)) → A_X10_findSheets_60 G X P l1 l2 l3 0 w M))) : A_X10_findSheets_52 G X P l1 l2 l3 w M := by
  unfold A_X10_findSheets_52
  refine s_iload_n C (d_of DX10_findSheets 32 rfl) rfl ?_
  refine s_iload_n C (d_of DX10_findSheets 33 rfl) rfl ?_
  refine s_icmpgt C (d_of DX10_findSheets 34 rfl) rfl (fun hc => ?_) (fun hc => ?_)
  · have h := h.1 hc
    exact s_vreturn C (d_of DX10_findSheets 109 rfl) h
  · have h := h.2 hc
    refine s_iconst C (d_of DX10_findSheets 35 rfl) (by decide) ?_
    refine s_istore (ls' := [(2, 41), (0, l1), (0, l2), (0, l3), (0, 0), (3, 0), (3, 0)]) C (d_of DX10_findSheets 36 rfl) (by decide) rfl rfl ?_
    exact h
set_option maxHeartbeats 4000000 in
set_option maxRecDepth 100000 in
theorem B_X10_findSheets_60 {G : GP} {X : BX} {P : Int → NS → MM → Prop} {l1 : Int} {l2 : Int} {l3 : Int} {l4 : Int} {w : NS} {M : MM} (C : CX_X10_findSheets G X) (h : (((l2 ≤ l4) → (inR (l3 + 1)) ∧ A_X10_findSheets_52 G X P l1 l2 (l3 + 1) w M) ∧ ((¬ (l2 ≤ l4)) → (inR (l3 - 1)) ∧ (inR (512 * (zand (l3 - 1) 1))) ∧ (inR ((512 * (zand (l3 - 1) 1)) + l4)) ∧ (0 ≤ ((512 * (zand (l3 - 1) 1)) + l4)) ∧ (((512 * (zand (l3 - 1) 1)) + l4) < 2560) ∧ A_X10_findSheets_89 G X P l1 l2 l3 l4 (M 76 ((512 * (zand (l3 - 1) 1)) + l4)) l4 w M))) : A_X10_findSheets_60 G X P l1 l2 l3 l4 w M := by
  unfold A_X10_findSheets_60
  refine s_iload C (d_of DX10_findSheets 37 rfl) rfl ?_
  refine s_iload_n C (d_of DX10_findSheets 38 rfl) rfl ?_
  refine s_icmpge C (d_of DX10_findSheets 39 rfl) rfl (fun hc => ?_) (fun hc => ?_)
  · have h := h.1 hc
    obtain ⟨o1, h⟩ := h
    refine s_iinc (ls' := [(2, 41), (0, l1), (0, l2), (0, (l3 + 1)), (0, l4), (3, 0), (3, 0)]) C (d_of DX10_findSheets 107 rfl) (by decide) rfl o1 rfl rfl ?_
    refine s_goto C (d_of DX10_findSheets 108 rfl) rfl ?_
    exact WA.wk h ⟨Or.inr rfl, Or.inr rfl, Or.inr rfl, Or.inr rfl, Or.inl rfl, Or.inl rfl, Or.inl rfl, trivial⟩
  · have h := h.2 hc
    refine s_aload_n C (d_of DX10_findSheets 40 rfl) rfl ?_
    refine WA.fix (fun hF2 => ?_)
    refine gf_X10_113 C (sh_41 hF2) (d_of DX10_findSheets 41 rfl) (fx_41_43 hF2) ?_
    refine s_sipush C (d_of DX10_findSheets 42 rfl) ⟨rfl, by decide, by decide⟩ ?_
    refine s_iload_n C (d_of DX10_findSheets 43 rfl) rfl ?_
    refine s_iconst C (d_of DX10_findSheets 44 rfl) (by decide) ?_
    obtain ⟨o3, h⟩ := h
    refine s_isub C (d_of DX10_findSheets 45 rfl) o3 ?_
    refine s_iconst C (d_of DX10_findSheets 46 rfl) (by decide) ?_
    refine s_iand C (d_of DX10_findSheets 47 rfl) ?_
    obtain ⟨o4, h⟩ := h
    refine s_imul C (d_of DX10_findSheets 48 rfl) o4 ?_
    refine s_iload C (d_of DX10_findSheets 49 rfl) rfl ?_
    obtain ⟨o5, h⟩ := h
    refine s_iadd C (d_of DX10_findSheets 50 rfl) o5 ?_
    obtain ⟨o6, h⟩ := h
    obtain ⟨o7, h⟩ := h
    refine s_zald (v0 := (M 76 ((512 * (zand (l3 - 1) 1)) + l4))) C (sh_76 hF2) o6 o7 (d_of DX10_findSheets 51 rfl) rfl ?_
    refine s_istore (ls' := [(2, 41), (0, l1), (0, l2), (0, l3), (0, l4), (0, (M 76 ((512 * (zand (l3 - 1) 1)) + l4))), (3, 0)]) C (d_of DX10_findSheets 52 rfl) (by decide) rfl rfl ?_
    refine s_iload C (d_of DX10_findSheets 53 rfl) rfl ?_
    refine s_istore (ls' := [(2, 41), (0, l1), (0, l2), (0, l3), (0, l4), (0, (M 76 ((512 * (zand (l3 - 1) 1)) + l4))), (0, l4)]) C (d_of DX10_findSheets 54 rfl) (by decide) rfl rfl ?_
    exact h
set_option maxHeartbeats 4000000 in
set_option maxRecDepth 100000 in
theorem B_X10_findSheets_89 {G : GP} {X : BX} {P : Int → NS → MM → Prop} {l1 : Int} {l2 : Int} {l3 : Int} {l4 : Int} {l5 : Int} {l6 : Int} {w : NS} {M : MM} (C : CX_X10_findSheets G X) (h : (((l6 ≤ 0) → (inR (512 * (zand l3 1))) ∧ (inR ((512 * (zand l3 1)) + l4)) ∧ (0 ≤ ((512 * (zand l3 1)) + l4)) ∧ (((512 * (zand l3 1)) + l4) < 2560) ∧ (l5 = 0 ∨ l5 = 1) ∧ (inR (l4 + 1)) ∧ A_X10_findSheets_60 G X P l1 l2 l3 (l4 + 1) w (up M 76 ((512 * (zand l3 1)) + l4) l5)) ∧ ((¬ (l6 ≤ 0)) → (((l5 ≠ 0) → (inR (512 * (zand l3 1))) ∧ (inR ((512 * (zand l3 1)) + l4)) ∧ (0 ≤ ((512 * (zand l3 1)) + l4)) ∧ (((512 * (zand l3 1)) + l4) < 2560) ∧ (l5 = 0 ∨ l5 = 1) ∧ (inR (l4 + 1)) ∧ A_X10_findSheets_60 G X P l1 l2 l3 (l4 + 1) w (up M 76 ((512 * (zand l3 1)) + l4) l5)) ∧ ((¬ (l5 ≠ 0)) → (inR (2048 + l6)) ∧ (0 ≤ (2048 + l6)) ∧ ((2048 + l6) < 2560) ∧ ((((M 76 (2048 + l6)) = 0) → (inR (l6 - 1)) ∧ A_X10_findSheets_89 G X P l1 l2 l3 l4 0 (zand (l6 - 1) l4) w M) ∧ ((¬ ((M 76 (2048 + l6)) = 0)) → (inR (l3 - 1)) ∧ (inR (512 * (zand (l3 - 1) 1))) ∧ (inR ((512 * (zand (l3 - 1) 1)) + (zand l4 (zxor l6 (-1))))) ∧ (0 ≤ ((512 * (zand (l3 - 1) 1)) + (zand l4 (zxor l6 (-1))))) ∧ (((512 * (zand (l3 - 1) 1)) + (zand l4 (zxor l6 (-1)))) < 2560) ∧ ((((M 76 ((512 * (zand (l3 - 1) 1)) + (zand l4 (zxor l6 (-1))))) = 0) → (inR (l6 - 1)) ∧ A_X10_findSheets_89 G X P l1 l2 l3 l4 0 (zand (l6 - 1) l4) w M) ∧ ((¬ ((M 76 ((512 * (zand (l3 - 1) 1)) + (zand l4 (zxor l6 (-1))))) = 0)) → (inR (l6 - 1)) ∧ A_X10_findSheets_89 G X P l1 l2 l3 l4 1 (zand (l6 - 1) l4) w M))))))))) : A_X10_findSheets_89 G X P l1 l2 l3 l4 l5 l6 w M := by
  unfold A_X10_findSheets_89
  refine s_iload C (d_of DX10_findSheets 55 rfl) rfl ?_
  refine s_ifle C (d_of DX10_findSheets 56 rfl) rfl (fun hc => ?_) (fun hc => ?_)
  · have h := h.1 hc
    refine s_aload_n C (d_of DX10_findSheets 94 rfl) rfl ?_
    refine WA.fix (fun hF1 => ?_)
    refine gf_X10_113 C (sh_41 hF1) (d_of DX10_findSheets 95 rfl) (fx_41_43 hF1) ?_
    refine s_sipush C (d_of DX10_findSheets 96 rfl) ⟨rfl, by decide, by decide⟩ ?_
    refine s_iload_n C (d_of DX10_findSheets 97 rfl) rfl ?_
    refine s_iconst C (d_of DX10_findSheets 98 rfl) (by decide) ?_
    refine s_iand C (d_of DX10_findSheets 99 rfl) ?_
    obtain ⟨o2, h⟩ := h
    refine s_imul C (d_of DX10_findSheets 100 rfl) o2 ?_
    refine s_iload C (d_of DX10_findSheets 101 rfl) rfl ?_
    obtain ⟨o3, h⟩ := h
    refine s_iadd C (d_of DX10_findSheets 102 rfl) o3 ?_
    refine s_iload C (d_of DX10_findSheets 103 rfl) rfl ?_
    obtain ⟨o4, h⟩ := h
    obtain ⟨o5, h⟩ := h
    obtain ⟨o6, h⟩ := h
    refine s_zast C (sh_76 hF1) o4 o5 o6 (fun _ => by decide) (d_of DX10_findSheets 104 rfl) ?_
    obtain ⟨o7, h⟩ := h
    refine s_iinc (ls' := [(2, 41), (0, l1), (0, l2), (0, l3), (0, (l4 + 1)), (0, l5), (0, l6)]) C (d_of DX10_findSheets 105 rfl) (by decide) rfl o7 rfl rfl ?_
    refine s_goto C (d_of DX10_findSheets 106 rfl) rfl ?_
    exact WA.wk h ⟨Or.inr rfl, Or.inr rfl, Or.inr rfl, Or.inr rfl, Or.inr rfl, Or.inl rfl, Or.inl rfl, trivial⟩
  · have h := h.2 hc
    refine s_iload C (d_of DX10_findSheets 57 rfl) rfl ?_
    refine s_ifne C (d_of DX10_findSheets 58 rfl) rfl (fun hc => ?_) (fun hc => ?_)
    · have h := h.1 hc
      refine s_aload_n C (d_of DX10_findSheets 94 rfl) rfl ?_
      refine WA.fix (fun hF8 => ?_)
      refine gf_X10_113 C (sh_41 hF8) (d_of DX10_findSheets 95 rfl) (fx_41_43 hF8) ?_
      refine s_sipush C (d_of DX10_findSheets 96 rfl) ⟨rfl, by decide, by decide⟩ ?_
      refine s_iload_n C (d_of DX10_findSheets 97 rfl) rfl ?_
      refine s_iconst C (d_of DX10_findSheets 98 rfl) (by decide) ?_
      refine s_iand C (d_of DX10_findSheets 99 rfl) ?_
      obtain ⟨o9, h⟩ := h
      refine s_imul C (d_of DX10_findSheets 100 rfl) o9 ?_
      refine s_iload C (d_of DX10_findSheets 101 rfl) rfl ?_
      obtain ⟨o10, h⟩ := h
      refine s_iadd C (d_of DX10_findSheets 102 rfl) o10 ?_
      refine s_iload C (d_of DX10_findSheets 103 rfl) rfl ?_
      obtain ⟨o11, h⟩ := h
      obtain ⟨o12, h⟩ := h
      obtain ⟨o13, h⟩ := h
      refine s_zast C (sh_76 hF8) o11 o12 o13 (fun _ => by decide) (d_of DX10_findSheets 104 rfl) ?_
      obtain ⟨o14, h⟩ := h
      refine s_iinc (ls' := [(2, 41), (0, l1), (0, l2), (0, l3), (0, (l4 + 1)), (0, l5), (0, l6)]) C (d_of DX10_findSheets 105 rfl) (by decide) rfl o14 rfl rfl ?_
      refine s_goto C (d_of DX10_findSheets 106 rfl) rfl ?_
      exact WA.wk h ⟨Or.inr rfl, Or.inr rfl, Or.inr rfl, Or.inr rfl, Or.inr rfl, Or.inl rfl, Or.inl rfl, trivial⟩
    · have h := h.2 hc
      refine s_aload_n C (d_of DX10_findSheets 59 rfl) rfl ?_
      refine WA.fix (fun hF15 => ?_)
      refine gf_X10_113 C (sh_41 hF15) (d_of DX10_findSheets 60 rfl) (fx_41_43 hF15) ?_
      refine s_sipush C (d_of DX10_findSheets 61 rfl) ⟨rfl, by decide, by decide⟩ ?_
      refine s_iload C (d_of DX10_findSheets 62 rfl) rfl ?_
      obtain ⟨o16, h⟩ := h
      refine s_iadd C (d_of DX10_findSheets 63 rfl) o16 ?_
      obtain ⟨o17, h⟩ := h
      obtain ⟨o18, h⟩ := h
      refine s_zald (v0 := (M 76 (2048 + l6))) C (sh_76 hF15) o17 o18 (d_of DX10_findSheets 64 rfl) rfl ?_
      refine s_ifeq C (d_of DX10_findSheets 65 rfl) rfl (fun hc => ?_) (fun hc => ?_)
      · have h := h.1 hc
        refine s_iconst C (d_of DX10_findSheets 85 rfl) (by decide) ?_
        refine s_istore (ls' := [(2, 41), (0, l1), (0, l2), (0, l3), (0, l4), (0, 0), (0, l6)]) C (d_of DX10_findSheets 86 rfl) (by decide) rfl rfl ?_
        refine s_iload C (d_of DX10_findSheets 87 rfl) rfl ?_
        refine s_iconst C (d_of DX10_findSheets 88 rfl) (by decide) ?_
        obtain ⟨o19, h⟩ := h
        refine s_isub C (d_of DX10_findSheets 89 rfl) o19 ?_
        refine s_iload C (d_of DX10_findSheets 90 rfl) rfl ?_
        refine s_iand C (d_of DX10_findSheets 91 rfl) ?_
        refine s_istore (ls' := [(2, 41), (0, l1), (0, l2), (0, l3), (0, l4), (0, 0), (0, (zand (l6 - 1) l4))]) C (d_of DX10_findSheets 92 rfl) (by decide) rfl rfl ?_
        refine s_goto C (d_of DX10_findSheets 93 rfl) rfl ?_
        exact h
      · have h := h.2 hc
        refine s_aload_n C (d_of DX10_findSheets 66 rfl) rfl ?_
        refine gf_X10_113 C (sh_41 hF15) (d_of DX10_findSheets 67 rfl) (fx_41_43 hF15) ?_
        refine s_sipush C (d_of DX10_findSheets 68 rfl) ⟨rfl, by decide, by decide⟩ ?_
        refine s_iload_n C (d_of DX10_findSheets 69 rfl) rfl ?_
        refine s_iconst C (d_of DX10_findSheets 70 rfl) (by decide) ?_
        obtain ⟨o20, h⟩ := h
        refine s_isub C (d_of DX10_findSheets 71 rfl) o20 ?_
        refine s_iconst C (d_of DX10_findSheets 72 rfl) (by decide) ?_
        refine s_iand C (d_of DX10_findSheets 73 rfl) ?_
        obtain ⟨o21, h⟩ := h
        refine s_imul C (d_of DX10_findSheets 74 rfl) o21 ?_
        refine s_iload C (d_of DX10_findSheets 75 rfl) rfl ?_
        refine s_iload C (d_of DX10_findSheets 76 rfl) rfl ?_
        refine s_iconst C (d_of DX10_findSheets 77 rfl) (by decide) ?_
        refine s_ixor C (d_of DX10_findSheets 78 rfl) ?_
        refine s_iand C (d_of DX10_findSheets 79 rfl) ?_
        obtain ⟨o22, h⟩ := h
        refine s_iadd C (d_of DX10_findSheets 80 rfl) o22 ?_
        obtain ⟨o23, h⟩ := h
        obtain ⟨o24, h⟩ := h
        refine s_zald (v0 := (M 76 ((512 * (zand (l3 - 1) 1)) + (zand l4 (zxor l6 (-1)))))) C (sh_76 hF15) o23 o24 (d_of DX10_findSheets 81 rfl) rfl ?_
        refine s_ifeq C (d_of DX10_findSheets 82 rfl) rfl (fun hc => ?_) (fun hc => ?_)
        · have h := h.1 hc
          refine s_iconst C (d_of DX10_findSheets 85 rfl) (by decide) ?_
          refine s_istore (ls' := [(2, 41), (0, l1), (0, l2), (0, l3), (0, l4), (0, 0), (0, l6)]) C (d_of DX10_findSheets 86 rfl) (by decide) rfl rfl ?_
          refine s_iload C (d_of DX10_findSheets 87 rfl) rfl ?_
          refine s_iconst C (d_of DX10_findSheets 88 rfl) (by decide) ?_
          obtain ⟨o25, h⟩ := h
          refine s_isub C (d_of DX10_findSheets 89 rfl) o25 ?_
          refine s_iload C (d_of DX10_findSheets 90 rfl) rfl ?_
          refine s_iand C (d_of DX10_findSheets 91 rfl) ?_
          refine s_istore (ls' := [(2, 41), (0, l1), (0, l2), (0, l3), (0, l4), (0, 0), (0, (zand (l6 - 1) l4))]) C (d_of DX10_findSheets 92 rfl) (by decide) rfl rfl ?_
          refine s_goto C (d_of DX10_findSheets 93 rfl) rfl ?_
          exact h
        · have h := h.2 hc
          refine s_iconst C (d_of DX10_findSheets 83 rfl) (by decide) ?_
          refine s_goto C (d_of DX10_findSheets 84 rfl) rfl ?_
          refine s_istore (ls' := [(2, 41), (0, l1), (0, l2), (0, l3), (0, l4), (0, 1), (0, l6)]) C (d_of DX10_findSheets 86 rfl) (by decide) rfl rfl ?_
          refine s_iload C (d_of DX10_findSheets 87 rfl) rfl ?_
          refine s_iconst C (d_of DX10_findSheets 88 rfl) (by decide) ?_
          obtain ⟨o26, h⟩ := h
          refine s_isub C (d_of DX10_findSheets 89 rfl) o26 ?_
          refine s_iload C (d_of DX10_findSheets 90 rfl) rfl ?_
          refine s_iand C (d_of DX10_findSheets 91 rfl) ?_
          refine s_istore (ls' := [(2, 41), (0, l1), (0, l2), (0, l3), (0, l4), (0, 1), (0, (zand (l6 - 1) l4))]) C (d_of DX10_findSheets 92 rfl) (by decide) rfl rfl ?_
          refine s_goto C (d_of DX10_findSheets 93 rfl) rfl ?_
          exact h
theorem E_X10_findSheets {G : GP} {l : Launch} {P : Int → NS → MM → Prop} {l1 : Int} {w : NS} {M : MM} (h : inR l1 → ∀ X : BX, X.2.1 = l → CX_X10_findSheets G X → A_X10_findSheets_0 G X P l1 w M) : CT_X10_findSheets G l [(2, 41), (0, l1)] w M P :=
  CT.of RX10 "findSheets" (by decide +kernel) rfl rfl rfl (Nat.le_of_ble_eq_true rfl) (fun hr X hX C => h (hr (0, l1) (by simp)) X hX C)
def A_X10_ones_0 (G : GP) (X : BX) (P : Int → NS → MM → Prop) (l0 : Int) (w : NS) (M : MM) : Prop := WA true G X (QM G X true 0 P) 3 0 [(0, l0), (3, 0), (3, 0)] [] 0 0 w M
def A_X10_ones_4 (G : GP) (X : BX) (P : Int → NS → MM → Prop) (l0 : Int) (l1 : Int) (l2 : Int) (w : NS) (M : MM) : Prop := WA true G X (QM G X true 0 P) 3 4 [(0, l0), (0, l1), (0, l2)] [] 0 0 w M
set_option maxHeartbeats 4000000 in
set_option maxRecDepth 100000 in
theorem B_X10_ones_0 {G : GP} {X : BX} {P : Int → NS → MM → Prop} {l0 : Int} {w : NS} {M : MM} (C : CX_X10_ones G X) (h : A_X10_ones_4 G X P l0 0 0 w M) : A_X10_ones_0 G X P l0 w M := by
  unfold A_X10_ones_0
  refine s_iconst C (d_of DX10_ones 0 rfl) (by decide) ?_
  refine s_istore_n (ls' := [(0, l0), (0, 0), (3, 0)]) C (d_of DX10_ones 1 rfl) (by decide) rfl rfl ?_
  refine s_iconst C (d_of DX10_ones 2 rfl) (by decide) ?_
  refine s_istore_n (ls' := [(0, l0), (0, 0), (0, 0)]) C (d_of DX10_ones 3 rfl) (by decide) rfl rfl ?_
  exact h
set_option maxHeartbeats 4000000 in
set_option maxRecDepth 100000 in
theorem B_X10_ones_4 {G : GP} {X : BX} {P : Int → NS → MM → Prop} {l0 : Int} {l1 : Int} {l2 : Int} {w : NS} {M : MM} (C : CX_X10_ones G X) (h : (((9 ≤ l2) → P l1 w M) ∧ ((¬ (9 ≤ l2)) → (inR (l1 + (zand (zshr l0 l2) 1))) ∧ (inR (l2 + 1)) ∧ A_X10_ones_4 G X P l0 (l1 + (zand (zshr l0 l2) 1)) (l2 + 1) w M))) : A_X10_ones_4 G X P l0 l1 l2 w M := by
  unfold A_X10_ones_4
  refine s_iload_n C (d_of DX10_ones 4 rfl) rfl ?_
  refine s_bipush C (d_of DX10_ones 5 rfl) ⟨rfl, by decide, by decide⟩ ?_
  refine s_icmpge C (d_of DX10_ones 6 rfl) rfl (fun hc => ?_) (fun hc => ?_)
  · have h := h.1 hc
    refine s_iload_n C (d_of DX10_ones 17 rfl) rfl ?_
    exact s_ireturn C (d_of DX10_ones 18 rfl) h
  · have h := h.2 hc
    refine s_iload_n C (d_of DX10_ones 7 rfl) rfl ?_
    refine s_iload_n C (d_of DX10_ones 8 rfl) rfl ?_
    refine s_iload_n C (d_of DX10_ones 9 rfl) rfl ?_
    refine s_ishr C (d_of DX10_ones 10 rfl) ?_
    refine s_iconst C (d_of DX10_ones 11 rfl) (by decide) ?_
    refine s_iand C (d_of DX10_ones 12 rfl) ?_
    obtain ⟨o1, h⟩ := h
    refine s_iadd C (d_of DX10_ones 13 rfl) o1 ?_
    refine s_istore_n (ls' := [(0, l0), (0, (l1 + (zand (zshr l0 l2) 1))), (0, l2)]) C (d_of DX10_ones 14 rfl) (by decide) rfl rfl ?_
    obtain ⟨o2, h⟩ := h
    refine s_iinc (ls' := [(0, l0), (0, (l1 + (zand (zshr l0 l2) 1))), (0, (l2 + 1))]) C (d_of DX10_ones 15 rfl) (by decide) rfl o2 rfl rfl ?_
    refine s_goto C (d_of DX10_ones 16 rfl) rfl ?_
    exact h
theorem E_X10_ones {G : GP} {l : Launch} {P : Int → NS → MM → Prop} {l0 : Int} {w : NS} {M : MM} (h : inR l0 → ∀ X : BX, X.2.1 = l → CX_X10_ones G X → A_X10_ones_0 G X P l0 w M) : CT_X10_ones G l [(0, l0)] w M P :=
  CT.of RX10 "ones" (by decide +kernel) rfl rfl rfl (Nat.le_of_ble_eq_true rfl) (fun hr X hX C => h (hr (0, l0) (by simp)) X hX C)
def A_X10_served_0 (G : GP) (X : BX) (P : Int → NS → MM → Prop) (l1 : Int) (l2 : Int) (l3 : Int) (w : NS) (M : MM) : Prop := WA true G X (QM G X true 0 P) 9 0 [(2, 41), (0, l1), (0, l2), (0, l3), (3, 0), (3, 0), (3, 0), (3, 0), (3, 0)] [] 0 0 w M
def A_X10_served_51 (G : GP) (X : BX) (P : Int → NS → MM → Prop) (l2 : Int) (l3 : Int) (l4 : Int) (l5 : Int) (w : NS) (M : MM) : Prop := WA true G X (QM G X true 0 P) 9 51 [(2, 41), (3, 0), (0, l2), (0, l3), (0, l4), (0, l5), (3, 0), (3, 0), (3, 0)] [] 0 0 w M
set_option maxHeartbeats 4000000 in
set_option maxRecDepth 100000 in
theorem B_X10_served_0 {G : GP} {X : BX} {P : Int → NS → MM → Prop} {l1 : Int} {l2 : Int} {l3 : Int} {w : NS} {M : MM} (C : CX_X10_served G X) (h : (0 ≤ M 41 4) ∧ ((((0 ≤ l1 ∧ l1 < M 41 4)) → (((¬ (1 ≤ l2 ∧ l2 ≤ 4)) → P (-2) w M) ∧ (((1 ≤ l2 ∧ l2 ≤ 4)) → ((((0 ≤ l3 ∧ l3 ≤ 1)) → ∃ Q6 : Int → NS → MM → Prop, CT_X10_findAsked G X.2.1 [(2, 41), (0, l1)] w M Q6 ∧ ∀ (z6 : Int) (w6 : NS) (M6 : MM), Q6 z6 w6 M6 → ∃ Q8 : Int → NS → MM → Prop, CT_X10_findSheets G X.2.1 [(2, 41), (0, l2)] w6 M6 Q8 ∧ ∀ (z8 : Int) (w8 : NS) (M8 : MM), Q8 z8 w8 M8 → A_X10_served_51 G X P l2 l3 0 1 w8 M8) ∧ ((¬ (0 ≤ l3 ∧ l3 ≤ 1)) → P (-2) w M))))) ∧ ((¬ (0 ≤ l1 ∧ l1 < M 41 4)) → P (-1) w M))) : A_X10_served_0 G X P l1 l2 l3 w M := by
  unfold A_X10_served_0
  refine s_aload_n C (d_of DX10_served 0 rfl) rfl ?_
  refine s_iload_n C (d_of DX10_served 1 rfl) rfl ?_
  refine WA.fix (fun hF1 => ?_)
  obtain ⟨o2, h⟩ := h
  refine s_callV (ci := 10) (av := [(0, l1)]) (rest := []) (mc := 0) (ms := 0) C (d_of DX10_served 2 rfl) lk_X10_156 (sh_41 hF1) (by decide) rfl rfl rfl (Nat.le_of_ble_eq_true rfl) (by decide) (by decide) (pc_X10_isPage o2) (fun z3 wz3 Mz3 hq => ?_)
  obtain ⟨hq1, hq2, hq3⟩ := hq
  have hq2 := hq2.symm
  have hq3 := hq3.symm
  subst hq1 hq2 hq3
  refine s_ifne C (d_of DX10_served 3 rfl) rfl (fun hc => ?_) (fun hc => ?_)
  · have h := h.1 (b2i_n0 hc)
    refine s_iload_n C (d_of DX10_served 6 rfl) rfl ?_
    refine s_i2l C (d_of DX10_served 7 rfl) ?_
    refine s_lconst (z := 1) C (d_of DX10_served 8 rfl) ⟨rfl, by decide⟩ ?_
    refine s_ldc2 (z := 4) C (d_of DX10_served 9 rfl) (mG (wd_1148) rfl) ⟨rfl, by decide⟩ ?_
    refine s_callS (av := [(1, l2), (1, 1), (1, 4)]) (rest := []) (mc := 0) (ms := 0) C (d_of DX10_served 10 rfl) lk_X10_139 rfl rfl (Nat.le_of_ble_eq_true rfl) (by decide) (by decide) (pc_X10_in) (fun z4 wz4 Mz4 hq => ?_)
    obtain ⟨hq1, hq2, hq3⟩ := hq
    have hq2 := hq2.symm
    have hq3 := hq3.symm
    subst hq1 hq2 hq3
    refine s_ifeq C (d_of DX10_served 11 rfl) rfl (fun hc => ?_) (fun hc => ?_)
    · have h := h.1 (b2i_0.mp hc)
      refine s_bipush C (d_of DX10_served 18 rfl) ⟨rfl, by decide, by decide⟩ ?_
      exact s_ireturn C (d_of DX10_served 19 rfl) h
    · have h := h.2 (b2i_n0 hc)
      refine s_iload_n C (d_of DX10_served 12 rfl) rfl ?_
      refine s_i2l C (d_of DX10_served 13 rfl) ?_
      refine s_lconst (z := 0) C (d_of DX10_served 14 rfl) ⟨rfl, by decide⟩ ?_
      refine s_lconst (z := 1) C (d_of DX10_served 15 rfl) ⟨rfl, by decide⟩ ?_
      refine s_callS (av := [(1, l3), (1, 0), (1, 1)]) (rest := []) (mc := 0) (ms := 0) C (d_of DX10_served 16 rfl) lk_X10_139 rfl rfl (Nat.le_of_ble_eq_true rfl) (by decide) (by decide) (pc_X10_in) (fun z5 wz5 Mz5 hq => ?_)
      obtain ⟨hq1, hq2, hq3⟩ := hq
      have hq2 := hq2.symm
      have hq3 := hq3.symm
      subst hq1 hq2 hq3
      refine s_ifne C (d_of DX10_served 17 rfl) rfl (fun hc => ?_) (fun hc => ?_)
      · have h := h.1 (b2i_n0 hc)
        refine s_aload_n C (d_of DX10_served 20 rfl) rfl ?_
        refine s_iload_n C (d_of DX10_served 21 rfl) rfl ?_
        obtain ⟨Q6, hKQ6, h⟩ := h
        refine s_callV (ci := 10) (av := [(0, l1)]) (rest := []) (mc := 0) (ms := 0) C (d_of DX10_served 22 rfl) lk_X10_307 (sh_41 hF1) (by decide) rfl rfl rfl (Nat.le_of_ble_eq_true rfl) (by decide) (by decide) hKQ6 (fun z6 w6 M6 hq => ?_)
        have h := h z6 w6 M6 hq
        refine s_aload_n C (d_of DX10_served 23 rfl) rfl ?_
        refine s_iload_n C (d_of DX10_served 24 rfl) rfl ?_
        refine WA.fix (fun hF7 => ?_)
        obtain ⟨Q8, hKQ8, h⟩ := h
        refine s_callV (ci := 10) (av := [(0, l2)]) (rest := []) (mc := 0) (ms := 0) C (d_of DX10_served 25 rfl) lk_X10_315 (sh_41 hF7) (by decide) rfl rfl rfl (Nat.le_of_ble_eq_true rfl) (by decide) (by decide) hKQ8 (fun z8 w8 M8 hq => ?_)
        have h := h z8 w8 M8 hq
        refine s_iconst C (d_of DX10_served 26 rfl) (by decide) ?_
        refine s_istore (ls' := [(2, 41), (0, l1), (0, l2), (0, l3), (0, 0), (3, 0), (3, 0), (3, 0), (3, 0)]) C (d_of DX10_served 27 rfl) (by decide) rfl rfl ?_
        refine s_iconst C (d_of DX10_served 28 rfl) (by decide) ?_
        refine s_istore (ls' := [(2, 41), (0, l1), (0, l2), (0, l3), (0, 0), (0, 1), (3, 0), (3, 0), (3, 0)]) C (d_of DX10_served 29 rfl) (by decide) rfl rfl ?_
        exact WA.wk h ⟨Or.inr rfl, Or.inl rfl, Or.inr rfl, Or.inr rfl, Or.inr rfl, Or.inr rfl, Or.inl rfl, Or.inl rfl, Or.inl rfl, trivial⟩
      · have h := h.2 (b2i_nn hc)
        refine s_bipush C (d_of DX10_served 18 rfl) ⟨rfl, by decide, by decide⟩ ?_
        exact s_ireturn C (d_of DX10_served 19 rfl) h
  · have h := h.2 (b2i_nn hc)
    refine s_iconst C (d_of DX10_served 4 rfl) (by decide) ?_
    exact s_ireturn C (d_of DX10_served 5 rfl) h
set_option maxHeartbeats 4000000 in
set_option maxRecDepth 100000 in
theorem B_X10_served_51 {G : GP} {X : BX} {P : Int → NS → MM → Prop} {l2 : Int} {l3 : Int} {l4 : Int} {l5 : Int} {w : NS} {M : MM} (C : CX_X10_served G X) (h : ((((zshl 1 (M 41 42)) ≤ l5) → (((l3 ≠ 0) → P l4 w M) ∧ ((¬ (l3 ≠ 0)) → ∃ Q2 : Int → NS → MM → Prop, CT_X10_ones G X.2.1 [(0, l4)] w M Q2 ∧ ∀ (z2 : Int) (w2 : NS) (M2 : MM), Q2 z2 w2 M2 → P z2 w2 M2))) ∧ ((¬ ((zshl 1 (M 41 42)) ≤ l5)) → (inR (512 * (zand l2 1))) ∧ (inR ((512 * (zand l2 1)) + l5)) ∧ (0 ≤ ((512 * (zand l2 1)) + l5)) ∧ (((512 * (zand l2 1)) + l5) < 2560) ∧ ((((M 76 ((512 * (zand l2 1)) + l5)) = 0) → (inR (l5 + 1)) ∧ A_X10_served_51 G X P l2 l3 l4 (l5 + 1) w M) ∧ ((¬ ((M 76 ((512 * (zand l2 1)) + l5)) = 0)) → (inR (-(zxor l5 l4))) ∧ ((((zand (zand l5 (zxor l5 l4)) (-(zxor l5 l4))) = 0) → ∃ Q9 : Int → NS → MM → Prop, CT_X10_ones G X.2.1 [(0, l5)] w M Q9 ∧ ∀ (z9 : Int) (w9 : NS) (M9 : MM), Q9 z9 w9 M9 → ∃ Q10 : Int → NS → MM → Prop, CT_X10_ones G X.2.1 [(0, l4)] w9 M9 Q10 ∧ ∀ (z10 : Int) (w10 : NS) (M10 : MM), Q10 z10 w10 M10 → (((z10 < z9) → (inR (l5 + 1)) ∧ A_X10_served_51 G X P l2 l3 l5 (l5 + 1) w10 M10) ∧ ((¬ (z10 < z9)) → ∃ Q12 : Int → NS → MM → Prop, CT_X10_ones G X.2.1 [(0, l5)] w10 M10 Q12 ∧ ∀ (z12 : Int) (w12 : NS) (M12 : MM), Q12 z12 w12 M12 → ∃ Q13 : Int → NS → MM → Prop, CT_X10_ones G X.2.1 [(0, l4)] w12 M12 Q13 ∧ ∀ (z13 : Int) (w13 : NS) (M13 : MM), Q13 z13 w13 M13 → (((z12 ≠ z13) → (inR (l5 + 1)) ∧ A_X10_served_51 G X P l2 l3 l4 (l5 + 1) w13 M13) ∧ ((¬ (z12 ≠ z13)) → (inR (l5 + 1)) ∧ A_X10_served_51 G X P l2 l3 l4 (l5 + 1) w13 M13))))) ∧ ((¬ ((zand (zand l5 (zxor l5 l4)) (-(zxor l5 l4))) = 0)) → ∃ Q16 : Int → NS → MM → Prop, CT_X10_ones G X.2.1 [(0, l5)] w M Q16 ∧ ∀ (z16 : Int) (w16 : NS) (M16 : MM), Q16 z16 w16 M16 → ∃ Q17 : Int → NS → MM → Prop, CT_X10_ones G X.2.1 [(0, l4)] w16 M16 Q17 ∧ ∀ (z17 : Int) (w17 : NS) (M17 : MM), Q17 z17 w17 M17 → (((z17 < z16) → (inR (l5 + 1)) ∧ A_X10_served_51 G X P l2 l3 l5 (l5 + 1) w17 M17) ∧ ((¬ (z17 < z16)) → ∃ Q19 : Int → NS → MM → Prop, CT_X10_ones G X.2.1 [(0, l5)] w17 M17 Q19 ∧ ∀ (z19 : Int) (w19 : NS) (M19 : MM), Q19 z19 w19 M19 → ∃ Q20 : Int → NS → MM → Prop, CT_X10_ones G X.2.1 [(0, l4)] w19 M19 Q20 ∧ ∀ (z20 : Int) (w20 : NS) (M20 : MM), Q20 z20 w20 M20 → (((z19 ≠ z20) → (inR (l5 + 1)) ∧ A_X10_served_51 G X P l2 l3 l4 (l5 + 1) w20 M20) ∧ ((¬ (z19 ≠ z20)) → (inR (l5 + 1)) ∧ A_X10_served_51 G X P l2 l3 l5 (l5 + 1) w20 M20))))))))))) : A_X10_served_51 G X P l2 l3 l4 l5 w M := by
  unfold A_X10_served_51
  refine s_iload C (d_of DX10_served 30 rfl) rfl ?_
  refine s_iconst C (d_of DX10_served 31 rfl) (by decide) ?_
  refine s_aload_n C (d_of DX10_served 32 rfl) rfl ?_
  refine WA.fix (fun hF1 => ?_)
  refine gf_X10_304 (v0 := (M 41 42)) C (sh_41 hF1) (d_of DX10_served 33 rfl) rfl ?_
  refine s_ishl C (d_of DX10_served 34 rfl) ?_
  refine s_icmpge C (d_of DX10_served 35 rfl) rfl (fun hc => ?_) (fun hc => ?_)
  · have h := h.1 hc
    refine s_iload_n C (d_of DX10_served 86 rfl) rfl ?_
    refine s_ifne C (d_of DX10_served 87 rfl) rfl (fun hc => ?_) (fun hc => ?_)
    · have h := h.1 hc
      refine s_iload C (d_of DX10_served 91 rfl) rfl ?_
      exact s_ireturn C (d_of DX10_served 92 rfl) h
    · have h := h.2 hc
      refine s_iload C (d_of DX10_served 88 rfl) rfl ?_
      obtain ⟨Q2, hKQ2, h⟩ := h
      refine s_callS (av := [(0, l4)]) (rest := []) (mc := 0) (ms := 0) C (d_of DX10_served 89 rfl) lk_X10_318 rfl rfl (Nat.le_of_ble_eq_true rfl) (by decide) (by decide) hKQ2 (fun z2 w2 M2 hq => ?_)
      have h := h z2 w2 M2 hq
      refine s_goto C (d_of DX10_served 90 rfl) rfl ?_
      exact s_ireturn C (d_of DX10_served 92 rfl) h
  · have h := h.2 hc
    refine s_aload_n C (d_of DX10_served 36 rfl) rfl ?_
    refine gf_X10_113 C (sh_41 hF1) (d_of DX10_served 37 rfl) (fx_41_43 hF1) ?_
    refine s_sipush C (d_of DX10_served 38 rfl) ⟨rfl, by decide, by decide⟩ ?_
    refine s_iload_n C (d_of DX10_served 39 rfl) rfl ?_
    refine s_iconst C (d_of DX10_served 40 rfl) (by decide) ?_
    refine s_iand C (d_of DX10_served 41 rfl) ?_
    obtain ⟨o3, h⟩ := h
    refine s_imul C (d_of DX10_served 42 rfl) o3 ?_
    refine s_iload C (d_of DX10_served 43 rfl) rfl ?_
    obtain ⟨o4, h⟩ := h
    refine s_iadd C (d_of DX10_served 44 rfl) o4 ?_
    obtain ⟨o5, h⟩ := h
    obtain ⟨o6, h⟩ := h
    refine s_zald (v0 := (M 76 ((512 * (zand l2 1)) + l5))) C (sh_76 hF1) o5 o6 (d_of DX10_served 45 rfl) rfl ?_
    refine s_ifeq C (d_of DX10_served 46 rfl) rfl (fun hc => ?_) (fun hc => ?_)
    · have h := h.1 hc
      obtain ⟨o7, h⟩ := h
      refine s_iinc (ls' := [(2, 41), (3, 0), (0, l2), (0, l3), (0, l4), (0, (l5 + 1)), (3, 0), (3, 0), (3, 0)]) C (d_of DX10_served 84 rfl) (by decide) rfl o7 rfl rfl ?_
      refine s_goto C (d_of DX10_served 85 rfl) rfl ?_
      exact h
    · have h := h.2 hc
      refine s_iload C (d_of DX10_served 47 rfl) rfl ?_
      refine s_iload C (d_of DX10_served 48 rfl) rfl ?_
      refine s_ixor C (d_of DX10_served 49 rfl) ?_
      refine s_istore (ls' := [(2, 41), (3, 0), (0, l2), (0, l3), (0, l4), (0, l5), (0, (zxor l5 l4)), (3, 0), (3, 0)]) C (d_of DX10_served 50 rfl) (by decide) rfl rfl ?_
      refine s_iload C (d_of DX10_served 51 rfl) rfl ?_
      refine s_iload C (d_of DX10_served 52 rfl) rfl ?_
      refine s_iand C (d_of DX10_served 53 rfl) ?_
      refine s_iload C (d_of DX10_served 54 rfl) rfl ?_
      obtain ⟨o8, h⟩ := h
      refine s_ineg C (d_of DX10_served 55 rfl) o8 ?_
      refine s_iand C (d_of DX10_served 56 rfl) ?_
      refine s_ifeq C (d_of DX10_served 57 rfl) rfl (fun hc => ?_) (fun hc => ?_)
      · have h := h.1 hc
        refine s_iconst C (d_of DX10_served 60 rfl) (by decide) ?_
        refine s_istore (ls' := [(2, 41), (3, 0), (0, l2), (0, l3), (0, l4), (0, l5), (0, (zxor l5 l4)), (0, 0), (3, 0)]) C (d_of DX10_served 61 rfl) (by decide) rfl rfl ?_
        refine s_iload C (d_of DX10_served 62 rfl) rfl ?_
        obtain ⟨Q9, hKQ9, h⟩ := h
        refine s_callS (av := [(0, l5)]) (rest := []) (mc := 0) (ms := 0) C (d_of DX10_served 63 rfl) lk_X10_318 rfl rfl (Nat.le_of_ble_eq_true rfl) (by decide) (by decide) hKQ9 (fun z9 w9 M9 hq => ?_)
        have h := h z9 w9 M9 hq
        refine s_iload C (d_of DX10_served 64 rfl) rfl ?_
        obtain ⟨Q10, hKQ10, h⟩ := h
        refine s_callS (av := [(0, l4)]) (rest := [(0, z9)]) (mc := 0) (ms := 0) C (d_of DX10_served 65 rfl) lk_X10_318 rfl rfl (Nat.le_of_ble_eq_true rfl) (by decide) (by decide) hKQ10 (fun z10 w10 M10 hq => ?_)
        have h := h z10 w10 M10 hq
        refine s_icmpgt C (d_of DX10_served 66 rfl) rfl (fun hc => ?_) (fun hc => ?_)
        · have h := h.1 hc
          refine s_iconst C (d_of DX10_served 74 rfl) (by decide) ?_
          refine s_goto C (d_of DX10_served 75 rfl) rfl ?_
          refine s_istore (ls' := [(2, 41), (3, 0), (0, l2), (0, l3), (0, l4), (0, l5), (0, (zxor l5 l4)), (0, 0), (0, 1)]) C (d_of DX10_served 77 rfl) (by decide) rfl rfl ?_
          refine s_iload C (d_of DX10_served 78 rfl) rfl ?_
          refine s_ifeq C (d_of DX10_served 79 rfl) rfl (fun hc => absurd hc (by decide)) (fun hc => ?_)
          refine s_iload C (d_of DX10_served 80 rfl) rfl ?_
          refine s_goto C (d_of DX10_served 81 rfl) rfl ?_
          refine s_istore (ls' := [(2, 41), (3, 0), (0, l2), (0, l3), (0, l5), (0, l5), (0, (zxor l5 l4)), (0, 0), (0, 1)]) C (d_of DX10_served 83 rfl) (by decide) rfl rfl ?_
          obtain ⟨o11, h⟩ := h
          refine s_iinc (ls' := [(2, 41), (3, 0), (0, l2), (0, l3), (0, l5), (0, (l5 + 1)), (0, (zxor l5 l4)), (0, 0), (0, 1)]) C (d_of DX10_served 84 rfl) (by decide) rfl o11 rfl rfl ?_
          refine s_goto C (d_of DX10_served 85 rfl) rfl ?_
          exact WA.wk h ⟨Or.inr rfl, Or.inl rfl, Or.inr rfl, Or.inr rfl, Or.inr rfl, Or.inr rfl, Or.inl rfl, Or.inl rfl, Or.inl rfl, trivial⟩
        · have h := h.2 hc
          refine s_iload C (d_of DX10_served 67 rfl) rfl ?_
          obtain ⟨Q12, hKQ12, h⟩ := h
          refine s_callS (av := [(0, l5)]) (rest := []) (mc := 0) (ms := 0) C (d_of DX10_served 68 rfl) lk_X10_318 rfl rfl (Nat.le_of_ble_eq_true rfl) (by decide) (by decide) hKQ12 (fun z12 w12 M12 hq => ?_)
          have h := h z12 w12 M12 hq
          refine s_iload C (d_of DX10_served 69 rfl) rfl ?_
          obtain ⟨Q13, hKQ13, h⟩ := h
          refine s_callS (av := [(0, l4)]) (rest := [(0, z12)]) (mc := 0) (ms := 0) C (d_of DX10_served 70 rfl) lk_X10_318 rfl rfl (Nat.le_of_ble_eq_true rfl) (by decide) (by decide) hKQ13 (fun z13 w13 M13 hq => ?_)
          have h := h z13 w13 M13 hq
          refine s_icmpne C (d_of DX10_served 71 rfl) rfl (fun hc => ?_) (fun hc => ?_)
          · have h := h.1 hc
            refine s_iconst C (d_of DX10_served 76 rfl) (by decide) ?_
            refine s_istore (ls' := [(2, 41), (3, 0), (0, l2), (0, l3), (0, l4), (0, l5), (0, (zxor l5 l4)), (0, 0), (0, 0)]) C (d_of DX10_served 77 rfl) (by decide) rfl rfl ?_
            refine s_iload C (d_of DX10_served 78 rfl) rfl ?_
            refine s_ifeq C (d_of DX10_served 79 rfl) rfl (fun hc => ?_) (fun hc => absurd (by decide) hc)
            refine s_iload C (d_of DX10_served 82 rfl) rfl ?_
            refine s_istore (ls' := [(2, 41), (3, 0), (0, l2), (0, l3), (0, l4), (0, l5), (0, (zxor l5 l4)), (0, 0), (0, 0)]) C (d_of DX10_served 83 rfl) (by decide) rfl rfl ?_
            obtain ⟨o14, h⟩ := h
            refine s_iinc (ls' := [(2, 41), (3, 0), (0, l2), (0, l3), (0, l4), (0, (l5 + 1)), (0, (zxor l5 l4)), (0, 0), (0, 0)]) C (d_of DX10_served 84 rfl) (by decide) rfl o14 rfl rfl ?_
            refine s_goto C (d_of DX10_served 85 rfl) rfl ?_
            exact WA.wk h ⟨Or.inr rfl, Or.inl rfl, Or.inr rfl, Or.inr rfl, Or.inr rfl, Or.inr rfl, Or.inl rfl, Or.inl rfl, Or.inl rfl, trivial⟩
          · have h := h.2 hc
            refine s_iload C (d_of DX10_served 72 rfl) rfl ?_
            refine s_ifeq C (d_of DX10_served 73 rfl) rfl (fun hc => ?_) (fun hc => absurd (by decide) hc)
            refine s_iconst C (d_of DX10_served 76 rfl) (by decide) ?_
            refine s_istore (ls' := [(2, 41), (3, 0), (0, l2), (0, l3), (0, l4), (0, l5), (0, (zxor l5 l4)), (0, 0), (0, 0)]) C (d_of DX10_served 77 rfl) (by decide) rfl rfl ?_
            refine s_iload C (d_of DX10_served 78 rfl) rfl ?_
            refine s_ifeq C (d_of DX10_served 79 rfl) rfl (fun hc => ?_) (fun hc => absurd (by decide) hc)
            refine s_iload C (d_of DX10_served 82 rfl) rfl ?_
            refine s_istore (ls' := [(2, 41), (3, 0), (0, l2), (0, l3), (0, l4), (0, l5), (0, (zxor l5 l4)), (0, 0), (0, 0)]) C (d_of DX10_served 83 rfl) (by decide) rfl rfl ?_
            obtain ⟨o15, h⟩ := h
            refine s_iinc (ls' := [(2, 41), (3, 0), (0, l2), (0, l3), (0, l4), (0, (l5 + 1)), (0, (zxor l5 l4)), (0, 0), (0, 0)]) C (d_of DX10_served 84 rfl) (by decide) rfl o15 rfl rfl ?_
            refine s_goto C (d_of DX10_served 85 rfl) rfl ?_
            exact WA.wk h ⟨Or.inr rfl, Or.inl rfl, Or.inr rfl, Or.inr rfl, Or.inr rfl, Or.inr rfl, Or.inl rfl, Or.inl rfl, Or.inl rfl, trivial⟩
      · have h := h.2 hc
        refine s_iconst C (d_of DX10_served 58 rfl) (by decide) ?_
        refine s_goto C (d_of DX10_served 59 rfl) rfl ?_
        refine s_istore (ls' := [(2, 41), (3, 0), (0, l2), (0, l3), (0, l4), (0, l5), (0, (zxor l5 l4)), (0, 1), (3, 0)]) C (d_of DX10_served 61 rfl) (by decide) rfl rfl ?_
        refine s_iload C (d_of DX10_served 62 rfl) rfl ?_
        obtain ⟨Q16, hKQ16, h⟩ := h
        refine s_callS (av := [(0, l5)]) (rest := []) (mc := 0) (ms := 0) C (d_of DX10_served 63 rfl) lk_X10_318 rfl rfl (Nat.le_of_ble_eq_true rfl) (by decide) (by decide) hKQ16 (fun z16 w16 M16 hq => ?_)
        have h := h z16 w16 M16 hq
        refine s_iload C (d_of DX10_served 64 rfl) rfl ?_
        obtain ⟨Q17, hKQ17, h⟩ := h
        refine s_callS (av := [(0, l4)]) (rest := [(0, z16)]) (mc := 0) (ms := 0) C (d_of DX10_served 65 rfl) lk_X10_318 rfl rfl (Nat.le_of_ble_eq_true rfl) (by decide) (by decide) hKQ17 (fun z17 w17 M17 hq => ?_)
        have h := h z17 w17 M17 hq
        refine s_icmpgt C (d_of DX10_served 66 rfl) rfl (fun hc => ?_) (fun hc => ?_)
        · have h := h.1 hc
          refine s_iconst C (d_of DX10_served 74 rfl) (by decide) ?_
          refine s_goto C (d_of DX10_served 75 rfl) rfl ?_
          refine s_istore (ls' := [(2, 41), (3, 0), (0, l2), (0, l3), (0, l4), (0, l5), (0, (zxor l5 l4)), (0, 1), (0, 1)]) C (d_of DX10_served 77 rfl) (by decide) rfl rfl ?_
          refine s_iload C (d_of DX10_served 78 rfl) rfl ?_
          refine s_ifeq C (d_of DX10_served 79 rfl) rfl (fun hc => absurd hc (by decide)) (fun hc => ?_)
          refine s_iload C (d_of DX10_served 80 rfl) rfl ?_
          refine s_goto C (d_of DX10_served 81 rfl) rfl ?_
          refine s_istore (ls' := [(2, 41), (3, 0), (0, l2), (0, l3), (0, l5), (0, l5), (0, (zxor l5 l4)), (0, 1), (0, 1)]) C (d_of DX10_served 83 rfl) (by decide) rfl rfl ?_
          obtain ⟨o18, h⟩ := h
          refine s_iinc (ls' := [(2, 41), (3, 0), (0, l2), (0, l3), (0, l5), (0, (l5 + 1)), (0, (zxor l5 l4)), (0, 1), (0, 1)]) C (d_of DX10_served 84 rfl) (by decide) rfl o18 rfl rfl ?_
          refine s_goto C (d_of DX10_served 85 rfl) rfl ?_
          exact WA.wk h ⟨Or.inr rfl, Or.inl rfl, Or.inr rfl, Or.inr rfl, Or.inr rfl, Or.inr rfl, Or.inl rfl, Or.inl rfl, Or.inl rfl, trivial⟩
        · have h := h.2 hc
          refine s_iload C (d_of DX10_served 67 rfl) rfl ?_
          obtain ⟨Q19, hKQ19, h⟩ := h
          refine s_callS (av := [(0, l5)]) (rest := []) (mc := 0) (ms := 0) C (d_of DX10_served 68 rfl) lk_X10_318 rfl rfl (Nat.le_of_ble_eq_true rfl) (by decide) (by decide) hKQ19 (fun z19 w19 M19 hq => ?_)
          have h := h z19 w19 M19 hq
          refine s_iload C (d_of DX10_served 69 rfl) rfl ?_
          obtain ⟨Q20, hKQ20, h⟩ := h
          refine s_callS (av := [(0, l4)]) (rest := [(0, z19)]) (mc := 0) (ms := 0) C (d_of DX10_served 70 rfl) lk_X10_318 rfl rfl (Nat.le_of_ble_eq_true rfl) (by decide) (by decide) hKQ20 (fun z20 w20 M20 hq => ?_)
          have h := h z20 w20 M20 hq
          refine s_icmpne C (d_of DX10_served 71 rfl) rfl (fun hc => ?_) (fun hc => ?_)
          · have h := h.1 hc
            refine s_iconst C (d_of DX10_served 76 rfl) (by decide) ?_
            refine s_istore (ls' := [(2, 41), (3, 0), (0, l2), (0, l3), (0, l4), (0, l5), (0, (zxor l5 l4)), (0, 1), (0, 0)]) C (d_of DX10_served 77 rfl) (by decide) rfl rfl ?_
            refine s_iload C (d_of DX10_served 78 rfl) rfl ?_
            refine s_ifeq C (d_of DX10_served 79 rfl) rfl (fun hc => ?_) (fun hc => absurd (by decide) hc)
            refine s_iload C (d_of DX10_served 82 rfl) rfl ?_
            refine s_istore (ls' := [(2, 41), (3, 0), (0, l2), (0, l3), (0, l4), (0, l5), (0, (zxor l5 l4)), (0, 1), (0, 0)]) C (d_of DX10_served 83 rfl) (by decide) rfl rfl ?_
            obtain ⟨o21, h⟩ := h
            refine s_iinc (ls' := [(2, 41), (3, 0), (0, l2), (0, l3), (0, l4), (0, (l5 + 1)), (0, (zxor l5 l4)), (0, 1), (0, 0)]) C (d_of DX10_served 84 rfl) (by decide) rfl o21 rfl rfl ?_
            refine s_goto C (d_of DX10_served 85 rfl) rfl ?_
            exact WA.wk h ⟨Or.inr rfl, Or.inl rfl, Or.inr rfl, Or.inr rfl, Or.inr rfl, Or.inr rfl, Or.inl rfl, Or.inl rfl, Or.inl rfl, trivial⟩
          · have h := h.2 hc
            refine s_iload C (d_of DX10_served 72 rfl) rfl ?_
            refine s_ifeq C (d_of DX10_served 73 rfl) rfl (fun hc => absurd hc (by decide)) (fun hc => ?_)
            refine s_iconst C (d_of DX10_served 74 rfl) (by decide) ?_
            refine s_goto C (d_of DX10_served 75 rfl) rfl ?_
            refine s_istore (ls' := [(2, 41), (3, 0), (0, l2), (0, l3), (0, l4), (0, l5), (0, (zxor l5 l4)), (0, 1), (0, 1)]) C (d_of DX10_served 77 rfl) (by decide) rfl rfl ?_
            refine s_iload C (d_of DX10_served 78 rfl) rfl ?_
            refine s_ifeq C (d_of DX10_served 79 rfl) rfl (fun hc => absurd hc (by decide)) (fun hc => ?_)
            refine s_iload C (d_of DX10_served 80 rfl) rfl ?_
            refine s_goto C (d_of DX10_served 81 rfl) rfl ?_
            refine s_istore (ls' := [(2, 41), (3, 0), (0, l2), (0, l3), (0, l5), (0, l5), (0, (zxor l5 l4)), (0, 1), (0, 1)]) C (d_of DX10_served 83 rfl) (by decide) rfl rfl ?_
            obtain ⟨o22, h⟩ := h
            refine s_iinc (ls' := [(2, 41), (3, 0), (0, l2), (0, l3), (0, l5), (0, (l5 + 1)), (0, (zxor l5 l4)), (0, 1), (0, 1)]) C (d_of DX10_served 84 rfl) (by decide) rfl o22 rfl rfl ?_
            refine s_goto C (d_of DX10_served 85 rfl) rfl ?_
            exact WA.wk h ⟨Or.inr rfl, Or.inl rfl, Or.inr rfl, Or.inr rfl, Or.inr rfl, Or.inr rfl, Or.inl rfl, Or.inl rfl, Or.inl rfl, trivial⟩
theorem E_X10_served {G : GP} {l : Launch} {P : Int → NS → MM → Prop} {l1 : Int} {l2 : Int} {l3 : Int} {w : NS} {M : MM} (h : inR l1 → inR l2 → inR l3 → ∀ X : BX, X.2.1 = l → CX_X10_served G X → A_X10_served_0 G X P l1 l2 l3 w M) : CT_X10_served G l [(2, 41), (0, l1), (0, l2), (0, l3)] w M P :=
  CT.of RX10 "served" (by decide +kernel) rfl rfl rfl (Nat.le_of_ble_eq_true rfl) (fun hr X hX C => h (hr (0, l1) (by simp)) (hr (0, l2) (by simp)) (hr (0, l3) (by simp)) X hX C)
def A_X10_find_0 (G : GP) (X : BX) (P : Int → NS → MM → Prop) (l1 : Int) (l2 : Int) (l3 : Int) (w : NS) (M : MM) : Prop := WA true G X (QM G X true 0 P) 5 0 [(2, 41), (0, l1), (0, l2), (0, l3), (3, 0)] [] 0 0 w M
set_option maxHeartbeats 4000000 in
set_option maxRecDepth 100000 in
theorem B_X10_find_0 {G : GP} {X : BX} {P : Int → NS → MM → Prop} {l1 : Int} {l2 : Int} {l3 : Int} {w : NS} {M : MM} (C : CX_X10_find G X) (h : (((¬ (0 ≤ l1 ∧ l1 ≤ 3)) → P (-1) w M) ∧ (((0 ≤ l1 ∧ l1 ≤ 3)) → (0 ≤ M 41 12) ∧ ((((0 ≤ l2 ∧ l2 < M 41 12)) → (0 ≤ l1) ∧ (l1 < 4) ∧ (((l3 = 0) → P (zand (zshr (M 77 l1) l2) 1) w (up M 77 l1 (zand (M 77 l1) (zxor (zshl 1 l2) (-1))))) ∧ ((¬ (l3 = 0)) → P (zand (zshr (M 77 l1) l2) 1) w (up M 77 l1 (zor (M 77 l1) (zshl 1 l2)))))) ∧ ((¬ (0 ≤ l2 ∧ l2 < M 41 12)) → P (-1) w M))))) : A_X10_find_0 G X P l1 l2 l3 w M := by
  unfold A_X10_find_0
  refine s_iload_n C (d_of DX10_find 0 rfl) rfl ?_
  refine s_callS (av := [(0, l1)]) (rest := []) (mc := 0) (ms := 0) C (d_of DX10_find 1 rfl) lk_X10_321 rfl rfl (Nat.le_of_ble_eq_true rfl) (by decide) (by decide) (pc_X10_isReader) (fun z1 wz1 Mz1 hq => ?_)
  obtain ⟨hq1, hq2, hq3⟩ := hq
  have hq2 := hq2.symm
  have hq3 := hq3.symm
  subst hq1 hq2 hq3
  refine s_ifeq C (d_of DX10_find 2 rfl) rfl (fun hc => ?_) (fun hc => ?_)
  · have h := h.1 (b2i_0.mp hc)
    refine s_iconst C (d_of DX10_find 7 rfl) (by decide) ?_
    exact s_ireturn C (d_of DX10_find 8 rfl) h
  · have h := h.2 (b2i_n0 hc)
    refine s_aload_n C (d_of DX10_find 3 rfl) rfl ?_
    refine s_iload_n C (d_of DX10_find 4 rfl) rfl ?_
    refine WA.fix (fun hF2 => ?_)
    obtain ⟨o3, h⟩ := h
    refine s_callV (ci := 10) (av := [(0, l2)]) (rest := []) (mc := 0) (ms := 0) C (d_of DX10_find 5 rfl) lk_X10_186 (sh_41 hF2) (by decide) rfl rfl rfl (Nat.le_of_ble_eq_true rfl) (by decide) (by decide) (pc_X10_isPiece o3) (fun z4 wz4 Mz4 hq => ?_)
    obtain ⟨hq1, hq2, hq3⟩ := hq
    have hq2 := hq2.symm
    have hq3 := hq3.symm
    subst hq1 hq2 hq3
    refine s_ifne C (d_of DX10_find 6 rfl) rfl (fun hc => ?_) (fun hc => ?_)
    · have h := h.1 (b2i_n0 hc)
      refine s_aload_n C (d_of DX10_find 9 rfl) rfl ?_
      refine gf_X10_116 C (sh_41 hF2) (d_of DX10_find 10 rfl) (fx_41_44 hF2) ?_
      refine s_iload_n C (d_of DX10_find 11 rfl) rfl ?_
      obtain ⟨o5, h⟩ := h
      obtain ⟨o6, h⟩ := h
      refine s_iald (v0 := (M 77 l1)) C (sh_77 hF2) o5 o6 (d_of DX10_find 12 rfl) rfl ?_
      refine s_iload_n C (d_of DX10_find 13 rfl) rfl ?_
      refine s_ishr C (d_of DX10_find 14 rfl) ?_
      refine s_iconst C (d_of DX10_find 15 rfl) (by decide) ?_
      refine s_iand C (d_of DX10_find 16 rfl) ?_
      refine s_istore (ls' := [(2, 41), (0, l1), (0, l2), (0, l3), (0, (zand (zshr (M 77 l1) l2) 1))]) C (d_of DX10_find 17 rfl) (by decide) rfl rfl ?_
      refine s_aload_n C (d_of DX10_find 18 rfl) rfl ?_
      refine gf_X10_116 C (sh_41 hF2) (d_of DX10_find 19 rfl) (fx_41_44 hF2) ?_
      refine s_iload_n C (d_of DX10_find 20 rfl) rfl ?_
      refine s_iload_n C (d_of DX10_find 21 rfl) rfl ?_
      refine s_ifeq C (d_of DX10_find 22 rfl) rfl (fun hc => ?_) (fun hc => ?_)
      · have h := h.1 hc
        refine s_aload_n C (d_of DX10_find 32 rfl) rfl ?_
        refine gf_X10_116 C (sh_41 hF2) (d_of DX10_find 33 rfl) (fx_41_44 hF2) ?_
        refine s_iload_n C (d_of DX10_find 34 rfl) rfl ?_
        refine s_iald (v0 := (M 77 l1)) C (sh_77 hF2) o5 o6 (d_of DX10_find 35 rfl) rfl ?_
        refine s_iconst C (d_of DX10_find 36 rfl) (by decide) ?_
        refine s_iload_n C (d_of DX10_find 37 rfl) rfl ?_
        refine s_ishl C (d_of DX10_find 38 rfl) ?_
        refine s_iconst C (d_of DX10_find 39 rfl) (by decide) ?_
        refine s_ixor C (d_of DX10_find 40 rfl) ?_
        refine s_iand C (d_of DX10_find 41 rfl) ?_
        refine s_iast C (sh_77 hF2) o5 o6 (fun _ => by decide) (d_of DX10_find 42 rfl) ?_
        refine s_iload C (d_of DX10_find 43 rfl) rfl ?_
        exact s_ireturn C (d_of DX10_find 44 rfl) h
      · have h := h.2 hc
        refine s_aload_n C (d_of DX10_find 23 rfl) rfl ?_
        refine gf_X10_116 C (sh_41 hF2) (d_of DX10_find 24 rfl) (fx_41_44 hF2) ?_
        refine s_iload_n C (d_of DX10_find 25 rfl) rfl ?_
        refine s_iald (v0 := (M 77 l1)) C (sh_77 hF2) o5 o6 (d_of DX10_find 26 rfl) rfl ?_
        refine s_iconst C (d_of DX10_find 27 rfl) (by decide) ?_
        refine s_iload_n C (d_of DX10_find 28 rfl) rfl ?_
        refine s_ishl C (d_of DX10_find 29 rfl) ?_
        refine s_ior C (d_of DX10_find 30 rfl) ?_
        refine s_goto C (d_of DX10_find 31 rfl) rfl ?_
        refine s_iast C (sh_77 hF2) o5 o6 (fun _ => by decide) (d_of DX10_find 42 rfl) ?_
        refine s_iload C (d_of DX10_find 43 rfl) rfl ?_
        exact s_ireturn C (d_of DX10_find 44 rfl) h
    · have h := h.2 (b2i_nn hc)
      refine s_iconst C (d_of DX10_find 7 rfl) (by decide) ?_
      exact s_ireturn C (d_of DX10_find 8 rfl) h
theorem E_X10_find {G : GP} {l : Launch} {P : Int → NS → MM → Prop} {l1 : Int} {l2 : Int} {l3 : Int} {w : NS} {M : MM} (h : inR l1 → inR l2 → inR l3 → ∀ X : BX, X.2.1 = l → CX_X10_find G X → A_X10_find_0 G X P l1 l2 l3 w M) : CT_X10_find G l [(2, 41), (0, l1), (0, l2), (0, l3)] w M P :=
  CT.of RX10 "find" (by decide +kernel) rfl rfl rfl (Nat.le_of_ble_eq_true rfl) (fun hr X hX C => h (hr (0, l1) (by simp)) (hr (0, l2) (by simp)) (hr (0, l3) (by simp)) X hX C)
def A_X10_foundBy_0 (G : GP) (X : BX) (P : Int → NS → MM → Prop) (l1 : Int) (w : NS) (M : MM) : Prop := WA true G X (QM G X true 0 P) 4 0 [(2, 41), (0, l1), (3, 0), (3, 0)] [] 0 0 w M
def A_X10_foundBy_4 (G : GP) (X : BX) (P : Int → NS → MM → Prop) (l1 : Int) (l2 : Int) (l3 : Int) (w : NS) (M : MM) : Prop := WA true G X (QM G X true 0 P) 4 4 [(2, 41), (0, l1), (0, l2), (0, l3)] [] 0 0 w M
set_option maxHeartbeats 4000000 in
set_option maxRecDepth 100000 in
theorem B_X10_foundBy_0 {G : GP} {X : BX} {P : Int → NS → MM → Prop} {l1 : Int} {w : NS} {M : MM} (C : CX_X10_foundBy G X) (h : A_X10_foundBy_4 G X P l1 0 0 w M) : A_X10_foundBy_0 G X P l1 w M := by
  unfold A_X10_foundBy_0
  refine s_iconst C (d_of DX10_foundBy 0 rfl) (by decide) ?_
  refine s_istore_n (ls' := [(2, 41), (0, l1), (0, 0), (3, 0)]) C (d_of DX10_foundBy 1 rfl) (by decide) rfl rfl ?_
  refine s_iconst C (d_of DX10_foundBy 2 rfl) (by decide) ?_
  refine s_istore_n (ls' := [(2, 41), (0, l1), (0, 0), (0, 0)]) C (d_of DX10_foundBy 3 rfl) (by decide) rfl rfl ?_
  exact h
set_option maxHeartbeats 4000000 in
set_option maxRecDepth 100000 in
theorem B_X10_foundBy_4 {G : GP} {X : BX} {P : Int → NS → MM → Prop} {l1 : Int} {l2 : Int} {l3 : Int} {w : NS} {M : MM} (C : CX_X10_foundBy G X) (h : ((((M 41 12) ≤ l3) → P l2 w M) ∧ ((¬ ((M 41 12) ≤ l3)) → (inR (l2 + (zand (zshr l1 l3) 1))) ∧ (inR (l3 + 1)) ∧ A_X10_foundBy_4 G X P l1 (l2 + (zand (zshr l1 l3) 1)) (l3 + 1) w M))) : A_X10_foundBy_4 G X P l1 l2 l3 w M := by
  unfold A_X10_foundBy_4
  refine s_iload_n C (d_of DX10_foundBy 4 rfl) rfl ?_
  refine s_aload_n C (d_of DX10_foundBy 5 rfl) rfl ?_
  refine WA.fix (fun hF1 => ?_)
  refine gf_X10_147 (v0 := (M 41 12)) C (sh_41 hF1) (d_of DX10_foundBy 6 rfl) rfl ?_
  refine s_icmpge C (d_of DX10_foundBy 7 rfl) rfl (fun hc => ?_) (fun hc => ?_)
  · have h := h.1 hc
    refine s_iload_n C (d_of DX10_foundBy 18 rfl) rfl ?_
    exact s_ireturn C (d_of DX10_foundBy 19 rfl) h
  · have h := h.2 hc
    refine s_iload_n C (d_of DX10_foundBy 8 rfl) rfl ?_
    refine s_iload_n C (d_of DX10_foundBy 9 rfl) rfl ?_
    refine s_iload_n C (d_of DX10_foundBy 10 rfl) rfl ?_
    refine s_ishr C (d_of DX10_foundBy 11 rfl) ?_
    refine s_iconst C (d_of DX10_foundBy 12 rfl) (by decide) ?_
    refine s_iand C (d_of DX10_foundBy 13 rfl) ?_
    obtain ⟨o2, h⟩ := h
    refine s_iadd C (d_of DX10_foundBy 14 rfl) o2 ?_
    refine s_istore_n (ls' := [(2, 41), (0, l1), (0, (l2 + (zand (zshr l1 l3) 1))), (0, l3)]) C (d_of DX10_foundBy 15 rfl) (by decide) rfl rfl ?_
    obtain ⟨o3, h⟩ := h
    refine s_iinc (ls' := [(2, 41), (0, l1), (0, (l2 + (zand (zshr l1 l3) 1))), (0, (l3 + 1))]) C (d_of DX10_foundBy 16 rfl) (by decide) rfl o3 rfl rfl ?_
    refine s_goto C (d_of DX10_foundBy 17 rfl) rfl ?_
    exact h
theorem E_X10_foundBy {G : GP} {l : Launch} {P : Int → NS → MM → Prop} {l1 : Int} {w : NS} {M : MM} (h : inR l1 → ∀ X : BX, X.2.1 = l → CX_X10_foundBy G X → A_X10_foundBy_0 G X P l1 w M) : CT_X10_foundBy G l [(2, 41), (0, l1)] w M P :=
  CT.of RX10 "foundBy" (by decide +kernel) rfl rfl rfl (Nat.le_of_ble_eq_true rfl) (fun hr X hX C => h (hr (0, l1) (by simp)) X hX C)
def A_X10_lowest_0 (G : GP) (X : BX) (P : Int → NS → MM → Prop) (l0 : Int) (l1 : Int) (l2 : Int) (w : NS) (M : MM) : Prop := WA true G X (QM G X true 0 P) 6 0 [(0, l0), (0, l1), (0, l2), (3, 0), (3, 0), (3, 0)] [] 0 0 w M
def A_X10_lowest_5 (G : GP) (X : BX) (P : Int → NS → MM → Prop) (l0 : Int) (l1 : Int) (l2 : Int) (l3 : Int) (l4 : Int) (w : NS) (M : MM) : Prop := WA true G X (QM G X true 0 P) 6 5 [(0, l0), (0, l1), (0, l2), (0, l3), (0, l4), (3, 0)] [] 0 0 w M
set_option maxHeartbeats 4000000 in
set_option maxRecDepth 100000 in
theorem B_X10_lowest_0 {G : GP} {X : BX} {P : Int → NS → MM → Prop} {l0 : Int} {l1 : Int} {l2 : Int} {w : NS} {M : MM} (C : CX_X10_lowest G X) (h : A_X10_lowest_5 G X P l0 l1 l2 l0 l1 w M) : A_X10_lowest_0 G X P l0 l1 l2 w M := by
  unfold A_X10_lowest_0
  refine s_iload_n C (d_of DX10_lowest 0 rfl) rfl ?_
  refine s_istore_n (ls' := [(0, l0), (0, l1), (0, l2), (0, l0), (3, 0), (3, 0)]) C (d_of DX10_lowest 1 rfl) (by decide) rfl rfl ?_
  refine s_iload_n C (d_of DX10_lowest 2 rfl) rfl ?_
  refine s_istore (ls' := [(0, l0), (0, l1), (0, l2), (0, l0), (0, l1), (3, 0)]) C (d_of DX10_lowest 3 rfl) (by decide) rfl rfl ?_
  exact h
set_option maxHeartbeats 4000000 in
set_option maxRecDepth 100000 in
theorem B_X10_lowest_5 {G : GP} {X : BX} {P : Int → NS → MM → Prop} {l0 : Int} {l1 : Int} {l2 : Int} {l3 : Int} {l4 : Int} {w : NS} {M : MM} (C : CX_X10_lowest G X) (h : (((l4 = 0) → (((l2 ≠ 0) → (0 ≤ l1) ∧ (0 < l3) ∧ P (l1 / l3) w M) ∧ ((¬ (l2 ≠ 0)) → (0 ≤ l0) ∧ (0 < l3) ∧ P (l0 / l3) w M))) ∧ ((¬ (l4 = 0)) → (0 ≤ l3) ∧ (0 < l4) ∧ A_X10_lowest_5 G X P l0 l1 l2 l4 (l3 % l4) w M))) : A_X10_lowest_5 G X P l0 l1 l2 l3 l4 w M := by
  unfold A_X10_lowest_5
  refine s_iload C (d_of DX10_lowest 4 rfl) rfl ?_
  refine s_ifeq C (d_of DX10_lowest 5 rfl) rfl (fun hc => ?_) (fun hc => ?_)
  · have h := h.1 hc
    refine s_iload_n C (d_of DX10_lowest 15 rfl) rfl ?_
    refine s_ifne C (d_of DX10_lowest 16 rfl) rfl (fun hc => ?_) (fun hc => ?_)
    · have h := h.1 hc
      refine s_iload_n C (d_of DX10_lowest 21 rfl) rfl ?_
      refine s_iload_n C (d_of DX10_lowest 22 rfl) rfl ?_
      obtain ⟨o1, h⟩ := h
      obtain ⟨o2, h⟩ := h
      refine s_idiv C (d_of DX10_lowest 23 rfl) o1 o2 ?_
      exact s_ireturn C (d_of DX10_lowest 24 rfl) h
    · have h := h.2 hc
      refine s_iload_n C (d_of DX10_lowest 17 rfl) rfl ?_
      refine s_iload_n C (d_of DX10_lowest 18 rfl) rfl ?_
      obtain ⟨o3, h⟩ := h
      obtain ⟨o4, h⟩ := h
      refine s_idiv C (d_of DX10_lowest 19 rfl) o3 o4 ?_
      refine s_goto C (d_of DX10_lowest 20 rfl) rfl ?_
      exact s_ireturn C (d_of DX10_lowest 24 rfl) h
  · have h := h.2 hc
    refine s_iload_n C (d_of DX10_lowest 6 rfl) rfl ?_
    refine s_iload C (d_of DX10_lowest 7 rfl) rfl ?_
    obtain ⟨o5, h⟩ := h
    obtain ⟨o6, h⟩ := h
    refine s_irem C (d_of DX10_lowest 8 rfl) o5 o6 ?_
    refine s_istore (ls' := [(0, l0), (0, l1), (0, l2), (0, l3), (0, l4), (0, (l3 % l4))]) C (d_of DX10_lowest 9 rfl) (by decide) rfl rfl ?_
    refine s_iload C (d_of DX10_lowest 10 rfl) rfl ?_
    refine s_istore_n (ls' := [(0, l0), (0, l1), (0, l2), (0, l4), (0, l4), (0, (l3 % l4))]) C (d_of DX10_lowest 11 rfl) (by decide) rfl rfl ?_
    refine s_iload C (d_of DX10_lowest 12 rfl) rfl ?_
    refine s_istore (ls' := [(0, l0), (0, l1), (0, l2), (0, l4), (0, (l3 % l4)), (0, (l3 % l4))]) C (d_of DX10_lowest 13 rfl) (by decide) rfl rfl ?_
    refine s_goto C (d_of DX10_lowest 14 rfl) rfl ?_
    exact WA.wk h ⟨Or.inr rfl, Or.inr rfl, Or.inr rfl, Or.inr rfl, Or.inr rfl, Or.inl rfl, trivial⟩
theorem E_X10_lowest {G : GP} {l : Launch} {P : Int → NS → MM → Prop} {l0 : Int} {l1 : Int} {l2 : Int} {w : NS} {M : MM} (h : inR l0 → inR l1 → inR l2 → ∀ X : BX, X.2.1 = l → CX_X10_lowest G X → A_X10_lowest_0 G X P l0 l1 l2 w M) : CT_X10_lowest G l [(0, l0), (0, l1), (0, l2)] w M P :=
  CT.of RX10 "lowest" (by decide +kernel) rfl rfl rfl (Nat.le_of_ble_eq_true rfl) (fun hr X hX C => h (hr (0, l0) (by simp)) (hr (0, l1) (by simp)) (hr (0, l2) (by simp)) X hX C)
def A_X10_misses_0 (G : GP) (X : BX) (P : Int → NS → MM → Prop) (l1 : Int) (l2 : Int) (l3 : Int) (l4 : Int) (w : NS) (M : MM) : Prop := WA true G X (QM G X true 0 P) 8 0 [(2, 41), (0, l1), (0, l2), (0, l3), (0, l4), (3, 0), (3, 0), (3, 0)] [] 0 0 w M
set_option maxHeartbeats 4000000 in
set_option maxRecDepth 100000 in
theorem B_X10_misses_0 {G : GP} {X : BX} {P : Int → NS → MM → Prop} {l1 : Int} {l2 : Int} {l3 : Int} {l4 : Int} {w : NS} {M : MM} (C : CX_X10_misses G X) (h : (((¬ (0 ≤ l1 ∧ l1 ≤ 3)) → P (-1) w M) ∧ (((0 ≤ l1 ∧ l1 ≤ 3)) → (((¬ (0 ≤ l2 ∧ l2 ≤ 3)) → P (-1) w M) ∧ (((0 ≤ l2 ∧ l2 ≤ 3)) → (((l1 ≠ l2) → (((¬ (0 ≤ l3 ∧ l3 ≤ 1)) → P (-2) w M) ∧ (((0 ≤ l3 ∧ l3 ≤ 1)) → ((((0 ≤ l4 ∧ l4 ≤ 1)) → (0 ≤ l1) ∧ (l1 < 4) ∧ ∃ Q8 : Int → NS → MM → Prop, CT_X10_foundBy G X.2.1 [(2, 41), (0, (M 77 l1))] w M Q8 ∧ ∀ (z8 : Int) (w8 : NS) (M8 : MM), Q8 z8 w8 M8 → (0 ≤ l2) ∧ (l2 < 4) ∧ ∃ Q12 : Int → NS → MM → Prop, CT_X10_foundBy G X.2.1 [(2, 41), (0, (M8 77 l2))] w8 M8 Q12 ∧ ∀ (z12 : Int) (w12 : NS) (M12 : MM), Q12 z12 w12 M12 → ∃ Q14 : Int → NS → MM → Prop, CT_X10_foundBy G X.2.1 [(2, 41), (0, (zand (M12 77 l1) (M12 77 l2)))] w12 M12 Q14 ∧ ∀ (z14 : Int) (w14 : NS) (M14 : MM), Q14 z14 w14 M14 → (((z14 ≠ 0) → (((l3 ≠ 0) → (inR (z8 - z14)) ∧ (inR (z12 - z14)) ∧ (inR ((z8 - z14) * (z12 - z14))) ∧ ∃ Q18 : Int → NS → MM → Prop, CT_X10_lowest G X.2.1 [(0, ((z8 - z14) * (z12 - z14))), (0, z14), (0, l4)] w14 M14 Q18 ∧ ∀ (z18 : Int) (w18 : NS) (M18 : MM), Q18 z18 w18 M18 → P z18 w18 M18) ∧ ((¬ (l3 ≠ 0)) → (inR (z8 * z12)) ∧ ∃ Q20 : Int → NS → MM → Prop, CT_X10_lowest G X.2.1 [(0, (z8 * z12)), (0, z14), (0, l4)] w14 M14 Q20 ∧ ∀ (z20 : Int) (w20 : NS) (M20 : MM), Q20 z20 w20 M20 → P z20 w20 M20))) ∧ ((¬ (z14 ≠ 0)) → P l4 w14 M14))) ∧ ((¬ (0 ≤ l4 ∧ l4 ≤ 1)) → P (-2) w M))))) ∧ ((¬ (l1 ≠ l2)) → P (-1) w M))))))) : A_X10_misses_0 G X P l1 l2 l3 l4 w M := by
  unfold A_X10_misses_0
  refine s_iload_n C (d_of DX10_misses 0 rfl) rfl ?_
  refine s_callS (av := [(0, l1)]) (rest := []) (mc := 0) (ms := 0) C (d_of DX10_misses 1 rfl) lk_X10_321 rfl rfl (Nat.le_of_ble_eq_true rfl) (by decide) (by decide) (pc_X10_isReader) (fun z1 wz1 Mz1 hq => ?_)
  obtain ⟨hq1, hq2, hq3⟩ := hq
  have hq2 := hq2.symm
  have hq3 := hq3.symm
  subst hq1 hq2 hq3
  refine s_ifeq C (d_of DX10_misses 2 rfl) rfl (fun hc => ?_) (fun hc => ?_)
  · have h := h.1 (b2i_0.mp hc)
    refine s_iconst C (d_of DX10_misses 9 rfl) (by decide) ?_
    exact s_ireturn C (d_of DX10_misses 10 rfl) h
  · have h := h.2 (b2i_n0 hc)
    refine s_iload_n C (d_of DX10_misses 3 rfl) rfl ?_
    refine s_callS (av := [(0, l2)]) (rest := []) (mc := 0) (ms := 0) C (d_of DX10_misses 4 rfl) lk_X10_321 rfl rfl (Nat.le_of_ble_eq_true rfl) (by decide) (by decide) (pc_X10_isReader) (fun z2 wz2 Mz2 hq => ?_)
    obtain ⟨hq1, hq2, hq3⟩ := hq
    have hq2 := hq2.symm
    have hq3 := hq3.symm
    subst hq1 hq2 hq3
    refine s_ifeq C (d_of DX10_misses 5 rfl) rfl (fun hc => ?_) (fun hc => ?_)
    · have h := h.1 (b2i_0.mp hc)
      refine s_iconst C (d_of DX10_misses 9 rfl) (by decide) ?_
      exact s_ireturn C (d_of DX10_misses 10 rfl) h
    · have h := h.2 (b2i_n0 hc)
      refine s_iload_n C (d_of DX10_misses 6 rfl) rfl ?_
      refine s_iload_n C (d_of DX10_misses 7 rfl) rfl ?_
      refine s_icmpne C (d_of DX10_misses 8 rfl) rfl (fun hc => ?_) (fun hc => ?_)
      · have h := h.1 hc
        refine s_iload_n C (d_of DX10_misses 11 rfl) rfl ?_
        refine s_i2l C (d_of DX10_misses 12 rfl) ?_
        refine s_lconst (z := 0) C (d_of DX10_misses 13 rfl) ⟨rfl, by decide⟩ ?_
        refine s_lconst (z := 1) C (d_of DX10_misses 14 rfl) ⟨rfl, by decide⟩ ?_
        refine s_callS (av := [(1, l3), (1, 0), (1, 1)]) (rest := []) (mc := 0) (ms := 0) C (d_of DX10_misses 15 rfl) lk_X10_139 rfl rfl (Nat.le_of_ble_eq_true rfl) (by decide) (by decide) (pc_X10_in) (fun z3 wz3 Mz3 hq => ?_)
        obtain ⟨hq1, hq2, hq3⟩ := hq
        have hq2 := hq2.symm
        have hq3 := hq3.symm
        subst hq1 hq2 hq3
        refine s_ifeq C (d_of DX10_misses 16 rfl) rfl (fun hc => ?_) (fun hc => ?_)
        · have h := h.1 (b2i_0.mp hc)
          refine s_bipush C (d_of DX10_misses 23 rfl) ⟨rfl, by decide, by decide⟩ ?_
          exact s_ireturn C (d_of DX10_misses 24 rfl) h
        · have h := h.2 (b2i_n0 hc)
          refine s_iload C (d_of DX10_misses 17 rfl) rfl ?_
          refine s_i2l C (d_of DX10_misses 18 rfl) ?_
          refine s_lconst (z := 0) C (d_of DX10_misses 19 rfl) ⟨rfl, by decide⟩ ?_
          refine s_lconst (z := 1) C (d_of DX10_misses 20 rfl) ⟨rfl, by decide⟩ ?_
          refine s_callS (av := [(1, l4), (1, 0), (1, 1)]) (rest := []) (mc := 0) (ms := 0) C (d_of DX10_misses 21 rfl) lk_X10_139 rfl rfl (Nat.le_of_ble_eq_true rfl) (by decide) (by decide) (pc_X10_in) (fun z4 wz4 Mz4 hq => ?_)
          obtain ⟨hq1, hq2, hq3⟩ := hq
          have hq2 := hq2.symm
          have hq3 := hq3.symm
          subst hq1 hq2 hq3
          refine s_ifne C (d_of DX10_misses 22 rfl) rfl (fun hc => ?_) (fun hc => ?_)
          · have h := h.1 (b2i_n0 hc)
            refine s_aload_n C (d_of DX10_misses 25 rfl) rfl ?_
            refine s_aload_n C (d_of DX10_misses 26 rfl) rfl ?_
            refine WA.fix (fun hF5 => ?_)
            refine gf_X10_116 C (sh_41 hF5) (d_of DX10_misses 27 rfl) (fx_41_44 hF5) ?_
            refine s_iload_n C (d_of DX10_misses 28 rfl) rfl ?_
            obtain ⟨o6, h⟩ := h
            obtain ⟨o7, h⟩ := h
            refine s_iald (v0 := (M 77 l1)) C (sh_77 hF5) o6 o7 (d_of DX10_misses 29 rfl) rfl ?_
            obtain ⟨Q8, hKQ8, h⟩ := h
            refine s_callV (ci := 10) (av := [(0, (M 77 l1))]) (rest := []) (mc := 0) (ms := 0) C (d_of DX10_misses 30 rfl) lk_X10_324 (sh_41 hF5) (by decide) rfl rfl rfl (Nat.le_of_ble_eq_true rfl) (by decide) (by decide) hKQ8 (fun z8 w8 M8 hq => ?_)
            have h := h z8 w8 M8 hq
            refine s_istore (ls' := [(2, 41), (0, l1), (0, l2), (0, l3), (0, l4), (0, z8), (3, 0), (3, 0)]) C (d_of DX10_misses 31 rfl) (by decide) rfl rfl ?_
            refine s_aload_n C (d_of DX10_misses 32 rfl) rfl ?_
            refine s_aload_n C (d_of DX10_misses 33 rfl) rfl ?_
            refine WA.fix (fun hF9 => ?_)
            refine gf_X10_116 C (sh_41 hF9) (d_of DX10_misses 34 rfl) (fx_41_44 hF9) ?_
            refine s_iload_n C (d_of DX10_misses 35 rfl) rfl ?_
            obtain ⟨o10, h⟩ := h
            obtain ⟨o11, h⟩ := h
            refine s_iald (v0 := (M8 77 l2)) C (sh_77 hF9) o10 o11 (d_of DX10_misses 36 rfl) rfl ?_
            obtain ⟨Q12, hKQ12, h⟩ := h
            refine s_callV (ci := 10) (av := [(0, (M8 77 l2))]) (rest := []) (mc := 0) (ms := 0) C (d_of DX10_misses 37 rfl) lk_X10_324 (sh_41 hF9) (by decide) rfl rfl rfl (Nat.le_of_ble_eq_true rfl) (by decide) (by decide) hKQ12 (fun z12 w12 M12 hq => ?_)
            have h := h z12 w12 M12 hq
            refine s_istore (ls' := [(2, 41), (0, l1), (0, l2), (0, l3), (0, l4), (0, z8), (0, z12), (3, 0)]) C (d_of DX10_misses 38 rfl) (by decide) rfl rfl ?_
            refine s_aload_n C (d_of DX10_misses 39 rfl) rfl ?_
            refine s_aload_n C (d_of DX10_misses 40 rfl) rfl ?_
            refine WA.fix (fun hF13 => ?_)
            refine gf_X10_116 C (sh_41 hF13) (d_of DX10_misses 41 rfl) (fx_41_44 hF13) ?_
            refine s_iload_n C (d_of DX10_misses 42 rfl) rfl ?_
            refine s_iald (v0 := (M12 77 l1)) C (sh_77 hF13) o6 o7 (d_of DX10_misses 43 rfl) rfl ?_
            refine s_aload_n C (d_of DX10_misses 44 rfl) rfl ?_
            refine gf_X10_116 C (sh_41 hF13) (d_of DX10_misses 45 rfl) (fx_41_44 hF13) ?_
            refine s_iload_n C (d_of DX10_misses 46 rfl) rfl ?_
            refine s_iald (v0 := (M12 77 l2)) C (sh_77 hF13) o10 o11 (d_of DX10_misses 47 rfl) rfl ?_
            refine s_iand C (d_of DX10_misses 48 rfl) ?_
            obtain ⟨Q14, hKQ14, h⟩ := h
            refine s_callV (ci := 10) (av := [(0, (zand (M12 77 l1) (M12 77 l2)))]) (rest := []) (mc := 0) (ms := 0) C (d_of DX10_misses 49 rfl) lk_X10_324 (sh_41 hF13) (by decide) rfl rfl rfl (Nat.le_of_ble_eq_true rfl) (by decide) (by decide) hKQ14 (fun z14 w14 M14 hq => ?_)
            have h := h z14 w14 M14 hq
            refine s_istore (ls' := [(2, 41), (0, l1), (0, l2), (0, l3), (0, l4), (0, z8), (0, z12), (0, z14)]) C (d_of DX10_misses 50 rfl) (by decide) rfl rfl ?_
            refine s_iload C (d_of DX10_misses 51 rfl) rfl ?_
            refine s_ifne C (d_of DX10_misses 52 rfl) rfl (fun hc => ?_) (fun hc => ?_)
            · have h := h.1 hc
              refine s_iload_n C (d_of DX10_misses 55 rfl) rfl ?_
              refine s_ifne C (d_of DX10_misses 56 rfl) rfl (fun hc => ?_) (fun hc => ?_)
              · have h := h.1 hc
                refine s_iload C (d_of DX10_misses 61 rfl) rfl ?_
                refine s_iload C (d_of DX10_misses 62 rfl) rfl ?_
                obtain ⟨o15, h⟩ := h
                refine s_isub C (d_of DX10_misses 63 rfl) o15 ?_
                refine s_iload C (d_of DX10_misses 64 rfl) rfl ?_
                refine s_iload C (d_of DX10_misses 65 rfl) rfl ?_
                obtain ⟨o16, h⟩ := h
                refine s_isub C (d_of DX10_misses 66 rfl) o16 ?_
                obtain ⟨o17, h⟩ := h
                refine s_imul C (d_of DX10_misses 67 rfl) o17 ?_
                refine s_iload C (d_of DX10_misses 68 rfl) rfl ?_
                refine s_iload C (d_of DX10_misses 69 rfl) rfl ?_
                obtain ⟨Q18, hKQ18, h⟩ := h
                refine s_callS (av := [(0, ((z8 - z14) * (z12 - z14))), (0, z14), (0, l4)]) (rest := []) (mc := 0) (ms := 0) C (d_of DX10_misses 70 rfl) lk_X10_327 rfl rfl (Nat.le_of_ble_eq_true rfl) (by decide) (by decide) hKQ18 (fun z18 w18 M18 hq => ?_)
                have h := h z18 w18 M18 hq
                exact s_ireturn C (d_of DX10_misses 71 rfl) h
              · have h := h.2 hc
                refine s_iload C (d_of DX10_misses 57 rfl) rfl ?_
                refine s_iload C (d_of DX10_misses 58 rfl) rfl ?_
                obtain ⟨o19, h⟩ := h
                refine s_imul C (d_of DX10_misses 59 rfl) o19 ?_
                refine s_goto C (d_of DX10_misses 60 rfl) rfl ?_
                refine s_iload C (d_of DX10_misses 68 rfl) rfl ?_
                refine s_iload C (d_of DX10_misses 69 rfl) rfl ?_
                obtain ⟨Q20, hKQ20, h⟩ := h
                refine s_callS (av := [(0, (z8 * z12)), (0, z14), (0, l4)]) (rest := []) (mc := 0) (ms := 0) C (d_of DX10_misses 70 rfl) lk_X10_327 rfl rfl (Nat.le_of_ble_eq_true rfl) (by decide) (by decide) hKQ20 (fun z20 w20 M20 hq => ?_)
                have h := h z20 w20 M20 hq
                exact s_ireturn C (d_of DX10_misses 71 rfl) h
            · have h := h.2 hc
              refine s_iload C (d_of DX10_misses 53 rfl) rfl ?_
              exact s_ireturn C (d_of DX10_misses 54 rfl) h
          · have h := h.2 (b2i_nn hc)
            refine s_bipush C (d_of DX10_misses 23 rfl) ⟨rfl, by decide, by decide⟩ ?_
            exact s_ireturn C (d_of DX10_misses 24 rfl) h
      · have h := h.2 hc
        refine s_iconst C (d_of DX10_misses 9 rfl) (by decide) ?_
        exact s_ireturn C (d_of DX10_misses 10 rfl) h
theorem E_X10_misses {G : GP} {l : Launch} {P : Int → NS → MM → Prop} {l1 : Int} {l2 : Int} {l3 : Int} {l4 : Int} {w : NS} {M : MM} (h : inR l1 → inR l2 → inR l3 → inR l4 → ∀ X : BX, X.2.1 = l → CX_X10_misses G X → A_X10_misses_0 G X P l1 l2 l3 l4 w M) : CT_X10_misses G l [(2, 41), (0, l1), (0, l2), (0, l3), (0, l4)] w M P :=
  CT.of RX10 "misses" (by decide +kernel) rfl rfl rfl (Nat.le_of_ble_eq_true rfl) (fun hr X hX C => h (hr (0, l1) (by simp)) (hr (0, l2) (by simp)) (hr (0, l3) (by simp)) (hr (0, l4) (by simp)) X hX C)
def A_X10_reader_0 (G : GP) (X : BX) (P : Int → NS → MM → Prop) (l1 : Int) (l2 : Int) (l3 : Int) (w : NS) (M : MM) : Prop := WA true G X (QM G X true 0 P) 5 0 [(2, 41), (0, l1), (0, l2), (0, l3), (3, 0)] [] 0 0 w M
set_option maxHeartbeats 4000000 in
set_option maxRecDepth 100000 in
theorem B_X10_reader_0 {G : GP} {X : BX} {P : Int → NS → MM → Prop} {l1 : Int} {l2 : Int} {l3 : Int} {w : NS} {M : MM} (C : CX_X10_reader G X) (h : ((((0 ≤ l1 ∧ l1 ≤ 3)) → (((¬ (0 ≤ l2 ∧ l2 ≤ 1)) → P (-2) w M) ∧ (((0 ≤ l2 ∧ l2 ≤ 1)) → (((l2 ≠ 0) → (((l2 ≠ 0) → ((((0 ≤ l3 ∧ l3 ≤ 1000)) → (inR (2 * l1)) ∧ (inR ((2 * l1) + l2)) ∧ (0 ≤ ((2 * l1) + l2)) ∧ (((2 * l1) + l2) < 8) ∧ P (M 78 ((2 * l1) + l2)) w (up M 78 ((2 * l1) + l2) l3)) ∧ ((¬ (0 ≤ l3 ∧ l3 ≤ 1000)) → P (-2) w M))) ∧ ((¬ (l2 ≠ 0)) → ((((0 ≤ l3 ∧ l3 ≤ 100)) → (inR (2 * l1)) ∧ (inR ((2 * l1) + l2)) ∧ (0 ≤ ((2 * l1) + l2)) ∧ (((2 * l1) + l2) < 8) ∧ P (M 78 ((2 * l1) + l2)) w (up M 78 ((2 * l1) + l2) l3)) ∧ ((¬ (0 ≤ l3 ∧ l3 ≤ 100)) → P (-2) w M))))) ∧ ((¬ (l2 ≠ 0)) → (((l2 ≠ 0) → ((((1 ≤ l3 ∧ l3 ≤ 1000)) → (inR (2 * l1)) ∧ (inR ((2 * l1) + l2)) ∧ (0 ≤ ((2 * l1) + l2)) ∧ (((2 * l1) + l2) < 8) ∧ P (M 78 ((2 * l1) + l2)) w (up M 78 ((2 * l1) + l2) l3)) ∧ ((¬ (1 ≤ l3 ∧ l3 ≤ 1000)) → P (-2) w M))) ∧ ((¬ (l2 ≠ 0)) → ((((1 ≤ l3 ∧ l3 ≤ 100)) → (inR (2 * l1)) ∧ (inR ((2 * l1) + l2)) ∧ (0 ≤ ((2 * l1) + l2)) ∧ (((2 * l1) + l2) < 8) ∧ P (M 78 ((2 * l1) + l2)) w (up M 78 ((2 * l1) + l2) l3)) ∧ ((¬ (1 ≤ l3 ∧ l3 ≤ 100)) → P (-2) w M))))))))) ∧ ((¬ (0 ≤ l1 ∧ l1 ≤ 3)) → P (-1) w M))) : A_X10_reader_0 G X P l1 l2 l3 w M := by
  unfold A_X10_reader_0
  refine s_iload_n C (d_of DX10_reader 0 rfl) rfl ?_
  refine s_callS (av := [(0, l1)]) (rest := []) (mc := 0) (ms := 0) C (d_of DX10_reader 1 rfl) lk_X10_321 rfl rfl (Nat.le_of_ble_eq_true rfl) (by decide) (by decide) (pc_X10_isReader) (fun z1 wz1 Mz1 hq => ?_)
  obtain ⟨hq1, hq2, hq3⟩ := hq
  have hq2 := hq2.symm
  have hq3 := hq3.symm
  subst hq1 hq2 hq3
  refine s_ifne C (d_of DX10_reader 2 rfl) rfl (fun hc => ?_) (fun hc => ?_)
  · have h := h.1 (b2i_n0 hc)
    refine s_iload_n C (d_of DX10_reader 5 rfl) rfl ?_
    refine s_i2l C (d_of DX10_reader 6 rfl) ?_
    refine s_lconst (z := 0) C (d_of DX10_reader 7 rfl) ⟨rfl, by decide⟩ ?_
    refine s_lconst (z := 1) C (d_of DX10_reader 8 rfl) ⟨rfl, by decide⟩ ?_
    refine s_callS (av := [(1, l2), (1, 0), (1, 1)]) (rest := []) (mc := 0) (ms := 0) C (d_of DX10_reader 9 rfl) lk_X10_139 rfl rfl (Nat.le_of_ble_eq_true rfl) (by decide) (by decide) (pc_X10_in) (fun z2 wz2 Mz2 hq => ?_)
    obtain ⟨hq1, hq2, hq3⟩ := hq
    have hq2 := hq2.symm
    have hq3 := hq3.symm
    subst hq1 hq2 hq3
    refine s_ifeq C (d_of DX10_reader 10 rfl) rfl (fun hc => ?_) (fun hc => ?_)
    · have h := h.1 (b2i_0.mp hc)
      refine s_bipush C (d_of DX10_reader 25 rfl) ⟨rfl, by decide, by decide⟩ ?_
      exact s_ireturn C (d_of DX10_reader 26 rfl) h
    · have h := h.2 (b2i_n0 hc)
      refine s_iload_n C (d_of DX10_reader 11 rfl) rfl ?_
      refine s_i2l C (d_of DX10_reader 12 rfl) ?_
      refine s_iload_n C (d_of DX10_reader 13 rfl) rfl ?_
      refine s_ifne C (d_of DX10_reader 14 rfl) rfl (fun hc => ?_) (fun hc => ?_)
      · have h := h.1 hc
        refine s_lconst (z := 0) C (d_of DX10_reader 17 rfl) ⟨rfl, by decide⟩ ?_
        refine s_iload_n C (d_of DX10_reader 18 rfl) rfl ?_
        refine s_ifne C (d_of DX10_reader 19 rfl) rfl (fun hc => ?_) (fun hc => ?_)
        · have h := h.1 hc
          refine s_ldc2 (z := 1000) C (d_of DX10_reader 22 rfl) (mG (wd_1182) rfl) ⟨rfl, by decide⟩ ?_
          refine s_callS (av := [(1, l3), (1, 0), (1, 1000)]) (rest := []) (mc := 0) (ms := 0) C (d_of DX10_reader 23 rfl) lk_X10_139 rfl rfl (Nat.le_of_ble_eq_true rfl) (by decide) (by decide) (pc_X10_in) (fun z3 wz3 Mz3 hq => ?_)
          obtain ⟨hq1, hq2, hq3⟩ := hq
          have hq2 := hq2.symm
          have hq3 := hq3.symm
          subst hq1 hq2 hq3
          refine s_ifne C (d_of DX10_reader 24 rfl) rfl (fun hc => ?_) (fun hc => ?_)
          · have h := h.1 (b2i_n0 hc)
            refine s_aload_n C (d_of DX10_reader 27 rfl) rfl ?_
            refine WA.fix (fun hF4 => ?_)
            refine gf_X10_119 C (sh_41 hF4) (d_of DX10_reader 28 rfl) (fx_41_45 hF4) ?_
            refine s_iconst C (d_of DX10_reader 29 rfl) (by decide) ?_
            refine s_iload_n C (d_of DX10_reader 30 rfl) rfl ?_
            obtain ⟨o5, h⟩ := h
            refine s_imul C (d_of DX10_reader 31 rfl) o5 ?_
            refine s_iload_n C (d_of DX10_reader 32 rfl) rfl ?_
            obtain ⟨o6, h⟩ := h
            refine s_iadd C (d_of DX10_reader 33 rfl) o6 ?_
            obtain ⟨o7, h⟩ := h
            obtain ⟨o8, h⟩ := h
            refine s_iald (v0 := (M 78 ((2 * l1) + l2))) C (sh_78 hF4) o7 o8 (d_of DX10_reader 34 rfl) rfl ?_
            refine s_istore (ls' := [(2, 41), (0, l1), (0, l2), (0, l3), (0, (M 78 ((2 * l1) + l2)))]) C (d_of DX10_reader 35 rfl) (by decide) rfl rfl ?_
            refine s_aload_n C (d_of DX10_reader 36 rfl) rfl ?_
            refine gf_X10_119 C (sh_41 hF4) (d_of DX10_reader 37 rfl) (fx_41_45 hF4) ?_
            refine s_iconst C (d_of DX10_reader 38 rfl) (by decide) ?_
            refine s_iload_n C (d_of DX10_reader 39 rfl) rfl ?_
            refine s_imul C (d_of DX10_reader 40 rfl) o5 ?_
            refine s_iload_n C (d_of DX10_reader 41 rfl) rfl ?_
            refine s_iadd C (d_of DX10_reader 42 rfl) o6 ?_
            refine s_iload_n C (d_of DX10_reader 43 rfl) rfl ?_
            refine s_iast C (sh_78 hF4) o7 o8 (fun _ => by decide) (d_of DX10_reader 44 rfl) ?_
            refine s_iload C (d_of DX10_reader 45 rfl) rfl ?_
            exact s_ireturn C (d_of DX10_reader 46 rfl) h
          · have h := h.2 (b2i_nn hc)
            refine s_bipush C (d_of DX10_reader 25 rfl) ⟨rfl, by decide, by decide⟩ ?_
            exact s_ireturn C (d_of DX10_reader 26 rfl) h
        · have h := h.2 hc
          refine s_ldc2 (z := 100) C (d_of DX10_reader 20 rfl) (mG (wd_959) rfl) ⟨rfl, by decide⟩ ?_
          refine s_goto C (d_of DX10_reader 21 rfl) rfl ?_
          refine s_callS (av := [(1, l3), (1, 0), (1, 100)]) (rest := []) (mc := 0) (ms := 0) C (d_of DX10_reader 23 rfl) lk_X10_139 rfl rfl (Nat.le_of_ble_eq_true rfl) (by decide) (by decide) (pc_X10_in) (fun z9 wz9 Mz9 hq => ?_)
          obtain ⟨hq1, hq2, hq3⟩ := hq
          have hq2 := hq2.symm
          have hq3 := hq3.symm
          subst hq1 hq2 hq3
          refine s_ifne C (d_of DX10_reader 24 rfl) rfl (fun hc => ?_) (fun hc => ?_)
          · have h := h.1 (b2i_n0 hc)
            refine s_aload_n C (d_of DX10_reader 27 rfl) rfl ?_
            refine WA.fix (fun hF10 => ?_)
            refine gf_X10_119 C (sh_41 hF10) (d_of DX10_reader 28 rfl) (fx_41_45 hF10) ?_
            refine s_iconst C (d_of DX10_reader 29 rfl) (by decide) ?_
            refine s_iload_n C (d_of DX10_reader 30 rfl) rfl ?_
            obtain ⟨o11, h⟩ := h
            refine s_imul C (d_of DX10_reader 31 rfl) o11 ?_
            refine s_iload_n C (d_of DX10_reader 32 rfl) rfl ?_
            obtain ⟨o12, h⟩ := h
            refine s_iadd C (d_of DX10_reader 33 rfl) o12 ?_
            obtain ⟨o13, h⟩ := h
            obtain ⟨o14, h⟩ := h
            refine s_iald (v0 := (M 78 ((2 * l1) + l2))) C (sh_78 hF10) o13 o14 (d_of DX10_reader 34 rfl) rfl ?_
            refine s_istore (ls' := [(2, 41), (0, l1), (0, l2), (0, l3), (0, (M 78 ((2 * l1) + l2)))]) C (d_of DX10_reader 35 rfl) (by decide) rfl rfl ?_
            refine s_aload_n C (d_of DX10_reader 36 rfl) rfl ?_
            refine gf_X10_119 C (sh_41 hF10) (d_of DX10_reader 37 rfl) (fx_41_45 hF10) ?_
            refine s_iconst C (d_of DX10_reader 38 rfl) (by decide) ?_
            refine s_iload_n C (d_of DX10_reader 39 rfl) rfl ?_
            refine s_imul C (d_of DX10_reader 40 rfl) o11 ?_
            refine s_iload_n C (d_of DX10_reader 41 rfl) rfl ?_
            refine s_iadd C (d_of DX10_reader 42 rfl) o12 ?_
            refine s_iload_n C (d_of DX10_reader 43 rfl) rfl ?_
            refine s_iast C (sh_78 hF10) o13 o14 (fun _ => by decide) (d_of DX10_reader 44 rfl) ?_
            refine s_iload C (d_of DX10_reader 45 rfl) rfl ?_
            exact s_ireturn C (d_of DX10_reader 46 rfl) h
          · have h := h.2 (b2i_nn hc)
            refine s_bipush C (d_of DX10_reader 25 rfl) ⟨rfl, by decide, by decide⟩ ?_
            exact s_ireturn C (d_of DX10_reader 26 rfl) h
      · have h := h.2 hc
        refine s_lconst (z := 1) C (d_of DX10_reader 15 rfl) ⟨rfl, by decide⟩ ?_
        refine s_goto C (d_of DX10_reader 16 rfl) rfl ?_
        refine s_iload_n C (d_of DX10_reader 18 rfl) rfl ?_
        refine s_ifne C (d_of DX10_reader 19 rfl) rfl (fun hc => ?_) (fun hc => ?_)
        · have h := h.1 hc
          refine s_ldc2 (z := 1000) C (d_of DX10_reader 22 rfl) (mG (wd_1182) rfl) ⟨rfl, by decide⟩ ?_
          refine s_callS (av := [(1, l3), (1, 1), (1, 1000)]) (rest := []) (mc := 0) (ms := 0) C (d_of DX10_reader 23 rfl) lk_X10_139 rfl rfl (Nat.le_of_ble_eq_true rfl) (by decide) (by decide) (pc_X10_in) (fun z15 wz15 Mz15 hq => ?_)
          obtain ⟨hq1, hq2, hq3⟩ := hq
          have hq2 := hq2.symm
          have hq3 := hq3.symm
          subst hq1 hq2 hq3
          refine s_ifne C (d_of DX10_reader 24 rfl) rfl (fun hc => ?_) (fun hc => ?_)
          · have h := h.1 (b2i_n0 hc)
            refine s_aload_n C (d_of DX10_reader 27 rfl) rfl ?_
            refine WA.fix (fun hF16 => ?_)
            refine gf_X10_119 C (sh_41 hF16) (d_of DX10_reader 28 rfl) (fx_41_45 hF16) ?_
            refine s_iconst C (d_of DX10_reader 29 rfl) (by decide) ?_
            refine s_iload_n C (d_of DX10_reader 30 rfl) rfl ?_
            obtain ⟨o17, h⟩ := h
            refine s_imul C (d_of DX10_reader 31 rfl) o17 ?_
            refine s_iload_n C (d_of DX10_reader 32 rfl) rfl ?_
            obtain ⟨o18, h⟩ := h
            refine s_iadd C (d_of DX10_reader 33 rfl) o18 ?_
            obtain ⟨o19, h⟩ := h
            obtain ⟨o20, h⟩ := h
            refine s_iald (v0 := (M 78 ((2 * l1) + l2))) C (sh_78 hF16) o19 o20 (d_of DX10_reader 34 rfl) rfl ?_
            refine s_istore (ls' := [(2, 41), (0, l1), (0, l2), (0, l3), (0, (M 78 ((2 * l1) + l2)))]) C (d_of DX10_reader 35 rfl) (by decide) rfl rfl ?_
            refine s_aload_n C (d_of DX10_reader 36 rfl) rfl ?_
            refine gf_X10_119 C (sh_41 hF16) (d_of DX10_reader 37 rfl) (fx_41_45 hF16) ?_
            refine s_iconst C (d_of DX10_reader 38 rfl) (by decide) ?_
            refine s_iload_n C (d_of DX10_reader 39 rfl) rfl ?_
            refine s_imul C (d_of DX10_reader 40 rfl) o17 ?_
            refine s_iload_n C (d_of DX10_reader 41 rfl) rfl ?_
            refine s_iadd C (d_of DX10_reader 42 rfl) o18 ?_
            refine s_iload_n C (d_of DX10_reader 43 rfl) rfl ?_
            refine s_iast C (sh_78 hF16) o19 o20 (fun _ => by decide) (d_of DX10_reader 44 rfl) ?_
            refine s_iload C (d_of DX10_reader 45 rfl) rfl ?_
            exact s_ireturn C (d_of DX10_reader 46 rfl) h
          · have h := h.2 (b2i_nn hc)
            refine s_bipush C (d_of DX10_reader 25 rfl) ⟨rfl, by decide, by decide⟩ ?_
            exact s_ireturn C (d_of DX10_reader 26 rfl) h
        · have h := h.2 hc
          refine s_ldc2 (z := 100) C (d_of DX10_reader 20 rfl) (mG (wd_959) rfl) ⟨rfl, by decide⟩ ?_
          refine s_goto C (d_of DX10_reader 21 rfl) rfl ?_
          refine s_callS (av := [(1, l3), (1, 1), (1, 100)]) (rest := []) (mc := 0) (ms := 0) C (d_of DX10_reader 23 rfl) lk_X10_139 rfl rfl (Nat.le_of_ble_eq_true rfl) (by decide) (by decide) (pc_X10_in) (fun z21 wz21 Mz21 hq => ?_)
          obtain ⟨hq1, hq2, hq3⟩ := hq
          have hq2 := hq2.symm
          have hq3 := hq3.symm
          subst hq1 hq2 hq3
          refine s_ifne C (d_of DX10_reader 24 rfl) rfl (fun hc => ?_) (fun hc => ?_)
          · have h := h.1 (b2i_n0 hc)
            refine s_aload_n C (d_of DX10_reader 27 rfl) rfl ?_
            refine WA.fix (fun hF22 => ?_)
            refine gf_X10_119 C (sh_41 hF22) (d_of DX10_reader 28 rfl) (fx_41_45 hF22) ?_
            refine s_iconst C (d_of DX10_reader 29 rfl) (by decide) ?_
            refine s_iload_n C (d_of DX10_reader 30 rfl) rfl ?_
            obtain ⟨o23, h⟩ := h
            refine s_imul C (d_of DX10_reader 31 rfl) o23 ?_
            refine s_iload_n C (d_of DX10_reader 32 rfl) rfl ?_
            obtain ⟨o24, h⟩ := h
            refine s_iadd C (d_of DX10_reader 33 rfl) o24 ?_
            obtain ⟨o25, h⟩ := h
            obtain ⟨o26, h⟩ := h
            refine s_iald (v0 := (M 78 ((2 * l1) + l2))) C (sh_78 hF22) o25 o26 (d_of DX10_reader 34 rfl) rfl ?_
            refine s_istore (ls' := [(2, 41), (0, l1), (0, l2), (0, l3), (0, (M 78 ((2 * l1) + l2)))]) C (d_of DX10_reader 35 rfl) (by decide) rfl rfl ?_
            refine s_aload_n C (d_of DX10_reader 36 rfl) rfl ?_
            refine gf_X10_119 C (sh_41 hF22) (d_of DX10_reader 37 rfl) (fx_41_45 hF22) ?_
            refine s_iconst C (d_of DX10_reader 38 rfl) (by decide) ?_
            refine s_iload_n C (d_of DX10_reader 39 rfl) rfl ?_
            refine s_imul C (d_of DX10_reader 40 rfl) o23 ?_
            refine s_iload_n C (d_of DX10_reader 41 rfl) rfl ?_
            refine s_iadd C (d_of DX10_reader 42 rfl) o24 ?_
            refine s_iload_n C (d_of DX10_reader 43 rfl) rfl ?_
            refine s_iast C (sh_78 hF22) o25 o26 (fun _ => by decide) (d_of DX10_reader 44 rfl) ?_
            refine s_iload C (d_of DX10_reader 45 rfl) rfl ?_
            exact s_ireturn C (d_of DX10_reader 46 rfl) h
          · have h := h.2 (b2i_nn hc)
            refine s_bipush C (d_of DX10_reader 25 rfl) ⟨rfl, by decide, by decide⟩ ?_
            exact s_ireturn C (d_of DX10_reader 26 rfl) h
  · have h := h.2 (b2i_nn hc)
    refine s_iconst C (d_of DX10_reader 3 rfl) (by decide) ?_
    exact s_ireturn C (d_of DX10_reader 4 rfl) h
theorem E_X10_reader {G : GP} {l : Launch} {P : Int → NS → MM → Prop} {l1 : Int} {l2 : Int} {l3 : Int} {w : NS} {M : MM} (h : inR l1 → inR l2 → inR l3 → ∀ X : BX, X.2.1 = l → CX_X10_reader G X → A_X10_reader_0 G X P l1 l2 l3 w M) : CT_X10_reader G l [(2, 41), (0, l1), (0, l2), (0, l3)] w M P :=
  CT.of RX10 "reader" (by decide +kernel) rfl rfl rfl (Nat.le_of_ble_eq_true rfl) (fun hr X hX C => h (hr (0, l1) (by simp)) (hr (0, l2) (by simp)) (hr (0, l3) (by simp)) X hX C)
def A_X10_slips_0 (G : GP) (X : BX) (P : Int → NS → MM → Prop) (l1 : Int) (l2 : Int) (l3 : Int) (w : NS) (M : MM) : Prop := WA true G X (QM G X true 0 P) 5 0 [(2, 41), (0, l1), (0, l2), (0, l3), (3, 0)] [] 0 0 w M
set_option maxHeartbeats 4000000 in
set_option maxRecDepth 100000 in
theorem B_X10_slips_0 {G : GP} {X : BX} {P : Int → NS → MM → Prop} {l1 : Int} {l2 : Int} {l3 : Int} {w : NS} {M : MM} (C : CX_X10_slips G X) (h : ((((0 ≤ l1 ∧ l1 ≤ 3)) → (((¬ (0 ≤ l2 ∧ l2 ≤ 9)) → P (-2) w M) ∧ (((0 ≤ l2 ∧ l2 ≤ 9)) → ((((0 ≤ l3 ∧ l3 ≤ 100)) → (inR (10 * l1)) ∧ (inR ((10 * l1) + l2)) ∧ (0 ≤ ((10 * l1) + l2)) ∧ (((10 * l1) + l2) < 40) ∧ P (M 79 ((10 * l1) + l2)) w (up M 79 ((10 * l1) + l2) l3)) ∧ ((¬ (0 ≤ l3 ∧ l3 ≤ 100)) → P (-2) w M))))) ∧ ((¬ (0 ≤ l1 ∧ l1 ≤ 3)) → P (-1) w M))) : A_X10_slips_0 G X P l1 l2 l3 w M := by
  unfold A_X10_slips_0
  refine s_iload_n C (d_of DX10_slips 0 rfl) rfl ?_
  refine s_callS (av := [(0, l1)]) (rest := []) (mc := 0) (ms := 0) C (d_of DX10_slips 1 rfl) lk_X10_321 rfl rfl (Nat.le_of_ble_eq_true rfl) (by decide) (by decide) (pc_X10_isReader) (fun z1 wz1 Mz1 hq => ?_)
  obtain ⟨hq1, hq2, hq3⟩ := hq
  have hq2 := hq2.symm
  have hq3 := hq3.symm
  subst hq1 hq2 hq3
  refine s_ifne C (d_of DX10_slips 2 rfl) rfl (fun hc => ?_) (fun hc => ?_)
  · have h := h.1 (b2i_n0 hc)
    refine s_iload_n C (d_of DX10_slips 5 rfl) rfl ?_
    refine s_i2l C (d_of DX10_slips 6 rfl) ?_
    refine s_lconst (z := 0) C (d_of DX10_slips 7 rfl) ⟨rfl, by decide⟩ ?_
    refine s_ldc2 (z := 9) C (d_of DX10_slips 8 rfl) (mG (wd_929) rfl) ⟨rfl, by decide⟩ ?_
    refine s_callS (av := [(1, l2), (1, 0), (1, 9)]) (rest := []) (mc := 0) (ms := 0) C (d_of DX10_slips 9 rfl) lk_X10_139 rfl rfl (Nat.le_of_ble_eq_true rfl) (by decide) (by decide) (pc_X10_in) (fun z2 wz2 Mz2 hq => ?_)
    obtain ⟨hq1, hq2, hq3⟩ := hq
    have hq2 := hq2.symm
    have hq3 := hq3.symm
    subst hq1 hq2 hq3
    refine s_ifeq C (d_of DX10_slips 10 rfl) rfl (fun hc => ?_) (fun hc => ?_)
    · have h := h.1 (b2i_0.mp hc)
      refine s_bipush C (d_of DX10_slips 17 rfl) ⟨rfl, by decide, by decide⟩ ?_
      exact s_ireturn C (d_of DX10_slips 18 rfl) h
    · have h := h.2 (b2i_n0 hc)
      refine s_iload_n C (d_of DX10_slips 11 rfl) rfl ?_
      refine s_i2l C (d_of DX10_slips 12 rfl) ?_
      refine s_lconst (z := 0) C (d_of DX10_slips 13 rfl) ⟨rfl, by decide⟩ ?_
      refine s_ldc2 (z := 100) C (d_of DX10_slips 14 rfl) (mG (wd_959) rfl) ⟨rfl, by decide⟩ ?_
      refine s_callS (av := [(1, l3), (1, 0), (1, 100)]) (rest := []) (mc := 0) (ms := 0) C (d_of DX10_slips 15 rfl) lk_X10_139 rfl rfl (Nat.le_of_ble_eq_true rfl) (by decide) (by decide) (pc_X10_in) (fun z3 wz3 Mz3 hq => ?_)
      obtain ⟨hq1, hq2, hq3⟩ := hq
      have hq2 := hq2.symm
      have hq3 := hq3.symm
      subst hq1 hq2 hq3
      refine s_ifne C (d_of DX10_slips 16 rfl) rfl (fun hc => ?_) (fun hc => ?_)
      · have h := h.1 (b2i_n0 hc)
        refine s_aload_n C (d_of DX10_slips 19 rfl) rfl ?_
        refine WA.fix (fun hF4 => ?_)
        refine gf_X10_122 C (sh_41 hF4) (d_of DX10_slips 20 rfl) (fx_41_46 hF4) ?_
        refine s_bipush C (d_of DX10_slips 21 rfl) ⟨rfl, by decide, by decide⟩ ?_
        refine s_iload_n C (d_of DX10_slips 22 rfl) rfl ?_
        obtain ⟨o5, h⟩ := h
        refine s_imul C (d_of DX10_slips 23 rfl) o5 ?_
        refine s_iload_n C (d_of DX10_slips 24 rfl) rfl ?_
        obtain ⟨o6, h⟩ := h
        refine s_iadd C (d_of DX10_slips 25 rfl) o6 ?_
        obtain ⟨o7, h⟩ := h
        obtain ⟨o8, h⟩ := h
        refine s_iald (v0 := (M 79 ((10 * l1) + l2))) C (sh_79 hF4) o7 o8 (d_of DX10_slips 26 rfl) rfl ?_
        refine s_istore (ls' := [(2, 41), (0, l1), (0, l2), (0, l3), (0, (M 79 ((10 * l1) + l2)))]) C (d_of DX10_slips 27 rfl) (by decide) rfl rfl ?_
        refine s_aload_n C (d_of DX10_slips 28 rfl) rfl ?_
        refine gf_X10_122 C (sh_41 hF4) (d_of DX10_slips 29 rfl) (fx_41_46 hF4) ?_
        refine s_bipush C (d_of DX10_slips 30 rfl) ⟨rfl, by decide, by decide⟩ ?_
        refine s_iload_n C (d_of DX10_slips 31 rfl) rfl ?_
        refine s_imul C (d_of DX10_slips 32 rfl) o5 ?_
        refine s_iload_n C (d_of DX10_slips 33 rfl) rfl ?_
        refine s_iadd C (d_of DX10_slips 34 rfl) o6 ?_
        refine s_iload_n C (d_of DX10_slips 35 rfl) rfl ?_
        refine s_iast C (sh_79 hF4) o7 o8 (fun _ => by decide) (d_of DX10_slips 36 rfl) ?_
        refine s_iload C (d_of DX10_slips 37 rfl) rfl ?_
        exact s_ireturn C (d_of DX10_slips 38 rfl) h
      · have h := h.2 (b2i_nn hc)
        refine s_bipush C (d_of DX10_slips 17 rfl) ⟨rfl, by decide, by decide⟩ ?_
        exact s_ireturn C (d_of DX10_slips 18 rfl) h
  · have h := h.2 (b2i_nn hc)
    refine s_iconst C (d_of DX10_slips 3 rfl) (by decide) ?_
    exact s_ireturn C (d_of DX10_slips 4 rfl) h
theorem E_X10_slips {G : GP} {l : Launch} {P : Int → NS → MM → Prop} {l1 : Int} {l2 : Int} {l3 : Int} {w : NS} {M : MM} (h : inR l1 → inR l2 → inR l3 → ∀ X : BX, X.2.1 = l → CX_X10_slips G X → A_X10_slips_0 G X P l1 l2 l3 w M) : CT_X10_slips G l [(2, 41), (0, l1), (0, l2), (0, l3)] w M P :=
  CT.of RX10 "slips" (by decide +kernel) rfl rfl rfl (Nat.le_of_ble_eq_true rfl) (fun hr X hX C => h (hr (0, l1) (by simp)) (hr (0, l2) (by simp)) (hr (0, l3) (by simp)) X hX C)
def A_X10_tried_0 (G : GP) (X : BX) (P : Int → NS → MM → Prop) (l1 : Int) (w : NS) (M : MM) : Prop := WA true G X (QM G X true 0 P) 5 0 [(2, 41), (0, l1), (3, 0), (3, 0), (3, 0)] [] 0 0 w M
def A_X10_tried_4 (G : GP) (X : BX) (P : Int → NS → MM → Prop) (l1 : Int) (l2 : Int) (l3 : Int) (w : NS) (M : MM) : Prop := WA true G X (QM G X true 0 P) 5 4 [(2, 41), (0, l1), (0, l2), (0, l3), (3, 0)] [] 0 0 w M
def A_X10_tried_33 (G : GP) (X : BX) (P : Int → NS → MM → Prop) (l1 : Int) (l2 : Int) (l3 : Int) (w : NS) (M : MM) : Prop := WA true G X (QM G X true 0 P) 5 33 [(2, 41), (0, l1), (0, l2), (0, l3), (3, 0)] [] 0 0 w M
set_option maxHeartbeats 4000000 in
set_option maxRecDepth 100000 in
theorem B_X10_tried_0 {G : GP} {X : BX} {P : Int → NS → MM → Prop} {l1 : Int} {w : NS} {M : MM} (C : CX_X10_tried G X) (h : A_X10_tried_4 G X P l1 0 0 w M) : A_X10_tried_0 G X P l1 w M := by
  unfold A_X10_tried_0
  refine s_iconst C (d_of DX10_tried 0 rfl) (by decide) ?_
  refine s_istore_n (ls' := [(2, 41), (0, l1), (0, 0), (3, 0), (3, 0)]) C (d_of DX10_tried 1 rfl) (by decide) rfl rfl ?_
  refine s_iconst C (d_of DX10_tried 2 rfl) (by decide) ?_
  refine s_istore_n (ls' := [(2, 41), (0, l1), (0, 0), (0, 0), (3, 0)]) C (d_of DX10_tried 3 rfl) (by decide) rfl rfl ?_
  exact h
set_option maxHeartbeats 4000000 in
set_option maxRecDepth 100000 in
theorem B_X10_tried_4 {G : GP} {X : BX} {P : Int → NS → MM → Prop} {l1 : Int} {l2 : Int} {l3 : Int} {w : NS} {M : MM} (C : CX_X10_tried G X) (h : (((4 ≤ l3) → A_X10_tried_33 G X P l1 l2 0 w M) ∧ ((¬ (4 ≤ l3)) → (inR (2 * l3)) ∧ (inR ((2 * l3) + 1)) ∧ (0 ≤ ((2 * l3) + 1)) ∧ (((2 * l3) + 1) < 8) ∧ (0 ≤ l3) ∧ (l3 < 5) ∧ (inR (l3 + 1)) ∧ A_X10_tried_4 G X P l1 l2 (l3 + 1) w (up M 82 l3 (M 78 ((2 * l3) + 1)))))) : A_X10_tried_4 G X P l1 l2 l3 w M := by
  unfold A_X10_tried_4
  refine s_iload_n C (d_of DX10_tried 4 rfl) rfl ?_
  refine s_iconst C (d_of DX10_tried 5 rfl) (by decide) ?_
  refine s_icmpge C (d_of DX10_tried 6 rfl) rfl (fun hc => ?_) (fun hc => ?_)
  · have h := h.1 hc
    refine s_iconst C (d_of DX10_tried 21 rfl) (by decide) ?_
    refine s_istore_n (ls' := [(2, 41), (0, l1), (0, l2), (0, 0), (3, 0)]) C (d_of DX10_tried 22 rfl) (by decide) rfl rfl ?_
    exact h
  · have h := h.2 hc
    refine s_aload_n C (d_of DX10_tried 7 rfl) rfl ?_
    refine WA.fix (fun hF1 => ?_)
    refine gf_X10_131 C (sh_41 hF1) (d_of DX10_tried 8 rfl) (fx_41_49 hF1) ?_
    refine s_iload_n C (d_of DX10_tried 9 rfl) rfl ?_
    refine s_aload_n C (d_of DX10_tried 10 rfl) rfl ?_
    refine gf_X10_119 C (sh_41 hF1) (d_of DX10_tried 11 rfl) (fx_41_45 hF1) ?_
    refine s_iconst C (d_of DX10_tried 12 rfl) (by decide) ?_
    refine s_iload_n C (d_of DX10_tried 13 rfl) rfl ?_
    obtain ⟨o2, h⟩ := h
    refine s_imul C (d_of DX10_tried 14 rfl) o2 ?_
    refine s_iconst C (d_of DX10_tried 15 rfl) (by decide) ?_
    obtain ⟨o3, h⟩ := h
    refine s_iadd C (d_of DX10_tried 16 rfl) o3 ?_
    obtain ⟨o4, h⟩ := h
    obtain ⟨o5, h⟩ := h
    refine s_iald (v0 := (M 78 ((2 * l3) + 1))) C (sh_78 hF1) o4 o5 (d_of DX10_tried 17 rfl) rfl ?_
    obtain ⟨o6, h⟩ := h
    obtain ⟨o7, h⟩ := h
    refine s_iast C (sh_82 hF1) o6 o7 (fun _ => by decide) (d_of DX10_tried 18 rfl) ?_
    obtain ⟨o8, h⟩ := h
    refine s_iinc (ls' := [(2, 41), (0, l1), (0, l2), (0, (l3 + 1)), (3, 0)]) C (d_of DX10_tried 19 rfl) (by decide) rfl o8 rfl rfl ?_
    refine s_goto C (d_of DX10_tried 20 rfl) rfl ?_
    exact h
set_option maxHeartbeats 4000000 in
set_option maxRecDepth 100000 in
theorem B_X10_tried_33 {G : GP} {X : BX} {P : Int → NS → MM → Prop} {l1 : Int} {l2 : Int} {l3 : Int} {w : NS} {M : MM} (C : CX_X10_tried G X) (h : ((((M 41 4) ≤ l3) → P l2 w M) ∧ ((¬ ((M 41 4) ≤ l3)) → ((((zand (zshr l1 l3) 1) ≠ 1) → (inR (l3 + 1)) ∧ A_X10_tried_33 G X P l1 l2 (l3 + 1) w M) ∧ ((¬ ((zand (zshr l1 l3) 1) ≠ 1)) → (0 ≤ l3) ∧ (l3 < 8) ∧ ((((M 80 l3) ≠ 4) → (0 ≤ (M 80 l3)) ∧ ((M 80 l3) < 5) ∧ (inR (2 * (M 80 l3))) ∧ (0 ≤ (2 * (M 80 l3))) ∧ ((2 * (M 80 l3)) < 8) ∧ (inR ((M 82 (M 80 l3)) - (M 78 (2 * (M 80 l3))))) ∧ (inR (10 * (M 80 l3))) ∧ (inR ((10 * (M 80 l3)) + (M 43 l3))) ∧ (0 ≤ ((10 * (M 80 l3)) + (M 43 l3))) ∧ (((10 * (M 80 l3)) + (M 43 l3)) < 40) ∧ (inR (l2 + (M 79 ((10 * (M 80 l3)) + (M 43 l3))))) ∧ (((0 ≤ ((M 82 (M 80 l3)) - (M 78 (2 * (M 80 l3))))) → (inR (l3 + 1)) ∧ A_X10_tried_33 G X P l1 (l2 + (M 79 ((10 * (M 80 l3)) + (M 43 l3)))) (l3 + 1) w (up M 82 (M 80 l3) ((M 82 (M 80 l3)) - (M 78 (2 * (M 80 l3)))))) ∧ ((¬ (0 ≤ ((M 82 (M 80 l3)) - (M 78 (2 * (M 80 l3)))))) → P 1000000 w (up M 82 (M 80 l3) ((M 82 (M 80 l3)) - (M 78 (2 * (M 80 l3)))))))) ∧ ((¬ ((M 80 l3) ≠ 4)) → (inR (l2 + (M 53 3))) ∧ (inR (l3 + 1)) ∧ A_X10_tried_33 G X P l1 (l2 + (M 53 3)) (l3 + 1) w M))))))) : A_X10_tried_33 G X P l1 l2 l3 w M := by
  unfold A_X10_tried_33
  refine s_iload_n C (d_of DX10_tried 23 rfl) rfl ?_
  refine s_aload_n C (d_of DX10_tried 24 rfl) rfl ?_
  refine WA.fix (fun hF1 => ?_)
  refine gf_X10_143 (v0 := (M 41 4)) C (sh_41 hF1) (d_of DX10_tried 25 rfl) rfl ?_
  refine s_icmpge C (d_of DX10_tried 26 rfl) rfl (fun hc => ?_) (fun hc => ?_)
  · have h := h.1 hc
    refine s_iload_n C (d_of DX10_tried 86 rfl) rfl ?_
    exact s_ireturn C (d_of DX10_tried 87 rfl) h
  · have h := h.2 hc
    refine s_iload_n C (d_of DX10_tried 27 rfl) rfl ?_
    refine s_iload_n C (d_of DX10_tried 28 rfl) rfl ?_
    refine s_ishr C (d_of DX10_tried 29 rfl) ?_
    refine s_iconst C (d_of DX10_tried 30 rfl) (by decide) ?_
    refine s_iand C (d_of DX10_tried 31 rfl) ?_
    refine s_iconst C (d_of DX10_tried 32 rfl) (by decide) ?_
    refine s_icmpne C (d_of DX10_tried 33 rfl) rfl (fun hc => ?_) (fun hc => ?_)
    · have h := h.1 hc
      obtain ⟨o2, h⟩ := h
      refine s_iinc (ls' := [(2, 41), (0, l1), (0, l2), (0, (l3 + 1)), (3, 0)]) C (d_of DX10_tried 84 rfl) (by decide) rfl o2 rfl rfl ?_
      refine s_goto C (d_of DX10_tried 85 rfl) rfl ?_
      exact h
    · have h := h.2 hc
      refine s_aload_n C (d_of DX10_tried 34 rfl) rfl ?_
      refine gf_X10_125 C (sh_41 hF1) (d_of DX10_tried 35 rfl) (fx_41_47 hF1) ?_
      refine s_iload_n C (d_of DX10_tried 36 rfl) rfl ?_
      obtain ⟨o3, h⟩ := h
      obtain ⟨o4, h⟩ := h
      refine s_iald (v0 := (M 80 l3)) C (sh_80 hF1) o3 o4 (d_of DX10_tried 37 rfl) rfl ?_
      refine s_istore (ls' := [(2, 41), (0, l1), (0, l2), (0, l3), (0, (M 80 l3))]) C (d_of DX10_tried 38 rfl) (by decide) rfl rfl ?_
      refine s_iload C (d_of DX10_tried 39 rfl) rfl ?_
      refine s_iconst C (d_of DX10_tried 40 rfl) (by decide) ?_
      refine s_icmpne C (d_of DX10_tried 41 rfl) rfl (fun hc => ?_) (fun hc => ?_)
      · have h := h.1 hc
        refine s_aload_n C (d_of DX10_tried 50 rfl) rfl ?_
        refine gf_X10_131 C (sh_41 hF1) (d_of DX10_tried 51 rfl) (fx_41_49 hF1) ?_
        refine s_iload C (d_of DX10_tried 52 rfl) rfl ?_
        refine s_dup2 C (by simp) (by simp) (d_of DX10_tried 53 rfl) ?_
        obtain ⟨o5, h⟩ := h
        obtain ⟨o6, h⟩ := h
        refine s_iald (v0 := (M 82 (M 80 l3))) C (sh_82 hF1) o5 o6 (d_of DX10_tried 54 rfl) rfl ?_
        refine s_aload_n C (d_of DX10_tried 55 rfl) rfl ?_
        refine gf_X10_119 C (sh_41 hF1) (d_of DX10_tried 56 rfl) (fx_41_45 hF1) ?_
        refine s_iconst C (d_of DX10_tried 57 rfl) (by decide) ?_
        refine s_iload C (d_of DX10_tried 58 rfl) rfl ?_
        obtain ⟨o7, h⟩ := h
        refine s_imul C (d_of DX10_tried 59 rfl) o7 ?_
        obtain ⟨o8, h⟩ := h
        obtain ⟨o9, h⟩ := h
        refine s_iald (v0 := (M 78 (2 * (M 80 l3)))) C (sh_78 hF1) o8 o9 (d_of DX10_tried 60 rfl) rfl ?_
        obtain ⟨o10, h⟩ := h
        refine s_isub C (d_of DX10_tried 61 rfl) o10 ?_
        refine s_iast C (sh_82 hF1) o5 o6 (fun _ => by decide) (d_of DX10_tried 62 rfl) ?_
        refine s_iload_n C (d_of DX10_tried 63 rfl) rfl ?_
        refine s_aload_n C (d_of DX10_tried 64 rfl) rfl ?_
        refine WA.fix (fun hF11 => ?_)
        refine gf_X10_122 C (sh_41 hF1) (d_of DX10_tried 65 rfl) (fx_41_46 hF11) ?_
        refine s_bipush C (d_of DX10_tried 66 rfl) ⟨rfl, by decide, by decide⟩ ?_
        refine s_iload C (d_of DX10_tried 67 rfl) rfl ?_
        obtain ⟨o12, h⟩ := h
        refine s_imul C (d_of DX10_tried 68 rfl) o12 ?_
        refine s_aload_n C (d_of DX10_tried 69 rfl) rfl ?_
        refine gf_X10_13 C (sh_41 hF1) (d_of DX10_tried 70 rfl) (fx_41_1 hF11) ?_
        refine s_iload_n C (d_of DX10_tried 71 rfl) rfl ?_
        refine s_iald (v0 := (M 43 l3)) C (sh_43 hF11) o3 o4 (d_of DX10_tried 72 rfl) (up_na (by decide)) ?_
        obtain ⟨o13, h⟩ := h
        refine s_iadd C (d_of DX10_tried 73 rfl) o13 ?_
        obtain ⟨o14, h⟩ := h
        obtain ⟨o15, h⟩ := h
        refine s_iald (v0 := (M 79 ((10 * (M 80 l3)) + (M 43 l3)))) C (sh_79 hF11) o14 o15 (d_of DX10_tried 74 rfl) (up_na (by decide)) ?_
        obtain ⟨o16, h⟩ := h
        refine s_iadd C (d_of DX10_tried 75 rfl) o16 ?_
        refine s_istore_n (ls' := [(2, 41), (0, l1), (0, (l2 + (M 79 ((10 * (M 80 l3)) + (M 43 l3))))), (0, l3), (0, (M 80 l3))]) C (d_of DX10_tried 76 rfl) (by decide) rfl rfl ?_
        refine s_aload_n C (d_of DX10_tried 77 rfl) rfl ?_
        refine gf_X10_131 C (sh_41 hF1) (d_of DX10_tried 78 rfl) (fx_41_49 hF11) ?_
        refine s_iload C (d_of DX10_tried 79 rfl) rfl ?_
        refine s_iald (v0 := ((M 82 (M 80 l3)) - (M 78 (2 * (M 80 l3))))) C (sh_82 hF1) o5 o6 (d_of DX10_tried 80 rfl) (up_eq) ?_
        refine s_ifge C (d_of DX10_tried 81 rfl) rfl (fun hc => ?_) (fun hc => ?_)
        · have h := h.1 hc
          obtain ⟨o17, h⟩ := h
          refine s_iinc (ls' := [(2, 41), (0, l1), (0, (l2 + (M 79 ((10 * (M 80 l3)) + (M 43 l3))))), (0, (l3 + 1)), (0, (M 80 l3))]) C (d_of DX10_tried 84 rfl) (by decide) rfl o17 rfl rfl ?_
          refine s_goto C (d_of DX10_tried 85 rfl) rfl ?_
          exact WA.wk h ⟨Or.inr rfl, Or.inr rfl, Or.inr rfl, Or.inr rfl, Or.inl rfl, trivial⟩
        · have h := h.2 hc
          refine s_ldcw (z := 1000000) C (d_of DX10_tried 82 rfl) (mG (wd_1191) rfl) ⟨rfl, by decide⟩ ?_
          exact s_ireturn C (d_of DX10_tried 83 rfl) h
      · have h := h.2 hc
        refine s_iload_n C (d_of DX10_tried 42 rfl) rfl ?_
        refine s_aload_n C (d_of DX10_tried 43 rfl) rfl ?_
        refine gf_X10_43 C (sh_41 hF1) (d_of DX10_tried 44 rfl) (fx_41_13 hF1) ?_
        refine s_iconst C (d_of DX10_tried 45 rfl) (by decide) ?_
        refine s_iald (v0 := (M 53 3)) C (sh_53 hF1) (by decide) (by decide) (d_of DX10_tried 46 rfl) rfl ?_
        obtain ⟨o18, h⟩ := h
        refine s_iadd C (d_of DX10_tried 47 rfl) o18 ?_
        refine s_istore_n (ls' := [(2, 41), (0, l1), (0, (l2 + (M 53 3))), (0, l3), (0, (M 80 l3))]) C (d_of DX10_tried 48 rfl) (by decide) rfl rfl ?_
        refine s_goto C (d_of DX10_tried 49 rfl) rfl ?_
        obtain ⟨o19, h⟩ := h
        refine s_iinc (ls' := [(2, 41), (0, l1), (0, (l2 + (M 53 3))), (0, (l3 + 1)), (0, (M 80 l3))]) C (d_of DX10_tried 84 rfl) (by decide) rfl o19 rfl rfl ?_
        refine s_goto C (d_of DX10_tried 85 rfl) rfl ?_
        exact WA.wk h ⟨Or.inr rfl, Or.inr rfl, Or.inr rfl, Or.inr rfl, Or.inl rfl, trivial⟩
theorem E_X10_tried {G : GP} {l : Launch} {P : Int → NS → MM → Prop} {l1 : Int} {w : NS} {M : MM} (h : inR l1 → ∀ X : BX, X.2.1 = l → CX_X10_tried G X → A_X10_tried_0 G X P l1 w M) : CT_X10_tried G l [(2, 41), (0, l1)] w M P :=
  CT.of RX10 "tried" (by decide +kernel) rfl rfl rfl (Nat.le_of_ble_eq_true rfl) (fun hr X hX C => h (hr (0, l1) (by simp)) X hX C)
def A_X10_nextReads_0 (G : GP) (X : BX) (P : Int → NS → MM → Prop) (l1 : Int) (w : NS) (M : MM) : Prop := WA true G X (QM G X true 0 P) 3 0 [(2, 41), (0, l1), (3, 0)] [] 0 0 w M
def A_X10_nextReads_7 (G : GP) (X : BX) (P : Int → NS → MM → Prop) (l1 : Int) (l2 : Int) (w : NS) (M : MM) : Prop := WA true G X (QM G X true 0 P) 3 7 [(2, 41), (0, l1), (0, l2)] [] 0 0 w M
set_option maxHeartbeats 4000000 in
set_option maxRecDepth 100000 in
theorem B_X10_nextReads_0 {G : GP} {X : BX} {P : Int → NS → MM → Prop} {l1 : Int} {w : NS} {M : MM} (C : CX_X10_nextReads G X) (h : (inR ((M 41 4) - 1)) ∧ A_X10_nextReads_7 G X P l1 ((M 41 4) - 1) w M) : A_X10_nextReads_0 G X P l1 w M := by
  unfold A_X10_nextReads_0
  refine s_aload_n C (d_of DX10_nextReads 0 rfl) rfl ?_
  refine WA.fix (fun hF1 => ?_)
  refine gf_X10_143 (v0 := (M 41 4)) C (sh_41 hF1) (d_of DX10_nextReads 1 rfl) rfl ?_
  refine s_iconst C (d_of DX10_nextReads 2 rfl) (by decide) ?_
  obtain ⟨o2, h⟩ := h
  refine s_isub C (d_of DX10_nextReads 3 rfl) o2 ?_
  refine s_istore_n (ls' := [(2, 41), (0, l1), (0, ((M 41 4) - 1))]) C (d_of DX10_nextReads 4 rfl) (by decide) rfl rfl ?_
  exact h
set_option maxHeartbeats 4000000 in
set_option maxRecDepth 100000 in
theorem B_X10_nextReads_7 {G : GP} {X : BX} {P : Int → NS → MM → Prop} {l1 : Int} {l2 : Int} {w : NS} {M : MM} (C : CX_X10_nextReads G X) (h : (((l2 < 0) → P 0 w M) ∧ ((¬ (l2 < 0)) → ((((zand (zshr l1 l2) 1) ≠ 1) → (inR (l2 + (-1))) ∧ A_X10_nextReads_7 G X P l1 (l2 + (-1)) w M) ∧ ((¬ ((zand (zshr l1 l2) 1) ≠ 1)) → (0 ≤ l2) ∧ (l2 < 8) ∧ (((4 ≤ (M 80 l2)) → (inR (l2 + (-1))) ∧ A_X10_nextReads_7 G X P l1 (l2 + (-1)) w (up M 80 l2 0)) ∧ ((¬ (4 ≤ (M 80 l2))) → (inR ((M 80 l2) + 1)) ∧ P 1 w (up M 80 l2 ((M 80 l2) + 1))))))))) : A_X10_nextReads_7 G X P l1 l2 w M := by
  unfold A_X10_nextReads_7
  refine s_iload_n C (d_of DX10_nextReads 5 rfl) rfl ?_
  refine s_iflt C (d_of DX10_nextReads 6 rfl) rfl (fun hc => ?_) (fun hc => ?_)
  · have h := h.1 hc
    refine s_iconst C (d_of DX10_nextReads 37 rfl) (by decide) ?_
    exact s_zreturn C (d_of DX10_nextReads 38 rfl) (by decide) h
  · have h := h.2 hc
    refine s_iload_n C (d_of DX10_nextReads 7 rfl) rfl ?_
    refine s_iload_n C (d_of DX10_nextReads 8 rfl) rfl ?_
    refine s_ishr C (d_of DX10_nextReads 9 rfl) ?_
    refine s_iconst C (d_of DX10_nextReads 10 rfl) (by decide) ?_
    refine s_iand C (d_of DX10_nextReads 11 rfl) ?_
    refine s_iconst C (d_of DX10_nextReads 12 rfl) (by decide) ?_
    refine s_icmpne C (d_of DX10_nextReads 13 rfl) rfl (fun hc => ?_) (fun hc => ?_)
    · have h := h.1 hc
      obtain ⟨o1, h⟩ := h
      refine s_iinc (ls' := [(2, 41), (0, l1), (0, (l2 + (-1)))]) C (d_of DX10_nextReads 35 rfl) (by decide) rfl o1 rfl rfl ?_
      refine s_goto C (d_of DX10_nextReads 36 rfl) rfl ?_
      exact h
    · have h := h.2 hc
      refine s_aload_n C (d_of DX10_nextReads 14 rfl) rfl ?_
      refine WA.fix (fun hF2 => ?_)
      refine gf_X10_125 C (sh_41 hF2) (d_of DX10_nextReads 15 rfl) (fx_41_47 hF2) ?_
      refine s_iload_n C (d_of DX10_nextReads 16 rfl) rfl ?_
      obtain ⟨o3, h⟩ := h
      obtain ⟨o4, h⟩ := h
      refine s_iald (v0 := (M 80 l2)) C (sh_80 hF2) o3 o4 (d_of DX10_nextReads 17 rfl) rfl ?_
      refine s_iconst C (d_of DX10_nextReads 18 rfl) (by decide) ?_
      refine s_icmpge C (d_of DX10_nextReads 19 rfl) rfl (fun hc => ?_) (fun hc => ?_)
      · have h := h.1 hc
        refine s_aload_n C (d_of DX10_nextReads 30 rfl) rfl ?_
        refine gf_X10_125 C (sh_41 hF2) (d_of DX10_nextReads 31 rfl) (fx_41_47 hF2) ?_
        refine s_iload_n C (d_of DX10_nextReads 32 rfl) rfl ?_
        refine s_iconst C (d_of DX10_nextReads 33 rfl) (by decide) ?_
        refine s_iast C (sh_80 hF2) o3 o4 (fun _ => by decide) (d_of DX10_nextReads 34 rfl) ?_
        obtain ⟨o5, h⟩ := h
        refine s_iinc (ls' := [(2, 41), (0, l1), (0, (l2 + (-1)))]) C (d_of DX10_nextReads 35 rfl) (by decide) rfl o5 rfl rfl ?_
        refine s_goto C (d_of DX10_nextReads 36 rfl) rfl ?_
        exact h
      · have h := h.2 hc
        refine s_aload_n C (d_of DX10_nextReads 20 rfl) rfl ?_
        refine gf_X10_125 C (sh_41 hF2) (d_of DX10_nextReads 21 rfl) (fx_41_47 hF2) ?_
        refine s_iload_n C (d_of DX10_nextReads 22 rfl) rfl ?_
        refine s_dup2 C (by simp) (by simp) (d_of DX10_nextReads 23 rfl) ?_
        refine s_iald (v0 := (M 80 l2)) C (sh_80 hF2) o3 o4 (d_of DX10_nextReads 24 rfl) rfl ?_
        refine s_iconst C (d_of DX10_nextReads 25 rfl) (by decide) ?_
        obtain ⟨o6, h⟩ := h
        refine s_iadd C (d_of DX10_nextReads 26 rfl) o6 ?_
        refine s_iast C (sh_80 hF2) o3 o4 (fun _ => by decide) (d_of DX10_nextReads 27 rfl) ?_
        refine s_iconst C (d_of DX10_nextReads 28 rfl) (by decide) ?_
        exact s_zreturn C (d_of DX10_nextReads 29 rfl) (by decide) h
theorem E_X10_nextReads {G : GP} {l : Launch} {P : Int → NS → MM → Prop} {l1 : Int} {w : NS} {M : MM} (h : inR l1 → ∀ X : BX, X.2.1 = l → CX_X10_nextReads G X → A_X10_nextReads_0 G X P l1 w M) : CT_X10_nextReads G l [(2, 41), (0, l1)] w M P :=
  CT.of RX10 "nextReads" (by decide +kernel) rfl rfl rfl (Nat.le_of_ble_eq_true rfl) (fun hr X hX C => h (hr (0, l1) (by simp)) X hX C)
def A_X10_parted_0 (G : GP) (X : BX) (P : Int → NS → MM → Prop) (l1 : Int) (l2 : Int) (w : NS) (M : MM) : Prop := WA true G X (QM G X true 0 P) 7 0 [(2, 41), (0, l1), (0, l2), (3, 0), (3, 0), (3, 0), (3, 0)] [] 0 0 w M
def A_X10_parted_23 (G : GP) (X : BX) (P : Int → NS → MM → Prop) (l1 : Int) (l2 : Int) (l3 : Int) (w : NS) (M : MM) : Prop := WA true G X (QM G X true 0 P) 7 23 [(2, 41), (0, l1), (0, l2), (0, l3), (3, 0), (3, 0), (3, 0)] [] 0 0 w M
def A_X10_parted_49 (G : GP) (X : BX) (P : Int → NS → MM → Prop) (l1 : Int) (l2 : Int) (l3 : Int) (l4 : Int) (w : NS) (M : MM) : Prop := WA true G X (QM G X true 0 P) 7 49 [(2, 41), (0, l1), (0, l2), (0, l3), (0, l4), (3, 0), (3, 0)] [] 0 0 w M
def A_X10_parted_73 (G : GP) (X : BX) (P : Int → NS → MM → Prop) (l1 : Int) (l2 : Int) (l3 : Int) (l6 : Int) (w : NS) (M : MM) : Prop := WA true G X (QM G X true 0 P) 7 73 [(2, 41), (0, l1), (0, l2), (0, l3), (3, 0), (3, 0), (0, l6)] [] 0 0 w M
set_option maxHeartbeats 4000000 in
set_option maxRecDepth 100000 in
theorem B_X10_parted_0 {G : GP} {X : BX} {P : Int → NS → MM → Prop} {l1 : Int} {l2 : Int} {w : NS} {M : MM} (C : CX_X10_parted G X) (h : (inR ((zshl 1 (M 41 4)) - 1)) ∧ ((((0 ≤ l1 ∧ l1 ≤ ((zshl 1 (M 41 4)) - 1))) → A_X10_parted_23 G X P l1 l2 0 w M) ∧ ((¬ (0 ≤ l1 ∧ l1 ≤ ((zshl 1 (M 41 4)) - 1))) → P (-2) w M))) : A_X10_parted_0 G X P l1 l2 w M := by
  unfold A_X10_parted_0
  refine s_iload_n C (d_of DX10_parted 0 rfl) rfl ?_
  refine s_i2l C (d_of DX10_parted 1 rfl) ?_
  refine s_lconst (z := 0) C (d_of DX10_parted 2 rfl) ⟨rfl, by decide⟩ ?_
  refine s_iconst C (d_of DX10_parted 3 rfl) (by decide) ?_
  refine s_aload_n C (d_of DX10_parted 4 rfl) rfl ?_
  refine WA.fix (fun hF1 => ?_)
  refine gf_X10_143 (v0 := (M 41 4)) C (sh_41 hF1) (d_of DX10_parted 5 rfl) rfl ?_
  refine s_ishl C (d_of DX10_parted 6 rfl) ?_
  refine s_iconst C (d_of DX10_parted 7 rfl) (by decide) ?_
  obtain ⟨o2, h⟩ := h
  refine s_isub C (d_of DX10_parted 8 rfl) o2 ?_
  refine s_i2l C (d_of DX10_parted 9 rfl) ?_
  refine s_callS (av := [(1, l1), (1, 0), (1, ((zshl 1 (M 41 4)) - 1))]) (rest := []) (mc := 0) (ms := 0) C (d_of DX10_parted 10 rfl) lk_X10_139 rfl rfl (Nat.le_of_ble_eq_true rfl) (by decide) (by decide) (pc_X10_in) (fun z3 wz3 Mz3 hq => ?_)
  obtain ⟨hq1, hq2, hq3⟩ := hq
  have hq2 := hq2.symm
  have hq3 := hq3.symm
  subst hq1 hq2 hq3
  refine s_ifne C (d_of DX10_parted 11 rfl) rfl (fun hc => ?_) (fun hc => ?_)
  · have h := h.1 (b2i_n0 hc)
    refine s_iconst C (d_of DX10_parted 14 rfl) (by decide) ?_
    refine s_istore_n (ls' := [(2, 41), (0, l1), (0, l2), (0, 0), (3, 0), (3, 0), (3, 0)]) C (d_of DX10_parted 15 rfl) (by decide) rfl rfl ?_
    exact h
  · have h := h.2 (b2i_nn hc)
    refine s_bipush C (d_of DX10_parted 12 rfl) ⟨rfl, by decide, by decide⟩ ?_
    exact s_ireturn C (d_of DX10_parted 13 rfl) h
set_option maxHeartbeats 4000000 in
set_option maxRecDepth 100000 in
theorem B_X10_parted_23 {G : GP} {X : BX} {P : Int → NS → MM → Prop} {l1 : Int} {l2 : Int} {l3 : Int} {w : NS} {M : MM} (C : CX_X10_parted G X) (h : (((8 ≤ l3) → A_X10_parted_49 G X P l1 l2 1000000 1 w M) ∧ ((¬ (8 ≤ l3)) → (0 ≤ l3) ∧ (l3 < 8) ∧ (inR (l3 + 1)) ∧ A_X10_parted_23 G X P l1 l2 (l3 + 1) w (up M 80 l3 0)))) : A_X10_parted_23 G X P l1 l2 l3 w M := by
  unfold A_X10_parted_23
  refine s_iload_n C (d_of DX10_parted 16 rfl) rfl ?_
  refine s_bipush C (d_of DX10_parted 17 rfl) ⟨rfl, by decide, by decide⟩ ?_
  refine s_icmpge C (d_of DX10_parted 18 rfl) rfl (fun hc => ?_) (fun hc => ?_)
  · have h := h.1 hc
    refine s_ldcw (z := 1000000) C (d_of DX10_parted 26 rfl) (mG (wd_1191) rfl) ⟨rfl, by decide⟩ ?_
    refine s_istore_n (ls' := [(2, 41), (0, l1), (0, l2), (0, 1000000), (3, 0), (3, 0), (3, 0)]) C (d_of DX10_parted 27 rfl) (by decide) rfl rfl ?_
    refine s_iconst C (d_of DX10_parted 28 rfl) (by decide) ?_
    refine s_istore (ls' := [(2, 41), (0, l1), (0, l2), (0, 1000000), (0, 1), (3, 0), (3, 0)]) C (d_of DX10_parted 29 rfl) (by decide) rfl rfl ?_
    exact h
  · have h := h.2 hc
    refine s_aload_n C (d_of DX10_parted 19 rfl) rfl ?_
    refine WA.fix (fun hF1 => ?_)
    refine gf_X10_125 C (sh_41 hF1) (d_of DX10_parted 20 rfl) (fx_41_47 hF1) ?_
    refine s_iload_n C (d_of DX10_parted 21 rfl) rfl ?_
    refine s_iconst C (d_of DX10_parted 22 rfl) (by decide) ?_
    obtain ⟨o2, h⟩ := h
    obtain ⟨o3, h⟩ := h
    refine s_iast C (sh_80 hF1) o2 o3 (fun _ => by decide) (d_of DX10_parted 23 rfl) ?_
    obtain ⟨o4, h⟩ := h
    refine s_iinc (ls' := [(2, 41), (0, l1), (0, l2), (0, (l3 + 1)), (3, 0), (3, 0), (3, 0)]) C (d_of DX10_parted 24 rfl) (by decide) rfl o4 rfl rfl ?_
    refine s_goto C (d_of DX10_parted 25 rfl) rfl ?_
    exact h
set_option maxHeartbeats 4000000 in
set_option maxRecDepth 100000 in
theorem B_X10_parted_49 {G : GP} {X : BX} {P : Int → NS → MM → Prop} {l1 : Int} {l2 : Int} {l3 : Int} {l4 : Int} {w : NS} {M : MM} (C : CX_X10_parted G X) (h : (((l4 = 0) → (((l2 ≠ (-1)) → (0 ≤ M 41 4) ∧ (((¬ (0 ≤ l2 ∧ l2 < M 41 4)) → P (-6) w M) ∧ (((0 ≤ l2 ∧ l2 < M 41 4)) → ((((zand (zshr l1 l2) 1) ≠ 1) → P (-6) w M) ∧ ((¬ ((zand (zshr l1 l2) 1) ≠ 1)) → (0 ≤ l2) ∧ (l2 < 8) ∧ P (M 81 l2) w M))))) ∧ ((¬ (l2 ≠ (-1))) → P l3 w M))) ∧ ((¬ (l4 = 0)) → ∃ Q7 : Int → NS → MM → Prop, CT_X10_tried G X.2.1 [(2, 41), (0, l1)] w M Q7 ∧ ∀ (z7 : Int) (w7 : NS) (M7 : MM), Q7 z7 w7 M7 → (((l3 ≤ z7) → ∃ Q9 : Int → NS → MM → Prop, CT_X10_nextReads G X.2.1 [(2, 41), (0, l1)] w7 M7 Q9 ∧ ∀ (z9 : Int) (w9 : NS) (M9 : MM), Q9 z9 w9 M9 → A_X10_parted_49 G X P l1 l2 l3 z9 w9 M9) ∧ ((¬ (l3 ≤ z7)) → A_X10_parted_73 G X P l1 l2 z7 0 w7 M7))))) : A_X10_parted_49 G X P l1 l2 l3 l4 w M := by
  unfold A_X10_parted_49
  refine s_iload C (d_of DX10_parted 30 rfl) rfl ?_
  refine s_ifeq C (d_of DX10_parted 31 rfl) rfl (fun hc => ?_) (fun hc => ?_)
  · have h := h.1 hc
    refine s_iload_n C (d_of DX10_parted 61 rfl) rfl ?_
    refine s_iconst C (d_of DX10_parted 62 rfl) (by decide) ?_
    refine s_icmpne C (d_of DX10_parted 63 rfl) rfl (fun hc => ?_) (fun hc => ?_)
    · have h := h.1 hc
      refine s_aload_n C (d_of DX10_parted 66 rfl) rfl ?_
      refine s_iload_n C (d_of DX10_parted 67 rfl) rfl ?_
      refine WA.fix (fun hF1 => ?_)
      obtain ⟨o2, h⟩ := h
      refine s_callV (ci := 10) (av := [(0, l2)]) (rest := []) (mc := 0) (ms := 0) C (d_of DX10_parted 68 rfl) lk_X10_156 (sh_41 hF1) (by decide) rfl rfl rfl (Nat.le_of_ble_eq_true rfl) (by decide) (by decide) (pc_X10_isPage o2) (fun z3 wz3 Mz3 hq => ?_)
      obtain ⟨hq1, hq2, hq3⟩ := hq
      have hq2 := hq2.symm
      have hq3 := hq3.symm
      subst hq1 hq2 hq3
      refine s_ifeq C (d_of DX10_parted 69 rfl) rfl (fun hc => ?_) (fun hc => ?_)
      · have h := h.1 (b2i_0.mp hc)
        refine s_bipush C (d_of DX10_parted 82 rfl) ⟨rfl, by decide, by decide⟩ ?_
        exact s_ireturn C (d_of DX10_parted 83 rfl) h
      · have h := h.2 (b2i_n0 hc)
        refine s_iload_n C (d_of DX10_parted 70 rfl) rfl ?_
        refine s_iload_n C (d_of DX10_parted 71 rfl) rfl ?_
        refine s_ishr C (d_of DX10_parted 72 rfl) ?_
        refine s_iconst C (d_of DX10_parted 73 rfl) (by decide) ?_
        refine s_iand C (d_of DX10_parted 74 rfl) ?_
        refine s_iconst C (d_of DX10_parted 75 rfl) (by decide) ?_
        refine s_icmpne C (d_of DX10_parted 76 rfl) rfl (fun hc => ?_) (fun hc => ?_)
        · have h := h.1 hc
          refine s_bipush C (d_of DX10_parted 82 rfl) ⟨rfl, by decide, by decide⟩ ?_
          exact s_ireturn C (d_of DX10_parted 83 rfl) h
        · have h := h.2 hc
          refine s_aload_n C (d_of DX10_parted 77 rfl) rfl ?_
          refine gf_X10_128 C (sh_41 hF1) (d_of DX10_parted 78 rfl) (fx_41_48 hF1) ?_
          refine s_iload_n C (d_of DX10_parted 79 rfl) rfl ?_
          obtain ⟨o4, h⟩ := h
          obtain ⟨o5, h⟩ := h
          refine s_iald (v0 := (M 81 l2)) C (sh_81 hF1) o4 o5 (d_of DX10_parted 80 rfl) rfl ?_
          refine s_goto C (d_of DX10_parted 81 rfl) rfl ?_
          exact s_ireturn C (d_of DX10_parted 83 rfl) h
    · have h := h.2 hc
      refine s_iload_n C (d_of DX10_parted 64 rfl) rfl ?_
      exact s_ireturn C (d_of DX10_parted 65 rfl) h
  · have h := h.2 hc
    refine s_aload_n C (d_of DX10_parted 32 rfl) rfl ?_
    refine s_iload_n C (d_of DX10_parted 33 rfl) rfl ?_
    refine WA.fix (fun hF6 => ?_)
    obtain ⟨Q7, hKQ7, h⟩ := h
    refine s_callV (ci := 10) (av := [(0, l1)]) (rest := []) (mc := 0) (ms := 0) C (d_of DX10_parted 34 rfl) lk_X10_333 (sh_41 hF6) (by decide) rfl rfl rfl (Nat.le_of_ble_eq_true rfl) (by decide) (by decide) hKQ7 (fun z7 w7 M7 hq => ?_)
    have h := h z7 w7 M7 hq
    refine s_istore (ls' := [(2, 41), (0, l1), (0, l2), (0, l3), (0, l4), (0, z7), (3, 0)]) C (d_of DX10_parted 35 rfl) (by decide) rfl rfl ?_
    refine s_iload C (d_of DX10_parted 36 rfl) rfl ?_
    refine s_iload_n C (d_of DX10_parted 37 rfl) rfl ?_
    refine s_icmpge C (d_of DX10_parted 38 rfl) rfl (fun hc => ?_) (fun hc => ?_)
    · have h := h.1 hc
      refine s_aload_n C (d_of DX10_parted 56 rfl) rfl ?_
      refine s_iload_n C (d_of DX10_parted 57 rfl) rfl ?_
      refine WA.fix (fun hF8 => ?_)
      obtain ⟨Q9, hKQ9, h⟩ := h
      refine s_callV (ci := 10) (av := [(0, l1)]) (rest := []) (mc := 0) (ms := 0) C (d_of DX10_parted 58 rfl) lk_X10_336 (sh_41 hF8) (by decide) rfl rfl rfl (Nat.le_of_ble_eq_true rfl) (by decide) (by decide) hKQ9 (fun z9 w9 M9 hq => ?_)
      have h := h z9 w9 M9 hq
      refine s_istore (ls' := [(2, 41), (0, l1), (0, l2), (0, l3), (0, z9), (0, z7), (3, 0)]) C (d_of DX10_parted 59 rfl) (by decide) rfl rfl ?_
      refine s_goto C (d_of DX10_parted 60 rfl) rfl ?_
      exact WA.wk h ⟨Or.inr rfl, Or.inr rfl, Or.inr rfl, Or.inr rfl, Or.inr rfl, Or.inl rfl, Or.inl rfl, trivial⟩
    · have h := h.2 hc
      refine s_iload C (d_of DX10_parted 39 rfl) rfl ?_
      refine s_istore_n (ls' := [(2, 41), (0, l1), (0, l2), (0, z7), (0, l4), (0, z7), (3, 0)]) C (d_of DX10_parted 40 rfl) (by decide) rfl rfl ?_
      refine s_iconst C (d_of DX10_parted 41 rfl) (by decide) ?_
      refine s_istore (ls' := [(2, 41), (0, l1), (0, l2), (0, z7), (0, l4), (0, z7), (0, 0)]) C (d_of DX10_parted 42 rfl) (by decide) rfl rfl ?_
      exact WA.wk h ⟨Or.inr rfl, Or.inr rfl, Or.inr rfl, Or.inr rfl, Or.inl rfl, Or.inl rfl, Or.inr rfl, trivial⟩
set_option maxHeartbeats 4000000 in
set_option maxRecDepth 100000 in
theorem B_X10_parted_73 {G : GP} {X : BX} {P : Int → NS → MM → Prop} {l1 : Int} {l2 : Int} {l3 : Int} {l6 : Int} {w : NS} {M : MM} (C : CX_X10_parted G X) (h : (((8 ≤ l6) → ∃ Q2 : Int → NS → MM → Prop, CT_X10_nextReads G X.2.1 [(2, 41), (0, l1)] w M Q2 ∧ ∀ (z2 : Int) (w2 : NS) (M2 : MM), Q2 z2 w2 M2 → A_X10_parted_49 G X P l1 l2 l3 z2 w2 M2) ∧ ((¬ (8 ≤ l6)) → (0 ≤ l6) ∧ (l6 < 8) ∧ (inR (l6 + 1)) ∧ A_X10_parted_73 G X P l1 l2 l3 (l6 + 1) w (up M 81 l6 (M 80 l6))))) : A_X10_parted_73 G X P l1 l2 l3 l6 w M := by
  unfold A_X10_parted_73
  refine s_iload C (d_of DX10_parted 43 rfl) rfl ?_
  refine s_bipush C (d_of DX10_parted 44 rfl) ⟨rfl, by decide, by decide⟩ ?_
  refine s_icmpge C (d_of DX10_parted 45 rfl) rfl (fun hc => ?_) (fun hc => ?_)
  · have h := h.1 hc
    refine s_aload_n C (d_of DX10_parted 56 rfl) rfl ?_
    refine s_iload_n C (d_of DX10_parted 57 rfl) rfl ?_
    refine WA.fix (fun hF1 => ?_)
    obtain ⟨Q2, hKQ2, h⟩ := h
    refine s_callV (ci := 10) (av := [(0, l1)]) (rest := []) (mc := 0) (ms := 0) C (d_of DX10_parted 58 rfl) lk_X10_336 (sh_41 hF1) (by decide) rfl rfl rfl (Nat.le_of_ble_eq_true rfl) (by decide) (by decide) hKQ2 (fun z2 w2 M2 hq => ?_)
    have h := h z2 w2 M2 hq
    refine s_istore (ls' := [(2, 41), (0, l1), (0, l2), (0, l3), (0, z2), (3, 0), (0, l6)]) C (d_of DX10_parted 59 rfl) (by decide) rfl rfl ?_
    refine s_goto C (d_of DX10_parted 60 rfl) rfl ?_
    exact WA.wk h ⟨Or.inr rfl, Or.inr rfl, Or.inr rfl, Or.inr rfl, Or.inr rfl, Or.inl rfl, Or.inl rfl, trivial⟩
  · have h := h.2 hc
    refine s_aload_n C (d_of DX10_parted 46 rfl) rfl ?_
    refine WA.fix (fun hF3 => ?_)
    refine gf_X10_128 C (sh_41 hF3) (d_of DX10_parted 47 rfl) (fx_41_48 hF3) ?_
    refine s_iload C (d_of DX10_parted 48 rfl) rfl ?_
    refine s_aload_n C (d_of DX10_parted 49 rfl) rfl ?_
    refine gf_X10_125 C (sh_41 hF3) (d_of DX10_parted 50 rfl) (fx_41_47 hF3) ?_
    refine s_iload C (d_of DX10_parted 51 rfl) rfl ?_
    obtain ⟨o4, h⟩ := h
    obtain ⟨o5, h⟩ := h
    refine s_iald (v0 := (M 80 l6)) C (sh_80 hF3) o4 o5 (d_of DX10_parted 52 rfl) rfl ?_
    refine s_iast C (sh_81 hF3) o4 o5 (fun _ => by decide) (d_of DX10_parted 53 rfl) ?_
    obtain ⟨o6, h⟩ := h
    refine s_iinc (ls' := [(2, 41), (0, l1), (0, l2), (0, l3), (3, 0), (3, 0), (0, (l6 + 1))]) C (d_of DX10_parted 54 rfl) (by decide) rfl o6 rfl rfl ?_
    refine s_goto C (d_of DX10_parted 55 rfl) rfl ?_
    exact h
theorem E_X10_parted {G : GP} {l : Launch} {P : Int → NS → MM → Prop} {l1 : Int} {l2 : Int} {w : NS} {M : MM} (h : inR l1 → inR l2 → ∀ X : BX, X.2.1 = l → CX_X10_parted G X → A_X10_parted_0 G X P l1 l2 w M) : CT_X10_parted G l [(2, 41), (0, l1), (0, l2)] w M P :=
  CT.of RX10 "parted" (by decide +kernel) rfl rfl rfl (Nat.le_of_ble_eq_true rfl) (fun hr X hX C => h (hr (0, l1) (by simp)) (hr (0, l2) (by simp)) X hX C)
def A_X10_isListed_0 (G : GP) (X : BX) (P : Int → NS → MM → Prop) (l1 : Int) (l2 : Int) (w : NS) (M : MM) : Prop := WA true G X (QM G X true 0 P) 5 0 [(2, 41), (0, l1), (0, l2), (3, 0), (3, 0)] [] 0 0 w M
def A_X10_isListed_21 (G : GP) (X : BX) (P : Int → NS → MM → Prop) (l2 : Int) (l3 : Int) (l4 : Int) (w : NS) (M : MM) : Prop := WA true G X (QM G X true 0 P) 5 21 [(2, 41), (3, 0), (0, l2), (0, l3), (0, l4)] [] 0 0 w M
set_option maxHeartbeats 4000000 in
set_option maxRecDepth 100000 in
theorem B_X10_isListed_0 {G : GP} {X : BX} {P : Int → NS → MM → Prop} {l1 : Int} {l2 : Int} {w : NS} {M : MM} (C : CX_X10_isListed G X) (h : (0 ≤ l2) ∧ (l2 < 24) ∧ (0 ≤ (M 46 l2)) ∧ ((M 46 l2) < 8) ∧ ∃ Q6 : Int → NS → MM → Prop, CT_X10_findList G X.2.1 [(2, 41), (0, l1), (0, (M 44 (M 46 l2)))] w M Q6 ∧ ∀ (z6 : Int) (w6 : NS) (M6 : MM), Q6 z6 w6 M6 → A_X10_isListed_21 G X P l2 0 0 w6 M6) : A_X10_isListed_0 G X P l1 l2 w M := by
  unfold A_X10_isListed_0
  refine s_aload_n C (d_of DX10_isListed 0 rfl) rfl ?_
  refine s_iload_n C (d_of DX10_isListed 1 rfl) rfl ?_
  refine s_aload_n C (d_of DX10_isListed 2 rfl) rfl ?_
  refine WA.fix (fun hF1 => ?_)
  refine gf_X10_16 C (sh_41 hF1) (d_of DX10_isListed 3 rfl) (fx_41_2 hF1) ?_
  refine s_aload_n C (d_of DX10_isListed 4 rfl) rfl ?_
  refine gf_X10_22 C (sh_41 hF1) (d_of DX10_isListed 5 rfl) (fx_41_5 hF1) ?_
  refine s_iload_n C (d_of DX10_isListed 6 rfl) rfl ?_
  obtain ⟨o2, h⟩ := h
  obtain ⟨o3, h⟩ := h
  refine s_iald (v0 := (M 46 l2)) C (sh_46 hF1) o2 o3 (d_of DX10_isListed 7 rfl) rfl ?_
  obtain ⟨o4, h⟩ := h
  obtain ⟨o5, h⟩ := h
  refine s_iald (v0 := (M 44 (M 46 l2))) C (sh_44 hF1) o4 o5 (d_of DX10_isListed 8 rfl) rfl ?_
  obtain ⟨Q6, hKQ6, h⟩ := h
  refine s_callV (ci := 10) (av := [(0, l1), (0, (M 44 (M 46 l2)))]) (rest := []) (mc := 0) (ms := 0) C (d_of DX10_isListed 9 rfl) lk_X10_289 (sh_41 hF1) (by decide) rfl rfl rfl (Nat.le_of_ble_eq_true rfl) (by decide) (by decide) hKQ6 (fun z6 w6 M6 hq => ?_)
  have h := h z6 w6 M6 hq
  refine s_iconst C (d_of DX10_isListed 10 rfl) (by decide) ?_
  refine s_istore_n (ls' := [(2, 41), (0, l1), (0, l2), (0, 0), (3, 0)]) C (d_of DX10_isListed 11 rfl) (by decide) rfl rfl ?_
  refine s_iconst C (d_of DX10_isListed 12 rfl) (by decide) ?_
  refine s_istore (ls' := [(2, 41), (0, l1), (0, l2), (0, 0), (0, 0)]) C (d_of DX10_isListed 13 rfl) (by decide) rfl rfl ?_
  exact WA.wk h ⟨Or.inr rfl, Or.inl rfl, Or.inr rfl, Or.inr rfl, Or.inr rfl, trivial⟩
set_option maxHeartbeats 4000000 in
set_option maxRecDepth 100000 in
theorem B_X10_isListed_21 {G : GP} {X : BX} {P : Int → NS → MM → Prop} {l2 : Int} {l3 : Int} {l4 : Int} {w : NS} {M : MM} (C : CX_X10_isListed G X) (h : ((((M 41 36) ≤ l4) → (l3 = 0 ∨ l3 = 1) ∧ P l3 w M) ∧ ((¬ ((M 41 36) ≤ l4)) → (((l3 ≠ 0) → (inR (l4 + 1)) ∧ A_X10_isListed_21 G X P l2 1 (l4 + 1) w M) ∧ ((¬ (l3 ≠ 0)) → (0 ≤ l4) ∧ (l4 < 24) ∧ ((((M 70 l4) ≠ l2) → (inR (l4 + 1)) ∧ A_X10_isListed_21 G X P l2 0 (l4 + 1) w M) ∧ ((¬ ((M 70 l4) ≠ l2)) → (inR (l4 + 1)) ∧ A_X10_isListed_21 G X P l2 1 (l4 + 1) w M))))))) : A_X10_isListed_21 G X P l2 l3 l4 w M := by
  unfold A_X10_isListed_21
  refine s_iload C (d_of DX10_isListed 14 rfl) rfl ?_
  refine s_aload_n C (d_of DX10_isListed 15 rfl) rfl ?_
  refine WA.fix (fun hF1 => ?_)
  refine gf_X10_283 (v0 := (M 41 36)) C (sh_41 hF1) (d_of DX10_isListed 16 rfl) rfl ?_
  refine s_icmpge C (d_of DX10_isListed 17 rfl) rfl (fun hc => ?_) (fun hc => ?_)
  · have h := h.1 hc
    refine s_iload_n C (d_of DX10_isListed 32 rfl) rfl ?_
    obtain ⟨o2, h⟩ := h
    exact s_zreturn C (d_of DX10_isListed 33 rfl) o2 h
  · have h := h.2 hc
    refine s_iload_n C (d_of DX10_isListed 18 rfl) rfl ?_
    refine s_ifne C (d_of DX10_isListed 19 rfl) rfl (fun hc => ?_) (fun hc => ?_)
    · have h := h.1 hc
      refine s_iconst C (d_of DX10_isListed 26 rfl) (by decide) ?_
      refine s_goto C (d_of DX10_isListed 27 rfl) rfl ?_
      refine s_istore_n (ls' := [(2, 41), (3, 0), (0, l2), (0, 1), (0, l4)]) C (d_of DX10_isListed 29 rfl) (by decide) rfl rfl ?_
      obtain ⟨o3, h⟩ := h
      refine s_iinc (ls' := [(2, 41), (3, 0), (0, l2), (0, 1), (0, (l4 + 1))]) C (d_of DX10_isListed 30 rfl) (by decide) rfl o3 rfl rfl ?_
      refine s_goto C (d_of DX10_isListed 31 rfl) rfl ?_
      exact h
    · have h := h.2 hc
      refine s_aload_n C (d_of DX10_isListed 20 rfl) rfl ?_
      refine gf_X10_95 C (sh_41 hF1) (d_of DX10_isListed 21 rfl) (fx_41_35 hF1) ?_
      refine s_iload C (d_of DX10_isListed 22 rfl) rfl ?_
      obtain ⟨o4, h⟩ := h
      obtain ⟨o5, h⟩ := h
      refine s_iald (v0 := (M 70 l4)) C (sh_70 hF1) o4 o5 (d_of DX10_isListed 23 rfl) rfl ?_
      refine s_iload_n C (d_of DX10_isListed 24 rfl) rfl ?_
      refine s_icmpne C (d_of DX10_isListed 25 rfl) rfl (fun hc => ?_) (fun hc => ?_)
      · have h := h.1 hc
        refine s_iconst C (d_of DX10_isListed 28 rfl) (by decide) ?_
        refine s_istore_n (ls' := [(2, 41), (3, 0), (0, l2), (0, 0), (0, l4)]) C (d_of DX10_isListed 29 rfl) (by decide) rfl rfl ?_
        obtain ⟨o6, h⟩ := h
        refine s_iinc (ls' := [(2, 41), (3, 0), (0, l2), (0, 0), (0, (l4 + 1))]) C (d_of DX10_isListed 30 rfl) (by decide) rfl o6 rfl rfl ?_
        refine s_goto C (d_of DX10_isListed 31 rfl) rfl ?_
        exact h
      · have h := h.2 hc
        refine s_iconst C (d_of DX10_isListed 26 rfl) (by decide) ?_
        refine s_goto C (d_of DX10_isListed 27 rfl) rfl ?_
        refine s_istore_n (ls' := [(2, 41), (3, 0), (0, l2), (0, 1), (0, l4)]) C (d_of DX10_isListed 29 rfl) (by decide) rfl rfl ?_
        obtain ⟨o7, h⟩ := h
        refine s_iinc (ls' := [(2, 41), (3, 0), (0, l2), (0, 1), (0, (l4 + 1))]) C (d_of DX10_isListed 30 rfl) (by decide) rfl o7 rfl rfl ?_
        refine s_goto C (d_of DX10_isListed 31 rfl) rfl ?_
        exact h
theorem E_X10_isListed {G : GP} {l : Launch} {P : Int → NS → MM → Prop} {l1 : Int} {l2 : Int} {w : NS} {M : MM} (h : inR l1 → inR l2 → ∀ X : BX, X.2.1 = l → CX_X10_isListed G X → A_X10_isListed_0 G X P l1 l2 w M) : CT_X10_isListed G l [(2, 41), (0, l1), (0, l2)] w M P :=
  CT.of RX10 "isListed" (by decide +kernel) rfl rfl rfl (Nat.le_of_ble_eq_true rfl) (fun hr X hX C => h (hr (0, l1) (by simp)) (hr (0, l2) (by simp)) X hX C)
def A_X10_send_0 (G : GP) (X : BX) (P : Int → NS → MM → Prop) (l1 : Int) (l2 : Int) (w : NS) (M : MM) : Prop := WA true G X (QM G X true 0 P) 3 0 [(2, 41), (0, l1), (0, l2)] [] 0 0 w M
set_option maxHeartbeats 4000000 in
set_option maxRecDepth 100000 in
theorem B_X10_send_0 {G : GP} {X : BX} {P : Int → NS → MM → Prop} {l1 : Int} {l2 : Int} {w : NS} {M : MM} (C : CX_X10_send G X) (h : (0 ≤ M 41 12) ∧ (((¬ (0 ≤ l1 ∧ l1 < M 41 12)) → P (-1) w M) ∧ (((0 ≤ l1 ∧ l1 < M 41 12)) → (0 ≤ M 41 26) ∧ ((((0 ≤ l2 ∧ l2 < M 41 26)) → ∃ Q6 : Int → NS → MM → Prop, CT_X10_isListed G X.2.1 [(2, 41), (0, l2), (0, l1)] w M Q6 ∧ ∀ (z6 : Int) (w6 : NS) (M6 : MM), Q6 z6 w6 M6 → (((z6 ≠ 0) → (0 ≤ l1) ∧ (l1 < 24) ∧ ((((zand (zshr (M6 52 l1) l2) 1) ≠ 1) → P 1 w6 (up M6 52 l1 (zor (M6 52 l1) (zshl 1 l2)))) ∧ ((¬ ((zand (zshr (M6 52 l1) l2) 1) ≠ 1)) → P (-5) w6 M6))) ∧ ((¬ (z6 ≠ 0)) → P (-3) w6 M6))) ∧ ((¬ (0 ≤ l2 ∧ l2 < M 41 26)) → P (-1) w M))))) : A_X10_send_0 G X P l1 l2 w M := by
  unfold A_X10_send_0
  refine s_aload_n C (d_of DX10_send 0 rfl) rfl ?_
  refine s_iload_n C (d_of DX10_send 1 rfl) rfl ?_
  refine WA.fix (fun hF1 => ?_)
  obtain ⟨o2, h⟩ := h
  refine s_callV (ci := 10) (av := [(0, l1)]) (rest := []) (mc := 0) (ms := 0) C (d_of DX10_send 2 rfl) lk_X10_186 (sh_41 hF1) (by decide) rfl rfl rfl (Nat.le_of_ble_eq_true rfl) (by decide) (by decide) (pc_X10_isPiece o2) (fun z3 wz3 Mz3 hq => ?_)
  obtain ⟨hq1, hq2, hq3⟩ := hq
  have hq2 := hq2.symm
  have hq3 := hq3.symm
  subst hq1 hq2 hq3
  refine s_ifeq C (d_of DX10_send 3 rfl) rfl (fun hc => ?_) (fun hc => ?_)
  · have h := h.1 (b2i_0.mp hc)
    refine s_iconst C (d_of DX10_send 8 rfl) (by decide) ?_
    exact s_ireturn C (d_of DX10_send 9 rfl) h
  · have h := h.2 (b2i_n0 hc)
    refine s_aload_n C (d_of DX10_send 4 rfl) rfl ?_
    refine s_iload_n C (d_of DX10_send 5 rfl) rfl ?_
    obtain ⟨o4, h⟩ := h
    refine s_callV (ci := 10) (av := [(0, l2)]) (rest := []) (mc := 0) (ms := 0) C (d_of DX10_send 6 rfl) lk_X10_252 (sh_41 hF1) (by decide) rfl rfl rfl (Nat.le_of_ble_eq_true rfl) (by decide) (by decide) (pc_X10_isOrder o4) (fun z5 wz5 Mz5 hq => ?_)
    obtain ⟨hq1, hq2, hq3⟩ := hq
    have hq2 := hq2.symm
    have hq3 := hq3.symm
    subst hq1 hq2 hq3
    refine s_ifne C (d_of DX10_send 7 rfl) rfl (fun hc => ?_) (fun hc => ?_)
    · have h := h.1 (b2i_n0 hc)
      refine s_aload_n C (d_of DX10_send 10 rfl) rfl ?_
      refine s_iload_n C (d_of DX10_send 11 rfl) rfl ?_
      refine s_iload_n C (d_of DX10_send 12 rfl) rfl ?_
      obtain ⟨Q6, hKQ6, h⟩ := h
      refine s_callV (ci := 10) (av := [(0, l2), (0, l1)]) (rest := []) (mc := 0) (ms := 0) C (d_of DX10_send 13 rfl) lk_X10_339 (sh_41 hF1) (by decide) rfl rfl rfl (Nat.le_of_ble_eq_true rfl) (by decide) (by decide) hKQ6 (fun z6 w6 M6 hq => ?_)
      have h := h z6 w6 M6 hq
      refine s_ifne C (d_of DX10_send 14 rfl) rfl (fun hc => ?_) (fun hc => ?_)
      · have h := h.1 hc
        refine s_aload_n C (d_of DX10_send 17 rfl) rfl ?_
        refine WA.fix (fun hF7 => ?_)
        refine gf_X10_40 C (sh_41 hF7) (d_of DX10_send 18 rfl) (fx_41_11 hF7) ?_
        refine s_iload_n C (d_of DX10_send 19 rfl) rfl ?_
        obtain ⟨o8, h⟩ := h
        obtain ⟨o9, h⟩ := h
        refine s_iald (v0 := (M6 52 l1)) C (sh_52 hF7) o8 o9 (d_of DX10_send 20 rfl) rfl ?_
        refine s_iload_n C (d_of DX10_send 21 rfl) rfl ?_
        refine s_ishr C (d_of DX10_send 22 rfl) ?_
        refine s_iconst C (d_of DX10_send 23 rfl) (by decide) ?_
        refine s_iand C (d_of DX10_send 24 rfl) ?_
        refine s_iconst C (d_of DX10_send 25 rfl) (by decide) ?_
        refine s_icmpne C (d_of DX10_send 26 rfl) rfl (fun hc => ?_) (fun hc => ?_)
        · have h := h.1 hc
          refine s_aload_n C (d_of DX10_send 29 rfl) rfl ?_
          refine gf_X10_40 C (sh_41 hF7) (d_of DX10_send 30 rfl) (fx_41_11 hF7) ?_
          refine s_iload_n C (d_of DX10_send 31 rfl) rfl ?_
          refine s_dup2 C (by simp) (by simp) (d_of DX10_send 32 rfl) ?_
          refine s_iald (v0 := (M6 52 l1)) C (sh_52 hF7) o8 o9 (d_of DX10_send 33 rfl) rfl ?_
          refine s_iconst C (d_of DX10_send 34 rfl) (by decide) ?_
          refine s_iload_n C (d_of DX10_send 35 rfl) rfl ?_
          refine s_ishl C (d_of DX10_send 36 rfl) ?_
          refine s_ior C (d_of DX10_send 37 rfl) ?_
          refine s_iast C (sh_52 hF7) o8 o9 (fun _ => by decide) (d_of DX10_send 38 rfl) ?_
          refine s_iconst C (d_of DX10_send 39 rfl) (by decide) ?_
          exact s_ireturn C (d_of DX10_send 40 rfl) h
        · have h := h.2 hc
          refine s_bipush C (d_of DX10_send 27 rfl) ⟨rfl, by decide, by decide⟩ ?_
          exact s_ireturn C (d_of DX10_send 28 rfl) h
      · have h := h.2 hc
        refine s_bipush C (d_of DX10_send 15 rfl) ⟨rfl, by decide, by decide⟩ ?_
        exact s_ireturn C (d_of DX10_send 16 rfl) h
    · have h := h.2 (b2i_nn hc)
      refine s_iconst C (d_of DX10_send 8 rfl) (by decide) ?_
      exact s_ireturn C (d_of DX10_send 9 rfl) h
theorem E_X10_send {G : GP} {l : Launch} {P : Int → NS → MM → Prop} {l1 : Int} {l2 : Int} {w : NS} {M : MM} (h : inR l1 → inR l2 → ∀ X : BX, X.2.1 = l → CX_X10_send G X → A_X10_send_0 G X P l1 l2 w M) : CT_X10_send G l [(2, 41), (0, l1), (0, l2)] w M P :=
  CT.of RX10 "send" (by decide +kernel) rfl rfl rfl (Nat.le_of_ble_eq_true rfl) (fun hr X hX C => h (hr (0, l1) (by simp)) (hr (0, l2) (by simp)) X hX C)
def A_X10_miss_0 (G : GP) (X : BX) (P : Int → NS → MM → Prop) (l1 : Int) (w : NS) (M : MM) : Prop := WA true G X (QM G X true 0 P) 2 0 [(2, 41), (0, l1)] [] 0 0 w M
set_option maxHeartbeats 4000000 in
set_option maxRecDepth 100000 in
theorem B_X10_miss_0 {G : GP} {X : BX} {P : Int → NS → MM → Prop} {l1 : Int} {w : NS} {M : MM} (C : CX_X10_miss G X) (h : ((((0 ≤ l1 ∧ l1 ≤ 5)) → (0 ≤ l1) ∧ (l1 < 6) ∧ (inR ((M 83 l1) + 1)) ∧ P ((M 83 l1) + 1) w (up M 83 l1 ((M 83 l1) + 1))) ∧ ((¬ (0 ≤ l1 ∧ l1 ≤ 5)) → P (-1) w M))) : A_X10_miss_0 G X P l1 w M := by
  unfold A_X10_miss_0
  refine s_iload_n C (d_of DX10_miss 0 rfl) rfl ?_
  refine s_i2l C (d_of DX10_miss 1 rfl) ?_
  refine s_lconst (z := 0) C (d_of DX10_miss 2 rfl) ⟨rfl, by decide⟩ ?_
  refine s_ldc2 (z := 5) C (d_of DX10_miss 3 rfl) (mG (wd_965) rfl) ⟨rfl, by decide⟩ ?_
  refine s_callS (av := [(1, l1), (1, 0), (1, 5)]) (rest := []) (mc := 0) (ms := 0) C (d_of DX10_miss 4 rfl) lk_X10_139 rfl rfl (Nat.le_of_ble_eq_true rfl) (by decide) (by decide) (pc_X10_in) (fun z1 wz1 Mz1 hq => ?_)
  obtain ⟨hq1, hq2, hq3⟩ := hq
  have hq2 := hq2.symm
  have hq3 := hq3.symm
  subst hq1 hq2 hq3
  refine s_ifne C (d_of DX10_miss 5 rfl) rfl (fun hc => ?_) (fun hc => ?_)
  · have h := h.1 (b2i_n0 hc)
    refine s_aload_n C (d_of DX10_miss 8 rfl) rfl ?_
    refine WA.fix (fun hF2 => ?_)
    refine gf_X10_134 C (sh_41 hF2) (d_of DX10_miss 9 rfl) (fx_41_50 hF2) ?_
    refine s_iload_n C (d_of DX10_miss 10 rfl) rfl ?_
    refine s_dup2 C (by simp) (by simp) (d_of DX10_miss 11 rfl) ?_
    obtain ⟨o3, h⟩ := h
    obtain ⟨o4, h⟩ := h
    refine s_iald (v0 := (M 83 l1)) C (sh_83 hF2) o3 o4 (d_of DX10_miss 12 rfl) rfl ?_
    refine s_iconst C (d_of DX10_miss 13 rfl) (by decide) ?_
    obtain ⟨o5, h⟩ := h
    refine s_iadd C (d_of DX10_miss 14 rfl) o5 ?_
    refine s_iast C (sh_83 hF2) o3 o4 (fun _ => by decide) (d_of DX10_miss 15 rfl) ?_
    refine s_aload_n C (d_of DX10_miss 16 rfl) rfl ?_
    refine WA.fix (fun hF6 => ?_)
    refine gf_X10_134 C (sh_41 hF2) (d_of DX10_miss 17 rfl) (fx_41_50 hF6) ?_
    refine s_iload_n C (d_of DX10_miss 18 rfl) rfl ?_
    refine s_iald (v0 := ((M 83 l1) + 1)) C (sh_83 hF2) o3 o4 (d_of DX10_miss 19 rfl) (up_eq) ?_
    exact s_ireturn C (d_of DX10_miss 20 rfl) h
  · have h := h.2 (b2i_nn hc)
    refine s_iconst C (d_of DX10_miss 6 rfl) (by decide) ?_
    exact s_ireturn C (d_of DX10_miss 7 rfl) h
theorem E_X10_miss {G : GP} {l : Launch} {P : Int → NS → MM → Prop} {l1 : Int} {w : NS} {M : MM} (h : inR l1 → ∀ X : BX, X.2.1 = l → CX_X10_miss G X → A_X10_miss_0 G X P l1 w M) : CT_X10_miss G l [(2, 41), (0, l1)] w M P :=
  CT.of RX10 "miss" (by decide +kernel) rfl rfl rfl (Nat.le_of_ble_eq_true rfl) (fun hr X hX C => h (hr (0, l1) (by simp)) X hX C)
def A_X10_sentTo_0 (G : GP) (X : BX) (P : Int → NS → MM → Prop) (l1 : Int) (w : NS) (M : MM) : Prop := WA true G X (QM G X true 0 P) 5 0 [(2, 41), (0, l1), (3, 0), (3, 0), (3, 0)] [] 0 0 w M
def A_X10_sentTo_4 (G : GP) (X : BX) (P : Int → NS → MM → Prop) (l1 : Int) (l2 : Int) (l3 : Int) (w : NS) (M : MM) : Prop := WA true G X (QM G X true 0 P) 5 4 [(2, 41), (0, l1), (0, l2), (0, l3), (3, 0)] [] 0 0 w M
def A_X10_sentTo_15 (G : GP) (X : BX) (P : Int → NS → MM → Prop) (l1 : Int) (l2 : Int) (l3 : Int) (l4 : Int) (w : NS) (M : MM) : Prop := WA true G X (QM G X true 0 P) 5 15 [(2, 41), (0, l1), (0, l2), (0, l3), (0, l4)] [] 0 0 w M
set_option maxHeartbeats 4000000 in
set_option maxRecDepth 100000 in
theorem B_X10_sentTo_0 {G : GP} {X : BX} {P : Int → NS → MM → Prop} {l1 : Int} {w : NS} {M : MM} (C : CX_X10_sentTo G X) (h : A_X10_sentTo_4 G X P l1 0 0 w M) : A_X10_sentTo_0 G X P l1 w M := by
  unfold A_X10_sentTo_0
  refine s_iconst C (d_of DX10_sentTo 0 rfl) (by decide) ?_
  refine s_istore_n (ls' := [(2, 41), (0, l1), (0, 0), (3, 0), (3, 0)]) C (d_of DX10_sentTo 1 rfl) (by decide) rfl rfl ?_
  refine s_iconst C (d_of DX10_sentTo 2 rfl) (by decide) ?_
  refine s_istore_n (ls' := [(2, 41), (0, l1), (0, 0), (0, 0), (3, 0)]) C (d_of DX10_sentTo 3 rfl) (by decide) rfl rfl ?_
  exact h
set_option maxHeartbeats 4000000 in
set_option maxRecDepth 100000 in
theorem B_X10_sentTo_4 {G : GP} {X : BX} {P : Int → NS → MM → Prop} {l1 : Int} {l2 : Int} {l3 : Int} {w : NS} {M : MM} (C : CX_X10_sentTo G X) (h : ((((M 41 12) ≤ l3) → P l2 w M) ∧ ((¬ ((M 41 12) ≤ l3)) → A_X10_sentTo_15 G X P l1 l2 l3 0 w M))) : A_X10_sentTo_4 G X P l1 l2 l3 w M := by
  unfold A_X10_sentTo_4
  refine s_iload_n C (d_of DX10_sentTo 4 rfl) rfl ?_
  refine s_aload_n C (d_of DX10_sentTo 5 rfl) rfl ?_
  refine WA.fix (fun hF1 => ?_)
  refine gf_X10_147 (v0 := (M 41 12)) C (sh_41 hF1) (d_of DX10_sentTo 6 rfl) rfl ?_
  refine s_icmpge C (d_of DX10_sentTo 7 rfl) rfl (fun hc => ?_) (fun hc => ?_)
  · have h := h.1 hc
    refine s_iload_n C (d_of DX10_sentTo 42 rfl) rfl ?_
    exact s_ireturn C (d_of DX10_sentTo 43 rfl) h
  · have h := h.2 hc
    refine s_iconst C (d_of DX10_sentTo 8 rfl) (by decide) ?_
    refine s_istore (ls' := [(2, 41), (0, l1), (0, l2), (0, l3), (0, 0)]) C (d_of DX10_sentTo 9 rfl) (by decide) rfl rfl ?_
    exact h
set_option maxHeartbeats 4000000 in
set_option maxRecDepth 100000 in
theorem B_X10_sentTo_15 {G : GP} {X : BX} {P : Int → NS → MM → Prop} {l1 : Int} {l2 : Int} {l3 : Int} {l4 : Int} {w : NS} {M : MM} (C : CX_X10_sentTo G X) (h : ((((M 41 26) ≤ l4) → (inR (l3 + 1)) ∧ A_X10_sentTo_4 G X P l1 l2 (l3 + 1) w M) ∧ ((¬ ((M 41 26) ≤ l4)) → (0 ≤ l3) ∧ (l3 < 24) ∧ ((((zand (zshr (M 52 l3) l4) 1) ≠ 1) → (inR (l2 + 0)) ∧ (inR (l4 + 1)) ∧ A_X10_sentTo_15 G X P l1 (l2 + 0) l3 (l4 + 1) w M) ∧ ((¬ ((zand (zshr (M 52 l3) l4) 1) ≠ 1)) → (((l1 < 0) → (inR (l2 + 1)) ∧ (inR (l4 + 1)) ∧ A_X10_sentTo_15 G X P l1 (l2 + 1) l3 (l4 + 1) w M) ∧ ((¬ (l1 < 0)) → (0 ≤ l4) ∧ (l4 < 10) ∧ ((((M 58 l4) ≠ l1) → (inR (l2 + 0)) ∧ (inR (l4 + 1)) ∧ A_X10_sentTo_15 G X P l1 (l2 + 0) l3 (l4 + 1) w M) ∧ ((¬ ((M 58 l4) ≠ l1)) → (inR (l2 + 1)) ∧ (inR (l4 + 1)) ∧ A_X10_sentTo_15 G X P l1 (l2 + 1) l3 (l4 + 1) w M))))))))) : A_X10_sentTo_15 G X P l1 l2 l3 l4 w M := by
  unfold A_X10_sentTo_15
  refine s_iload C (d_of DX10_sentTo 10 rfl) rfl ?_
  refine s_aload_n C (d_of DX10_sentTo 11 rfl) rfl ?_
  refine WA.fix (fun hF1 => ?_)
  refine gf_X10_220 (v0 := (M 41 26)) C (sh_41 hF1) (d_of DX10_sentTo 12 rfl) rfl ?_
  refine s_icmpge C (d_of DX10_sentTo 13 rfl) rfl (fun hc => ?_) (fun hc => ?_)
  · have h := h.1 hc
    obtain ⟨o2, h⟩ := h
    refine s_iinc (ls' := [(2, 41), (0, l1), (0, l2), (0, (l3 + 1)), (0, l4)]) C (d_of DX10_sentTo 40 rfl) (by decide) rfl o2 rfl rfl ?_
    refine s_goto C (d_of DX10_sentTo 41 rfl) rfl ?_
    exact WA.wk h ⟨Or.inr rfl, Or.inr rfl, Or.inr rfl, Or.inr rfl, Or.inl rfl, trivial⟩
  · have h := h.2 hc
    refine s_iload_n C (d_of DX10_sentTo 14 rfl) rfl ?_
    refine s_aload_n C (d_of DX10_sentTo 15 rfl) rfl ?_
    refine gf_X10_40 C (sh_41 hF1) (d_of DX10_sentTo 16 rfl) (fx_41_11 hF1) ?_
    refine s_iload_n C (d_of DX10_sentTo 17 rfl) rfl ?_
    obtain ⟨o3, h⟩ := h
    obtain ⟨o4, h⟩ := h
    refine s_iald (v0 := (M 52 l3)) C (sh_52 hF1) o3 o4 (d_of DX10_sentTo 18 rfl) rfl ?_
    refine s_iload C (d_of DX10_sentTo 19 rfl) rfl ?_
    refine s_ishr C (d_of DX10_sentTo 20 rfl) ?_
    refine s_iconst C (d_of DX10_sentTo 21 rfl) (by decide) ?_
    refine s_iand C (d_of DX10_sentTo 22 rfl) ?_
    refine s_iconst C (d_of DX10_sentTo 23 rfl) (by decide) ?_
    refine s_icmpne C (d_of DX10_sentTo 24 rfl) rfl (fun hc => ?_) (fun hc => ?_)
    · have h := h.1 hc
      refine s_iconst C (d_of DX10_sentTo 35 rfl) (by decide) ?_
      obtain ⟨o5, h⟩ := h
      refine s_iadd C (d_of DX10_sentTo 36 rfl) o5 ?_
      refine s_istore_n (ls' := [(2, 41), (0, l1), (0, (l2 + 0)), (0, l3), (0, l4)]) C (d_of DX10_sentTo 37 rfl) (by decide) rfl rfl ?_
      obtain ⟨o6, h⟩ := h
      refine s_iinc (ls' := [(2, 41), (0, l1), (0, (l2 + 0)), (0, l3), (0, (l4 + 1))]) C (d_of DX10_sentTo 38 rfl) (by decide) rfl o6 rfl rfl ?_
      refine s_goto C (d_of DX10_sentTo 39 rfl) rfl ?_
      exact h
    · have h := h.2 hc
      refine s_iload_n C (d_of DX10_sentTo 25 rfl) rfl ?_
      refine s_iflt C (d_of DX10_sentTo 26 rfl) rfl (fun hc => ?_) (fun hc => ?_)
      · have h := h.1 hc
        refine s_iconst C (d_of DX10_sentTo 33 rfl) (by decide) ?_
        refine s_goto C (d_of DX10_sentTo 34 rfl) rfl ?_
        obtain ⟨o7, h⟩ := h
        refine s_iadd C (d_of DX10_sentTo 36 rfl) o7 ?_
        refine s_istore_n (ls' := [(2, 41), (0, l1), (0, (l2 + 1)), (0, l3), (0, l4)]) C (d_of DX10_sentTo 37 rfl) (by decide) rfl rfl ?_
        obtain ⟨o8, h⟩ := h
        refine s_iinc (ls' := [(2, 41), (0, l1), (0, (l2 + 1)), (0, l3), (0, (l4 + 1))]) C (d_of DX10_sentTo 38 rfl) (by decide) rfl o8 rfl rfl ?_
        refine s_goto C (d_of DX10_sentTo 39 rfl) rfl ?_
        exact h
      · have h := h.2 hc
        refine s_aload_n C (d_of DX10_sentTo 27 rfl) rfl ?_
        refine gf_X10_58 C (sh_41 hF1) (d_of DX10_sentTo 28 rfl) (fx_41_20 hF1) ?_
        refine s_iload C (d_of DX10_sentTo 29 rfl) rfl ?_
        obtain ⟨o9, h⟩ := h
        obtain ⟨o10, h⟩ := h
        refine s_iald (v0 := (M 58 l4)) C (sh_58 hF1) o9 o10 (d_of DX10_sentTo 30 rfl) rfl ?_
        refine s_iload_n C (d_of DX10_sentTo 31 rfl) rfl ?_
        refine s_icmpne C (d_of DX10_sentTo 32 rfl) rfl (fun hc => ?_) (fun hc => ?_)
        · have h := h.1 hc
          refine s_iconst C (d_of DX10_sentTo 35 rfl) (by decide) ?_
          obtain ⟨o11, h⟩ := h
          refine s_iadd C (d_of DX10_sentTo 36 rfl) o11 ?_
          refine s_istore_n (ls' := [(2, 41), (0, l1), (0, (l2 + 0)), (0, l3), (0, l4)]) C (d_of DX10_sentTo 37 rfl) (by decide) rfl rfl ?_
          obtain ⟨o12, h⟩ := h
          refine s_iinc (ls' := [(2, 41), (0, l1), (0, (l2 + 0)), (0, l3), (0, (l4 + 1))]) C (d_of DX10_sentTo 38 rfl) (by decide) rfl o12 rfl rfl ?_
          refine s_goto C (d_of DX10_sentTo 39 rfl) rfl ?_
          exact h
        · have h := h.2 hc
          refine s_iconst C (d_of DX10_sentTo 33 rfl) (by decide) ?_
          refine s_goto C (d_of DX10_sentTo 34 rfl) rfl ?_
          obtain ⟨o13, h⟩ := h
          refine s_iadd C (d_of DX10_sentTo 36 rfl) o13 ?_
          refine s_istore_n (ls' := [(2, 41), (0, l1), (0, (l2 + 1)), (0, l3), (0, l4)]) C (d_of DX10_sentTo 37 rfl) (by decide) rfl rfl ?_
          obtain ⟨o14, h⟩ := h
          refine s_iinc (ls' := [(2, 41), (0, l1), (0, (l2 + 1)), (0, l3), (0, (l4 + 1))]) C (d_of DX10_sentTo 38 rfl) (by decide) rfl o14 rfl rfl ?_
          refine s_goto C (d_of DX10_sentTo 39 rfl) rfl ?_
          exact h
theorem E_X10_sentTo {G : GP} {l : Launch} {P : Int → NS → MM → Prop} {l1 : Int} {w : NS} {M : MM} (h : inR l1 → ∀ X : BX, X.2.1 = l → CX_X10_sentTo G X → A_X10_sentTo_0 G X P l1 w M) : CT_X10_sentTo G l [(2, 41), (0, l1)] w M P :=
  CT.of RX10 "sentTo" (by decide +kernel) rfl rfl rfl (Nat.le_of_ble_eq_true rfl) (fun hr X hX C => h (hr (0, l1) (by simp)) X hX C)
def A_X10_bill_0 (G : GP) (X : BX) (P : Int → NS → MM → Prop) (l1 : Int) (l2 : Int) (w : NS) (M : MM) : Prop := WA true G X (QM G X true 0 P) 8 0 [(2, 41), (0, l1), (0, l2), (3, 0), (3, 0), (3, 0), (3, 0), (3, 0)] [] 0 0 w M
set_option maxHeartbeats 4000000 in
set_option maxRecDepth 100000 in
theorem B_X10_bill_0 {G : GP} {X : BX} {P : Int → NS → MM → Prop} {l1 : Int} {l2 : Int} {w : NS} {M : MM} (C : CX_X10_bill G X) (h : ((((0 ≤ l1 ∧ l1 ≤ 5)) → ((((0 ≤ l2 ∧ l2 ≤ 1)) → ∃ Q4 : Int → NS → MM → Prop, CT_X10_sentTo G X.2.1 [(2, 41), (0, l1)] w M Q4 ∧ ∀ (z4 : Int) (w4 : NS) (M4 : MM), Q4 z4 w4 M4 → (((l2 ≠ 1) → ((((M4 53 4) ≤ z4) → (inR (z4 - (M4 53 4))) ∧ ((((M4 53 4) ≤ (z4 - (M4 53 4))) → (inR ((M4 53 4) * (M4 53 5))) ∧ (inR ((M4 53 4) * (M4 53 6))) ∧ (inR (((M4 53 4) * (M4 53 5)) + ((M4 53 4) * (M4 53 6)))) ∧ (inR ((z4 - (M4 53 4)) - (M4 53 4))) ∧ (inR (((z4 - (M4 53 4)) - (M4 53 4)) * (M4 53 7))) ∧ (inR ((((M4 53 4) * (M4 53 5)) + ((M4 53 4) * (M4 53 6))) + (((z4 - (M4 53 4)) - (M4 53 4)) * (M4 53 7)))) ∧ (0 ≤ l1) ∧ (l1 < 6) ∧ (inR ((M4 83 l1) * (M4 53 8))) ∧ (inR (((((M4 53 4) * (M4 53 5)) + ((M4 53 4) * (M4 53 6))) + (((z4 - (M4 53 4)) - (M4 53 4)) * (M4 53 7))) - ((M4 83 l1) * (M4 53 8)))) ∧ (((0 ≤ (((((M4 53 4) * (M4 53 5)) + ((M4 53 4) * (M4 53 6))) + (((z4 - (M4 53 4)) - (M4 53 4)) * (M4 53 7))) - ((M4 83 l1) * (M4 53 8)))) → P (((((M4 53 4) * (M4 53 5)) + ((M4 53 4) * (M4 53 6))) + (((z4 - (M4 53 4)) - (M4 53 4)) * (M4 53 7))) - ((M4 83 l1) * (M4 53 8))) w4 M4) ∧ ((¬ (0 ≤ (((((M4 53 4) * (M4 53 5)) + ((M4 53 4) * (M4 53 6))) + (((z4 - (M4 53 4)) - (M4 53 4)) * (M4 53 7))) - ((M4 83 l1) * (M4 53 8))))) → P 0 w4 M4))) ∧ ((¬ ((M4 53 4) ≤ (z4 - (M4 53 4)))) → (inR ((M4 53 4) * (M4 53 5))) ∧ (inR ((z4 - (M4 53 4)) * (M4 53 6))) ∧ (inR (((M4 53 4) * (M4 53 5)) + ((z4 - (M4 53 4)) * (M4 53 6)))) ∧ (inR ((z4 - (M4 53 4)) - (z4 - (M4 53 4)))) ∧ (inR (((z4 - (M4 53 4)) - (z4 - (M4 53 4))) * (M4 53 7))) ∧ (inR ((((M4 53 4) * (M4 53 5)) + ((z4 - (M4 53 4)) * (M4 53 6))) + (((z4 - (M4 53 4)) - (z4 - (M4 53 4))) * (M4 53 7)))) ∧ (0 ≤ l1) ∧ (l1 < 6) ∧ (inR ((M4 83 l1) * (M4 53 8))) ∧ (inR (((((M4 53 4) * (M4 53 5)) + ((z4 - (M4 53 4)) * (M4 53 6))) + (((z4 - (M4 53 4)) - (z4 - (M4 53 4))) * (M4 53 7))) - ((M4 83 l1) * (M4 53 8)))) ∧ (((0 ≤ (((((M4 53 4) * (M4 53 5)) + ((z4 - (M4 53 4)) * (M4 53 6))) + (((z4 - (M4 53 4)) - (z4 - (M4 53 4))) * (M4 53 7))) - ((M4 83 l1) * (M4 53 8)))) → P (((((M4 53 4) * (M4 53 5)) + ((z4 - (M4 53 4)) * (M4 53 6))) + (((z4 - (M4 53 4)) - (z4 - (M4 53 4))) * (M4 53 7))) - ((M4 83 l1) * (M4 53 8))) w4 M4) ∧ ((¬ (0 ≤ (((((M4 53 4) * (M4 53 5)) + ((z4 - (M4 53 4)) * (M4 53 6))) + (((z4 - (M4 53 4)) - (z4 - (M4 53 4))) * (M4 53 7))) - ((M4 83 l1) * (M4 53 8))))) → P 0 w4 M4))))) ∧ ((¬ ((M4 53 4) ≤ z4)) → (inR (z4 - z4)) ∧ ((((M4 53 4) ≤ (z4 - z4)) → (inR (z4 * (M4 53 5))) ∧ (inR ((M4 53 4) * (M4 53 6))) ∧ (inR ((z4 * (M4 53 5)) + ((M4 53 4) * (M4 53 6)))) ∧ (inR ((z4 - z4) - (M4 53 4))) ∧ (inR (((z4 - z4) - (M4 53 4)) * (M4 53 7))) ∧ (inR (((z4 * (M4 53 5)) + ((M4 53 4) * (M4 53 6))) + (((z4 - z4) - (M4 53 4)) * (M4 53 7)))) ∧ (0 ≤ l1) ∧ (l1 < 6) ∧ (inR ((M4 83 l1) * (M4 53 8))) ∧ (inR ((((z4 * (M4 53 5)) + ((M4 53 4) * (M4 53 6))) + (((z4 - z4) - (M4 53 4)) * (M4 53 7))) - ((M4 83 l1) * (M4 53 8)))) ∧ (((0 ≤ ((((z4 * (M4 53 5)) + ((M4 53 4) * (M4 53 6))) + (((z4 - z4) - (M4 53 4)) * (M4 53 7))) - ((M4 83 l1) * (M4 53 8)))) → P ((((z4 * (M4 53 5)) + ((M4 53 4) * (M4 53 6))) + (((z4 - z4) - (M4 53 4)) * (M4 53 7))) - ((M4 83 l1) * (M4 53 8))) w4 M4) ∧ ((¬ (0 ≤ ((((z4 * (M4 53 5)) + ((M4 53 4) * (M4 53 6))) + (((z4 - z4) - (M4 53 4)) * (M4 53 7))) - ((M4 83 l1) * (M4 53 8))))) → P 0 w4 M4))) ∧ ((¬ ((M4 53 4) ≤ (z4 - z4))) → (inR (z4 * (M4 53 5))) ∧ (inR ((z4 - z4) * (M4 53 6))) ∧ (inR ((z4 * (M4 53 5)) + ((z4 - z4) * (M4 53 6)))) ∧ (inR ((z4 - z4) - (z4 - z4))) ∧ (inR (((z4 - z4) - (z4 - z4)) * (M4 53 7))) ∧ (inR (((z4 * (M4 53 5)) + ((z4 - z4) * (M4 53 6))) + (((z4 - z4) - (z4 - z4)) * (M4 53 7)))) ∧ (0 ≤ l1) ∧ (l1 < 6) ∧ (inR ((M4 83 l1) * (M4 53 8))) ∧ (inR ((((z4 * (M4 53 5)) + ((z4 - z4) * (M4 53 6))) + (((z4 - z4) - (z4 - z4)) * (M4 53 7))) - ((M4 83 l1) * (M4 53 8)))) ∧ (((0 ≤ ((((z4 * (M4 53 5)) + ((z4 - z4) * (M4 53 6))) + (((z4 - z4) - (z4 - z4)) * (M4 53 7))) - ((M4 83 l1) * (M4 53 8)))) → P ((((z4 * (M4 53 5)) + ((z4 - z4) * (M4 53 6))) + (((z4 - z4) - (z4 - z4)) * (M4 53 7))) - ((M4 83 l1) * (M4 53 8))) w4 M4) ∧ ((¬ (0 ≤ ((((z4 * (M4 53 5)) + ((z4 - z4) * (M4 53 6))) + (((z4 - z4) - (z4 - z4)) * (M4 53 7))) - ((M4 83 l1) * (M4 53 8))))) → P 0 w4 M4))))))) ∧ ((¬ (l2 ≠ 1)) → P z4 w4 M4))) ∧ ((¬ (0 ≤ l2 ∧ l2 ≤ 1)) → P (-2) w M))) ∧ ((¬ (0 ≤ l1 ∧ l1 ≤ 5)) → P (-1) w M))) : A_X10_bill_0 G X P l1 l2 w M := by
  unfold A_X10_bill_0
  refine s_iload_n C (d_of DX10_bill 0 rfl) rfl ?_
  refine s_i2l C (d_of DX10_bill 1 rfl) ?_
  refine s_lconst (z := 0) C (d_of DX10_bill 2 rfl) ⟨rfl, by decide⟩ ?_
  refine s_ldc2 (z := 5) C (d_of DX10_bill 3 rfl) (mG (wd_965) rfl) ⟨rfl, by decide⟩ ?_
  refine s_callS (av := [(1, l1), (1, 0), (1, 5)]) (rest := []) (mc := 0) (ms := 0) C (d_of DX10_bill 4 rfl) lk_X10_139 rfl rfl (Nat.le_of_ble_eq_true rfl) (by decide) (by decide) (pc_X10_in) (fun z1 wz1 Mz1 hq => ?_)
  obtain ⟨hq1, hq2, hq3⟩ := hq
  have hq2 := hq2.symm
  have hq3 := hq3.symm
  subst hq1 hq2 hq3
  refine s_ifne C (d_of DX10_bill 5 rfl) rfl (fun hc => ?_) (fun hc => ?_)
  · have h := h.1 (b2i_n0 hc)
    refine s_iload_n C (d_of DX10_bill 8 rfl) rfl ?_
    refine s_i2l C (d_of DX10_bill 9 rfl) ?_
    refine s_lconst (z := 0) C (d_of DX10_bill 10 rfl) ⟨rfl, by decide⟩ ?_
    refine s_lconst (z := 1) C (d_of DX10_bill 11 rfl) ⟨rfl, by decide⟩ ?_
    refine s_callS (av := [(1, l2), (1, 0), (1, 1)]) (rest := []) (mc := 0) (ms := 0) C (d_of DX10_bill 12 rfl) lk_X10_139 rfl rfl (Nat.le_of_ble_eq_true rfl) (by decide) (by decide) (pc_X10_in) (fun z2 wz2 Mz2 hq => ?_)
    obtain ⟨hq1, hq2, hq3⟩ := hq
    have hq2 := hq2.symm
    have hq3 := hq3.symm
    subst hq1 hq2 hq3
    refine s_ifne C (d_of DX10_bill 13 rfl) rfl (fun hc => ?_) (fun hc => ?_)
    · have h := h.1 (b2i_n0 hc)
      refine s_aload_n C (d_of DX10_bill 16 rfl) rfl ?_
      refine s_iload_n C (d_of DX10_bill 17 rfl) rfl ?_
      refine WA.fix (fun hF3 => ?_)
      obtain ⟨Q4, hKQ4, h⟩ := h
      refine s_callV (ci := 10) (av := [(0, l1)]) (rest := []) (mc := 0) (ms := 0) C (d_of DX10_bill 18 rfl) lk_X10_342 (sh_41 hF3) (by decide) rfl rfl rfl (Nat.le_of_ble_eq_true rfl) (by decide) (by decide) hKQ4 (fun z4 w4 M4 hq => ?_)
      have h := h z4 w4 M4 hq
      refine s_istore_n (ls' := [(2, 41), (0, l1), (0, l2), (0, z4), (3, 0), (3, 0), (3, 0), (3, 0)]) C (d_of DX10_bill 19 rfl) (by decide) rfl rfl ?_
      refine s_iload_n C (d_of DX10_bill 20 rfl) rfl ?_
      refine s_iconst C (d_of DX10_bill 21 rfl) (by decide) ?_
      refine s_icmpne C (d_of DX10_bill 22 rfl) rfl (fun hc => ?_) (fun hc => ?_)
      · have h := h.1 hc
        refine s_aload_n C (d_of DX10_bill 25 rfl) rfl ?_
        refine WA.fix (fun hF5 => ?_)
        refine gf_X10_43 C (sh_41 hF5) (d_of DX10_bill 26 rfl) (fx_41_13 hF5) ?_
        refine s_iconst C (d_of DX10_bill 27 rfl) (by decide) ?_
        refine s_iald (v0 := (M4 53 4)) C (sh_53 hF5) (by decide) (by decide) (d_of DX10_bill 28 rfl) rfl ?_
        refine s_istore (ls' := [(2, 41), (0, l1), (0, l2), (0, z4), (0, (M4 53 4)), (3, 0), (3, 0), (3, 0)]) C (d_of DX10_bill 29 rfl) (by decide) rfl rfl ?_
        refine s_iload_n C (d_of DX10_bill 30 rfl) rfl ?_
        refine s_iload C (d_of DX10_bill 31 rfl) rfl ?_
        refine s_icmpge C (d_of DX10_bill 32 rfl) rfl (fun hc => ?_) (fun hc => ?_)
        · have h := h.1 hc
          refine s_iload C (d_of DX10_bill 35 rfl) rfl ?_
          refine s_istore (ls' := [(2, 41), (0, l1), (0, l2), (0, z4), (0, (M4 53 4)), (0, (M4 53 4)), (3, 0), (3, 0)]) C (d_of DX10_bill 36 rfl) (by decide) rfl rfl ?_
          refine s_iload_n C (d_of DX10_bill 37 rfl) rfl ?_
          refine s_iload C (d_of DX10_bill 38 rfl) rfl ?_
          obtain ⟨o6, h⟩ := h
          refine s_isub C (d_of DX10_bill 39 rfl) o6 ?_
          refine s_iload C (d_of DX10_bill 40 rfl) rfl ?_
          refine s_icmpge C (d_of DX10_bill 41 rfl) rfl (fun hc => ?_) (fun hc => ?_)
          · have h := h.1 hc
            refine s_iload C (d_of DX10_bill 46 rfl) rfl ?_
            refine s_istore (ls' := [(2, 41), (0, l1), (0, l2), (0, z4), (0, (M4 53 4)), (0, (M4 53 4)), (0, (M4 53 4)), (3, 0)]) C (d_of DX10_bill 47 rfl) (by decide) rfl rfl ?_
            refine s_iload C (d_of DX10_bill 48 rfl) rfl ?_
            refine s_aload_n C (d_of DX10_bill 49 rfl) rfl ?_
            refine gf_X10_43 C (sh_41 hF5) (d_of DX10_bill 50 rfl) (fx_41_13 hF5) ?_
            refine s_iconst C (d_of DX10_bill 51 rfl) (by decide) ?_
            refine s_iald (v0 := (M4 53 5)) C (sh_53 hF5) (by decide) (by decide) (d_of DX10_bill 52 rfl) rfl ?_
            obtain ⟨o7, h⟩ := h
            refine s_imul C (d_of DX10_bill 53 rfl) o7 ?_
            refine s_iload C (d_of DX10_bill 54 rfl) rfl ?_
            refine s_aload_n C (d_of DX10_bill 55 rfl) rfl ?_
            refine gf_X10_43 C (sh_41 hF5) (d_of DX10_bill 56 rfl) (fx_41_13 hF5) ?_
            refine s_bipush C (d_of DX10_bill 57 rfl) ⟨rfl, by decide, by decide⟩ ?_
            refine s_iald (v0 := (M4 53 6)) C (sh_53 hF5) (by decide) (by decide) (d_of DX10_bill 58 rfl) rfl ?_
            obtain ⟨o8, h⟩ := h
            refine s_imul C (d_of DX10_bill 59 rfl) o8 ?_
            obtain ⟨o9, h⟩ := h
            refine s_iadd C (d_of DX10_bill 60 rfl) o9 ?_
            refine s_iload_n C (d_of DX10_bill 61 rfl) rfl ?_
            refine s_iload C (d_of DX10_bill 62 rfl) rfl ?_
            refine s_isub C (d_of DX10_bill 63 rfl) o6 ?_
            refine s_iload C (d_of DX10_bill 64 rfl) rfl ?_
            obtain ⟨o10, h⟩ := h
            refine s_isub C (d_of DX10_bill 65 rfl) o10 ?_
            refine s_aload_n C (d_of DX10_bill 66 rfl) rfl ?_
            refine gf_X10_43 C (sh_41 hF5) (d_of DX10_bill 67 rfl) (fx_41_13 hF5) ?_
            refine s_bipush C (d_of DX10_bill 68 rfl) ⟨rfl, by decide, by decide⟩ ?_
            refine s_iald (v0 := (M4 53 7)) C (sh_53 hF5) (by decide) (by decide) (d_of DX10_bill 69 rfl) rfl ?_
            obtain ⟨o11, h⟩ := h
            refine s_imul C (d_of DX10_bill 70 rfl) o11 ?_
            obtain ⟨o12, h⟩ := h
            refine s_iadd C (d_of DX10_bill 71 rfl) o12 ?_
            refine s_aload_n C (d_of DX10_bill 72 rfl) rfl ?_
            refine gf_X10_134 C (sh_41 hF5) (d_of DX10_bill 73 rfl) (fx_41_50 hF5) ?_
            refine s_iload_n C (d_of DX10_bill 74 rfl) rfl ?_
            obtain ⟨o13, h⟩ := h
            obtain ⟨o14, h⟩ := h
            refine s_iald (v0 := (M4 83 l1)) C (sh_83 hF5) o13 o14 (d_of DX10_bill 75 rfl) rfl ?_
            refine s_aload_n C (d_of DX10_bill 76 rfl) rfl ?_
            refine gf_X10_43 C (sh_41 hF5) (d_of DX10_bill 77 rfl) (fx_41_13 hF5) ?_
            refine s_bipush C (d_of DX10_bill 78 rfl) ⟨rfl, by decide, by decide⟩ ?_
            refine s_iald (v0 := (M4 53 8)) C (sh_53 hF5) (by decide) (by decide) (d_of DX10_bill 79 rfl) rfl ?_
            obtain ⟨o15, h⟩ := h
            refine s_imul C (d_of DX10_bill 80 rfl) o15 ?_
            obtain ⟨o16, h⟩ := h
            refine s_isub C (d_of DX10_bill 81 rfl) o16 ?_
            refine s_istore (ls' := [(2, 41), (0, l1), (0, l2), (0, z4), (0, (M4 53 4)), (0, (M4 53 4)), (0, (M4 53 4)), (0, (((((M4 53 4) * (M4 53 5)) + ((M4 53 4) * (M4 53 6))) + (((z4 - (M4 53 4)) - (M4 53 4)) * (M4 53 7))) - ((M4 83 l1) * (M4 53 8))))]) C (d_of DX10_bill 82 rfl) (by decide) rfl rfl ?_
            refine s_iload C (d_of DX10_bill 83 rfl) rfl ?_
            refine s_ifge C (d_of DX10_bill 84 rfl) rfl (fun hc => ?_) (fun hc => ?_)
            · have h := h.1 hc
              refine s_iload C (d_of DX10_bill 87 rfl) rfl ?_
              exact s_ireturn C (d_of DX10_bill 88 rfl) h
            · have h := h.2 hc
              refine s_iconst C (d_of DX10_bill 85 rfl) (by decide) ?_
              refine s_goto C (d_of DX10_bill 86 rfl) rfl ?_
              exact s_ireturn C (d_of DX10_bill 88 rfl) h
          · have h := h.2 hc
            refine s_iload_n C (d_of DX10_bill 42 rfl) rfl ?_
            refine s_iload C (d_of DX10_bill 43 rfl) rfl ?_
            refine s_isub C (d_of DX10_bill 44 rfl) o6 ?_
            refine s_goto C (d_of DX10_bill 45 rfl) rfl ?_
            refine s_istore (ls' := [(2, 41), (0, l1), (0, l2), (0, z4), (0, (M4 53 4)), (0, (M4 53 4)), (0, (z4 - (M4 53 4))), (3, 0)]) C (d_of DX10_bill 47 rfl) (by decide) rfl rfl ?_
            refine s_iload C (d_of DX10_bill 48 rfl) rfl ?_
            refine s_aload_n C (d_of DX10_bill 49 rfl) rfl ?_
            refine gf_X10_43 C (sh_41 hF5) (d_of DX10_bill 50 rfl) (fx_41_13 hF5) ?_
            refine s_iconst C (d_of DX10_bill 51 rfl) (by decide) ?_
            refine s_iald (v0 := (M4 53 5)) C (sh_53 hF5) (by decide) (by decide) (d_of DX10_bill 52 rfl) rfl ?_
            obtain ⟨o17, h⟩ := h
            refine s_imul C (d_of DX10_bill 53 rfl) o17 ?_
            refine s_iload C (d_of DX10_bill 54 rfl) rfl ?_
            refine s_aload_n C (d_of DX10_bill 55 rfl) rfl ?_
            refine gf_X10_43 C (sh_41 hF5) (d_of DX10_bill 56 rfl) (fx_41_13 hF5) ?_
            refine s_bipush C (d_of DX10_bill 57 rfl) ⟨rfl, by decide, by decide⟩ ?_
            refine s_iald (v0 := (M4 53 6)) C (sh_53 hF5) (by decide) (by decide) (d_of DX10_bill 58 rfl) rfl ?_
            obtain ⟨o18, h⟩ := h
            refine s_imul C (d_of DX10_bill 59 rfl) o18 ?_
            obtain ⟨o19, h⟩ := h
            refine s_iadd C (d_of DX10_bill 60 rfl) o19 ?_
            refine s_iload_n C (d_of DX10_bill 61 rfl) rfl ?_
            refine s_iload C (d_of DX10_bill 62 rfl) rfl ?_
            refine s_isub C (d_of DX10_bill 63 rfl) o6 ?_
            refine s_iload C (d_of DX10_bill 64 rfl) rfl ?_
            obtain ⟨o20, h⟩ := h
            refine s_isub C (d_of DX10_bill 65 rfl) o20 ?_
            refine s_aload_n C (d_of DX10_bill 66 rfl) rfl ?_
            refine gf_X10_43 C (sh_41 hF5) (d_of DX10_bill 67 rfl) (fx_41_13 hF5) ?_
            refine s_bipush C (d_of DX10_bill 68 rfl) ⟨rfl, by decide, by decide⟩ ?_
            refine s_iald (v0 := (M4 53 7)) C (sh_53 hF5) (by decide) (by decide) (d_of DX10_bill 69 rfl) rfl ?_
            obtain ⟨o21, h⟩ := h
            refine s_imul C (d_of DX10_bill 70 rfl) o21 ?_
            obtain ⟨o22, h⟩ := h
            refine s_iadd C (d_of DX10_bill 71 rfl) o22 ?_
            refine s_aload_n C (d_of DX10_bill 72 rfl) rfl ?_
            refine gf_X10_134 C (sh_41 hF5) (d_of DX10_bill 73 rfl) (fx_41_50 hF5) ?_
            refine s_iload_n C (d_of DX10_bill 74 rfl) rfl ?_
            obtain ⟨o23, h⟩ := h
            obtain ⟨o24, h⟩ := h
            refine s_iald (v0 := (M4 83 l1)) C (sh_83 hF5) o23 o24 (d_of DX10_bill 75 rfl) rfl ?_
            refine s_aload_n C (d_of DX10_bill 76 rfl) rfl ?_
            refine gf_X10_43 C (sh_41 hF5) (d_of DX10_bill 77 rfl) (fx_41_13 hF5) ?_
            refine s_bipush C (d_of DX10_bill 78 rfl) ⟨rfl, by decide, by decide⟩ ?_
            refine s_iald (v0 := (M4 53 8)) C (sh_53 hF5) (by decide) (by decide) (d_of DX10_bill 79 rfl) rfl ?_
            obtain ⟨o25, h⟩ := h
            refine s_imul C (d_of DX10_bill 80 rfl) o25 ?_
            obtain ⟨o26, h⟩ := h
            refine s_isub C (d_of DX10_bill 81 rfl) o26 ?_
            refine s_istore (ls' := [(2, 41), (0, l1), (0, l2), (0, z4), (0, (M4 53 4)), (0, (M4 53 4)), (0, (z4 - (M4 53 4))), (0, (((((M4 53 4) * (M4 53 5)) + ((z4 - (M4 53 4)) * (M4 53 6))) + (((z4 - (M4 53 4)) - (z4 - (M4 53 4))) * (M4 53 7))) - ((M4 83 l1) * (M4 53 8))))]) C (d_of DX10_bill 82 rfl) (by decide) rfl rfl ?_
            refine s_iload C (d_of DX10_bill 83 rfl) rfl ?_
            refine s_ifge C (d_of DX10_bill 84 rfl) rfl (fun hc => ?_) (fun hc => ?_)
            · have h := h.1 hc
              refine s_iload C (d_of DX10_bill 87 rfl) rfl ?_
              exact s_ireturn C (d_of DX10_bill 88 rfl) h
            · have h := h.2 hc
              refine s_iconst C (d_of DX10_bill 85 rfl) (by decide) ?_
              refine s_goto C (d_of DX10_bill 86 rfl) rfl ?_
              exact s_ireturn C (d_of DX10_bill 88 rfl) h
        · have h := h.2 hc
          refine s_iload_n C (d_of DX10_bill 33 rfl) rfl ?_
          refine s_goto C (d_of DX10_bill 34 rfl) rfl ?_
          refine s_istore (ls' := [(2, 41), (0, l1), (0, l2), (0, z4), (0, (M4 53 4)), (0, z4), (3, 0), (3, 0)]) C (d_of DX10_bill 36 rfl) (by decide) rfl rfl ?_
          refine s_iload_n C (d_of DX10_bill 37 rfl) rfl ?_
          refine s_iload C (d_of DX10_bill 38 rfl) rfl ?_
          obtain ⟨o27, h⟩ := h
          refine s_isub C (d_of DX10_bill 39 rfl) o27 ?_
          refine s_iload C (d_of DX10_bill 40 rfl) rfl ?_
          refine s_icmpge C (d_of DX10_bill 41 rfl) rfl (fun hc => ?_) (fun hc => ?_)
          · have h := h.1 hc
            refine s_iload C (d_of DX10_bill 46 rfl) rfl ?_
            refine s_istore (ls' := [(2, 41), (0, l1), (0, l2), (0, z4), (0, (M4 53 4)), (0, z4), (0, (M4 53 4)), (3, 0)]) C (d_of DX10_bill 47 rfl) (by decide) rfl rfl ?_
            refine s_iload C (d_of DX10_bill 48 rfl) rfl ?_
            refine s_aload_n C (d_of DX10_bill 49 rfl) rfl ?_
            refine gf_X10_43 C (sh_41 hF5) (d_of DX10_bill 50 rfl) (fx_41_13 hF5) ?_
            refine s_iconst C (d_of DX10_bill 51 rfl) (by decide) ?_
            refine s_iald (v0 := (M4 53 5)) C (sh_53 hF5) (by decide) (by decide) (d_of DX10_bill 52 rfl) rfl ?_
            obtain ⟨o28, h⟩ := h
            refine s_imul C (d_of DX10_bill 53 rfl) o28 ?_
            refine s_iload C (d_of DX10_bill 54 rfl) rfl ?_
            refine s_aload_n C (d_of DX10_bill 55 rfl) rfl ?_
            refine gf_X10_43 C (sh_41 hF5) (d_of DX10_bill 56 rfl) (fx_41_13 hF5) ?_
            refine s_bipush C (d_of DX10_bill 57 rfl) ⟨rfl, by decide, by decide⟩ ?_
            refine s_iald (v0 := (M4 53 6)) C (sh_53 hF5) (by decide) (by decide) (d_of DX10_bill 58 rfl) rfl ?_
            obtain ⟨o29, h⟩ := h
            refine s_imul C (d_of DX10_bill 59 rfl) o29 ?_
            obtain ⟨o30, h⟩ := h
            refine s_iadd C (d_of DX10_bill 60 rfl) o30 ?_
            refine s_iload_n C (d_of DX10_bill 61 rfl) rfl ?_
            refine s_iload C (d_of DX10_bill 62 rfl) rfl ?_
            refine s_isub C (d_of DX10_bill 63 rfl) o27 ?_
            refine s_iload C (d_of DX10_bill 64 rfl) rfl ?_
            obtain ⟨o31, h⟩ := h
            refine s_isub C (d_of DX10_bill 65 rfl) o31 ?_
            refine s_aload_n C (d_of DX10_bill 66 rfl) rfl ?_
            refine gf_X10_43 C (sh_41 hF5) (d_of DX10_bill 67 rfl) (fx_41_13 hF5) ?_
            refine s_bipush C (d_of DX10_bill 68 rfl) ⟨rfl, by decide, by decide⟩ ?_
            refine s_iald (v0 := (M4 53 7)) C (sh_53 hF5) (by decide) (by decide) (d_of DX10_bill 69 rfl) rfl ?_
            obtain ⟨o32, h⟩ := h
            refine s_imul C (d_of DX10_bill 70 rfl) o32 ?_
            obtain ⟨o33, h⟩ := h
            refine s_iadd C (d_of DX10_bill 71 rfl) o33 ?_
            refine s_aload_n C (d_of DX10_bill 72 rfl) rfl ?_
            refine gf_X10_134 C (sh_41 hF5) (d_of DX10_bill 73 rfl) (fx_41_50 hF5) ?_
            refine s_iload_n C (d_of DX10_bill 74 rfl) rfl ?_
            obtain ⟨o34, h⟩ := h
            obtain ⟨o35, h⟩ := h
            refine s_iald (v0 := (M4 83 l1)) C (sh_83 hF5) o34 o35 (d_of DX10_bill 75 rfl) rfl ?_
            refine s_aload_n C (d_of DX10_bill 76 rfl) rfl ?_
            refine gf_X10_43 C (sh_41 hF5) (d_of DX10_bill 77 rfl) (fx_41_13 hF5) ?_
            refine s_bipush C (d_of DX10_bill 78 rfl) ⟨rfl, by decide, by decide⟩ ?_
            refine s_iald (v0 := (M4 53 8)) C (sh_53 hF5) (by decide) (by decide) (d_of DX10_bill 79 rfl) rfl ?_
            obtain ⟨o36, h⟩ := h
            refine s_imul C (d_of DX10_bill 80 rfl) o36 ?_
            obtain ⟨o37, h⟩ := h
            refine s_isub C (d_of DX10_bill 81 rfl) o37 ?_
            refine s_istore (ls' := [(2, 41), (0, l1), (0, l2), (0, z4), (0, (M4 53 4)), (0, z4), (0, (M4 53 4)), (0, ((((z4 * (M4 53 5)) + ((M4 53 4) * (M4 53 6))) + (((z4 - z4) - (M4 53 4)) * (M4 53 7))) - ((M4 83 l1) * (M4 53 8))))]) C (d_of DX10_bill 82 rfl) (by decide) rfl rfl ?_
            refine s_iload C (d_of DX10_bill 83 rfl) rfl ?_
            refine s_ifge C (d_of DX10_bill 84 rfl) rfl (fun hc => ?_) (fun hc => ?_)
            · have h := h.1 hc
              refine s_iload C (d_of DX10_bill 87 rfl) rfl ?_
              exact s_ireturn C (d_of DX10_bill 88 rfl) h
            · have h := h.2 hc
              refine s_iconst C (d_of DX10_bill 85 rfl) (by decide) ?_
              refine s_goto C (d_of DX10_bill 86 rfl) rfl ?_
              exact s_ireturn C (d_of DX10_bill 88 rfl) h
          · have h := h.2 hc
            refine s_iload_n C (d_of DX10_bill 42 rfl) rfl ?_
            refine s_iload C (d_of DX10_bill 43 rfl) rfl ?_
            refine s_isub C (d_of DX10_bill 44 rfl) o27 ?_
            refine s_goto C (d_of DX10_bill 45 rfl) rfl ?_
            refine s_istore (ls' := [(2, 41), (0, l1), (0, l2), (0, z4), (0, (M4 53 4)), (0, z4), (0, (z4 - z4)), (3, 0)]) C (d_of DX10_bill 47 rfl) (by decide) rfl rfl ?_
            refine s_iload C (d_of DX10_bill 48 rfl) rfl ?_
            refine s_aload_n C (d_of DX10_bill 49 rfl) rfl ?_
            refine gf_X10_43 C (sh_41 hF5) (d_of DX10_bill 50 rfl) (fx_41_13 hF5) ?_
            refine s_iconst C (d_of DX10_bill 51 rfl) (by decide) ?_
            refine s_iald (v0 := (M4 53 5)) C (sh_53 hF5) (by decide) (by decide) (d_of DX10_bill 52 rfl) rfl ?_
            obtain ⟨o38, h⟩ := h
            refine s_imul C (d_of DX10_bill 53 rfl) o38 ?_
            refine s_iload C (d_of DX10_bill 54 rfl) rfl ?_
            refine s_aload_n C (d_of DX10_bill 55 rfl) rfl ?_
            refine gf_X10_43 C (sh_41 hF5) (d_of DX10_bill 56 rfl) (fx_41_13 hF5) ?_
            refine s_bipush C (d_of DX10_bill 57 rfl) ⟨rfl, by decide, by decide⟩ ?_
            refine s_iald (v0 := (M4 53 6)) C (sh_53 hF5) (by decide) (by decide) (d_of DX10_bill 58 rfl) rfl ?_
            obtain ⟨o39, h⟩ := h
            refine s_imul C (d_of DX10_bill 59 rfl) o39 ?_
            obtain ⟨o40, h⟩ := h
            refine s_iadd C (d_of DX10_bill 60 rfl) o40 ?_
            refine s_iload_n C (d_of DX10_bill 61 rfl) rfl ?_
            refine s_iload C (d_of DX10_bill 62 rfl) rfl ?_
            refine s_isub C (d_of DX10_bill 63 rfl) o27 ?_
            refine s_iload C (d_of DX10_bill 64 rfl) rfl ?_
            obtain ⟨o41, h⟩ := h
            refine s_isub C (d_of DX10_bill 65 rfl) o41 ?_
            refine s_aload_n C (d_of DX10_bill 66 rfl) rfl ?_
            refine gf_X10_43 C (sh_41 hF5) (d_of DX10_bill 67 rfl) (fx_41_13 hF5) ?_
            refine s_bipush C (d_of DX10_bill 68 rfl) ⟨rfl, by decide, by decide⟩ ?_
            refine s_iald (v0 := (M4 53 7)) C (sh_53 hF5) (by decide) (by decide) (d_of DX10_bill 69 rfl) rfl ?_
            obtain ⟨o42, h⟩ := h
            refine s_imul C (d_of DX10_bill 70 rfl) o42 ?_
            obtain ⟨o43, h⟩ := h
            refine s_iadd C (d_of DX10_bill 71 rfl) o43 ?_
            refine s_aload_n C (d_of DX10_bill 72 rfl) rfl ?_
            refine gf_X10_134 C (sh_41 hF5) (d_of DX10_bill 73 rfl) (fx_41_50 hF5) ?_
            refine s_iload_n C (d_of DX10_bill 74 rfl) rfl ?_
            obtain ⟨o44, h⟩ := h
            obtain ⟨o45, h⟩ := h
            refine s_iald (v0 := (M4 83 l1)) C (sh_83 hF5) o44 o45 (d_of DX10_bill 75 rfl) rfl ?_
            refine s_aload_n C (d_of DX10_bill 76 rfl) rfl ?_
            refine gf_X10_43 C (sh_41 hF5) (d_of DX10_bill 77 rfl) (fx_41_13 hF5) ?_
            refine s_bipush C (d_of DX10_bill 78 rfl) ⟨rfl, by decide, by decide⟩ ?_
            refine s_iald (v0 := (M4 53 8)) C (sh_53 hF5) (by decide) (by decide) (d_of DX10_bill 79 rfl) rfl ?_
            obtain ⟨o46, h⟩ := h
            refine s_imul C (d_of DX10_bill 80 rfl) o46 ?_
            obtain ⟨o47, h⟩ := h
            refine s_isub C (d_of DX10_bill 81 rfl) o47 ?_
            refine s_istore (ls' := [(2, 41), (0, l1), (0, l2), (0, z4), (0, (M4 53 4)), (0, z4), (0, (z4 - z4)), (0, ((((z4 * (M4 53 5)) + ((z4 - z4) * (M4 53 6))) + (((z4 - z4) - (z4 - z4)) * (M4 53 7))) - ((M4 83 l1) * (M4 53 8))))]) C (d_of DX10_bill 82 rfl) (by decide) rfl rfl ?_
            refine s_iload C (d_of DX10_bill 83 rfl) rfl ?_
            refine s_ifge C (d_of DX10_bill 84 rfl) rfl (fun hc => ?_) (fun hc => ?_)
            · have h := h.1 hc
              refine s_iload C (d_of DX10_bill 87 rfl) rfl ?_
              exact s_ireturn C (d_of DX10_bill 88 rfl) h
            · have h := h.2 hc
              refine s_iconst C (d_of DX10_bill 85 rfl) (by decide) ?_
              refine s_goto C (d_of DX10_bill 86 rfl) rfl ?_
              exact s_ireturn C (d_of DX10_bill 88 rfl) h
      · have h := h.2 hc
        refine s_iload_n C (d_of DX10_bill 23 rfl) rfl ?_
        exact s_ireturn C (d_of DX10_bill 24 rfl) h
    · have h := h.2 (b2i_nn hc)
      refine s_bipush C (d_of DX10_bill 14 rfl) ⟨rfl, by decide, by decide⟩ ?_
      exact s_ireturn C (d_of DX10_bill 15 rfl) h
  · have h := h.2 (b2i_nn hc)
    refine s_iconst C (d_of DX10_bill 6 rfl) (by decide) ?_
    exact s_ireturn C (d_of DX10_bill 7 rfl) h
theorem E_X10_bill {G : GP} {l : Launch} {P : Int → NS → MM → Prop} {l1 : Int} {l2 : Int} {w : NS} {M : MM} (h : inR l1 → inR l2 → ∀ X : BX, X.2.1 = l → CX_X10_bill G X → A_X10_bill_0 G X P l1 l2 w M) : CT_X10_bill G l [(2, 41), (0, l1), (0, l2)] w M P :=
  CT.of RX10 "bill" (by decide +kernel) rfl rfl rfl (Nat.le_of_ble_eq_true rfl) (fun hr X hX C => h (hr (0, l1) (by simp)) (hr (0, l2) (by simp)) X hX C)
def A_X10_file_0 (G : GP) (X : BX) (P : Int → NS → MM → Prop) (l1 : Int) (l2 : Int) (w : NS) (M : MM) : Prop := WA true G X (QM G X true 0 P) 4 0 [(2, 41), (0, l1), (0, l2), (3, 0)] [] 0 0 w M
set_option maxHeartbeats 4000000 in
set_option maxRecDepth 100000 in
theorem B_X10_file_0 {G : GP} {X : BX} {P : Int → NS → MM → Prop} {l1 : Int} {l2 : Int} {w : NS} {M : MM} (C : CX_X10_file G X) (h : (0 ≤ M 41 12) ∧ ((((0 ≤ l1 ∧ l1 < M 41 12)) → ((((0 ≤ l2 ∧ l2 ≤ 15)) → (0 ≤ l1) ∧ (l1 < 24) ∧ P (M 51 l1) w (up M 51 l1 l2)) ∧ ((¬ (0 ≤ l2 ∧ l2 ≤ 15)) → P (-2) w M))) ∧ ((¬ (0 ≤ l1 ∧ l1 < M 41 12)) → P (-1) w M))) : A_X10_file_0 G X P l1 l2 w M := by
  unfold A_X10_file_0
  refine s_aload_n C (d_of DX10_file 0 rfl) rfl ?_
  refine s_iload_n C (d_of DX10_file 1 rfl) rfl ?_
  refine WA.fix (fun hF1 => ?_)
  obtain ⟨o2, h⟩ := h
  refine s_callV (ci := 10) (av := [(0, l1)]) (rest := []) (mc := 0) (ms := 0) C (d_of DX10_file 2 rfl) lk_X10_186 (sh_41 hF1) (by decide) rfl rfl rfl (Nat.le_of_ble_eq_true rfl) (by decide) (by decide) (pc_X10_isPiece o2) (fun z3 wz3 Mz3 hq => ?_)
  obtain ⟨hq1, hq2, hq3⟩ := hq
  have hq2 := hq2.symm
  have hq3 := hq3.symm
  subst hq1 hq2 hq3
  refine s_ifne C (d_of DX10_file 3 rfl) rfl (fun hc => ?_) (fun hc => ?_)
  · have h := h.1 (b2i_n0 hc)
    refine s_iload_n C (d_of DX10_file 6 rfl) rfl ?_
    refine s_i2l C (d_of DX10_file 7 rfl) ?_
    refine s_lconst (z := 0) C (d_of DX10_file 8 rfl) ⟨rfl, by decide⟩ ?_
    refine s_ldc2 (z := 15) C (d_of DX10_file 9 rfl) (mG (wd_1224) rfl) ⟨rfl, by decide⟩ ?_
    refine s_callS (av := [(1, l2), (1, 0), (1, 15)]) (rest := []) (mc := 0) (ms := 0) C (d_of DX10_file 10 rfl) lk_X10_139 rfl rfl (Nat.le_of_ble_eq_true rfl) (by decide) (by decide) (pc_X10_in) (fun z4 wz4 Mz4 hq => ?_)
    obtain ⟨hq1, hq2, hq3⟩ := hq
    have hq2 := hq2.symm
    have hq3 := hq3.symm
    subst hq1 hq2 hq3
    refine s_ifne C (d_of DX10_file 11 rfl) rfl (fun hc => ?_) (fun hc => ?_)
    · have h := h.1 (b2i_n0 hc)
      refine s_aload_n C (d_of DX10_file 14 rfl) rfl ?_
      refine gf_X10_37 C (sh_41 hF1) (d_of DX10_file 15 rfl) (fx_41_10 hF1) ?_
      refine s_iload_n C (d_of DX10_file 16 rfl) rfl ?_
      obtain ⟨o5, h⟩ := h
      obtain ⟨o6, h⟩ := h
      refine s_iald (v0 := (M 51 l1)) C (sh_51 hF1) o5 o6 (d_of DX10_file 17 rfl) rfl ?_
      refine s_istore_n (ls' := [(2, 41), (0, l1), (0, l2), (0, (M 51 l1))]) C (d_of DX10_file 18 rfl) (by decide) rfl rfl ?_
      refine s_aload_n C (d_of DX10_file 19 rfl) rfl ?_
      refine gf_X10_37 C (sh_41 hF1) (d_of DX10_file 20 rfl) (fx_41_10 hF1) ?_
      refine s_iload_n C (d_of DX10_file 21 rfl) rfl ?_
      refine s_iload_n C (d_of DX10_file 22 rfl) rfl ?_
      refine s_iast C (sh_51 hF1) o5 o6 (fun _ => by decide) (d_of DX10_file 23 rfl) ?_
      refine s_iload_n C (d_of DX10_file 24 rfl) rfl ?_
      exact s_ireturn C (d_of DX10_file 25 rfl) h
    · have h := h.2 (b2i_nn hc)
      refine s_bipush C (d_of DX10_file 12 rfl) ⟨rfl, by decide, by decide⟩ ?_
      exact s_ireturn C (d_of DX10_file 13 rfl) h
  · have h := h.2 (b2i_nn hc)
    refine s_iconst C (d_of DX10_file 4 rfl) (by decide) ?_
    exact s_ireturn C (d_of DX10_file 5 rfl) h
theorem E_X10_file {G : GP} {l : Launch} {P : Int → NS → MM → Prop} {l1 : Int} {l2 : Int} {w : NS} {M : MM} (h : inR l1 → inR l2 → ∀ X : BX, X.2.1 = l → CX_X10_file G X → A_X10_file_0 G X P l1 l2 w M) : CT_X10_file G l [(2, 41), (0, l1), (0, l2)] w M P :=
  CT.of RX10 "file" (by decide +kernel) rfl rfl rfl (Nat.le_of_ble_eq_true rfl) (fun hr X hX C => h (hr (0, l1) (by simp)) (hr (0, l2) (by simp)) X hX C)
def A_X10_isOld_0 (G : GP) (X : BX) (P : Int → NS → MM → Prop) (l1 : Int) (l2 : Int) (l3 : Int) (l4 : Int) (w : NS) (M : MM) : Prop := WA true G X (QM G X true 0 P) 5 0 [(2, 41), (0, l1), (0, l2), (0, l3), (0, l4)] [] 0 0 w M
set_option maxHeartbeats 4000000 in
set_option maxRecDepth 100000 in
theorem B_X10_isOld_0 {G : GP} {X : BX} {P : Int → NS → MM → Prop} {l1 : Int} {l2 : Int} {l3 : Int} {l4 : Int} {w : NS} {M : MM} (C : CX_X10_isOld G X) (h : (0 ≤ l1) ∧ (l1 < 24) ∧ ((((zand (zshr (M 51 l1) l2) 1) ≠ 1) → P 0 w M) ∧ ((¬ ((zand (zshr (M 51 l1) l2) 1) ≠ 1)) → (0 ≤ (M 46 l1)) ∧ ((M 46 l1) < 8) ∧ (((¬ (l3 ≤ (M 44 (M 46 l1)) ∧ (M 44 (M 46 l1)) ≤ l4)) → P 0 w M) ∧ (((l3 ≤ (M 44 (M 46 l1)) ∧ (M 44 (M 46 l1)) ≤ l4)) → P 1 w M))))) : A_X10_isOld_0 G X P l1 l2 l3 l4 w M := by
  unfold A_X10_isOld_0
  refine s_aload_n C (d_of DX10_isOld 0 rfl) rfl ?_
  refine WA.fix (fun hF1 => ?_)
  refine gf_X10_37 C (sh_41 hF1) (d_of DX10_isOld 1 rfl) (fx_41_10 hF1) ?_
  refine s_iload_n C (d_of DX10_isOld 2 rfl) rfl ?_
  obtain ⟨o2, h⟩ := h
  obtain ⟨o3, h⟩ := h
  refine s_iald (v0 := (M 51 l1)) C (sh_51 hF1) o2 o3 (d_of DX10_isOld 3 rfl) rfl ?_
  refine s_iload_n C (d_of DX10_isOld 4 rfl) rfl ?_
  refine s_ishr C (d_of DX10_isOld 5 rfl) ?_
  refine s_iconst C (d_of DX10_isOld 6 rfl) (by decide) ?_
  refine s_iand C (d_of DX10_isOld 7 rfl) ?_
  refine s_iconst C (d_of DX10_isOld 8 rfl) (by decide) ?_
  refine s_icmpne C (d_of DX10_isOld 9 rfl) rfl (fun hc => ?_) (fun hc => ?_)
  · have h := h.1 hc
    refine s_iconst C (d_of DX10_isOld 26 rfl) (by decide) ?_
    exact s_zreturn C (d_of DX10_isOld 27 rfl) (by decide) h
  · have h := h.2 hc
    refine s_aload_n C (d_of DX10_isOld 10 rfl) rfl ?_
    refine gf_X10_16 C (sh_41 hF1) (d_of DX10_isOld 11 rfl) (fx_41_2 hF1) ?_
    refine s_aload_n C (d_of DX10_isOld 12 rfl) rfl ?_
    refine gf_X10_22 C (sh_41 hF1) (d_of DX10_isOld 13 rfl) (fx_41_5 hF1) ?_
    refine s_iload_n C (d_of DX10_isOld 14 rfl) rfl ?_
    refine s_iald (v0 := (M 46 l1)) C (sh_46 hF1) o2 o3 (d_of DX10_isOld 15 rfl) rfl ?_
    obtain ⟨o4, h⟩ := h
    obtain ⟨o5, h⟩ := h
    refine s_iald (v0 := (M 44 (M 46 l1))) C (sh_44 hF1) o4 o5 (d_of DX10_isOld 16 rfl) rfl ?_
    refine s_i2l C (d_of DX10_isOld 17 rfl) ?_
    refine s_iload_n C (d_of DX10_isOld 18 rfl) rfl ?_
    refine s_i2l C (d_of DX10_isOld 19 rfl) ?_
    refine s_iload C (d_of DX10_isOld 20 rfl) rfl ?_
    refine s_i2l C (d_of DX10_isOld 21 rfl) ?_
    refine s_callS (av := [(1, (M 44 (M 46 l1))), (1, l3), (1, l4)]) (rest := []) (mc := 0) (ms := 0) C (d_of DX10_isOld 22 rfl) lk_X10_139 rfl rfl (Nat.le_of_ble_eq_true rfl) (by decide) (by decide) (pc_X10_in) (fun z6 wz6 Mz6 hq => ?_)
    obtain ⟨hq1, hq2, hq3⟩ := hq
    have hq2 := hq2.symm
    have hq3 := hq3.symm
    subst hq1 hq2 hq3
    refine s_ifeq C (d_of DX10_isOld 23 rfl) rfl (fun hc => ?_) (fun hc => ?_)
    · have h := h.1 (b2i_0.mp hc)
      refine s_iconst C (d_of DX10_isOld 26 rfl) (by decide) ?_
      exact s_zreturn C (d_of DX10_isOld 27 rfl) (by decide) h
    · have h := h.2 (b2i_n0 hc)
      refine s_iconst C (d_of DX10_isOld 24 rfl) (by decide) ?_
      refine s_goto C (d_of DX10_isOld 25 rfl) rfl ?_
      exact s_zreturn C (d_of DX10_isOld 27 rfl) (by decide) h
theorem E_X10_isOld {G : GP} {l : Launch} {P : Int → NS → MM → Prop} {l1 : Int} {l2 : Int} {l3 : Int} {l4 : Int} {w : NS} {M : MM} (h : inR l1 → inR l2 → inR l3 → inR l4 → ∀ X : BX, X.2.1 = l → CX_X10_isOld G X → A_X10_isOld_0 G X P l1 l2 l3 l4 w M) : CT_X10_isOld G l [(2, 41), (0, l1), (0, l2), (0, l3), (0, l4)] w M P :=
  CT.of RX10 "isOld" (by decide +kernel) rfl rfl rfl (Nat.le_of_ble_eq_true rfl) (fun hr X hX C => h (hr (0, l1) (by simp)) (hr (0, l2) (by simp)) (hr (0, l3) (by simp)) (hr (0, l4) (by simp)) X hX C)
def A_X10_old_0 (G : GP) (X : BX) (P : Int → NS → MM → Prop) (l1 : Int) (l2 : Int) (l3 : Int) (l4 : Int) (w : NS) (M : MM) : Prop := WA true G X (QM G X true 0 P) 9 0 [(2, 41), (0, l1), (0, l2), (0, l3), (0, l4), (3, 0), (3, 0), (3, 0), (3, 0)] [] 0 0 w M
def A_X10_old_32 (G : GP) (X : BX) (P : Int → NS → MM → Prop) (l1 : Int) (l2 : Int) (l3 : Int) (l4 : Int) (l5 : Int) (l6 : Int) (w : NS) (M : MM) : Prop := WA true G X (QM G X true 0 P) 9 32 [(2, 41), (0, l1), (0, l2), (0, l3), (0, l4), (0, l5), (0, l6), (3, 0), (3, 0)] [] 0 0 w M
def A_X10_old_81 (G : GP) (X : BX) (P : Int → NS → MM → Prop) (l1 : Int) (l2 : Int) (l3 : Int) (l4 : Int) (l6 : Int) (w : NS) (M : MM) : Prop := WA true G X (QM G X true 0 P) 9 81 [(2, 41), (0, l1), (0, l2), (0, l3), (0, l4), (3, 0), (0, l6), (3, 0), (3, 0)] [] 0 0 w M
def A_X10_old_96 (G : GP) (X : BX) (P : Int → NS → MM → Prop) (l1 : Int) (l2 : Int) (l3 : Int) (l4 : Int) (l6 : Int) (l7 : Int) (l8 : Int) (w : NS) (M : MM) : Prop := WA true G X (QM G X true 0 P) 9 96 [(2, 41), (0, l1), (0, l2), (0, l3), (0, l4), (3, 0), (0, l6), (0, l7), (0, l8)] [] 0 0 w M
set_option maxHeartbeats 4000000 in
set_option maxRecDepth 100000 in
theorem B_X10_old_0 {G : GP} {X : BX} {P : Int → NS → MM → Prop} {l1 : Int} {l2 : Int} {l3 : Int} {l4 : Int} {w : NS} {M : MM} (C : CX_X10_old G X) (h : ((((0 ≤ l1 ∧ l1 ≤ 3)) → (((¬ (0 ≤ l2 ∧ l2 ≤ 99)) → P (-2) w M) ∧ (((0 ≤ l2 ∧ l2 ≤ 99)) → ((((0 ≤ l3 ∧ l3 ≤ 99)) → A_X10_old_32 G X P l1 l2 l3 l4 0 0 w M) ∧ ((¬ (0 ≤ l3 ∧ l3 ≤ 99)) → P (-2) w M))))) ∧ ((¬ (0 ≤ l1 ∧ l1 ≤ 3)) → P (-1) w M))) : A_X10_old_0 G X P l1 l2 l3 l4 w M := by
  unfold A_X10_old_0
  refine s_iload_n C (d_of DX10_old 0 rfl) rfl ?_
  refine s_callS (av := [(0, l1)]) (rest := []) (mc := 0) (ms := 0) C (d_of DX10_old 1 rfl) lk_X10_294 rfl rfl (Nat.le_of_ble_eq_true rfl) (by decide) (by decide) (pc_X10_isName) (fun z1 wz1 Mz1 hq => ?_)
  obtain ⟨hq1, hq2, hq3⟩ := hq
  have hq2 := hq2.symm
  have hq3 := hq3.symm
  subst hq1 hq2 hq3
  refine s_ifne C (d_of DX10_old 2 rfl) rfl (fun hc => ?_) (fun hc => ?_)
  · have h := h.1 (b2i_n0 hc)
    refine s_iload_n C (d_of DX10_old 5 rfl) rfl ?_
    refine s_callS (av := [(0, l2)]) (rest := []) (mc := 0) (ms := 0) C (d_of DX10_old 6 rfl) lk_X10_152 rfl rfl (Nat.le_of_ble_eq_true rfl) (by decide) (by decide) (pc_X10_isDay) (fun z2 wz2 Mz2 hq => ?_)
    obtain ⟨hq1, hq2, hq3⟩ := hq
    have hq2 := hq2.symm
    have hq3 := hq3.symm
    subst hq1 hq2 hq3
    refine s_ifeq C (d_of DX10_old 7 rfl) rfl (fun hc => ?_) (fun hc => ?_)
    · have h := h.1 (b2i_0.mp hc)
      refine s_bipush C (d_of DX10_old 11 rfl) ⟨rfl, by decide, by decide⟩ ?_
      exact s_ireturn C (d_of DX10_old 12 rfl) h
    · have h := h.2 (b2i_n0 hc)
      refine s_iload_n C (d_of DX10_old 8 rfl) rfl ?_
      refine s_callS (av := [(0, l3)]) (rest := []) (mc := 0) (ms := 0) C (d_of DX10_old 9 rfl) lk_X10_152 rfl rfl (Nat.le_of_ble_eq_true rfl) (by decide) (by decide) (pc_X10_isDay) (fun z3 wz3 Mz3 hq => ?_)
      obtain ⟨hq1, hq2, hq3⟩ := hq
      have hq2 := hq2.symm
      have hq3 := hq3.symm
      subst hq1 hq2 hq3
      refine s_ifne C (d_of DX10_old 10 rfl) rfl (fun hc => ?_) (fun hc => ?_)
      · have h := h.1 (b2i_n0 hc)
        refine s_iconst C (d_of DX10_old 13 rfl) (by decide) ?_
        refine s_istore (ls' := [(2, 41), (0, l1), (0, l2), (0, l3), (0, l4), (0, 0), (3, 0), (3, 0), (3, 0)]) C (d_of DX10_old 14 rfl) (by decide) rfl rfl ?_
        refine s_iconst C (d_of DX10_old 15 rfl) (by decide) ?_
        refine s_istore (ls' := [(2, 41), (0, l1), (0, l2), (0, l3), (0, l4), (0, 0), (0, 0), (3, 0), (3, 0)]) C (d_of DX10_old 16 rfl) (by decide) rfl rfl ?_
        exact h
      · have h := h.2 (b2i_nn hc)
        refine s_bipush C (d_of DX10_old 11 rfl) ⟨rfl, by decide, by decide⟩ ?_
        exact s_ireturn C (d_of DX10_old 12 rfl) h
  · have h := h.2 (b2i_nn hc)
    refine s_iconst C (d_of DX10_old 3 rfl) (by decide) ?_
    exact s_ireturn C (d_of DX10_old 4 rfl) h
set_option maxHeartbeats 4000000 in
set_option maxRecDepth 100000 in
theorem B_X10_old_32 {G : GP} {X : BX} {P : Int → NS → MM → Prop} {l1 : Int} {l2 : Int} {l3 : Int} {l4 : Int} {l5 : Int} {l6 : Int} {w : NS} {M : MM} (C : CX_X10_old G X) (h : ((((M 41 12) ≤ l6) → (((l4 ≠ (-1)) → A_X10_old_81 G X P l1 l2 l3 l4 0 w M) ∧ ((¬ (l4 ≠ (-1))) → P l5 w M))) ∧ ((¬ ((M 41 12) ≤ l6)) → ∃ Q2 : Int → NS → MM → Prop, CT_X10_isOld G X.2.1 [(2, 41), (0, l6), (0, l1), (0, l2), (0, l3)] w M Q2 ∧ ∀ (z2 : Int) (w2 : NS) (M2 : MM), Q2 z2 w2 M2 → (((z2 = 0) → (inR (l5 + 0)) ∧ (inR (l6 + 1)) ∧ A_X10_old_32 G X P l1 l2 l3 l4 (l5 + 0) (l6 + 1) w2 M2) ∧ ((¬ (z2 = 0)) → (inR (l5 + 1)) ∧ (inR (l6 + 1)) ∧ A_X10_old_32 G X P l1 l2 l3 l4 (l5 + 1) (l6 + 1) w2 M2))))) : A_X10_old_32 G X P l1 l2 l3 l4 l5 l6 w M := by
  unfold A_X10_old_32
  refine s_iload C (d_of DX10_old 17 rfl) rfl ?_
  refine s_aload_n C (d_of DX10_old 18 rfl) rfl ?_
  refine WA.fix (fun hF1 => ?_)
  refine gf_X10_147 (v0 := (M 41 12)) C (sh_41 hF1) (d_of DX10_old 19 rfl) rfl ?_
  refine s_icmpge C (d_of DX10_old 20 rfl) rfl (fun hc => ?_) (fun hc => ?_)
  · have h := h.1 hc
    refine s_iload C (d_of DX10_old 36 rfl) rfl ?_
    refine s_iconst C (d_of DX10_old 37 rfl) (by decide) ?_
    refine s_icmpne C (d_of DX10_old 38 rfl) rfl (fun hc => ?_) (fun hc => ?_)
    · have h := h.1 hc
      refine s_iconst C (d_of DX10_old 41 rfl) (by decide) ?_
      refine s_istore (ls' := [(2, 41), (0, l1), (0, l2), (0, l3), (0, l4), (0, l5), (0, 0), (3, 0), (3, 0)]) C (d_of DX10_old 42 rfl) (by decide) rfl rfl ?_
      exact WA.wk h ⟨Or.inr rfl, Or.inr rfl, Or.inr rfl, Or.inr rfl, Or.inr rfl, Or.inl rfl, Or.inr rfl, Or.inl rfl, Or.inl rfl, trivial⟩
    · have h := h.2 hc
      refine s_iload C (d_of DX10_old 39 rfl) rfl ?_
      exact s_ireturn C (d_of DX10_old 40 rfl) h
  · have h := h.2 hc
    refine s_iload C (d_of DX10_old 21 rfl) rfl ?_
    refine s_aload_n C (d_of DX10_old 22 rfl) rfl ?_
    refine s_iload C (d_of DX10_old 23 rfl) rfl ?_
    refine s_iload_n C (d_of DX10_old 24 rfl) rfl ?_
    refine s_iload_n C (d_of DX10_old 25 rfl) rfl ?_
    refine s_iload_n C (d_of DX10_old 26 rfl) rfl ?_
    obtain ⟨Q2, hKQ2, h⟩ := h
    refine s_callV (ci := 10) (av := [(0, l6), (0, l1), (0, l2), (0, l3)]) (rest := [(0, l5)]) (mc := 0) (ms := 0) C (d_of DX10_old 27 rfl) lk_X10_347 (sh_41 hF1) (by decide) rfl rfl rfl (Nat.le_of_ble_eq_true rfl) (by decide) (by decide) hKQ2 (fun z2 w2 M2 hq => ?_)
    have h := h z2 w2 M2 hq
    refine s_ifeq C (d_of DX10_old 28 rfl) rfl (fun hc => ?_) (fun hc => ?_)
    · have h := h.1 hc
      refine s_iconst C (d_of DX10_old 31 rfl) (by decide) ?_
      obtain ⟨o3, h⟩ := h
      refine s_iadd C (d_of DX10_old 32 rfl) o3 ?_
      refine s_istore (ls' := [(2, 41), (0, l1), (0, l2), (0, l3), (0, l4), (0, (l5 + 0)), (0, l6), (3, 0), (3, 0)]) C (d_of DX10_old 33 rfl) (by decide) rfl rfl ?_
      obtain ⟨o4, h⟩ := h
      refine s_iinc (ls' := [(2, 41), (0, l1), (0, l2), (0, l3), (0, l4), (0, (l5 + 0)), (0, (l6 + 1)), (3, 0), (3, 0)]) C (d_of DX10_old 34 rfl) (by decide) rfl o4 rfl rfl ?_
      refine s_goto C (d_of DX10_old 35 rfl) rfl ?_
      exact h
    · have h := h.2 hc
      refine s_iconst C (d_of DX10_old 29 rfl) (by decide) ?_
      refine s_goto C (d_of DX10_old 30 rfl) rfl ?_
      obtain ⟨o5, h⟩ := h
      refine s_iadd C (d_of DX10_old 32 rfl) o5 ?_
      refine s_istore (ls' := [(2, 41), (0, l1), (0, l2), (0, l3), (0, l4), (0, (l5 + 1)), (0, l6), (3, 0), (3, 0)]) C (d_of DX10_old 33 rfl) (by decide) rfl rfl ?_
      obtain ⟨o6, h⟩ := h
      refine s_iinc (ls' := [(2, 41), (0, l1), (0, l2), (0, l3), (0, l4), (0, (l5 + 1)), (0, (l6 + 1)), (3, 0), (3, 0)]) C (d_of DX10_old 34 rfl) (by decide) rfl o6 rfl rfl ?_
      refine s_goto C (d_of DX10_old 35 rfl) rfl ?_
      exact h
set_option maxHeartbeats 4000000 in
set_option maxRecDepth 100000 in
theorem B_X10_old_81 {G : GP} {X : BX} {P : Int → NS → MM → Prop} {l1 : Int} {l2 : Int} {l3 : Int} {l4 : Int} {l6 : Int} {w : NS} {M : MM} (C : CX_X10_old G X) (h : ((((M 41 12) ≤ l6) → P (-6) w M) ∧ ((¬ ((M 41 12) ≤ l6)) → A_X10_old_96 G X P l1 l2 l3 l4 l6 0 0 w M))) : A_X10_old_81 G X P l1 l2 l3 l4 l6 w M := by
  unfold A_X10_old_81
  refine s_iload C (d_of DX10_old 43 rfl) rfl ?_
  refine s_aload_n C (d_of DX10_old 44 rfl) rfl ?_
  refine WA.fix (fun hF1 => ?_)
  refine gf_X10_147 (v0 := (M 41 12)) C (sh_41 hF1) (d_of DX10_old 45 rfl) rfl ?_
  refine s_icmpge C (d_of DX10_old 46 rfl) rfl (fun hc => ?_) (fun hc => ?_)
  · have h := h.1 hc
    refine s_bipush C (d_of DX10_old 92 rfl) ⟨rfl, by decide, by decide⟩ ?_
    exact s_ireturn C (d_of DX10_old 93 rfl) h
  · have h := h.2 hc
    refine s_iconst C (d_of DX10_old 47 rfl) (by decide) ?_
    refine s_istore (ls' := [(2, 41), (0, l1), (0, l2), (0, l3), (0, l4), (3, 0), (0, l6), (0, 0), (3, 0)]) C (d_of DX10_old 48 rfl) (by decide) rfl rfl ?_
    refine s_iconst C (d_of DX10_old 49 rfl) (by decide) ?_
    refine s_istore (ls' := [(2, 41), (0, l1), (0, l2), (0, l3), (0, l4), (3, 0), (0, l6), (0, 0), (0, 0)]) C (d_of DX10_old 50 rfl) (by decide) rfl rfl ?_
    exact h
set_option maxHeartbeats 4000000 in
set_option maxRecDepth 100000 in
theorem B_X10_old_96 {G : GP} {X : BX} {P : Int → NS → MM → Prop} {l1 : Int} {l2 : Int} {l3 : Int} {l4 : Int} {l6 : Int} {l7 : Int} {l8 : Int} {w : NS} {M : MM} (C : CX_X10_old G X) (h : ((((M 41 12) ≤ l8) → ∃ Q2 : Int → NS → MM → Prop, CT_X10_isOld G X.2.1 [(2, 41), (0, l6), (0, l1), (0, l2), (0, l3)] w M Q2 ∧ ∀ (z2 : Int) (w2 : NS) (M2 : MM), Q2 z2 w2 M2 → (((z2 = 0) → (inR (l6 + 1)) ∧ A_X10_old_81 G X P l1 l2 l3 l4 (l6 + 1) w2 M2) ∧ ((¬ (z2 = 0)) → (((l7 ≠ l4) → (inR (l6 + 1)) ∧ A_X10_old_81 G X P l1 l2 l3 l4 (l6 + 1) w2 M2) ∧ ((¬ (l7 ≠ l4)) → P l6 w2 M2))))) ∧ ((¬ ((M 41 12) ≤ l8)) → (((l8 = l6) → (inR (l7 + 0)) ∧ (inR (l8 + 1)) ∧ A_X10_old_96 G X P l1 l2 l3 l4 l6 (l7 + 0) (l8 + 1) w M) ∧ ((¬ (l8 = l6)) → ∃ Q7 : Int → NS → MM → Prop, CT_X10_isOld G X.2.1 [(2, 41), (0, l8), (0, l1), (0, l2), (0, l3)] w M Q7 ∧ ∀ (z7 : Int) (w7 : NS) (M7 : MM), Q7 z7 w7 M7 → (((z7 = 0) → (inR (l7 + 0)) ∧ (inR (l8 + 1)) ∧ A_X10_old_96 G X P l1 l2 l3 l4 l6 (l7 + 0) (l8 + 1) w7 M7) ∧ ((¬ (z7 = 0)) → ∃ Q11 : Int → NS → MM → Prop, CT_X10_isAhead G X.2.1 [(2, 41), (0, l8), (0, l6)] w7 M7 Q11 ∧ ∀ (z11 : Int) (w11 : NS) (M11 : MM), Q11 z11 w11 M11 → (((z11 = 0) → (inR (l7 + 0)) ∧ (inR (l8 + 1)) ∧ A_X10_old_96 G X P l1 l2 l3 l4 l6 (l7 + 0) (l8 + 1) w11 M11) ∧ ((¬ (z11 = 0)) → (inR (l7 + 1)) ∧ (inR (l8 + 1)) ∧ A_X10_old_96 G X P l1 l2 l3 l4 l6 (l7 + 1) (l8 + 1) w11 M11))))))))) : A_X10_old_96 G X P l1 l2 l3 l4 l6 l7 l8 w M := by
  unfold A_X10_old_96
  refine s_iload C (d_of DX10_old 51 rfl) rfl ?_
  refine s_aload_n C (d_of DX10_old 52 rfl) rfl ?_
  refine WA.fix (fun hF1 => ?_)
  refine gf_X10_147 (v0 := (M 41 12)) C (sh_41 hF1) (d_of DX10_old 53 rfl) rfl ?_
  refine s_icmpge C (d_of DX10_old 54 rfl) rfl (fun hc => ?_) (fun hc => ?_)
  · have h := h.1 hc
    refine s_aload_n C (d_of DX10_old 78 rfl) rfl ?_
    refine s_iload C (d_of DX10_old 79 rfl) rfl ?_
    refine s_iload_n C (d_of DX10_old 80 rfl) rfl ?_
    refine s_iload_n C (d_of DX10_old 81 rfl) rfl ?_
    refine s_iload_n C (d_of DX10_old 82 rfl) rfl ?_
    obtain ⟨Q2, hKQ2, h⟩ := h
    refine s_callV (ci := 10) (av := [(0, l6), (0, l1), (0, l2), (0, l3)]) (rest := []) (mc := 0) (ms := 0) C (d_of DX10_old 83 rfl) lk_X10_347 (sh_41 hF1) (by decide) rfl rfl rfl (Nat.le_of_ble_eq_true rfl) (by decide) (by decide) hKQ2 (fun z2 w2 M2 hq => ?_)
    have h := h z2 w2 M2 hq
    refine s_ifeq C (d_of DX10_old 84 rfl) rfl (fun hc => ?_) (fun hc => ?_)
    · have h := h.1 hc
      obtain ⟨o3, h⟩ := h
      refine s_iinc (ls' := [(2, 41), (0, l1), (0, l2), (0, l3), (0, l4), (3, 0), (0, (l6 + 1)), (0, l7), (0, l8)]) C (d_of DX10_old 90 rfl) (by decide) rfl o3 rfl rfl ?_
      refine s_goto C (d_of DX10_old 91 rfl) rfl ?_
      exact WA.wk h ⟨Or.inr rfl, Or.inr rfl, Or.inr rfl, Or.inr rfl, Or.inr rfl, Or.inl rfl, Or.inr rfl, Or.inl rfl, Or.inl rfl, trivial⟩
    · have h := h.2 hc
      refine s_iload C (d_of DX10_old 85 rfl) rfl ?_
      refine s_iload C (d_of DX10_old 86 rfl) rfl ?_
      refine s_icmpne C (d_of DX10_old 87 rfl) rfl (fun hc => ?_) (fun hc => ?_)
      · have h := h.1 hc
        obtain ⟨o4, h⟩ := h
        refine s_iinc (ls' := [(2, 41), (0, l1), (0, l2), (0, l3), (0, l4), (3, 0), (0, (l6 + 1)), (0, l7), (0, l8)]) C (d_of DX10_old 90 rfl) (by decide) rfl o4 rfl rfl ?_
        refine s_goto C (d_of DX10_old 91 rfl) rfl ?_
        exact WA.wk h ⟨Or.inr rfl, Or.inr rfl, Or.inr rfl, Or.inr rfl, Or.inr rfl, Or.inl rfl, Or.inr rfl, Or.inl rfl, Or.inl rfl, trivial⟩
      · have h := h.2 hc
        refine s_iload C (d_of DX10_old 88 rfl) rfl ?_
        exact s_ireturn C (d_of DX10_old 89 rfl) h
  · have h := h.2 hc
    refine s_iload C (d_of DX10_old 55 rfl) rfl ?_
    refine s_iload C (d_of DX10_old 56 rfl) rfl ?_
    refine s_iload C (d_of DX10_old 57 rfl) rfl ?_
    refine s_icmpeq C (d_of DX10_old 58 rfl) rfl (fun hc => ?_) (fun hc => ?_)
    · have h := h.1 hc
      refine s_iconst C (d_of DX10_old 73 rfl) (by decide) ?_
      obtain ⟨o5, h⟩ := h
      refine s_iadd C (d_of DX10_old 74 rfl) o5 ?_
      refine s_istore (ls' := [(2, 41), (0, l1), (0, l2), (0, l3), (0, l4), (3, 0), (0, l6), (0, (l7 + 0)), (0, l8)]) C (d_of DX10_old 75 rfl) (by decide) rfl rfl ?_
      obtain ⟨o6, h⟩ := h
      refine s_iinc (ls' := [(2, 41), (0, l1), (0, l2), (0, l3), (0, l4), (3, 0), (0, l6), (0, (l7 + 0)), (0, (l8 + 1))]) C (d_of DX10_old 76 rfl) (by decide) rfl o6 rfl rfl ?_
      refine s_goto C (d_of DX10_old 77 rfl) rfl ?_
      exact h
    · have h := h.2 hc
      refine s_aload_n C (d_of DX10_old 59 rfl) rfl ?_
      refine s_iload C (d_of DX10_old 60 rfl) rfl ?_
      refine s_iload_n C (d_of DX10_old 61 rfl) rfl ?_
      refine s_iload_n C (d_of DX10_old 62 rfl) rfl ?_
      refine s_iload_n C (d_of DX10_old 63 rfl) rfl ?_
      obtain ⟨Q7, hKQ7, h⟩ := h
      refine s_callV (ci := 10) (av := [(0, l8), (0, l1), (0, l2), (0, l3)]) (rest := [(0, l7)]) (mc := 0) (ms := 0) C (d_of DX10_old 64 rfl) lk_X10_347 (sh_41 hF1) (by decide) rfl rfl rfl (Nat.le_of_ble_eq_true rfl) (by decide) (by decide) hKQ7 (fun z7 w7 M7 hq => ?_)
      have h := h z7 w7 M7 hq
      refine s_ifeq C (d_of DX10_old 65 rfl) rfl (fun hc => ?_) (fun hc => ?_)
      · have h := h.1 hc
        refine s_iconst C (d_of DX10_old 73 rfl) (by decide) ?_
        obtain ⟨o8, h⟩ := h
        refine s_iadd C (d_of DX10_old 74 rfl) o8 ?_
        refine s_istore (ls' := [(2, 41), (0, l1), (0, l2), (0, l3), (0, l4), (3, 0), (0, l6), (0, (l7 + 0)), (0, l8)]) C (d_of DX10_old 75 rfl) (by decide) rfl rfl ?_
        obtain ⟨o9, h⟩ := h
        refine s_iinc (ls' := [(2, 41), (0, l1), (0, l2), (0, l3), (0, l4), (3, 0), (0, l6), (0, (l7 + 0)), (0, (l8 + 1))]) C (d_of DX10_old 76 rfl) (by decide) rfl o9 rfl rfl ?_
        refine s_goto C (d_of DX10_old 77 rfl) rfl ?_
        exact h
      · have h := h.2 hc
        refine s_aload_n C (d_of DX10_old 66 rfl) rfl ?_
        refine s_iload C (d_of DX10_old 67 rfl) rfl ?_
        refine s_iload C (d_of DX10_old 68 rfl) rfl ?_
        refine WA.fix (fun hF10 => ?_)
        obtain ⟨Q11, hKQ11, h⟩ := h
        refine s_callV (ci := 10) (av := [(0, l8), (0, l6)]) (rest := [(0, l7)]) (mc := 0) (ms := 0) C (d_of DX10_old 69 rfl) lk_X10_272 (sh_41 hF10) (by decide) rfl rfl rfl (Nat.le_of_ble_eq_true rfl) (by decide) (by decide) hKQ11 (fun z11 w11 M11 hq => ?_)
        have h := h z11 w11 M11 hq
        refine s_ifeq C (d_of DX10_old 70 rfl) rfl (fun hc => ?_) (fun hc => ?_)
        · have h := h.1 hc
          refine s_iconst C (d_of DX10_old 73 rfl) (by decide) ?_
          obtain ⟨o12, h⟩ := h
          refine s_iadd C (d_of DX10_old 74 rfl) o12 ?_
          refine s_istore (ls' := [(2, 41), (0, l1), (0, l2), (0, l3), (0, l4), (3, 0), (0, l6), (0, (l7 + 0)), (0, l8)]) C (d_of DX10_old 75 rfl) (by decide) rfl rfl ?_
          obtain ⟨o13, h⟩ := h
          refine s_iinc (ls' := [(2, 41), (0, l1), (0, l2), (0, l3), (0, l4), (3, 0), (0, l6), (0, (l7 + 0)), (0, (l8 + 1))]) C (d_of DX10_old 76 rfl) (by decide) rfl o13 rfl rfl ?_
          refine s_goto C (d_of DX10_old 77 rfl) rfl ?_
          exact h
        · have h := h.2 hc
          refine s_iconst C (d_of DX10_old 71 rfl) (by decide) ?_
          refine s_goto C (d_of DX10_old 72 rfl) rfl ?_
          obtain ⟨o14, h⟩ := h
          refine s_iadd C (d_of DX10_old 74 rfl) o14 ?_
          refine s_istore (ls' := [(2, 41), (0, l1), (0, l2), (0, l3), (0, l4), (3, 0), (0, l6), (0, (l7 + 1)), (0, l8)]) C (d_of DX10_old 75 rfl) (by decide) rfl rfl ?_
          obtain ⟨o15, h⟩ := h
          refine s_iinc (ls' := [(2, 41), (0, l1), (0, l2), (0, l3), (0, l4), (3, 0), (0, l6), (0, (l7 + 1)), (0, (l8 + 1))]) C (d_of DX10_old 76 rfl) (by decide) rfl o15 rfl rfl ?_
          refine s_goto C (d_of DX10_old 77 rfl) rfl ?_
          exact h
theorem E_X10_old {G : GP} {l : Launch} {P : Int → NS → MM → Prop} {l1 : Int} {l2 : Int} {l3 : Int} {l4 : Int} {w : NS} {M : MM} (h : inR l1 → inR l2 → inR l3 → inR l4 → ∀ X : BX, X.2.1 = l → CX_X10_old G X → A_X10_old_0 G X P l1 l2 l3 l4 w M) : CT_X10_old G l [(2, 41), (0, l1), (0, l2), (0, l3), (0, l4)] w M P :=
  CT.of RX10 "old" (by decide +kernel) rfl rfl rfl (Nat.le_of_ble_eq_true rfl) (fun hr X hX C => h (hr (0, l1) (by simp)) (hr (0, l2) (by simp)) (hr (0, l3) (by simp)) (hr (0, l4) (by simp)) X hX C)
def A_X10_told_0 (G : GP) (X : BX) (P : Int → NS → MM → Prop) (l1 : Int) (w : NS) (M : MM) : Prop := WA true G X (QM G X true 0 P) 4 0 [(2, 41), (0, l1), (3, 0), (3, 0)] [] 0 0 w M
def A_X10_told_28 (G : GP) (X : BX) (P : Int → NS → MM → Prop) (l1 : Int) (l2 : Int) (l3 : Int) (w : NS) (M : MM) : Prop := WA true G X (QM G X true 0 P) 4 28 [(2, 41), (0, l1), (0, l2), (0, l3)] [] 0 0 w M
set_option maxHeartbeats 4000000 in
set_option maxRecDepth 100000 in
theorem B_X10_told_0 {G : GP} {X : BX} {P : Int → NS → MM → Prop} {l1 : Int} {w : NS} {M : MM} (C : CX_X10_told G X) (h : (((¬ (10 ≤ l1 ∧ l1 ≤ 18)) → A_X10_told_28 G X P l1 0 0 w M) ∧ (((10 ≤ l1 ∧ l1 ≤ 18)) → (inR (l1 - 10)) ∧ (0 ≤ (l1 - 10)) ∧ ((l1 - 10) < 9) ∧ P (M 53 (l1 - 10)) w M))) : A_X10_told_0 G X P l1 w M := by
  unfold A_X10_told_0
  refine s_iload_n C (d_of DX10_told 0 rfl) rfl ?_
  refine s_i2l C (d_of DX10_told 1 rfl) ?_
  refine s_ldc2 (z := 10) C (d_of DX10_told 2 rfl) (mG (wd_1237) rfl) ⟨rfl, by decide⟩ ?_
  refine s_ldc2 (z := 18) C (d_of DX10_told 3 rfl) (mG (wd_1238) rfl) ⟨rfl, by decide⟩ ?_
  refine s_callS (av := [(1, l1), (1, 10), (1, 18)]) (rest := []) (mc := 0) (ms := 0) C (d_of DX10_told 4 rfl) lk_X10_139 rfl rfl (Nat.le_of_ble_eq_true rfl) (by decide) (by decide) (pc_X10_in) (fun z1 wz1 Mz1 hq => ?_)
  obtain ⟨hq1, hq2, hq3⟩ := hq
  have hq2 := hq2.symm
  have hq3 := hq3.symm
  subst hq1 hq2 hq3
  refine s_ifeq C (d_of DX10_told 5 rfl) rfl (fun hc => ?_) (fun hc => ?_)
  · have h := h.1 (b2i_0.mp hc)
    refine s_iconst C (d_of DX10_told 13 rfl) (by decide) ?_
    refine s_istore_n (ls' := [(2, 41), (0, l1), (0, 0), (3, 0)]) C (d_of DX10_told 14 rfl) (by decide) rfl rfl ?_
    refine s_iconst C (d_of DX10_told 15 rfl) (by decide) ?_
    refine s_istore_n (ls' := [(2, 41), (0, l1), (0, 0), (0, 0)]) C (d_of DX10_told 16 rfl) (by decide) rfl rfl ?_
    exact h
  · have h := h.2 (b2i_n0 hc)
    refine s_aload_n C (d_of DX10_told 6 rfl) rfl ?_
    refine WA.fix (fun hF2 => ?_)
    refine gf_X10_43 C (sh_41 hF2) (d_of DX10_told 7 rfl) (fx_41_13 hF2) ?_
    refine s_iload_n C (d_of DX10_told 8 rfl) rfl ?_
    refine s_bipush C (d_of DX10_told 9 rfl) ⟨rfl, by decide, by decide⟩ ?_
    obtain ⟨o3, h⟩ := h
    refine s_isub C (d_of DX10_told 10 rfl) o3 ?_
    obtain ⟨o4, h⟩ := h
    obtain ⟨o5, h⟩ := h
    refine s_iald (v0 := (M 53 (l1 - 10))) C (sh_53 hF2) o4 o5 (d_of DX10_told 11 rfl) rfl ?_
    exact s_ireturn C (d_of DX10_told 12 rfl) h
set_option maxHeartbeats 4000000 in
set_option maxRecDepth 100000 in
theorem B_X10_told_28 {G : GP} {X : BX} {P : Int → NS → MM → Prop} {l1 : Int} {l2 : Int} {l3 : Int} {w : NS} {M : MM} (C : CX_X10_told G X) (h : (((6 ≤ l3) → (((l1 < 0 ∨ 5 < l1) → P (-2) w M) ∧ (l1 = 0 → P (M 41 4) w M) ∧ (l1 = 1 → P (M 41 12) w M) ∧ (l1 = 2 → P (M 41 26) w M) ∧ (l1 = 3 → P (M 57 10) w M) ∧ (l1 = 4 → ∃ Q6 : Int → NS → MM → Prop, CT_X10_sentTo G X.2.1 [(2, 41), (0, (-1))] w M Q6 ∧ ∀ (z6 : Int) (w6 : NS) (M6 : MM), Q6 z6 w6 M6 → P z6 w6 M6) ∧ (l1 = 5 → P l2 w M))) ∧ ((¬ (6 ≤ l3)) → (0 ≤ l3) ∧ (l3 < 6) ∧ (inR (l2 + (M 83 l3))) ∧ (inR (l3 + 1)) ∧ A_X10_told_28 G X P l1 (l2 + (M 83 l3)) (l3 + 1) w M))) : A_X10_told_28 G X P l1 l2 l3 w M := by
  unfold A_X10_told_28
  refine s_iload_n C (d_of DX10_told 17 rfl) rfl ?_
  refine s_bipush C (d_of DX10_told 18 rfl) ⟨rfl, by decide, by decide⟩ ?_
  refine s_icmpge C (d_of DX10_told 19 rfl) rfl (fun hc => ?_) (fun hc => ?_)
  · have h := h.1 hc
    refine s_iload_n C (d_of DX10_told 29 rfl) rfl ?_
    rcases (show (l1 < 0 ∨ 5 < l1) ∨ l1 = 0 ∨ l1 = 1 ∨ l1 = 2 ∨ l1 = 3 ∨ l1 = 4 ∨ l1 = 5 from by omega) with hc | hc | hc | hc | hc | hc | hc
    · have h := h.1 hc
      refine s_tabOut C (d_of DX10_told 30 rfl) hc rfl ?_
      refine s_bipush C (d_of DX10_told 51 rfl) ⟨rfl, by decide, by decide⟩ ?_
      exact s_ireturn C (d_of DX10_told 52 rfl) h
    · have h := h.2.1 hc
      refine s_tabIn C (d_of DX10_told 30 rfl) hc (by decide) (by decide) rfl rfl ?_
      refine s_aload_n C (d_of DX10_told 31 rfl) rfl ?_
      refine WA.fix (fun hF1 => ?_)
      refine gf_X10_143 (v0 := (M 41 4)) C (sh_41 hF1) (d_of DX10_told 32 rfl) rfl ?_
      exact s_ireturn C (d_of DX10_told 33 rfl) h
    · have h := h.2.2.1 hc
      refine s_tabIn C (d_of DX10_told 30 rfl) hc (by decide) (by decide) rfl rfl ?_
      refine s_aload_n C (d_of DX10_told 34 rfl) rfl ?_
      refine WA.fix (fun hF2 => ?_)
      refine gf_X10_147 (v0 := (M 41 12)) C (sh_41 hF2) (d_of DX10_told 35 rfl) rfl ?_
      exact s_ireturn C (d_of DX10_told 36 rfl) h
    · have h := h.2.2.2.1 hc
      refine s_tabIn C (d_of DX10_told 30 rfl) hc (by decide) (by decide) rfl rfl ?_
      refine s_aload_n C (d_of DX10_told 37 rfl) rfl ?_
      refine WA.fix (fun hF3 => ?_)
      refine gf_X10_220 (v0 := (M 41 26)) C (sh_41 hF3) (d_of DX10_told 38 rfl) rfl ?_
      exact s_ireturn C (d_of DX10_told 39 rfl) h
    · have h := h.2.2.2.2.1 hc
      refine s_tabIn C (d_of DX10_told 30 rfl) hc (by decide) (by decide) rfl rfl ?_
      refine s_aload_n C (d_of DX10_told 40 rfl) rfl ?_
      refine WA.fix (fun hF4 => ?_)
      refine gf_X10_55 C (sh_41 hF4) (d_of DX10_told 41 rfl) (fx_41_19 hF4) ?_
      refine s_bipush C (d_of DX10_told 42 rfl) ⟨rfl, by decide, by decide⟩ ?_
      refine s_iald (v0 := (M 57 10)) C (sh_57 hF4) (by decide) (by decide) (d_of DX10_told 43 rfl) rfl ?_
      exact s_ireturn C (d_of DX10_told 44 rfl) h
    · have h := h.2.2.2.2.2.1 hc
      refine s_tabIn C (d_of DX10_told 30 rfl) hc (by decide) (by decide) rfl rfl ?_
      refine s_aload_n C (d_of DX10_told 45 rfl) rfl ?_
      refine s_iconst C (d_of DX10_told 46 rfl) (by decide) ?_
      refine WA.fix (fun hF5 => ?_)
      obtain ⟨Q6, hKQ6, h⟩ := h
      refine s_callV (ci := 10) (av := [(0, (-1))]) (rest := []) (mc := 0) (ms := 0) C (d_of DX10_told 47 rfl) lk_X10_342 (sh_41 hF5) (by decide) rfl rfl rfl (Nat.le_of_ble_eq_true rfl) (by decide) (by decide) hKQ6 (fun z6 w6 M6 hq => ?_)
      have h := h z6 w6 M6 hq
      exact s_ireturn C (d_of DX10_told 48 rfl) h
    · have h := h.2.2.2.2.2.2 hc
      refine s_tabIn C (d_of DX10_told 30 rfl) hc (by decide) (by decide) rfl rfl ?_
      refine s_iload_n C (d_of DX10_told 49 rfl) rfl ?_
      exact s_ireturn C (d_of DX10_told 50 rfl) h
  · have h := h.2 hc
    refine s_iload_n C (d_of DX10_told 20 rfl) rfl ?_
    refine s_aload_n C (d_of DX10_told 21 rfl) rfl ?_
    refine WA.fix (fun hF7 => ?_)
    refine gf_X10_134 C (sh_41 hF7) (d_of DX10_told 22 rfl) (fx_41_50 hF7) ?_
    refine s_iload_n C (d_of DX10_told 23 rfl) rfl ?_
    obtain ⟨o8, h⟩ := h
    obtain ⟨o9, h⟩ := h
    refine s_iald (v0 := (M 83 l3)) C (sh_83 hF7) o8 o9 (d_of DX10_told 24 rfl) rfl ?_
    obtain ⟨o10, h⟩ := h
    refine s_iadd C (d_of DX10_told 25 rfl) o10 ?_
    refine s_istore_n (ls' := [(2, 41), (0, l1), (0, (l2 + (M 83 l3))), (0, l3)]) C (d_of DX10_told 26 rfl) (by decide) rfl rfl ?_
    obtain ⟨o11, h⟩ := h
    refine s_iinc (ls' := [(2, 41), (0, l1), (0, (l2 + (M 83 l3))), (0, (l3 + 1))]) C (d_of DX10_told 27 rfl) (by decide) rfl o11 rfl rfl ?_
    refine s_goto C (d_of DX10_told 28 rfl) rfl ?_
    exact h
theorem E_X10_told {G : GP} {l : Launch} {P : Int → NS → MM → Prop} {l1 : Int} {w : NS} {M : MM} (h : inR l1 → ∀ X : BX, X.2.1 = l → CX_X10_told G X → A_X10_told_0 G X P l1 w M) : CT_X10_told G l [(2, 41), (0, l1)] w M P :=
  CT.of RX10 "told" (by decide +kernel) rfl rfl rfl (Nat.le_of_ble_eq_true rfl) (fun hr X hX C => h (hr (0, l1) (by simp)) X hX C)
