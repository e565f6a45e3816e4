def A_X10_isRule_0 (G : GP) (X : BX) (P : Int → NS → MM → Prop) (l1 : Int) (l2 : Int) (w : NS) (M : MM) : Prop := WA true G X (QM G X true 0 P) 6 0 [(2, 41), (0, l1), (0, l2), (3, 0), (3, 0), (3, 0)] [] 0 0 w M
def A_X10_isRule_33 (G : GP) (X : BX) (P : Int → NS → MM → Prop) (l3 : Int) (l4 : Int) (w : NS) (M : MM) : Prop := WA true G X (QM G X true 0 P) 6 33 [(2, 41), (3, 0), (3, 0), (0, l3), (0, l4), (3, 0)] [] 0 0 w M
set_option maxHeartbeats 4000000 in
set_option maxRecDepth 100000 in
theorem B_X10_isRule_0 {G : GP} {X : BX} {P : Int → NS → MM → Prop} {l1 : Int} {l2 : Int} {w : NS} {M : MM} (C : CX_X10_isRule G X) (h : ∃ Q2 : Int → NS → MM → Prop, CT_X10_layOne G X.2.1 [(2, 41), (0, l2)] w M Q2 ∧ ∀ (z2 : Int) (w2 : NS) (M2 : MM), Q2 z2 w2 M2 → ∃ Q4 : Int → NS → MM → Prop, CT_X10_begin G X.2.1 [(2, 41), (0, 0)] w2 M2 Q4 ∧ ∀ (z4 : Int) (w4 : NS) (M4 : MM), Q4 z4 w4 M4 → (inR (40 * l1)) ∧ (0 ≤ l1) ∧ (l1 < 11) ∧ (inR ((40 * l1) + (M4 57 l1))) ∧ A_X10_isRule_33 G X P 0 ((40 * l1) + (M4 57 l1)) w4 (up M4 41 30 (40 * l1))) : A_X10_isRule_0 G X P l1 l2 w M := by
  unfold A_X10_isRule_0
  refine s_aload_n C dX10_isRule_0 rfl ?_
  refine s_iload_n C dX10_isRule_1 rfl ?_
  refine WA.fix (fun hF1 => ?_)
  obtain ⟨Q2, hKQ2, h⟩ := h
  refine s_callV (ci := 10) (av := [(0, l2)]) (rest := []) (mc := 0) (ms := 0) C dX10_isRule_2 lk_X10_179 (sh_41 hF1) (by decide) rfl rfl rfl (Nat.le_of_ble_eq_true rfl) (by decide) (by decide) hKQ2 (fun z2 w2 M2 hq => ?_)
  have h := h z2 w2 M2 hq
  refine s_iconst C dX10_isRule_5 (by decide) ?_
  refine s_istore_n (ls' := [(2, 41), (0, l1), (0, l2), (0, 0), (3, 0), (3, 0)]) C dX10_isRule_6 (by decide) rfl rfl ?_
  refine s_aload_n C dX10_isRule_7 rfl ?_
  refine s_iconst C dX10_isRule_8 (by decide) ?_
  refine WA.fix (fun hF3 => ?_)
  obtain ⟨Q4, hKQ4, h⟩ := h
  refine s_callV (ci := 10) (av := [(0, 0)]) (rest := []) (mc := 0) (ms := 0) C dX10_isRule_9 lk_X10_239 (sh_41 hF3) (by decide) rfl rfl rfl (Nat.le_of_ble_eq_true rfl) (by decide) (by decide) hKQ4 (fun z4 w4 M4 hq => ?_)
  have h := h z4 w4 M4 hq
  refine s_aload_n C dX10_isRule_12 rfl ?_
  refine s_bipush C dX10_isRule_13 ⟨rfl, by decide, by decide⟩ ?_
  refine s_iload_n C dX10_isRule_15 rfl ?_
  obtain ⟨o5, h⟩ := h
  refine s_imul C dX10_isRule_16 o5 ?_
  refine WA.fix (fun hF6 => ?_)
  refine pf_X10_226 C (sh_41 hF6) (fun _ => by decide) dX10_isRule_17 ?_
  refine s_aload_n C dX10_isRule_20 rfl ?_
  refine gf_X10_226 (v0 := (40 * l1)) C (sh_41 hF6) dX10_isRule_21 (up_eq) ?_
  refine s_aload_n C dX10_isRule_24 rfl ?_
  refine WA.fix (fun hF7 => ?_)
  refine gf_X10_55 C (sh_41 hF6) dX10_isRule_25 (fx_41_19 hF7) ?_
  refine s_iload_n C dX10_isRule_28 rfl ?_
  obtain ⟨o8, h⟩ := h
  obtain ⟨o9, h⟩ := h
  refine s_iald (v0 := (M4 57 l1)) C (sh_57 hF7) o8 o9 dX10_isRule_29 (up_na (by decide)) ?_
  obtain ⟨o10, h⟩ := h
  refine s_iadd C dX10_isRule_30 o10 ?_
  refine s_istore (ls' := [(2, 41), (0, l1), (0, l2), (0, 0), (0, ((40 * l1) + (M4 57 l1))), (3, 0)]) C dX10_isRule_31 (by decide) rfl rfl ?_
  exact WA.wk h ⟨Or.inr rfl, Or.inl rfl, Or.inl rfl, Or.inr rfl, Or.inr rfl, Or.inl rfl, trivial⟩
set_option maxHeartbeats 4000000 in
set_option maxRecDepth 100000 in
theorem B_X10_isRule_33 {G : GP} {X : BX} {P : Int → NS → MM → Prop} {l3 : Int} {l4 : Int} {w : NS} {M : MM} (C : CX_X10_isRule G X) (h : (((l4 ≤ (M 41 30)) → ((((M 64 0) ≠ 0) → P 1 w M) ∧ ((¬ ((M 64 0) ≠ 0)) → ((((M 65 0) = 0) → P 0 w M) ∧ ((¬ ((M 65 0) = 0)) → P 1 w M))))) ∧ ((¬ (l4 ≤ (M 41 30))) → (0 ≤ (M 41 30)) ∧ ((M 41 30) < 440) ∧ (((¬ (48 ≤ (M 56 (M 41 30)) ∧ (M 56 (M 41 30)) ≤ 57)) → (inR ((M 41 30) + 1)) ∧ ((((M 56 (M 41 30)) ≠ 33) → ((((M 56 (M 41 30)) ≠ 40) → ((((M 56 (M 41 30)) ≠ 41) → ((((M 56 (M 41 30)) ≠ 124) → A_X10_isRule_33 G X P l3 l4 w (up M 41 30 ((M 41 30) + 1))) ∧ ((¬ ((M 56 (M 41 30)) ≠ 124)) → (0 ≤ l3) ∧ (l3 < 10) ∧ ((((M 64 l3) ≠ 0) → A_X10_isRule_33 G X P l3 l4 w (up (up (up M 41 30 ((M 41 30) + 1)) 64 l3 1) 65 l3 1)) ∧ ((¬ ((M 64 l3) ≠ 0)) → ((((M 65 l3) = 0) → A_X10_isRule_33 G X P l3 l4 w (up (up (up M 41 30 ((M 41 30) + 1)) 64 l3 0) 65 l3 1)) ∧ ((¬ ((M 65 l3) = 0)) → A_X10_isRule_33 G X P l3 l4 w (up (up (up M 41 30 ((M 41 30) + 1)) 64 l3 1) 65 l3 1)))))))) ∧ ((¬ ((M 56 (M 41 30)) ≠ 41)) → (inR (l3 + (-1))) ∧ (inR ((l3 + (-1)) + 1)) ∧ (0 ≤ ((l3 + (-1)) + 1)) ∧ (((l3 + (-1)) + 1) < 10) ∧ ((((M 64 ((l3 + (-1)) + 1)) ≠ 0) → ∃ Q17 : Int → NS → MM → Prop, CT_X10_join G X.2.1 [(2, 41), (0, (l3 + (-1))), (0, 1)] w (up M 41 30 ((M 41 30) + 1)) Q17 ∧ ∀ (z17 : Int) (w17 : NS) (M17 : MM), Q17 z17 w17 M17 → A_X10_isRule_33 G X P (l3 + (-1)) l4 w17 M17) ∧ ((¬ ((M 64 ((l3 + (-1)) + 1)) ≠ 0)) → ((((M 65 ((l3 + (-1)) + 1)) = 0) → ∃ Q18 : Int → NS → MM → Prop, CT_X10_join G X.2.1 [(2, 41), (0, (l3 + (-1))), (0, 0)] w (up M 41 30 ((M 41 30) + 1)) Q18 ∧ ∀ (z18 : Int) (w18 : NS) (M18 : MM), Q18 z18 w18 M18 → A_X10_isRule_33 G X P (l3 + (-1)) l4 w18 M18) ∧ ((¬ ((M 65 ((l3 + (-1)) + 1)) = 0)) → ∃ Q19 : Int → NS → MM → Prop, CT_X10_join G X.2.1 [(2, 41), (0, (l3 + (-1))), (0, 1)] w (up M 41 30 ((M 41 30) + 1)) Q19 ∧ ∀ (z19 : Int) (w19 : NS) (M19 : MM), Q19 z19 w19 M19 → A_X10_isRule_33 G X P (l3 + (-1)) l4 w19 M19))))))) ∧ ((¬ ((M 56 (M 41 30)) ≠ 40)) → (inR (l3 + 1)) ∧ ∃ Q21 : Int → NS → MM → Prop, CT_X10_begin G X.2.1 [(2, 41), (0, (l3 + 1))] w (up M 41 30 ((M 41 30) + 1)) Q21 ∧ ∀ (z21 : Int) (w21 : NS) (M21 : MM), Q21 z21 w21 M21 → A_X10_isRule_33 G X P (l3 + 1) l4 w21 M21))) ∧ ((¬ ((M 56 (M 41 30)) ≠ 33)) → (0 ≤ l3) ∧ (l3 < 10) ∧ ((((M 66 l3) ≠ 0) → A_X10_isRule_33 G X P l3 l4 w (up (up M 41 30 ((M 41 30) + 1)) 66 l3 0)) ∧ ((¬ ((M 66 l3) ≠ 0)) → A_X10_isRule_33 G X P l3 l4 w (up (up M 41 30 ((M 41 30) + 1)) 66 l3 1)))))) ∧ (((48 ≤ (M 56 (M 41 30)) ∧ (M 56 (M 41 30)) ≤ 57)) → ∃ Q25 : Int → NS → MM → Prop, CT_X10_isItem G X.2.1 [(2, 41), (0, l4)] w M Q25 ∧ ∀ (z25 : Int) (w25 : NS) (M25 : MM), Q25 z25 w25 M25 → ∃ Q27 : Int → NS → MM → Prop, CT_X10_join G X.2.1 [(2, 41), (0, l3), (0, z25)] w25 M25 Q27 ∧ ∀ (z27 : Int) (w27 : NS) (M27 : MM), Q27 z27 w27 M27 → A_X10_isRule_33 G X P l3 l4 w27 M27))))) : A_X10_isRule_33 G X P l3 l4 w M := by
  unfold A_X10_isRule_33
  refine s_aload_n C dX10_isRule_33 rfl ?_
  refine WA.fix (fun hF1 => ?_)
  refine gf_X10_226 (v0 := (M 41 30)) C (sh_41 hF1) dX10_isRule_34 rfl ?_
  refine s_iload C dX10_isRule_37 rfl ?_
  refine s_icmpge C dX10_isRule_39 rfl (fun hc => ?_) (fun hc => ?_)
  · have h := h.1 hc
    refine s_aload_n C dX10_isRule_224 rfl ?_
    refine gf_X10_77 C (sh_41 hF1) dX10_isRule_225 (fx_41_27 hF1) ?_
    refine s_iconst C dX10_isRule_228 (by decide) ?_
    refine s_zald (v0 := (M 64 0)) C (sh_64 hF1) (by decide) (by decide) dX10_isRule_229 rfl ?_
    refine s_ifne C dX10_isRule_230 rfl (fun hc => ?_) (fun hc => ?_)
    · have h := h.1 hc
      refine s_iconst C dX10_isRule_242 (by decide) ?_
      refine s_goto C dX10_isRule_243 rfl ?_
      exact s_zreturn C dX10_isRule_247 (by decide) h
    · have h := h.2 hc
      refine s_aload_n C dX10_isRule_233 rfl ?_
      refine gf_X10_80 C (sh_41 hF1) dX10_isRule_234 (fx_41_28 hF1) ?_
      refine s_iconst C dX10_isRule_237 (by decide) ?_
      refine s_zald (v0 := (M 65 0)) C (sh_65 hF1) (by decide) (by decide) dX10_isRule_238 rfl ?_
      refine s_ifeq C dX10_isRule_239 rfl (fun hc => ?_) (fun hc => ?_)
      · have h := h.1 hc
        refine s_iconst C dX10_isRule_246 (by decide) ?_
        exact s_zreturn C dX10_isRule_247 (by decide) h
      · have h := h.2 hc
        refine s_iconst C dX10_isRule_242 (by decide) ?_
        refine s_goto C dX10_isRule_243 rfl ?_
        exact s_zreturn C dX10_isRule_247 (by decide) h
  · have h := h.2 hc
    refine s_aload_n C dX10_isRule_42 rfl ?_
    refine gf_X10_52 C (sh_41 hF1) dX10_isRule_43 (fx_41_18 hF1) ?_
    refine s_aload_n C dX10_isRule_46 rfl ?_
    refine gf_X10_226 (v0 := (M 41 30)) C (sh_41 hF1) dX10_isRule_47 rfl ?_
    obtain ⟨o2, h⟩ := h
    obtain ⟨o3, h⟩ := h
    refine s_iald (v0 := (M 56 (M 41 30))) C (sh_56 hF1) o2 o3 dX10_isRule_50 rfl ?_
    refine s_istore (ls' := [(2, 41), (3, 0), (3, 0), (0, l3), (0, l4), (0, (M 56 (M 41 30)))]) C dX10_isRule_51 (by decide) rfl rfl ?_
    refine s_iload C dX10_isRule_53 rfl ?_
    refine s_callS (av := [(0, (M 56 (M 41 30)))]) (rest := []) (mc := 0) (ms := 0) C dX10_isRule_55 lk_X10_209 rfl rfl (Nat.le_of_ble_eq_true rfl) (by decide) (by decide) (pc_X10_isDigit) (fun z4 wz4 Mz4 hq => ?_)
    obtain ⟨hq1, hq2, hq3⟩ := hq
    have hq2 := hq2.symm
    have hq3 := hq3.symm
    subst hq1 hq2 hq3
    refine s_ifeq C dX10_isRule_58 rfl (fun hc => ?_) (fun hc => ?_)
    · have h := h.1 (b2i_0.mp hc)
      refine s_aload_n C dX10_isRule_75 rfl ?_
      refine s_dup C (by simp) dX10_isRule_76 ?_
      refine gf_X10_226 (v0 := (M 41 30)) C (sh_41 hF1) dX10_isRule_77 rfl ?_
      refine s_iconst C dX10_isRule_80 (by decide) ?_
      obtain ⟨o5, h⟩ := h
      refine s_iadd C dX10_isRule_81 o5 ?_
      refine pf_X10_226 C (sh_41 hF1) (fun _ => by decide) dX10_isRule_82 ?_
      refine s_iload C dX10_isRule_85 rfl ?_
      refine s_bipush C dX10_isRule_87 ⟨rfl, by decide, by decide⟩ ?_
      refine s_icmpne C dX10_isRule_89 rfl (fun hc => ?_) (fun hc => ?_)
      · have h := h.1 hc
        refine s_iload C dX10_isRule_115 rfl ?_
        refine s_bipush C dX10_isRule_117 ⟨rfl, by decide, by decide⟩ ?_
        refine s_icmpne C dX10_isRule_119 rfl (fun hc => ?_) (fun hc => ?_)
        · have h := h.1 hc
          refine s_iload C dX10_isRule_133 rfl ?_
          refine s_bipush C dX10_isRule_135 ⟨rfl, by decide, by decide⟩ ?_
          refine s_icmpne C dX10_isRule_137 rfl (fun hc => ?_) (fun hc => ?_)
          · have h := h.1 hc
            refine s_iload C dX10_isRule_178 rfl ?_
            refine s_bipush C dX10_isRule_180 ⟨rfl, by decide, by decide⟩ ?_
            refine s_icmpne C dX10_isRule_182 rfl (fun hc => ?_) (fun hc => ?_)
            · have h := h.1 hc
              refine s_goto C dX10_isRule_221 rfl ?_
              exact WA.wk h ⟨Or.inr rfl, Or.inl rfl, Or.inl rfl, Or.inr rfl, Or.inr rfl, Or.inl rfl, trivial⟩
            · have h := h.2 hc
              refine s_aload_n C dX10_isRule_185 rfl ?_
              refine WA.fix (fun hF6 => ?_)
              refine gf_X10_77 C (sh_41 hF1) dX10_isRule_186 (fx_41_27 hF6) ?_
              refine s_iload_n C dX10_isRule_189 rfl ?_
              refine s_aload_n C dX10_isRule_190 rfl ?_
              refine gf_X10_77 C (sh_41 hF1) dX10_isRule_191 (fx_41_27 hF6) ?_
              refine s_iload_n C dX10_isRule_194 rfl ?_
              obtain ⟨o7, h⟩ := h
              obtain ⟨o8, h⟩ := h
              refine s_zald (v0 := (M 64 l3)) C (sh_64 hF6) o7 o8 dX10_isRule_195 (up_na (by decide)) ?_
              refine s_ifne C dX10_isRule_196 rfl (fun hc => ?_) (fun hc => ?_)
              · have h := h.1 hc
                refine s_iconst C dX10_isRule_208 (by decide) ?_
                refine s_goto C dX10_isRule_209 rfl ?_
                refine s_zast C (sh_64 hF6) o7 o8 (by decide) (fun _ => by decide) dX10_isRule_213 ?_
                refine s_aload_n C dX10_isRule_214 rfl ?_
                refine WA.fix (fun hF9 => ?_)
                refine gf_X10_80 C (sh_41 hF1) dX10_isRule_215 (fx_41_28 hF9) ?_
                refine s_iload_n C dX10_isRule_218 rfl ?_
                refine s_iconst C dX10_isRule_219 (by decide) ?_
                refine s_zast C (sh_65 hF9) o7 o8 (by decide) (fun _ => by decide) dX10_isRule_220 ?_
                refine s_goto C dX10_isRule_221 rfl ?_
                exact WA.wk h ⟨Or.inr rfl, Or.inl rfl, Or.inl rfl, Or.inr rfl, Or.inr rfl, Or.inl rfl, trivial⟩
              · have h := h.2 hc
                refine s_aload_n C dX10_isRule_199 rfl ?_
                refine gf_X10_80 C (sh_41 hF1) dX10_isRule_200 (fx_41_28 hF6) ?_
                refine s_iload_n C dX10_isRule_203 rfl ?_
                refine s_zald (v0 := (M 65 l3)) C (sh_65 hF6) o7 o8 dX10_isRule_204 (up_na (by decide)) ?_
                refine s_ifeq C dX10_isRule_205 rfl (fun hc => ?_) (fun hc => ?_)
                · have h := h.1 hc
                  refine s_iconst C dX10_isRule_212 (by decide) ?_
                  refine s_zast C (sh_64 hF6) o7 o8 (by decide) (fun _ => by decide) dX10_isRule_213 ?_
                  refine s_aload_n C dX10_isRule_214 rfl ?_
                  refine WA.fix (fun hF10 => ?_)
                  refine gf_X10_80 C (sh_41 hF1) dX10_isRule_215 (fx_41_28 hF10) ?_
                  refine s_iload_n C dX10_isRule_218 rfl ?_
                  refine s_iconst C dX10_isRule_219 (by decide) ?_
                  refine s_zast C (sh_65 hF6) o7 o8 (by decide) (fun _ => by decide) dX10_isRule_220 ?_
                  refine s_goto C dX10_isRule_221 rfl ?_
                  exact WA.wk h ⟨Or.inr rfl, Or.inl rfl, Or.inl rfl, Or.inr rfl, Or.inr rfl, Or.inl rfl, trivial⟩
                · have h := h.2 hc
                  refine s_iconst C dX10_isRule_208 (by decide) ?_
                  refine s_goto C dX10_isRule_209 rfl ?_
                  refine s_zast C (sh_64 hF6) o7 o8 (by decide) (fun _ => by decide) dX10_isRule_213 ?_
                  refine s_aload_n C dX10_isRule_214 rfl ?_
                  refine WA.fix (fun hF11 => ?_)
                  refine gf_X10_80 C (sh_41 hF1) dX10_isRule_215 (fx_41_28 hF11) ?_
                  refine s_iload_n C dX10_isRule_218 rfl ?_
                  refine s_iconst C dX10_isRule_219 (by decide) ?_
                  refine s_zast C (sh_65 hF6) o7 o8 (by decide) (fun _ => by decide) dX10_isRule_220 ?_
                  refine s_goto C dX10_isRule_221 rfl ?_
                  exact WA.wk h ⟨Or.inr rfl, Or.inl rfl, Or.inl rfl, Or.inr rfl, Or.inr rfl, Or.inl rfl, trivial⟩
          · have h := h.2 hc
            obtain ⟨o12, h⟩ := h
            refine s_iinc (ls' := [(2, 41), (3, 0), (3, 0), (0, (l3 + (-1))), (0, l4), (0, (M 56 (M 41 30)))]) C dX10_isRule_140 (by decide) rfl o12 rfl rfl ?_
            refine s_aload_n C dX10_isRule_143 rfl ?_
            refine s_iload_n C dX10_isRule_144 rfl ?_
            refine s_aload_n C dX10_isRule_145 rfl ?_
            refine WA.fix (fun hF13 => ?_)
            refine gf_X10_77 C (sh_41 hF1) dX10_isRule_146 (fx_41_27 hF13) ?_
            refine s_iload_n C dX10_isRule_149 rfl ?_
            refine s_iconst C dX10_isRule_150 (by decide) ?_
            obtain ⟨o14, h⟩ := h
            refine s_iadd C dX10_isRule_151 o14 ?_
            obtain ⟨o15, h⟩ := h
            obtain ⟨o16, h⟩ := h
            refine s_zald (v0 := (M 64 ((l3 + (-1)) + 1))) C (sh_64 hF13) o15 o16 dX10_isRule_152 (up_na (by decide)) ?_
            refine s_ifne C dX10_isRule_153 rfl (fun hc => ?_) (fun hc => ?_)
            · have h := h.1 hc
              refine s_iconst C dX10_isRule_167 (by decide) ?_
              refine s_goto C dX10_isRule_168 rfl ?_
              obtain ⟨Q17, hKQ17, h⟩ := h
              refine s_callV (ci := 10) (av := [(0, (l3 + (-1))), (0, 1)]) (rest := []) (mc := 0) (ms := 0) C dX10_isRule_172 lk_X10_245 (sh_41 hF1) (by decide) rfl rfl rfl (Nat.le_of_ble_eq_true rfl) (by decide) (by decide) hKQ17 (fun z17 w17 M17 hq => ?_)
              have h := h z17 w17 M17 hq
              refine s_goto C dX10_isRule_175 rfl ?_
              refine s_goto C dX10_isRule_221 rfl ?_
              exact WA.wk h ⟨Or.inr rfl, Or.inl rfl, Or.inl rfl, Or.inr rfl, Or.inr rfl, Or.inl rfl, trivial⟩
            · have h := h.2 hc
              refine s_aload_n C dX10_isRule_156 rfl ?_
              refine gf_X10_80 C (sh_41 hF1) dX10_isRule_157 (fx_41_28 hF13) ?_
              refine s_iload_n C dX10_isRule_160 rfl ?_
              refine s_iconst C dX10_isRule_161 (by decide) ?_
              refine s_iadd C dX10_isRule_162 o14 ?_
              refine s_zald (v0 := (M 65 ((l3 + (-1)) + 1))) C (sh_65 hF13) o15 o16 dX10_isRule_163 (up_na (by decide)) ?_
              refine s_ifeq C dX10_isRule_164 rfl (fun hc => ?_) (fun hc => ?_)
              · have h := h.1 hc
                refine s_iconst C dX10_isRule_171 (by decide) ?_
                obtain ⟨Q18, hKQ18, h⟩ := h
                refine s_callV (ci := 10) (av := [(0, (l3 + (-1))), (0, 0)]) (rest := []) (mc := 0) (ms := 0) C dX10_isRule_172 lk_X10_245 (sh_41 hF1) (by decide) rfl rfl rfl (Nat.le_of_ble_eq_true rfl) (by decide) (by decide) hKQ18 (fun z18 w18 M18 hq => ?_)
                have h := h z18 w18 M18 hq
                refine s_goto C dX10_isRule_175 rfl ?_
                refine s_goto C dX10_isRule_221 rfl ?_
                exact WA.wk h ⟨Or.inr rfl, Or.inl rfl, Or.inl rfl, Or.inr rfl, Or.inr rfl, Or.inl rfl, trivial⟩
              · have h := h.2 hc
                refine s_iconst C dX10_isRule_167 (by decide) ?_
                refine s_goto C dX10_isRule_168 rfl ?_
                obtain ⟨Q19, hKQ19, h⟩ := h
                refine s_callV (ci := 10) (av := [(0, (l3 + (-1))), (0, 1)]) (rest := []) (mc := 0) (ms := 0) C dX10_isRule_172 lk_X10_245 (sh_41 hF1) (by decide) rfl rfl rfl (Nat.le_of_ble_eq_true rfl) (by decide) (by decide) hKQ19 (fun z19 w19 M19 hq => ?_)
                have h := h z19 w19 M19 hq
                refine s_goto C dX10_isRule_175 rfl ?_
                refine s_goto C dX10_isRule_221 rfl ?_
                exact WA.wk h ⟨Or.inr rfl, Or.inl rfl, Or.inl rfl, Or.inr rfl, Or.inr rfl, Or.inl rfl, trivial⟩
        · have h := h.2 hc
          obtain ⟨o20, h⟩ := h
          refine s_iinc (ls' := [(2, 41), (3, 0), (3, 0), (0, (l3 + 1)), (0, l4), (0, (M 56 (M 41 30)))]) C dX10_isRule_122 (by decide) rfl o20 rfl rfl ?_
          refine s_aload_n C dX10_isRule_125 rfl ?_
          refine s_iload_n C dX10_isRule_126 rfl ?_
          obtain ⟨Q21, hKQ21, h⟩ := h
          refine s_callV (ci := 10) (av := [(0, (l3 + 1))]) (rest := []) (mc := 0) (ms := 0) C dX10_isRule_127 lk_X10_239 (sh_41 hF1) (by decide) rfl rfl rfl (Nat.le_of_ble_eq_true rfl) (by decide) (by decide) hKQ21 (fun z21 w21 M21 hq => ?_)
          have h := h z21 w21 M21 hq
          refine s_goto C dX10_isRule_130 rfl ?_
          refine s_goto C dX10_isRule_221 rfl ?_
          exact WA.wk h ⟨Or.inr rfl, Or.inl rfl, Or.inl rfl, Or.inr rfl, Or.inr rfl, Or.inl rfl, trivial⟩
      · have h := h.2 hc
        refine s_aload_n C dX10_isRule_92 rfl ?_
        refine WA.fix (fun hF22 => ?_)
        refine gf_X10_83 C (sh_41 hF1) dX10_isRule_93 (fx_41_29 hF22) ?_
        refine s_iload_n C dX10_isRule_96 rfl ?_
        refine s_aload_n C dX10_isRule_97 rfl ?_
        refine gf_X10_83 C (sh_41 hF1) dX10_isRule_98 (fx_41_29 hF22) ?_
        refine s_iload_n C dX10_isRule_101 rfl ?_
        obtain ⟨o23, h⟩ := h
        obtain ⟨o24, h⟩ := h
        refine s_zald (v0 := (M 66 l3)) C (sh_66 hF22) o23 o24 dX10_isRule_102 (up_na (by decide)) ?_
        refine s_ifne C dX10_isRule_103 rfl (fun hc => ?_) (fun hc => ?_)
        · have h := h.1 hc
          refine s_iconst C dX10_isRule_110 (by decide) ?_
          refine s_zast C (sh_66 hF22) o23 o24 (by decide) (fun _ => by decide) dX10_isRule_111 ?_
          refine s_goto C dX10_isRule_112 rfl ?_
          refine s_goto C dX10_isRule_221 rfl ?_
          exact WA.wk h ⟨Or.inr rfl, Or.inl rfl, Or.inl rfl, Or.inr rfl, Or.inr rfl, Or.inl rfl, trivial⟩
        · have h := h.2 hc
          refine s_iconst C dX10_isRule_106 (by decide) ?_
          refine s_goto C dX10_isRule_107 rfl ?_
          refine s_zast C (sh_66 hF22) o23 o24 (by decide) (fun _ => by decide) dX10_isRule_111 ?_
          refine s_goto C dX10_isRule_112 rfl ?_
          refine s_goto C dX10_isRule_221 rfl ?_
          exact WA.wk h ⟨Or.inr rfl, Or.inl rfl, Or.inl rfl, Or.inr rfl, Or.inr rfl, Or.inl rfl, trivial⟩
    · have h := h.2 (b2i_n0 hc)
      refine s_aload_n C dX10_isRule_61 rfl ?_
      refine s_iload_n C dX10_isRule_62 rfl ?_
      refine s_aload_n C dX10_isRule_63 rfl ?_
      refine s_iload C dX10_isRule_64 rfl ?_
      obtain ⟨Q25, hKQ25, h⟩ := h
      refine s_callV (ci := 10) (av := [(0, l4)]) (rest := [(0, l3), (2, 41)]) (mc := 0) (ms := 0) C dX10_isRule_66 lk_X10_242 (sh_41 hF1) (by decide) rfl rfl rfl (Nat.le_of_ble_eq_true rfl) (by decide) (by decide) hKQ25 (fun z25 w25 M25 hq => ?_)
      have h := h z25 w25 M25 hq
      refine WA.fix (fun hF26 => ?_)
      obtain ⟨Q27, hKQ27, h⟩ := h
      refine s_callV (ci := 10) (av := [(0, l3), (0, z25)]) (rest := []) (mc := 0) (ms := 0) C dX10_isRule_69 lk_X10_245 (sh_41 hF26) (by decide) rfl rfl rfl (Nat.le_of_ble_eq_true rfl) (by decide) (by decide) hKQ27 (fun z27 w27 M27 hq => ?_)
      have h := h z27 w27 M27 hq
      refine s_goto C dX10_isRule_72 rfl ?_
      refine s_goto C dX10_isRule_221 rfl ?_
      exact WA.wk h ⟨Or.inr rfl, Or.inl rfl, Or.inl rfl, Or.inr rfl, Or.inr rfl, Or.inl rfl, trivial⟩
theorem E_X10_isRule {G : GP} {l : Launch} {P : Int → NS → MM → Prop} {l1 : Int} {l2 : Int} {w : NS} {M : MM} (h : inR l1 → inR l2 → ∀ X : BX, X.2.1 = l → CX_X10_isRule G X → A_X10_isRule_0 G X P l1 l2 w M) : CT_X10_isRule G l [(2, 41), (0, l1), (0, l2)] w M P :=
  CT.of RX10 "isRule" (by decide +kernel) rfl rfl rfl (Nat.le_of_ble_eq_true rfl) (fun hr X hX C => h (hr (0, l1) (by simp)) (hr (0, l2) (by simp)) X hX C)
def A_X10_doesWant_0 (G : GP) (X : BX) (P : Int → NS → MM → Prop) (l1 : Int) (l2 : Int) (w : NS) (M : MM) : Prop := WA true G X (QM G X true 0 P) 4 0 [(2, 41), (0, l1), (0, l2), (3, 0)] [] 0 0 w M
set_option maxHeartbeats 4000000 in
set_option maxRecDepth 100000 in
theorem B_X10_doesWant_0 {G : GP} {X : BX} {P : Int → NS → MM → Prop} {l1 : Int} {l2 : Int} {w : NS} {M : MM} (C : CX_X10_doesWant G X) (h : (0 ≤ l2) ∧ (l2 < 24) ∧ (0 ≤ l1) ∧ (l1 < 10) ∧ (0 ≤ (M 46 l2)) ∧ ((M 46 l2) < 8) ∧ ((((zand (zshr (M 59 l1) (M 43 (M 46 l2))) 1) ≠ 1) → P 0 w M) ∧ ((¬ ((zand (zshr (M 59 l1) (M 43 (M 46 l2))) 1) ≠ 1)) → (((¬ ((M 60 l1) ≤ (M 44 (M 46 l2)) ∧ (M 44 (M 46 l2)) ≤ (M 61 l1))) → P 0 w M) ∧ ((((M 60 l1) ≤ (M 44 (M 46 l2)) ∧ (M 44 (M 46 l2)) ≤ (M 61 l1))) → ∃ Q9 : Int → NS → MM → Prop, CT_X10_isRule G X.2.1 [(2, 41), (0, l1), (0, l2)] w M Q9 ∧ ∀ (z9 : Int) (w9 : NS) (M9 : MM), Q9 z9 w9 M9 → (((z9 = 0) → P 0 w9 M9) ∧ ((¬ (z9 = 0)) → P 1 w9 M9))))))) : A_X10_doesWant_0 G X P l1 l2 w M := by
  unfold A_X10_doesWant_0
  refine s_aload_n C dX10_doesWant_0 rfl ?_
  refine WA.fix (fun hF1 => ?_)
  refine gf_X10_22 C (sh_41 hF1) dX10_doesWant_1 (fx_41_5 hF1) ?_
  refine s_iload_n C dX10_doesWant_4 rfl ?_
  obtain ⟨o2, h⟩ := h
  obtain ⟨o3, h⟩ := h
  refine s_iald (v0 := (M 46 l2)) C (sh_46 hF1) o2 o3 dX10_doesWant_5 rfl ?_
  refine s_istore_n (ls' := [(2, 41), (0, l1), (0, l2), (0, (M 46 l2))]) C dX10_doesWant_6 (by decide) rfl rfl ?_
  refine s_aload_n C dX10_doesWant_7 rfl ?_
  refine gf_X10_61 C (sh_41 hF1) dX10_doesWant_8 (fx_41_21 hF1) ?_
  refine s_iload_n C dX10_doesWant_11 rfl ?_
  obtain ⟨o4, h⟩ := h
  obtain ⟨o5, h⟩ := h
  refine s_iald (v0 := (M 59 l1)) C (sh_59 hF1) o4 o5 dX10_doesWant_12 rfl ?_
  refine s_aload_n C dX10_doesWant_13 rfl ?_
  refine gf_X10_13 C (sh_41 hF1) dX10_doesWant_14 (fx_41_1 hF1) ?_
  refine s_iload_n C dX10_doesWant_17 rfl ?_
  obtain ⟨o6, h⟩ := h
  obtain ⟨o7, h⟩ := h
  refine s_iald (v0 := (M 43 (M 46 l2))) C (sh_43 hF1) o6 o7 dX10_doesWant_18 rfl ?_
  refine s_ishr C dX10_doesWant_19 ?_
  refine s_iconst C dX10_doesWant_20 (by decide) ?_
  refine s_iand C dX10_doesWant_21 ?_
  refine s_iconst C dX10_doesWant_22 (by decide) ?_
  refine s_icmpne C dX10_doesWant_23 rfl (fun hc => ?_) (fun hc => ?_)
  · have h := h.1 hc
    refine s_iconst C dX10_doesWant_66 (by decide) ?_
    exact s_zreturn C dX10_doesWant_67 (by decide) h
  · have h := h.2 hc
    refine s_aload_n C dX10_doesWant_26 rfl ?_
    refine gf_X10_16 C (sh_41 hF1) dX10_doesWant_27 (fx_41_2 hF1) ?_
    refine s_iload_n C dX10_doesWant_30 rfl ?_
    refine s_iald (v0 := (M 44 (M 46 l2))) C (sh_44 hF1) o6 o7 dX10_doesWant_31 rfl ?_
    refine s_i2l C dX10_doesWant_32 ?_
    refine s_aload_n C dX10_doesWant_33 rfl ?_
    refine gf_X10_64 C (sh_41 hF1) dX10_doesWant_34 (fx_41_22 hF1) ?_
    refine s_iload_n C dX10_doesWant_37 rfl ?_
    refine s_iald (v0 := (M 60 l1)) C (sh_60 hF1) o4 o5 dX10_doesWant_38 rfl ?_
    refine s_i2l C dX10_doesWant_39 ?_
    refine s_aload_n C dX10_doesWant_40 rfl ?_
    refine gf_X10_67 C (sh_41 hF1) dX10_doesWant_41 (fx_41_23 hF1) ?_
    refine s_iload_n C dX10_doesWant_44 rfl ?_
    refine s_iald (v0 := (M 61 l1)) C (sh_61 hF1) o4 o5 dX10_doesWant_45 rfl ?_
    refine s_i2l C dX10_doesWant_46 ?_
    refine s_callS (av := [(1, (M 44 (M 46 l2))), (1, (M 60 l1)), (1, (M 61 l1))]) (rest := []) (mc := 0) (ms := 0) C dX10_doesWant_47 lk_X10_139 rfl rfl (Nat.le_of_ble_eq_true rfl) (by decide) (by decide) (pc_X10_in) (fun z8 wz8 Mz8 hq => ?_)
    obtain ⟨hq1, hq2, hq3⟩ := hq
    have hq2 := hq2.symm
    have hq3 := hq3.symm
    subst hq1 hq2 hq3
    refine s_ifeq C dX10_doesWant_50 rfl (fun hc => ?_) (fun hc => ?_)
    · have h := h.1 (b2i_0.mp hc)
      refine s_iconst C dX10_doesWant_66 (by decide) ?_
      exact s_zreturn C dX10_doesWant_67 (by decide) h
    · have h := h.2 (b2i_n0 hc)
      refine s_aload_n C dX10_doesWant_53 rfl ?_
      refine s_iload_n C dX10_doesWant_54 rfl ?_
      refine s_iload_n C dX10_doesWant_55 rfl ?_
      obtain ⟨Q9, hKQ9, h⟩ := h
      refine s_callV (ci := 10) (av := [(0, l1), (0, l2)]) (rest := []) (mc := 0) (ms := 0) C dX10_doesWant_56 lk_X10_249 (sh_41 hF1) (by decide) rfl rfl rfl (Nat.le_of_ble_eq_true rfl) (by decide) (by decide) hKQ9 (fun z9 w9 M9 hq => ?_)
      have h := h z9 w9 M9 hq
      refine s_ifeq C dX10_doesWant_59 rfl (fun hc => ?_) (fun hc => ?_)
      · have h := h.1 hc
        refine s_iconst C dX10_doesWant_66 (by decide) ?_
        exact s_zreturn C dX10_doesWant_67 (by decide) h
      · have h := h.2 hc
        refine s_iconst C dX10_doesWant_62 (by decide) ?_
        refine s_goto C dX10_doesWant_63 rfl ?_
        exact s_zreturn C dX10_doesWant_67 (by decide) h
theorem E_X10_doesWant {G : GP} {l : Launch} {P : Int → NS → MM → Prop} {l1 : Int} {l2 : Int} {w : NS} {M : MM} (h : inR l1 → inR l2 → ∀ X : BX, X.2.1 = l → CX_X10_doesWant G X → A_X10_doesWant_0 G X P l1 l2 w M) : CT_X10_doesWant G l [(2, 41), (0, l1), (0, l2)] w M P :=
  CT.of RX10 "doesWant" (by decide +kernel) rfl rfl rfl (Nat.le_of_ble_eq_true rfl) (fun hr X hX C => h (hr (0, l1) (by simp)) (hr (0, l2) (by simp)) X hX C)
def A_X10_wants_0 (G : GP) (X : BX) (P : Int → NS → MM → Prop) (l1 : Int) (l2 : Int) (l3 : Int) (w : NS) (M : MM) : Prop := WA true G X (QM G X true 0 P) 5 0 [(2, 41), (0, l1), (0, l2), (0, l3), (3, 0)] [] 0 0 w M
set_option maxHeartbeats 4000000 in
set_option maxRecDepth 100000 in
theorem B_X10_wants_0 {G : GP} {X : BX} {P : Int → NS → MM → Prop} {l1 : Int} {l2 : Int} {l3 : Int} {w : NS} {M : MM} (C : CX_X10_wants G X) (h : (0 ≤ M 41 26) ∧ (((¬ (0 ≤ l1 ∧ l1 < M 41 26)) → P (-1) w M) ∧ (((0 ≤ l1 ∧ l1 < M 41 26)) → (0 ≤ M 41 12) ∧ ((((0 ≤ l2 ∧ l2 < M 41 12)) → ((((0 ≤ l3 ∧ l3 ≤ 1)) → (((l3 ≠ 0) → ∃ Q7 : Int → NS → MM → Prop, CT_X10_isRule G X.2.1 [(2, 41), (0, l1), (0, l2)] w M Q7 ∧ ∀ (z7 : Int) (w7 : NS) (M7 : MM), Q7 z7 w7 M7 → (((z7 = 0) → P 0 w7 M7) ∧ ((¬ (z7 = 0)) → P 1 w7 M7))) ∧ ((¬ (l3 ≠ 0)) → ∃ Q8 : Int → NS → MM → Prop, CT_X10_doesWant G X.2.1 [(2, 41), (0, l1), (0, l2)] w M Q8 ∧ ∀ (z8 : Int) (w8 : NS) (M8 : MM), Q8 z8 w8 M8 → (((z8 = 0) → P 0 w8 M8) ∧ ((¬ (z8 = 0)) → P 1 w8 M8))))) ∧ ((¬ (0 ≤ l3 ∧ l3 ≤ 1)) → P (-2) w M))) ∧ ((¬ (0 ≤ l2 ∧ l2 < M 41 12)) → P (-1) w M))))) : A_X10_wants_0 G X P l1 l2 l3 w M := by
  unfold A_X10_wants_0
  refine s_aload_n C dX10_wants_0 rfl ?_
  refine s_iload_n C dX10_wants_1 rfl ?_
  refine WA.fix (fun hF1 => ?_)
  obtain ⟨o2, h⟩ := h
  refine s_callV (ci := 10) (av := [(0, l1)]) (rest := []) (mc := 0) (ms := 0) C dX10_wants_2 lk_X10_252 (sh_41 hF1) (by decide) rfl rfl rfl (Nat.le_of_ble_eq_true rfl) (by decide) (by decide) (pc_X10_isOrder o2) (fun z3 wz3 Mz3 hq => ?_)
  obtain ⟨hq1, hq2, hq3⟩ := hq
  have hq2 := hq2.symm
  have hq3 := hq3.symm
  subst hq1 hq2 hq3
  refine s_ifeq C dX10_wants_5 rfl (fun hc => ?_) (fun hc => ?_)
  · have h := h.1 (b2i_0.mp hc)
    refine s_iconst C dX10_wants_16 (by decide) ?_
    exact s_ireturn C dX10_wants_17 h
  · have h := h.2 (b2i_n0 hc)
    refine s_aload_n C dX10_wants_8 rfl ?_
    refine s_iload_n C dX10_wants_9 rfl ?_
    obtain ⟨o4, h⟩ := h
    refine s_callV (ci := 10) (av := [(0, l2)]) (rest := []) (mc := 0) (ms := 0) C dX10_wants_10 lk_X10_186 (sh_41 hF1) (by decide) rfl rfl rfl (Nat.le_of_ble_eq_true rfl) (by decide) (by decide) (pc_X10_isPiece o4) (fun z5 wz5 Mz5 hq => ?_)
    obtain ⟨hq1, hq2, hq3⟩ := hq
    have hq2 := hq2.symm
    have hq3 := hq3.symm
    subst hq1 hq2 hq3
    refine s_ifne C dX10_wants_13 rfl (fun hc => ?_) (fun hc => ?_)
    · have h := h.1 (b2i_n0 hc)
      refine s_iload_n C dX10_wants_18 rfl ?_
      refine s_i2l C dX10_wants_19 ?_
      refine s_lconst (z := 0) C dX10_wants_20 ⟨rfl, by decide⟩ ?_
      refine s_lconst (z := 1) C dX10_wants_21 ⟨rfl, by decide⟩ ?_
      refine s_callS (av := [(1, l3), (1, 0), (1, 1)]) (rest := []) (mc := 0) (ms := 0) C dX10_wants_22 lk_X10_139 rfl rfl (Nat.le_of_ble_eq_true rfl) (by decide) (by decide) (pc_X10_in) (fun z6 wz6 Mz6 hq => ?_)
      obtain ⟨hq1, hq2, hq3⟩ := hq
      have hq2 := hq2.symm
      have hq3 := hq3.symm
      subst hq1 hq2 hq3
      refine s_ifne C dX10_wants_25 rfl (fun hc => ?_) (fun hc => ?_)
      · have h := h.1 (b2i_n0 hc)
        refine s_iload_n C dX10_wants_31 rfl ?_
        refine s_ifne C dX10_wants_32 rfl (fun hc => ?_) (fun hc => ?_)
        · have h := h.1 hc
          refine s_aload_n C dX10_wants_44 rfl ?_
          refine s_iload_n C dX10_wants_45 rfl ?_
          refine s_iload_n C dX10_wants_46 rfl ?_
          obtain ⟨Q7, hKQ7, h⟩ := h
          refine s_callV (ci := 10) (av := [(0, l1), (0, l2)]) (rest := []) (mc := 0) (ms := 0) C dX10_wants_47 lk_X10_249 (sh_41 hF1) (by decide) rfl rfl rfl (Nat.le_of_ble_eq_true rfl) (by decide) (by decide) hKQ7 (fun z7 w7 M7 hq => ?_)
          have h := h z7 w7 M7 hq
          refine s_istore (ls' := [(2, 41), (0, l1), (0, l2), (0, l3), (0, z7)]) C dX10_wants_50 (by decide) rfl rfl ?_
          refine s_iload C dX10_wants_52 rfl ?_
          refine s_ifeq C dX10_wants_54 rfl (fun hc => ?_) (fun hc => ?_)
          · have h := h.1 hc
            refine s_iconst C dX10_wants_61 (by decide) ?_
            exact s_ireturn C dX10_wants_62 h
          · have h := h.2 hc
            refine s_iconst C dX10_wants_57 (by decide) ?_
            refine s_goto C dX10_wants_58 rfl ?_
            exact s_ireturn C dX10_wants_62 h
        · have h := h.2 hc
          refine s_aload_n C dX10_wants_35 rfl ?_
          refine s_iload_n C dX10_wants_36 rfl ?_
          refine s_iload_n C dX10_wants_37 rfl ?_
          obtain ⟨Q8, hKQ8, h⟩ := h
          refine s_callV (ci := 10) (av := [(0, l1), (0, l2)]) (rest := []) (mc := 0) (ms := 0) C dX10_wants_38 lk_X10_255 (sh_41 hF1) (by decide) rfl rfl rfl (Nat.le_of_ble_eq_true rfl) (by decide) (by decide) hKQ8 (fun z8 w8 M8 hq => ?_)
          have h := h z8 w8 M8 hq
          refine s_goto C dX10_wants_41 rfl ?_
          refine s_istore (ls' := [(2, 41), (0, l1), (0, l2), (0, l3), (0, z8)]) C dX10_wants_50 (by decide) rfl rfl ?_
          refine s_iload C dX10_wants_52 rfl ?_
          refine s_ifeq C dX10_wants_54 rfl (fun hc => ?_) (fun hc => ?_)
          · have h := h.1 hc
            refine s_iconst C dX10_wants_61 (by decide) ?_
            exact s_ireturn C dX10_wants_62 h
          · have h := h.2 hc
            refine s_iconst C dX10_wants_57 (by decide) ?_
            refine s_goto C dX10_wants_58 rfl ?_
            exact s_ireturn C dX10_wants_62 h
      · have h := h.2 (b2i_nn hc)
        refine s_bipush C dX10_wants_28 ⟨rfl, by decide, by decide⟩ ?_
        exact s_ireturn C dX10_wants_30 h
    · have h := h.2 (b2i_nn hc)
      refine s_iconst C dX10_wants_16 (by decide) ?_
      exact s_ireturn C dX10_wants_17 h
theorem E_X10_wants {G : GP} {l : Launch} {P : Int → NS → MM → Prop} {l1 : Int} {l2 : Int} {l3 : Int} {w : NS} {M : MM} (h : inR l1 → inR l2 → inR l3 → ∀ X : BX, X.2.1 = l → CX_X10_wants G X → A_X10_wants_0 G X P l1 l2 l3 w M) : CT_X10_wants G l [(2, 41), (0, l1), (0, l2), (0, l3)] w M P :=
  CT.of RX10 "wants" (by decide +kernel) rfl rfl rfl (Nat.le_of_ble_eq_true rfl) (fun hr X hX C => h (hr (0, l1) (by simp)) (hr (0, l2) (by simp)) (hr (0, l3) (by simp)) X hX C)
def A_X10_changes_0 (G : GP) (X : BX) (P : Int → NS → MM → Prop) (l1 : Int) (l2 : Int) (w : NS) (M : MM) : Prop := WA true G X (QM G X true 0 P) 3 0 [(2, 41), (0, l1), (0, l2)] [] 0 0 w M
set_option maxHeartbeats 4000000 in
set_option maxRecDepth 100000 in
theorem B_X10_changes_0 {G : GP} {X : BX} {P : Int → NS → MM → Prop} {l1 : Int} {l2 : Int} {w : NS} {M : MM} (C : CX_X10_changes G X) (h : (0 ≤ M 41 12) ∧ (((¬ (0 ≤ l1 ∧ l1 < M 41 12)) → P (-1) w M) ∧ (((0 ≤ l1 ∧ l1 < M 41 12)) → (((¬ (0 ≤ l2 ∧ l2 < M 41 12)) → P (-1) w M) ∧ (((0 ≤ l2 ∧ l2 < M 41 12)) → ∃ Q5 : Int → NS → MM → Prop, CT_X10_changesOf G X.2.1 [(2, 41), (0, l1), (0, l2)] w M Q5 ∧ ∀ (z5 : Int) (w5 : NS) (M5 : MM), Q5 z5 w5 M5 → P z5 w5 M5))))) : A_X10_changes_0 G X P l1 l2 w M := by
  unfold A_X10_changes_0
  refine s_aload_n C dX10_changes_0 rfl ?_
  refine s_iload_n C dX10_changes_1 rfl ?_
  refine WA.fix (fun hF1 => ?_)
  obtain ⟨o2, h⟩ := h
  refine s_callV (ci := 10) (av := [(0, l1)]) (rest := []) (mc := 0) (ms := 0) C dX10_changes_2 lk_X10_186 (sh_41 hF1) (by decide) rfl rfl rfl (Nat.le_of_ble_eq_true rfl) (by decide) (by decide) (pc_X10_isPiece o2) (fun z3 wz3 Mz3 hq => ?_)
  obtain ⟨hq1, hq2, hq3⟩ := hq
  have hq2 := hq2.symm
  have hq3 := hq3.symm
  subst hq1 hq2 hq3
  refine s_ifeq C dX10_changes_5 rfl (fun hc => ?_) (fun hc => ?_)
  · have h := h.1 (b2i_0.mp hc)
    refine s_iconst C dX10_changes_25 (by decide) ?_
    exact s_ireturn C dX10_changes_26 h
  · have h := h.2 (b2i_n0 hc)
    refine s_aload_n C dX10_changes_8 rfl ?_
    refine s_iload_n C dX10_changes_9 rfl ?_
    refine s_callV (ci := 10) (av := [(0, l2)]) (rest := []) (mc := 0) (ms := 0) C dX10_changes_10 lk_X10_186 (sh_41 hF1) (by decide) rfl rfl rfl (Nat.le_of_ble_eq_true rfl) (by decide) (by decide) (pc_X10_isPiece o2) (fun z4 wz4 Mz4 hq => ?_)
    obtain ⟨hq1, hq2, hq3⟩ := hq
    have hq2 := hq2.symm
    have hq3 := hq3.symm
    subst hq1 hq2 hq3
    refine s_ifeq C dX10_changes_13 rfl (fun hc => ?_) (fun hc => ?_)
    · have h := h.1 (b2i_0.mp hc)
      refine s_iconst C dX10_changes_25 (by decide) ?_
      exact s_ireturn C dX10_changes_26 h
    · have h := h.2 (b2i_n0 hc)
      refine s_aload_n C dX10_changes_16 rfl ?_
      refine s_iload_n C dX10_changes_17 rfl ?_
      refine s_iload_n C dX10_changes_18 rfl ?_
      obtain ⟨Q5, hKQ5, h⟩ := h
      refine s_callV (ci := 10) (av := [(0, l1), (0, l2)]) (rest := []) (mc := 0) (ms := 0) C dX10_changes_19 lk_X10_262 (sh_41 hF1) (by decide) rfl rfl rfl (Nat.le_of_ble_eq_true rfl) (by decide) (by decide) hKQ5 (fun z5 w5 M5 hq => ?_)
      have h := h z5 w5 M5 hq
      refine s_goto C dX10_changes_22 rfl ?_
      exact s_ireturn C dX10_changes_26 h
theorem E_X10_changes {G : GP} {l : Launch} {P : Int → NS → MM → Prop} {l1 : Int} {l2 : Int} {w : NS} {M : MM} (h : inR l1 → inR l2 → ∀ X : BX, X.2.1 = l → CX_X10_changes G X → A_X10_changes_0 G X P l1 l2 w M) : CT_X10_changes G l [(2, 41), (0, l1), (0, l2)] w M P :=
  CT.of RX10 "changes" (by decide +kernel) rfl rfl rfl (Nat.le_of_ble_eq_true rfl) (fun hr X hX C => h (hr (0, l1) (by simp)) (hr (0, l2) (by simp)) X hX C)
def A_X10_set_0 (G : GP) (X : BX) (P : Int → NS → MM → Prop) (l1 : Int) (l2 : Int) (w : NS) (M : MM) : Prop := WA true G X (QM G X true 0 P) 4 0 [(2, 41), (0, l1), (0, l2), (3, 0)] [] 0 0 w M
set_option maxHeartbeats 4000000 in
set_option maxRecDepth 100000 in
theorem B_X10_set_0 {G : GP} {X : BX} {P : Int → NS → MM → Prop} {l1 : Int} {l2 : Int} {w : NS} {M : MM} (C : CX_X10_set G X) (h : (((¬ (0 ≤ l1 ∧ l1 ≤ 8)) → P (-2) w M) ∧ (((0 ≤ l1 ∧ l1 ≤ 8)) → (((((lstO l1) ≤ l2 ∧ l2 ≤ (grtO l1))) → (0 ≤ l1) ∧ (l1 < 9) ∧ P (M 53 l1) w (up (up M 53 l1 l2) 41 34 0)) ∧ ((¬ ((lstO l1) ≤ l2 ∧ l2 ≤ (grtO l1))) → P (-2) w M))))) : A_X10_set_0 G X P l1 l2 w M := by
  unfold A_X10_set_0
  refine s_iload_n C dX10_set_0 rfl ?_
  refine s_i2l C dX10_set_1 ?_
  refine s_lconst (z := 0) C dX10_set_2 ⟨rfl, by decide⟩ ?_
  refine s_ldc2 (z := 8) C dX10_set_3 (mG (wd_1095) rfl) ⟨rfl, by decide⟩ ?_
  refine s_callS (av := [(1, l1), (1, 0), (1, 8)]) (rest := []) (mc := 0) (ms := 0) C dX10_set_6 lk_X10_139 rfl rfl (Nat.le_of_ble_eq_true rfl) (by decide) (by decide) (pc_X10_in) (fun z1 wz1 Mz1 hq => ?_)
  obtain ⟨hq1, hq2, hq3⟩ := hq
  have hq2 := hq2.symm
  have hq3 := hq3.symm
  subst hq1 hq2 hq3
  refine s_ifeq C dX10_set_9 rfl (fun hc => ?_) (fun hc => ?_)
  · have h := h.1 (b2i_0.mp hc)
    refine s_bipush C dX10_set_30 ⟨rfl, by decide, by decide⟩ ?_
    exact s_ireturn C dX10_set_32 h
  · have h := h.2 (b2i_n0 hc)
    refine s_iload_n C dX10_set_12 rfl ?_
    refine s_i2l C dX10_set_13 ?_
    refine s_iload_n C dX10_set_14 rfl ?_
    refine s_callS (av := [(0, l1)]) (rest := [(1, l2)]) (mc := 0) (ms := 0) C dX10_set_15 lk_X10_277 rfl rfl (Nat.le_of_ble_eq_true rfl) (by decide) (by decide) (pc_X10_leastOf) (fun z2 wz2 Mz2 hq => ?_)
    obtain ⟨hq1, hq2, hq3⟩ := hq
    have hq2 := hq2.symm
    have hq3 := hq3.symm
    subst hq1 hq2 hq3
    refine s_i2l C dX10_set_18 ?_
    refine s_iload_n C dX10_set_19 rfl ?_
    refine s_callS (av := [(0, l1)]) (rest := [(1, (lstO l1)), (1, l2)]) (mc := 0) (ms := 0) C dX10_set_20 lk_X10_280 rfl rfl (Nat.le_of_ble_eq_true rfl) (by decide) (by decide) (pc_X10_greatestOf) (fun z3 wz3 Mz3 hq => ?_)
    obtain ⟨hq1, hq2, hq3⟩ := hq
    have hq2 := hq2.symm
    have hq3 := hq3.symm
    subst hq1 hq2 hq3
    refine s_i2l C dX10_set_23 ?_
    refine s_callS (av := [(1, l2), (1, (lstO l1)), (1, (grtO l1))]) (rest := []) (mc := 0) (ms := 0) C dX10_set_24 lk_X10_139 rfl rfl (Nat.le_of_ble_eq_true rfl) (by decide) (by decide) (pc_X10_in) (fun z4 wz4 Mz4 hq => ?_)
    obtain ⟨hq1, hq2, hq3⟩ := hq
    have hq2 := hq2.symm
    have hq3 := hq3.symm
    subst hq1 hq2 hq3
    refine s_ifne C dX10_set_27 rfl (fun hc => ?_) (fun hc => ?_)
    · have h := h.1 (b2i_n0 hc)
      refine s_aload_n C dX10_set_33 rfl ?_
      refine WA.fix (fun hF5 => ?_)
      refine gf_X10_43 C (sh_41 hF5) dX10_set_34 (fx_41_13 hF5) ?_
      refine s_iload_n C dX10_set_37 rfl ?_
      obtain ⟨o6, h⟩ := h
      obtain ⟨o7, h⟩ := h
      refine s_iald (v0 := (M 53 l1)) C (sh_53 hF5) o6 o7 dX10_set_38 rfl ?_
      refine s_istore_n (ls' := [(2, 41), (0, l1), (0, l2), (0, (M 53 l1))]) C dX10_set_39 (by decide) rfl rfl ?_
      refine s_aload_n C dX10_set_40 rfl ?_
      refine gf_X10_43 C (sh_41 hF5) dX10_set_41 (fx_41_13 hF5) ?_
      refine s_iload_n C dX10_set_44 rfl ?_
      refine s_iload_n C dX10_set_45 rfl ?_
      refine s_iast C (sh_53 hF5) o6 o7 (fun _ => by decide) dX10_set_46 ?_
      refine s_aload_n C dX10_set_47 rfl ?_
      refine s_iconst C dX10_set_48 (by decide) ?_
      refine pf_X10_166 C (sh_41 hF5) (by decide) (fun _ => by decide) dX10_set_49 ?_
      refine s_iload_n C dX10_set_52 rfl ?_
      exact s_ireturn C dX10_set_53 h
    · have h := h.2 (b2i_nn hc)
      refine s_bipush C dX10_set_30 ⟨rfl, by decide, by decide⟩ ?_
      exact s_ireturn C dX10_set_32 h
theorem E_X10_set {G : GP} {l : Launch} {P : Int → NS → MM → Prop} {l1 : Int} {l2 : Int} {w : NS} {M : MM} (h : inR l1 → inR l2 → ∀ X : BX, X.2.1 = l → CX_X10_set G X → A_X10_set_0 G X P l1 l2 w M) : CT_X10_set G l [(2, 41), (0, l1), (0, l2)] w M P :=
  CT.of RX10 "set" (by decide +kernel) rfl rfl rfl (Nat.le_of_ble_eq_true rfl) (fun hr X hX C => h (hr (0, l1) (by simp)) (hr (0, l2) (by simp)) X hX C)
def A_X10_isDoubled_0 (G : GP) (X : BX) (P : Int → NS → MM → Prop) (l1 : Int) (w : NS) (M : MM) : Prop := WA true G X (QM G X true 0 P) 4 0 [(2, 41), (0, l1), (3, 0), (3, 0)] [] 0 0 w M
def A_X10_isDoubled_10 (G : GP) (X : BX) (P : Int → NS → MM → Prop) (l1 : Int) (l2 : Int) (l3 : Int) (w : NS) (M : MM) : Prop := WA true G X (QM G X true 0 P) 4 10 [(2, 41), (0, l1), (0, l2), (0, l3)] [] 0 0 w M
set_option maxHeartbeats 4000000 in
set_option maxRecDepth 100000 in
theorem B_X10_isDoubled_0 {G : GP} {X : BX} {P : Int → NS → MM → Prop} {l1 : Int} {w : NS} {M : MM} (C : CX_X10_isDoubled G X) (h : ∃ Q2 : Int → NS → MM → Prop, CT_X10_findFamily G X.2.1 [(2, 41), (0, l1)] w M Q2 ∧ ∀ (z2 : Int) (w2 : NS) (M2 : MM), Q2 z2 w2 M2 → A_X10_isDoubled_10 G X P l1 0 0 w2 M2) : A_X10_isDoubled_0 G X P l1 w M := by
  unfold A_X10_isDoubled_0
  refine s_aload_n C dX10_isDoubled_0 rfl ?_
  refine s_iload_n C dX10_isDoubled_1 rfl ?_
  refine WA.fix (fun hF1 => ?_)
  obtain ⟨Q2, hKQ2, h⟩ := h
  refine s_callV (ci := 10) (av := [(0, l1)]) (rest := []) (mc := 0) (ms := 0) C dX10_isDoubled_2 lk_X10_189 (sh_41 hF1) (by decide) rfl rfl rfl (Nat.le_of_ble_eq_true rfl) (by decide) (by decide) hKQ2 (fun z2 w2 M2 hq => ?_)
  have h := h z2 w2 M2 hq
  refine s_pop C (by simp) dX10_isDoubled_5 ?_
  refine s_iconst C dX10_isDoubled_6 (by decide) ?_
  refine s_istore_n (ls' := [(2, 41), (0, l1), (0, 0), (3, 0)]) C dX10_isDoubled_7 (by decide) rfl rfl ?_
  refine s_iconst C dX10_isDoubled_8 (by decide) ?_
  refine s_istore_n (ls' := [(2, 41), (0, l1), (0, 0), (0, 0)]) C dX10_isDoubled_9 (by decide) rfl rfl ?_
  exact h
set_option maxHeartbeats 4000000 in
set_option maxRecDepth 100000 in
theorem B_X10_isDoubled_10 {G : GP} {X : BX} {P : Int → NS → MM → Prop} {l1 : Int} {l2 : Int} {l3 : Int} {w : NS} {M : MM} (C : CX_X10_isDoubled G X) (h : ((((M 41 12) ≤ l3) → (l2 = 0 ∨ l2 = 1) ∧ P l2 w M) ∧ ((¬ ((M 41 12) ≤ l3)) → (((l2 ≠ 0) → (inR (l3 + 1)) ∧ A_X10_isDoubled_10 G X P l1 1 (l3 + 1) w M) ∧ ((¬ (l2 ≠ 0)) → (0 ≤ l3) ∧ (l3 < 24) ∧ ((((M 68 l3) = 0) → (inR (l3 + 1)) ∧ A_X10_isDoubled_10 G X P l1 0 (l3 + 1) w M) ∧ ((¬ ((M 68 l3) = 0)) → (((l3 = l1) → (inR (l3 + 1)) ∧ A_X10_isDoubled_10 G X P l1 0 (l3 + 1) w M) ∧ ((¬ (l3 = l1)) → ∃ Q8 : Int → NS → MM → Prop, CT_X10_isAhead G X.2.1 [(2, 41), (0, l3), (0, l1)] w M Q8 ∧ ∀ (z8 : Int) (w8 : NS) (M8 : MM), Q8 z8 w8 M8 → (((z8 = 0) → (inR (l3 + 1)) ∧ A_X10_isDoubled_10 G X P l1 0 (l3 + 1) w8 M8) ∧ ((¬ (z8 = 0)) → ((((M8 71 l3) = 0) → (inR (l3 + 1)) ∧ A_X10_isDoubled_10 G X P l1 0 (l3 + 1) w8 M8) ∧ ((¬ ((M8 71 l3) = 0)) → (inR (l3 + 1)) ∧ A_X10_isDoubled_10 G X P l1 1 (l3 + 1) w8 M8))))))))))))) : A_X10_isDoubled_10 G X P l1 l2 l3 w M := by
  unfold A_X10_isDoubled_10
  refine s_iload_n C dX10_isDoubled_10 rfl ?_
  refine s_aload_n C dX10_isDoubled_11 rfl ?_
  refine WA.fix (fun hF1 => ?_)
  refine gf_X10_147 (v0 := (M 41 12)) C (sh_41 hF1) dX10_isDoubled_12 rfl ?_
  refine s_icmpge C dX10_isDoubled_15 rfl (fun hc => ?_) (fun hc => ?_)
  · have h := h.1 hc
    refine s_iload_n C dX10_isDoubled_66 rfl ?_
    obtain ⟨o2, h⟩ := h
    exact s_zreturn C dX10_isDoubled_67 o2 h
  · have h := h.2 hc
    refine s_iload_n C dX10_isDoubled_18 rfl ?_
    refine s_ifne C dX10_isDoubled_19 rfl (fun hc => ?_) (fun hc => ?_)
    · have h := h.1 hc
      refine s_iconst C dX10_isDoubled_54 (by decide) ?_
      refine s_goto C dX10_isDoubled_55 rfl ?_
      refine s_istore_n (ls' := [(2, 41), (0, l1), (0, 1), (0, l3)]) C dX10_isDoubled_59 (by decide) rfl rfl ?_
      obtain ⟨o3, h⟩ := h
      refine s_iinc (ls' := [(2, 41), (0, l1), (0, 1), (0, (l3 + 1))]) C dX10_isDoubled_60 (by decide) rfl o3 rfl rfl ?_
      refine s_goto C dX10_isDoubled_63 rfl ?_
      exact h
    · have h := h.2 hc
      refine s_aload_n C dX10_isDoubled_22 rfl ?_
      refine gf_X10_89 C (sh_41 hF1) dX10_isDoubled_23 (fx_41_32 hF1) ?_
      refine s_iload_n C dX10_isDoubled_26 rfl ?_
      obtain ⟨o4, h⟩ := h
      obtain ⟨o5, h⟩ := h
      refine s_zald (v0 := (M 68 l3)) C (sh_68 hF1) o4 o5 dX10_isDoubled_27 rfl ?_
      refine s_ifeq C dX10_isDoubled_28 rfl (fun hc => ?_) (fun hc => ?_)
      · have h := h.1 hc
        refine s_iconst C dX10_isDoubled_58 (by decide) ?_
        refine s_istore_n (ls' := [(2, 41), (0, l1), (0, 0), (0, l3)]) C dX10_isDoubled_59 (by decide) rfl rfl ?_
        obtain ⟨o6, h⟩ := h
        refine s_iinc (ls' := [(2, 41), (0, l1), (0, 0), (0, (l3 + 1))]) C dX10_isDoubled_60 (by decide) rfl o6 rfl rfl ?_
        refine s_goto C dX10_isDoubled_63 rfl ?_
        exact h
      · have h := h.2 hc
        refine s_iload_n C dX10_isDoubled_31 rfl ?_
        refine s_iload_n C dX10_isDoubled_32 rfl ?_
        refine s_icmpeq C dX10_isDoubled_33 rfl (fun hc => ?_) (fun hc => ?_)
        · have h := h.1 hc
          refine s_iconst C dX10_isDoubled_58 (by decide) ?_
          refine s_istore_n (ls' := [(2, 41), (0, l1), (0, 0), (0, l3)]) C dX10_isDoubled_59 (by decide) rfl rfl ?_
          obtain ⟨o7, h⟩ := h
          refine s_iinc (ls' := [(2, 41), (0, l1), (0, 0), (0, (l3 + 1))]) C dX10_isDoubled_60 (by decide) rfl o7 rfl rfl ?_
          refine s_goto C dX10_isDoubled_63 rfl ?_
          exact h
        · have h := h.2 hc
          refine s_aload_n C dX10_isDoubled_36 rfl ?_
          refine s_iload_n C dX10_isDoubled_37 rfl ?_
          refine s_iload_n C dX10_isDoubled_38 rfl ?_
          obtain ⟨Q8, hKQ8, h⟩ := h
          refine s_callV (ci := 10) (av := [(0, l3), (0, l1)]) (rest := []) (mc := 0) (ms := 0) C dX10_isDoubled_39 lk_X10_272 (sh_41 hF1) (by decide) rfl rfl rfl (Nat.le_of_ble_eq_true rfl) (by decide) (by decide) hKQ8 (fun z8 w8 M8 hq => ?_)
          have h := h z8 w8 M8 hq
          refine s_ifeq C dX10_isDoubled_42 rfl (fun hc => ?_) (fun hc => ?_)
          · have h := h.1 hc
            refine s_iconst C dX10_isDoubled_58 (by decide) ?_
            refine s_istore_n (ls' := [(2, 41), (0, l1), (0, 0), (0, l3)]) C dX10_isDoubled_59 (by decide) rfl rfl ?_
            obtain ⟨o9, h⟩ := h
            refine s_iinc (ls' := [(2, 41), (0, l1), (0, 0), (0, (l3 + 1))]) C dX10_isDoubled_60 (by decide) rfl o9 rfl rfl ?_
            refine s_goto C dX10_isDoubled_63 rfl ?_
            exact h
          · have h := h.2 hc
            refine s_aload_n C dX10_isDoubled_45 rfl ?_
            refine WA.fix (fun hF10 => ?_)
            refine gf_X10_98 C (sh_41 hF10) dX10_isDoubled_46 (fx_41_37 hF10) ?_
            refine s_iload_n C dX10_isDoubled_49 rfl ?_
            refine s_zald (v0 := (M8 71 l3)) C (sh_71 hF10) o4 o5 dX10_isDoubled_50 rfl ?_
            refine s_ifeq C dX10_isDoubled_51 rfl (fun hc => ?_) (fun hc => ?_)
            · have h := h.1 hc
              refine s_iconst C dX10_isDoubled_58 (by decide) ?_
              refine s_istore_n (ls' := [(2, 41), (0, l1), (0, 0), (0, l3)]) C dX10_isDoubled_59 (by decide) rfl rfl ?_
              obtain ⟨o11, h⟩ := h
              refine s_iinc (ls' := [(2, 41), (0, l1), (0, 0), (0, (l3 + 1))]) C dX10_isDoubled_60 (by decide) rfl o11 rfl rfl ?_
              refine s_goto C dX10_isDoubled_63 rfl ?_
              exact h
            · have h := h.2 hc
              refine s_iconst C dX10_isDoubled_54 (by decide) ?_
              refine s_goto C dX10_isDoubled_55 rfl ?_
              refine s_istore_n (ls' := [(2, 41), (0, l1), (0, 1), (0, l3)]) C dX10_isDoubled_59 (by decide) rfl rfl ?_
              obtain ⟨o12, h⟩ := h
              refine s_iinc (ls' := [(2, 41), (0, l1), (0, 1), (0, (l3 + 1))]) C dX10_isDoubled_60 (by decide) rfl o12 rfl rfl ?_
              refine s_goto C dX10_isDoubled_63 rfl ?_
              exact h
theorem E_X10_isDoubled {G : GP} {l : Launch} {P : Int → NS → MM → Prop} {l1 : Int} {w : NS} {M : MM} (h : inR l1 → ∀ X : BX, X.2.1 = l → CX_X10_isDoubled G X → A_X10_isDoubled_0 G X P l1 w M) : CT_X10_isDoubled G l [(2, 41), (0, l1)] w M P :=
  CT.of RX10 "isDoubled" (by decide +kernel) rfl rfl rfl (Nat.le_of_ble_eq_true rfl) (fun hr X hX C => h (hr (0, l1) (by simp)) X hX C)
def A_X10_findList_0 (G : GP) (X : BX) (P : Int → NS → MM → Prop) (l1 : Int) (l2 : Int) (w : NS) (M : MM) : Prop := WA true G X (QM G X true 4 P) 6 0 [(2, 41), (0, l1), (0, l2), (3, 0), (3, 0), (3, 0)] [] 0 0 w M
def A_X10_findList_7 (G : GP) (X : BX) (P : Int → NS → MM → Prop) (l1 : Int) (l2 : Int) (l3 : Int) (w : NS) (M : MM) : Prop := WA true G X (QM G X true 4 P) 6 7 [(2, 41), (0, l1), (0, l2), (0, l3), (3, 0), (3, 0)] [] 0 0 w M
def A_X10_findList_67 (G : GP) (X : BX) (P : Int → NS → MM → Prop) (l1 : Int) (l2 : Int) (l3 : Int) (w : NS) (M : MM) : Prop := WA true G X (QM G X true 4 P) 6 67 [(2, 41), (0, l1), (0, l2), (0, l3), (3, 0), (3, 0)] [] 0 0 w M
def A_X10_findList_76 (G : GP) (X : BX) (P : Int → NS → MM → Prop) (l1 : Int) (l2 : Int) (l3 : Int) (l4 : Int) (w : NS) (M : MM) : Prop := WA true G X (QM G X true 4 P) 6 76 [(2, 41), (0, l1), (0, l2), (0, l3), (0, l4), (3, 0)] [] 0 0 w M
set_option maxHeartbeats 4000000 in
set_option maxRecDepth 100000 in
theorem B_X10_findList_0 {G : GP} {X : BX} {P : Int → NS → MM → Prop} {l1 : Int} {l2 : Int} {w : NS} {M : MM} (C : CX_X10_findList G X) (h : A_X10_findList_7 G X P l1 l2 0 w (up M 41 36 0)) : A_X10_findList_0 G X P l1 l2 w M := by
  unfold A_X10_findList_0
  refine s_aload_n C dX10_findList_0 rfl ?_
  refine s_iconst C dX10_findList_1 (by decide) ?_
  refine WA.fix (fun hF1 => ?_)
  refine pf_X10_283 C (sh_41 hF1) (fun _ => by decide) dX10_findList_2 ?_
  refine s_iconst C dX10_findList_5 (by decide) ?_
  refine s_istore_n (ls' := [(2, 41), (0, l1), (0, l2), (0, 0), (3, 0), (3, 0)]) C dX10_findList_6 (by decide) rfl rfl ?_
  exact h
set_option maxHeartbeats 4000000 in
set_option maxRecDepth 100000 in
theorem B_X10_findList_7 {G : GP} {X : BX} {P : Int → NS → MM → Prop} {l1 : Int} {l2 : Int} {l3 : Int} {w : NS} {M : MM} (C : CX_X10_findList G X) (h : ((((M 41 12) ≤ l3) → A_X10_findList_67 G X P l1 l2 0 w M) ∧ ((¬ ((M 41 12) ≤ l3)) → (0 ≤ l1) ∧ (l1 < 10) ∧ ((((M 63 l1) ≠ 0) → ∃ Q4 : Int → NS → MM → Prop, CT_X10_doesWant G X.2.1 [(2, 41), (0, l1), (0, l3)] w M Q4 ∧ ∀ (z4 : Int) (w4 : NS) (M4 : MM), Q4 z4 w4 M4 → (((z4 = 0) → (0 ≤ l3) ∧ (l3 < 24) ∧ (inR (l3 + 1)) ∧ A_X10_findList_7 G X P l1 l2 (l3 + 1) w4 (up M4 71 l3 0)) ∧ ((¬ (z4 = 0)) → (0 ≤ l3) ∧ (l3 < 24) ∧ (inR (l3 + 1)) ∧ A_X10_findList_7 G X P l1 l2 (l3 + 1) w4 (up M4 71 l3 1)))) ∧ ((¬ ((M 63 l1) ≠ 0)) → (0 ≤ l3) ∧ (l3 < 24) ∧ (0 ≤ (M 46 l3)) ∧ ((M 46 l3) < 8) ∧ ((((M 44 (M 46 l3)) ≠ l2) → (inR (l3 + 1)) ∧ A_X10_findList_7 G X P l1 l2 (l3 + 1) w (up M 71 l3 0)) ∧ ((¬ ((M 44 (M 46 l3)) ≠ l2)) → ∃ Q18 : Int → NS → MM → Prop, CT_X10_doesWant G X.2.1 [(2, 41), (0, l1), (0, l3)] w M Q18 ∧ ∀ (z18 : Int) (w18 : NS) (M18 : MM), Q18 z18 w18 M18 → (((z18 = 0) → (inR (l3 + 1)) ∧ A_X10_findList_7 G X P l1 l2 (l3 + 1) w18 (up M18 71 l3 0)) ∧ ((¬ (z18 = 0)) → (inR (l3 + 1)) ∧ A_X10_findList_7 G X P l1 l2 (l3 + 1) w18 (up M18 71 l3 1)))))))))) : A_X10_findList_7 G X P l1 l2 l3 w M := by
  unfold A_X10_findList_7
  refine s_iload_n C dX10_findList_7 rfl ?_
  refine s_aload_n C dX10_findList_8 rfl ?_
  refine WA.fix (fun hF1 => ?_)
  refine gf_X10_147 (v0 := (M 41 12)) C (sh_41 hF1) dX10_findList_9 rfl ?_
  refine s_icmpge C dX10_findList_12 rfl (fun hc => ?_) (fun hc => ?_)
  · have h := h.1 hc
    refine s_iconst C dX10_findList_65 (by decide) ?_
    refine s_istore_n (ls' := [(2, 41), (0, l1), (0, l2), (0, 0), (3, 0), (3, 0)]) C dX10_findList_66 (by decide) rfl rfl ?_
    exact h
  · have h := h.2 hc
    refine s_aload_n C dX10_findList_15 rfl ?_
    refine gf_X10_98 C (sh_41 hF1) dX10_findList_16 (fx_41_37 hF1) ?_
    refine s_iload_n C dX10_findList_19 rfl ?_
    refine s_aload_n C dX10_findList_20 rfl ?_
    refine gf_X10_73 C (sh_41 hF1) dX10_findList_21 (fx_41_25 hF1) ?_
    refine s_iload_n C dX10_findList_24 rfl ?_
    obtain ⟨o2, h⟩ := h
    obtain ⟨o3, h⟩ := h
    refine s_zald (v0 := (M 63 l1)) C (sh_63 hF1) o2 o3 dX10_findList_25 rfl ?_
    refine s_ifne C dX10_findList_26 rfl (fun hc => ?_) (fun hc => ?_)
    · have h := h.1 hc
      refine s_aload_n C dX10_findList_44 rfl ?_
      refine s_iload_n C dX10_findList_45 rfl ?_
      refine s_iload_n C dX10_findList_46 rfl ?_
      obtain ⟨Q4, hKQ4, h⟩ := h
      refine s_callV (ci := 10) (av := [(0, l1), (0, l3)]) (rest := [(0, l3), (2, 71)]) (mc := 0) (ms := 0) C dX10_findList_47 lk_X10_255 (sh_41 hF1) (by decide) rfl rfl rfl (Nat.le_of_ble_eq_true rfl) (by decide) (by decide) hKQ4 (fun z4 w4 M4 hq => ?_)
      have h := h z4 w4 M4 hq
      refine s_ifeq C dX10_findList_50 rfl (fun hc => ?_) (fun hc => ?_)
      · have h := h.1 hc
        refine s_iconst C dX10_findList_57 (by decide) ?_
        refine WA.fix (fun hF5 => ?_)
        obtain ⟨o6, h⟩ := h
        obtain ⟨o7, h⟩ := h
        refine s_zast C (sh_71 hF5) o6 o7 (by decide) (fun _ => by decide) dX10_findList_58 ?_
        obtain ⟨o8, h⟩ := h
        refine s_iinc (ls' := [(2, 41), (0, l1), (0, l2), (0, (l3 + 1)), (3, 0), (3, 0)]) C dX10_findList_59 (by decide) rfl o8 rfl rfl ?_
        refine s_goto C dX10_findList_62 rfl ?_
        exact h
      · have h := h.2 hc
        refine s_iconst C dX10_findList_53 (by decide) ?_
        refine s_goto C dX10_findList_54 rfl ?_
        refine WA.fix (fun hF9 => ?_)
        obtain ⟨o10, h⟩ := h
        obtain ⟨o11, h⟩ := h
        refine s_zast C (sh_71 hF9) o10 o11 (by decide) (fun _ => by decide) dX10_findList_58 ?_
        obtain ⟨o12, h⟩ := h
        refine s_iinc (ls' := [(2, 41), (0, l1), (0, l2), (0, (l3 + 1)), (3, 0), (3, 0)]) C dX10_findList_59 (by decide) rfl o12 rfl rfl ?_
        refine s_goto C dX10_findList_62 rfl ?_
        exact h
    · have h := h.2 hc
      refine s_aload_n C dX10_findList_29 rfl ?_
      refine gf_X10_16 C (sh_41 hF1) dX10_findList_30 (fx_41_2 hF1) ?_
      refine s_aload_n C dX10_findList_33 rfl ?_
      refine gf_X10_22 C (sh_41 hF1) dX10_findList_34 (fx_41_5 hF1) ?_
      refine s_iload_n C dX10_findList_37 rfl ?_
      obtain ⟨o13, h⟩ := h
      obtain ⟨o14, h⟩ := h
      refine s_iald (v0 := (M 46 l3)) C (sh_46 hF1) o13 o14 dX10_findList_38 rfl ?_
      obtain ⟨o15, h⟩ := h
      obtain ⟨o16, h⟩ := h
      refine s_iald (v0 := (M 44 (M 46 l3))) C (sh_44 hF1) o15 o16 dX10_findList_39 rfl ?_
      refine s_iload_n C dX10_findList_40 rfl ?_
      refine s_icmpne C dX10_findList_41 rfl (fun hc => ?_) (fun hc => ?_)
      · have h := h.1 hc
        refine s_iconst C dX10_findList_57 (by decide) ?_
        refine s_zast C (sh_71 hF1) o13 o14 (by decide) (fun _ => by decide) dX10_findList_58 ?_
        obtain ⟨o17, h⟩ := h
        refine s_iinc (ls' := [(2, 41), (0, l1), (0, l2), (0, (l3 + 1)), (3, 0), (3, 0)]) C dX10_findList_59 (by decide) rfl o17 rfl rfl ?_
        refine s_goto C dX10_findList_62 rfl ?_
        exact h
      · have h := h.2 hc
        refine s_aload_n C dX10_findList_44 rfl ?_
        refine s_iload_n C dX10_findList_45 rfl ?_
        refine s_iload_n C dX10_findList_46 rfl ?_
        obtain ⟨Q18, hKQ18, h⟩ := h
        refine s_callV (ci := 10) (av := [(0, l1), (0, l3)]) (rest := [(0, l3), (2, 71)]) (mc := 0) (ms := 0) C dX10_findList_47 lk_X10_255 (sh_41 hF1) (by decide) rfl rfl rfl (Nat.le_of_ble_eq_true rfl) (by decide) (by decide) hKQ18 (fun z18 w18 M18 hq => ?_)
        have h := h z18 w18 M18 hq
        refine s_ifeq C dX10_findList_50 rfl (fun hc => ?_) (fun hc => ?_)
        · have h := h.1 hc
          refine s_iconst C dX10_findList_57 (by decide) ?_
          refine WA.fix (fun hF19 => ?_)
          refine s_zast C (sh_71 hF19) o13 o14 (by decide) (fun _ => by decide) dX10_findList_58 ?_
          obtain ⟨o20, h⟩ := h
          refine s_iinc (ls' := [(2, 41), (0, l1), (0, l2), (0, (l3 + 1)), (3, 0), (3, 0)]) C dX10_findList_59 (by decide) rfl o20 rfl rfl ?_
          refine s_goto C dX10_findList_62 rfl ?_
          exact h
        · have h := h.2 hc
          refine s_iconst C dX10_findList_53 (by decide) ?_
          refine s_goto C dX10_findList_54 rfl ?_
          refine WA.fix (fun hF21 => ?_)
          refine s_zast C (sh_71 hF21) o13 o14 (by decide) (fun _ => by decide) dX10_findList_58 ?_
          obtain ⟨o22, h⟩ := h
          refine s_iinc (ls' := [(2, 41), (0, l1), (0, l2), (0, (l3 + 1)), (3, 0), (3, 0)]) C dX10_findList_59 (by decide) rfl o22 rfl rfl ?_
          refine s_goto C dX10_findList_62 rfl ?_
          exact h
set_option maxHeartbeats 4000000 in
set_option maxRecDepth 100000 in
theorem B_X10_findList_67 {G : GP} {X : BX} {P : Int → NS → MM → Prop} {l1 : Int} {l2 : Int} {l3 : Int} {w : NS} {M : MM} (C : CX_X10_findList G X) (h : (((10 ≤ l3) → P 0 w M) ∧ ((¬ (10 ≤ l3)) → A_X10_findList_76 G X P l1 l2 l3 0 w M))) : A_X10_findList_67 G X P l1 l2 l3 w M := by
  unfold A_X10_findList_67
  refine s_iload_n C dX10_findList_67 rfl ?_
  refine s_bipush C dX10_findList_68 ⟨rfl, by decide, by decide⟩ ?_
  refine s_icmpge C dX10_findList_70 rfl (fun hc => ?_) (fun hc => ?_)
  · have h := h.1 hc
    exact s_vreturn C dX10_findList_203 h
  · have h := h.2 hc
    refine s_iconst C dX10_findList_73 (by decide) ?_
    refine s_istore (ls' := [(2, 41), (0, l1), (0, l2), (0, l3), (0, 0), (3, 0)]) C dX10_findList_74 (by decide) rfl rfl ?_
    exact h
set_option maxHeartbeats 4000000 in
set_option maxRecDepth 100000 in
theorem B_X10_findList_76 {G : GP} {X : BX} {P : Int → NS → MM → Prop} {l1 : Int} {l2 : Int} {l3 : Int} {l4 : Int} {w : NS} {M : MM} (C : CX_X10_findList G X) (h : ((((M 41 12) ≤ l4) → (inR (l3 + 1)) ∧ A_X10_findList_67 G X P l1 l2 (l3 + 1) w M) ∧ ((¬ ((M 41 12) ≤ l4)) → (0 ≤ l4) ∧ (l4 < 24) ∧ (0 ≤ (M 46 l4)) ∧ ((M 46 l4) < 8) ∧ ((((M 44 (M 46 l4)) ≠ l2) → (inR (l4 + 1)) ∧ A_X10_findList_76 G X P l1 l2 l3 (l4 + 1) w M) ∧ ((¬ ((M 44 (M 46 l4)) ≠ l2)) → ((((M 43 (M 46 l4)) ≠ l3) → (inR (l4 + 1)) ∧ A_X10_findList_76 G X P l1 l2 l3 (l4 + 1) w M) ∧ ((¬ ((M 43 (M 46 l4)) ≠ l3)) → (0 ≤ l1) ∧ (l1 < 10) ∧ ((((M 62 l1) ≤ (M 41 36)) → (inR (l4 + 1)) ∧ A_X10_findList_76 G X P l1 l2 l3 (l4 + 1) w M) ∧ ((¬ ((M 62 l1) ≤ (M 41 36))) → ((((M 71 l4) = 0) → (inR (l4 + 1)) ∧ A_X10_findList_76 G X P l1 l2 l3 (l4 + 1) w M) ∧ ((¬ ((M 71 l4) = 0)) → ((((M 63 l1) = 0) → (0 ≤ (M 41 36)) ∧ ((M 41 36) < 24) ∧ (inR ((M 41 36) + 1)) ∧ (inR (l4 + 1)) ∧ A_X10_findList_76 G X P l1 l2 l3 (l4 + 1) w (up (up M 70 (M 41 36) l4) 41 36 ((M 41 36) + 1))) ∧ ((¬ ((M 63 l1) = 0)) → ∃ Q17 : Int → NS → MM → Prop, CT_X10_isDoubled G X.2.1 [(2, 41), (0, l4)] w M Q17 ∧ ∀ (z17 : Int) (w17 : NS) (M17 : MM), Q17 z17 w17 M17 → (((z17 ≠ 0) → (inR (l4 + 1)) ∧ A_X10_findList_76 G X P l1 l2 l3 (l4 + 1) w17 M17) ∧ ((¬ (z17 ≠ 0)) → (0 ≤ (M17 41 36)) ∧ ((M17 41 36) < 24) ∧ (inR ((M17 41 36) + 1)) ∧ (inR (l4 + 1)) ∧ A_X10_findList_76 G X P l1 l2 l3 (l4 + 1) w17 (up (up M17 70 (M17 41 36) l4) 41 36 ((M17 41 36) + 1))))))))))))))))) : A_X10_findList_76 G X P l1 l2 l3 l4 w M := by
  unfold A_X10_findList_76
  refine s_iload C dX10_findList_76 rfl ?_
  refine s_aload_n C dX10_findList_78 rfl ?_
  refine WA.fix (fun hF1 => ?_)
  refine gf_X10_147 (v0 := (M 41 12)) C (sh_41 hF1) dX10_findList_79 rfl ?_
  refine s_icmpge C dX10_findList_82 rfl (fun hc => ?_) (fun hc => ?_)
  · have h := h.1 hc
    obtain ⟨o2, h⟩ := h
    refine s_iinc (ls' := [(2, 41), (0, l1), (0, l2), (0, (l3 + 1)), (0, l4), (3, 0)]) C dX10_findList_197 (by decide) rfl o2 rfl rfl ?_
    refine s_goto C dX10_findList_200 rfl ?_
    exact WA.wk h ⟨Or.inr rfl, Or.inr rfl, Or.inr rfl, Or.inr rfl, Or.inl rfl, Or.inl rfl, trivial⟩
  · have h := h.2 hc
    refine s_aload_n C dX10_findList_85 rfl ?_
    refine gf_X10_16 C (sh_41 hF1) dX10_findList_86 (fx_41_2 hF1) ?_
    refine s_aload_n C dX10_findList_89 rfl ?_
    refine gf_X10_22 C (sh_41 hF1) dX10_findList_90 (fx_41_5 hF1) ?_
    refine s_iload C dX10_findList_93 rfl ?_
    obtain ⟨o3, h⟩ := h
    obtain ⟨o4, h⟩ := h
    refine s_iald (v0 := (M 46 l4)) C (sh_46 hF1) o3 o4 dX10_findList_95 rfl ?_
    obtain ⟨o5, h⟩ := h
    obtain ⟨o6, h⟩ := h
    refine s_iald (v0 := (M 44 (M 46 l4))) C (sh_44 hF1) o5 o6 dX10_findList_96 rfl ?_
    refine s_iload_n C dX10_findList_97 rfl ?_
    refine s_icmpne C dX10_findList_98 rfl (fun hc => ?_) (fun hc => ?_)
    · have h := h.1 hc
      refine s_iconst C dX10_findList_134 (by decide) ?_
      refine s_istore (ls' := [(2, 41), (0, l1), (0, l2), (0, l3), (0, l4), (0, 0)]) C dX10_findList_135 (by decide) rfl rfl ?_
      refine s_iload C dX10_findList_137 rfl ?_
      refine s_ifeq C dX10_findList_139 rfl (fun hc => ?_) (fun hc => absurd (by decide) hc)
      obtain ⟨o7, h⟩ := h
      refine s_iinc (ls' := [(2, 41), (0, l1), (0, l2), (0, l3), (0, (l4 + 1)), (0, 0)]) C dX10_findList_191 (by decide) rfl o7 rfl rfl ?_
      refine s_goto C dX10_findList_194 rfl ?_
      exact WA.wk h ⟨Or.inr rfl, Or.inr rfl, Or.inr rfl, Or.inr rfl, Or.inr rfl, Or.inl rfl, trivial⟩
    · have h := h.2 hc
      refine s_aload_n C dX10_findList_101 rfl ?_
      refine gf_X10_13 C (sh_41 hF1) dX10_findList_102 (fx_41_1 hF1) ?_
      refine s_aload_n C dX10_findList_105 rfl ?_
      refine gf_X10_22 C (sh_41 hF1) dX10_findList_106 (fx_41_5 hF1) ?_
      refine s_iload C dX10_findList_109 rfl ?_
      refine s_iald (v0 := (M 46 l4)) C (sh_46 hF1) o3 o4 dX10_findList_111 rfl ?_
      refine s_iald (v0 := (M 43 (M 46 l4))) C (sh_43 hF1) o5 o6 dX10_findList_112 rfl ?_
      refine s_iload_n C dX10_findList_113 rfl ?_
      refine s_icmpne C dX10_findList_114 rfl (fun hc => ?_) (fun hc => ?_)
      · have h := h.1 hc
        refine s_iconst C dX10_findList_134 (by decide) ?_
        refine s_istore (ls' := [(2, 41), (0, l1), (0, l2), (0, l3), (0, l4), (0, 0)]) C dX10_findList_135 (by decide) rfl rfl ?_
        refine s_iload C dX10_findList_137 rfl ?_
        refine s_ifeq C dX10_findList_139 rfl (fun hc => ?_) (fun hc => absurd (by decide) hc)
        obtain ⟨o8, h⟩ := h
        refine s_iinc (ls' := [(2, 41), (0, l1), (0, l2), (0, l3), (0, (l4 + 1)), (0, 0)]) C dX10_findList_191 (by decide) rfl o8 rfl rfl ?_
        refine s_goto C dX10_findList_194 rfl ?_
        exact WA.wk h ⟨Or.inr rfl, Or.inr rfl, Or.inr rfl, Or.inr rfl, Or.inr rfl, Or.inl rfl, trivial⟩
      · have h := h.2 hc
        refine s_aload_n C dX10_findList_117 rfl ?_
        refine gf_X10_283 (v0 := (M 41 36)) C (sh_41 hF1) dX10_findList_118 rfl ?_
        refine s_aload_n C dX10_findList_121 rfl ?_
        refine gf_X10_70 C (sh_41 hF1) dX10_findList_122 (fx_41_24 hF1) ?_
        refine s_iload_n C dX10_findList_125 rfl ?_
        obtain ⟨o9, h⟩ := h
        obtain ⟨o10, h⟩ := h
        refine s_iald (v0 := (M 62 l1)) C (sh_62 hF1) o9 o10 dX10_findList_126 rfl ?_
        refine s_icmpge C dX10_findList_127 rfl (fun hc => ?_) (fun hc => ?_)
        · have h := h.1 hc
          refine s_iconst C dX10_findList_134 (by decide) ?_
          refine s_istore (ls' := [(2, 41), (0, l1), (0, l2), (0, l3), (0, l4), (0, 0)]) C dX10_findList_135 (by decide) rfl rfl ?_
          refine s_iload C dX10_findList_137 rfl ?_
          refine s_ifeq C dX10_findList_139 rfl (fun hc => ?_) (fun hc => absurd (by decide) hc)
          obtain ⟨o11, h⟩ := h
          refine s_iinc (ls' := [(2, 41), (0, l1), (0, l2), (0, l3), (0, (l4 + 1)), (0, 0)]) C dX10_findList_191 (by decide) rfl o11 rfl rfl ?_
          refine s_goto C dX10_findList_194 rfl ?_
          exact WA.wk h ⟨Or.inr rfl, Or.inr rfl, Or.inr rfl, Or.inr rfl, Or.inr rfl, Or.inl rfl, trivial⟩
        · have h := h.2 hc
          refine s_iconst C dX10_findList_130 (by decide) ?_
          refine s_goto C dX10_findList_131 rfl ?_
          refine s_istore (ls' := [(2, 41), (0, l1), (0, l2), (0, l3), (0, l4), (0, 1)]) C dX10_findList_135 (by decide) rfl rfl ?_
          refine s_iload C dX10_findList_137 rfl ?_
          refine s_ifeq C dX10_findList_139 rfl (fun hc => absurd hc (by decide)) (fun hc => ?_)
          refine s_aload_n C dX10_findList_142 rfl ?_
          refine gf_X10_98 C (sh_41 hF1) dX10_findList_143 (fx_41_37 hF1) ?_
          refine s_iload C dX10_findList_146 rfl ?_
          refine s_zald (v0 := (M 71 l4)) C (sh_71 hF1) o3 o4 dX10_findList_148 rfl ?_
          refine s_ifeq C dX10_findList_149 rfl (fun hc => ?_) (fun hc => ?_)
          · have h := h.1 hc
            obtain ⟨o12, h⟩ := h
            refine s_iinc (ls' := [(2, 41), (0, l1), (0, l2), (0, l3), (0, (l4 + 1)), (0, 1)]) C dX10_findList_191 (by decide) rfl o12 rfl rfl ?_
            refine s_goto C dX10_findList_194 rfl ?_
            exact WA.wk h ⟨Or.inr rfl, Or.inr rfl, Or.inr rfl, Or.inr rfl, Or.inr rfl, Or.inl rfl, trivial⟩
          · have h := h.2 hc
            refine s_aload_n C dX10_findList_152 rfl ?_
            refine gf_X10_73 C (sh_41 hF1) dX10_findList_153 (fx_41_25 hF1) ?_
            refine s_iload_n C dX10_findList_156 rfl ?_
            refine s_zald (v0 := (M 63 l1)) C (sh_63 hF1) o9 o10 dX10_findList_157 rfl ?_
            refine s_ifeq C dX10_findList_158 rfl (fun hc => ?_) (fun hc => ?_)
            · have h := h.1 hc
              refine s_aload_n C dX10_findList_170 rfl ?_
              refine gf_X10_95 C (sh_41 hF1) dX10_findList_171 (fx_41_35 hF1) ?_
              refine s_aload_n C dX10_findList_174 rfl ?_
              refine gf_X10_283 (v0 := (M 41 36)) C (sh_41 hF1) dX10_findList_175 rfl ?_
              refine s_iload C dX10_findList_178 rfl ?_
              obtain ⟨o13, h⟩ := h
              obtain ⟨o14, h⟩ := h
              refine s_iast C (sh_70 hF1) o13 o14 (fun _ => by decide) dX10_findList_180 ?_
              refine s_aload_n C dX10_findList_181 rfl ?_
              refine s_dup C (by simp) dX10_findList_182 ?_
              refine gf_X10_283 (v0 := (M 41 36)) C (sh_41 hF1) dX10_findList_183 (up_na (by decide)) ?_
              refine s_iconst C dX10_findList_186 (by decide) ?_
              obtain ⟨o15, h⟩ := h
              refine s_iadd C dX10_findList_187 o15 ?_
              refine pf_X10_283 C (sh_41 hF1) (fun _ => by decide) dX10_findList_188 ?_
              obtain ⟨o16, h⟩ := h
              refine s_iinc (ls' := [(2, 41), (0, l1), (0, l2), (0, l3), (0, (l4 + 1)), (0, 1)]) C dX10_findList_191 (by decide) rfl o16 rfl rfl ?_
              refine s_goto C dX10_findList_194 rfl ?_
              exact WA.wk h ⟨Or.inr rfl, Or.inr rfl, Or.inr rfl, Or.inr rfl, Or.inr rfl, Or.inl rfl, trivial⟩
            · have h := h.2 hc
              refine s_aload_n C dX10_findList_161 rfl ?_
              refine s_iload C dX10_findList_162 rfl ?_
              obtain ⟨Q17, hKQ17, h⟩ := h
              refine s_callV (ci := 10) (av := [(0, l4)]) (rest := []) (mc := 0) (ms := 0) C dX10_findList_164 lk_X10_286 (sh_41 hF1) (by decide) rfl rfl rfl (Nat.le_of_ble_eq_true rfl) (by decide) (by decide) hKQ17 (fun z17 w17 M17 hq => ?_)
              have h := h z17 w17 M17 hq
              refine s_ifne C dX10_findList_167 rfl (fun hc => ?_) (fun hc => ?_)
              · have h := h.1 hc
                obtain ⟨o18, h⟩ := h
                refine s_iinc (ls' := [(2, 41), (0, l1), (0, l2), (0, l3), (0, (l4 + 1)), (0, 1)]) C dX10_findList_191 (by decide) rfl o18 rfl rfl ?_
                refine s_goto C dX10_findList_194 rfl ?_
                exact WA.wk h ⟨Or.inr rfl, Or.inr rfl, Or.inr rfl, Or.inr rfl, Or.inr rfl, Or.inl rfl, trivial⟩
              · have h := h.2 hc
                refine s_aload_n C dX10_findList_170 rfl ?_
                refine WA.fix (fun hF19 => ?_)
                refine gf_X10_95 C (sh_41 hF19) dX10_findList_171 (fx_41_35 hF19) ?_
                refine s_aload_n C dX10_findList_174 rfl ?_
                refine gf_X10_283 (v0 := (M17 41 36)) C (sh_41 hF19) dX10_findList_175 rfl ?_
                refine s_iload C dX10_findList_178 rfl ?_
                obtain ⟨o20, h⟩ := h
                obtain ⟨o21, h⟩ := h
                refine s_iast C (sh_70 hF19) o20 o21 (fun _ => by decide) dX10_findList_180 ?_
                refine s_aload_n C dX10_findList_181 rfl ?_
                refine s_dup C (by simp) dX10_findList_182 ?_
                refine gf_X10_283 (v0 := (M17 41 36)) C (sh_41 hF19) dX10_findList_183 (up_na (by decide)) ?_
                refine s_iconst C dX10_findList_186 (by decide) ?_
                obtain ⟨o22, h⟩ := h
                refine s_iadd C dX10_findList_187 o22 ?_
                refine pf_X10_283 C (sh_41 hF19) (fun _ => by decide) dX10_findList_188 ?_
                obtain ⟨o23, h⟩ := h
                refine s_iinc (ls' := [(2, 41), (0, l1), (0, l2), (0, l3), (0, (l4 + 1)), (0, 1)]) C dX10_findList_191 (by decide) rfl o23 rfl rfl ?_
                refine s_goto C dX10_findList_194 rfl ?_
                exact WA.wk h ⟨Or.inr rfl, Or.inr rfl, Or.inr rfl, Or.inr rfl, Or.inr rfl, Or.inl rfl, trivial⟩
theorem E_X10_findList {G : GP} {l : Launch} {P : Int → NS → MM → Prop} {l1 : Int} {l2 : Int} {w : NS} {M : MM} (h : inR l1 → inR l2 → ∀ X : BX, X.2.1 = l → CX_X10_findList G X → A_X10_findList_0 G X P l1 l2 w M) : CT_X10_findList G l [(2, 41), (0, l1), (0, l2)] w M P :=
  CT.of RX10 "findList" (by decide +kernel) rfl rfl rfl (Nat.le_of_ble_eq_true rfl) (fun hr X hX C => h (hr (0, l1) (by simp)) (hr (0, l2) (by simp)) X hX C)
def A_X10_list_0 (G : GP) (X : BX) (P : Int → NS → MM → Prop) (l1 : Int) (l2 : Int) (l3 : Int) (w : NS) (M : MM) : Prop := WA true G X (QM G X true 0 P) 4 0 [(2, 41), (0, l1), (0, l2), (0, l3)] [] 0 0 w M
set_option maxHeartbeats 4000000 in
set_option maxRecDepth 100000 in
theorem B_X10_list_0 {G : GP} {X : BX} {P : Int → NS → MM → Prop} {l1 : Int} {l2 : Int} {l3 : Int} {w : NS} {M : MM} (C : CX_X10_list G X) (h : (0 ≤ M 41 26) ∧ ((((0 ≤ l1 ∧ l1 < M 41 26)) → ((((0 ≤ l2 ∧ l2 ≤ 99)) → ∃ Q5 : Int → NS → MM → Prop, CT_X10_findList G X.2.1 [(2, 41), (0, l1), (0, l2)] w M Q5 ∧ ∀ (z5 : Int) (w5 : NS) (M5 : MM), Q5 z5 w5 M5 → (((l3 ≠ (-1)) → (inR ((M5 41 36) - 1)) ∧ (((¬ (0 ≤ l3 ∧ l3 ≤ ((M5 41 36) - 1))) → P (-6) w5 M5) ∧ (((0 ≤ l3 ∧ l3 ≤ ((M5 41 36) - 1))) → (0 ≤ l3) ∧ (l3 < 24) ∧ P (M5 70 l3) w5 M5))) ∧ ((¬ (l3 ≠ (-1))) → P (M5 41 36) w5 M5))) ∧ ((¬ (0 ≤ l2 ∧ l2 ≤ 99)) → P (-2) w M))) ∧ ((¬ (0 ≤ l1 ∧ l1 < M 41 26)) → P (-1) w M))) : A_X10_list_0 G X P l1 l2 l3 w M := by
  unfold A_X10_list_0
  refine s_aload_n C dX10_list_0 rfl ?_
  refine s_iload_n C dX10_list_1 rfl ?_
  refine WA.fix (fun hF1 => ?_)
  obtain ⟨o2, h⟩ := h
  refine s_callV (ci := 10) (av := [(0, l1)]) (rest := []) (mc := 0) (ms := 0) C dX10_list_2 lk_X10_252 (sh_41 hF1) (by decide) rfl rfl rfl (Nat.le_of_ble_eq_true rfl) (by decide) (by decide) (pc_X10_isOrder o2) (fun z3 wz3 Mz3 hq => ?_)
  obtain ⟨hq1, hq2, hq3⟩ := hq
  have hq2 := hq2.symm
  have hq3 := hq3.symm
  subst hq1 hq2 hq3
  refine s_ifne C dX10_list_5 rfl (fun hc => ?_) (fun hc => ?_)
  · have h := h.1 (b2i_n0 hc)
    refine s_iload_n C dX10_list_10 rfl ?_
    refine s_callS (av := [(0, l2)]) (rest := []) (mc := 0) (ms := 0) C dX10_list_11 lk_X10_152 rfl rfl (Nat.le_of_ble_eq_true rfl) (by decide) (by decide) (pc_X10_isDay) (fun z4 wz4 Mz4 hq => ?_)
    obtain ⟨hq1, hq2, hq3⟩ := hq
    have hq2 := hq2.symm
    have hq3 := hq3.symm
    subst hq1 hq2 hq3
    refine s_ifne C dX10_list_14 rfl (fun hc => ?_) (fun hc => ?_)
    · have h := h.1 (b2i_n0 hc)
      refine s_aload_n C dX10_list_20 rfl ?_
      refine s_iload_n C dX10_list_21 rfl ?_
      refine s_iload_n C dX10_list_22 rfl ?_
      obtain ⟨Q5, hKQ5, h⟩ := h
      refine s_callV (ci := 10) (av := [(0, l1), (0, l2)]) (rest := []) (mc := 0) (ms := 0) C dX10_list_23 lk_X10_289 (sh_41 hF1) (by decide) rfl rfl rfl (Nat.le_of_ble_eq_true rfl) (by decide) (by decide) hKQ5 (fun z5 w5 M5 hq => ?_)
      have h := h z5 w5 M5 hq
      refine s_iload_n C dX10_list_26 rfl ?_
      refine s_iconst C dX10_list_27 (by decide) ?_
      refine s_icmpne C dX10_list_28 rfl (fun hc => ?_) (fun hc => ?_)
      · have h := h.1 hc
        refine s_iload_n C dX10_list_38 rfl ?_
        refine s_i2l C dX10_list_39 ?_
        refine s_lconst (z := 0) C dX10_list_40 ⟨rfl, by decide⟩ ?_
        refine s_aload_n C dX10_list_41 rfl ?_
        refine WA.fix (fun hF6 => ?_)
        refine gf_X10_283 (v0 := (M5 41 36)) C (sh_41 hF6) dX10_list_42 rfl ?_
        refine s_iconst C dX10_list_45 (by decide) ?_
        obtain ⟨o7, h⟩ := h
        refine s_isub C dX10_list_46 o7 ?_
        refine s_i2l C dX10_list_47 ?_
        refine s_callS (av := [(1, l3), (1, 0), (1, ((M5 41 36) - 1))]) (rest := []) (mc := 0) (ms := 0) C dX10_list_48 lk_X10_139 rfl rfl (Nat.le_of_ble_eq_true rfl) (by decide) (by decide) (pc_X10_in) (fun z8 wz8 Mz8 hq => ?_)
        obtain ⟨hq1, hq2, hq3⟩ := hq
        have hq2 := hq2.symm
        have hq3 := hq3.symm
        subst hq1 hq2 hq3
        refine s_ifeq C dX10_list_51 rfl (fun hc => ?_) (fun hc => ?_)
        · have h := h.1 (b2i_0.mp hc)
          refine s_bipush C dX10_list_63 ⟨rfl, by decide, by decide⟩ ?_
          exact s_ireturn C dX10_list_65 h
        · have h := h.2 (b2i_n0 hc)
          refine s_aload_n C dX10_list_54 rfl ?_
          refine gf_X10_95 C (sh_41 hF6) dX10_list_55 (fx_41_35 hF6) ?_
          refine s_iload_n C dX10_list_58 rfl ?_
          obtain ⟨o9, h⟩ := h
          obtain ⟨o10, h⟩ := h
          refine s_iald (v0 := (M5 70 l3)) C (sh_70 hF6) o9 o10 dX10_list_59 rfl ?_
          refine s_goto C dX10_list_60 rfl ?_
          exact s_ireturn C dX10_list_65 h
      · have h := h.2 hc
        refine s_aload_n C dX10_list_31 rfl ?_
        refine WA.fix (fun hF11 => ?_)
        refine gf_X10_283 (v0 := (M5 41 36)) C (sh_41 hF11) dX10_list_32 rfl ?_
        refine s_goto C dX10_list_35 rfl ?_
        exact s_ireturn C dX10_list_65 h
    · have h := h.2 (b2i_nn hc)
      refine s_bipush C dX10_list_17 ⟨rfl, by decide, by decide⟩ ?_
      exact s_ireturn C dX10_list_19 h
  · have h := h.2 (b2i_nn hc)
    refine s_iconst C dX10_list_8 (by decide) ?_
    exact s_ireturn C dX10_list_9 h
theorem E_X10_list {G : GP} {l : Launch} {P : Int → NS → MM → Prop} {l1 : Int} {l2 : Int} {l3 : Int} {w : NS} {M : MM} (h : inR l1 → inR l2 → inR l3 → ∀ X : BX, X.2.1 = l → CX_X10_list G X → A_X10_list_0 G X P l1 l2 l3 w M) : CT_X10_list G l [(2, 41), (0, l1), (0, l2), (0, l3)] w M P :=
  CT.of RX10 "list" (by decide +kernel) rfl rfl rfl (Nat.le_of_ble_eq_true rfl) (fun hr X hX C => h (hr (0, l1) (by simp)) (hr (0, l2) (by simp)) (hr (0, l3) (by simp)) X hX C)
def A_X10_name_0 (G : GP) (X : BX) (P : Int → NS → MM → Prop) (l1 : Int) (l2 : Int) (w : NS) (M : MM) : Prop := WA true G X (QM G X true 0 P) 4 0 [(2, 41), (0, l1), (0, l2), (3, 0)] [] 0 0 w M
set_option maxHeartbeats 4000000 in
set_option maxRecDepth 100000 in
theorem B_X10_name_0 {G : GP} {X : BX} {P : Int → NS → MM → Prop} {l1 : Int} {l2 : Int} {w : NS} {M : MM} (C : CX_X10_name G X) (h : ((((0 ≤ l1 ∧ l1 ≤ 3)) → (((((-1) ≤ l2 ∧ l2 ≤ 99)) → (0 ≤ l1) ∧ (l1 < 4) ∧ (((0 ≤ l2) → P (M 72 l1) w (up M 72 l1 l2)) ∧ ((¬ (0 ≤ l2)) → P (M 72 l1) w (up M 72 l1 (-6))))) ∧ ((¬ ((-1) ≤ l2 ∧ l2 ≤ 99)) → P (-2) w M))) ∧ ((¬ (0 ≤ l1 ∧ l1 ≤ 3)) → P (-1) w M))) : A_X10_name_0 G X P l1 l2 w M := by
  unfold A_X10_name_0
  refine s_iload_n C dX10_name_0 rfl ?_
  refine s_callS (av := [(0, l1)]) (rest := []) (mc := 0) (ms := 0) C dX10_name_1 lk_X10_294 rfl rfl (Nat.le_of_ble_eq_true rfl) (by decide) (by decide) (pc_X10_isName) (fun z1 wz1 Mz1 hq => ?_)
  obtain ⟨hq1, hq2, hq3⟩ := hq
  have hq2 := hq2.symm
  have hq3 := hq3.symm
  subst hq1 hq2 hq3
  refine s_ifne C dX10_name_4 rfl (fun hc => ?_) (fun hc => ?_)
  · have h := h.1 (b2i_n0 hc)
    refine s_iload_n C dX10_name_9 rfl ?_
    refine s_i2l C dX10_name_10 ?_
    refine s_ldc2 (z := -1) C dX10_name_11 (mG (wd_946) rfl) ⟨rfl, by decide⟩ ?_
    refine s_ldc2 (z := 99) C dX10_name_14 (mG (wd_936) rfl) ⟨rfl, by decide⟩ ?_
    refine s_callS (av := [(1, l2), (1, (-1)), (1, 99)]) (rest := []) (mc := 0) (ms := 0) C dX10_name_17 lk_X10_139 rfl rfl (Nat.le_of_ble_eq_true rfl) (by decide) (by decide) (pc_X10_in) (fun z2 wz2 Mz2 hq => ?_)
    obtain ⟨hq1, hq2, hq3⟩ := hq
    have hq2 := hq2.symm
    have hq3 := hq3.symm
    subst hq1 hq2 hq3
    refine s_ifne C dX10_name_20 rfl (fun hc => ?_) (fun hc => ?_)
    · have h := h.1 (b2i_n0 hc)
      refine s_aload_n C dX10_name_26 rfl ?_
      refine WA.fix (fun hF3 => ?_)
      refine gf_X10_101 C (sh_41 hF3) dX10_name_27 (fx_41_38 hF3) ?_
      refine s_iload_n C dX10_name_30 rfl ?_
      obtain ⟨o4, h⟩ := h
      obtain ⟨o5, h⟩ := h
      refine s_iald (v0 := (M 72 l1)) C (sh_72 hF3) o4 o5 dX10_name_31 rfl ?_
      refine s_istore_n (ls' := [(2, 41), (0, l1), (0, l2), (0, (M 72 l1))]) C dX10_name_32 (by decide) rfl rfl ?_
      refine s_aload_n C dX10_name_33 rfl ?_
      refine gf_X10_101 C (sh_41 hF3) dX10_name_34 (fx_41_38 hF3) ?_
      refine s_iload_n C dX10_name_37 rfl ?_
      refine s_iload_n C dX10_name_38 rfl ?_
      refine s_ifge C dX10_name_39 rfl (fun hc => ?_) (fun hc => ?_)
      · have h := h.1 hc
        refine s_iload_n C dX10_name_47 rfl ?_
        refine s_iast C (sh_72 hF3) o4 o5 (fun _ => by decide) dX10_name_48 ?_
        refine s_iload_n C dX10_name_49 rfl ?_
        exact s_ireturn C dX10_name_50 h
      · have h := h.2 hc
        refine s_bipush C dX10_name_42 ⟨rfl, by decide, by decide⟩ ?_
        refine s_goto C dX10_name_44 rfl ?_
        refine s_iast C (sh_72 hF3) o4 o5 (fun _ => by decide) dX10_name_48 ?_
        refine s_iload_n C dX10_name_49 rfl ?_
        exact s_ireturn C dX10_name_50 h
    · have h := h.2 (b2i_nn hc)
      refine s_bipush C dX10_name_23 ⟨rfl, by decide, by decide⟩ ?_
      exact s_ireturn C dX10_name_25 h
  · have h := h.2 (b2i_nn hc)
    refine s_iconst C dX10_name_7 (by decide) ?_
    exact s_ireturn C dX10_name_8 h
theorem E_X10_name {G : GP} {l : Launch} {P : Int → NS → MM → Prop} {l1 : Int} {l2 : Int} {w : NS} {M : MM} (h : inR l1 → inR l2 → ∀ X : BX, X.2.1 = l → CX_X10_name G X → A_X10_name_0 G X P l1 l2 w M) : CT_X10_name G l [(2, 41), (0, l1), (0, l2)] w M P :=
  CT.of RX10 "name" (by decide +kernel) rfl rfl rfl (Nat.le_of_ble_eq_true rfl) (fun hr X hX C => h (hr (0, l1) (by simp)) (hr (0, l2) (by simp)) X hX C)
def A_X10_counts_0 (G : GP) (X : BX) (P : Int → NS → MM → Prop) (l1 : Int) (l2 : Int) (l3 : Int) (w : NS) (M : MM) : Prop := WA true G X (QM G X true 0 P) 5 0 [(2, 41), (0, l1), (0, l2), (0, l3), (3, 0)] [] 0 0 w M
set_option maxHeartbeats 4000000 in
set_option maxRecDepth 100000 in
theorem B_X10_counts_0 {G : GP} {X : BX} {P : Int → NS → MM → Prop} {l1 : Int} {l2 : Int} {l3 : Int} {w : NS} {M : MM} (C : CX_X10_counts G X) (h : ((((0 ≤ l1 ∧ l1 ≤ 3)) → (((¬ (0 ≤ l2 ∧ l2 ≤ 99)) → P (-2) w M) ∧ (((0 ≤ l2 ∧ l2 ≤ 99)) → (((((-100) ≤ l3 ∧ l3 ≤ 100)) → (inR (100 * l1)) ∧ (inR ((100 * l1) + l2)) ∧ (0 ≤ ((100 * l1) + l2)) ∧ (((100 * l1) + l2) < 400) ∧ P (M 73 ((100 * l1) + l2)) w (up M 73 ((100 * l1) + l2) l3)) ∧ ((¬ ((-100) ≤ l3 ∧ l3 ≤ 100)) → P (-2) w M))))) ∧ ((¬ (0 ≤ l1 ∧ l1 ≤ 3)) → P (-1) w M))) : A_X10_counts_0 G X P l1 l2 l3 w M := by
  unfold A_X10_counts_0
  refine s_iload_n C dX10_counts_0 rfl ?_
  refine s_callS (av := [(0, l1)]) (rest := []) (mc := 0) (ms := 0) C dX10_counts_1 lk_X10_294 rfl rfl (Nat.le_of_ble_eq_true rfl) (by decide) (by decide) (pc_X10_isName) (fun z1 wz1 Mz1 hq => ?_)
  obtain ⟨hq1, hq2, hq3⟩ := hq
  have hq2 := hq2.symm
  have hq3 := hq3.symm
  subst hq1 hq2 hq3
  refine s_ifne C dX10_counts_4 rfl (fun hc => ?_) (fun hc => ?_)
  · have h := h.1 (b2i_n0 hc)
    refine s_iload_n C dX10_counts_9 rfl ?_
    refine s_i2l C dX10_counts_10 ?_
    refine s_lconst (z := 0) C dX10_counts_11 ⟨rfl, by decide⟩ ?_
    refine s_ldc2 (z := 99) C dX10_counts_12 (mG (wd_936) rfl) ⟨rfl, by decide⟩ ?_
    refine s_callS (av := [(1, l2), (1, 0), (1, 99)]) (rest := []) (mc := 0) (ms := 0) C dX10_counts_15 lk_X10_139 rfl rfl (Nat.le_of_ble_eq_true rfl) (by decide) (by decide) (pc_X10_in) (fun z2 wz2 Mz2 hq => ?_)
    obtain ⟨hq1, hq2, hq3⟩ := hq
    have hq2 := hq2.symm
    have hq3 := hq3.symm
    subst hq1 hq2 hq3
    refine s_ifeq C dX10_counts_18 rfl (fun hc => ?_) (fun hc => ?_)
    · have h := h.1 (b2i_0.mp hc)
      refine s_bipush C dX10_counts_35 ⟨rfl, by decide, by decide⟩ ?_
      exact s_ireturn C dX10_counts_37 h
    · have h := h.2 (b2i_n0 hc)
      refine s_iload_n C dX10_counts_21 rfl ?_
      refine s_i2l C dX10_counts_22 ?_
      refine s_ldc2 (z := -100) C dX10_counts_23 (mG (wd_1126) rfl) ⟨rfl, by decide⟩ ?_
      refine s_ldc2 (z := 100) C dX10_counts_26 (mG (wd_959) rfl) ⟨rfl, by decide⟩ ?_
      refine s_callS (av := [(1, l3), (1, (-100)), (1, 100)]) (rest := []) (mc := 0) (ms := 0) C dX10_counts_29 lk_X10_139 rfl rfl (Nat.le_of_ble_eq_true rfl) (by decide) (by decide) (pc_X10_in) (fun z3 wz3 Mz3 hq => ?_)
      obtain ⟨hq1, hq2, hq3⟩ := hq
      have hq2 := hq2.symm
      have hq3 := hq3.symm
      subst hq1 hq2 hq3
      refine s_ifne C dX10_counts_32 rfl (fun hc => ?_) (fun hc => ?_)
      · have h := h.1 (b2i_n0 hc)
        refine s_aload_n C dX10_counts_38 rfl ?_
        refine WA.fix (fun hF4 => ?_)
        refine gf_X10_104 C (sh_41 hF4) dX10_counts_39 (fx_41_39 hF4) ?_
        refine s_bipush C dX10_counts_42 ⟨rfl, by decide, by decide⟩ ?_
        refine s_iload_n C dX10_counts_44 rfl ?_
        obtain ⟨o5, h⟩ := h
        refine s_imul C dX10_counts_45 o5 ?_
        refine s_iload_n C dX10_counts_46 rfl ?_
        obtain ⟨o6, h⟩ := h
        refine s_iadd C dX10_counts_47 o6 ?_
        obtain ⟨o7, h⟩ := h
        obtain ⟨o8, h⟩ := h
        refine s_iald (v0 := (M 73 ((100 * l1) + l2))) C (sh_73 hF4) o7 o8 dX10_counts_48 rfl ?_
        refine s_istore (ls' := [(2, 41), (0, l1), (0, l2), (0, l3), (0, (M 73 ((100 * l1) + l2)))]) C dX10_counts_49 (by decide) rfl rfl ?_
        refine s_aload_n C dX10_counts_51 rfl ?_
        refine gf_X10_104 C (sh_41 hF4) dX10_counts_52 (fx_41_39 hF4) ?_
        refine s_bipush C dX10_counts_55 ⟨rfl, by decide, by decide⟩ ?_
        refine s_iload_n C dX10_counts_57 rfl ?_
        refine s_imul C dX10_counts_58 o5 ?_
        refine s_iload_n C dX10_counts_59 rfl ?_
        refine s_iadd C dX10_counts_60 o6 ?_
        refine s_iload_n C dX10_counts_61 rfl ?_
        refine s_iast C (sh_73 hF4) o7 o8 (fun _ => by decide) dX10_counts_62 ?_
        refine s_iload C dX10_counts_63 rfl ?_
        exact s_ireturn C dX10_counts_65 h
      · have h := h.2 (b2i_nn hc)
        refine s_bipush C dX10_counts_35 ⟨rfl, by decide, by decide⟩ ?_
        exact s_ireturn C dX10_counts_37 h
  · have h := h.2 (b2i_nn hc)
    refine s_iconst C dX10_counts_7 (by decide) ?_
    exact s_ireturn C dX10_counts_8 h
theorem E_X10_counts {G : GP} {l : Launch} {P : Int → NS → MM → Prop} {l1 : Int} {l2 : Int} {l3 : Int} {w : NS} {M : MM} (h : inR l1 → inR l2 → inR l3 → ∀ X : BX, X.2.1 = l → CX_X10_counts G X → A_X10_counts_0 G X P l1 l2 l3 w M) : CT_X10_counts G l [(2, 41), (0, l1), (0, l2), (0, l3)] w M P :=
  CT.of RX10 "counts" (by decide +kernel) rfl rfl rfl (Nat.le_of_ble_eq_true rfl) (fun hr X hX C => h (hr (0, l1) (by simp)) (hr (0, l2) (by simp)) (hr (0, l3) (by simp)) X hX C)
def A_X10_sumAt_0 (G : GP) (X : BX) (P : Int → NS → MM → Prop) (l1 : Int) (l2 : Int) (w : NS) (M : MM) : Prop := WA true G X (QM G X true 0 P) 6 0 [(2, 41), (0, l1), (0, l2), (3, 0), (3, 0), (3, 0)] [] 0 0 w M
def A_X10_sumAt_5 (G : GP) (X : BX) (P : Int → NS → MM → Prop) (l1 : Int) (l2 : Int) (l3 : Int) (l4 : Int) (w : NS) (M : MM) : Prop := WA true G X (QM G X true 0 P) 6 5 [(2, 41), (0, l1), (0, l2), (0, l3), (0, l4), (3, 0)] [] 0 0 w M
set_option maxHeartbeats 4000000 in
set_option maxRecDepth 100000 in
theorem B_X10_sumAt_0 {G : GP} {X : BX} {P : Int → NS → MM → Prop} {l1 : Int} {l2 : Int} {w : NS} {M : MM} (C : CX_X10_sumAt G X) (h : A_X10_sumAt_5 G X P l1 l2 0 0 w M) : A_X10_sumAt_0 G X P l1 l2 w M := by
  unfold A_X10_sumAt_0
  refine s_iconst C dX10_sumAt_0 (by decide) ?_
  refine s_istore_n (ls' := [(2, 41), (0, l1), (0, l2), (0, 0), (3, 0), (3, 0)]) C dX10_sumAt_1 (by decide) rfl rfl ?_
  refine s_iconst C dX10_sumAt_2 (by decide) ?_
  refine s_istore (ls' := [(2, 41), (0, l1), (0, l2), (0, 0), (0, 0), (3, 0)]) C dX10_sumAt_3 (by decide) rfl rfl ?_
  exact h
set_option maxHeartbeats 4000000 in
set_option maxRecDepth 100000 in
theorem B_X10_sumAt_5 {G : GP} {X : BX} {P : Int → NS → MM → Prop} {l1 : Int} {l2 : Int} {l3 : Int} {l4 : Int} {w : NS} {M : MM} (C : CX_X10_sumAt G X) (h : ((((M 41 16) ≤ l4) → P l3 w M) ∧ ((¬ ((M 41 16) ≤ l4)) → (((l4 ≤ l2) → (inR (l2 - l4)) ∧ ((((l2 - l4) ≤ 0) → (inR (l3 + 0)) ∧ (inR (l4 + 1)) ∧ A_X10_sumAt_5 G X P l1 l2 (l3 + 0) (l4 + 1) w M) ∧ ((¬ ((l2 - l4) ≤ 0)) → ((((M 53 1) < (l2 - l4)) → (inR (l3 + 0)) ∧ (inR (l4 + 1)) ∧ A_X10_sumAt_5 G X P l1 l2 (l3 + 0) (l4 + 1) w M) ∧ ((¬ ((M 53 1) < (l2 - l4))) → (inR (100 * l1)) ∧ (0 ≤ l4) ∧ (l4 < 60) ∧ (inR ((100 * l1) + (M 54 l4))) ∧ (0 ≤ ((100 * l1) + (M 54 l4))) ∧ (((100 * l1) + (M 54 l4)) < 400) ∧ (inR (l3 + (M 73 ((100 * l1) + (M 54 l4))))) ∧ (inR (l4 + 1)) ∧ A_X10_sumAt_5 G X P l1 l2 (l3 + (M 73 ((100 * l1) + (M 54 l4)))) (l4 + 1) w M))))) ∧ ((¬ (l4 ≤ l2)) → (inR (l4 - l2)) ∧ ((((l4 - l2) ≤ 0) → (inR (l3 + 0)) ∧ (inR (l4 + 1)) ∧ A_X10_sumAt_5 G X P l1 l2 (l3 + 0) (l4 + 1) w M) ∧ ((¬ ((l4 - l2) ≤ 0)) → ((((M 53 1) < (l4 - l2)) → (inR (l3 + 0)) ∧ (inR (l4 + 1)) ∧ A_X10_sumAt_5 G X P l1 l2 (l3 + 0) (l4 + 1) w M) ∧ ((¬ ((M 53 1) < (l4 - l2))) → (inR (100 * l1)) ∧ (0 ≤ l4) ∧ (l4 < 60) ∧ (inR ((100 * l1) + (M 54 l4))) ∧ (0 ≤ ((100 * l1) + (M 54 l4))) ∧ (((100 * l1) + (M 54 l4)) < 400) ∧ (inR (l3 + (M 73 ((100 * l1) + (M 54 l4))))) ∧ (inR (l4 + 1)) ∧ A_X10_sumAt_5 G X P l1 l2 (l3 + (M 73 ((100 * l1) + (M 54 l4)))) (l4 + 1) w M))))))))) : A_X10_sumAt_5 G X P l1 l2 l3 l4 w M := by
  unfold A_X10_sumAt_5
  refine s_iload C dX10_sumAt_5 rfl ?_
  refine s_aload_n C dX10_sumAt_7 rfl ?_
  refine WA.fix (fun hF1 => ?_)
  refine gf_X10_176 (v0 := (M 41 16)) C (sh_41 hF1) dX10_sumAt_8 rfl ?_
  refine s_icmpge C dX10_sumAt_11 rfl (fun hc => ?_) (fun hc => ?_)
  · have h := h.1 hc
    refine s_iload_n C dX10_sumAt_79 rfl ?_
    exact s_ireturn C dX10_sumAt_80 h
  · have h := h.2 hc
    refine s_iload_n C dX10_sumAt_14 rfl ?_
    refine s_iload C dX10_sumAt_15 rfl ?_
    refine s_icmpge C dX10_sumAt_17 rfl (fun hc => ?_) (fun hc => ?_)
    · have h := h.1 hc
      refine s_iload_n C dX10_sumAt_27 rfl ?_
      refine s_iload C dX10_sumAt_28 rfl ?_
      obtain ⟨o2, h⟩ := h
      refine s_isub C dX10_sumAt_30 o2 ?_
      refine s_istore (ls' := [(2, 41), (0, l1), (0, l2), (0, l3), (0, l4), (0, (l2 - l4))]) C dX10_sumAt_31 (by decide) rfl rfl ?_
      refine s_iload_n C dX10_sumAt_33 rfl ?_
      refine s_iload C dX10_sumAt_34 rfl ?_
      refine s_ifle C dX10_sumAt_36 rfl (fun hc => ?_) (fun hc => ?_)
      · have h := h.1 hc
        refine s_iconst C dX10_sumAt_70 (by decide) ?_
        obtain ⟨o3, h⟩ := h
        refine s_iadd C dX10_sumAt_71 o3 ?_
        refine s_istore_n (ls' := [(2, 41), (0, l1), (0, l2), (0, (l3 + 0)), (0, l4), (0, (l2 - l4))]) C dX10_sumAt_72 (by decide) rfl rfl ?_
        obtain ⟨o4, h⟩ := h
        refine s_iinc (ls' := [(2, 41), (0, l1), (0, l2), (0, (l3 + 0)), (0, (l4 + 1)), (0, (l2 - l4))]) C dX10_sumAt_73 (by decide) rfl o4 rfl rfl ?_
        refine s_goto C dX10_sumAt_76 rfl ?_
        exact WA.wk h ⟨Or.inr rfl, Or.inr rfl, Or.inr rfl, Or.inr rfl, Or.inr rfl, Or.inl rfl, trivial⟩
      · have h := h.2 hc
        refine s_iload C dX10_sumAt_39 rfl ?_
        refine s_aload_n C dX10_sumAt_41 rfl ?_
        refine gf_X10_43 C (sh_41 hF1) dX10_sumAt_42 (fx_41_13 hF1) ?_
        refine s_iconst C dX10_sumAt_45 (by decide) ?_
        refine s_iald (v0 := (M 53 1)) C (sh_53 hF1) (by decide) (by decide) dX10_sumAt_46 rfl ?_
        refine s_icmpgt C dX10_sumAt_47 rfl (fun hc => ?_) (fun hc => ?_)
        · have h := h.1 hc
          refine s_iconst C dX10_sumAt_70 (by decide) ?_
          obtain ⟨o5, h⟩ := h
          refine s_iadd C dX10_sumAt_71 o5 ?_
          refine s_istore_n (ls' := [(2, 41), (0, l1), (0, l2), (0, (l3 + 0)), (0, l4), (0, (l2 - l4))]) C dX10_sumAt_72 (by decide) rfl rfl ?_
          obtain ⟨o6, h⟩ := h
          refine s_iinc (ls' := [(2, 41), (0, l1), (0, l2), (0, (l3 + 0)), (0, (l4 + 1)), (0, (l2 - l4))]) C dX10_sumAt_73 (by decide) rfl o6 rfl rfl ?_
          refine s_goto C dX10_sumAt_76 rfl ?_
          exact WA.wk h ⟨Or.inr rfl, Or.inr rfl, Or.inr rfl, Or.inr rfl, Or.inr rfl, Or.inl rfl, trivial⟩
        · have h := h.2 hc
          refine s_aload_n C dX10_sumAt_50 rfl ?_
          refine gf_X10_104 C (sh_41 hF1) dX10_sumAt_51 (fx_41_39 hF1) ?_
          refine s_bipush C dX10_sumAt_54 ⟨rfl, by decide, by decide⟩ ?_
          refine s_iload_n C dX10_sumAt_56 rfl ?_
          obtain ⟨o7, h⟩ := h
          refine s_imul C dX10_sumAt_57 o7 ?_
          refine s_aload_n C dX10_sumAt_58 rfl ?_
          refine gf_X10_46 C (sh_41 hF1) dX10_sumAt_59 (fx_41_14 hF1) ?_
          refine s_iload C dX10_sumAt_62 rfl ?_
          obtain ⟨o8, h⟩ := h
          obtain ⟨o9, h⟩ := h
          refine s_iald (v0 := (M 54 l4)) C (sh_54 hF1) o8 o9 dX10_sumAt_64 rfl ?_
          obtain ⟨o10, h⟩ := h
          refine s_iadd C dX10_sumAt_65 o10 ?_
          obtain ⟨o11, h⟩ := h
          obtain ⟨o12, h⟩ := h
          refine s_iald (v0 := (M 73 ((100 * l1) + (M 54 l4)))) C (sh_73 hF1) o11 o12 dX10_sumAt_66 rfl ?_
          refine s_goto C dX10_sumAt_67 rfl ?_
          obtain ⟨o13, h⟩ := h
          refine s_iadd C dX10_sumAt_71 o13 ?_
          refine s_istore_n (ls' := [(2, 41), (0, l1), (0, l2), (0, (l3 + (M 73 ((100 * l1) + (M 54 l4))))), (0, l4), (0, (l2 - l4))]) C dX10_sumAt_72 (by decide) rfl rfl ?_
          obtain ⟨o14, h⟩ := h
          refine s_iinc (ls' := [(2, 41), (0, l1), (0, l2), (0, (l3 + (M 73 ((100 * l1) + (M 54 l4))))), (0, (l4 + 1)), (0, (l2 - l4))]) C dX10_sumAt_73 (by decide) rfl o14 rfl rfl ?_
          refine s_goto C dX10_sumAt_76 rfl ?_
          exact WA.wk h ⟨Or.inr rfl, Or.inr rfl, Or.inr rfl, Or.inr rfl, Or.inr rfl, Or.inl rfl, trivial⟩
    · have h := h.2 hc
      refine s_iload C dX10_sumAt_20 rfl ?_
      refine s_iload_n C dX10_sumAt_22 rfl ?_
      obtain ⟨o15, h⟩ := h
      refine s_isub C dX10_sumAt_23 o15 ?_
      refine s_goto C dX10_sumAt_24 rfl ?_
      refine s_istore (ls' := [(2, 41), (0, l1), (0, l2), (0, l3), (0, l4), (0, (l4 - l2))]) C dX10_sumAt_31 (by decide) rfl rfl ?_
      refine s_iload_n C dX10_sumAt_33 rfl ?_
      refine s_iload C dX10_sumAt_34 rfl ?_
      refine s_ifle C dX10_sumAt_36 rfl (fun hc => ?_) (fun hc => ?_)
      · have h := h.1 hc
        refine s_iconst C dX10_sumAt_70 (by decide) ?_
        obtain ⟨o16, h⟩ := h
        refine s_iadd C dX10_sumAt_71 o16 ?_
        refine s_istore_n (ls' := [(2, 41), (0, l1), (0, l2), (0, (l3 + 0)), (0, l4), (0, (l4 - l2))]) C dX10_sumAt_72 (by decide) rfl rfl ?_
        obtain ⟨o17, h⟩ := h
        refine s_iinc (ls' := [(2, 41), (0, l1), (0, l2), (0, (l3 + 0)), (0, (l4 + 1)), (0, (l4 - l2))]) C dX10_sumAt_73 (by decide) rfl o17 rfl rfl ?_
        refine s_goto C dX10_sumAt_76 rfl ?_
        exact WA.wk h ⟨Or.inr rfl, Or.inr rfl, Or.inr rfl, Or.inr rfl, Or.inr rfl, Or.inl rfl, trivial⟩
      · have h := h.2 hc
        refine s_iload C dX10_sumAt_39 rfl ?_
        refine s_aload_n C dX10_sumAt_41 rfl ?_
        refine gf_X10_43 C (sh_41 hF1) dX10_sumAt_42 (fx_41_13 hF1) ?_
        refine s_iconst C dX10_sumAt_45 (by decide) ?_
        refine s_iald (v0 := (M 53 1)) C (sh_53 hF1) (by decide) (by decide) dX10_sumAt_46 rfl ?_
        refine s_icmpgt C dX10_sumAt_47 rfl (fun hc => ?_) (fun hc => ?_)
        · have h := h.1 hc
          refine s_iconst C dX10_sumAt_70 (by decide) ?_
          obtain ⟨o18, h⟩ := h
          refine s_iadd C dX10_sumAt_71 o18 ?_
          refine s_istore_n (ls' := [(2, 41), (0, l1), (0, l2), (0, (l3 + 0)), (0, l4), (0, (l4 - l2))]) C dX10_sumAt_72 (by decide) rfl rfl ?_
          obtain ⟨o19, h⟩ := h
          refine s_iinc (ls' := [(2, 41), (0, l1), (0, l2), (0, (l3 + 0)), (0, (l4 + 1)), (0, (l4 - l2))]) C dX10_sumAt_73 (by decide) rfl o19 rfl rfl ?_
          refine s_goto C dX10_sumAt_76 rfl ?_
          exact WA.wk h ⟨Or.inr rfl, Or.inr rfl, Or.inr rfl, Or.inr rfl, Or.inr rfl, Or.inl rfl, trivial⟩
        · have h := h.2 hc
          refine s_aload_n C dX10_sumAt_50 rfl ?_
          refine gf_X10_104 C (sh_41 hF1) dX10_sumAt_51 (fx_41_39 hF1) ?_
          refine s_bipush C dX10_sumAt_54 ⟨rfl, by decide, by decide⟩ ?_
          refine s_iload_n C dX10_sumAt_56 rfl ?_
          obtain ⟨o20, h⟩ := h
          refine s_imul C dX10_sumAt_57 o20 ?_
          refine s_aload_n C dX10_sumAt_58 rfl ?_
          refine gf_X10_46 C (sh_41 hF1) dX10_sumAt_59 (fx_41_14 hF1) ?_
          refine s_iload C dX10_sumAt_62 rfl ?_
          obtain ⟨o21, h⟩ := h
          obtain ⟨o22, h⟩ := h
          refine s_iald (v0 := (M 54 l4)) C (sh_54 hF1) o21 o22 dX10_sumAt_64 rfl ?_
          obtain ⟨o23, h⟩ := h
          refine s_iadd C dX10_sumAt_65 o23 ?_
          obtain ⟨o24, h⟩ := h
          obtain ⟨o25, h⟩ := h
          refine s_iald (v0 := (M 73 ((100 * l1) + (M 54 l4)))) C (sh_73 hF1) o24 o25 dX10_sumAt_66 rfl ?_
          refine s_goto C dX10_sumAt_67 rfl ?_
          obtain ⟨o26, h⟩ := h
          refine s_iadd C dX10_sumAt_71 o26 ?_
          refine s_istore_n (ls' := [(2, 41), (0, l1), (0, l2), (0, (l3 + (M 73 ((100 * l1) + (M 54 l4))))), (0, l4), (0, (l4 - l2))]) C dX10_sumAt_72 (by decide) rfl rfl ?_
          obtain ⟨o27, h⟩ := h
          refine s_iinc (ls' := [(2, 41), (0, l1), (0, l2), (0, (l3 + (M 73 ((100 * l1) + (M 54 l4))))), (0, (l4 + 1)), (0, (l4 - l2))]) C dX10_sumAt_73 (by decide) rfl o27 rfl rfl ?_
          refine s_goto C dX10_sumAt_76 rfl ?_
          exact WA.wk h ⟨Or.inr rfl, Or.inr rfl, Or.inr rfl, Or.inr rfl, Or.inr rfl, Or.inl rfl, trivial⟩
theorem E_X10_sumAt {G : GP} {l : Launch} {P : Int → NS → MM → Prop} {l1 : Int} {l2 : Int} {w : NS} {M : MM} (h : inR l1 → inR l2 → ∀ X : BX, X.2.1 = l → CX_X10_sumAt G X → A_X10_sumAt_0 G X P l1 l2 w M) : CT_X10_sumAt G l [(2, 41), (0, l1), (0, l2)] w M P :=
  CT.of RX10 "sumAt" (by decide +kernel) rfl rfl rfl (Nat.le_of_ble_eq_true rfl) (fun hr X hX C => h (hr (0, l1) (by simp)) (hr (0, l2) (by simp)) X hX C)
def A_X10_likely_0 (G : GP) (X : BX) (P : Int → NS → MM → Prop) (l1 : Int) (l2 : Int) (l3 : Int) (w : NS) (M : MM) : Prop := WA true G X (QM G X true 0 P) 7 0 [(2, 41), (0, l1), (0, l2), (0, l3), (3, 0), (3, 0), (3, 0)] [] 0 0 w M
def A_X10_likely_47 (G : GP) (X : BX) (P : Int → NS → MM → Prop) (l1 : Int) (l3 : Int) (l4 : Int) (l5 : Int) (l6 : Int) (w : NS) (M : MM) : Prop := WA true G X (QM G X true 0 P) 7 47 [(2, 41), (0, l1), (3, 0), (0, l3), (0, l4), (0, l5), (0, l6)] [] 0 0 w M
set_option maxHeartbeats 4000000 in
set_option maxRecDepth 100000 in
theorem B_X10_likely_0 {G : GP} {X : BX} {P : Int → NS → MM → Prop} {l1 : Int} {l2 : Int} {l3 : Int} {w : NS} {M : MM} (C : CX_X10_likely G X) (h : (((¬ (0 ≤ l1 ∧ l1 ≤ 3)) → P (-1) w M) ∧ (((0 ≤ l1 ∧ l1 ≤ 3)) → (0 ≤ M 41 12) ∧ ((((0 ≤ l2 ∧ l2 < M 41 12)) → ((((0 ≤ l3 ∧ l3 ≤ 2)) → ∃ Q6 : Int → NS → MM → Prop, CT_X10_layOne G X.2.1 [(2, 41), (0, l2)] w M Q6 ∧ ∀ (z6 : Int) (w6 : NS) (M6 : MM), Q6 z6 w6 M6 → A_X10_likely_47 G X P l1 l3 (-6) 0 0 w6 M6) ∧ ((¬ (0 ≤ l3 ∧ l3 ≤ 2)) → P (-2) w M))) ∧ ((¬ (0 ≤ l2 ∧ l2 < M 41 12)) → P (-1) w M))))) : A_X10_likely_0 G X P l1 l2 l3 w M := by
  unfold A_X10_likely_0
  refine s_iload_n C dX10_likely_0 rfl ?_
  refine s_callS (av := [(0, l1)]) (rest := []) (mc := 0) (ms := 0) C dX10_likely_1 lk_X10_294 rfl rfl (Nat.le_of_ble_eq_true rfl) (by decide) (by decide) (pc_X10_isName) (fun z1 wz1 Mz1 hq => ?_)
  obtain ⟨hq1, hq2, hq3⟩ := hq
  have hq2 := hq2.symm
  have hq3 := hq3.symm
  subst hq1 hq2 hq3
  refine s_ifeq C dX10_likely_4 rfl (fun hc => ?_) (fun hc => ?_)
  · have h := h.1 (b2i_0.mp hc)
    refine s_iconst C dX10_likely_15 (by decide) ?_
    exact s_ireturn C dX10_likely_16 h
  · have h := h.2 (b2i_n0 hc)
    refine s_aload_n C dX10_likely_7 rfl ?_
    refine s_iload_n C dX10_likely_8 rfl ?_
    refine WA.fix (fun hF2 => ?_)
    obtain ⟨o3, h⟩ := h
    refine s_callV (ci := 10) (av := [(0, l2)]) (rest := []) (mc := 0) (ms := 0) C dX10_likely_9 lk_X10_186 (sh_41 hF2) (by decide) rfl rfl rfl (Nat.le_of_ble_eq_true rfl) (by decide) (by decide) (pc_X10_isPiece o3) (fun z4 wz4 Mz4 hq => ?_)
    obtain ⟨hq1, hq2, hq3⟩ := hq
    have hq2 := hq2.symm
    have hq3 := hq3.symm
    subst hq1 hq2 hq3
    refine s_ifne C dX10_likely_12 rfl (fun hc => ?_) (fun hc => ?_)
    · have h := h.1 (b2i_n0 hc)
      refine s_iload_n C dX10_likely_17 rfl ?_
      refine s_i2l C dX10_likely_18 ?_
      refine s_lconst (z := 0) C dX10_likely_19 ⟨rfl, by decide⟩ ?_
      refine s_ldc2 (z := 2) C dX10_likely_20 (mG (wd_1131) rfl) ⟨rfl, by decide⟩ ?_
      refine s_callS (av := [(1, l3), (1, 0), (1, 2)]) (rest := []) (mc := 0) (ms := 0) C dX10_likely_23 lk_X10_139 rfl rfl (Nat.le_of_ble_eq_true rfl) (by decide) (by decide) (pc_X10_in) (fun z5 wz5 Mz5 hq => ?_)
      obtain ⟨hq1, hq2, hq3⟩ := hq
      have hq2 := hq2.symm
      have hq3 := hq3.symm
      subst hq1 hq2 hq3
      refine s_ifne C dX10_likely_26 rfl (fun hc => ?_) (fun hc => ?_)
      · have h := h.1 (b2i_n0 hc)
        refine s_aload_n C dX10_likely_32 rfl ?_
        refine s_iload_n C dX10_likely_33 rfl ?_
        obtain ⟨Q6, hKQ6, h⟩ := h
        refine s_callV (ci := 10) (av := [(0, l2)]) (rest := []) (mc := 0) (ms := 0) C dX10_likely_34 lk_X10_179 (sh_41 hF2) (by decide) rfl rfl rfl (Nat.le_of_ble_eq_true rfl) (by decide) (by decide) hKQ6 (fun z6 w6 M6 hq => ?_)
        have h := h z6 w6 M6 hq
        refine s_bipush C dX10_likely_37 ⟨rfl, by decide, by decide⟩ ?_
        refine s_istore (ls' := [(2, 41), (0, l1), (0, l2), (0, l3), (0, (-6)), (3, 0), (3, 0)]) C dX10_likely_39 (by decide) rfl rfl ?_
        refine s_iconst C dX10_likely_41 (by decide) ?_
        refine s_istore (ls' := [(2, 41), (0, l1), (0, l2), (0, l3), (0, (-6)), (0, 0), (3, 0)]) C dX10_likely_42 (by decide) rfl rfl ?_
        refine s_iconst C dX10_likely_44 (by decide) ?_
        refine s_istore (ls' := [(2, 41), (0, l1), (0, l2), (0, l3), (0, (-6)), (0, 0), (0, 0)]) C dX10_likely_45 (by decide) rfl rfl ?_
        exact WA.wk h ⟨Or.inr rfl, Or.inr rfl, Or.inl rfl, Or.inr rfl, Or.inr rfl, Or.inr rfl, Or.inr rfl, trivial⟩
      · have h := h.2 (b2i_nn hc)
        refine s_bipush C dX10_likely_29 ⟨rfl, by decide, by decide⟩ ?_
        exact s_ireturn C dX10_likely_31 h
    · have h := h.2 (b2i_nn hc)
      refine s_iconst C dX10_likely_15 (by decide) ?_
      exact s_ireturn C dX10_likely_16 h
set_option maxHeartbeats 4000000 in
set_option maxRecDepth 100000 in
theorem B_X10_likely_47 {G : GP} {X : BX} {P : Int → NS → MM → Prop} {l1 : Int} {l3 : Int} {l4 : Int} {l5 : Int} {l6 : Int} {w : NS} {M : MM} (C : CX_X10_likely G X) (h : ((((M 41 16) ≤ l6) → (((0 < l3) → (((l3 ≠ 2) → P l5 w M) ∧ ((¬ (l3 ≠ 2)) → P l4 w M))) ∧ ((¬ (0 < l3)) → (((0 ≤ l4) → (((l5 < (M 53 2)) → (inR (-(M 53 2))) ∧ ((((-(M 53 2)) < l5) → P 3 w M) ∧ ((¬ ((-(M 53 2)) < l5)) → P 2 w M))) ∧ ((¬ (l5 < (M 53 2))) → P 1 w M))) ∧ ((¬ (0 ≤ l4)) → (((l3 ≠ 2) → P l5 w M) ∧ ((¬ (l3 ≠ 2)) → P l4 w M))))))) ∧ ((¬ ((M 41 16) ≤ l6)) → (0 ≤ l6) ∧ (l6 < 60) ∧ (0 ≤ l1) ∧ (l1 < 4) ∧ ((((M 54 l6) ≠ (M 72 l1)) → (inR (l6 + 1)) ∧ A_X10_likely_47 G X P l1 l3 l4 l5 (l6 + 1) w M) ∧ ((¬ ((M 54 l6) ≠ (M 72 l1))) → (((l4 < 0) → ∃ Q8 : Int → NS → MM → Prop, CT_X10_sumAt G X.2.1 [(2, 41), (0, l1), (0, l6)] w M Q8 ∧ ∀ (z8 : Int) (w8 : NS) (M8 : MM), Q8 z8 w8 M8 → (inR (l6 + 1)) ∧ A_X10_likely_47 G X P l1 l3 l6 z8 (l6 + 1) w8 M8) ∧ ((¬ (l4 < 0)) → ∃ Q10 : Int → NS → MM → Prop, CT_X10_sumAt G X.2.1 [(2, 41), (0, l1), (0, l6)] w M Q10 ∧ ∀ (z10 : Int) (w10 : NS) (M10 : MM), Q10 z10 w10 M10 → (((z10 ≤ l5) → (inR (l6 + 1)) ∧ A_X10_likely_47 G X P l1 l3 l4 l5 (l6 + 1) w10 M10) ∧ ((¬ (z10 ≤ l5)) → ∃ Q13 : Int → NS → MM → Prop, CT_X10_sumAt G X.2.1 [(2, 41), (0, l1), (0, l6)] w10 M10 Q13 ∧ ∀ (z13 : Int) (w13 : NS) (M13 : MM), Q13 z13 w13 M13 → (inR (l6 + 1)) ∧ A_X10_likely_47 G X P l1 l3 l6 z13 (l6 + 1) w13 M13))))))))) : A_X10_likely_47 G X P l1 l3 l4 l5 l6 w M := by
  unfold A_X10_likely_47
  refine s_iload C dX10_likely_47 rfl ?_
  refine s_aload_n C dX10_likely_49 rfl ?_
  refine WA.fix (fun hF1 => ?_)
  refine gf_X10_176 (v0 := (M 41 16)) C (sh_41 hF1) dX10_likely_50 rfl ?_
  refine s_icmpge C dX10_likely_53 rfl (fun hc => ?_) (fun hc => ?_)
  · have h := h.1 hc
    refine s_iload_n C dX10_likely_108 rfl ?_
    refine s_ifgt C dX10_likely_109 rfl (fun hc => ?_) (fun hc => ?_)
    · have h := h.1 hc
      refine s_iload_n C dX10_likely_117 rfl ?_
      refine s_iconst C dX10_likely_118 (by decide) ?_
      refine s_icmpne C dX10_likely_119 rfl (fun hc => ?_) (fun hc => ?_)
      · have h := h.1 hc
        refine s_iload C dX10_likely_127 rfl ?_
        exact s_ireturn C dX10_likely_129 h
      · have h := h.2 hc
        refine s_iload C dX10_likely_122 rfl ?_
        refine s_goto C dX10_likely_124 rfl ?_
        exact s_ireturn C dX10_likely_129 h
    · have h := h.2 hc
      refine s_iload C dX10_likely_112 rfl ?_
      refine s_ifge C dX10_likely_114 rfl (fun hc => ?_) (fun hc => ?_)
      · have h := h.1 hc
        refine s_iload C dX10_likely_130 rfl ?_
        refine s_aload_n C dX10_likely_132 rfl ?_
        refine gf_X10_43 C (sh_41 hF1) dX10_likely_133 (fx_41_13 hF1) ?_
        refine s_iconst C dX10_likely_136 (by decide) ?_
        refine s_iald (v0 := (M 53 2)) C (sh_53 hF1) (by decide) (by decide) dX10_likely_137 rfl ?_
        refine s_icmplt C dX10_likely_138 rfl (fun hc => ?_) (fun hc => ?_)
        · have h := h.1 hc
          refine s_iload C dX10_likely_145 rfl ?_
          refine s_aload_n C dX10_likely_147 rfl ?_
          refine gf_X10_43 C (sh_41 hF1) dX10_likely_148 (fx_41_13 hF1) ?_
          refine s_iconst C dX10_likely_151 (by decide) ?_
          refine s_iald (v0 := (M 53 2)) C (sh_53 hF1) (by decide) (by decide) dX10_likely_152 rfl ?_
          obtain ⟨o2, h⟩ := h
          refine s_ineg C dX10_likely_153 o2 ?_
          refine s_icmpgt C dX10_likely_154 rfl (fun hc => ?_) (fun hc => ?_)
          · have h := h.1 hc
            refine s_iconst C dX10_likely_161 (by decide) ?_
            exact s_ireturn C dX10_likely_162 h
          · have h := h.2 hc
            refine s_iconst C dX10_likely_157 (by decide) ?_
            refine s_goto C dX10_likely_158 rfl ?_
            exact s_ireturn C dX10_likely_162 h
        · have h := h.2 hc
          refine s_iconst C dX10_likely_141 (by decide) ?_
          refine s_goto C dX10_likely_142 rfl ?_
          exact s_ireturn C dX10_likely_162 h
      · have h := h.2 hc
        refine s_iload_n C dX10_likely_117 rfl ?_
        refine s_iconst C dX10_likely_118 (by decide) ?_
        refine s_icmpne C dX10_likely_119 rfl (fun hc => ?_) (fun hc => ?_)
        · have h := h.1 hc
          refine s_iload C dX10_likely_127 rfl ?_
          exact s_ireturn C dX10_likely_129 h
        · have h := h.2 hc
          refine s_iload C dX10_likely_122 rfl ?_
          refine s_goto C dX10_likely_124 rfl ?_
          exact s_ireturn C dX10_likely_129 h
  · have h := h.2 hc
    refine s_aload_n C dX10_likely_56 rfl ?_
    refine gf_X10_46 C (sh_41 hF1) dX10_likely_57 (fx_41_14 hF1) ?_
    refine s_iload C dX10_likely_60 rfl ?_
    obtain ⟨o3, h⟩ := h
    obtain ⟨o4, h⟩ := h
    refine s_iald (v0 := (M 54 l6)) C (sh_54 hF1) o3 o4 dX10_likely_62 rfl ?_
    refine s_aload_n C dX10_likely_63 rfl ?_
    refine gf_X10_101 C (sh_41 hF1) dX10_likely_64 (fx_41_38 hF1) ?_
    refine s_iload_n C dX10_likely_67 rfl ?_
    obtain ⟨o5, h⟩ := h
    obtain ⟨o6, h⟩ := h
    refine s_iald (v0 := (M 72 l1)) C (sh_72 hF1) o5 o6 dX10_likely_68 rfl ?_
    refine s_icmpne C dX10_likely_69 rfl (fun hc => ?_) (fun hc => ?_)
    · have h := h.1 hc
      obtain ⟨o7, h⟩ := h
      refine s_iinc (ls' := [(2, 41), (0, l1), (3, 0), (0, l3), (0, l4), (0, l5), (0, (l6 + 1))]) C dX10_likely_102 (by decide) rfl o7 rfl rfl ?_
      refine s_goto C dX10_likely_105 rfl ?_
      exact h
    · have h := h.2 hc
      refine s_iload C dX10_likely_72 rfl ?_
      refine s_iflt C dX10_likely_74 rfl (fun hc => ?_) (fun hc => ?_)
      · have h := h.1 hc
        refine s_iload C dX10_likely_89 rfl ?_
        refine s_istore (ls' := [(2, 41), (0, l1), (3, 0), (0, l3), (0, l6), (0, l5), (0, l6)]) C dX10_likely_91 (by decide) rfl rfl ?_
        refine s_aload_n C dX10_likely_93 rfl ?_
        refine s_iload_n C dX10_likely_94 rfl ?_
        refine s_iload C dX10_likely_95 rfl ?_
        obtain ⟨Q8, hKQ8, h⟩ := h
        refine s_callV (ci := 10) (av := [(0, l1), (0, l6)]) (rest := []) (mc := 0) (ms := 0) C dX10_likely_97 lk_X10_301 (sh_41 hF1) (by decide) rfl rfl rfl (Nat.le_of_ble_eq_true rfl) (by decide) (by decide) hKQ8 (fun z8 w8 M8 hq => ?_)
        have h := h z8 w8 M8 hq
        refine s_istore (ls' := [(2, 41), (0, l1), (3, 0), (0, l3), (0, l6), (0, z8), (0, l6)]) C dX10_likely_100 (by decide) rfl rfl ?_
        obtain ⟨o9, h⟩ := h
        refine s_iinc (ls' := [(2, 41), (0, l1), (3, 0), (0, l3), (0, l6), (0, z8), (0, (l6 + 1))]) C dX10_likely_102 (by decide) rfl o9 rfl rfl ?_
        refine s_goto C dX10_likely_105 rfl ?_
        exact h
      · have h := h.2 hc
        refine s_aload_n C dX10_likely_77 rfl ?_
        refine s_iload_n C dX10_likely_78 rfl ?_
        refine s_iload C dX10_likely_79 rfl ?_
        obtain ⟨Q10, hKQ10, h⟩ := h
        refine s_callV (ci := 10) (av := [(0, l1), (0, l6)]) (rest := []) (mc := 0) (ms := 0) C dX10_likely_81 lk_X10_301 (sh_41 hF1) (by decide) rfl rfl rfl (Nat.le_of_ble_eq_true rfl) (by decide) (by decide) hKQ10 (fun z10 w10 M10 hq => ?_)
        have h := h z10 w10 M10 hq
        refine s_iload C dX10_likely_84 rfl ?_
        refine s_icmple C dX10_likely_86 rfl (fun hc => ?_) (fun hc => ?_)
        · have h := h.1 hc
          obtain ⟨o11, h⟩ := h
          refine s_iinc (ls' := [(2, 41), (0, l1), (3, 0), (0, l3), (0, l4), (0, l5), (0, (l6 + 1))]) C dX10_likely_102 (by decide) rfl o11 rfl rfl ?_
          refine s_goto C dX10_likely_105 rfl ?_
          exact h
        · have h := h.2 hc
          refine s_iload C dX10_likely_89 rfl ?_
          refine s_istore (ls' := [(2, 41), (0, l1), (3, 0), (0, l3), (0, l6), (0, l5), (0, l6)]) C dX10_likely_91 (by decide) rfl rfl ?_
          refine s_aload_n C dX10_likely_93 rfl ?_
          refine s_iload_n C dX10_likely_94 rfl ?_
          refine s_iload C dX10_likely_95 rfl ?_
          refine WA.fix (fun hF12 => ?_)
          obtain ⟨Q13, hKQ13, h⟩ := h
          refine s_callV (ci := 10) (av := [(0, l1), (0, l6)]) (rest := []) (mc := 0) (ms := 0) C dX10_likely_97 lk_X10_301 (sh_41 hF12) (by decide) rfl rfl rfl (Nat.le_of_ble_eq_true rfl) (by decide) (by decide) hKQ13 (fun z13 w13 M13 hq => ?_)
          have h := h z13 w13 M13 hq
          refine s_istore (ls' := [(2, 41), (0, l1), (3, 0), (0, l3), (0, l6), (0, z13), (0, l6)]) C dX10_likely_100 (by decide) rfl rfl ?_
          obtain ⟨o14, h⟩ := h
          refine s_iinc (ls' := [(2, 41), (0, l1), (3, 0), (0, l3), (0, l6), (0, z13), (0, (l6 + 1))]) C dX10_likely_102 (by decide) rfl o14 rfl rfl ?_
          refine s_goto C dX10_likely_105 rfl ?_
          exact h
theorem E_X10_likely {G : GP} {l : Launch} {P : Int → NS → MM → Prop} {l1 : Int} {l2 : Int} {l3 : Int} {w : NS} {M : MM} (h : inR l1 → inR l2 → inR l3 → ∀ X : BX, X.2.1 = l → CX_X10_likely G X → A_X10_likely_0 G X P l1 l2 l3 w M) : CT_X10_likely G l [(2, 41), (0, l1), (0, l2), (0, l3)] w M P :=
  CT.of RX10 "likely" (by decide +kernel) rfl rfl rfl (Nat.le_of_ble_eq_true rfl) (fun hr X hX C => h (hr (0, l1) (by simp)) (hr (0, l2) (by simp)) (hr (0, l3) (by simp)) X hX C)
def A_X10_findAsked_0 (G : GP) (X : BX) (P : Int → NS → MM → Prop) (l1 : Int) (w : NS) (M : MM) : Prop := WA true G X (QM G X true 4 P) 5 0 [(2, 41), (0, l1), (3, 0), (3, 0), (3, 0)] [] 0 0 w M
def A_X10_findAsked_7 (G : GP) (X : BX) (P : Int → NS → MM → Prop) (l1 : Int) (l2 : Int) (w : NS) (M : MM) : Prop := WA true G X (QM G X true 4 P) 5 7 [(2, 41), (0, l1), (0, l2), (3, 0), (3, 0)] [] 0 0 w M
def A_X10_findAsked_37 (G : GP) (X : BX) (P : Int → NS → MM → Prop) (l1 : Int) (l2 : Int) (l3 : Int) (w : NS) (M : MM) : Prop := WA true G X (QM G X true 4 P) 5 37 [(2, 41), (0, l1), (0, l2), (0, l3), (3, 0)] [] 0 0 w M
set_option maxHeartbeats 4000000 in
set_option maxRecDepth 100000 in
theorem B_X10_findAsked_0 {G : GP} {X : BX} {P : Int → NS → MM → Prop} {l1 : Int} {w : NS} {M : MM} (C : CX_X10_findAsked G X) (h : A_X10_findAsked_7 G X P l1 0 w (up M 41 42 0)) : A_X10_findAsked_0 G X P l1 w M := by
  unfold A_X10_findAsked_0
  refine s_aload_n C dX10_findAsked_0 rfl ?_
  refine s_iconst C dX10_findAsked_1 (by decide) ?_
  refine WA.fix (fun hF1 => ?_)
  refine pf_X10_304 C (sh_41 hF1) (fun _ => by decide) dX10_findAsked_2 ?_
  refine s_iconst C dX10_findAsked_5 (by decide) ?_
  refine s_istore_n (ls' := [(2, 41), (0, l1), (0, 0), (3, 0), (3, 0)]) C dX10_findAsked_6 (by decide) rfl rfl ?_
  exact h
set_option maxHeartbeats 4000000 in
set_option maxRecDepth 100000 in
theorem B_X10_findAsked_7 {G : GP} {X : BX} {P : Int → NS → MM → Prop} {l1 : Int} {l2 : Int} {w : NS} {M : MM} (C : CX_X10_findAsked G X) (h : ((((M 41 26) ≤ l2) → P 0 w M) ∧ ((¬ ((M 41 26) ≤ l2)) → (((9 ≤ (M 41 42)) → P 0 w M) ∧ ((¬ (9 ≤ (M 41 42))) → (0 ≤ l1) ∧ (l1 < 8) ∧ ∃ Q4 : Int → NS → MM → Prop, CT_X10_findList G X.2.1 [(2, 41), (0, l2), (0, (M 44 l1))] w M Q4 ∧ ∀ (z4 : Int) (w4 : NS) (M4 : MM), Q4 z4 w4 M4 → A_X10_findAsked_37 G X P l1 l2 0 w4 M4))))) : A_X10_findAsked_7 G X P l1 l2 w M := by
  unfold A_X10_findAsked_7
  refine s_iload_n C dX10_findAsked_7 rfl ?_
  refine s_aload_n C dX10_findAsked_8 rfl ?_
  refine WA.fix (fun hF1 => ?_)
  refine gf_X10_220 (v0 := (M 41 26)) C (sh_41 hF1) dX10_findAsked_9 rfl ?_
  refine s_icmpge C dX10_findAsked_12 rfl (fun hc => ?_) (fun hc => ?_)
  · have h := h.1 hc
    exact s_vreturn C dX10_findAsked_131 h
  · have h := h.2 hc
    refine s_aload_n C dX10_findAsked_15 rfl ?_
    refine gf_X10_304 (v0 := (M 41 42)) C (sh_41 hF1) dX10_findAsked_16 rfl ?_
    refine s_bipush C dX10_findAsked_19 ⟨rfl, by decide, by decide⟩ ?_
    refine s_icmpge C dX10_findAsked_21 rfl (fun hc => ?_) (fun hc => ?_)
    · have h := h.1 hc
      exact s_vreturn C dX10_findAsked_131 h
    · have h := h.2 hc
      refine s_aload_n C dX10_findAsked_24 rfl ?_
      refine s_iload_n C dX10_findAsked_25 rfl ?_
      refine s_aload_n C dX10_findAsked_26 rfl ?_
      refine gf_X10_16 C (sh_41 hF1) dX10_findAsked_27 (fx_41_2 hF1) ?_
      refine s_iload_n C dX10_findAsked_30 rfl ?_
      obtain ⟨o2, h⟩ := h
      obtain ⟨o3, h⟩ := h
      refine s_iald (v0 := (M 44 l1)) C (sh_44 hF1) o2 o3 dX10_findAsked_31 rfl ?_
      obtain ⟨Q4, hKQ4, h⟩ := h
      refine s_callV (ci := 10) (av := [(0, l2), (0, (M 44 l1))]) (rest := []) (mc := 0) (ms := 0) C dX10_findAsked_32 lk_X10_289 (sh_41 hF1) (by decide) rfl rfl rfl (Nat.le_of_ble_eq_true rfl) (by decide) (by decide) hKQ4 (fun z4 w4 M4 hq => ?_)
      have h := h z4 w4 M4 hq
      refine s_iconst C dX10_findAsked_35 (by decide) ?_
      refine s_istore_n (ls' := [(2, 41), (0, l1), (0, l2), (0, 0), (3, 0)]) C dX10_findAsked_36 (by decide) rfl rfl ?_
      exact h
set_option maxHeartbeats 4000000 in
set_option maxRecDepth 100000 in
theorem B_X10_findAsked_37 {G : GP} {X : BX} {P : Int → NS → MM → Prop} {l1 : Int} {l2 : Int} {l3 : Int} {w : NS} {M : MM} (C : CX_X10_findAsked G X) (h : ((((M 41 36) ≤ l3) → (inR (l2 + 1)) ∧ A_X10_findAsked_7 G X P l1 (l2 + 1) w M) ∧ ((¬ ((M 41 36) ≤ l3)) → (((9 ≤ (M 41 42)) → (inR (l2 + 1)) ∧ A_X10_findAsked_7 G X P l1 (l2 + 1) w M) ∧ ((¬ (9 ≤ (M 41 42))) → (0 ≤ l3) ∧ (l3 < 24) ∧ (0 ≤ (M 70 l3)) ∧ ((M 70 l3) < 24) ∧ ((((M 46 (M 70 l3)) = l1) → (0 ≤ (M 41 42)) ∧ ((M 41 42) < 9) ∧ (inR ((M 41 42) + 1)) ∧ (inR (l3 + 1)) ∧ A_X10_findAsked_37 G X P l1 l2 (l3 + 1) w (up (up (up M 74 (M 41 42) l2) 75 (M 41 42) (M 70 l3)) 41 42 ((M 41 42) + 1))) ∧ ((¬ ((M 46 (M 70 l3)) = l1)) → (0 ≤ l1) ∧ (l1 < 8) ∧ ((((M 45 l1) ≠ (M 46 (M 70 l3))) → (inR (l3 + 1)) ∧ A_X10_findAsked_37 G X P l1 l2 (l3 + 1) w M) ∧ ((¬ ((M 45 l1) ≠ (M 46 (M 70 l3)))) → (0 ≤ (M 41 42)) ∧ ((M 41 42) < 9) ∧ (inR ((M 41 42) + 1)) ∧ (inR (l3 + 1)) ∧ A_X10_findAsked_37 G X P l1 l2 (l3 + 1) w (up (up (up M 74 (M 41 42) l2) 75 (M 41 42) (M 70 l3)) 41 42 ((M 41 42) + 1))))))))))) : A_X10_findAsked_37 G X P l1 l2 l3 w M := by
  unfold A_X10_findAsked_37
  refine s_iload_n C dX10_findAsked_37 rfl ?_
  refine s_aload_n C dX10_findAsked_38 rfl ?_
  refine WA.fix (fun hF1 => ?_)
  refine gf_X10_283 (v0 := (M 41 36)) C (sh_41 hF1) dX10_findAsked_39 rfl ?_
  refine s_icmpge C dX10_findAsked_42 rfl (fun hc => ?_) (fun hc => ?_)
  · have h := h.1 hc
    obtain ⟨o2, h⟩ := h
    refine s_iinc (ls' := [(2, 41), (0, l1), (0, (l2 + 1)), (0, l3), (3, 0)]) C dX10_findAsked_125 (by decide) rfl o2 rfl rfl ?_
    refine s_goto C dX10_findAsked_128 rfl ?_
    exact WA.wk h ⟨Or.inr rfl, Or.inr rfl, Or.inr rfl, Or.inl rfl, Or.inl rfl, trivial⟩
  · have h := h.2 hc
    refine s_aload_n C dX10_findAsked_45 rfl ?_
    refine gf_X10_304 (v0 := (M 41 42)) C (sh_41 hF1) dX10_findAsked_46 rfl ?_
    refine s_bipush C dX10_findAsked_49 ⟨rfl, by decide, by decide⟩ ?_
    refine s_icmpge C dX10_findAsked_51 rfl (fun hc => ?_) (fun hc => ?_)
    · have h := h.1 hc
      obtain ⟨o3, h⟩ := h
      refine s_iinc (ls' := [(2, 41), (0, l1), (0, (l2 + 1)), (0, l3), (3, 0)]) C dX10_findAsked_125 (by decide) rfl o3 rfl rfl ?_
      refine s_goto C dX10_findAsked_128 rfl ?_
      exact WA.wk h ⟨Or.inr rfl, Or.inr rfl, Or.inr rfl, Or.inl rfl, Or.inl rfl, trivial⟩
    · have h := h.2 hc
      refine s_aload_n C dX10_findAsked_54 rfl ?_
      refine gf_X10_22 C (sh_41 hF1) dX10_findAsked_55 (fx_41_5 hF1) ?_
      refine s_aload_n C dX10_findAsked_58 rfl ?_
      refine gf_X10_95 C (sh_41 hF1) dX10_findAsked_59 (fx_41_35 hF1) ?_
      refine s_iload_n C dX10_findAsked_62 rfl ?_
      obtain ⟨o4, h⟩ := h
      obtain ⟨o5, h⟩ := h
      refine s_iald (v0 := (M 70 l3)) C (sh_70 hF1) o4 o5 dX10_findAsked_63 rfl ?_
      obtain ⟨o6, h⟩ := h
      obtain ⟨o7, h⟩ := h
      refine s_iald (v0 := (M 46 (M 70 l3))) C (sh_46 hF1) o6 o7 dX10_findAsked_64 rfl ?_
      refine s_istore (ls' := [(2, 41), (0, l1), (0, l2), (0, l3), (0, (M 46 (M 70 l3)))]) C dX10_findAsked_65 (by decide) rfl rfl ?_
      refine s_iload C dX10_findAsked_67 rfl ?_
      refine s_iload_n C dX10_findAsked_69 rfl ?_
      refine s_icmpeq C dX10_findAsked_70 rfl (fun hc => ?_) (fun hc => ?_)
      · have h := h.1 hc
        refine s_aload_n C dX10_findAsked_84 rfl ?_
        refine gf_X10_107 C (sh_41 hF1) dX10_findAsked_85 (fx_41_40 hF1) ?_
        refine s_aload_n C dX10_findAsked_88 rfl ?_
        refine gf_X10_304 (v0 := (M 41 42)) C (sh_41 hF1) dX10_findAsked_89 rfl ?_
        refine s_iload_n C dX10_findAsked_92 rfl ?_
        obtain ⟨o8, h⟩ := h
        obtain ⟨o9, h⟩ := h
        refine s_iast C (sh_74 hF1) o8 o9 (fun _ => by decide) dX10_findAsked_93 ?_
        refine s_aload_n C dX10_findAsked_94 rfl ?_
        refine WA.fix (fun hF10 => ?_)
        refine gf_X10_110 C (sh_41 hF1) dX10_findAsked_95 (fx_41_41 hF10) ?_
        refine s_aload_n C dX10_findAsked_98 rfl ?_
        refine gf_X10_304 (v0 := (M 41 42)) C (sh_41 hF1) dX10_findAsked_99 (up_na (by decide)) ?_
        refine s_aload_n C dX10_findAsked_102 rfl ?_
        refine gf_X10_95 C (sh_41 hF1) dX10_findAsked_103 (fx_41_35 hF10) ?_
        refine s_iload_n C dX10_findAsked_106 rfl ?_
        refine s_iald (v0 := (M 70 l3)) C (sh_70 hF1) o4 o5 dX10_findAsked_107 (up_na (by decide)) ?_
        refine s_iast C (sh_75 hF10) o8 o9 (fun _ => by decide) dX10_findAsked_108 ?_
        refine s_aload_n C dX10_findAsked_109 rfl ?_
        refine s_dup C (by simp) dX10_findAsked_110 ?_
        refine gf_X10_304 (v0 := (M 41 42)) C (sh_41 hF1) dX10_findAsked_111 ((up_na (by decide)).trans (up_na (by decide))) ?_
        refine s_iconst C dX10_findAsked_114 (by decide) ?_
        obtain ⟨o11, h⟩ := h
        refine s_iadd C dX10_findAsked_115 o11 ?_
        refine pf_X10_304 C (sh_41 hF1) (fun _ => by decide) dX10_findAsked_116 ?_
        obtain ⟨o12, h⟩ := h
        refine s_iinc (ls' := [(2, 41), (0, l1), (0, l2), (0, (l3 + 1)), (0, (M 46 (M 70 l3)))]) C dX10_findAsked_119 (by decide) rfl o12 rfl rfl ?_
        refine s_goto C dX10_findAsked_122 rfl ?_
        exact WA.wk h ⟨Or.inr rfl, Or.inr rfl, Or.inr rfl, Or.inr rfl, Or.inl rfl, trivial⟩
      · have h := h.2 hc
        refine s_aload_n C dX10_findAsked_73 rfl ?_
        refine gf_X10_19 C (sh_41 hF1) dX10_findAsked_74 (fx_41_3 hF1) ?_
        refine s_iload_n C dX10_findAsked_77 rfl ?_
        obtain ⟨o13, h⟩ := h
        obtain ⟨o14, h⟩ := h
        refine s_iald (v0 := (M 45 l1)) C (sh_45 hF1) o13 o14 dX10_findAsked_78 rfl ?_
        refine s_iload C dX10_findAsked_79 rfl ?_
        refine s_icmpne C dX10_findAsked_81 rfl (fun hc => ?_) (fun hc => ?_)
        · have h := h.1 hc
          obtain ⟨o15, h⟩ := h
          refine s_iinc (ls' := [(2, 41), (0, l1), (0, l2), (0, (l3 + 1)), (0, (M 46 (M 70 l3)))]) C dX10_findAsked_119 (by decide) rfl o15 rfl rfl ?_
          refine s_goto C dX10_findAsked_122 rfl ?_
          exact WA.wk h ⟨Or.inr rfl, Or.inr rfl, Or.inr rfl, Or.inr rfl, Or.inl rfl, trivial⟩
        · have h := h.2 hc
          refine s_aload_n C dX10_findAsked_84 rfl ?_
          refine gf_X10_107 C (sh_41 hF1) dX10_findAsked_85 (fx_41_40 hF1) ?_
          refine s_aload_n C dX10_findAsked_88 rfl ?_
          refine gf_X10_304 (v0 := (M 41 42)) C (sh_41 hF1) dX10_findAsked_89 rfl ?_
          refine s_iload_n C dX10_findAsked_92 rfl ?_
          obtain ⟨o16, h⟩ := h
          obtain ⟨o17, h⟩ := h
          refine s_iast C (sh_74 hF1) o16 o17 (fun _ => by decide) dX10_findAsked_93 ?_
          refine s_aload_n C dX10_findAsked_94 rfl ?_
          refine WA.fix (fun hF18 => ?_)
          refine gf_X10_110 C (sh_41 hF1) dX10_findAsked_95 (fx_41_41 hF18) ?_
          refine s_aload_n C dX10_findAsked_98 rfl ?_
          refine gf_X10_304 (v0 := (M 41 42)) C (sh_41 hF1) dX10_findAsked_99 (up_na (by decide)) ?_
          refine s_aload_n C dX10_findAsked_102 rfl ?_
          refine gf_X10_95 C (sh_41 hF1) dX10_findAsked_103 (fx_41_35 hF18) ?_
          refine s_iload_n C dX10_findAsked_106 rfl ?_
          refine s_iald (v0 := (M 70 l3)) C (sh_70 hF1) o4 o5 dX10_findAsked_107 (up_na (by decide)) ?_
          refine s_iast C (sh_75 hF18) o16 o17 (fun _ => by decide) dX10_findAsked_108 ?_
          refine s_aload_n C dX10_findAsked_109 rfl ?_
          refine s_dup C (by simp) dX10_findAsked_110 ?_
          refine gf_X10_304 (v0 := (M 41 42)) C (sh_41 hF1) dX10_findAsked_111 ((up_na (by decide)).trans (up_na (by decide))) ?_
          refine s_iconst C dX10_findAsked_114 (by decide) ?_
          obtain ⟨o19, h⟩ := h
          refine s_iadd C dX10_findAsked_115 o19 ?_
          refine pf_X10_304 C (sh_41 hF1) (fun _ => by decide) dX10_findAsked_116 ?_
          obtain ⟨o20, h⟩ := h
          refine s_iinc (ls' := [(2, 41), (0, l1), (0, l2), (0, (l3 + 1)), (0, (M 46 (M 70 l3)))]) C dX10_findAsked_119 (by decide) rfl o20 rfl rfl ?_
          refine s_goto C dX10_findAsked_122 rfl ?_
          exact WA.wk h ⟨Or.inr rfl, Or.inr rfl, Or.inr rfl, Or.inr rfl, Or.inl rfl, trivial⟩
theorem E_X10_findAsked {G : GP} {l : Launch} {P : Int → NS → MM → Prop} {l1 : Int} {w : NS} {M : MM} (h : inR l1 → ∀ X : BX, X.2.1 = l → CX_X10_findAsked G X → A_X10_findAsked_0 G X P l1 w M) : CT_X10_findAsked G l [(2, 41), (0, l1)] w M P :=
  CT.of RX10 "findAsked" (by decide +kernel) rfl rfl rfl (Nat.le_of_ble_eq_true rfl) (fun hr X hX C => h (hr (0, l1) (by simp)) X hX C)
def A_X10_asked_0 (G : GP) (X : BX) (P : Int → NS → MM → Prop) (l1 : Int) (l2 : Int) (w : NS) (M : MM) : Prop := WA true G X (QM G X true 0 P) 3 0 [(2, 41), (0, l1), (0, l2)] [] 0 0 w M
set_option maxHeartbeats 4000000 in
set_option maxRecDepth 100000 in
theorem B_X10_asked_0 {G : GP} {X : BX} {P : Int → NS → MM → Prop} {l1 : Int} {l2 : Int} {w : NS} {M : MM} (C : CX_X10_asked G X) (h : (0 ≤ M 41 4) ∧ ((((0 ≤ l1 ∧ l1 < M 41 4)) → ∃ Q4 : Int → NS → MM → Prop, CT_X10_findAsked G X.2.1 [(2, 41), (0, l1)] w M Q4 ∧ ∀ (z4 : Int) (w4 : NS) (M4 : MM), Q4 z4 w4 M4 → (((l2 ≠ (-1)) → (inR ((M4 41 42) - 1)) ∧ (((¬ (0 ≤ l2 ∧ l2 ≤ ((M4 41 42) - 1))) → P (-6) w4 M4) ∧ (((0 ≤ l2 ∧ l2 ≤ ((M4 41 42) - 1))) → (0 ≤ l2) ∧ (l2 < 9) ∧ (inR (100 * (M4 74 l2))) ∧ (inR ((100 * (M4 74 l2)) + (M4 75 l2))) ∧ P ((100 * (M4 74 l2)) + (M4 75 l2)) w4 M4))) ∧ ((¬ (l2 ≠ (-1))) → P (M4 41 42) w4 M4))) ∧ ((¬ (0 ≤ l1 ∧ l1 < M 41 4)) → P (-1) w M))) : A_X10_asked_0 G X P l1 l2 w M := by
  unfold A_X10_asked_0
  refine s_aload_n C dX10_asked_0 rfl ?_
  refine s_iload_n C dX10_asked_1 rfl ?_
  refine WA.fix (fun hF1 => ?_)
  obtain ⟨o2, h⟩ := h
  refine s_callV (ci := 10) (av := [(0, l1)]) (rest := []) (mc := 0) (ms := 0) C dX10_asked_2 lk_X10_156 (sh_41 hF1) (by decide) rfl rfl rfl (Nat.le_of_ble_eq_true rfl) (by decide) (by decide) (pc_X10_isPage o2) (fun z3 wz3 Mz3 hq => ?_)
  obtain ⟨hq1, hq2, hq3⟩ := hq
  have hq2 := hq2.symm
  have hq3 := hq3.symm
  subst hq1 hq2 hq3
  refine s_ifne C dX10_asked_5 rfl (fun hc => ?_) (fun hc => ?_)
  · have h := h.1 (b2i_n0 hc)
    refine s_aload_n C dX10_asked_10 rfl ?_
    refine s_iload_n C dX10_asked_11 rfl ?_
    obtain ⟨Q4, hKQ4, h⟩ := h
    refine s_callV (ci := 10) (av := [(0, l1)]) (rest := []) (mc := 0) (ms := 0) C dX10_asked_12 lk_X10_307 (sh_41 hF1) (by decide) rfl rfl rfl (Nat.le_of_ble_eq_true rfl) (by decide) (by decide) hKQ4 (fun z4 w4 M4 hq => ?_)
    have h := h z4 w4 M4 hq
    refine s_iload_n C dX10_asked_15 rfl ?_
    refine s_iconst C dX10_asked_16 (by decide) ?_
    refine s_icmpne C dX10_asked_17 rfl (fun hc => ?_) (fun hc => ?_)
    · have h := h.1 hc
      refine s_iload_n C dX10_asked_27 rfl ?_
      refine s_i2l C dX10_asked_28 ?_
      refine s_lconst (z := 0) C dX10_asked_29 ⟨rfl, by decide⟩ ?_
      refine s_aload_n C dX10_asked_30 rfl ?_
      refine WA.fix (fun hF5 => ?_)
      refine gf_X10_304 (v0 := (M4 41 42)) C (sh_41 hF5) dX10_asked_31 rfl ?_
      refine s_iconst C dX10_asked_34 (by decide) ?_
      obtain ⟨o6, h⟩ := h
      refine s_isub C dX10_asked_35 o6 ?_
      refine s_i2l C dX10_asked_36 ?_
      refine s_callS (av := [(1, l2), (1, 0), (1, ((M4 41 42) - 1))]) (rest := []) (mc := 0) (ms := 0) C dX10_asked_37 lk_X10_139 rfl rfl (Nat.le_of_ble_eq_true rfl) (by decide) (by decide) (pc_X10_in) (fun z7 wz7 Mz7 hq => ?_)
      obtain ⟨hq1, hq2, hq3⟩ := hq
      have hq2 := hq2.symm
      have hq3 := hq3.symm
      subst hq1 hq2 hq3
      refine s_ifeq C dX10_asked_40 rfl (fun hc => ?_) (fun hc => ?_)
      · have h := h.1 (b2i_0.mp hc)
        refine s_bipush C dX10_asked_62 ⟨rfl, by decide, by decide⟩ ?_
        exact s_ireturn C dX10_asked_64 h
      · have h := h.2 (b2i_n0 hc)
        refine s_bipush C dX10_asked_43 ⟨rfl, by decide, by decide⟩ ?_
        refine s_aload_n C dX10_asked_45 rfl ?_
        refine gf_X10_107 C (sh_41 hF5) dX10_asked_46 (fx_41_40 hF5) ?_
        refine s_iload_n C dX10_asked_49 rfl ?_
        obtain ⟨o8, h⟩ := h
        obtain ⟨o9, h⟩ := h
        refine s_iald (v0 := (M4 74 l2)) C (sh_74 hF5) o8 o9 dX10_asked_50 rfl ?_
        obtain ⟨o10, h⟩ := h
        refine s_imul C dX10_asked_51 o10 ?_
        refine s_aload_n C dX10_asked_52 rfl ?_
        refine gf_X10_110 C (sh_41 hF5) dX10_asked_53 (fx_41_41 hF5) ?_
        refine s_iload_n C dX10_asked_56 rfl ?_
        refine s_iald (v0 := (M4 75 l2)) C (sh_75 hF5) o8 o9 dX10_asked_57 rfl ?_
        obtain ⟨o11, h⟩ := h
        refine s_iadd C dX10_asked_58 o11 ?_
        refine s_goto C dX10_asked_59 rfl ?_
        exact s_ireturn C dX10_asked_64 h
    · have h := h.2 hc
      refine s_aload_n C dX10_asked_20 rfl ?_
      refine WA.fix (fun hF12 => ?_)
      refine gf_X10_304 (v0 := (M4 41 42)) C (sh_41 hF12) dX10_asked_21 rfl ?_
      refine s_goto C dX10_asked_24 rfl ?_
      exact s_ireturn C dX10_asked_64 h
  · have h := h.2 (b2i_nn hc)
    refine s_iconst C dX10_asked_8 (by decide) ?_
    exact s_ireturn C dX10_asked_9 h
theorem E_X10_asked {G : GP} {l : Launch} {P : Int → NS → MM → Prop} {l1 : Int} {l2 : Int} {w : NS} {M : MM} (h : inR l1 → inR l2 → ∀ X : BX, X.2.1 = l → CX_X10_asked G X → A_X10_asked_0 G X P l1 l2 w M) : CT_X10_asked G l [(2, 41), (0, l1), (0, l2)] w M P :=
  CT.of RX10 "asked" (by decide +kernel) rfl rfl rfl (Nat.le_of_ble_eq_true rfl) (fun hr X hX C => h (hr (0, l1) (by simp)) (hr (0, l2) (by simp)) X hX C)
def A_X10_isOneSheet_0 (G : GP) (X : BX) (P : Int → NS → MM → Prop) (l1 : Int) (w : NS) (M : MM) : Prop := WA true G X (QM G X true 0 P) 6 0 [(2, 41), (0, l1), (3, 0), (3, 0), (3, 0), (3, 0)] [] 0 0 w M
def A_X10_isOneSheet_4 (G : GP) (X : BX) (P : Int → NS → MM → Prop) (l1 : Int) (l2 : Int) (l3 : Int) (w : NS) (M : MM) : Prop := WA true G X (QM G X true 0 P) 6 4 [(2, 41), (0, l1), (0, l2), (0, l3), (3, 0), (3, 0)] [] 0 0 w M
def A_X10_isOneSheet_15 (G : GP) (X : BX) (P : Int → NS → MM → Prop) (l1 : Int) (l2 : Int) (l3 : Int) (l4 : Int) (w : NS) (M : MM) : Prop := WA true G X (QM G X true 0 P) 6 15 [(2, 41), (0, l1), (0, l2), (0, l3), (0, l4), (3, 0)] [] 0 0 w M
set_option maxHeartbeats 4000000 in
set_option maxRecDepth 100000 in
theorem B_X10_isOneSheet_0 {G : GP} {X : BX} {P : Int → NS → MM → Prop} {l1 : Int} {w : NS} {M : MM} (C : CX_X10_isOneSheet G X) (h : A_X10_isOneSheet_4 G X P l1 1 0 w M) : A_X10_isOneSheet_0 G X P l1 w M := by
  unfold A_X10_isOneSheet_0
  refine s_iconst C dX10_isOneSheet_0 (by decide) ?_
  refine s_istore_n (ls' := [(2, 41), (0, l1), (0, 1), (3, 0), (3, 0), (3, 0)]) C dX10_isOneSheet_1 (by decide) rfl rfl ?_
  refine s_iconst C dX10_isOneSheet_2 (by decide) ?_
  refine s_istore_n (ls' := [(2, 41), (0, l1), (0, 1), (0, 0), (3, 0), (3, 0)]) C dX10_isOneSheet_3 (by decide) rfl rfl ?_
  exact h
set_option maxHeartbeats 4000000 in
set_option maxRecDepth 100000 in
theorem B_X10_isOneSheet_4 {G : GP} {X : BX} {P : Int → NS → MM → Prop} {l1 : Int} {l2 : Int} {l3 : Int} {w : NS} {M : MM} (C : CX_X10_isOneSheet G X) (h : ((((M 41 42) ≤ l3) → (l2 = 0 ∨ l2 = 1) ∧ P l2 w M) ∧ ((¬ ((M 41 42) ≤ l3)) → A_X10_isOneSheet_15 G X P l1 l2 l3 0 w M))) : A_X10_isOneSheet_4 G X P l1 l2 l3 w M := by
  unfold A_X10_isOneSheet_4
  refine s_iload_n C dX10_isOneSheet_4 rfl ?_
  refine s_aload_n C dX10_isOneSheet_5 rfl ?_
  refine WA.fix (fun hF1 => ?_)
  refine gf_X10_304 (v0 := (M 41 42)) C (sh_41 hF1) dX10_isOneSheet_6 rfl ?_
  refine s_icmpge C dX10_isOneSheet_9 rfl (fun hc => ?_) (fun hc => ?_)
  · have h := h.1 hc
    refine s_iload_n C dX10_isOneSheet_94 rfl ?_
    obtain ⟨o2, h⟩ := h
    exact s_zreturn C dX10_isOneSheet_95 o2 h
  · have h := h.2 hc
    refine s_iconst C dX10_isOneSheet_12 (by decide) ?_
    refine s_istore (ls' := [(2, 41), (0, l1), (0, l2), (0, l3), (0, 0), (3, 0)]) C dX10_isOneSheet_13 (by decide) rfl rfl ?_
    exact h
set_option maxHeartbeats 4000000 in
set_option maxRecDepth 100000 in
theorem B_X10_isOneSheet_15 {G : GP} {X : BX} {P : Int → NS → MM → Prop} {l1 : Int} {l2 : Int} {l3 : Int} {l4 : Int} {w : NS} {M : MM} (C : CX_X10_isOneSheet G X) (h : (((l3 ≤ l4) → (inR (l3 + 1)) ∧ A_X10_isOneSheet_4 G X P l1 l2 (l3 + 1) w M) ∧ ((¬ (l3 ≤ l4)) → ((((zand (zshr l1 l3) 1) ≠ 1) → (((l2 = 0) → (inR (l4 + 1)) ∧ A_X10_isOneSheet_15 G X P l1 0 l3 (l4 + 1) w M) ∧ ((¬ (l2 = 0)) → (inR (l4 + 1)) ∧ A_X10_isOneSheet_15 G X P l1 1 l3 (l4 + 1) w M))) ∧ ((¬ ((zand (zshr l1 l3) 1) ≠ 1)) → ((((zand (zshr l1 l4) 1) ≠ 1) → (((l2 = 0) → (inR (l4 + 1)) ∧ A_X10_isOneSheet_15 G X P l1 0 l3 (l4 + 1) w M) ∧ ((¬ (l2 = 0)) → (inR (l4 + 1)) ∧ A_X10_isOneSheet_15 G X P l1 1 l3 (l4 + 1) w M))) ∧ ((¬ ((zand (zshr l1 l4) 1) ≠ 1)) → (((l2 = 0) → (inR (l4 + 1)) ∧ A_X10_isOneSheet_15 G X P l1 0 l3 (l4 + 1) w M) ∧ ((¬ (l2 = 0)) → (0 ≤ l3) ∧ (l3 < 9) ∧ (0 ≤ l4) ∧ (l4 < 9) ∧ ∃ Q12 : Int → NS → MM → Prop, CT_X10_doClash G X.2.1 [(2, 41), (0, (M 75 l3)), (0, (M 75 l4))] w M Q12 ∧ ∀ (z12 : Int) (w12 : NS) (M12 : MM), Q12 z12 w12 M12 → (((z12 ≠ 0) → (inR (l4 + 1)) ∧ A_X10_isOneSheet_15 G X P l1 0 l3 (l4 + 1) w12 M12) ∧ ((¬ (z12 ≠ 0)) → (inR (l4 + 1)) ∧ A_X10_isOneSheet_15 G X P l1 1 l3 (l4 + 1) w12 M12))))))))))) : A_X10_isOneSheet_15 G X P l1 l2 l3 l4 w M := by
  unfold A_X10_isOneSheet_15
  refine s_iload C dX10_isOneSheet_15 rfl ?_
  refine s_iload_n C dX10_isOneSheet_17 rfl ?_
  refine s_icmpge C dX10_isOneSheet_18 rfl (fun hc => ?_) (fun hc => ?_)
  · have h := h.1 hc
    obtain ⟨o1, h⟩ := h
    refine s_iinc (ls' := [(2, 41), (0, l1), (0, l2), (0, (l3 + 1)), (0, l4), (3, 0)]) C dX10_isOneSheet_88 (by decide) rfl o1 rfl rfl ?_
    refine s_goto C dX10_isOneSheet_91 rfl ?_
    exact WA.wk h ⟨Or.inr rfl, Or.inr rfl, Or.inr rfl, Or.inr rfl, Or.inl rfl, Or.inl rfl, trivial⟩
  · have h := h.2 hc
    refine s_iload_n C dX10_isOneSheet_21 rfl ?_
    refine s_iload_n C dX10_isOneSheet_22 rfl ?_
    refine s_ishr C dX10_isOneSheet_23 ?_
    refine s_iconst C dX10_isOneSheet_24 (by decide) ?_
    refine s_iand C dX10_isOneSheet_25 ?_
    refine s_iconst C dX10_isOneSheet_26 (by decide) ?_
    refine s_icmpne C dX10_isOneSheet_27 rfl (fun hc => ?_) (fun hc => ?_)
    · have h := h.1 hc
      refine s_iconst C dX10_isOneSheet_44 (by decide) ?_
      refine s_istore (ls' := [(2, 41), (0, l1), (0, l2), (0, l3), (0, l4), (0, 0)]) C dX10_isOneSheet_45 (by decide) rfl rfl ?_
      refine s_iload_n C dX10_isOneSheet_47 rfl ?_
      refine s_ifeq C dX10_isOneSheet_48 rfl (fun hc => ?_) (fun hc => ?_)
      · have h := h.1 hc
        refine s_iconst C dX10_isOneSheet_80 (by decide) ?_
        refine s_istore_n (ls' := [(2, 41), (0, l1), (0, 0), (0, l3), (0, l4), (0, 0)]) C dX10_isOneSheet_81 (by decide) rfl rfl ?_
        obtain ⟨o2, h⟩ := h
        refine s_iinc (ls' := [(2, 41), (0, l1), (0, 0), (0, l3), (0, (l4 + 1)), (0, 0)]) C dX10_isOneSheet_82 (by decide) rfl o2 rfl rfl ?_
        refine s_goto C dX10_isOneSheet_85 rfl ?_
        exact WA.wk h ⟨Or.inr rfl, Or.inr rfl, Or.inr rfl, Or.inr rfl, Or.inr rfl, Or.inl rfl, trivial⟩
      · have h := h.2 hc
        refine s_iload C dX10_isOneSheet_51 rfl ?_
        refine s_ifeq C dX10_isOneSheet_53 rfl (fun hc => ?_) (fun hc => absurd (by decide) hc)
        refine s_iconst C dX10_isOneSheet_76 (by decide) ?_
        refine s_goto C dX10_isOneSheet_77 rfl ?_
        refine s_istore_n (ls' := [(2, 41), (0, l1), (0, 1), (0, l3), (0, l4), (0, 0)]) C dX10_isOneSheet_81 (by decide) rfl rfl ?_
        obtain ⟨o3, h⟩ := h
        refine s_iinc (ls' := [(2, 41), (0, l1), (0, 1), (0, l3), (0, (l4 + 1)), (0, 0)]) C dX10_isOneSheet_82 (by decide) rfl o3 rfl rfl ?_
        refine s_goto C dX10_isOneSheet_85 rfl ?_
        exact WA.wk h ⟨Or.inr rfl, Or.inr rfl, Or.inr rfl, Or.inr rfl, Or.inr rfl, Or.inl rfl, trivial⟩
    · have h := h.2 hc
      refine s_iload_n C dX10_isOneSheet_30 rfl ?_
      refine s_iload C dX10_isOneSheet_31 rfl ?_
      refine s_ishr C dX10_isOneSheet_33 ?_
      refine s_iconst C dX10_isOneSheet_34 (by decide) ?_
      refine s_iand C dX10_isOneSheet_35 ?_
      refine s_iconst C dX10_isOneSheet_36 (by decide) ?_
      refine s_icmpne C dX10_isOneSheet_37 rfl (fun hc => ?_) (fun hc => ?_)
      · have h := h.1 hc
        refine s_iconst C dX10_isOneSheet_44 (by decide) ?_
        refine s_istore (ls' := [(2, 41), (0, l1), (0, l2), (0, l3), (0, l4), (0, 0)]) C dX10_isOneSheet_45 (by decide) rfl rfl ?_
        refine s_iload_n C dX10_isOneSheet_47 rfl ?_
        refine s_ifeq C dX10_isOneSheet_48 rfl (fun hc => ?_) (fun hc => ?_)
        · have h := h.1 hc
          refine s_iconst C dX10_isOneSheet_80 (by decide) ?_
          refine s_istore_n (ls' := [(2, 41), (0, l1), (0, 0), (0, l3), (0, l4), (0, 0)]) C dX10_isOneSheet_81 (by decide) rfl rfl ?_
          obtain ⟨o4, h⟩ := h
          refine s_iinc (ls' := [(2, 41), (0, l1), (0, 0), (0, l3), (0, (l4 + 1)), (0, 0)]) C dX10_isOneSheet_82 (by decide) rfl o4 rfl rfl ?_
          refine s_goto C dX10_isOneSheet_85 rfl ?_
          exact WA.wk h ⟨Or.inr rfl, Or.inr rfl, Or.inr rfl, Or.inr rfl, Or.inr rfl, Or.inl rfl, trivial⟩
        · have h := h.2 hc
          refine s_iload C dX10_isOneSheet_51 rfl ?_
          refine s_ifeq C dX10_isOneSheet_53 rfl (fun hc => ?_) (fun hc => absurd (by decide) hc)
          refine s_iconst C dX10_isOneSheet_76 (by decide) ?_
          refine s_goto C dX10_isOneSheet_77 rfl ?_
          refine s_istore_n (ls' := [(2, 41), (0, l1), (0, 1), (0, l3), (0, l4), (0, 0)]) C dX10_isOneSheet_81 (by decide) rfl rfl ?_
          obtain ⟨o5, h⟩ := h
          refine s_iinc (ls' := [(2, 41), (0, l1), (0, 1), (0, l3), (0, (l4 + 1)), (0, 0)]) C dX10_isOneSheet_82 (by decide) rfl o5 rfl rfl ?_
          refine s_goto C dX10_isOneSheet_85 rfl ?_
          exact WA.wk h ⟨Or.inr rfl, Or.inr rfl, Or.inr rfl, Or.inr rfl, Or.inr rfl, Or.inl rfl, trivial⟩
      · have h := h.2 hc
        refine s_iconst C dX10_isOneSheet_40 (by decide) ?_
        refine s_goto C dX10_isOneSheet_41 rfl ?_
        refine s_istore (ls' := [(2, 41), (0, l1), (0, l2), (0, l3), (0, l4), (0, 1)]) C dX10_isOneSheet_45 (by decide) rfl rfl ?_
        refine s_iload_n C dX10_isOneSheet_47 rfl ?_
        refine s_ifeq C dX10_isOneSheet_48 rfl (fun hc => ?_) (fun hc => ?_)
        · have h := h.1 hc
          refine s_iconst C dX10_isOneSheet_80 (by decide) ?_
          refine s_istore_n (ls' := [(2, 41), (0, l1), (0, 0), (0, l3), (0, l4), (0, 1)]) C dX10_isOneSheet_81 (by decide) rfl rfl ?_
          obtain ⟨o6, h⟩ := h
          refine s_iinc (ls' := [(2, 41), (0, l1), (0, 0), (0, l3), (0, (l4 + 1)), (0, 1)]) C dX10_isOneSheet_82 (by decide) rfl o6 rfl rfl ?_
          refine s_goto C dX10_isOneSheet_85 rfl ?_
          exact WA.wk h ⟨Or.inr rfl, Or.inr rfl, Or.inr rfl, Or.inr rfl, Or.inr rfl, Or.inl rfl, trivial⟩
        · have h := h.2 hc
          refine s_iload C dX10_isOneSheet_51 rfl ?_
          refine s_ifeq C dX10_isOneSheet_53 rfl (fun hc => absurd hc (by decide)) (fun hc => ?_)
          refine s_aload_n C dX10_isOneSheet_56 rfl ?_
          refine s_aload_n C dX10_isOneSheet_57 rfl ?_
          refine WA.fix (fun hF7 => ?_)
          refine gf_X10_110 C (sh_41 hF7) dX10_isOneSheet_58 (fx_41_41 hF7) ?_
          refine s_iload_n C dX10_isOneSheet_61 rfl ?_
          obtain ⟨o8, h⟩ := h
          obtain ⟨o9, h⟩ := h
          refine s_iald (v0 := (M 75 l3)) C (sh_75 hF7) o8 o9 dX10_isOneSheet_62 rfl ?_
          refine s_aload_n C dX10_isOneSheet_63 rfl ?_
          refine gf_X10_110 C (sh_41 hF7) dX10_isOneSheet_64 (fx_41_41 hF7) ?_
          refine s_iload C dX10_isOneSheet_67 rfl ?_
          obtain ⟨o10, h⟩ := h
          obtain ⟨o11, h⟩ := h
          refine s_iald (v0 := (M 75 l4)) C (sh_75 hF7) o10 o11 dX10_isOneSheet_69 rfl ?_
          obtain ⟨Q12, hKQ12, h⟩ := h
          refine s_callV (ci := 10) (av := [(0, (M 75 l3)), (0, (M 75 l4))]) (rest := []) (mc := 0) (ms := 0) C dX10_isOneSheet_70 lk_X10_197 (sh_41 hF7) (by decide) rfl rfl rfl (Nat.le_of_ble_eq_true rfl) (by decide) (by decide) hKQ12 (fun z12 w12 M12 hq => ?_)
          have h := h z12 w12 M12 hq
          refine s_ifne C dX10_isOneSheet_73 rfl (fun hc => ?_) (fun hc => ?_)
          · have h := h.1 hc
            refine s_iconst C dX10_isOneSheet_80 (by decide) ?_
            refine s_istore_n (ls' := [(2, 41), (0, l1), (0, 0), (0, l3), (0, l4), (0, 1)]) C dX10_isOneSheet_81 (by decide) rfl rfl ?_
            obtain ⟨o13, h⟩ := h
            refine s_iinc (ls' := [(2, 41), (0, l1), (0, 0), (0, l3), (0, (l4 + 1)), (0, 1)]) C dX10_isOneSheet_82 (by decide) rfl o13 rfl rfl ?_
            refine s_goto C dX10_isOneSheet_85 rfl ?_
            exact WA.wk h ⟨Or.inr rfl, Or.inr rfl, Or.inr rfl, Or.inr rfl, Or.inr rfl, Or.inl rfl, trivial⟩
          · have h := h.2 hc
            refine s_iconst C dX10_isOneSheet_76 (by decide) ?_
            refine s_goto C dX10_isOneSheet_77 rfl ?_
            refine s_istore_n (ls' := [(2, 41), (0, l1), (0, 1), (0, l3), (0, l4), (0, 1)]) C dX10_isOneSheet_81 (by decide) rfl rfl ?_
            obtain ⟨o14, h⟩ := h
            refine s_iinc (ls' := [(2, 41), (0, l1), (0, 1), (0, l3), (0, (l4 + 1)), (0, 1)]) C dX10_isOneSheet_82 (by decide) rfl o14 rfl rfl ?_
            refine s_goto C dX10_isOneSheet_85 rfl ?_
            exact WA.wk h ⟨Or.inr rfl, Or.inr rfl, Or.inr rfl, Or.inr rfl, Or.inr rfl, Or.inl rfl, trivial⟩
theorem E_X10_isOneSheet {G : GP} {l : Launch} {P : Int → NS → MM → Prop} {l1 : Int} {w : NS} {M : MM} (h : inR l1 → ∀ X : BX, X.2.1 = l → CX_X10_isOneSheet G X → A_X10_isOneSheet_0 G X P l1 w M) : CT_X10_isOneSheet G l [(2, 41), (0, l1)] w M P :=
  CT.of RX10 "isOneSheet" (by decide +kernel) rfl rfl rfl (Nat.le_of_ble_eq_true rfl) (fun hr X hX C => h (hr (0, l1) (by simp)) X hX C)
def A_X10_findSheets_0 (G : GP) (X : BX) (P : Int → NS → MM → Prop) (l1 : Int) (w : NS) (M : MM) : Prop := WA true G X (QM G X true 4 P) 7 0 [(2, 41), (0, l1), (3, 0), (3, 0), (3, 0), (3, 0), (3, 0)] [] 0 0 w M
def A_X10_findSheets_9 (G : GP) (X : BX) (P : Int → NS → MM → Prop) (l1 : Int) (l2 : Int) (l3 : Int) (w : NS) (M : MM) : Prop := WA true G X (QM G X true 4 P) 7 9 [(2, 41), (0, l1), (0, l2), (0, l3), (3, 0), (3, 0), (3, 0)] [] 0 0 w M
def A_X10_findSheets_52 (G : GP) (X : BX) (P : Int → NS → MM → Prop) (l1 : Int) (l2 : Int) (l3 : Int) (w : NS) (M : MM) : Prop := WA true G X (QM G X true 4 P) 7 52 [(2, 41), (0, l1), (0, l2), (0, l3), (3, 0), (3, 0), (3, 0)] [] 0 0 w M
def A_X10_findSheets_60 (G : GP) (X : BX) (P : Int → NS → MM → Prop) (l1 : Int) (l2 : Int) (l3 : Int) (l4 : Int) (w : NS) (M : MM) : Prop := WA true G X (QM G X true 4 P) 7 60 [(2, 41), (0, l1), (0, l2), (0, l3), (0, l4), (3, 0), (3, 0)] [] 0 0 w M
def A_X10_findSheets_89 (G : GP) (X : BX) (P : Int → NS → MM → Prop) (l1 : Int) (l2 : Int) (l3 : Int) (l4 : Int) (l5 : Int) (l6 : Int) (w : NS) (M : MM) : Prop := WA true G X (QM G X true 4 P) 7 89 [(2, 41), (0, l1), (0, l2), (0, l3), (0, l4), (0, l5), (0, l6)] [] 0 0 w M
set_option maxHeartbeats 4000000 in
set_option maxRecDepth 100000 in
theorem B_X10_findSheets_0 {G : GP} {X : BX} {P : Int → NS → MM → Prop} {l1 : Int} {w : NS} {M : MM} (C : CX_X10_findSheets G X) (h : A_X10_findSheets_9 G X P l1 (zshl 1 (M 41 42)) 0 w M) : A_X10_findSheets_0 G X P l1 w M := by
  unfold A_X10_findSheets_0
  refine s_iconst C dX10_findSheets_0 (by decide) ?_
  refine s_aload_n C dX10_findSheets_1 rfl ?_
  refine WA.fix (fun hF1 => ?_)
  refine gf_X10_304 (v0 := (M 41 42)) C (sh_41 hF1) dX10_findSheets_2 rfl ?_
  refine s_ishl C dX10_findSheets_5 ?_
  refine s_istore_n (ls' := [(2, 41), (0, l1), (0, (zshl 1 (M 41 42))), (3, 0), (3, 0), (3, 0), (3, 0)]) C dX10_findSheets_6 (by decide) rfl rfl ?_
  refine s_iconst C dX10_findSheets_7 (by decide) ?_
  refine s_istore_n (ls' := [(2, 41), (0, l1), (0, (zshl 1 (M 41 42))), (0, 0), (3, 0), (3, 0), (3, 0)]) C dX10_findSheets_8 (by decide) rfl rfl ?_
  exact h
set_option maxHeartbeats 4000000 in
set_option maxRecDepth 100000 in
theorem B_X10_findSheets_9 {G : GP} {X : BX} {P : Int → NS → MM → Prop} {l1 : Int} {l2 : Int} {l3 : Int} {w : NS} {M : MM} (C : CX_X10_findSheets G X) (h : (((l2 ≤ l3) → A_X10_findSheets_52 G X P l1 l2 1 w M) ∧ ((¬ (l2 ≤ l3)) → (((l3 ≠ 0) → (0 ≤ l3) ∧ (l3 < 2560) ∧ (inR (2048 + l3)) ∧ ∃ Q6 : Int → NS → MM → Prop, CT_X10_isOneSheet G X.2.1 [(2, 41), (0, l3)] w (up M 76 l3 0) Q6 ∧ ∀ (z6 : Int) (w6 : NS) (M6 : MM), Q6 z6 w6 M6 → (0 ≤ (2048 + l3)) ∧ ((2048 + l3) < 2560) ∧ (z6 = 0 ∨ z6 = 1) ∧ (inR (l3 + 1)) ∧ A_X10_findSheets_9 G X P l1 l2 (l3 + 1) w6 (up M6 76 (2048 + l3) z6)) ∧ ((¬ (l3 ≠ 0)) → (0 ≤ l3) ∧ (l3 < 2560) ∧ (inR (2048 + l3)) ∧ ∃ Q16 : Int → NS → MM → Prop, CT_X10_isOneSheet G X.2.1 [(2, 41), (0, l3)] w (up M 76 l3 1) Q16 ∧ ∀ (z16 : Int) (w16 : NS) (M16 : MM), Q16 z16 w16 M16 → (0 ≤ (2048 + l3)) ∧ ((2048 + l3) < 2560) ∧ (z16 = 0 ∨ z16 = 1) ∧ (inR (l3 + 1)) ∧ A_X10_findSheets_9 G X P l1 l2 (l3 + 1) w16 (up M16 76 (2048 + l3) z16)))))) : A_X10_findSheets_9 G X P l1 l2 l3 w M := by
  unfold A_X10_findSheets_9
  refine s_iload_n C dX10_findSheets_9 rfl ?_
  refine s_iload_n C dX10_findSheets_10 rfl ?_
  refine s_icmpge C dX10_findSheets_11 rfl (fun hc => ?_) (fun hc => ?_)
  · have h := h.1 hc
    refine s_iconst C dX10_findSheets_50 (by decide) ?_
    refine s_istore_n (ls' := [(2, 41), (0, l1), (0, l2), (0, 1), (3, 0), (3, 0), (3, 0)]) C dX10_findSheets_51 (by decide) rfl rfl ?_
    exact h
  · have h := h.2 hc
    refine s_aload_n C dX10_findSheets_14 rfl ?_
    refine WA.fix (fun hF1 => ?_)
    refine gf_X10_113 C (sh_41 hF1) dX10_findSheets_15 (fx_41_43 hF1) ?_
    refine s_iload_n C dX10_findSheets_18 rfl ?_
    refine s_iload_n C dX10_findSheets_19 rfl ?_
    refine s_ifne C dX10_findSheets_20 rfl (fun hc => ?_) (fun hc => ?_)
    · have h := h.1 hc
      refine s_iconst C dX10_findSheets_27 (by decide) ?_
      obtain ⟨o2, h⟩ := h
      obtain ⟨o3, h⟩ := h
      refine s_zast C (sh_76 hF1) o2 o3 (by decide) (fun _ => by decide) dX10_findSheets_28 ?_
      refine s_aload_n C dX10_findSheets_29 rfl ?_
      refine WA.fix (fun hF4 => ?_)
      refine gf_X10_113 C (sh_41 hF1) dX10_findSheets_30 (fx_41_43 hF4) ?_
      refine s_sipush C dX10_findSheets_33 ⟨rfl, by decide, by decide⟩ ?_
      refine s_iload_n C dX10_findSheets_36 rfl ?_
      obtain ⟨o5, h⟩ := h
      refine s_iadd C dX10_findSheets_37 o5 ?_
      refine s_aload_n C dX10_findSheets_38 rfl ?_
      refine s_iload_n C dX10_findSheets_39 rfl ?_
      obtain ⟨Q6, hKQ6, h⟩ := h
      refine s_callV (ci := 10) (av := [(0, l3)]) (rest := [(0, (2048 + l3)), (2, 76)]) (mc := 0) (ms := 0) C dX10_findSheets_40 lk_X10_310 (sh_41 hF1) (by decide) rfl rfl rfl (Nat.le_of_ble_eq_true rfl) (by decide) (by decide) hKQ6 (fun z6 w6 M6 hq => ?_)
      have h := h z6 w6 M6 hq
      refine WA.fix (fun hF7 => ?_)
      obtain ⟨o8, h⟩ := h
      obtain ⟨o9, h⟩ := h
      obtain ⟨o10, h⟩ := h
      refine s_zast C (sh_76 hF7) o8 o9 o10 (fun _ => by decide) dX10_findSheets_43 ?_
      obtain ⟨o11, h⟩ := h
      refine s_iinc (ls' := [(2, 41), (0, l1), (0, l2), (0, (l3 + 1)), (3, 0), (3, 0), (3, 0)]) C dX10_findSheets_44 (by decide) rfl o11 rfl rfl ?_
      refine s_goto C dX10_findSheets_47 rfl ?_
      exact h
    · have h := h.2 hc
      refine s_iconst C dX10_findSheets_23 (by decide) ?_
      refine s_goto C dX10_findSheets_24 rfl ?_
      obtain ⟨o12, h⟩ := h
      obtain ⟨o13, h⟩ := h
      refine s_zast C (sh_76 hF1) o12 o13 (by decide) (fun _ => by decide) dX10_findSheets_28 ?_
      refine s_aload_n C dX10_findSheets_29 rfl ?_
      refine WA.fix (fun hF14 => ?_)
      refine gf_X10_113 C (sh_41 hF1) dX10_findSheets_30 (fx_41_43 hF14) ?_
      refine s_sipush C dX10_findSheets_33 ⟨rfl, by decide, by decide⟩ ?_
      refine s_iload_n C dX10_findSheets_36 rfl ?_
      obtain ⟨o15, h⟩ := h
      refine s_iadd C dX10_findSheets_37 o15 ?_
      refine s_aload_n C dX10_findSheets_38 rfl ?_
      refine s_iload_n C dX10_findSheets_39 rfl ?_
      obtain ⟨Q16, hKQ16, h⟩ := h
      refine s_callV (ci := 10) (av := [(0, l3)]) (rest := [(0, (2048 + l3)), (2, 76)]) (mc := 0) (ms := 0) C dX10_findSheets_40 lk_X10_310 (sh_41 hF1) (by decide) rfl rfl rfl (Nat.le_of_ble_eq_true rfl) (by decide) (by decide) hKQ16 (fun z16 w16 M16 hq => ?_)
      have h := h z16 w16 M16 hq
      refine WA.fix (fun hF17 => ?_)
      obtain ⟨o18, h⟩ := h
      obtain ⟨o19, h⟩ := h
      obtain ⟨o20, h⟩ := h
      refine s_zast C (sh_76 hF17) o18 o19 o20 (fun _ => by decide) dX10_findSheets_43 ?_
      obtain ⟨o21, h⟩ := h
      refine s_iinc (ls' := [(2, 41), (0, l1), (0, l2), (0, (l3 + 1)), (3, 0), (3, 0), (3, 0)]) C dX10_findSheets_44 (by decide) rfl o21 rfl rfl ?_
      refine s_goto C dX10_findSheets_47 rfl ?_
      exact h
set_option maxHeartbeats 4000000 in
set_option maxRecDepth 100000 in
theorem B_X10_findSheets_52 {G : GP} {X : BX} {P : Int → NS → MM → Prop} {l1 : Int} {l2 : Int} {l3 : Int} {w : NS} {M : MM} (C : CX_X10_findSheets G X) (h : (((l1 < l3) → P 0 w M) ∧ ((¬ (l1 < l3)) → A_X10_findSheets_60 G X P l1 l2 l3 0 w M))) : A_X10_findSheets_52 G X P l1 l2 l3 w M := by
  unfold A_X10_findSheets_52
  refine s_iload_n C dX10_findSheets_52 rfl ?_
  refine s_iload_n C dX10_findSheets_53 rfl ?_
  refine s_icmpgt C dX10_findSheets_54 rfl (fun hc => ?_) (fun hc => ?_)
  · have h := h.1 hc
    exact s_vreturn C dX10_findSheets_186 h
  · have h := h.2 hc
    refine s_iconst C dX10_findSheets_57 (by decide) ?_
    refine s_istore (ls' := [(2, 41), (0, l1), (0, l2), (0, l3), (0, 0), (3, 0), (3, 0)]) C dX10_findSheets_58 (by decide) rfl rfl ?_
    exact h
set_option maxHeartbeats 4000000 in
set_option maxRecDepth 100000 in
theorem B_X10_findSheets_60 {G : GP} {X : BX} {P : Int → NS → MM → Prop} {l1 : Int} {l2 : Int} {l3 : Int} {l4 : Int} {w : NS} {M : MM} (C : CX_X10_findSheets G X) (h : (((l2 ≤ l4) → (inR (l3 + 1)) ∧ A_X10_findSheets_52 G X P l1 l2 (l3 + 1) w M) ∧ ((¬ (l2 ≤ l4)) → (inR (l3 - 1)) ∧ (inR (512 * (zand (l3 - 1) 1))) ∧ (inR ((512 * (zand (l3 - 1) 1)) + l4)) ∧ (0 ≤ ((512 * (zand (l3 - 1) 1)) + l4)) ∧ (((512 * (zand (l3 - 1) 1)) + l4) < 2560) ∧ A_X10_findSheets_89 G X P l1 l2 l3 l4 (M 76 ((512 * (zand (l3 - 1) 1)) + l4)) l4 w M))) : A_X10_findSheets_60 G X P l1 l2 l3 l4 w M := by
  unfold A_X10_findSheets_60
  refine s_iload C dX10_findSheets_60 rfl ?_
  refine s_iload_n C dX10_findSheets_62 rfl ?_
  refine s_icmpge C dX10_findSheets_63 rfl (fun hc => ?_) (fun hc => ?_)
  · have h := h.1 hc
    obtain ⟨o1, h⟩ := h
    refine s_iinc (ls' := [(2, 41), (0, l1), (0, l2), (0, (l3 + 1)), (0, l4), (3, 0), (3, 0)]) C dX10_findSheets_180 (by decide) rfl o1 rfl rfl ?_
    refine s_goto C dX10_findSheets_183 rfl ?_
    exact WA.wk h ⟨Or.inr rfl, Or.inr rfl, Or.inr rfl, Or.inr rfl, Or.inl rfl, Or.inl rfl, Or.inl rfl, trivial⟩
  · have h := h.2 hc
    refine s_aload_n C dX10_findSheets_66 rfl ?_
    refine WA.fix (fun hF2 => ?_)
    refine gf_X10_113 C (sh_41 hF2) dX10_findSheets_67 (fx_41_43 hF2) ?_
    refine s_sipush C dX10_findSheets_70 ⟨rfl, by decide, by decide⟩ ?_
    refine s_iload_n C dX10_findSheets_73 rfl ?_
    refine s_iconst C dX10_findSheets_74 (by decide) ?_
    obtain ⟨o3, h⟩ := h
    refine s_isub C dX10_findSheets_75 o3 ?_
    refine s_iconst C dX10_findSheets_76 (by decide) ?_
    refine s_iand C dX10_findSheets_77 ?_
    obtain ⟨o4, h⟩ := h
    refine s_imul C dX10_findSheets_78 o4 ?_
    refine s_iload C dX10_findSheets_79 rfl ?_
    obtain ⟨o5, h⟩ := h
    refine s_iadd C dX10_findSheets_81 o5 ?_
    obtain ⟨o6, h⟩ := h
    obtain ⟨o7, h⟩ := h
    refine s_zald (v0 := (M 76 ((512 * (zand (l3 - 1) 1)) + l4))) C (sh_76 hF2) o6 o7 dX10_findSheets_82 rfl ?_
    refine s_istore (ls' := [(2, 41), (0, l1), (0, l2), (0, l3), (0, l4), (0, (M 76 ((512 * (zand (l3 - 1) 1)) + l4))), (3, 0)]) C dX10_findSheets_83 (by decide) rfl rfl ?_
    refine s_iload C dX10_findSheets_85 rfl ?_
    refine s_istore (ls' := [(2, 41), (0, l1), (0, l2), (0, l3), (0, l4), (0, (M 76 ((512 * (zand (l3 - 1) 1)) + l4))), (0, l4)]) C dX10_findSheets_87 (by decide) rfl rfl ?_
    exact h
set_option maxHeartbeats 4000000 in
set_option maxRecDepth 100000 in
theorem B_X10_findSheets_89 {G : GP} {X : BX} {P : Int → NS → MM → Prop} {l1 : Int} {l2 : Int} {l3 : Int} {l4 : Int} {l5 : Int} {l6 : Int} {w : NS} {M : MM} (C : CX_X10_findSheets G X) (h : (((l6 ≤ 0) → (inR (512 * (zand l3 1))) ∧ (inR ((512 * (zand l3 1)) + l4)) ∧ (0 ≤ ((512 * (zand l3 1)) + l4)) ∧ (((512 * (zand l3 1)) + l4) < 2560) ∧ (l5 = 0 ∨ l5 = 1) ∧ (inR (l4 + 1)) ∧ A_X10_findSheets_60 G X P l1 l2 l3 (l4 + 1) w (up M 76 ((512 * (zand l3 1)) + l4) l5)) ∧ ((¬ (l6 ≤ 0)) → (((l5 ≠ 0) → (inR (512 * (zand l3 1))) ∧ (inR ((512 * (zand l3 1)) + l4)) ∧ (0 ≤ ((512 * (zand l3 1)) + l4)) ∧ (((512 * (zand l3 1)) + l4) < 2560) ∧ (l5 = 0 ∨ l5 = 1) ∧ (inR (l4 + 1)) ∧ A_X10_findSheets_60 G X P l1 l2 l3 (l4 + 1) w (up M 76 ((512 * (zand l3 1)) + l4) l5)) ∧ ((¬ (l5 ≠ 0)) → (inR (2048 + l6)) ∧ (0 ≤ (2048 + l6)) ∧ ((2048 + l6) < 2560) ∧ ((((M 76 (2048 + l6)) = 0) → (inR (l6 - 1)) ∧ A_X10_findSheets_89 G X P l1 l2 l3 l4 0 (zand (l6 - 1) l4) w M) ∧ ((¬ ((M 76 (2048 + l6)) = 0)) → (inR (l3 - 1)) ∧ (inR (512 * (zand (l3 - 1) 1))) ∧ (inR ((512 * (zand (l3 - 1) 1)) + (zand l4 (zxor l6 (-1))))) ∧ (0 ≤ ((512 * (zand (l3 - 1) 1)) + (zand l4 (zxor l6 (-1))))) ∧ (((512 * (zand (l3 - 1) 1)) + (zand l4 (zxor l6 (-1)))) < 2560) ∧ ((((M 76 ((512 * (zand (l3 - 1) 1)) + (zand l4 (zxor l6 (-1))))) = 0) → (inR (l6 - 1)) ∧ A_X10_findSheets_89 G X P l1 l2 l3 l4 0 (zand (l6 - 1) l4) w M) ∧ ((¬ ((M 76 ((512 * (zand (l3 - 1) 1)) + (zand l4 (zxor l6 (-1))))) = 0)) → (inR (l6 - 1)) ∧ A_X10_findSheets_89 G X P l1 l2 l3 l4 1 (zand (l6 - 1) l4) w M))))))))) : A_X10_findSheets_89 G X P l1 l2 l3 l4 l5 l6 w M := by
  unfold A_X10_findSheets_89
  refine s_iload C dX10_findSheets_89 rfl ?_
  refine s_ifle C dX10_findSheets_91 rfl (fun hc => ?_) (fun hc => ?_)
  · have h := h.1 hc
    refine s_aload_n C dX10_findSheets_157 rfl ?_
    refine WA.fix (fun hF1 => ?_)
    refine gf_X10_113 C (sh_41 hF1) dX10_findSheets_158 (fx_41_43 hF1) ?_
    refine s_sipush C dX10_findSheets_161 ⟨rfl, by decide, by decide⟩ ?_
    refine s_iload_n C dX10_findSheets_164 rfl ?_
    refine s_iconst C dX10_findSheets_165 (by decide) ?_
    refine s_iand C dX10_findSheets_166 ?_
    obtain ⟨o2, h⟩ := h
    refine s_imul C dX10_findSheets_167 o2 ?_
    refine s_iload C dX10_findSheets_168 rfl ?_
    obtain ⟨o3, h⟩ := h
    refine s_iadd C dX10_findSheets_170 o3 ?_
    refine s_iload C dX10_findSheets_171 rfl ?_
    obtain ⟨o4, h⟩ := h
    obtain ⟨o5, h⟩ := h
    obtain ⟨o6, h⟩ := h
    refine s_zast C (sh_76 hF1) o4 o5 o6 (fun _ => by decide) dX10_findSheets_173 ?_
    obtain ⟨o7, h⟩ := h
    refine s_iinc (ls' := [(2, 41), (0, l1), (0, l2), (0, l3), (0, (l4 + 1)), (0, l5), (0, l6)]) C dX10_findSheets_174 (by decide) rfl o7 rfl rfl ?_
    refine s_goto C dX10_findSheets_177 rfl ?_
    exact WA.wk h ⟨Or.inr rfl, Or.inr rfl, Or.inr rfl, Or.inr rfl, Or.inr rfl, Or.inl rfl, Or.inl rfl, trivial⟩
  · have h := h.2 hc
    refine s_iload C dX10_findSheets_94 rfl ?_
    refine s_ifne C dX10_findSheets_96 rfl (fun hc => ?_) (fun hc => ?_)
    · have h := h.1 hc
      refine s_aload_n C dX10_findSheets_157 rfl ?_
      refine WA.fix (fun hF8 => ?_)
      refine gf_X10_113 C (sh_41 hF8) dX10_findSheets_158 (fx_41_43 hF8) ?_
      refine s_sipush C dX10_findSheets_161 ⟨rfl, by decide, by decide⟩ ?_
      refine s_iload_n C dX10_findSheets_164 rfl ?_
      refine s_iconst C dX10_findSheets_165 (by decide) ?_
      refine s_iand C dX10_findSheets_166 ?_
      obtain ⟨o9, h⟩ := h
      refine s_imul C dX10_findSheets_167 o9 ?_
      refine s_iload C dX10_findSheets_168 rfl ?_
      obtain ⟨o10, h⟩ := h
      refine s_iadd C dX10_findSheets_170 o10 ?_
      refine s_iload C dX10_findSheets_171 rfl ?_
      obtain ⟨o11, h⟩ := h
      obtain ⟨o12, h⟩ := h
      obtain ⟨o13, h⟩ := h
      refine s_zast C (sh_76 hF8) o11 o12 o13 (fun _ => by decide) dX10_findSheets_173 ?_
      obtain ⟨o14, h⟩ := h
      refine s_iinc (ls' := [(2, 41), (0, l1), (0, l2), (0, l3), (0, (l4 + 1)), (0, l5), (0, l6)]) C dX10_findSheets_174 (by decide) rfl o14 rfl rfl ?_
      refine s_goto C dX10_findSheets_177 rfl ?_
      exact WA.wk h ⟨Or.inr rfl, Or.inr rfl, Or.inr rfl, Or.inr rfl, Or.inr rfl, Or.inl rfl, Or.inl rfl, trivial⟩
    · have h := h.2 hc
      refine s_aload_n C dX10_findSheets_99 rfl ?_
      refine WA.fix (fun hF15 => ?_)
      refine gf_X10_113 C (sh_41 hF15) dX10_findSheets_100 (fx_41_43 hF15) ?_
      refine s_sipush C dX10_findSheets_103 ⟨rfl, by decide, by decide⟩ ?_
      refine s_iload C dX10_findSheets_106 rfl ?_
      obtain ⟨o16, h⟩ := h
      refine s_iadd C dX10_findSheets_108 o16 ?_
      obtain ⟨o17, h⟩ := h
      obtain ⟨o18, h⟩ := h
      refine s_zald (v0 := (M 76 (2048 + l6))) C (sh_76 hF15) o17 o18 dX10_findSheets_109 rfl ?_
      refine s_ifeq C dX10_findSheets_110 rfl (fun hc => ?_) (fun hc => ?_)
      · have h := h.1 hc
        refine s_iconst C dX10_findSheets_142 (by decide) ?_
        refine s_istore (ls' := [(2, 41), (0, l1), (0, l2), (0, l3), (0, l4), (0, 0), (0, l6)]) C dX10_findSheets_143 (by decide) rfl rfl ?_
        refine s_iload C dX10_findSheets_145 rfl ?_
        refine s_iconst C dX10_findSheets_147 (by decide) ?_
        obtain ⟨o19, h⟩ := h
        refine s_isub C dX10_findSheets_148 o19 ?_
        refine s_iload C dX10_findSheets_149 rfl ?_
        refine s_iand C dX10_findSheets_151 ?_
        refine s_istore (ls' := [(2, 41), (0, l1), (0, l2), (0, l3), (0, l4), (0, 0), (0, (zand (l6 - 1) l4))]) C dX10_findSheets_152 (by decide) rfl rfl ?_
        refine s_goto C dX10_findSheets_154 rfl ?_
        exact h
      · have h := h.2 hc
        refine s_aload_n C dX10_findSheets_113 rfl ?_
        refine gf_X10_113 C (sh_41 hF15) dX10_findSheets_114 (fx_41_43 hF15) ?_
        refine s_sipush C dX10_findSheets_117 ⟨rfl, by decide, by decide⟩ ?_
        refine s_iload_n C dX10_findSheets_120 rfl ?_
        refine s_iconst C dX10_findSheets_121 (by decide) ?_
        obtain ⟨o20, h⟩ := h
        refine s_isub C dX10_findSheets_122 o20 ?_
        refine s_iconst C dX10_findSheets_123 (by decide) ?_
        refine s_iand C dX10_findSheets_124 ?_
        obtain ⟨o21, h⟩ := h
        refine s_imul C dX10_findSheets_125 o21 ?_
        refine s_iload C dX10_findSheets_126 rfl ?_
        refine s_iload C dX10_findSheets_128 rfl ?_
        refine s_iconst C dX10_findSheets_130 (by decide) ?_
        refine s_ixor C dX10_findSheets_131 ?_
        refine s_iand C dX10_findSheets_132 ?_
        obtain ⟨o22, h⟩ := h
        refine s_iadd C dX10_findSheets_133 o22 ?_
        obtain ⟨o23, h⟩ := h
        obtain ⟨o24, h⟩ := h
        refine s_zald (v0 := (M 76 ((512 * (zand (l3 - 1) 1)) + (zand l4 (zxor l6 (-1)))))) C (sh_76 hF15) o23 o24 dX10_findSheets_134 rfl ?_
        refine s_ifeq C dX10_findSheets_135 rfl (fun hc => ?_) (fun hc => ?_)
        · have h := h.1 hc
          refine s_iconst C dX10_findSheets_142 (by decide) ?_
          refine s_istore (ls' := [(2, 41), (0, l1), (0, l2), (0, l3), (0, l4), (0, 0), (0, l6)]) C dX10_findSheets_143 (by decide) rfl rfl ?_
          refine s_iload C dX10_findSheets_145 rfl ?_
          refine s_iconst C dX10_findSheets_147 (by decide) ?_
          obtain ⟨o25, h⟩ := h
          refine s_isub C dX10_findSheets_148 o25 ?_
          refine s_iload C dX10_findSheets_149 rfl ?_
          refine s_iand C dX10_findSheets_151 ?_
          refine s_istore (ls' := [(2, 41), (0, l1), (0, l2), (0, l3), (0, l4), (0, 0), (0, (zand (l6 - 1) l4))]) C dX10_findSheets_152 (by decide) rfl rfl ?_
          refine s_goto C dX10_findSheets_154 rfl ?_
          exact h
        · have h := h.2 hc
          refine s_iconst C dX10_findSheets_138 (by decide) ?_
          refine s_goto C dX10_findSheets_139 rfl ?_
          refine s_istore (ls' := [(2, 41), (0, l1), (0, l2), (0, l3), (0, l4), (0, 1), (0, l6)]) C dX10_findSheets_143 (by decide) rfl rfl ?_
          refine s_iload C dX10_findSheets_145 rfl ?_
          refine s_iconst C dX10_findSheets_147 (by decide) ?_
          obtain ⟨o26, h⟩ := h
          refine s_isub C dX10_findSheets_148 o26 ?_
          refine s_iload C dX10_findSheets_149 rfl ?_
          refine s_iand C dX10_findSheets_151 ?_
          refine s_istore (ls' := [(2, 41), (0, l1), (0, l2), (0, l3), (0, l4), (0, 1), (0, (zand (l6 - 1) l4))]) C dX10_findSheets_152 (by decide) rfl rfl ?_
          refine s_goto C dX10_findSheets_154 rfl ?_
          exact h
theorem E_X10_findSheets {G : GP} {l : Launch} {P : Int → NS → MM → Prop} {l1 : Int} {w : NS} {M : MM} (h : inR l1 → ∀ X : BX, X.2.1 = l → CX_X10_findSheets G X → A_X10_findSheets_0 G X P l1 w M) : CT_X10_findSheets G l [(2, 41), (0, l1)] w M P :=
  CT.of RX10 "findSheets" (by decide +kernel) rfl rfl rfl (Nat.le_of_ble_eq_true rfl) (fun hr X hX C => h (hr (0, l1) (by simp)) X hX C)
def A_X10_ones_0 (G : GP) (X : BX) (P : Int → NS → MM → Prop) (l0 : Int) (w : NS) (M : MM) : Prop := WA true G X (QM G X true 0 P) 3 0 [(0, l0), (3, 0), (3, 0)] [] 0 0 w M
def A_X10_ones_4 (G : GP) (X : BX) (P : Int → NS → MM → Prop) (l0 : Int) (l1 : Int) (l2 : Int) (w : NS) (M : MM) : Prop := WA true G X (QM G X true 0 P) 3 4 [(0, l0), (0, l1), (0, l2)] [] 0 0 w M
set_option maxHeartbeats 4000000 in
set_option maxRecDepth 100000 in
theorem B_X10_ones_0 {G : GP} {X : BX} {P : Int → NS → MM → Prop} {l0 : Int} {w : NS} {M : MM} (C : CX_X10_ones G X) (h : A_X10_ones_4 G X P l0 0 0 w M) : A_X10_ones_0 G X P l0 w M := by
  unfold A_X10_ones_0
  refine s_iconst C dX10_ones_0 (by decide) ?_
  refine s_istore_n (ls' := [(0, l0), (0, 0), (3, 0)]) C dX10_ones_1 (by decide) rfl rfl ?_
  refine s_iconst C dX10_ones_2 (by decide) ?_
  refine s_istore_n (ls' := [(0, l0), (0, 0), (0, 0)]) C dX10_ones_3 (by decide) rfl rfl ?_
  exact h
set_option maxHeartbeats 4000000 in
set_option maxRecDepth 100000 in
theorem B_X10_ones_4 {G : GP} {X : BX} {P : Int → NS → MM → Prop} {l0 : Int} {l1 : Int} {l2 : Int} {w : NS} {M : MM} (C : CX_X10_ones G X) (h : (((9 ≤ l2) → P l1 w M) ∧ ((¬ (9 ≤ l2)) → (inR (l1 + (zand (zshr l0 l2) 1))) ∧ (inR (l2 + 1)) ∧ A_X10_ones_4 G X P l0 (l1 + (zand (zshr l0 l2) 1)) (l2 + 1) w M))) : A_X10_ones_4 G X P l0 l1 l2 w M := by
  unfold A_X10_ones_4
  refine s_iload_n C dX10_ones_4 rfl ?_
  refine s_bipush C dX10_ones_5 ⟨rfl, by decide, by decide⟩ ?_
  refine s_icmpge C dX10_ones_7 rfl (fun hc => ?_) (fun hc => ?_)
  · have h := h.1 hc
    refine s_iload_n C dX10_ones_24 rfl ?_
    exact s_ireturn C dX10_ones_25 h
  · have h := h.2 hc
    refine s_iload_n C dX10_ones_10 rfl ?_
    refine s_iload_n C dX10_ones_11 rfl ?_
    refine s_iload_n C dX10_ones_12 rfl ?_
    refine s_ishr C dX10_ones_13 ?_
    refine s_iconst C dX10_ones_14 (by decide) ?_
    refine s_iand C dX10_ones_15 ?_
    obtain ⟨o1, h⟩ := h
    refine s_iadd C dX10_ones_16 o1 ?_
    refine s_istore_n (ls' := [(0, l0), (0, (l1 + (zand (zshr l0 l2) 1))), (0, l2)]) C dX10_ones_17 (by decide) rfl rfl ?_
    obtain ⟨o2, h⟩ := h
    refine s_iinc (ls' := [(0, l0), (0, (l1 + (zand (zshr l0 l2) 1))), (0, (l2 + 1))]) C dX10_ones_18 (by decide) rfl o2 rfl rfl ?_
    refine s_goto C dX10_ones_21 rfl ?_
    exact h
theorem E_X10_ones {G : GP} {l : Launch} {P : Int → NS → MM → Prop} {l0 : Int} {w : NS} {M : MM} (h : inR l0 → ∀ X : BX, X.2.1 = l → CX_X10_ones G X → A_X10_ones_0 G X P l0 w M) : CT_X10_ones G l [(0, l0)] w M P :=
  CT.of RX10 "ones" (by decide +kernel) rfl rfl rfl (Nat.le_of_ble_eq_true rfl) (fun hr X hX C => h (hr (0, l0) (by simp)) X hX C)
def A_X10_served_0 (G : GP) (X : BX) (P : Int → NS → MM → Prop) (l1 : Int) (l2 : Int) (l3 : Int) (w : NS) (M : MM) : Prop := WA true G X (QM G X true 0 P) 9 0 [(2, 41), (0, l1), (0, l2), (0, l3), (3, 0), (3, 0), (3, 0), (3, 0), (3, 0)] [] 0 0 w M
def A_X10_served_51 (G : GP) (X : BX) (P : Int → NS → MM → Prop) (l2 : Int) (l3 : Int) (l4 : Int) (l5 : Int) (w : NS) (M : MM) : Prop := WA true G X (QM G X true 0 P) 9 51 [(2, 41), (3, 0), (0, l2), (0, l3), (0, l4), (0, l5), (3, 0), (3, 0), (3, 0)] [] 0 0 w M
set_option maxHeartbeats 4000000 in
set_option maxRecDepth 100000 in
theorem B_X10_served_0 {G : GP} {X : BX} {P : Int → NS → MM → Prop} {l1 : Int} {l2 : Int} {l3 : Int} {w : NS} {M : MM} (C : CX_X10_served G X) (h : (0 ≤ M 41 4) ∧ ((((0 ≤ l1 ∧ l1 < M 41 4)) → (((¬ (1 ≤ l2 ∧ l2 ≤ 4)) → P (-2) w M) ∧ (((1 ≤ l2 ∧ l2 ≤ 4)) → ((((0 ≤ l3 ∧ l3 ≤ 1)) → ∃ Q6 : Int → NS → MM → Prop, CT_X10_findAsked G X.2.1 [(2, 41), (0, l1)] w M Q6 ∧ ∀ (z6 : Int) (w6 : NS) (M6 : MM), Q6 z6 w6 M6 → ∃ Q8 : Int → NS → MM → Prop, CT_X10_findSheets G X.2.1 [(2, 41), (0, l2)] w6 M6 Q8 ∧ ∀ (z8 : Int) (w8 : NS) (M8 : MM), Q8 z8 w8 M8 → A_X10_served_51 G X P l2 l3 0 1 w8 M8) ∧ ((¬ (0 ≤ l3 ∧ l3 ≤ 1)) → P (-2) w M))))) ∧ ((¬ (0 ≤ l1 ∧ l1 < M 41 4)) → P (-1) w M))) : A_X10_served_0 G X P l1 l2 l3 w M := by
  unfold A_X10_served_0
  refine s_aload_n C dX10_served_0 rfl ?_
  refine s_iload_n C dX10_served_1 rfl ?_
  refine WA.fix (fun hF1 => ?_)
  obtain ⟨o2, h⟩ := h
  refine s_callV (ci := 10) (av := [(0, l1)]) (rest := []) (mc := 0) (ms := 0) C dX10_served_2 lk_X10_156 (sh_41 hF1) (by decide) rfl rfl rfl (Nat.le_of_ble_eq_true rfl) (by decide) (by decide) (pc_X10_isPage o2) (fun z3 wz3 Mz3 hq => ?_)
  obtain ⟨hq1, hq2, hq3⟩ := hq
  have hq2 := hq2.symm
  have hq3 := hq3.symm
  subst hq1 hq2 hq3
  refine s_ifne C dX10_served_5 rfl (fun hc => ?_) (fun hc => ?_)
  · have h := h.1 (b2i_n0 hc)
    refine s_iload_n C dX10_served_10 rfl ?_
    refine s_i2l C dX10_served_11 ?_
    refine s_lconst (z := 1) C dX10_served_12 ⟨rfl, by decide⟩ ?_
    refine s_ldc2 (z := 4) C dX10_served_13 (mG (wd_1148) rfl) ⟨rfl, by decide⟩ ?_
    refine s_callS (av := [(1, l2), (1, 1), (1, 4)]) (rest := []) (mc := 0) (ms := 0) C dX10_served_16 lk_X10_139 rfl rfl (Nat.le_of_ble_eq_true rfl) (by decide) (by decide) (pc_X10_in) (fun z4 wz4 Mz4 hq => ?_)
    obtain ⟨hq1, hq2, hq3⟩ := hq
    have hq2 := hq2.symm
    have hq3 := hq3.symm
    subst hq1 hq2 hq3
    refine s_ifeq C dX10_served_19 rfl (fun hc => ?_) (fun hc => ?_)
    · have h := h.1 (b2i_0.mp hc)
      refine s_bipush C dX10_served_32 ⟨rfl, by decide, by decide⟩ ?_
      exact s_ireturn C dX10_served_34 h
    · have h := h.2 (b2i_n0 hc)
      refine s_iload_n C dX10_served_22 rfl ?_
      refine s_i2l C dX10_served_23 ?_
      refine s_lconst (z := 0) C dX10_served_24 ⟨rfl, by decide⟩ ?_
      refine s_lconst (z := 1) C dX10_served_25 ⟨rfl, by decide⟩ ?_
      refine s_callS (av := [(1, l3), (1, 0), (1, 1)]) (rest := []) (mc := 0) (ms := 0) C dX10_served_26 lk_X10_139 rfl rfl (Nat.le_of_ble_eq_true rfl) (by decide) (by decide) (pc_X10_in) (fun z5 wz5 Mz5 hq => ?_)
      obtain ⟨hq1, hq2, hq3⟩ := hq
      have hq2 := hq2.symm
      have hq3 := hq3.symm
      subst hq1 hq2 hq3
      refine s_ifne C dX10_served_29 rfl (fun hc => ?_) (fun hc => ?_)
      · have h := h.1 (b2i_n0 hc)
        refine s_aload_n C dX10_served_35 rfl ?_
        refine s_iload_n C dX10_served_36 rfl ?_
        obtain ⟨Q6, hKQ6, h⟩ := h
        refine s_callV (ci := 10) (av := [(0, l1)]) (rest := []) (mc := 0) (ms := 0) C dX10_served_37 lk_X10_307 (sh_41 hF1) (by decide) rfl rfl rfl (Nat.le_of_ble_eq_true rfl) (by decide) (by decide) hKQ6 (fun z6 w6 M6 hq => ?_)
        have h := h z6 w6 M6 hq
        refine s_aload_n C dX10_served_40 rfl ?_
        refine s_iload_n C dX10_served_41 rfl ?_
        refine WA.fix (fun hF7 => ?_)
        obtain ⟨Q8, hKQ8, h⟩ := h
        refine s_callV (ci := 10) (av := [(0, l2)]) (rest := []) (mc := 0) (ms := 0) C dX10_served_42 lk_X10_315 (sh_41 hF7) (by decide) rfl rfl rfl (Nat.le_of_ble_eq_true rfl) (by decide) (by decide) hKQ8 (fun z8 w8 M8 hq => ?_)
        have h := h z8 w8 M8 hq
        refine s_iconst C dX10_served_45 (by decide) ?_
        refine s_istore (ls' := [(2, 41), (0, l1), (0, l2), (0, l3), (0, 0), (3, 0), (3, 0), (3, 0), (3, 0)]) C dX10_served_46 (by decide) rfl rfl ?_
        refine s_iconst C dX10_served_48 (by decide) ?_
        refine s_istore (ls' := [(2, 41), (0, l1), (0, l2), (0, l3), (0, 0), (0, 1), (3, 0), (3, 0), (3, 0)]) C dX10_served_49 (by decide) rfl rfl ?_
        exact WA.wk h ⟨Or.inr rfl, Or.inl rfl, Or.inr rfl, Or.inr rfl, Or.inr rfl, Or.inr rfl, Or.inl rfl, Or.inl rfl, Or.inl rfl, trivial⟩
      · have h := h.2 (b2i_nn hc)
        refine s_bipush C dX10_served_32 ⟨rfl, by decide, by decide⟩ ?_
        exact s_ireturn C dX10_served_34 h
  · have h := h.2 (b2i_nn hc)
    refine s_iconst C dX10_served_8 (by decide) ?_
    exact s_ireturn C dX10_served_9 h
set_option maxHeartbeats 4000000 in
set_option maxRecDepth 100000 in
theorem B_X10_served_51 {G : GP} {X : BX} {P : Int → NS → MM → Prop} {l2 : Int} {l3 : Int} {l4 : Int} {l5 : Int} {w : NS} {M : MM} (C : CX_X10_served G X) (h : ((((zshl 1 (M 41 42)) ≤ l5) → (((l3 ≠ 0) → P l4 w M) ∧ ((¬ (l3 ≠ 0)) → ∃ Q2 : Int → NS → MM → Prop, CT_X10_ones G X.2.1 [(0, l4)] w M Q2 ∧ ∀ (z2 : Int) (w2 : NS) (M2 : MM), Q2 z2 w2 M2 → P z2 w2 M2))) ∧ ((¬ ((zshl 1 (M 41 42)) ≤ l5)) → (inR (512 * (zand l2 1))) ∧ (inR ((512 * (zand l2 1)) + l5)) ∧ (0 ≤ ((512 * (zand l2 1)) + l5)) ∧ (((512 * (zand l2 1)) + l5) < 2560) ∧ ((((M 76 ((512 * (zand l2 1)) + l5)) = 0) → (inR (l5 + 1)) ∧ A_X10_served_51 G X P l2 l3 l4 (l5 + 1) w M) ∧ ((¬ ((M 76 ((512 * (zand l2 1)) + l5)) = 0)) → (inR (-(zxor l5 l4))) ∧ ((((zand (zand l5 (zxor l5 l4)) (-(zxor l5 l4))) = 0) → ∃ Q9 : Int → NS → MM → Prop, CT_X10_ones G X.2.1 [(0, l5)] w M Q9 ∧ ∀ (z9 : Int) (w9 : NS) (M9 : MM), Q9 z9 w9 M9 → ∃ Q10 : Int → NS → MM → Prop, CT_X10_ones G X.2.1 [(0, l4)] w9 M9 Q10 ∧ ∀ (z10 : Int) (w10 : NS) (M10 : MM), Q10 z10 w10 M10 → (((z10 < z9) → (inR (l5 + 1)) ∧ A_X10_served_51 G X P l2 l3 l5 (l5 + 1) w10 M10) ∧ ((¬ (z10 < z9)) → ∃ Q12 : Int → NS → MM → Prop, CT_X10_ones G X.2.1 [(0, l5)] w10 M10 Q12 ∧ ∀ (z12 : Int) (w12 : NS) (M12 : MM), Q12 z12 w12 M12 → ∃ Q13 : Int → NS → MM → Prop, CT_X10_ones G X.2.1 [(0, l4)] w12 M12 Q13 ∧ ∀ (z13 : Int) (w13 : NS) (M13 : MM), Q13 z13 w13 M13 → (((z12 ≠ z13) → (inR (l5 + 1)) ∧ A_X10_served_51 G X P l2 l3 l4 (l5 + 1) w13 M13) ∧ ((¬ (z12 ≠ z13)) → (inR (l5 + 1)) ∧ A_X10_served_51 G X P l2 l3 l4 (l5 + 1) w13 M13))))) ∧ ((¬ ((zand (zand l5 (zxor l5 l4)) (-(zxor l5 l4))) = 0)) → ∃ Q16 : Int → NS → MM → Prop, CT_X10_ones G X.2.1 [(0, l5)] w M Q16 ∧ ∀ (z16 : Int) (w16 : NS) (M16 : MM), Q16 z16 w16 M16 → ∃ Q17 : Int → NS → MM → Prop, CT_X10_ones G X.2.1 [(0, l4)] w16 M16 Q17 ∧ ∀ (z17 : Int) (w17 : NS) (M17 : MM), Q17 z17 w17 M17 → (((z17 < z16) → (inR (l5 + 1)) ∧ A_X10_served_51 G X P l2 l3 l5 (l5 + 1) w17 M17) ∧ ((¬ (z17 < z16)) → ∃ Q19 : Int → NS → MM → Prop, CT_X10_ones G X.2.1 [(0, l5)] w17 M17 Q19 ∧ ∀ (z19 : Int) (w19 : NS) (M19 : MM), Q19 z19 w19 M19 → ∃ Q20 : Int → NS → MM → Prop, CT_X10_ones G X.2.1 [(0, l4)] w19 M19 Q20 ∧ ∀ (z20 : Int) (w20 : NS) (M20 : MM), Q20 z20 w20 M20 → (((z19 ≠ z20) → (inR (l5 + 1)) ∧ A_X10_served_51 G X P l2 l3 l4 (l5 + 1) w20 M20) ∧ ((¬ (z19 ≠ z20)) → (inR (l5 + 1)) ∧ A_X10_served_51 G X P l2 l3 l5 (l5 + 1) w20 M20))))))))))) : A_X10_served_51 G X P l2 l3 l4 l5 w M := by
  unfold A_X10_served_51
  refine s_iload C dX10_served_51 rfl ?_
  refine s_iconst C dX10_served_53 (by decide) ?_
  refine s_aload_n C dX10_served_54 rfl ?_
  refine WA.fix (fun hF1 => ?_)
  refine gf_X10_304 (v0 := (M 41 42)) C (sh_41 hF1) dX10_served_55 rfl ?_
  refine s_ishl C dX10_served_58 ?_
  refine s_icmpge C dX10_served_59 rfl (fun hc => ?_) (fun hc => ?_)
  · have h := h.1 hc
    refine s_iload_n C dX10_served_164 rfl ?_
    refine s_ifne C dX10_served_165 rfl (fun hc => ?_) (fun hc => ?_)
    · have h := h.1 hc
      refine s_iload C dX10_served_176 rfl ?_
      exact s_ireturn C dX10_served_178 h
    · have h := h.2 hc
      refine s_iload C dX10_served_168 rfl ?_
      obtain ⟨Q2, hKQ2, h⟩ := h
      refine s_callS (av := [(0, l4)]) (rest := []) (mc := 0) (ms := 0) C dX10_served_170 lk_X10_318 rfl rfl (Nat.le_of_ble_eq_true rfl) (by decide) (by decide) hKQ2 (fun z2 w2 M2 hq => ?_)
      have h := h z2 w2 M2 hq
      refine s_goto C dX10_served_173 rfl ?_
      exact s_ireturn C dX10_served_178 h
  · have h := h.2 hc
    refine s_aload_n C dX10_served_62 rfl ?_
    refine gf_X10_113 C (sh_41 hF1) dX10_served_63 (fx_41_43 hF1) ?_
    refine s_sipush C dX10_served_66 ⟨rfl, by decide, by decide⟩ ?_
    refine s_iload_n C dX10_served_69 rfl ?_
    refine s_iconst C dX10_served_70 (by decide) ?_
    refine s_iand C dX10_served_71 ?_
    obtain ⟨o3, h⟩ := h
    refine s_imul C dX10_served_72 o3 ?_
    refine s_iload C dX10_served_73 rfl ?_
    obtain ⟨o4, h⟩ := h
    refine s_iadd C dX10_served_75 o4 ?_
    obtain ⟨o5, h⟩ := h
    obtain ⟨o6, h⟩ := h
    refine s_zald (v0 := (M 76 ((512 * (zand l2 1)) + l5))) C (sh_76 hF1) o5 o6 dX10_served_76 rfl ?_
    refine s_ifeq C dX10_served_77 rfl (fun hc => ?_) (fun hc => ?_)
    · have h := h.1 hc
      obtain ⟨o7, h⟩ := h
      refine s_iinc (ls' := [(2, 41), (3, 0), (0, l2), (0, l3), (0, l4), (0, (l5 + 1)), (3, 0), (3, 0), (3, 0)]) C dX10_served_158 (by decide) rfl o7 rfl rfl ?_
      refine s_goto C dX10_served_161 rfl ?_
      exact h
    · have h := h.2 hc
      refine s_iload C dX10_served_80 rfl ?_
      refine s_iload C dX10_served_82 rfl ?_
      refine s_ixor C dX10_served_84 ?_
      refine s_istore (ls' := [(2, 41), (3, 0), (0, l2), (0, l3), (0, l4), (0, l5), (0, (zxor l5 l4)), (3, 0), (3, 0)]) C dX10_served_85 (by decide) rfl rfl ?_
      refine s_iload C dX10_served_87 rfl ?_
      refine s_iload C dX10_served_89 rfl ?_
      refine s_iand C dX10_served_91 ?_
      refine s_iload C dX10_served_92 rfl ?_
      obtain ⟨o8, h⟩ := h
      refine s_ineg C dX10_served_94 o8 ?_
      refine s_iand C dX10_served_95 ?_
      refine s_ifeq C dX10_served_96 rfl (fun hc => ?_) (fun hc => ?_)
      · have h := h.1 hc
        refine s_iconst C dX10_served_103 (by decide) ?_
        refine s_istore (ls' := [(2, 41), (3, 0), (0, l2), (0, l3), (0, l4), (0, l5), (0, (zxor l5 l4)), (0, 0), (3, 0)]) C dX10_served_104 (by decide) rfl rfl ?_
        refine s_iload C dX10_served_106 rfl ?_
        obtain ⟨Q9, hKQ9, h⟩ := h
        refine s_callS (av := [(0, l5)]) (rest := []) (mc := 0) (ms := 0) C dX10_served_108 lk_X10_318 rfl rfl (Nat.le_of_ble_eq_true rfl) (by decide) (by decide) hKQ9 (fun z9 w9 M9 hq => ?_)
        have h := h z9 w9 M9 hq
        refine s_iload C dX10_served_111 rfl ?_
        obtain ⟨Q10, hKQ10, h⟩ := h
        refine s_callS (av := [(0, l4)]) (rest := [(0, z9)]) (mc := 0) (ms := 0) C dX10_served_113 lk_X10_318 rfl rfl (Nat.le_of_ble_eq_true rfl) (by decide) (by decide) hKQ10 (fun z10 w10 M10 hq => ?_)
        have h := h z10 w10 M10 hq
        refine s_icmpgt C dX10_served_116 rfl (fun hc => ?_) (fun hc => ?_)
        · have h := h.1 hc
          refine s_iconst C dX10_served_137 (by decide) ?_
          refine s_goto C dX10_served_138 rfl ?_
          refine s_istore (ls' := [(2, 41), (3, 0), (0, l2), (0, l3), (0, l4), (0, l5), (0, (zxor l5 l4)), (0, 0), (0, 1)]) C dX10_served_142 (by decide) rfl rfl ?_
          refine s_iload C dX10_served_144 rfl ?_
          refine s_ifeq C dX10_served_146 rfl (fun hc => absurd hc (by decide)) (fun hc => ?_)
          refine s_iload C dX10_served_149 rfl ?_
          refine s_goto C dX10_served_151 rfl ?_
          refine s_istore (ls' := [(2, 41), (3, 0), (0, l2), (0, l3), (0, l5), (0, l5), (0, (zxor l5 l4)), (0, 0), (0, 1)]) C dX10_served_156 (by decide) rfl rfl ?_
          obtain ⟨o11, h⟩ := h
          refine s_iinc (ls' := [(2, 41), (3, 0), (0, l2), (0, l3), (0, l5), (0, (l5 + 1)), (0, (zxor l5 l4)), (0, 0), (0, 1)]) C dX10_served_158 (by decide) rfl o11 rfl rfl ?_
          refine s_goto C dX10_served_161 rfl ?_
          exact WA.wk h ⟨Or.inr rfl, Or.inl rfl, Or.inr rfl, Or.inr rfl, Or.inr rfl, Or.inr rfl, Or.inl rfl, Or.inl rfl, Or.inl rfl, trivial⟩
        · have h := h.2 hc
          refine s_iload C dX10_served_119 rfl ?_
          obtain ⟨Q12, hKQ12, h⟩ := h
          refine s_callS (av := [(0, l5)]) (rest := []) (mc := 0) (ms := 0) C dX10_served_121 lk_X10_318 rfl rfl (Nat.le_of_ble_eq_true rfl) (by decide) (by decide) hKQ12 (fun z12 w12 M12 hq => ?_)
          have h := h z12 w12 M12 hq
          refine s_iload C dX10_served_124 rfl ?_
          obtain ⟨Q13, hKQ13, h⟩ := h
          refine s_callS (av := [(0, l4)]) (rest := [(0, z12)]) (mc := 0) (ms := 0) C dX10_served_126 lk_X10_318 rfl rfl (Nat.le_of_ble_eq_true rfl) (by decide) (by decide) hKQ13 (fun z13 w13 M13 hq => ?_)
          have h := h z13 w13 M13 hq
          refine s_icmpne C dX10_served_129 rfl (fun hc => ?_) (fun hc => ?_)
          · have h := h.1 hc
            refine s_iconst C dX10_served_141 (by decide) ?_
            refine s_istore (ls' := [(2, 41), (3, 0), (0, l2), (0, l3), (0, l4), (0, l5), (0, (zxor l5 l4)), (0, 0), (0, 0)]) C dX10_served_142 (by decide) rfl rfl ?_
            refine s_iload C dX10_served_144 rfl ?_
            refine s_ifeq C dX10_served_146 rfl (fun hc => ?_) (fun hc => absurd (by decide) hc)
            refine s_iload C dX10_served_154 rfl ?_
            refine s_istore (ls' := [(2, 41), (3, 0), (0, l2), (0, l3), (0, l4), (0, l5), (0, (zxor l5 l4)), (0, 0), (0, 0)]) C dX10_served_156 (by decide) rfl rfl ?_
            obtain ⟨o14, h⟩ := h
            refine s_iinc (ls' := [(2, 41), (3, 0), (0, l2), (0, l3), (0, l4), (0, (l5 + 1)), (0, (zxor l5 l4)), (0, 0), (0, 0)]) C dX10_served_158 (by decide) rfl o14 rfl rfl ?_
            refine s_goto C dX10_served_161 rfl ?_
            exact WA.wk h ⟨Or.inr rfl, Or.inl rfl, Or.inr rfl, Or.inr rfl, Or.inr rfl, Or.inr rfl, Or.inl rfl, Or.inl rfl, Or.inl rfl, trivial⟩
          · have h := h.2 hc
            refine s_iload C dX10_served_132 rfl ?_
            refine s_ifeq C dX10_served_134 rfl (fun hc => ?_) (fun hc => absurd (by decide) hc)
            refine s_iconst C dX10_served_141 (by decide) ?_
            refine s_istore (ls' := [(2, 41), (3, 0), (0, l2), (0, l3), (0, l4), (0, l5), (0, (zxor l5 l4)), (0, 0), (0, 0)]) C dX10_served_142 (by decide) rfl rfl ?_
            refine s_iload C dX10_served_144 rfl ?_
            refine s_ifeq C dX10_served_146 rfl (fun hc => ?_) (fun hc => absurd (by decide) hc)
            refine s_iload C dX10_served_154 rfl ?_
            refine s_istore (ls' := [(2, 41), (3, 0), (0, l2), (0, l3), (0, l4), (0, l5), (0, (zxor l5 l4)), (0, 0), (0, 0)]) C dX10_served_156 (by decide) rfl rfl ?_
            obtain ⟨o15, h⟩ := h
            refine s_iinc (ls' := [(2, 41), (3, 0), (0, l2), (0, l3), (0, l4), (0, (l5 + 1)), (0, (zxor l5 l4)), (0, 0), (0, 0)]) C dX10_served_158 (by decide) rfl o15 rfl rfl ?_
            refine s_goto C dX10_served_161 rfl ?_
            exact WA.wk h ⟨Or.inr rfl, Or.inl rfl, Or.inr rfl, Or.inr rfl, Or.inr rfl, Or.inr rfl, Or.inl rfl, Or.inl rfl, Or.inl rfl, trivial⟩
      · have h := h.2 hc
        refine s_iconst C dX10_served_99 (by decide) ?_
        refine s_goto C dX10_served_100 rfl ?_
        refine s_istore (ls' := [(2, 41), (3, 0), (0, l2), (0, l3), (0, l4), (0, l5), (0, (zxor l5 l4)), (0, 1), (3, 0)]) C dX10_served_104 (by decide) rfl rfl ?_
        refine s_iload C dX10_served_106 rfl ?_
        obtain ⟨Q16, hKQ16, h⟩ := h
        refine s_callS (av := [(0, l5)]) (rest := []) (mc := 0) (ms := 0) C dX10_served_108 lk_X10_318 rfl rfl (Nat.le_of_ble_eq_true rfl) (by decide) (by decide) hKQ16 (fun z16 w16 M16 hq => ?_)
        have h := h z16 w16 M16 hq
        refine s_iload C dX10_served_111 rfl ?_
        obtain ⟨Q17, hKQ17, h⟩ := h
        refine s_callS (av := [(0, l4)]) (rest := [(0, z16)]) (mc := 0) (ms := 0) C dX10_served_113 lk_X10_318 rfl rfl (Nat.le_of_ble_eq_true rfl) (by decide) (by decide) hKQ17 (fun z17 w17 M17 hq => ?_)
        have h := h z17 w17 M17 hq
        refine s_icmpgt C dX10_served_116 rfl (fun hc => ?_) (fun hc => ?_)
        · have h := h.1 hc
          refine s_iconst C dX10_served_137 (by decide) ?_
          refine s_goto C dX10_served_138 rfl ?_
          refine s_istore (ls' := [(2, 41), (3, 0), (0, l2), (0, l3), (0, l4), (0, l5), (0, (zxor l5 l4)), (0, 1), (0, 1)]) C dX10_served_142 (by decide) rfl rfl ?_
          refine s_iload C dX10_served_144 rfl ?_
          refine s_ifeq C dX10_served_146 rfl (fun hc => absurd hc (by decide)) (fun hc => ?_)
          refine s_iload C dX10_served_149 rfl ?_
          refine s_goto C dX10_served_151 rfl ?_
          refine s_istore (ls' := [(2, 41), (3, 0), (0, l2), (0, l3), (0, l5), (0, l5), (0, (zxor l5 l4)), (0, 1), (0, 1)]) C dX10_served_156 (by decide) rfl rfl ?_
          obtain ⟨o18, h⟩ := h
          refine s_iinc (ls' := [(2, 41), (3, 0), (0, l2), (0, l3), (0, l5), (0, (l5 + 1)), (0, (zxor l5 l4)), (0, 1), (0, 1)]) C dX10_served_158 (by decide) rfl o18 rfl rfl ?_
          refine s_goto C dX10_served_161 rfl ?_
          exact WA.wk h ⟨Or.inr rfl, Or.inl rfl, Or.inr rfl, Or.inr rfl, Or.inr rfl, Or.inr rfl, Or.inl rfl, Or.inl rfl, Or.inl rfl, trivial⟩
        · have h := h.2 hc
          refine s_iload C dX10_served_119 rfl ?_
          obtain ⟨Q19, hKQ19, h⟩ := h
          refine s_callS (av := [(0, l5)]) (rest := []) (mc := 0) (ms := 0) C dX10_served_121 lk_X10_318 rfl rfl (Nat.le_of_ble_eq_true rfl) (by decide) (by decide) hKQ19 (fun z19 w19 M19 hq => ?_)
          have h := h z19 w19 M19 hq
          refine s_iload C dX10_served_124 rfl ?_
          obtain ⟨Q20, hKQ20, h⟩ := h
          refine s_callS (av := [(0, l4)]) (rest := [(0, z19)]) (mc := 0) (ms := 0) C dX10_served_126 lk_X10_318 rfl rfl (Nat.le_of_ble_eq_true rfl) (by decide) (by decide) hKQ20 (fun z20 w20 M20 hq => ?_)
          have h := h z20 w20 M20 hq
          refine s_icmpne C dX10_served_129 rfl (fun hc => ?_) (fun hc => ?_)
          · have h := h.1 hc
            refine s_iconst C dX10_served_141 (by decide) ?_
            refine s_istore (ls' := [(2, 41), (3, 0), (0, l2), (0, l3), (0, l4), (0, l5), (0, (zxor l5 l4)), (0, 1), (0, 0)]) C dX10_served_142 (by decide) rfl rfl ?_
            refine s_iload C dX10_served_144 rfl ?_
            refine s_ifeq C dX10_served_146 rfl (fun hc => ?_) (fun hc => absurd (by decide) hc)
            refine s_iload C dX10_served_154 rfl ?_
            refine s_istore (ls' := [(2, 41), (3, 0), (0, l2), (0, l3), (0, l4), (0, l5), (0, (zxor l5 l4)), (0, 1), (0, 0)]) C dX10_served_156 (by decide) rfl rfl ?_
            obtain ⟨o21, h⟩ := h
            refine s_iinc (ls' := [(2, 41), (3, 0), (0, l2), (0, l3), (0, l4), (0, (l5 + 1)), (0, (zxor l5 l4)), (0, 1), (0, 0)]) C dX10_served_158 (by decide) rfl o21 rfl rfl ?_
            refine s_goto C dX10_served_161 rfl ?_
            exact WA.wk h ⟨Or.inr rfl, Or.inl rfl, Or.inr rfl, Or.inr rfl, Or.inr rfl, Or.inr rfl, Or.inl rfl, Or.inl rfl, Or.inl rfl, trivial⟩
          · have h := h.2 hc
            refine s_iload C dX10_served_132 rfl ?_
            refine s_ifeq C dX10_served_134 rfl (fun hc => absurd hc (by decide)) (fun hc => ?_)
            refine s_iconst C dX10_served_137 (by decide) ?_
            refine s_goto C dX10_served_138 rfl ?_
            refine s_istore (ls' := [(2, 41), (3, 0), (0, l2), (0, l3), (0, l4), (0, l5), (0, (zxor l5 l4)), (0, 1), (0, 1)]) C dX10_served_142 (by decide) rfl rfl ?_
            refine s_iload C dX10_served_144 rfl ?_
            refine s_ifeq C dX10_served_146 rfl (fun hc => absurd hc (by decide)) (fun hc => ?_)
            refine s_iload C dX10_served_149 rfl ?_
            refine s_goto C dX10_served_151 rfl ?_
            refine s_istore (ls' := [(2, 41), (3, 0), (0, l2), (0, l3), (0, l5), (0, l5), (0, (zxor l5 l4)), (0, 1), (0, 1)]) C dX10_served_156 (by decide) rfl rfl ?_
            obtain ⟨o22, h⟩ := h
            refine s_iinc (ls' := [(2, 41), (3, 0), (0, l2), (0, l3), (0, l5), (0, (l5 + 1)), (0, (zxor l5 l4)), (0, 1), (0, 1)]) C dX10_served_158 (by decide) rfl o22 rfl rfl ?_
            refine s_goto C dX10_served_161 rfl ?_
            exact WA.wk h ⟨Or.inr rfl, Or.inl rfl, Or.inr rfl, Or.inr rfl, Or.inr rfl, Or.inr rfl, Or.inl rfl, Or.inl rfl, Or.inl rfl, trivial⟩
theorem E_X10_served {G : GP} {l : Launch} {P : Int → NS → MM → Prop} {l1 : Int} {l2 : Int} {l3 : Int} {w : NS} {M : MM} (h : inR l1 → inR l2 → inR l3 → ∀ X : BX, X.2.1 = l → CX_X10_served G X → A_X10_served_0 G X P l1 l2 l3 w M) : CT_X10_served G l [(2, 41), (0, l1), (0, l2), (0, l3)] w M P :=
  CT.of RX10 "served" (by decide +kernel) rfl rfl rfl (Nat.le_of_ble_eq_true rfl) (fun hr X hX C => h (hr (0, l1) (by simp)) (hr (0, l2) (by simp)) (hr (0, l3) (by simp)) X hX C)
def A_X10_find_0 (G : GP) (X : BX) (P : Int → NS → MM → Prop) (l1 : Int) (l2 : Int) (l3 : Int) (w : NS) (M : MM) : Prop := WA true G X (QM G X true 0 P) 5 0 [(2, 41), (0, l1), (0, l2), (0, l3), (3, 0)] [] 0 0 w M
set_option maxHeartbeats 4000000 in
set_option maxRecDepth 100000 in
theorem B_X10_find_0 {G : GP} {X : BX} {P : Int → NS → MM → Prop} {l1 : Int} {l2 : Int} {l3 : Int} {w : NS} {M : MM} (C : CX_X10_find G X) (h : (((¬ (0 ≤ l1 ∧ l1 ≤ 3)) → P (-1) w M) ∧ (((0 ≤ l1 ∧ l1 ≤ 3)) → (0 ≤ M 41 12) ∧ ((((0 ≤ l2 ∧ l2 < M 41 12)) → (0 ≤ l1) ∧ (l1 < 4) ∧ (((l3 = 0) → P (zand (zshr (M 77 l1) l2) 1) w (up M 77 l1 (zand (M 77 l1) (zxor (zshl 1 l2) (-1))))) ∧ ((¬ (l3 = 0)) → P (zand (zshr (M 77 l1) l2) 1) w (up M 77 l1 (zor (M 77 l1) (zshl 1 l2)))))) ∧ ((¬ (0 ≤ l2 ∧ l2 < M 41 12)) → P (-1) w M))))) : A_X10_find_0 G X P l1 l2 l3 w M := by
  unfold A_X10_find_0
  refine s_iload_n C dX10_find_0 rfl ?_
  refine s_callS (av := [(0, l1)]) (rest := []) (mc := 0) (ms := 0) C dX10_find_1 lk_X10_321 rfl rfl (Nat.le_of_ble_eq_true rfl) (by decide) (by decide) (pc_X10_isReader) (fun z1 wz1 Mz1 hq => ?_)
  obtain ⟨hq1, hq2, hq3⟩ := hq
  have hq2 := hq2.symm
  have hq3 := hq3.symm
  subst hq1 hq2 hq3
  refine s_ifeq C dX10_find_4 rfl (fun hc => ?_) (fun hc => ?_)
  · have h := h.1 (b2i_0.mp hc)
    refine s_iconst C dX10_find_15 (by decide) ?_
    exact s_ireturn C dX10_find_16 h
  · have h := h.2 (b2i_n0 hc)
    refine s_aload_n C dX10_find_7 rfl ?_
    refine s_iload_n C dX10_find_8 rfl ?_
    refine WA.fix (fun hF2 => ?_)
    obtain ⟨o3, h⟩ := h
    refine s_callV (ci := 10) (av := [(0, l2)]) (rest := []) (mc := 0) (ms := 0) C dX10_find_9 lk_X10_186 (sh_41 hF2) (by decide) rfl rfl rfl (Nat.le_of_ble_eq_true rfl) (by decide) (by decide) (pc_X10_isPiece o3) (fun z4 wz4 Mz4 hq => ?_)
    obtain ⟨hq1, hq2, hq3⟩ := hq
    have hq2 := hq2.symm
    have hq3 := hq3.symm
    subst hq1 hq2 hq3
    refine s_ifne C dX10_find_12 rfl (fun hc => ?_) (fun hc => ?_)
    · have h := h.1 (b2i_n0 hc)
      refine s_aload_n C dX10_find_17 rfl ?_
      refine gf_X10_116 C (sh_41 hF2) dX10_find_18 (fx_41_44 hF2) ?_
      refine s_iload_n C dX10_find_21 rfl ?_
      obtain ⟨o5, h⟩ := h
      obtain ⟨o6, h⟩ := h
      refine s_iald (v0 := (M 77 l1)) C (sh_77 hF2) o5 o6 dX10_find_22 rfl ?_
      refine s_iload_n C dX10_find_23 rfl ?_
      refine s_ishr C dX10_find_24 ?_
      refine s_iconst C dX10_find_25 (by decide) ?_
      refine s_iand C dX10_find_26 ?_
      refine s_istore (ls' := [(2, 41), (0, l1), (0, l2), (0, l3), (0, (zand (zshr (M 77 l1) l2) 1))]) C dX10_find_27 (by decide) rfl rfl ?_
      refine s_aload_n C dX10_find_29 rfl ?_
      refine gf_X10_116 C (sh_41 hF2) dX10_find_30 (fx_41_44 hF2) ?_
      refine s_iload_n C dX10_find_33 rfl ?_
      refine s_iload_n C dX10_find_34 rfl ?_
      refine s_ifeq C dX10_find_35 rfl (fun hc => ?_) (fun hc => ?_)
      · have h := h.1 hc
        refine s_aload_n C dX10_find_51 rfl ?_
        refine gf_X10_116 C (sh_41 hF2) dX10_find_52 (fx_41_44 hF2) ?_
        refine s_iload_n C dX10_find_55 rfl ?_
        refine s_iald (v0 := (M 77 l1)) C (sh_77 hF2) o5 o6 dX10_find_56 rfl ?_
        refine s_iconst C dX10_find_57 (by decide) ?_
        refine s_iload_n C dX10_find_58 rfl ?_
        refine s_ishl C dX10_find_59 ?_
        refine s_iconst C dX10_find_60 (by decide) ?_
        refine s_ixor C dX10_find_61 ?_
        refine s_iand C dX10_find_62 ?_
        refine s_iast C (sh_77 hF2) o5 o6 (fun _ => by decide) dX10_find_63 ?_
        refine s_iload C dX10_find_64 rfl ?_
        exact s_ireturn C dX10_find_66 h
      · have h := h.2 hc
        refine s_aload_n C dX10_find_38 rfl ?_
        refine gf_X10_116 C (sh_41 hF2) dX10_find_39 (fx_41_44 hF2) ?_
        refine s_iload_n C dX10_find_42 rfl ?_
        refine s_iald (v0 := (M 77 l1)) C (sh_77 hF2) o5 o6 dX10_find_43 rfl ?_
        refine s_iconst C dX10_find_44 (by decide) ?_
        refine s_iload_n C dX10_find_45 rfl ?_
        refine s_ishl C dX10_find_46 ?_
        refine s_ior C dX10_find_47 ?_
        refine s_goto C dX10_find_48 rfl ?_
        refine s_iast C (sh_77 hF2) o5 o6 (fun _ => by decide) dX10_find_63 ?_
        refine s_iload C dX10_find_64 rfl ?_
        exact s_ireturn C dX10_find_66 h
    · have h := h.2 (b2i_nn hc)
      refine s_iconst C dX10_find_15 (by decide) ?_
      exact s_ireturn C dX10_find_16 h
theorem E_X10_find {G : GP} {l : Launch} {P : Int → NS → MM → Prop} {l1 : Int} {l2 : Int} {l3 : Int} {w : NS} {M : MM} (h : inR l1 → inR l2 → inR l3 → ∀ X : BX, X.2.1 = l → CX_X10_find G X → A_X10_find_0 G X P l1 l2 l3 w M) : CT_X10_find G l [(2, 41), (0, l1), (0, l2), (0, l3)] w M P :=
  CT.of RX10 "find" (by decide +kernel) rfl rfl rfl (Nat.le_of_ble_eq_true rfl) (fun hr X hX C => h (hr (0, l1) (by simp)) (hr (0, l2) (by simp)) (hr (0, l3) (by simp)) X hX C)
def A_X10_foundBy_0 (G : GP) (X : BX) (P : Int → NS → MM → Prop) (l1 : Int) (w : NS) (M : MM) : Prop := WA true G X (QM G X true 0 P) 4 0 [(2, 41), (0, l1), (3, 0), (3, 0)] [] 0 0 w M
def A_X10_foundBy_4 (G : GP) (X : BX) (P : Int → NS → MM → Prop) (l1 : Int) (l2 : Int) (l3 : Int) (w : NS) (M : MM) : Prop := WA true G X (QM G X true 0 P) 4 4 [(2, 41), (0, l1), (0, l2), (0, l3)] [] 0 0 w M
set_option maxHeartbeats 4000000 in
set_option maxRecDepth 100000 in
theorem B_X10_foundBy_0 {G : GP} {X : BX} {P : Int → NS → MM → Prop} {l1 : Int} {w : NS} {M : MM} (C : CX_X10_foundBy G X) (h : A_X10_foundBy_4 G X P l1 0 0 w M) : A_X10_foundBy_0 G X P l1 w M := by
  unfold A_X10_foundBy_0
  refine s_iconst C dX10_foundBy_0 (by decide) ?_
  refine s_istore_n (ls' := [(2, 41), (0, l1), (0, 0), (3, 0)]) C dX10_foundBy_1 (by decide) rfl rfl ?_
  refine s_iconst C dX10_foundBy_2 (by decide) ?_
  refine s_istore_n (ls' := [(2, 41), (0, l1), (0, 0), (0, 0)]) C dX10_foundBy_3 (by decide) rfl rfl ?_
  exact h
set_option maxHeartbeats 4000000 in
set_option maxRecDepth 100000 in
theorem B_X10_foundBy_4 {G : GP} {X : BX} {P : Int → NS → MM → Prop} {l1 : Int} {l2 : Int} {l3 : Int} {w : NS} {M : MM} (C : CX_X10_foundBy G X) (h : ((((M 41 12) ≤ l3) → P l2 w M) ∧ ((¬ ((M 41 12) ≤ l3)) → (inR (l2 + (zand (zshr l1 l3) 1))) ∧ (inR (l3 + 1)) ∧ A_X10_foundBy_4 G X P l1 (l2 + (zand (zshr l1 l3) 1)) (l3 + 1) w M))) : A_X10_foundBy_4 G X P l1 l2 l3 w M := by
  unfold A_X10_foundBy_4
  refine s_iload_n C dX10_foundBy_4 rfl ?_
  refine s_aload_n C dX10_foundBy_5 rfl ?_
  refine WA.fix (fun hF1 => ?_)
  refine gf_X10_147 (v0 := (M 41 12)) C (sh_41 hF1) dX10_foundBy_6 rfl ?_
  refine s_icmpge C dX10_foundBy_9 rfl (fun hc => ?_) (fun hc => ?_)
  · have h := h.1 hc
    refine s_iload_n C dX10_foundBy_26 rfl ?_
    exact s_ireturn C dX10_foundBy_27 h
  · have h := h.2 hc
    refine s_iload_n C dX10_foundBy_12 rfl ?_
    refine s_iload_n C dX10_foundBy_13 rfl ?_
    refine s_iload_n C dX10_foundBy_14 rfl ?_
    refine s_ishr C dX10_foundBy_15 ?_
    refine s_iconst C dX10_foundBy_16 (by decide) ?_
    refine s_iand C dX10_foundBy_17 ?_
    obtain ⟨o2, h⟩ := h
    refine s_iadd C dX10_foundBy_18 o2 ?_
    refine s_istore_n (ls' := [(2, 41), (0, l1), (0, (l2 + (zand (zshr l1 l3) 1))), (0, l3)]) C dX10_foundBy_19 (by decide) rfl rfl ?_
    obtain ⟨o3, h⟩ := h
    refine s_iinc (ls' := [(2, 41), (0, l1), (0, (l2 + (zand (zshr l1 l3) 1))), (0, (l3 + 1))]) C dX10_foundBy_20 (by decide) rfl o3 rfl rfl ?_
    refine s_goto C dX10_foundBy_23 rfl ?_
    exact h
theorem E_X10_foundBy {G : GP} {l : Launch} {P : Int → NS → MM → Prop} {l1 : Int} {w : NS} {M : MM} (h : inR l1 → ∀ X : BX, X.2.1 = l → CX_X10_foundBy G X → A_X10_foundBy_0 G X P l1 w M) : CT_X10_foundBy G l [(2, 41), (0, l1)] w M P :=
  CT.of RX10 "foundBy" (by decide +kernel) rfl rfl rfl (Nat.le_of_ble_eq_true rfl) (fun hr X hX C => h (hr (0, l1) (by simp)) X hX C)
def A_X10_lowest_0 (G : GP) (X : BX) (P : Int → NS → MM → Prop) (l0 : Int) (l1 : Int) (l2 : Int) (w : NS) (M : MM) : Prop := WA true G X (QM G X true 0 P) 6 0 [(0, l0), (0, l1), (0, l2), (3, 0), (3, 0), (3, 0)] [] 0 0 w M
def A_X10_lowest_5 (G : GP) (X : BX) (P : Int → NS → MM → Prop) (l0 : Int) (l1 : Int) (l2 : Int) (l3 : Int) (l4 : Int) (w : NS) (M : MM) : Prop := WA true G X (QM G X true 0 P) 6 5 [(0, l0), (0, l1), (0, l2), (0, l3), (0, l4), (3, 0)] [] 0 0 w M
set_option maxHeartbeats 4000000 in
set_option maxRecDepth 100000 in
theorem B_X10_lowest_0 {G : GP} {X : BX} {P : Int → NS → MM → Prop} {l0 : Int} {l1 : Int} {l2 : Int} {w : NS} {M : MM} (C : CX_X10_lowest G X) (h : A_X10_lowest_5 G X P l0 l1 l2 l0 l1 w M) : A_X10_lowest_0 G X P l0 l1 l2 w M := by
  unfold A_X10_lowest_0
  refine s_iload_n C dX10_lowest_0 rfl ?_
  refine s_istore_n (ls' := [(0, l0), (0, l1), (0, l2), (0, l0), (3, 0), (3, 0)]) C dX10_lowest_1 (by decide) rfl rfl ?_
  refine s_iload_n C dX10_lowest_2 rfl ?_
  refine s_istore (ls' := [(0, l0), (0, l1), (0, l2), (0, l0), (0, l1), (3, 0)]) C dX10_lowest_3 (by decide) rfl rfl ?_
  exact h
set_option maxHeartbeats 4000000 in
set_option maxRecDepth 100000 in
theorem B_X10_lowest_5 {G : GP} {X : BX} {P : Int → NS → MM → Prop} {l0 : Int} {l1 : Int} {l2 : Int} {l3 : Int} {l4 : Int} {w : NS} {M : MM} (C : CX_X10_lowest G X) (h : (((l4 = 0) → (((l2 ≠ 0) → (0 ≤ l1) ∧ (0 < l3) ∧ P (l1 / l3) w M) ∧ ((¬ (l2 ≠ 0)) → (0 ≤ l0) ∧ (0 < l3) ∧ P (l0 / l3) w M))) ∧ ((¬ (l4 = 0)) → (0 ≤ l3) ∧ (0 < l4) ∧ A_X10_lowest_5 G X P l0 l1 l2 l4 (l3 % l4) w M))) : A_X10_lowest_5 G X P l0 l1 l2 l3 l4 w M := by
  unfold A_X10_lowest_5
  refine s_iload C dX10_lowest_5 rfl ?_
  refine s_ifeq C dX10_lowest_7 rfl (fun hc => ?_) (fun hc => ?_)
  · have h := h.1 hc
    refine s_iload_n C dX10_lowest_26 rfl ?_
    refine s_ifne C dX10_lowest_27 rfl (fun hc => ?_) (fun hc => ?_)
    · have h := h.1 hc
      refine s_iload_n C dX10_lowest_36 rfl ?_
      refine s_iload_n C dX10_lowest_37 rfl ?_
      obtain ⟨o1, h⟩ := h
      obtain ⟨o2, h⟩ := h
      refine s_idiv C dX10_lowest_38 o1 o2 ?_
      exact s_ireturn C dX10_lowest_39 h
    · have h := h.2 hc
      refine s_iload_n C dX10_lowest_30 rfl ?_
      refine s_iload_n C dX10_lowest_31 rfl ?_
      obtain ⟨o3, h⟩ := h
      obtain ⟨o4, h⟩ := h
      refine s_idiv C dX10_lowest_32 o3 o4 ?_
      refine s_goto C dX10_lowest_33 rfl ?_
      exact s_ireturn C dX10_lowest_39 h
  · have h := h.2 hc
    refine s_iload_n C dX10_lowest_10 rfl ?_
    refine s_iload C dX10_lowest_11 rfl ?_
    obtain ⟨o5, h⟩ := h
    obtain ⟨o6, h⟩ := h
    refine s_irem C dX10_lowest_13 o5 o6 ?_
    refine s_istore (ls' := [(0, l0), (0, l1), (0, l2), (0, l3), (0, l4), (0, (l3 % l4))]) C dX10_lowest_14 (by decide) rfl rfl ?_
    refine s_iload C dX10_lowest_16 rfl ?_
    refine s_istore_n (ls' := [(0, l0), (0, l1), (0, l2), (0, l4), (0, l4), (0, (l3 % l4))]) C dX10_lowest_18 (by decide) rfl rfl ?_
    refine s_iload C dX10_lowest_19 rfl ?_
    refine s_istore (ls' := [(0, l0), (0, l1), (0, l2), (0, l4), (0, (l3 % l4)), (0, (l3 % l4))]) C dX10_lowest_21 (by decide) rfl rfl ?_
    refine s_goto C dX10_lowest_23 rfl ?_
    exact WA.wk h ⟨Or.inr rfl, Or.inr rfl, Or.inr rfl, Or.inr rfl, Or.inr rfl, Or.inl rfl, trivial⟩
theorem E_X10_lowest {G : GP} {l : Launch} {P : Int → NS → MM → Prop} {l0 : Int} {l1 : Int} {l2 : Int} {w : NS} {M : MM} (h : inR l0 → inR l1 → inR l2 → ∀ X : BX, X.2.1 = l → CX_X10_lowest G X → A_X10_lowest_0 G X P l0 l1 l2 w M) : CT_X10_lowest G l [(0, l0), (0, l1), (0, l2)] w M P :=
  CT.of RX10 "lowest" (by decide +kernel) rfl rfl rfl (Nat.le_of_ble_eq_true rfl) (fun hr X hX C => h (hr (0, l0) (by simp)) (hr (0, l1) (by simp)) (hr (0, l2) (by simp)) X hX C)
def A_X10_misses_0 (G : GP) (X : BX) (P : Int → NS → MM → Prop) (l1 : Int) (l2 : Int) (l3 : Int) (l4 : Int) (w : NS) (M : MM) : Prop := WA true G X (QM G X true 0 P) 8 0 [(2, 41), (0, l1), (0, l2), (0, l3), (0, l4), (3, 0), (3, 0), (3, 0)] [] 0 0 w M
set_option maxHeartbeats 4000000 in
set_option maxRecDepth 100000 in
theorem B_X10_misses_0 {G : GP} {X : BX} {P : Int → NS → MM → Prop} {l1 : Int} {l2 : Int} {l3 : Int} {l4 : Int} {w : NS} {M : MM} (C : CX_X10_misses G X) (h : (((¬ (0 ≤ l1 ∧ l1 ≤ 3)) → P (-1) w M) ∧ (((0 ≤ l1 ∧ l1 ≤ 3)) → (((¬ (0 ≤ l2 ∧ l2 ≤ 3)) → P (-1) w M) ∧ (((0 ≤ l2 ∧ l2 ≤ 3)) → (((l1 ≠ l2) → (((¬ (0 ≤ l3 ∧ l3 ≤ 1)) → P (-2) w M) ∧ (((0 ≤ l3 ∧ l3 ≤ 1)) → ((((0 ≤ l4 ∧ l4 ≤ 1)) → (0 ≤ l1) ∧ (l1 < 4) ∧ ∃ Q8 : Int → NS → MM → Prop, CT_X10_foundBy G X.2.1 [(2, 41), (0, (M 77 l1))] w M Q8 ∧ ∀ (z8 : Int) (w8 : NS) (M8 : MM), Q8 z8 w8 M8 → (0 ≤ l2) ∧ (l2 < 4) ∧ ∃ Q12 : Int → NS → MM → Prop, CT_X10_foundBy G X.2.1 [(2, 41), (0, (M8 77 l2))] w8 M8 Q12 ∧ ∀ (z12 : Int) (w12 : NS) (M12 : MM), Q12 z12 w12 M12 → ∃ Q14 : Int → NS → MM → Prop, CT_X10_foundBy G X.2.1 [(2, 41), (0, (zand (M12 77 l1) (M12 77 l2)))] w12 M12 Q14 ∧ ∀ (z14 : Int) (w14 : NS) (M14 : MM), Q14 z14 w14 M14 → (((z14 ≠ 0) → (((l3 ≠ 0) → (inR (z8 - z14)) ∧ (inR (z12 - z14)) ∧ (inR ((z8 - z14) * (z12 - z14))) ∧ ∃ Q18 : Int → NS → MM → Prop, CT_X10_lowest G X.2.1 [(0, ((z8 - z14) * (z12 - z14))), (0, z14), (0, l4)] w14 M14 Q18 ∧ ∀ (z18 : Int) (w18 : NS) (M18 : MM), Q18 z18 w18 M18 → P z18 w18 M18) ∧ ((¬ (l3 ≠ 0)) → (inR (z8 * z12)) ∧ ∃ Q20 : Int → NS → MM → Prop, CT_X10_lowest G X.2.1 [(0, (z8 * z12)), (0, z14), (0, l4)] w14 M14 Q20 ∧ ∀ (z20 : Int) (w20 : NS) (M20 : MM), Q20 z20 w20 M20 → P z20 w20 M20))) ∧ ((¬ (z14 ≠ 0)) → P l4 w14 M14))) ∧ ((¬ (0 ≤ l4 ∧ l4 ≤ 1)) → P (-2) w M))))) ∧ ((¬ (l1 ≠ l2)) → P (-1) w M))))))) : A_X10_misses_0 G X P l1 l2 l3 l4 w M := by
  unfold A_X10_misses_0
  refine s_iload_n C dX10_misses_0 rfl ?_
  refine s_callS (av := [(0, l1)]) (rest := []) (mc := 0) (ms := 0) C dX10_misses_1 lk_X10_321 rfl rfl (Nat.le_of_ble_eq_true rfl) (by decide) (by decide) (pc_X10_isReader) (fun z1 wz1 Mz1 hq => ?_)
  obtain ⟨hq1, hq2, hq3⟩ := hq
  have hq2 := hq2.symm
  have hq3 := hq3.symm
  subst hq1 hq2 hq3
  refine s_ifeq C dX10_misses_4 rfl (fun hc => ?_) (fun hc => ?_)
  · have h := h.1 (b2i_0.mp hc)
    refine s_iconst C dX10_misses_19 (by decide) ?_
    exact s_ireturn C dX10_misses_20 h
  · have h := h.2 (b2i_n0 hc)
    refine s_iload_n C dX10_misses_7 rfl ?_
    refine s_callS (av := [(0, l2)]) (rest := []) (mc := 0) (ms := 0) C dX10_misses_8 lk_X10_321 rfl rfl (Nat.le_of_ble_eq_true rfl) (by decide) (by decide) (pc_X10_isReader) (fun z2 wz2 Mz2 hq => ?_)
    obtain ⟨hq1, hq2, hq3⟩ := hq
    have hq2 := hq2.symm
    have hq3 := hq3.symm
    subst hq1 hq2 hq3
    refine s_ifeq C dX10_misses_11 rfl (fun hc => ?_) (fun hc => ?_)
    · have h := h.1 (b2i_0.mp hc)
      refine s_iconst C dX10_misses_19 (by decide) ?_
      exact s_ireturn C dX10_misses_20 h
    · have h := h.2 (b2i_n0 hc)
      refine s_iload_n C dX10_misses_14 rfl ?_
      refine s_iload_n C dX10_misses_15 rfl ?_
      refine s_icmpne C dX10_misses_16 rfl (fun hc => ?_) (fun hc => ?_)
      · have h := h.1 hc
        refine s_iload_n C dX10_misses_21 rfl ?_
        refine s_i2l C dX10_misses_22 ?_
        refine s_lconst (z := 0) C dX10_misses_23 ⟨rfl, by decide⟩ ?_
        refine s_lconst (z := 1) C dX10_misses_24 ⟨rfl, by decide⟩ ?_
        refine s_callS (av := [(1, l3), (1, 0), (1, 1)]) (rest := []) (mc := 0) (ms := 0) C dX10_misses_25 lk_X10_139 rfl rfl (Nat.le_of_ble_eq_true rfl) (by decide) (by decide) (pc_X10_in) (fun z3 wz3 Mz3 hq => ?_)
        obtain ⟨hq1, hq2, hq3⟩ := hq
        have hq2 := hq2.symm
        have hq3 := hq3.symm
        subst hq1 hq2 hq3
        refine s_ifeq C dX10_misses_28 rfl (fun hc => ?_) (fun hc => ?_)
        · have h := h.1 (b2i_0.mp hc)
          refine s_bipush C dX10_misses_42 ⟨rfl, by decide, by decide⟩ ?_
          exact s_ireturn C dX10_misses_44 h
        · have h := h.2 (b2i_n0 hc)
          refine s_iload C dX10_misses_31 rfl ?_
          refine s_i2l C dX10_misses_33 ?_
          refine s_lconst (z := 0) C dX10_misses_34 ⟨rfl, by decide⟩ ?_
          refine s_lconst (z := 1) C dX10_misses_35 ⟨rfl, by decide⟩ ?_
          refine s_callS (av := [(1, l4), (1, 0), (1, 1)]) (rest := []) (mc := 0) (ms := 0) C dX10_misses_36 lk_X10_139 rfl rfl (Nat.le_of_ble_eq_true rfl) (by decide) (by decide) (pc_X10_in) (fun z4 wz4 Mz4 hq => ?_)
          obtain ⟨hq1, hq2, hq3⟩ := hq
          have hq2 := hq2.symm
          have hq3 := hq3.symm
          subst hq1 hq2 hq3
          refine s_ifne C dX10_misses_39 rfl (fun hc => ?_) (fun hc => ?_)
          · have h := h.1 (b2i_n0 hc)
            refine s_aload_n C dX10_misses_45 rfl ?_
            refine s_aload_n C dX10_misses_46 rfl ?_
            refine WA.fix (fun hF5 => ?_)
            refine gf_X10_116 C (sh_41 hF5) dX10_misses_47 (fx_41_44 hF5) ?_
            refine s_iload_n C dX10_misses_50 rfl ?_
            obtain ⟨o6, h⟩ := h
            obtain ⟨o7, h⟩ := h
            refine s_iald (v0 := (M 77 l1)) C (sh_77 hF5) o6 o7 dX10_misses_51 rfl ?_
            obtain ⟨Q8, hKQ8, h⟩ := h
            refine s_callV (ci := 10) (av := [(0, (M 77 l1))]) (rest := []) (mc := 0) (ms := 0) C dX10_misses_52 lk_X10_324 (sh_41 hF5) (by decide) rfl rfl rfl (Nat.le_of_ble_eq_true rfl) (by decide) (by decide) hKQ8 (fun z8 w8 M8 hq => ?_)
            have h := h z8 w8 M8 hq
            refine s_istore (ls' := [(2, 41), (0, l1), (0, l2), (0, l3), (0, l4), (0, z8), (3, 0), (3, 0)]) C dX10_misses_55 (by decide) rfl rfl ?_
            refine s_aload_n C dX10_misses_57 rfl ?_
            refine s_aload_n C dX10_misses_58 rfl ?_
            refine WA.fix (fun hF9 => ?_)
            refine gf_X10_116 C (sh_41 hF9) dX10_misses_59 (fx_41_44 hF9) ?_
            refine s_iload_n C dX10_misses_62 rfl ?_
            obtain ⟨o10, h⟩ := h
            obtain ⟨o11, h⟩ := h
            refine s_iald (v0 := (M8 77 l2)) C (sh_77 hF9) o10 o11 dX10_misses_63 rfl ?_
            obtain ⟨Q12, hKQ12, h⟩ := h
            refine s_callV (ci := 10) (av := [(0, (M8 77 l2))]) (rest := []) (mc := 0) (ms := 0) C dX10_misses_64 lk_X10_324 (sh_41 hF9) (by decide) rfl rfl rfl (Nat.le_of_ble_eq_true rfl) (by decide) (by decide) hKQ12 (fun z12 w12 M12 hq => ?_)
            have h := h z12 w12 M12 hq
            refine s_istore (ls' := [(2, 41), (0, l1), (0, l2), (0, l3), (0, l4), (0, z8), (0, z12), (3, 0)]) C dX10_misses_67 (by decide) rfl rfl ?_
            refine s_aload_n C dX10_misses_69 rfl ?_
            refine s_aload_n C dX10_misses_70 rfl ?_
            refine WA.fix (fun hF13 => ?_)
            refine gf_X10_116 C (sh_41 hF13) dX10_misses_71 (fx_41_44 hF13) ?_
            refine s_iload_n C dX10_misses_74 rfl ?_
            refine s_iald (v0 := (M12 77 l1)) C (sh_77 hF13) o6 o7 dX10_misses_75 rfl ?_
            refine s_aload_n C dX10_misses_76 rfl ?_
            refine gf_X10_116 C (sh_41 hF13) dX10_misses_77 (fx_41_44 hF13) ?_
            refine s_iload_n C dX10_misses_80 rfl ?_
            refine s_iald (v0 := (M12 77 l2)) C (sh_77 hF13) o10 o11 dX10_misses_81 rfl ?_
            refine s_iand C dX10_misses_82 ?_
            obtain ⟨Q14, hKQ14, h⟩ := h
            refine s_callV (ci := 10) (av := [(0, (zand (M12 77 l1) (M12 77 l2)))]) (rest := []) (mc := 0) (ms := 0) C dX10_misses_83 lk_X10_324 (sh_41 hF13) (by decide) rfl rfl rfl (Nat.le_of_ble_eq_true rfl) (by decide) (by decide) hKQ14 (fun z14 w14 M14 hq => ?_)
            have h := h z14 w14 M14 hq
            refine s_istore (ls' := [(2, 41), (0, l1), (0, l2), (0, l3), (0, l4), (0, z8), (0, z12), (0, z14)]) C dX10_misses_86 (by decide) rfl rfl ?_
            refine s_iload C dX10_misses_88 rfl ?_
            refine s_ifne C dX10_misses_90 rfl (fun hc => ?_) (fun hc => ?_)
            · have h := h.1 hc
              refine s_iload_n C dX10_misses_96 rfl ?_
              refine s_ifne C dX10_misses_97 rfl (fun hc => ?_) (fun hc => ?_)
              · have h := h.1 hc
                refine s_iload C dX10_misses_108 rfl ?_
                refine s_iload C dX10_misses_110 rfl ?_
                obtain ⟨o15, h⟩ := h
                refine s_isub C dX10_misses_112 o15 ?_
                refine s_iload C dX10_misses_113 rfl ?_
                refine s_iload C dX10_misses_115 rfl ?_
                obtain ⟨o16, h⟩ := h
                refine s_isub C dX10_misses_117 o16 ?_
                obtain ⟨o17, h⟩ := h
                refine s_imul C dX10_misses_118 o17 ?_
                refine s_iload C dX10_misses_119 rfl ?_
                refine s_iload C dX10_misses_121 rfl ?_
                obtain ⟨Q18, hKQ18, h⟩ := h
                refine s_callS (av := [(0, ((z8 - z14) * (z12 - z14))), (0, z14), (0, l4)]) (rest := []) (mc := 0) (ms := 0) C dX10_misses_123 lk_X10_327 rfl rfl (Nat.le_of_ble_eq_true rfl) (by decide) (by decide) hKQ18 (fun z18 w18 M18 hq => ?_)
                have h := h z18 w18 M18 hq
                exact s_ireturn C dX10_misses_126 h
              · have h := h.2 hc
                refine s_iload C dX10_misses_100 rfl ?_
                refine s_iload C dX10_misses_102 rfl ?_
                obtain ⟨o19, h⟩ := h
                refine s_imul C dX10_misses_104 o19 ?_
                refine s_goto C dX10_misses_105 rfl ?_
                refine s_iload C dX10_misses_119 rfl ?_
                refine s_iload C dX10_misses_121 rfl ?_
                obtain ⟨Q20, hKQ20, h⟩ := h
                refine s_callS (av := [(0, (z8 * z12)), (0, z14), (0, l4)]) (rest := []) (mc := 0) (ms := 0) C dX10_misses_123 lk_X10_327 rfl rfl (Nat.le_of_ble_eq_true rfl) (by decide) (by decide) hKQ20 (fun z20 w20 M20 hq => ?_)
                have h := h z20 w20 M20 hq
                exact s_ireturn C dX10_misses_126 h
            · have h := h.2 hc
              refine s_iload C dX10_misses_93 rfl ?_
              exact s_ireturn C dX10_misses_95 h
          · have h := h.2 (b2i_nn hc)
            refine s_bipush C dX10_misses_42 ⟨rfl, by decide, by decide⟩ ?_
            exact s_ireturn C dX10_misses_44 h
      · have h := h.2 hc
        refine s_iconst C dX10_misses_19 (by decide) ?_
        exact s_ireturn C dX10_misses_20 h
theorem E_X10_misses {G : GP} {l : Launch} {P : Int → NS → MM → Prop} {l1 : Int} {l2 : Int} {l3 : Int} {l4 : Int} {w : NS} {M : MM} (h : inR l1 → inR l2 → inR l3 → inR l4 → ∀ X : BX, X.2.1 = l → CX_X10_misses G X → A_X10_misses_0 G X P l1 l2 l3 l4 w M) : CT_X10_misses G l [(2, 41), (0, l1), (0, l2), (0, l3), (0, l4)] w M P :=
  CT.of RX10 "misses" (by decide +kernel) rfl rfl rfl (Nat.le_of_ble_eq_true rfl) (fun hr X hX C => h (hr (0, l1) (by simp)) (hr (0, l2) (by simp)) (hr (0, l3) (by simp)) (hr (0, l4) (by simp)) X hX C)
def A_X10_reader_0 (G : GP) (X : BX) (P : Int → NS → MM → Prop) (l1 : Int) (l2 : Int) (l3 : Int) (w : NS) (M : MM) : Prop := WA true G X (QM G X true 0 P) 5 0 [(2, 41), (0, l1), (0, l2), (0, l3), (3, 0)] [] 0 0 w M
set_option maxHeartbeats 4000000 in
set_option maxRecDepth 100000 in
theorem B_X10_reader_0 {G : GP} {X : BX} {P : Int → NS → MM → Prop} {l1 : Int} {l2 : Int} {l3 : Int} {w : NS} {M : MM} (C : CX_X10_reader G X) (h : ((((0 ≤ l1 ∧ l1 ≤ 3)) → (((¬ (0 ≤ l2 ∧ l2 ≤ 1)) → P (-2) w M) ∧ (((0 ≤ l2 ∧ l2 ≤ 1)) → (((l2 ≠ 0) → (((l2 ≠ 0) → ((((0 ≤ l3 ∧ l3 ≤ 1000)) → (inR (2 * l1)) ∧ (inR ((2 * l1) + l2)) ∧ (0 ≤ ((2 * l1) + l2)) ∧ (((2 * l1) + l2) < 8) ∧ P (M 78 ((2 * l1) + l2)) w (up M 78 ((2 * l1) + l2) l3)) ∧ ((¬ (0 ≤ l3 ∧ l3 ≤ 1000)) → P (-2) w M))) ∧ ((¬ (l2 ≠ 0)) → ((((0 ≤ l3 ∧ l3 ≤ 100)) → (inR (2 * l1)) ∧ (inR ((2 * l1) + l2)) ∧ (0 ≤ ((2 * l1) + l2)) ∧ (((2 * l1) + l2) < 8) ∧ P (M 78 ((2 * l1) + l2)) w (up M 78 ((2 * l1) + l2) l3)) ∧ ((¬ (0 ≤ l3 ∧ l3 ≤ 100)) → P (-2) w M))))) ∧ ((¬ (l2 ≠ 0)) → (((l2 ≠ 0) → ((((1 ≤ l3 ∧ l3 ≤ 1000)) → (inR (2 * l1)) ∧ (inR ((2 * l1) + l2)) ∧ (0 ≤ ((2 * l1) + l2)) ∧ (((2 * l1) + l2) < 8) ∧ P (M 78 ((2 * l1) + l2)) w (up M 78 ((2 * l1) + l2) l3)) ∧ ((¬ (1 ≤ l3 ∧ l3 ≤ 1000)) → P (-2) w M))) ∧ ((¬ (l2 ≠ 0)) → ((((1 ≤ l3 ∧ l3 ≤ 100)) → (inR (2 * l1)) ∧ (inR ((2 * l1) + l2)) ∧ (0 ≤ ((2 * l1) + l2)) ∧ (((2 * l1) + l2) < 8) ∧ P (M 78 ((2 * l1) + l2)) w (up M 78 ((2 * l1) + l2) l3)) ∧ ((¬ (1 ≤ l3 ∧ l3 ≤ 100)) → P (-2) w M))))))))) ∧ ((¬ (0 ≤ l1 ∧ l1 ≤ 3)) → P (-1) w M))) : A_X10_reader_0 G X P l1 l2 l3 w M := by
  unfold A_X10_reader_0
  refine s_iload_n C dX10_reader_0 rfl ?_
  refine s_callS (av := [(0, l1)]) (rest := []) (mc := 0) (ms := 0) C dX10_reader_1 lk_X10_321 rfl rfl (Nat.le_of_ble_eq_true rfl) (by decide) (by decide) (pc_X10_isReader) (fun z1 wz1 Mz1 hq => ?_)
  obtain ⟨hq1, hq2, hq3⟩ := hq
  have hq2 := hq2.symm
  have hq3 := hq3.symm
  subst hq1 hq2 hq3
  refine s_ifne C dX10_reader_4 rfl (fun hc => ?_) (fun hc => ?_)
  · have h := h.1 (b2i_n0 hc)
    refine s_iload_n C dX10_reader_9 rfl ?_
    refine s_i2l C dX10_reader_10 ?_
    refine s_lconst (z := 0) C dX10_reader_11 ⟨rfl, by decide⟩ ?_
    refine s_lconst (z := 1) C dX10_reader_12 ⟨rfl, by decide⟩ ?_
    refine s_callS (av := [(1, l2), (1, 0), (1, 1)]) (rest := []) (mc := 0) (ms := 0) C dX10_reader_13 lk_X10_139 rfl rfl (Nat.le_of_ble_eq_true rfl) (by decide) (by decide) (pc_X10_in) (fun z2 wz2 Mz2 hq => ?_)
    obtain ⟨hq1, hq2, hq3⟩ := hq
    have hq2 := hq2.symm
    have hq3 := hq3.symm
    subst hq1 hq2 hq3
    refine s_ifeq C dX10_reader_16 rfl (fun hc => ?_) (fun hc => ?_)
    · have h := h.1 (b2i_0.mp hc)
      refine s_bipush C dX10_reader_49 ⟨rfl, by decide, by decide⟩ ?_
      exact s_ireturn C dX10_reader_51 h
    · have h := h.2 (b2i_n0 hc)
      refine s_iload_n C dX10_reader_19 rfl ?_
      refine s_i2l C dX10_reader_20 ?_
      refine s_iload_n C dX10_reader_21 rfl ?_
      refine s_ifne C dX10_reader_22 rfl (fun hc => ?_) (fun hc => ?_)
      · have h := h.1 hc
        refine s_lconst (z := 0) C dX10_reader_29 ⟨rfl, by decide⟩ ?_
        refine s_iload_n C dX10_reader_30 rfl ?_
        refine s_ifne C dX10_reader_31 rfl (fun hc => ?_) (fun hc => ?_)
        · have h := h.1 hc
          refine s_ldc2 (z := 1000) C dX10_reader_40 (mG (wd_1182) rfl) ⟨rfl, by decide⟩ ?_
          refine s_callS (av := [(1, l3), (1, 0), (1, 1000)]) (rest := []) (mc := 0) (ms := 0) C dX10_reader_43 lk_X10_139 rfl rfl (Nat.le_of_ble_eq_true rfl) (by decide) (by decide) (pc_X10_in) (fun z3 wz3 Mz3 hq => ?_)
          obtain ⟨hq1, hq2, hq3⟩ := hq
          have hq2 := hq2.symm
          have hq3 := hq3.symm
          subst hq1 hq2 hq3
          refine s_ifne C dX10_reader_46 rfl (fun hc => ?_) (fun hc => ?_)
          · have h := h.1 (b2i_n0 hc)
            refine s_aload_n C dX10_reader_52 rfl ?_
            refine WA.fix (fun hF4 => ?_)
            refine gf_X10_119 C (sh_41 hF4) dX10_reader_53 (fx_41_45 hF4) ?_
            refine s_iconst C dX10_reader_56 (by decide) ?_
            refine s_iload_n C dX10_reader_57 rfl ?_
            obtain ⟨o5, h⟩ := h
            refine s_imul C dX10_reader_58 o5 ?_
            refine s_iload_n C dX10_reader_59 rfl ?_
            obtain ⟨o6, h⟩ := h
            refine s_iadd C dX10_reader_60 o6 ?_
            obtain ⟨o7, h⟩ := h
            obtain ⟨o8, h⟩ := h
            refine s_iald (v0 := (M 78 ((2 * l1) + l2))) C (sh_78 hF4) o7 o8 dX10_reader_61 rfl ?_
            refine s_istore (ls' := [(2, 41), (0, l1), (0, l2), (0, l3), (0, (M 78 ((2 * l1) + l2)))]) C dX10_reader_62 (by decide) rfl rfl ?_
            refine s_aload_n C dX10_reader_64 rfl ?_
            refine gf_X10_119 C (sh_41 hF4) dX10_reader_65 (fx_41_45 hF4) ?_
            refine s_iconst C dX10_reader_68 (by decide) ?_
            refine s_iload_n C dX10_reader_69 rfl ?_
            refine s_imul C dX10_reader_70 o5 ?_
            refine s_iload_n C dX10_reader_71 rfl ?_
            refine s_iadd C dX10_reader_72 o6 ?_
            refine s_iload_n C dX10_reader_73 rfl ?_
            refine s_iast C (sh_78 hF4) o7 o8 (fun _ => by decide) dX10_reader_74 ?_
            refine s_iload C dX10_reader_75 rfl ?_
            exact s_ireturn C dX10_reader_77 h
          · have h := h.2 (b2i_nn hc)
            refine s_bipush C dX10_reader_49 ⟨rfl, by decide, by decide⟩ ?_
            exact s_ireturn C dX10_reader_51 h
        · have h := h.2 hc
          refine s_ldc2 (z := 100) C dX10_reader_34 (mG (wd_959) rfl) ⟨rfl, by decide⟩ ?_
          refine s_goto C dX10_reader_37 rfl ?_
          refine s_callS (av := [(1, l3), (1, 0), (1, 100)]) (rest := []) (mc := 0) (ms := 0) C dX10_reader_43 lk_X10_139 rfl rfl (Nat.le_of_ble_eq_true rfl) (by decide) (by decide) (pc_X10_in) (fun z9 wz9 Mz9 hq => ?_)
          obtain ⟨hq1, hq2, hq3⟩ := hq
          have hq2 := hq2.symm
          have hq3 := hq3.symm
          subst hq1 hq2 hq3
          refine s_ifne C dX10_reader_46 rfl (fun hc => ?_) (fun hc => ?_)
          · have h := h.1 (b2i_n0 hc)
            refine s_aload_n C dX10_reader_52 rfl ?_
            refine WA.fix (fun hF10 => ?_)
            refine gf_X10_119 C (sh_41 hF10) dX10_reader_53 (fx_41_45 hF10) ?_
            refine s_iconst C dX10_reader_56 (by decide) ?_
            refine s_iload_n C dX10_reader_57 rfl ?_
            obtain ⟨o11, h⟩ := h
            refine s_imul C dX10_reader_58 o11 ?_
            refine s_iload_n C dX10_reader_59 rfl ?_
            obtain ⟨o12, h⟩ := h
            refine s_iadd C dX10_reader_60 o12 ?_
            obtain ⟨o13, h⟩ := h
            obtain ⟨o14, h⟩ := h
            refine s_iald (v0 := (M 78 ((2 * l1) + l2))) C (sh_78 hF10) o13 o14 dX10_reader_61 rfl ?_
            refine s_istore (ls' := [(2, 41), (0, l1), (0, l2), (0, l3), (0, (M 78 ((2 * l1) + l2)))]) C dX10_reader_62 (by decide) rfl rfl ?_
            refine s_aload_n C dX10_reader_64 rfl ?_
            refine gf_X10_119 C (sh_41 hF10) dX10_reader_65 (fx_41_45 hF10) ?_
            refine s_iconst C dX10_reader_68 (by decide) ?_
            refine s_iload_n C dX10_reader_69 rfl ?_
            refine s_imul C dX10_reader_70 o11 ?_
            refine s_iload_n C dX10_reader_71 rfl ?_
            refine s_iadd C dX10_reader_72 o12 ?_
            refine s_iload_n C dX10_reader_73 rfl ?_
            refine s_iast C (sh_78 hF10) o13 o14 (fun _ => by decide) dX10_reader_74 ?_
            refine s_iload C dX10_reader_75 rfl ?_
            exact s_ireturn C dX10_reader_77 h
          · have h := h.2 (b2i_nn hc)
            refine s_bipush C dX10_reader_49 ⟨rfl, by decide, by decide⟩ ?_
            exact s_ireturn C dX10_reader_51 h
      · have h := h.2 hc
        refine s_lconst (z := 1) C dX10_reader_25 ⟨rfl, by decide⟩ ?_
        refine s_goto C dX10_reader_26 rfl ?_
        refine s_iload_n C dX10_reader_30 rfl ?_
        refine s_ifne C dX10_reader_31 rfl (fun hc => ?_) (fun hc => ?_)
        · have h := h.1 hc
          refine s_ldc2 (z := 1000) C dX10_reader_40 (mG (wd_1182) rfl) ⟨rfl, by decide⟩ ?_
          refine s_callS (av := [(1, l3), (1, 1), (1, 1000)]) (rest := []) (mc := 0) (ms := 0) C dX10_reader_43 lk_X10_139 rfl rfl (Nat.le_of_ble_eq_true rfl) (by decide) (by decide) (pc_X10_in) (fun z15 wz15 Mz15 hq => ?_)
          obtain ⟨hq1, hq2, hq3⟩ := hq
          have hq2 := hq2.symm
          have hq3 := hq3.symm
          subst hq1 hq2 hq3
          refine s_ifne C dX10_reader_46 rfl (fun hc => ?_) (fun hc => ?_)
          · have h := h.1 (b2i_n0 hc)
            refine s_aload_n C dX10_reader_52 rfl ?_
            refine WA.fix (fun hF16 => ?_)
            refine gf_X10_119 C (sh_41 hF16) dX10_reader_53 (fx_41_45 hF16) ?_
            refine s_iconst C dX10_reader_56 (by decide) ?_
            refine s_iload_n C dX10_reader_57 rfl ?_
            obtain ⟨o17, h⟩ := h
            refine s_imul C dX10_reader_58 o17 ?_
            refine s_iload_n C dX10_reader_59 rfl ?_
            obtain ⟨o18, h⟩ := h
            refine s_iadd C dX10_reader_60 o18 ?_
            obtain ⟨o19, h⟩ := h
            obtain ⟨o20, h⟩ := h
            refine s_iald (v0 := (M 78 ((2 * l1) + l2))) C (sh_78 hF16) o19 o20 dX10_reader_61 rfl ?_
            refine s_istore (ls' := [(2, 41), (0, l1), (0, l2), (0, l3), (0, (M 78 ((2 * l1) + l2)))]) C dX10_reader_62 (by decide) rfl rfl ?_
            refine s_aload_n C dX10_reader_64 rfl ?_
            refine gf_X10_119 C (sh_41 hF16) dX10_reader_65 (fx_41_45 hF16) ?_
            refine s_iconst C dX10_reader_68 (by decide) ?_
            refine s_iload_n C dX10_reader_69 rfl ?_
            refine s_imul C dX10_reader_70 o17 ?_
            refine s_iload_n C dX10_reader_71 rfl ?_
            refine s_iadd C dX10_reader_72 o18 ?_
            refine s_iload_n C dX10_reader_73 rfl ?_
            refine s_iast C (sh_78 hF16) o19 o20 (fun _ => by decide) dX10_reader_74 ?_
            refine s_iload C dX10_reader_75 rfl ?_
            exact s_ireturn C dX10_reader_77 h
          · have h := h.2 (b2i_nn hc)
            refine s_bipush C dX10_reader_49 ⟨rfl, by decide, by decide⟩ ?_
            exact s_ireturn C dX10_reader_51 h
        · have h := h.2 hc
          refine s_ldc2 (z := 100) C dX10_reader_34 (mG (wd_959) rfl) ⟨rfl, by decide⟩ ?_
          refine s_goto C dX10_reader_37 rfl ?_
          refine s_callS (av := [(1, l3), (1, 1), (1, 100)]) (rest := []) (mc := 0) (ms := 0) C dX10_reader_43 lk_X10_139 rfl rfl (Nat.le_of_ble_eq_true rfl) (by decide) (by decide) (pc_X10_in) (fun z21 wz21 Mz21 hq => ?_)
          obtain ⟨hq1, hq2, hq3⟩ := hq
          have hq2 := hq2.symm
          have hq3 := hq3.symm
          subst hq1 hq2 hq3
          refine s_ifne C dX10_reader_46 rfl (fun hc => ?_) (fun hc => ?_)
          · have h := h.1 (b2i_n0 hc)
            refine s_aload_n C dX10_reader_52 rfl ?_
            refine WA.fix (fun hF22 => ?_)
            refine gf_X10_119 C (sh_41 hF22) dX10_reader_53 (fx_41_45 hF22) ?_
            refine s_iconst C dX10_reader_56 (by decide) ?_
            refine s_iload_n C dX10_reader_57 rfl ?_
            obtain ⟨o23, h⟩ := h
            refine s_imul C dX10_reader_58 o23 ?_
            refine s_iload_n C dX10_reader_59 rfl ?_
            obtain ⟨o24, h⟩ := h
            refine s_iadd C dX10_reader_60 o24 ?_
            obtain ⟨o25, h⟩ := h
            obtain ⟨o26, h⟩ := h
            refine s_iald (v0 := (M 78 ((2 * l1) + l2))) C (sh_78 hF22) o25 o26 dX10_reader_61 rfl ?_
            refine s_istore (ls' := [(2, 41), (0, l1), (0, l2), (0, l3), (0, (M 78 ((2 * l1) + l2)))]) C dX10_reader_62 (by decide) rfl rfl ?_
            refine s_aload_n C dX10_reader_64 rfl ?_
            refine gf_X10_119 C (sh_41 hF22) dX10_reader_65 (fx_41_45 hF22) ?_
            refine s_iconst C dX10_reader_68 (by decide) ?_
            refine s_iload_n C dX10_reader_69 rfl ?_
            refine s_imul C dX10_reader_70 o23 ?_
            refine s_iload_n C dX10_reader_71 rfl ?_
            refine s_iadd C dX10_reader_72 o24 ?_
            refine s_iload_n C dX10_reader_73 rfl ?_
            refine s_iast C (sh_78 hF22) o25 o26 (fun _ => by decide) dX10_reader_74 ?_
            refine s_iload C dX10_reader_75 rfl ?_
            exact s_ireturn C dX10_reader_77 h
          · have h := h.2 (b2i_nn hc)
            refine s_bipush C dX10_reader_49 ⟨rfl, by decide, by decide⟩ ?_
            exact s_ireturn C dX10_reader_51 h
  · have h := h.2 (b2i_nn hc)
    refine s_iconst C dX10_reader_7 (by decide) ?_
    exact s_ireturn C dX10_reader_8 h
theorem E_X10_reader {G : GP} {l : Launch} {P : Int → NS → MM → Prop} {l1 : Int} {l2 : Int} {l3 : Int} {w : NS} {M : MM} (h : inR l1 → inR l2 → inR l3 → ∀ X : BX, X.2.1 = l → CX_X10_reader G X → A_X10_reader_0 G X P l1 l2 l3 w M) : CT_X10_reader G l [(2, 41), (0, l1), (0, l2), (0, l3)] w M P :=
  CT.of RX10 "reader" (by decide +kernel) rfl rfl rfl (Nat.le_of_ble_eq_true rfl) (fun hr X hX C => h (hr (0, l1) (by simp)) (hr (0, l2) (by simp)) (hr (0, l3) (by simp)) X hX C)
def A_X10_slips_0 (G : GP) (X : BX) (P : Int → NS → MM → Prop) (l1 : Int) (l2 : Int) (l3 : Int) (w : NS) (M : MM) : Prop := WA true G X (QM G X true 0 P) 5 0 [(2, 41), (0, l1), (0, l2), (0, l3), (3, 0)] [] 0 0 w M
set_option maxHeartbeats 4000000 in
set_option maxRecDepth 100000 in
theorem B_X10_slips_0 {G : GP} {X : BX} {P : Int → NS → MM → Prop} {l1 : Int} {l2 : Int} {l3 : Int} {w : NS} {M : MM} (C : CX_X10_slips G X) (h : ((((0 ≤ l1 ∧ l1 ≤ 3)) → (((¬ (0 ≤ l2 ∧ l2 ≤ 9)) → P (-2) w M) ∧ (((0 ≤ l2 ∧ l2 ≤ 9)) → ((((0 ≤ l3 ∧ l3 ≤ 100)) → (inR (10 * l1)) ∧ (inR ((10 * l1) + l2)) ∧ (0 ≤ ((10 * l1) + l2)) ∧ (((10 * l1) + l2) < 40) ∧ P (M 79 ((10 * l1) + l2)) w (up M 79 ((10 * l1) + l2) l3)) ∧ ((¬ (0 ≤ l3 ∧ l3 ≤ 100)) → P (-2) w M))))) ∧ ((¬ (0 ≤ l1 ∧ l1 ≤ 3)) → P (-1) w M))) : A_X10_slips_0 G X P l1 l2 l3 w M := by
  unfold A_X10_slips_0
  refine s_iload_n C dX10_slips_0 rfl ?_
  refine s_callS (av := [(0, l1)]) (rest := []) (mc := 0) (ms := 0) C dX10_slips_1 lk_X10_321 rfl rfl (Nat.le_of_ble_eq_true rfl) (by decide) (by decide) (pc_X10_isReader) (fun z1 wz1 Mz1 hq => ?_)
  obtain ⟨hq1, hq2, hq3⟩ := hq
  have hq2 := hq2.symm
  have hq3 := hq3.symm
  subst hq1 hq2 hq3
  refine s_ifne C dX10_slips_4 rfl (fun hc => ?_) (fun hc => ?_)
  · have h := h.1 (b2i_n0 hc)
    refine s_iload_n C dX10_slips_9 rfl ?_
    refine s_i2l C dX10_slips_10 ?_
    refine s_lconst (z := 0) C dX10_slips_11 ⟨rfl, by decide⟩ ?_
    refine s_ldc2 (z := 9) C dX10_slips_12 (mG (wd_929) rfl) ⟨rfl, by decide⟩ ?_
    refine s_callS (av := [(1, l2), (1, 0), (1, 9)]) (rest := []) (mc := 0) (ms := 0) C dX10_slips_15 lk_X10_139 rfl rfl (Nat.le_of_ble_eq_true rfl) (by decide) (by decide) (pc_X10_in) (fun z2 wz2 Mz2 hq => ?_)
    obtain ⟨hq1, hq2, hq3⟩ := hq
    have hq2 := hq2.symm
    have hq3 := hq3.symm
    subst hq1 hq2 hq3
    refine s_ifeq C dX10_slips_18 rfl (fun hc => ?_) (fun hc => ?_)
    · have h := h.1 (b2i_0.mp hc)
      refine s_bipush C dX10_slips_33 ⟨rfl, by decide, by decide⟩ ?_
      exact s_ireturn C dX10_slips_35 h
    · have h := h.2 (b2i_n0 hc)
      refine s_iload_n C dX10_slips_21 rfl ?_
      refine s_i2l C dX10_slips_22 ?_
      refine s_lconst (z := 0) C dX10_slips_23 ⟨rfl, by decide⟩ ?_
      refine s_ldc2 (z := 100) C dX10_slips_24 (mG (wd_959) rfl) ⟨rfl, by decide⟩ ?_
      refine s_callS (av := [(1, l3), (1, 0), (1, 100)]) (rest := []) (mc := 0) (ms := 0) C dX10_slips_27 lk_X10_139 rfl rfl (Nat.le_of_ble_eq_true rfl) (by decide) (by decide) (pc_X10_in) (fun z3 wz3 Mz3 hq => ?_)
      obtain ⟨hq1, hq2, hq3⟩ := hq
      have hq2 := hq2.symm
      have hq3 := hq3.symm
      subst hq1 hq2 hq3
      refine s_ifne C dX10_slips_30 rfl (fun hc => ?_) (fun hc => ?_)
      · have h := h.1 (b2i_n0 hc)
        refine s_aload_n C dX10_slips_36 rfl ?_
        refine WA.fix (fun hF4 => ?_)
        refine gf_X10_122 C (sh_41 hF4) dX10_slips_37 (fx_41_46 hF4) ?_
        refine s_bipush C dX10_slips_40 ⟨rfl, by decide, by decide⟩ ?_
        refine s_iload_n C dX10_slips_42 rfl ?_
        obtain ⟨o5, h⟩ := h
        refine s_imul C dX10_slips_43 o5 ?_
        refine s_iload_n C dX10_slips_44 rfl ?_
        obtain ⟨o6, h⟩ := h
        refine s_iadd C dX10_slips_45 o6 ?_
        obtain ⟨o7, h⟩ := h
        obtain ⟨o8, h⟩ := h
        refine s_iald (v0 := (M 79 ((10 * l1) + l2))) C (sh_79 hF4) o7 o8 dX10_slips_46 rfl ?_
        refine s_istore (ls' := [(2, 41), (0, l1), (0, l2), (0, l3), (0, (M 79 ((10 * l1) + l2)))]) C dX10_slips_47 (by decide) rfl rfl ?_
        refine s_aload_n C dX10_slips_49 rfl ?_
        refine gf_X10_122 C (sh_41 hF4) dX10_slips_50 (fx_41_46 hF4) ?_
        refine s_bipush C dX10_slips_53 ⟨rfl, by decide, by decide⟩ ?_
        refine s_iload_n C dX10_slips_55 rfl ?_
        refine s_imul C dX10_slips_56 o5 ?_
        refine s_iload_n C dX10_slips_57 rfl ?_
        refine s_iadd C dX10_slips_58 o6 ?_
        refine s_iload_n C dX10_slips_59 rfl ?_
        refine s_iast C (sh_79 hF4) o7 o8 (fun _ => by decide) dX10_slips_60 ?_
        refine s_iload C dX10_slips_61 rfl ?_
        exact s_ireturn C dX10_slips_63 h
      · have h := h.2 (b2i_nn hc)
        refine s_bipush C dX10_slips_33 ⟨rfl, by decide, by decide⟩ ?_
        exact s_ireturn C dX10_slips_35 h
  · have h := h.2 (b2i_nn hc)
    refine s_iconst C dX10_slips_7 (by decide) ?_
    exact s_ireturn C dX10_slips_8 h
theorem E_X10_slips {G : GP} {l : Launch} {P : Int → NS → MM → Prop} {l1 : Int} {l2 : Int} {l3 : Int} {w : NS} {M : MM} (h : inR l1 → inR l2 → inR l3 → ∀ X : BX, X.2.1 = l → CX_X10_slips G X → A_X10_slips_0 G X P l1 l2 l3 w M) : CT_X10_slips G l [(2, 41), (0, l1), (0, l2), (0, l3)] w M P :=
  CT.of RX10 "slips" (by decide +kernel) rfl rfl rfl (Nat.le_of_ble_eq_true rfl) (fun hr X hX C => h (hr (0, l1) (by simp)) (hr (0, l2) (by simp)) (hr (0, l3) (by simp)) X hX C)
def A_X10_tried_0 (G : GP) (X : BX) (P : Int → NS → MM → Prop) (l1 : Int) (w : NS) (M : MM) : Prop := WA true G X (QM G X true 0 P) 5 0 [(2, 41), (0, l1), (3, 0), (3, 0), (3, 0)] [] 0 0 w M
def A_X10_tried_4 (G : GP) (X : BX) (P : Int → NS → MM → Prop) (l1 : Int) (l2 : Int) (l3 : Int) (w : NS) (M : MM) : Prop := WA true G X (QM G X true 0 P) 5 4 [(2, 41), (0, l1), (0, l2), (0, l3), (3, 0)] [] 0 0 w M
def A_X10_tried_33 (G : GP) (X : BX) (P : Int → NS → MM → Prop) (l1 : Int) (l2 : Int) (l3 : Int) (w : NS) (M : MM) : Prop := WA true G X (QM G X true 0 P) 5 33 [(2, 41), (0, l1), (0, l2), (0, l3), (3, 0)] [] 0 0 w M
set_option maxHeartbeats 4000000 in
set_option maxRecDepth 100000 in
theorem B_X10_tried_0 {G : GP} {X : BX} {P : Int → NS → MM → Prop} {l1 : Int} {w : NS} {M : MM} (C : CX_X10_tried G X) (h : A_X10_tried_4 G X P l1 0 0 w M) : A_X10_tried_0 G X P l1 w M := by
  unfold A_X10_tried_0
  refine s_iconst C dX10_tried_0 (by decide) ?_
  refine s_istore_n (ls' := [(2, 41), (0, l1), (0, 0), (3, 0), (3, 0)]) C dX10_tried_1 (by decide) rfl rfl ?_
  refine s_iconst C dX10_tried_2 (by decide) ?_
  refine s_istore_n (ls' := [(2, 41), (0, l1), (0, 0), (0, 0), (3, 0)]) C dX10_tried_3 (by decide) rfl rfl ?_
  exact h
set_option maxHeartbeats 4000000 in
set_option maxRecDepth 100000 in
theorem B_X10_tried_4 {G : GP} {X : BX} {P : Int → NS → MM → Prop} {l1 : Int} {l2 : Int} {l3 : Int} {w : NS} {M : MM} (C : CX_X10_tried G X) (h : (((4 ≤ l3) → A_X10_tried_33 G X P l1 l2 0 w M) ∧ ((¬ (4 ≤ l3)) → (inR (2 * l3)) ∧ (inR ((2 * l3) + 1)) ∧ (0 ≤ ((2 * l3) + 1)) ∧ (((2 * l3) + 1) < 8) ∧ (0 ≤ l3) ∧ (l3 < 5) ∧ (inR (l3 + 1)) ∧ A_X10_tried_4 G X P l1 l2 (l3 + 1) w (up M 82 l3 (M 78 ((2 * l3) + 1)))))) : A_X10_tried_4 G X P l1 l2 l3 w M := by
  unfold A_X10_tried_4
  refine s_iload_n C dX10_tried_4 rfl ?_
  refine s_iconst C dX10_tried_5 (by decide) ?_
  refine s_icmpge C dX10_tried_6 rfl (fun hc => ?_) (fun hc => ?_)
  · have h := h.1 hc
    refine s_iconst C dX10_tried_31 (by decide) ?_
    refine s_istore_n (ls' := [(2, 41), (0, l1), (0, l2), (0, 0), (3, 0)]) C dX10_tried_32 (by decide) rfl rfl ?_
    exact h
  · have h := h.2 hc
    refine s_aload_n C dX10_tried_9 rfl ?_
    refine WA.fix (fun hF1 => ?_)
    refine gf_X10_131 C (sh_41 hF1) dX10_tried_10 (fx_41_49 hF1) ?_
    refine s_iload_n C dX10_tried_13 rfl ?_
    refine s_aload_n C dX10_tried_14 rfl ?_
    refine gf_X10_119 C (sh_41 hF1) dX10_tried_15 (fx_41_45 hF1) ?_
    refine s_iconst C dX10_tried_18 (by decide) ?_
    refine s_iload_n C dX10_tried_19 rfl ?_
    obtain ⟨o2, h⟩ := h
    refine s_imul C dX10_tried_20 o2 ?_
    refine s_iconst C dX10_tried_21 (by decide) ?_
    obtain ⟨o3, h⟩ := h
    refine s_iadd C dX10_tried_22 o3 ?_
    obtain ⟨o4, h⟩ := h
    obtain ⟨o5, h⟩ := h
    refine s_iald (v0 := (M 78 ((2 * l3) + 1))) C (sh_78 hF1) o4 o5 dX10_tried_23 rfl ?_
    obtain ⟨o6, h⟩ := h
    obtain ⟨o7, h⟩ := h
    refine s_iast C (sh_82 hF1) o6 o7 (fun _ => by decide) dX10_tried_24 ?_
    obtain ⟨o8, h⟩ := h
    refine s_iinc (ls' := [(2, 41), (0, l1), (0, l2), (0, (l3 + 1)), (3, 0)]) C dX10_tried_25 (by decide) rfl o8 rfl rfl ?_
    refine s_goto C dX10_tried_28 rfl ?_
    exact h
set_option maxHeartbeats 4000000 in
set_option maxRecDepth 100000 in
theorem B_X10_tried_33 {G : GP} {X : BX} {P : Int → NS → MM → Prop} {l1 : Int} {l2 : Int} {l3 : Int} {w : NS} {M : MM} (C : CX_X10_tried G X) (h : ((((M 41 4) ≤ l3) → P l2 w M) ∧ ((¬ ((M 41 4) ≤ l3)) → ((((zand (zshr l1 l3) 1) ≠ 1) → (inR (l3 + 1)) ∧ A_X10_tried_33 G X P l1 l2 (l3 + 1) w M) ∧ ((¬ ((zand (zshr l1 l3) 1) ≠ 1)) → (0 ≤ l3) ∧ (l3 < 8) ∧ ((((M 80 l3) ≠ 4) → (0 ≤ (M 80 l3)) ∧ ((M 80 l3) < 5) ∧ (inR (2 * (M 80 l3))) ∧ (0 ≤ (2 * (M 80 l3))) ∧ ((2 * (M 80 l3)) < 8) ∧ (inR ((M 82 (M 80 l3)) - (M 78 (2 * (M 80 l3))))) ∧ (inR (10 * (M 80 l3))) ∧ (inR ((10 * (M 80 l3)) + (M 43 l3))) ∧ (0 ≤ ((10 * (M 80 l3)) + (M 43 l3))) ∧ (((10 * (M 80 l3)) + (M 43 l3)) < 40) ∧ (inR (l2 + (M 79 ((10 * (M 80 l3)) + (M 43 l3))))) ∧ (((0 ≤ ((M 82 (M 80 l3)) - (M 78 (2 * (M 80 l3))))) → (inR (l3 + 1)) ∧ A_X10_tried_33 G X P l1 (l2 + (M 79 ((10 * (M 80 l3)) + (M 43 l3)))) (l3 + 1) w (up M 82 (M 80 l3) ((M 82 (M 80 l3)) - (M 78 (2 * (M 80 l3)))))) ∧ ((¬ (0 ≤ ((M 82 (M 80 l3)) - (M 78 (2 * (M 80 l3)))))) → P 1000000 w (up M 82 (M 80 l3) ((M 82 (M 80 l3)) - (M 78 (2 * (M 80 l3)))))))) ∧ ((¬ ((M 80 l3) ≠ 4)) → (inR (l2 + (M 53 3))) ∧ (inR (l3 + 1)) ∧ A_X10_tried_33 G X P l1 (l2 + (M 53 3)) (l3 + 1) w M))))))) : A_X10_tried_33 G X P l1 l2 l3 w M := by
  unfold A_X10_tried_33
  refine s_iload_n C dX10_tried_33 rfl ?_
  refine s_aload_n C dX10_tried_34 rfl ?_
  refine WA.fix (fun hF1 => ?_)
  refine gf_X10_143 (v0 := (M 41 4)) C (sh_41 hF1) dX10_tried_35 rfl ?_
  refine s_icmpge C dX10_tried_38 rfl (fun hc => ?_) (fun hc => ?_)
  · have h := h.1 hc
    refine s_iload_n C dX10_tried_135 rfl ?_
    exact s_ireturn C dX10_tried_136 h
  · have h := h.2 hc
    refine s_iload_n C dX10_tried_41 rfl ?_
    refine s_iload_n C dX10_tried_42 rfl ?_
    refine s_ishr C dX10_tried_43 ?_
    refine s_iconst C dX10_tried_44 (by decide) ?_
    refine s_iand C dX10_tried_45 ?_
    refine s_iconst C dX10_tried_46 (by decide) ?_
    refine s_icmpne C dX10_tried_47 rfl (fun hc => ?_) (fun hc => ?_)
    · have h := h.1 hc
      obtain ⟨o2, h⟩ := h
      refine s_iinc (ls' := [(2, 41), (0, l1), (0, l2), (0, (l3 + 1)), (3, 0)]) C dX10_tried_129 (by decide) rfl o2 rfl rfl ?_
      refine s_goto C dX10_tried_132 rfl ?_
      exact h
    · have h := h.2 hc
      refine s_aload_n C dX10_tried_50 rfl ?_
      refine gf_X10_125 C (sh_41 hF1) dX10_tried_51 (fx_41_47 hF1) ?_
      refine s_iload_n C dX10_tried_54 rfl ?_
      obtain ⟨o3, h⟩ := h
      obtain ⟨o4, h⟩ := h
      refine s_iald (v0 := (M 80 l3)) C (sh_80 hF1) o3 o4 dX10_tried_55 rfl ?_
      refine s_istore (ls' := [(2, 41), (0, l1), (0, l2), (0, l3), (0, (M 80 l3))]) C dX10_tried_56 (by decide) rfl rfl ?_
      refine s_iload C dX10_tried_58 rfl ?_
      refine s_iconst C dX10_tried_60 (by decide) ?_
      refine s_icmpne C dX10_tried_61 rfl (fun hc => ?_) (fun hc => ?_)
      · have h := h.1 hc
        refine s_aload_n C dX10_tried_76 rfl ?_
        refine gf_X10_131 C (sh_41 hF1) dX10_tried_77 (fx_41_49 hF1) ?_
        refine s_iload C dX10_tried_80 rfl ?_
        refine s_dup2 C (by simp) (by simp) dX10_tried_82 ?_
        obtain ⟨o5, h⟩ := h
        obtain ⟨o6, h⟩ := h
        refine s_iald (v0 := (M 82 (M 80 l3))) C (sh_82 hF1) o5 o6 dX10_tried_83 rfl ?_
        refine s_aload_n C dX10_tried_84 rfl ?_
        refine gf_X10_119 C (sh_41 hF1) dX10_tried_85 (fx_41_45 hF1) ?_
        refine s_iconst C dX10_tried_88 (by decide) ?_
        refine s_iload C dX10_tried_89 rfl ?_
        obtain ⟨o7, h⟩ := h
        refine s_imul C dX10_tried_91 o7 ?_
        obtain ⟨o8, h⟩ := h
        obtain ⟨o9, h⟩ := h
        refine s_iald (v0 := (M 78 (2 * (M 80 l3)))) C (sh_78 hF1) o8 o9 dX10_tried_92 rfl ?_
        obtain ⟨o10, h⟩ := h
        refine s_isub C dX10_tried_93 o10 ?_
        refine s_iast C (sh_82 hF1) o5 o6 (fun _ => by decide) dX10_tried_94 ?_
        refine s_iload_n C dX10_tried_95 rfl ?_
        refine s_aload_n C dX10_tried_96 rfl ?_
        refine WA.fix (fun hF11 => ?_)
        refine gf_X10_122 C (sh_41 hF1) dX10_tried_97 (fx_41_46 hF11) ?_
        refine s_bipush C dX10_tried_100 ⟨rfl, by decide, by decide⟩ ?_
        refine s_iload C dX10_tried_102 rfl ?_
        obtain ⟨o12, h⟩ := h
        refine s_imul C dX10_tried_104 o12 ?_
        refine s_aload_n C dX10_tried_105 rfl ?_
        refine gf_X10_13 C (sh_41 hF1) dX10_tried_106 (fx_41_1 hF11) ?_
        refine s_iload_n C dX10_tried_109 rfl ?_
        refine s_iald (v0 := (M 43 l3)) C (sh_43 hF11) o3 o4 dX10_tried_110 (up_na (by decide)) ?_
        obtain ⟨o13, h⟩ := h
        refine s_iadd C dX10_tried_111 o13 ?_
        obtain ⟨o14, h⟩ := h
        obtain ⟨o15, h⟩ := h
        refine s_iald (v0 := (M 79 ((10 * (M 80 l3)) + (M 43 l3)))) C (sh_79 hF11) o14 o15 dX10_tried_112 (up_na (by decide)) ?_
        obtain ⟨o16, h⟩ := h
        refine s_iadd C dX10_tried_113 o16 ?_
        refine s_istore_n (ls' := [(2, 41), (0, l1), (0, (l2 + (M 79 ((10 * (M 80 l3)) + (M 43 l3))))), (0, l3), (0, (M 80 l3))]) C dX10_tried_114 (by decide) rfl rfl ?_
        refine s_aload_n C dX10_tried_115 rfl ?_
        refine gf_X10_131 C (sh_41 hF1) dX10_tried_116 (fx_41_49 hF11) ?_
        refine s_iload C dX10_tried_119 rfl ?_
        refine s_iald (v0 := ((M 82 (M 80 l3)) - (M 78 (2 * (M 80 l3))))) C (sh_82 hF1) o5 o6 dX10_tried_121 (up_eq) ?_
        refine s_ifge C dX10_tried_122 rfl (fun hc => ?_) (fun hc => ?_)
        · have h := h.1 hc
          obtain ⟨o17, h⟩ := h
          refine s_iinc (ls' := [(2, 41), (0, l1), (0, (l2 + (M 79 ((10 * (M 80 l3)) + (M 43 l3))))), (0, (l3 + 1)), (0, (M 80 l3))]) C dX10_tried_129 (by decide) rfl o17 rfl rfl ?_
          refine s_goto C dX10_tried_132 rfl ?_
          exact WA.wk h ⟨Or.inr rfl, Or.inr rfl, Or.inr rfl, Or.inr rfl, Or.inl rfl, trivial⟩
        · have h := h.2 hc
          refine s_ldcw (z := 1000000) C dX10_tried_125 (mG (wd_1191) rfl) ⟨rfl, by decide⟩ ?_
          exact s_ireturn C dX10_tried_128 h
      · have h := h.2 hc
        refine s_iload_n C dX10_tried_64 rfl ?_
        refine s_aload_n C dX10_tried_65 rfl ?_
        refine gf_X10_43 C (sh_41 hF1) dX10_tried_66 (fx_41_13 hF1) ?_
        refine s_iconst C dX10_tried_69 (by decide) ?_
        refine s_iald (v0 := (M 53 3)) C (sh_53 hF1) (by decide) (by decide) dX10_tried_70 rfl ?_
        obtain ⟨o18, h⟩ := h
        refine s_iadd C dX10_tried_71 o18 ?_
        refine s_istore_n (ls' := [(2, 41), (0, l1), (0, (l2 + (M 53 3))), (0, l3), (0, (M 80 l3))]) C dX10_tried_72 (by decide) rfl rfl ?_
        refine s_goto C dX10_tried_73 rfl ?_
        obtain ⟨o19, h⟩ := h
        refine s_iinc (ls' := [(2, 41), (0, l1), (0, (l2 + (M 53 3))), (0, (l3 + 1)), (0, (M 80 l3))]) C dX10_tried_129 (by decide) rfl o19 rfl rfl ?_
        refine s_goto C dX10_tried_132 rfl ?_
        exact WA.wk h ⟨Or.inr rfl, Or.inr rfl, Or.inr rfl, Or.inr rfl, Or.inl rfl, trivial⟩
theorem E_X10_tried {G : GP} {l : Launch} {P : Int → NS → MM → Prop} {l1 : Int} {w : NS} {M : MM} (h : inR l1 → ∀ X : BX, X.2.1 = l → CX_X10_tried G X → A_X10_tried_0 G X P l1 w M) : CT_X10_tried G l [(2, 41), (0, l1)] w M P :=
  CT.of RX10 "tried" (by decide +kernel) rfl rfl rfl (Nat.le_of_ble_eq_true rfl) (fun hr X hX C => h (hr (0, l1) (by simp)) X hX C)
def A_X10_nextReads_0 (G : GP) (X : BX) (P : Int → NS → MM → Prop) (l1 : Int) (w : NS) (M : MM) : Prop := WA true G X (QM G X true 0 P) 3 0 [(2, 41), (0, l1), (3, 0)] [] 0 0 w M
def A_X10_nextReads_7 (G : GP) (X : BX) (P : Int → NS → MM → Prop) (l1 : Int) (l2 : Int) (w : NS) (M : MM) : Prop := WA true G X (QM G X true 0 P) 3 7 [(2, 41), (0, l1), (0, l2)] [] 0 0 w M
set_option maxHeartbeats 4000000 in
set_option maxRecDepth 100000 in
theorem B_X10_nextReads_0 {G : GP} {X : BX} {P : Int → NS → MM → Prop} {l1 : Int} {w : NS} {M : MM} (C : CX_X10_nextReads G X) (h : (inR ((M 41 4) - 1)) ∧ A_X10_nextReads_7 G X P l1 ((M 41 4) - 1) w M) : A_X10_nextReads_0 G X P l1 w M := by
  unfold A_X10_nextReads_0
  refine s_aload_n C dX10_nextReads_0 rfl ?_
  refine WA.fix (fun hF1 => ?_)
  refine gf_X10_143 (v0 := (M 41 4)) C (sh_41 hF1) dX10_nextReads_1 rfl ?_
  refine s_iconst C dX10_nextReads_4 (by decide) ?_
  obtain ⟨o2, h⟩ := h
  refine s_isub C dX10_nextReads_5 o2 ?_
  refine s_istore_n (ls' := [(2, 41), (0, l1), (0, ((M 41 4) - 1))]) C dX10_nextReads_6 (by decide) rfl rfl ?_
  exact h
set_option maxHeartbeats 4000000 in
set_option maxRecDepth 100000 in
theorem B_X10_nextReads_7 {G : GP} {X : BX} {P : Int → NS → MM → Prop} {l1 : Int} {l2 : Int} {w : NS} {M : MM} (C : CX_X10_nextReads G X) (h : (((l2 < 0) → P 0 w M) ∧ ((¬ (l2 < 0)) → ((((zand (zshr l1 l2) 1) ≠ 1) → (inR (l2 + (-1))) ∧ A_X10_nextReads_7 G X P l1 (l2 + (-1)) w M) ∧ ((¬ ((zand (zshr l1 l2) 1) ≠ 1)) → (0 ≤ l2) ∧ (l2 < 8) ∧ (((4 ≤ (M 80 l2)) → (inR (l2 + (-1))) ∧ A_X10_nextReads_7 G X P l1 (l2 + (-1)) w (up M 80 l2 0)) ∧ ((¬ (4 ≤ (M 80 l2))) → (inR ((M 80 l2) + 1)) ∧ P 1 w (up M 80 l2 ((M 80 l2) + 1))))))))) : A_X10_nextReads_7 G X P l1 l2 w M := by
  unfold A_X10_nextReads_7
  refine s_iload_n C dX10_nextReads_7 rfl ?_
  refine s_iflt C dX10_nextReads_8 rfl (fun hc => ?_) (fun hc => ?_)
  · have h := h.1 hc
    refine s_iconst C dX10_nextReads_55 (by decide) ?_
    exact s_zreturn C dX10_nextReads_56 (by decide) h
  · have h := h.2 hc
    refine s_iload_n C dX10_nextReads_11 rfl ?_
    refine s_iload_n C dX10_nextReads_12 rfl ?_
    refine s_ishr C dX10_nextReads_13 ?_
    refine s_iconst C dX10_nextReads_14 (by decide) ?_
    refine s_iand C dX10_nextReads_15 ?_
    refine s_iconst C dX10_nextReads_16 (by decide) ?_
    refine s_icmpne C dX10_nextReads_17 rfl (fun hc => ?_) (fun hc => ?_)
    · have h := h.1 hc
      obtain ⟨o1, h⟩ := h
      refine s_iinc (ls' := [(2, 41), (0, l1), (0, (l2 + (-1)))]) C dX10_nextReads_49 (by decide) rfl o1 rfl rfl ?_
      refine s_goto C dX10_nextReads_52 rfl ?_
      exact h
    · have h := h.2 hc
      refine s_aload_n C dX10_nextReads_20 rfl ?_
      refine WA.fix (fun hF2 => ?_)
      refine gf_X10_125 C (sh_41 hF2) dX10_nextReads_21 (fx_41_47 hF2) ?_
      refine s_iload_n C dX10_nextReads_24 rfl ?_
      obtain ⟨o3, h⟩ := h
      obtain ⟨o4, h⟩ := h
      refine s_iald (v0 := (M 80 l2)) C (sh_80 hF2) o3 o4 dX10_nextReads_25 rfl ?_
      refine s_iconst C dX10_nextReads_26 (by decide) ?_
      refine s_icmpge C dX10_nextReads_27 rfl (fun hc => ?_) (fun hc => ?_)
      · have h := h.1 hc
        refine s_aload_n C dX10_nextReads_42 rfl ?_
        refine gf_X10_125 C (sh_41 hF2) dX10_nextReads_43 (fx_41_47 hF2) ?_
        refine s_iload_n C dX10_nextReads_46 rfl ?_
        refine s_iconst C dX10_nextReads_47 (by decide) ?_
        refine s_iast C (sh_80 hF2) o3 o4 (fun _ => by decide) dX10_nextReads_48 ?_
        obtain ⟨o5, h⟩ := h
        refine s_iinc (ls' := [(2, 41), (0, l1), (0, (l2 + (-1)))]) C dX10_nextReads_49 (by decide) rfl o5 rfl rfl ?_
        refine s_goto C dX10_nextReads_52 rfl ?_
        exact h
      · have h := h.2 hc
        refine s_aload_n C dX10_nextReads_30 rfl ?_
        refine gf_X10_125 C (sh_41 hF2) dX10_nextReads_31 (fx_41_47 hF2) ?_
        refine s_iload_n C dX10_nextReads_34 rfl ?_
        refine s_dup2 C (by simp) (by simp) dX10_nextReads_35 ?_
        refine s_iald (v0 := (M 80 l2)) C (sh_80 hF2) o3 o4 dX10_nextReads_36 rfl ?_
        refine s_iconst C dX10_nextReads_37 (by decide) ?_
        obtain ⟨o6, h⟩ := h
        refine s_iadd C dX10_nextReads_38 o6 ?_
        refine s_iast C (sh_80 hF2) o3 o4 (fun _ => by decide) dX10_nextReads_39 ?_
        refine s_iconst C dX10_nextReads_40 (by decide) ?_
        exact s_zreturn C dX10_nextReads_41 (by decide) h
theorem E_X10_nextReads {G : GP} {l : Launch} {P : Int → NS → MM → Prop} {l1 : Int} {w : NS} {M : MM} (h : inR l1 → ∀ X : BX, X.2.1 = l → CX_X10_nextReads G X → A_X10_nextReads_0 G X P l1 w M) : CT_X10_nextReads G l [(2, 41), (0, l1)] w M P :=
  CT.of RX10 "nextReads" (by decide +kernel) rfl rfl rfl (Nat.le_of_ble_eq_true rfl) (fun hr X hX C => h (hr (0, l1) (by simp)) X hX C)
def A_X10_parted_0 (G : GP) (X : BX) (P : Int → NS → MM → Prop) (l1 : Int) (l2 : Int) (w : NS) (M : MM) : Prop := WA true G X (QM G X true 0 P) 7 0 [(2, 41), (0, l1), (0, l2), (3, 0), (3, 0), (3, 0), (3, 0)] [] 0 0 w M
def A_X10_parted_23 (G : GP) (X : BX) (P : Int → NS → MM → Prop) (l1 : Int) (l2 : Int) (l3 : Int) (w : NS) (M : MM) : Prop := WA true G X (QM G X true 0 P) 7 23 [(2, 41), (0, l1), (0, l2), (0, l3), (3, 0), (3, 0), (3, 0)] [] 0 0 w M
def A_X10_parted_49 (G : GP) (X : BX) (P : Int → NS → MM → Prop) (l1 : Int) (l2 : Int) (l3 : Int) (l4 : Int) (w : NS) (M : MM) : Prop := WA true G X (QM G X true 0 P) 7 49 [(2, 41), (0, l1), (0, l2), (0, l3), (0, l4), (3, 0), (3, 0)] [] 0 0 w M
def A_X10_parted_73 (G : GP) (X : BX) (P : Int → NS → MM → Prop) (l1 : Int) (l2 : Int) (l3 : Int) (l6 : Int) (w : NS) (M : MM) : Prop := WA true G X (QM G X true 0 P) 7 73 [(2, 41), (0, l1), (0, l2), (0, l3), (3, 0), (3, 0), (0, l6)] [] 0 0 w M
set_option maxHeartbeats 4000000 in
set_option maxRecDepth 100000 in
theorem B_X10_parted_0 {G : GP} {X : BX} {P : Int → NS → MM → Prop} {l1 : Int} {l2 : Int} {w : NS} {M : MM} (C : CX_X10_parted G X) (h : (inR ((zshl 1 (M 41 4)) - 1)) ∧ ((((0 ≤ l1 ∧ l1 ≤ ((zshl 1 (M 41 4)) - 1))) → A_X10_parted_23 G X P l1 l2 0 w M) ∧ ((¬ (0 ≤ l1 ∧ l1 ≤ ((zshl 1 (M 41 4)) - 1))) → P (-2) w M))) : A_X10_parted_0 G X P l1 l2 w M := by
  unfold A_X10_parted_0
  refine s_iload_n C dX10_parted_0 rfl ?_
  refine s_i2l C dX10_parted_1 ?_
  refine s_lconst (z := 0) C dX10_parted_2 ⟨rfl, by decide⟩ ?_
  refine s_iconst C dX10_parted_3 (by decide) ?_
  refine s_aload_n C dX10_parted_4 rfl ?_
  refine WA.fix (fun hF1 => ?_)
  refine gf_X10_143 (v0 := (M 41 4)) C (sh_41 hF1) dX10_parted_5 rfl ?_
  refine s_ishl C dX10_parted_8 ?_
  refine s_iconst C dX10_parted_9 (by decide) ?_
  obtain ⟨o2, h⟩ := h
  refine s_isub C dX10_parted_10 o2 ?_
  refine s_i2l C dX10_parted_11 ?_
  refine s_callS (av := [(1, l1), (1, 0), (1, ((zshl 1 (M 41 4)) - 1))]) (rest := []) (mc := 0) (ms := 0) C dX10_parted_12 lk_X10_139 rfl rfl (Nat.le_of_ble_eq_true rfl) (by decide) (by decide) (pc_X10_in) (fun z3 wz3 Mz3 hq => ?_)
  obtain ⟨hq1, hq2, hq3⟩ := hq
  have hq2 := hq2.symm
  have hq3 := hq3.symm
  subst hq1 hq2 hq3
  refine s_ifne C dX10_parted_15 rfl (fun hc => ?_) (fun hc => ?_)
  · have h := h.1 (b2i_n0 hc)
    refine s_iconst C dX10_parted_21 (by decide) ?_
    refine s_istore_n (ls' := [(2, 41), (0, l1), (0, l2), (0, 0), (3, 0), (3, 0), (3, 0)]) C dX10_parted_22 (by decide) rfl rfl ?_
    exact h
  · have h := h.2 (b2i_nn hc)
    refine s_bipush C dX10_parted_18 ⟨rfl, by decide, by decide⟩ ?_
    exact s_ireturn C dX10_parted_20 h
set_option maxHeartbeats 4000000 in
set_option maxRecDepth 100000 in
theorem B_X10_parted_23 {G : GP} {X : BX} {P : Int → NS → MM → Prop} {l1 : Int} {l2 : Int} {l3 : Int} {w : NS} {M : MM} (C : CX_X10_parted G X) (h : (((8 ≤ l3) → A_X10_parted_49 G X P l1 l2 1000000 1 w M) ∧ ((¬ (8 ≤ l3)) → (0 ≤ l3) ∧ (l3 < 8) ∧ (inR (l3 + 1)) ∧ A_X10_parted_23 G X P l1 l2 (l3 + 1) w (up M 80 l3 0)))) : A_X10_parted_23 G X P l1 l2 l3 w M := by
  unfold A_X10_parted_23
  refine s_iload_n C dX10_parted_23 rfl ?_
  refine s_bipush C dX10_parted_24 ⟨rfl, by decide, by decide⟩ ?_
  refine s_icmpge C dX10_parted_26 rfl (fun hc => ?_) (fun hc => ?_)
  · have h := h.1 hc
    refine s_ldcw (z := 1000000) C dX10_parted_42 (mG (wd_1191) rfl) ⟨rfl, by decide⟩ ?_
    refine s_istore_n (ls' := [(2, 41), (0, l1), (0, l2), (0, 1000000), (3, 0), (3, 0), (3, 0)]) C dX10_parted_45 (by decide) rfl rfl ?_
    refine s_iconst C dX10_parted_46 (by decide) ?_
    refine s_istore (ls' := [(2, 41), (0, l1), (0, l2), (0, 1000000), (0, 1), (3, 0), (3, 0)]) C dX10_parted_47 (by decide) rfl rfl ?_
    exact h
  · have h := h.2 hc
    refine s_aload_n C dX10_parted_29 rfl ?_
    refine WA.fix (fun hF1 => ?_)
    refine gf_X10_125 C (sh_41 hF1) dX10_parted_30 (fx_41_47 hF1) ?_
    refine s_iload_n C dX10_parted_33 rfl ?_
    refine s_iconst C dX10_parted_34 (by decide) ?_
    obtain ⟨o2, h⟩ := h
    obtain ⟨o3, h⟩ := h
    refine s_iast C (sh_80 hF1) o2 o3 (fun _ => by decide) dX10_parted_35 ?_
    obtain ⟨o4, h⟩ := h
    refine s_iinc (ls' := [(2, 41), (0, l1), (0, l2), (0, (l3 + 1)), (3, 0), (3, 0), (3, 0)]) C dX10_parted_36 (by decide) rfl o4 rfl rfl ?_
    refine s_goto C dX10_parted_39 rfl ?_
    exact h
set_option maxHeartbeats 4000000 in
set_option maxRecDepth 100000 in
theorem B_X10_parted_49 {G : GP} {X : BX} {P : Int → NS → MM → Prop} {l1 : Int} {l2 : Int} {l3 : Int} {l4 : Int} {w : NS} {M : MM} (C : CX_X10_parted G X) (h : (((l4 = 0) → (((l2 ≠ (-1)) → (0 ≤ M 41 4) ∧ (((¬ (0 ≤ l2 ∧ l2 < M 41 4)) → P (-6) w M) ∧ (((0 ≤ l2 ∧ l2 < M 41 4)) → ((((zand (zshr l1 l2) 1) ≠ 1) → P (-6) w M) ∧ ((¬ ((zand (zshr l1 l2) 1) ≠ 1)) → (0 ≤ l2) ∧ (l2 < 8) ∧ P (M 81 l2) w M))))) ∧ ((¬ (l2 ≠ (-1))) → P l3 w M))) ∧ ((¬ (l4 = 0)) → ∃ Q7 : Int → NS → MM → Prop, CT_X10_tried G X.2.1 [(2, 41), (0, l1)] w M Q7 ∧ ∀ (z7 : Int) (w7 : NS) (M7 : MM), Q7 z7 w7 M7 → (((l3 ≤ z7) → ∃ Q9 : Int → NS → MM → Prop, CT_X10_nextReads G X.2.1 [(2, 41), (0, l1)] w7 M7 Q9 ∧ ∀ (z9 : Int) (w9 : NS) (M9 : MM), Q9 z9 w9 M9 → A_X10_parted_49 G X P l1 l2 l3 z9 w9 M9) ∧ ((¬ (l3 ≤ z7)) → A_X10_parted_73 G X P l1 l2 z7 0 w7 M7))))) : A_X10_parted_49 G X P l1 l2 l3 l4 w M := by
  unfold A_X10_parted_49
  refine s_iload C dX10_parted_49 rfl ?_
  refine s_ifeq C dX10_parted_51 rfl (fun hc => ?_) (fun hc => ?_)
  · have h := h.1 hc
    refine s_iload_n C dX10_parted_110 rfl ?_
    refine s_iconst C dX10_parted_111 (by decide) ?_
    refine s_icmpne C dX10_parted_112 rfl (fun hc => ?_) (fun hc => ?_)
    · have h := h.1 hc
      refine s_aload_n C dX10_parted_117 rfl ?_
      refine s_iload_n C dX10_parted_118 rfl ?_
      refine WA.fix (fun hF1 => ?_)
      obtain ⟨o2, h⟩ := h
      refine s_callV (ci := 10) (av := [(0, l2)]) (rest := []) (mc := 0) (ms := 0) C dX10_parted_119 lk_X10_156 (sh_41 hF1) (by decide) rfl rfl rfl (Nat.le_of_ble_eq_true rfl) (by decide) (by decide) (pc_X10_isPage o2) (fun z3 wz3 Mz3 hq => ?_)
      obtain ⟨hq1, hq2, hq3⟩ := hq
      have hq2 := hq2.symm
      have hq3 := hq3.symm
      subst hq1 hq2 hq3
      refine s_ifeq C dX10_parted_122 rfl (fun hc => ?_) (fun hc => ?_)
      · have h := h.1 (b2i_0.mp hc)
        refine s_bipush C dX10_parted_143 ⟨rfl, by decide, by decide⟩ ?_
        exact s_ireturn C dX10_parted_145 h
      · have h := h.2 (b2i_n0 hc)
        refine s_iload_n C dX10_parted_125 rfl ?_
        refine s_iload_n C dX10_parted_126 rfl ?_
        refine s_ishr C dX10_parted_127 ?_
        refine s_iconst C dX10_parted_128 (by decide) ?_
        refine s_iand C dX10_parted_129 ?_
        refine s_iconst C dX10_parted_130 (by decide) ?_
        refine s_icmpne C dX10_parted_131 rfl (fun hc => ?_) (fun hc => ?_)
        · have h := h.1 hc
          refine s_bipush C dX10_parted_143 ⟨rfl, by decide, by decide⟩ ?_
          exact s_ireturn C dX10_parted_145 h
        · have h := h.2 hc
          refine s_aload_n C dX10_parted_134 rfl ?_
          refine gf_X10_128 C (sh_41 hF1) dX10_parted_135 (fx_41_48 hF1) ?_
          refine s_iload_n C dX10_parted_138 rfl ?_
          obtain ⟨o4, h⟩ := h
          obtain ⟨o5, h⟩ := h
          refine s_iald (v0 := (M 81 l2)) C (sh_81 hF1) o4 o5 dX10_parted_139 rfl ?_
          refine s_goto C dX10_parted_140 rfl ?_
          exact s_ireturn C dX10_parted_145 h
    · have h := h.2 hc
      refine s_iload_n C dX10_parted_115 rfl ?_
      exact s_ireturn C dX10_parted_116 h
  · have h := h.2 hc
    refine s_aload_n C dX10_parted_54 rfl ?_
    refine s_iload_n C dX10_parted_55 rfl ?_
    refine WA.fix (fun hF6 => ?_)
    obtain ⟨Q7, hKQ7, h⟩ := h
    refine s_callV (ci := 10) (av := [(0, l1)]) (rest := []) (mc := 0) (ms := 0) C dX10_parted_56 lk_X10_333 (sh_41 hF6) (by decide) rfl rfl rfl (Nat.le_of_ble_eq_true rfl) (by decide) (by decide) hKQ7 (fun z7 w7 M7 hq => ?_)
    have h := h z7 w7 M7 hq
    refine s_istore (ls' := [(2, 41), (0, l1), (0, l2), (0, l3), (0, l4), (0, z7), (3, 0)]) C dX10_parted_59 (by decide) rfl rfl ?_
    refine s_iload C dX10_parted_61 rfl ?_
    refine s_iload_n C dX10_parted_63 rfl ?_
    refine s_icmpge C dX10_parted_64 rfl (fun hc => ?_) (fun hc => ?_)
    · have h := h.1 hc
      refine s_aload_n C dX10_parted_100 rfl ?_
      refine s_iload_n C dX10_parted_101 rfl ?_
      refine WA.fix (fun hF8 => ?_)
      obtain ⟨Q9, hKQ9, h⟩ := h
      refine s_callV (ci := 10) (av := [(0, l1)]) (rest := []) (mc := 0) (ms := 0) C dX10_parted_102 lk_X10_336 (sh_41 hF8) (by decide) rfl rfl rfl (Nat.le_of_ble_eq_true rfl) (by decide) (by decide) hKQ9 (fun z9 w9 M9 hq => ?_)
      have h := h z9 w9 M9 hq
      refine s_istore (ls' := [(2, 41), (0, l1), (0, l2), (0, l3), (0, z9), (0, z7), (3, 0)]) C dX10_parted_105 (by decide) rfl rfl ?_
      refine s_goto C dX10_parted_107 rfl ?_
      exact WA.wk h ⟨Or.inr rfl, Or.inr rfl, Or.inr rfl, Or.inr rfl, Or.inr rfl, Or.inl rfl, Or.inl rfl, trivial⟩
    · have h := h.2 hc
      refine s_iload C dX10_parted_67 rfl ?_
      refine s_istore_n (ls' := [(2, 41), (0, l1), (0, l2), (0, z7), (0, l4), (0, z7), (3, 0)]) C dX10_parted_69 (by decide) rfl rfl ?_
      refine s_iconst C dX10_parted_70 (by decide) ?_
      refine s_istore (ls' := [(2, 41), (0, l1), (0, l2), (0, z7), (0, l4), (0, z7), (0, 0)]) C dX10_parted_71 (by decide) rfl rfl ?_
      exact WA.wk h ⟨Or.inr rfl, Or.inr rfl, Or.inr rfl, Or.inr rfl, Or.inl rfl, Or.inl rfl, Or.inr rfl, trivial⟩
set_option maxHeartbeats 4000000 in
set_option maxRecDepth 100000 in
theorem B_X10_parted_73 {G : GP} {X : BX} {P : Int → NS → MM → Prop} {l1 : Int} {l2 : Int} {l3 : Int} {l6 : Int} {w : NS} {M : MM} (C : CX_X10_parted G X) (h : (((8 ≤ l6) → ∃ Q2 : Int → NS → MM → Prop, CT_X10_nextReads G X.2.1 [(2, 41), (0, l1)] w M Q2 ∧ ∀ (z2 : Int) (w2 : NS) (M2 : MM), Q2 z2 w2 M2 → A_X10_parted_49 G X P l1 l2 l3 z2 w2 M2) ∧ ((¬ (8 ≤ l6)) → (0 ≤ l6) ∧ (l6 < 8) ∧ (inR (l6 + 1)) ∧ A_X10_parted_73 G X P l1 l2 l3 (l6 + 1) w (up M 81 l6 (M 80 l6))))) : A_X10_parted_73 G X P l1 l2 l3 l6 w M := by
  unfold A_X10_parted_73
  refine s_iload C dX10_parted_73 rfl ?_
  refine s_bipush C dX10_parted_75 ⟨rfl, by decide, by decide⟩ ?_
  refine s_icmpge C dX10_parted_77 rfl (fun hc => ?_) (fun hc => ?_)
  · have h := h.1 hc
    refine s_aload_n C dX10_parted_100 rfl ?_
    refine s_iload_n C dX10_parted_101 rfl ?_
    refine WA.fix (fun hF1 => ?_)
    obtain ⟨Q2, hKQ2, h⟩ := h
    refine s_callV (ci := 10) (av := [(0, l1)]) (rest := []) (mc := 0) (ms := 0) C dX10_parted_102 lk_X10_336 (sh_41 hF1) (by decide) rfl rfl rfl (Nat.le_of_ble_eq_true rfl) (by decide) (by decide) hKQ2 (fun z2 w2 M2 hq => ?_)
    have h := h z2 w2 M2 hq
    refine s_istore (ls' := [(2, 41), (0, l1), (0, l2), (0, l3), (0, z2), (3, 0), (0, l6)]) C dX10_parted_105 (by decide) rfl rfl ?_
    refine s_goto C dX10_parted_107 rfl ?_
    exact WA.wk h ⟨Or.inr rfl, Or.inr rfl, Or.inr rfl, Or.inr rfl, Or.inr rfl, Or.inl rfl, Or.inl rfl, trivial⟩
  · have h := h.2 hc
    refine s_aload_n C dX10_parted_80 rfl ?_
    refine WA.fix (fun hF3 => ?_)
    refine gf_X10_128 C (sh_41 hF3) dX10_parted_81 (fx_41_48 hF3) ?_
    refine s_iload C dX10_parted_84 rfl ?_
    refine s_aload_n C dX10_parted_86 rfl ?_
    refine gf_X10_125 C (sh_41 hF3) dX10_parted_87 (fx_41_47 hF3) ?_
    refine s_iload C dX10_parted_90 rfl ?_
    obtain ⟨o4, h⟩ := h
    obtain ⟨o5, h⟩ := h
    refine s_iald (v0 := (M 80 l6)) C (sh_80 hF3) o4 o5 dX10_parted_92 rfl ?_
    refine s_iast C (sh_81 hF3) o4 o5 (fun _ => by decide) dX10_parted_93 ?_
    obtain ⟨o6, h⟩ := h
    refine s_iinc (ls' := [(2, 41), (0, l1), (0, l2), (0, l3), (3, 0), (3, 0), (0, (l6 + 1))]) C dX10_parted_94 (by decide) rfl o6 rfl rfl ?_
    refine s_goto C dX10_parted_97 rfl ?_
    exact h
theorem E_X10_parted {G : GP} {l : Launch} {P : Int → NS → MM → Prop} {l1 : Int} {l2 : Int} {w : NS} {M : MM} (h : inR l1 → inR l2 → ∀ X : BX, X.2.1 = l → CX_X10_parted G X → A_X10_parted_0 G X P l1 l2 w M) : CT_X10_parted G l [(2, 41), (0, l1), (0, l2)] w M P :=
  CT.of RX10 "parted" (by decide +kernel) rfl rfl rfl (Nat.le_of_ble_eq_true rfl) (fun hr X hX C => h (hr (0, l1) (by simp)) (hr (0, l2) (by simp)) X hX C)
def A_X10_isListed_0 (G : GP) (X : BX) (P : Int → NS → MM → Prop) (l1 : Int) (l2 : Int) (w : NS) (M : MM) : Prop := WA true G X (QM G X true 0 P) 5 0 [(2, 41), (0, l1), (0, l2), (3, 0), (3, 0)] [] 0 0 w M
def A_X10_isListed_21 (G : GP) (X : BX) (P : Int → NS → MM → Prop) (l2 : Int) (l3 : Int) (l4 : Int) (w : NS) (M : MM) : Prop := WA true G X (QM G X true 0 P) 5 21 [(2, 41), (3, 0), (0, l2), (0, l3), (0, l4)] [] 0 0 w M
set_option maxHeartbeats 4000000 in
set_option maxRecDepth 100000 in
theorem B_X10_isListed_0 {G : GP} {X : BX} {P : Int → NS → MM → Prop} {l1 : Int} {l2 : Int} {w : NS} {M : MM} (C : CX_X10_isListed G X) (h : (0 ≤ l2) ∧ (l2 < 24) ∧ (0 ≤ (M 46 l2)) ∧ ((M 46 l2) < 8) ∧ ∃ Q6 : Int → NS → MM → Prop, CT_X10_findList G X.2.1 [(2, 41), (0, l1), (0, (M 44 (M 46 l2)))] w M Q6 ∧ ∀ (z6 : Int) (w6 : NS) (M6 : MM), Q6 z6 w6 M6 → A_X10_isListed_21 G X P l2 0 0 w6 M6) : A_X10_isListed_0 G X P l1 l2 w M := by
  unfold A_X10_isListed_0
  refine s_aload_n C dX10_isListed_0 rfl ?_
  refine s_iload_n C dX10_isListed_1 rfl ?_
  refine s_aload_n C dX10_isListed_2 rfl ?_
  refine WA.fix (fun hF1 => ?_)
  refine gf_X10_16 C (sh_41 hF1) dX10_isListed_3 (fx_41_2 hF1) ?_
  refine s_aload_n C dX10_isListed_6 rfl ?_
  refine gf_X10_22 C (sh_41 hF1) dX10_isListed_7 (fx_41_5 hF1) ?_
  refine s_iload_n C dX10_isListed_10 rfl ?_
  obtain ⟨o2, h⟩ := h
  obtain ⟨o3, h⟩ := h
  refine s_iald (v0 := (M 46 l2)) C (sh_46 hF1) o2 o3 dX10_isListed_11 rfl ?_
  obtain ⟨o4, h⟩ := h
  obtain ⟨o5, h⟩ := h
  refine s_iald (v0 := (M 44 (M 46 l2))) C (sh_44 hF1) o4 o5 dX10_isListed_12 rfl ?_
  obtain ⟨Q6, hKQ6, h⟩ := h
  refine s_callV (ci := 10) (av := [(0, l1), (0, (M 44 (M 46 l2)))]) (rest := []) (mc := 0) (ms := 0) C dX10_isListed_13 lk_X10_289 (sh_41 hF1) (by decide) rfl rfl rfl (Nat.le_of_ble_eq_true rfl) (by decide) (by decide) hKQ6 (fun z6 w6 M6 hq => ?_)
  have h := h z6 w6 M6 hq
  refine s_iconst C dX10_isListed_16 (by decide) ?_
  refine s_istore_n (ls' := [(2, 41), (0, l1), (0, l2), (0, 0), (3, 0)]) C dX10_isListed_17 (by decide) rfl rfl ?_
  refine s_iconst C dX10_isListed_18 (by decide) ?_
  refine s_istore (ls' := [(2, 41), (0, l1), (0, l2), (0, 0), (0, 0)]) C dX10_isListed_19 (by decide) rfl rfl ?_
  exact WA.wk h ⟨Or.inr rfl, Or.inl rfl, Or.inr rfl, Or.inr rfl, Or.inr rfl, trivial⟩
set_option maxHeartbeats 4000000 in
set_option maxRecDepth 100000 in
theorem B_X10_isListed_21 {G : GP} {X : BX} {P : Int → NS → MM → Prop} {l2 : Int} {l3 : Int} {l4 : Int} {w : NS} {M : MM} (C : CX_X10_isListed G X) (h : ((((M 41 36) ≤ l4) → (l3 = 0 ∨ l3 = 1) ∧ P l3 w M) ∧ ((¬ ((M 41 36) ≤ l4)) → (((l3 ≠ 0) → (inR (l4 + 1)) ∧ A_X10_isListed_21 G X P l2 1 (l4 + 1) w M) ∧ ((¬ (l3 ≠ 0)) → (0 ≤ l4) ∧ (l4 < 24) ∧ ((((M 70 l4) ≠ l2) → (inR (l4 + 1)) ∧ A_X10_isListed_21 G X P l2 0 (l4 + 1) w M) ∧ ((¬ ((M 70 l4) ≠ l2)) → (inR (l4 + 1)) ∧ A_X10_isListed_21 G X P l2 1 (l4 + 1) w M))))))) : A_X10_isListed_21 G X P l2 l3 l4 w M := by
  unfold A_X10_isListed_21
  refine s_iload C dX10_isListed_21 rfl ?_
  refine s_aload_n C dX10_isListed_23 rfl ?_
  refine WA.fix (fun hF1 => ?_)
  refine gf_X10_283 (v0 := (M 41 36)) C (sh_41 hF1) dX10_isListed_24 rfl ?_
  refine s_icmpge C dX10_isListed_27 rfl (fun hc => ?_) (fun hc => ?_)
  · have h := h.1 hc
    refine s_iload_n C dX10_isListed_57 rfl ?_
    obtain ⟨o2, h⟩ := h
    exact s_zreturn C dX10_isListed_58 o2 h
  · have h := h.2 hc
    refine s_iload_n C dX10_isListed_30 rfl ?_
    refine s_ifne C dX10_isListed_31 rfl (fun hc => ?_) (fun hc => ?_)
    · have h := h.1 hc
      refine s_iconst C dX10_isListed_45 (by decide) ?_
      refine s_goto C dX10_isListed_46 rfl ?_
      refine s_istore_n (ls' := [(2, 41), (3, 0), (0, l2), (0, 1), (0, l4)]) C dX10_isListed_50 (by decide) rfl rfl ?_
      obtain ⟨o3, h⟩ := h
      refine s_iinc (ls' := [(2, 41), (3, 0), (0, l2), (0, 1), (0, (l4 + 1))]) C dX10_isListed_51 (by decide) rfl o3 rfl rfl ?_
      refine s_goto C dX10_isListed_54 rfl ?_
      exact h
    · have h := h.2 hc
      refine s_aload_n C dX10_isListed_34 rfl ?_
      refine gf_X10_95 C (sh_41 hF1) dX10_isListed_35 (fx_41_35 hF1) ?_
      refine s_iload C dX10_isListed_38 rfl ?_
      obtain ⟨o4, h⟩ := h
      obtain ⟨o5, h⟩ := h
      refine s_iald (v0 := (M 70 l4)) C (sh_70 hF1) o4 o5 dX10_isListed_40 rfl ?_
      refine s_iload_n C dX10_isListed_41 rfl ?_
      refine s_icmpne C dX10_isListed_42 rfl (fun hc => ?_) (fun hc => ?_)
      · have h := h.1 hc
        refine s_iconst C dX10_isListed_49 (by decide) ?_
        refine s_istore_n (ls' := [(2, 41), (3, 0), (0, l2), (0, 0), (0, l4)]) C dX10_isListed_50 (by decide) rfl rfl ?_
        obtain ⟨o6, h⟩ := h
        refine s_iinc (ls' := [(2, 41), (3, 0), (0, l2), (0, 0), (0, (l4 + 1))]) C dX10_isListed_51 (by decide) rfl o6 rfl rfl ?_
        refine s_goto C dX10_isListed_54 rfl ?_
        exact h
      · have h := h.2 hc
        refine s_iconst C dX10_isListed_45 (by decide) ?_
        refine s_goto C dX10_isListed_46 rfl ?_
        refine s_istore_n (ls' := [(2, 41), (3, 0), (0, l2), (0, 1), (0, l4)]) C dX10_isListed_50 (by decide) rfl rfl ?_
        obtain ⟨o7, h⟩ := h
        refine s_iinc (ls' := [(2, 41), (3, 0), (0, l2), (0, 1), (0, (l4 + 1))]) C dX10_isListed_51 (by decide) rfl o7 rfl rfl ?_
        refine s_goto C dX10_isListed_54 rfl ?_
        exact h
theorem E_X10_isListed {G : GP} {l : Launch} {P : Int → NS → MM → Prop} {l1 : Int} {l2 : Int} {w : NS} {M : MM} (h : inR l1 → inR l2 → ∀ X : BX, X.2.1 = l → CX_X10_isListed G X → A_X10_isListed_0 G X P l1 l2 w M) : CT_X10_isListed G l [(2, 41), (0, l1), (0, l2)] w M P :=
  CT.of RX10 "isListed" (by decide +kernel) rfl rfl rfl (Nat.le_of_ble_eq_true rfl) (fun hr X hX C => h (hr (0, l1) (by simp)) (hr (0, l2) (by simp)) X hX C)
def A_X10_send_0 (G : GP) (X : BX) (P : Int → NS → MM → Prop) (l1 : Int) (l2 : Int) (w : NS) (M : MM) : Prop := WA true G X (QM G X true 0 P) 3 0 [(2, 41), (0, l1), (0, l2)] [] 0 0 w M
set_option maxHeartbeats 4000000 in
set_option maxRecDepth 100000 in
theorem B_X10_send_0 {G : GP} {X : BX} {P : Int → NS → MM → Prop} {l1 : Int} {l2 : Int} {w : NS} {M : MM} (C : CX_X10_send G X) (h : (0 ≤ M 41 12) ∧ (((¬ (0 ≤ l1 ∧ l1 < M 41 12)) → P (-1) w M) ∧ (((0 ≤ l1 ∧ l1 < M 41 12)) → (0 ≤ M 41 26) ∧ ((((0 ≤ l2 ∧ l2 < M 41 26)) → ∃ Q6 : Int → NS → MM → Prop, CT_X10_isListed G X.2.1 [(2, 41), (0, l2), (0, l1)] w M Q6 ∧ ∀ (z6 : Int) (w6 : NS) (M6 : MM), Q6 z6 w6 M6 → (((z6 ≠ 0) → (0 ≤ l1) ∧ (l1 < 24) ∧ ((((zand (zshr (M6 52 l1) l2) 1) ≠ 1) → P 1 w6 (up M6 52 l1 (zor (M6 52 l1) (zshl 1 l2)))) ∧ ((¬ ((zand (zshr (M6 52 l1) l2) 1) ≠ 1)) → P (-5) w6 M6))) ∧ ((¬ (z6 ≠ 0)) → P (-3) w6 M6))) ∧ ((¬ (0 ≤ l2 ∧ l2 < M 41 26)) → P (-1) w M))))) : A_X10_send_0 G X P l1 l2 w M := by
  unfold A_X10_send_0
  refine s_aload_n C dX10_send_0 rfl ?_
  refine s_iload_n C dX10_send_1 rfl ?_
  refine WA.fix (fun hF1 => ?_)
  obtain ⟨o2, h⟩ := h
  refine s_callV (ci := 10) (av := [(0, l1)]) (rest := []) (mc := 0) (ms := 0) C dX10_send_2 lk_X10_186 (sh_41 hF1) (by decide) rfl rfl rfl (Nat.le_of_ble_eq_true rfl) (by decide) (by decide) (pc_X10_isPiece o2) (fun z3 wz3 Mz3 hq => ?_)
  obtain ⟨hq1, hq2, hq3⟩ := hq
  have hq2 := hq2.symm
  have hq3 := hq3.symm
  subst hq1 hq2 hq3
  refine s_ifeq C dX10_send_5 rfl (fun hc => ?_) (fun hc => ?_)
  · have h := h.1 (b2i_0.mp hc)
    refine s_iconst C dX10_send_16 (by decide) ?_
    exact s_ireturn C dX10_send_17 h
  · have h := h.2 (b2i_n0 hc)
    refine s_aload_n C dX10_send_8 rfl ?_
    refine s_iload_n C dX10_send_9 rfl ?_
    obtain ⟨o4, h⟩ := h
    refine s_callV (ci := 10) (av := [(0, l2)]) (rest := []) (mc := 0) (ms := 0) C dX10_send_10 lk_X10_252 (sh_41 hF1) (by decide) rfl rfl rfl (Nat.le_of_ble_eq_true rfl) (by decide) (by decide) (pc_X10_isOrder o4) (fun z5 wz5 Mz5 hq => ?_)
    obtain ⟨hq1, hq2, hq3⟩ := hq
    have hq2 := hq2.symm
    have hq3 := hq3.symm
    subst hq1 hq2 hq3
    refine s_ifne C dX10_send_13 rfl (fun hc => ?_) (fun hc => ?_)
    · have h := h.1 (b2i_n0 hc)
      refine s_aload_n C dX10_send_18 rfl ?_
      refine s_iload_n C dX10_send_19 rfl ?_
      refine s_iload_n C dX10_send_20 rfl ?_
      obtain ⟨Q6, hKQ6, h⟩ := h
      refine s_callV (ci := 10) (av := [(0, l2), (0, l1)]) (rest := []) (mc := 0) (ms := 0) C dX10_send_21 lk_X10_339 (sh_41 hF1) (by decide) rfl rfl rfl (Nat.le_of_ble_eq_true rfl) (by decide) (by decide) hKQ6 (fun z6 w6 M6 hq => ?_)
      have h := h z6 w6 M6 hq
      refine s_ifne C dX10_send_24 rfl (fun hc => ?_) (fun hc => ?_)
      · have h := h.1 hc
        refine s_aload_n C dX10_send_30 rfl ?_
        refine WA.fix (fun hF7 => ?_)
        refine gf_X10_40 C (sh_41 hF7) dX10_send_31 (fx_41_11 hF7) ?_
        refine s_iload_n C dX10_send_34 rfl ?_
        obtain ⟨o8, h⟩ := h
        obtain ⟨o9, h⟩ := h
        refine s_iald (v0 := (M6 52 l1)) C (sh_52 hF7) o8 o9 dX10_send_35 rfl ?_
        refine s_iload_n C dX10_send_36 rfl ?_
        refine s_ishr C dX10_send_37 ?_
        refine s_iconst C dX10_send_38 (by decide) ?_
        refine s_iand C dX10_send_39 ?_
        refine s_iconst C dX10_send_40 (by decide) ?_
        refine s_icmpne C dX10_send_41 rfl (fun hc => ?_) (fun hc => ?_)
        · have h := h.1 hc
          refine s_aload_n C dX10_send_47 rfl ?_
          refine gf_X10_40 C (sh_41 hF7) dX10_send_48 (fx_41_11 hF7) ?_
          refine s_iload_n C dX10_send_51 rfl ?_
          refine s_dup2 C (by simp) (by simp) dX10_send_52 ?_
          refine s_iald (v0 := (M6 52 l1)) C (sh_52 hF7) o8 o9 dX10_send_53 rfl ?_
          refine s_iconst C dX10_send_54 (by decide) ?_
          refine s_iload_n C dX10_send_55 rfl ?_
          refine s_ishl C dX10_send_56 ?_
          refine s_ior C dX10_send_57 ?_
          refine s_iast C (sh_52 hF7) o8 o9 (fun _ => by decide) dX10_send_58 ?_
          refine s_iconst C dX10_send_59 (by decide) ?_
          exact s_ireturn C dX10_send_60 h
        · have h := h.2 hc
          refine s_bipush C dX10_send_44 ⟨rfl, by decide, by decide⟩ ?_
          exact s_ireturn C dX10_send_46 h
      · have h := h.2 hc
        refine s_bipush C dX10_send_27 ⟨rfl, by decide, by decide⟩ ?_
        exact s_ireturn C dX10_send_29 h
    · have h := h.2 (b2i_nn hc)
      refine s_iconst C dX10_send_16 (by decide) ?_
      exact s_ireturn C dX10_send_17 h
theorem E_X10_send {G : GP} {l : Launch} {P : Int → NS → MM → Prop} {l1 : Int} {l2 : Int} {w : NS} {M : MM} (h : inR l1 → inR l2 → ∀ X : BX, X.2.1 = l → CX_X10_send G X → A_X10_send_0 G X P l1 l2 w M) : CT_X10_send G l [(2, 41), (0, l1), (0, l2)] w M P :=
  CT.of RX10 "send" (by decide +kernel) rfl rfl rfl (Nat.le_of_ble_eq_true rfl) (fun hr X hX C => h (hr (0, l1) (by simp)) (hr (0, l2) (by simp)) X hX C)
def A_X10_miss_0 (G : GP) (X : BX) (P : Int → NS → MM → Prop) (l1 : Int) (w : NS) (M : MM) : Prop := WA true G X (QM G X true 0 P) 2 0 [(2, 41), (0, l1)] [] 0 0 w M
set_option maxHeartbeats 4000000 in
set_option maxRecDepth 100000 in
theorem B_X10_miss_0 {G : GP} {X : BX} {P : Int → NS → MM → Prop} {l1 : Int} {w : NS} {M : MM} (C : CX_X10_miss G X) (h : ((((0 ≤ l1 ∧ l1 ≤ 5)) → (0 ≤ l1) ∧ (l1 < 6) ∧ (inR ((M 83 l1) + 1)) ∧ P ((M 83 l1) + 1) w (up M 83 l1 ((M 83 l1) + 1))) ∧ ((¬ (0 ≤ l1 ∧ l1 ≤ 5)) → P (-1) w M))) : A_X10_miss_0 G X P l1 w M := by
  unfold A_X10_miss_0
  refine s_iload_n C dX10_miss_0 rfl ?_
  refine s_i2l C dX10_miss_1 ?_
  refine s_lconst (z := 0) C dX10_miss_2 ⟨rfl, by decide⟩ ?_
  refine s_ldc2 (z := 5) C dX10_miss_3 (mG (wd_965) rfl) ⟨rfl, by decide⟩ ?_
  refine s_callS (av := [(1, l1), (1, 0), (1, 5)]) (rest := []) (mc := 0) (ms := 0) C dX10_miss_6 lk_X10_139 rfl rfl (Nat.le_of_ble_eq_true rfl) (by decide) (by decide) (pc_X10_in) (fun z1 wz1 Mz1 hq => ?_)
  obtain ⟨hq1, hq2, hq3⟩ := hq
  have hq2 := hq2.symm
  have hq3 := hq3.symm
  subst hq1 hq2 hq3
  refine s_ifne C dX10_miss_9 rfl (fun hc => ?_) (fun hc => ?_)
  · have h := h.1 (b2i_n0 hc)
    refine s_aload_n C dX10_miss_14 rfl ?_
    refine WA.fix (fun hF2 => ?_)
    refine gf_X10_134 C (sh_41 hF2) dX10_miss_15 (fx_41_50 hF2) ?_
    refine s_iload_n C dX10_miss_18 rfl ?_
    refine s_dup2 C (by simp) (by simp) dX10_miss_19 ?_
    obtain ⟨o3, h⟩ := h
    obtain ⟨o4, h⟩ := h
    refine s_iald (v0 := (M 83 l1)) C (sh_83 hF2) o3 o4 dX10_miss_20 rfl ?_
    refine s_iconst C dX10_miss_21 (by decide) ?_
    obtain ⟨o5, h⟩ := h
    refine s_iadd C dX10_miss_22 o5 ?_
    refine s_iast C (sh_83 hF2) o3 o4 (fun _ => by decide) dX10_miss_23 ?_
    refine s_aload_n C dX10_miss_24 rfl ?_
    refine WA.fix (fun hF6 => ?_)
    refine gf_X10_134 C (sh_41 hF2) dX10_miss_25 (fx_41_50 hF6) ?_
    refine s_iload_n C dX10_miss_28 rfl ?_
    refine s_iald (v0 := ((M 83 l1) + 1)) C (sh_83 hF2) o3 o4 dX10_miss_29 (up_eq) ?_
    exact s_ireturn C dX10_miss_30 h
  · have h := h.2 (b2i_nn hc)
    refine s_iconst C dX10_miss_12 (by decide) ?_
    exact s_ireturn C dX10_miss_13 h
theorem E_X10_miss {G : GP} {l : Launch} {P : Int → NS → MM → Prop} {l1 : Int} {w : NS} {M : MM} (h : inR l1 → ∀ X : BX, X.2.1 = l → CX_X10_miss G X → A_X10_miss_0 G X P l1 w M) : CT_X10_miss G l [(2, 41), (0, l1)] w M P :=
  CT.of RX10 "miss" (by decide +kernel) rfl rfl rfl (Nat.le_of_ble_eq_true rfl) (fun hr X hX C => h (hr (0, l1) (by simp)) X hX C)
def A_X10_sentTo_0 (G : GP) (X : BX) (P : Int → NS → MM → Prop) (l1 : Int) (w : NS) (M : MM) : Prop := WA true G X (QM G X true 0 P) 5 0 [(2, 41), (0, l1), (3, 0), (3, 0), (3, 0)] [] 0 0 w M
def A_X10_sentTo_4 (G : GP) (X : BX) (P : Int → NS → MM → Prop) (l1 : Int) (l2 : Int) (l3 : Int) (w : NS) (M : MM) : Prop := WA true G X (QM G X true 0 P) 5 4 [(2, 41), (0, l1), (0, l2), (0, l3), (3, 0)] [] 0 0 w M
def A_X10_sentTo_15 (G : GP) (X : BX) (P : Int → NS → MM → Prop) (l1 : Int) (l2 : Int) (l3 : Int) (l4 : Int) (w : NS) (M : MM) : Prop := WA true G X (QM G X true 0 P) 5 15 [(2, 41), (0, l1), (0, l2), (0, l3), (0, l4)] [] 0 0 w M
set_option maxHeartbeats 4000000 in
set_option maxRecDepth 100000 in
theorem B_X10_sentTo_0 {G : GP} {X : BX} {P : Int → NS → MM → Prop} {l1 : Int} {w : NS} {M : MM} (C : CX_X10_sentTo G X) (h : A_X10_sentTo_4 G X P l1 0 0 w M) : A_X10_sentTo_0 G X P l1 w M := by
  unfold A_X10_sentTo_0
  refine s_iconst C dX10_sentTo_0 (by decide) ?_
  refine s_istore_n (ls' := [(2, 41), (0, l1), (0, 0), (3, 0), (3, 0)]) C dX10_sentTo_1 (by decide) rfl rfl ?_
  refine s_iconst C dX10_sentTo_2 (by decide) ?_
  refine s_istore_n (ls' := [(2, 41), (0, l1), (0, 0), (0, 0), (3, 0)]) C dX10_sentTo_3 (by decide) rfl rfl ?_
  exact h
set_option maxHeartbeats 4000000 in
set_option maxRecDepth 100000 in
theorem B_X10_sentTo_4 {G : GP} {X : BX} {P : Int → NS → MM → Prop} {l1 : Int} {l2 : Int} {l3 : Int} {w : NS} {M : MM} (C : CX_X10_sentTo G X) (h : ((((M 41 12) ≤ l3) → P l2 w M) ∧ ((¬ ((M 41 12) ≤ l3)) → A_X10_sentTo_15 G X P l1 l2 l3 0 w M))) : A_X10_sentTo_4 G X P l1 l2 l3 w M := by
  unfold A_X10_sentTo_4
  refine s_iload_n C dX10_sentTo_4 rfl ?_
  refine s_aload_n C dX10_sentTo_5 rfl ?_
  refine WA.fix (fun hF1 => ?_)
  refine gf_X10_147 (v0 := (M 41 12)) C (sh_41 hF1) dX10_sentTo_6 rfl ?_
  refine s_icmpge C dX10_sentTo_9 rfl (fun hc => ?_) (fun hc => ?_)
  · have h := h.1 hc
    refine s_iload_n C dX10_sentTo_74 rfl ?_
    exact s_ireturn C dX10_sentTo_75 h
  · have h := h.2 hc
    refine s_iconst C dX10_sentTo_12 (by decide) ?_
    refine s_istore (ls' := [(2, 41), (0, l1), (0, l2), (0, l3), (0, 0)]) C dX10_sentTo_13 (by decide) rfl rfl ?_
    exact h
set_option maxHeartbeats 4000000 in
set_option maxRecDepth 100000 in
theorem B_X10_sentTo_15 {G : GP} {X : BX} {P : Int → NS → MM → Prop} {l1 : Int} {l2 : Int} {l3 : Int} {l4 : Int} {w : NS} {M : MM} (C : CX_X10_sentTo G X) (h : ((((M 41 26) ≤ l4) → (inR (l3 + 1)) ∧ A_X10_sentTo_4 G X P l1 l2 (l3 + 1) w M) ∧ ((¬ ((M 41 26) ≤ l4)) → (0 ≤ l3) ∧ (l3 < 24) ∧ ((((zand (zshr (M 52 l3) l4) 1) ≠ 1) → (inR (l2 + 0)) ∧ (inR (l4 + 1)) ∧ A_X10_sentTo_15 G X P l1 (l2 + 0) l3 (l4 + 1) w M) ∧ ((¬ ((zand (zshr (M 52 l3) l4) 1) ≠ 1)) → (((l1 < 0) → (inR (l2 + 1)) ∧ (inR (l4 + 1)) ∧ A_X10_sentTo_15 G X P l1 (l2 + 1) l3 (l4 + 1) w M) ∧ ((¬ (l1 < 0)) → (0 ≤ l4) ∧ (l4 < 10) ∧ ((((M 58 l4) ≠ l1) → (inR (l2 + 0)) ∧ (inR (l4 + 1)) ∧ A_X10_sentTo_15 G X P l1 (l2 + 0) l3 (l4 + 1) w M) ∧ ((¬ ((M 58 l4) ≠ l1)) → (inR (l2 + 1)) ∧ (inR (l4 + 1)) ∧ A_X10_sentTo_15 G X P l1 (l2 + 1) l3 (l4 + 1) w M))))))))) : A_X10_sentTo_15 G X P l1 l2 l3 l4 w M := by
  unfold A_X10_sentTo_15
  refine s_iload C dX10_sentTo_15 rfl ?_
  refine s_aload_n C dX10_sentTo_17 rfl ?_
  refine WA.fix (fun hF1 => ?_)
  refine gf_X10_220 (v0 := (M 41 26)) C (sh_41 hF1) dX10_sentTo_18 rfl ?_
  refine s_icmpge C dX10_sentTo_21 rfl (fun hc => ?_) (fun hc => ?_)
  · have h := h.1 hc
    obtain ⟨o2, h⟩ := h
    refine s_iinc (ls' := [(2, 41), (0, l1), (0, l2), (0, (l3 + 1)), (0, l4)]) C dX10_sentTo_68 (by decide) rfl o2 rfl rfl ?_
    refine s_goto C dX10_sentTo_71 rfl ?_
    exact WA.wk h ⟨Or.inr rfl, Or.inr rfl, Or.inr rfl, Or.inr rfl, Or.inl rfl, trivial⟩
  · have h := h.2 hc
    refine s_iload_n C dX10_sentTo_24 rfl ?_
    refine s_aload_n C dX10_sentTo_25 rfl ?_
    refine gf_X10_40 C (sh_41 hF1) dX10_sentTo_26 (fx_41_11 hF1) ?_
    refine s_iload_n C dX10_sentTo_29 rfl ?_
    obtain ⟨o3, h⟩ := h
    obtain ⟨o4, h⟩ := h
    refine s_iald (v0 := (M 52 l3)) C (sh_52 hF1) o3 o4 dX10_sentTo_30 rfl ?_
    refine s_iload C dX10_sentTo_31 rfl ?_
    refine s_ishr C dX10_sentTo_33 ?_
    refine s_iconst C dX10_sentTo_34 (by decide) ?_
    refine s_iand C dX10_sentTo_35 ?_
    refine s_iconst C dX10_sentTo_36 (by decide) ?_
    refine s_icmpne C dX10_sentTo_37 rfl (fun hc => ?_) (fun hc => ?_)
    · have h := h.1 hc
      refine s_iconst C dX10_sentTo_59 (by decide) ?_
      obtain ⟨o5, h⟩ := h
      refine s_iadd C dX10_sentTo_60 o5 ?_
      refine s_istore_n (ls' := [(2, 41), (0, l1), (0, (l2 + 0)), (0, l3), (0, l4)]) C dX10_sentTo_61 (by decide) rfl rfl ?_
      obtain ⟨o6, h⟩ := h
      refine s_iinc (ls' := [(2, 41), (0, l1), (0, (l2 + 0)), (0, l3), (0, (l4 + 1))]) C dX10_sentTo_62 (by decide) rfl o6 rfl rfl ?_
      refine s_goto C dX10_sentTo_65 rfl ?_
      exact h
    · have h := h.2 hc
      refine s_iload_n C dX10_sentTo_40 rfl ?_
      refine s_iflt C dX10_sentTo_41 rfl (fun hc => ?_) (fun hc => ?_)
      · have h := h.1 hc
        refine s_iconst C dX10_sentTo_55 (by decide) ?_
        refine s_goto C dX10_sentTo_56 rfl ?_
        obtain ⟨o7, h⟩ := h
        refine s_iadd C dX10_sentTo_60 o7 ?_
        refine s_istore_n (ls' := [(2, 41), (0, l1), (0, (l2 + 1)), (0, l3), (0, l4)]) C dX10_sentTo_61 (by decide) rfl rfl ?_
        obtain ⟨o8, h⟩ := h
        refine s_iinc (ls' := [(2, 41), (0, l1), (0, (l2 + 1)), (0, l3), (0, (l4 + 1))]) C dX10_sentTo_62 (by decide) rfl o8 rfl rfl ?_
        refine s_goto C dX10_sentTo_65 rfl ?_
        exact h
      · have h := h.2 hc
        refine s_aload_n C dX10_sentTo_44 rfl ?_
        refine gf_X10_58 C (sh_41 hF1) dX10_sentTo_45 (fx_41_20 hF1) ?_
        refine s_iload C dX10_sentTo_48 rfl ?_
        obtain ⟨o9, h⟩ := h
        obtain ⟨o10, h⟩ := h
        refine s_iald (v0 := (M 58 l4)) C (sh_58 hF1) o9 o10 dX10_sentTo_50 rfl ?_
        refine s_iload_n C dX10_sentTo_51 rfl ?_
        refine s_icmpne C dX10_sentTo_52 rfl (fun hc => ?_) (fun hc => ?_)
        · have h := h.1 hc
          refine s_iconst C dX10_sentTo_59 (by decide) ?_
          obtain ⟨o11, h⟩ := h
          refine s_iadd C dX10_sentTo_60 o11 ?_
          refine s_istore_n (ls' := [(2, 41), (0, l1), (0, (l2 + 0)), (0, l3), (0, l4)]) C dX10_sentTo_61 (by decide) rfl rfl ?_
          obtain ⟨o12, h⟩ := h
          refine s_iinc (ls' := [(2, 41), (0, l1), (0, (l2 + 0)), (0, l3), (0, (l4 + 1))]) C dX10_sentTo_62 (by decide) rfl o12 rfl rfl ?_
          refine s_goto C dX10_sentTo_65 rfl ?_
          exact h
        · have h := h.2 hc
          refine s_iconst C dX10_sentTo_55 (by decide) ?_
          refine s_goto C dX10_sentTo_56 rfl ?_
          obtain ⟨o13, h⟩ := h
          refine s_iadd C dX10_sentTo_60 o13 ?_
          refine s_istore_n (ls' := [(2, 41), (0, l1), (0, (l2 + 1)), (0, l3), (0, l4)]) C dX10_sentTo_61 (by decide) rfl rfl ?_
          obtain ⟨o14, h⟩ := h
          refine s_iinc (ls' := [(2, 41), (0, l1), (0, (l2 + 1)), (0, l3), (0, (l4 + 1))]) C dX10_sentTo_62 (by decide) rfl o14 rfl rfl ?_
          refine s_goto C dX10_sentTo_65 rfl ?_
          exact h
theorem E_X10_sentTo {G : GP} {l : Launch} {P : Int → NS → MM → Prop} {l1 : Int} {w : NS} {M : MM} (h : inR l1 → ∀ X : BX, X.2.1 = l → CX_X10_sentTo G X → A_X10_sentTo_0 G X P l1 w M) : CT_X10_sentTo G l [(2, 41), (0, l1)] w M P :=
  CT.of RX10 "sentTo" (by decide +kernel) rfl rfl rfl (Nat.le_of_ble_eq_true rfl) (fun hr X hX C => h (hr (0, l1) (by simp)) X hX C)
def A_X10_bill_0 (G : GP) (X : BX) (P : Int → NS → MM → Prop) (l1 : Int) (l2 : Int) (w : NS) (M : MM) : Prop := WA true G X (QM G X true 0 P) 8 0 [(2, 41), (0, l1), (0, l2), (3, 0), (3, 0), (3, 0), (3, 0), (3, 0)] [] 0 0 w M
set_option maxHeartbeats 4000000 in
set_option maxRecDepth 100000 in
theorem B_X10_bill_0 {G : GP} {X : BX} {P : Int → NS → MM → Prop} {l1 : Int} {l2 : Int} {w : NS} {M : MM} (C : CX_X10_bill G X) (h : ((((0 ≤ l1 ∧ l1 ≤ 5)) → ((((0 ≤ l2 ∧ l2 ≤ 1)) → ∃ Q4 : Int → NS → MM → Prop, CT_X10_sentTo G X.2.1 [(2, 41), (0, l1)] w M Q4 ∧ ∀ (z4 : Int) (w4 : NS) (M4 : MM), Q4 z4 w4 M4 → (((l2 ≠ 1) → ((((M4 53 4) ≤ z4) → (inR (z4 - (M4 53 4))) ∧ ((((M4 53 4) ≤ (z4 - (M4 53 4))) → (inR ((M4 53 4) * (M4 53 5))) ∧ (inR ((M4 53 4) * (M4 53 6))) ∧ (inR (((M4 53 4) * (M4 53 5)) + ((M4 53 4) * (M4 53 6)))) ∧ (inR ((z4 - (M4 53 4)) - (M4 53 4))) ∧ (inR (((z4 - (M4 53 4)) - (M4 53 4)) * (M4 53 7))) ∧ (inR ((((M4 53 4) * (M4 53 5)) + ((M4 53 4) * (M4 53 6))) + (((z4 - (M4 53 4)) - (M4 53 4)) * (M4 53 7)))) ∧ (0 ≤ l1) ∧ (l1 < 6) ∧ (inR ((M4 83 l1) * (M4 53 8))) ∧ (inR (((((M4 53 4) * (M4 53 5)) + ((M4 53 4) * (M4 53 6))) + (((z4 - (M4 53 4)) - (M4 53 4)) * (M4 53 7))) - ((M4 83 l1) * (M4 53 8)))) ∧ (((0 ≤ (((((M4 53 4) * (M4 53 5)) + ((M4 53 4) * (M4 53 6))) + (((z4 - (M4 53 4)) - (M4 53 4)) * (M4 53 7))) - ((M4 83 l1) * (M4 53 8)))) → P (((((M4 53 4) * (M4 53 5)) + ((M4 53 4) * (M4 53 6))) + (((z4 - (M4 53 4)) - (M4 53 4)) * (M4 53 7))) - ((M4 83 l1) * (M4 53 8))) w4 M4) ∧ ((¬ (0 ≤ (((((M4 53 4) * (M4 53 5)) + ((M4 53 4) * (M4 53 6))) + (((z4 - (M4 53 4)) - (M4 53 4)) * (M4 53 7))) - ((M4 83 l1) * (M4 53 8))))) → P 0 w4 M4))) ∧ ((¬ ((M4 53 4) ≤ (z4 - (M4 53 4)))) → (inR ((M4 53 4) * (M4 53 5))) ∧ (inR ((z4 - (M4 53 4)) * (M4 53 6))) ∧ (inR (((M4 53 4) * (M4 53 5)) + ((z4 - (M4 53 4)) * (M4 53 6)))) ∧ (inR ((z4 - (M4 53 4)) - (z4 - (M4 53 4)))) ∧ (inR (((z4 - (M4 53 4)) - (z4 - (M4 53 4))) * (M4 53 7))) ∧ (inR ((((M4 53 4) * (M4 53 5)) + ((z4 - (M4 53 4)) * (M4 53 6))) + (((z4 - (M4 53 4)) - (z4 - (M4 53 4))) * (M4 53 7)))) ∧ (0 ≤ l1) ∧ (l1 < 6) ∧ (inR ((M4 83 l1) * (M4 53 8))) ∧ (inR (((((M4 53 4) * (M4 53 5)) + ((z4 - (M4 53 4)) * (M4 53 6))) + (((z4 - (M4 53 4)) - (z4 - (M4 53 4))) * (M4 53 7))) - ((M4 83 l1) * (M4 53 8)))) ∧ (((0 ≤ (((((M4 53 4) * (M4 53 5)) + ((z4 - (M4 53 4)) * (M4 53 6))) + (((z4 - (M4 53 4)) - (z4 - (M4 53 4))) * (M4 53 7))) - ((M4 83 l1) * (M4 53 8)))) → P (((((M4 53 4) * (M4 53 5)) + ((z4 - (M4 53 4)) * (M4 53 6))) + (((z4 - (M4 53 4)) - (z4 - (M4 53 4))) * (M4 53 7))) - ((M4 83 l1) * (M4 53 8))) w4 M4) ∧ ((¬ (0 ≤ (((((M4 53 4) * (M4 53 5)) + ((z4 - (M4 53 4)) * (M4 53 6))) + (((z4 - (M4 53 4)) - (z4 - (M4 53 4))) * (M4 53 7))) - ((M4 83 l1) * (M4 53 8))))) → P 0 w4 M4))))) ∧ ((¬ ((M4 53 4) ≤ z4)) → (inR (z4 - z4)) ∧ ((((M4 53 4) ≤ (z4 - z4)) → (inR (z4 * (M4 53 5))) ∧ (inR ((M4 53 4) * (M4 53 6))) ∧ (inR ((z4 * (M4 53 5)) + ((M4 53 4) * (M4 53 6)))) ∧ (inR ((z4 - z4) - (M4 53 4))) ∧ (inR (((z4 - z4) - (M4 53 4)) * (M4 53 7))) ∧ (inR (((z4 * (M4 53 5)) + ((M4 53 4) * (M4 53 6))) + (((z4 - z4) - (M4 53 4)) * (M4 53 7)))) ∧ (0 ≤ l1) ∧ (l1 < 6) ∧ (inR ((M4 83 l1) * (M4 53 8))) ∧ (inR ((((z4 * (M4 53 5)) + ((M4 53 4) * (M4 53 6))) + (((z4 - z4) - (M4 53 4)) * (M4 53 7))) - ((M4 83 l1) * (M4 53 8)))) ∧ (((0 ≤ ((((z4 * (M4 53 5)) + ((M4 53 4) * (M4 53 6))) + (((z4 - z4) - (M4 53 4)) * (M4 53 7))) - ((M4 83 l1) * (M4 53 8)))) → P ((((z4 * (M4 53 5)) + ((M4 53 4) * (M4 53 6))) + (((z4 - z4) - (M4 53 4)) * (M4 53 7))) - ((M4 83 l1) * (M4 53 8))) w4 M4) ∧ ((¬ (0 ≤ ((((z4 * (M4 53 5)) + ((M4 53 4) * (M4 53 6))) + (((z4 - z4) - (M4 53 4)) * (M4 53 7))) - ((M4 83 l1) * (M4 53 8))))) → P 0 w4 M4))) ∧ ((¬ ((M4 53 4) ≤ (z4 - z4))) → (inR (z4 * (M4 53 5))) ∧ (inR ((z4 - z4) * (M4 53 6))) ∧ (inR ((z4 * (M4 53 5)) + ((z4 - z4) * (M4 53 6)))) ∧ (inR ((z4 - z4) - (z4 - z4))) ∧ (inR (((z4 - z4) - (z4 - z4)) * (M4 53 7))) ∧ (inR (((z4 * (M4 53 5)) + ((z4 - z4) * (M4 53 6))) + (((z4 - z4) - (z4 - z4)) * (M4 53 7)))) ∧ (0 ≤ l1) ∧ (l1 < 6) ∧ (inR ((M4 83 l1) * (M4 53 8))) ∧ (inR ((((z4 * (M4 53 5)) + ((z4 - z4) * (M4 53 6))) + (((z4 - z4) - (z4 - z4)) * (M4 53 7))) - ((M4 83 l1) * (M4 53 8)))) ∧ (((0 ≤ ((((z4 * (M4 53 5)) + ((z4 - z4) * (M4 53 6))) + (((z4 - z4) - (z4 - z4)) * (M4 53 7))) - ((M4 83 l1) * (M4 53 8)))) → P ((((z4 * (M4 53 5)) + ((z4 - z4) * (M4 53 6))) + (((z4 - z4) - (z4 - z4)) * (M4 53 7))) - ((M4 83 l1) * (M4 53 8))) w4 M4) ∧ ((¬ (0 ≤ ((((z4 * (M4 53 5)) + ((z4 - z4) * (M4 53 6))) + (((z4 - z4) - (z4 - z4)) * (M4 53 7))) - ((M4 83 l1) * (M4 53 8))))) → P 0 w4 M4))))))) ∧ ((¬ (l2 ≠ 1)) → P z4 w4 M4))) ∧ ((¬ (0 ≤ l2 ∧ l2 ≤ 1)) → P (-2) w M))) ∧ ((¬ (0 ≤ l1 ∧ l1 ≤ 5)) → P (-1) w M))) : A_X10_bill_0 G X P l1 l2 w M := by
  unfold A_X10_bill_0
  refine s_iload_n C dX10_bill_0 rfl ?_
  refine s_i2l C dX10_bill_1 ?_
  refine s_lconst (z := 0) C dX10_bill_2 ⟨rfl, by decide⟩ ?_
  refine s_ldc2 (z := 5) C dX10_bill_3 (mG (wd_965) rfl) ⟨rfl, by decide⟩ ?_
  refine s_callS (av := [(1, l1), (1, 0), (1, 5)]) (rest := []) (mc := 0) (ms := 0) C dX10_bill_6 lk_X10_139 rfl rfl (Nat.le_of_ble_eq_true rfl) (by decide) (by decide) (pc_X10_in) (fun z1 wz1 Mz1 hq => ?_)
  obtain ⟨hq1, hq2, hq3⟩ := hq
  have hq2 := hq2.symm
  have hq3 := hq3.symm
  subst hq1 hq2 hq3
  refine s_ifne C dX10_bill_9 rfl (fun hc => ?_) (fun hc => ?_)
  · have h := h.1 (b2i_n0 hc)
    refine s_iload_n C dX10_bill_14 rfl ?_
    refine s_i2l C dX10_bill_15 ?_
    refine s_lconst (z := 0) C dX10_bill_16 ⟨rfl, by decide⟩ ?_
    refine s_lconst (z := 1) C dX10_bill_17 ⟨rfl, by decide⟩ ?_
    refine s_callS (av := [(1, l2), (1, 0), (1, 1)]) (rest := []) (mc := 0) (ms := 0) C dX10_bill_18 lk_X10_139 rfl rfl (Nat.le_of_ble_eq_true rfl) (by decide) (by decide) (pc_X10_in) (fun z2 wz2 Mz2 hq => ?_)
    obtain ⟨hq1, hq2, hq3⟩ := hq
    have hq2 := hq2.symm
    have hq3 := hq3.symm
    subst hq1 hq2 hq3
    refine s_ifne C dX10_bill_21 rfl (fun hc => ?_) (fun hc => ?_)
    · have h := h.1 (b2i_n0 hc)
      refine s_aload_n C dX10_bill_27 rfl ?_
      refine s_iload_n C dX10_bill_28 rfl ?_
      refine WA.fix (fun hF3 => ?_)
      obtain ⟨Q4, hKQ4, h⟩ := h
      refine s_callV (ci := 10) (av := [(0, l1)]) (rest := []) (mc := 0) (ms := 0) C dX10_bill_29 lk_X10_342 (sh_41 hF3) (by decide) rfl rfl rfl (Nat.le_of_ble_eq_true rfl) (by decide) (by decide) hKQ4 (fun z4 w4 M4 hq => ?_)
      have h := h z4 w4 M4 hq
      refine s_istore_n (ls' := [(2, 41), (0, l1), (0, l2), (0, z4), (3, 0), (3, 0), (3, 0), (3, 0)]) C dX10_bill_32 (by decide) rfl rfl ?_
      refine s_iload_n C dX10_bill_33 rfl ?_
      refine s_iconst C dX10_bill_34 (by decide) ?_
      refine s_icmpne C dX10_bill_35 rfl (fun hc => ?_) (fun hc => ?_)
      · have h := h.1 hc
        refine s_aload_n C dX10_bill_40 rfl ?_
        refine WA.fix (fun hF5 => ?_)
        refine gf_X10_43 C (sh_41 hF5) dX10_bill_41 (fx_41_13 hF5) ?_
        refine s_iconst C dX10_bill_44 (by decide) ?_
        refine s_iald (v0 := (M4 53 4)) C (sh_53 hF5) (by decide) (by decide) dX10_bill_45 rfl ?_
        refine s_istore (ls' := [(2, 41), (0, l1), (0, l2), (0, z4), (0, (M4 53 4)), (3, 0), (3, 0), (3, 0)]) C dX10_bill_46 (by decide) rfl rfl ?_
        refine s_iload_n C dX10_bill_48 rfl ?_
        refine s_iload C dX10_bill_49 rfl ?_
        refine s_icmpge C dX10_bill_51 rfl (fun hc => ?_) (fun hc => ?_)
        · have h := h.1 hc
          refine s_iload C dX10_bill_58 rfl ?_
          refine s_istore (ls' := [(2, 41), (0, l1), (0, l2), (0, z4), (0, (M4 53 4)), (0, (M4 53 4)), (3, 0), (3, 0)]) C dX10_bill_60 (by decide) rfl rfl ?_
          refine s_iload_n C dX10_bill_62 rfl ?_
          refine s_iload C dX10_bill_63 rfl ?_
          obtain ⟨o6, h⟩ := h
          refine s_isub C dX10_bill_65 o6 ?_
          refine s_iload C dX10_bill_66 rfl ?_
          refine s_icmpge C dX10_bill_68 rfl (fun hc => ?_) (fun hc => ?_)
          · have h := h.1 hc
            refine s_iload C dX10_bill_78 rfl ?_
            refine s_istore (ls' := [(2, 41), (0, l1), (0, l2), (0, z4), (0, (M4 53 4)), (0, (M4 53 4)), (0, (M4 53 4)), (3, 0)]) C dX10_bill_80 (by decide) rfl rfl ?_
            refine s_iload C dX10_bill_82 rfl ?_
            refine s_aload_n C dX10_bill_84 rfl ?_
            refine gf_X10_43 C (sh_41 hF5) dX10_bill_85 (fx_41_13 hF5) ?_
            refine s_iconst C dX10_bill_88 (by decide) ?_
            refine s_iald (v0 := (M4 53 5)) C (sh_53 hF5) (by decide) (by decide) dX10_bill_89 rfl ?_
            obtain ⟨o7, h⟩ := h
            refine s_imul C dX10_bill_90 o7 ?_
            refine s_iload C dX10_bill_91 rfl ?_
            refine s_aload_n C dX10_bill_93 rfl ?_
            refine gf_X10_43 C (sh_41 hF5) dX10_bill_94 (fx_41_13 hF5) ?_
            refine s_bipush C dX10_bill_97 ⟨rfl, by decide, by decide⟩ ?_
            refine s_iald (v0 := (M4 53 6)) C (sh_53 hF5) (by decide) (by decide) dX10_bill_99 rfl ?_
            obtain ⟨o8, h⟩ := h
            refine s_imul C dX10_bill_100 o8 ?_
            obtain ⟨o9, h⟩ := h
            refine s_iadd C dX10_bill_101 o9 ?_
            refine s_iload_n C dX10_bill_102 rfl ?_
            refine s_iload C dX10_bill_103 rfl ?_
            refine s_isub C dX10_bill_105 o6 ?_
            refine s_iload C dX10_bill_106 rfl ?_
            obtain ⟨o10, h⟩ := h
            refine s_isub C dX10_bill_108 o10 ?_
            refine s_aload_n C dX10_bill_109 rfl ?_
            refine gf_X10_43 C (sh_41 hF5) dX10_bill_110 (fx_41_13 hF5) ?_
            refine s_bipush C dX10_bill_113 ⟨rfl, by decide, by decide⟩ ?_
            refine s_iald (v0 := (M4 53 7)) C (sh_53 hF5) (by decide) (by decide) dX10_bill_115 rfl ?_
            obtain ⟨o11, h⟩ := h
            refine s_imul C dX10_bill_116 o11 ?_
            obtain ⟨o12, h⟩ := h
            refine s_iadd C dX10_bill_117 o12 ?_
            refine s_aload_n C dX10_bill_118 rfl ?_
            refine gf_X10_134 C (sh_41 hF5) dX10_bill_119 (fx_41_50 hF5) ?_
            refine s_iload_n C dX10_bill_122 rfl ?_
            obtain ⟨o13, h⟩ := h
            obtain ⟨o14, h⟩ := h
            refine s_iald (v0 := (M4 83 l1)) C (sh_83 hF5) o13 o14 dX10_bill_123 rfl ?_
            refine s_aload_n C dX10_bill_124 rfl ?_
            refine gf_X10_43 C (sh_41 hF5) dX10_bill_125 (fx_41_13 hF5) ?_
            refine s_bipush C dX10_bill_128 ⟨rfl, by decide, by decide⟩ ?_
            refine s_iald (v0 := (M4 53 8)) C (sh_53 hF5) (by decide) (by decide) dX10_bill_130 rfl ?_
            obtain ⟨o15, h⟩ := h
            refine s_imul C dX10_bill_131 o15 ?_
            obtain ⟨o16, h⟩ := h
            refine s_isub C dX10_bill_132 o16 ?_
            refine s_istore (ls' := [(2, 41), (0, l1), (0, l2), (0, z4), (0, (M4 53 4)), (0, (M4 53 4)), (0, (M4 53 4)), (0, (((((M4 53 4) * (M4 53 5)) + ((M4 53 4) * (M4 53 6))) + (((z4 - (M4 53 4)) - (M4 53 4)) * (M4 53 7))) - ((M4 83 l1) * (M4 53 8))))]) C dX10_bill_133 (by decide) rfl rfl ?_
            refine s_iload C dX10_bill_135 rfl ?_
            refine s_ifge C dX10_bill_137 rfl (fun hc => ?_) (fun hc => ?_)
            · have h := h.1 hc
              refine s_iload C dX10_bill_144 rfl ?_
              exact s_ireturn C dX10_bill_146 h
            · have h := h.2 hc
              refine s_iconst C dX10_bill_140 (by decide) ?_
              refine s_goto C dX10_bill_141 rfl ?_
              exact s_ireturn C dX10_bill_146 h
          · have h := h.2 hc
            refine s_iload_n C dX10_bill_71 rfl ?_
            refine s_iload C dX10_bill_72 rfl ?_
            refine s_isub C dX10_bill_74 o6 ?_
            refine s_goto C dX10_bill_75 rfl ?_
            refine s_istore (ls' := [(2, 41), (0, l1), (0, l2), (0, z4), (0, (M4 53 4)), (0, (M4 53 4)), (0, (z4 - (M4 53 4))), (3, 0)]) C dX10_bill_80 (by decide) rfl rfl ?_
            refine s_iload C dX10_bill_82 rfl ?_
            refine s_aload_n C dX10_bill_84 rfl ?_
            refine gf_X10_43 C (sh_41 hF5) dX10_bill_85 (fx_41_13 hF5) ?_
            refine s_iconst C dX10_bill_88 (by decide) ?_
            refine s_iald (v0 := (M4 53 5)) C (sh_53 hF5) (by decide) (by decide) dX10_bill_89 rfl ?_
            obtain ⟨o17, h⟩ := h
            refine s_imul C dX10_bill_90 o17 ?_
            refine s_iload C dX10_bill_91 rfl ?_
            refine s_aload_n C dX10_bill_93 rfl ?_
            refine gf_X10_43 C (sh_41 hF5) dX10_bill_94 (fx_41_13 hF5) ?_
            refine s_bipush C dX10_bill_97 ⟨rfl, by decide, by decide⟩ ?_
            refine s_iald (v0 := (M4 53 6)) C (sh_53 hF5) (by decide) (by decide) dX10_bill_99 rfl ?_
            obtain ⟨o18, h⟩ := h
            refine s_imul C dX10_bill_100 o18 ?_
            obtain ⟨o19, h⟩ := h
            refine s_iadd C dX10_bill_101 o19 ?_
            refine s_iload_n C dX10_bill_102 rfl ?_
            refine s_iload C dX10_bill_103 rfl ?_
            refine s_isub C dX10_bill_105 o6 ?_
            refine s_iload C dX10_bill_106 rfl ?_
            obtain ⟨o20, h⟩ := h
            refine s_isub C dX10_bill_108 o20 ?_
            refine s_aload_n C dX10_bill_109 rfl ?_
            refine gf_X10_43 C (sh_41 hF5) dX10_bill_110 (fx_41_13 hF5) ?_
            refine s_bipush C dX10_bill_113 ⟨rfl, by decide, by decide⟩ ?_
            refine s_iald (v0 := (M4 53 7)) C (sh_53 hF5) (by decide) (by decide) dX10_bill_115 rfl ?_
            obtain ⟨o21, h⟩ := h
            refine s_imul C dX10_bill_116 o21 ?_
            obtain ⟨o22, h⟩ := h
            refine s_iadd C dX10_bill_117 o22 ?_
            refine s_aload_n C dX10_bill_118 rfl ?_
            refine gf_X10_134 C (sh_41 hF5) dX10_bill_119 (fx_41_50 hF5) ?_
            refine s_iload_n C dX10_bill_122 rfl ?_
            obtain ⟨o23, h⟩ := h
            obtain ⟨o24, h⟩ := h
            refine s_iald (v0 := (M4 83 l1)) C (sh_83 hF5) o23 o24 dX10_bill_123 rfl ?_
            refine s_aload_n C dX10_bill_124 rfl ?_
            refine gf_X10_43 C (sh_41 hF5) dX10_bill_125 (fx_41_13 hF5) ?_
            refine s_bipush C dX10_bill_128 ⟨rfl, by decide, by decide⟩ ?_
            refine s_iald (v0 := (M4 53 8)) C (sh_53 hF5) (by decide) (by decide) dX10_bill_130 rfl ?_
            obtain ⟨o25, h⟩ := h
            refine s_imul C dX10_bill_131 o25 ?_
            obtain ⟨o26, h⟩ := h
            refine s_isub C dX10_bill_132 o26 ?_
            refine s_istore (ls' := [(2, 41), (0, l1), (0, l2), (0, z4), (0, (M4 53 4)), (0, (M4 53 4)), (0, (z4 - (M4 53 4))), (0, (((((M4 53 4) * (M4 53 5)) + ((z4 - (M4 53 4)) * (M4 53 6))) + (((z4 - (M4 53 4)) - (z4 - (M4 53 4))) * (M4 53 7))) - ((M4 83 l1) * (M4 53 8))))]) C dX10_bill_133 (by decide) rfl rfl ?_
            refine s_iload C dX10_bill_135 rfl ?_
            refine s_ifge C dX10_bill_137 rfl (fun hc => ?_) (fun hc => ?_)
            · have h := h.1 hc
              refine s_iload C dX10_bill_144 rfl ?_
              exact s_ireturn C dX10_bill_146 h
            · have h := h.2 hc
              refine s_iconst C dX10_bill_140 (by decide) ?_
              refine s_goto C dX10_bill_141 rfl ?_
              exact s_ireturn C dX10_bill_146 h
        · have h := h.2 hc
          refine s_iload_n C dX10_bill_54 rfl ?_
          refine s_goto C dX10_bill_55 rfl ?_
          refine s_istore (ls' := [(2, 41), (0, l1), (0, l2), (0, z4), (0, (M4 53 4)), (0, z4), (3, 0), (3, 0)]) C dX10_bill_60 (by decide) rfl rfl ?_
          refine s_iload_n C dX10_bill_62 rfl ?_
          refine s_iload C dX10_bill_63 rfl ?_
          obtain ⟨o27, h⟩ := h
          refine s_isub C dX10_bill_65 o27 ?_
          refine s_iload C dX10_bill_66 rfl ?_
          refine s_icmpge C dX10_bill_68 rfl (fun hc => ?_) (fun hc => ?_)
          · have h := h.1 hc
            refine s_iload C dX10_bill_78 rfl ?_
            refine s_istore (ls' := [(2, 41), (0, l1), (0, l2), (0, z4), (0, (M4 53 4)), (0, z4), (0, (M4 53 4)), (3, 0)]) C dX10_bill_80 (by decide) rfl rfl ?_
            refine s_iload C dX10_bill_82 rfl ?_
            refine s_aload_n C dX10_bill_84 rfl ?_
            refine gf_X10_43 C (sh_41 hF5) dX10_bill_85 (fx_41_13 hF5) ?_
            refine s_iconst C dX10_bill_88 (by decide) ?_
            refine s_iald (v0 := (M4 53 5)) C (sh_53 hF5) (by decide) (by decide) dX10_bill_89 rfl ?_
            obtain ⟨o28, h⟩ := h
            refine s_imul C dX10_bill_90 o28 ?_
            refine s_iload C dX10_bill_91 rfl ?_
            refine s_aload_n C dX10_bill_93 rfl ?_
            refine gf_X10_43 C (sh_41 hF5) dX10_bill_94 (fx_41_13 hF5) ?_
            refine s_bipush C dX10_bill_97 ⟨rfl, by decide, by decide⟩ ?_
            refine s_iald (v0 := (M4 53 6)) C (sh_53 hF5) (by decide) (by decide) dX10_bill_99 rfl ?_
            obtain ⟨o29, h⟩ := h
            refine s_imul C dX10_bill_100 o29 ?_
            obtain ⟨o30, h⟩ := h
            refine s_iadd C dX10_bill_101 o30 ?_
            refine s_iload_n C dX10_bill_102 rfl ?_
            refine s_iload C dX10_bill_103 rfl ?_
            refine s_isub C dX10_bill_105 o27 ?_
            refine s_iload C dX10_bill_106 rfl ?_
            obtain ⟨o31, h⟩ := h
            refine s_isub C dX10_bill_108 o31 ?_
            refine s_aload_n C dX10_bill_109 rfl ?_
            refine gf_X10_43 C (sh_41 hF5) dX10_bill_110 (fx_41_13 hF5) ?_
            refine s_bipush C dX10_bill_113 ⟨rfl, by decide, by decide⟩ ?_
            refine s_iald (v0 := (M4 53 7)) C (sh_53 hF5) (by decide) (by decide) dX10_bill_115 rfl ?_
            obtain ⟨o32, h⟩ := h
            refine s_imul C dX10_bill_116 o32 ?_
            obtain ⟨o33, h⟩ := h
            refine s_iadd C dX10_bill_117 o33 ?_
            refine s_aload_n C dX10_bill_118 rfl ?_
            refine gf_X10_134 C (sh_41 hF5) dX10_bill_119 (fx_41_50 hF5) ?_
            refine s_iload_n C dX10_bill_122 rfl ?_
            obtain ⟨o34, h⟩ := h
            obtain ⟨o35, h⟩ := h
            refine s_iald (v0 := (M4 83 l1)) C (sh_83 hF5) o34 o35 dX10_bill_123 rfl ?_
            refine s_aload_n C dX10_bill_124 rfl ?_
            refine gf_X10_43 C (sh_41 hF5) dX10_bill_125 (fx_41_13 hF5) ?_
            refine s_bipush C dX10_bill_128 ⟨rfl, by decide, by decide⟩ ?_
            refine s_iald (v0 := (M4 53 8)) C (sh_53 hF5) (by decide) (by decide) dX10_bill_130 rfl ?_
            obtain ⟨o36, h⟩ := h
            refine s_imul C dX10_bill_131 o36 ?_
            obtain ⟨o37, h⟩ := h
            refine s_isub C dX10_bill_132 o37 ?_
            refine s_istore (ls' := [(2, 41), (0, l1), (0, l2), (0, z4), (0, (M4 53 4)), (0, z4), (0, (M4 53 4)), (0, ((((z4 * (M4 53 5)) + ((M4 53 4) * (M4 53 6))) + (((z4 - z4) - (M4 53 4)) * (M4 53 7))) - ((M4 83 l1) * (M4 53 8))))]) C dX10_bill_133 (by decide) rfl rfl ?_
            refine s_iload C dX10_bill_135 rfl ?_
            refine s_ifge C dX10_bill_137 rfl (fun hc => ?_) (fun hc => ?_)
            · have h := h.1 hc
              refine s_iload C dX10_bill_144 rfl ?_
              exact s_ireturn C dX10_bill_146 h
            · have h := h.2 hc
              refine s_iconst C dX10_bill_140 (by decide) ?_
              refine s_goto C dX10_bill_141 rfl ?_
              exact s_ireturn C dX10_bill_146 h
          · have h := h.2 hc
            refine s_iload_n C dX10_bill_71 rfl ?_
            refine s_iload C dX10_bill_72 rfl ?_
            refine s_isub C dX10_bill_74 o27 ?_
            refine s_goto C dX10_bill_75 rfl ?_
            refine s_istore (ls' := [(2, 41), (0, l1), (0, l2), (0, z4), (0, (M4 53 4)), (0, z4), (0, (z4 - z4)), (3, 0)]) C dX10_bill_80 (by decide) rfl rfl ?_
            refine s_iload C dX10_bill_82 rfl ?_
            refine s_aload_n C dX10_bill_84 rfl ?_
            refine gf_X10_43 C (sh_41 hF5) dX10_bill_85 (fx_41_13 hF5) ?_
            refine s_iconst C dX10_bill_88 (by decide) ?_
            refine s_iald (v0 := (M4 53 5)) C (sh_53 hF5) (by decide) (by decide) dX10_bill_89 rfl ?_
            obtain ⟨o38, h⟩ := h
            refine s_imul C dX10_bill_90 o38 ?_
            refine s_iload C dX10_bill_91 rfl ?_
            refine s_aload_n C dX10_bill_93 rfl ?_
            refine gf_X10_43 C (sh_41 hF5) dX10_bill_94 (fx_41_13 hF5) ?_
            refine s_bipush C dX10_bill_97 ⟨rfl, by decide, by decide⟩ ?_
            refine s_iald (v0 := (M4 53 6)) C (sh_53 hF5) (by decide) (by decide) dX10_bill_99 rfl ?_
            obtain ⟨o39, h⟩ := h
            refine s_imul C dX10_bill_100 o39 ?_
            obtain ⟨o40, h⟩ := h
            refine s_iadd C dX10_bill_101 o40 ?_
            refine s_iload_n C dX10_bill_102 rfl ?_
            refine s_iload C dX10_bill_103 rfl ?_
            refine s_isub C dX10_bill_105 o27 ?_
            refine s_iload C dX10_bill_106 rfl ?_
            obtain ⟨o41, h⟩ := h
            refine s_isub C dX10_bill_108 o41 ?_
            refine s_aload_n C dX10_bill_109 rfl ?_
            refine gf_X10_43 C (sh_41 hF5) dX10_bill_110 (fx_41_13 hF5) ?_
            refine s_bipush C dX10_bill_113 ⟨rfl, by decide, by decide⟩ ?_
            refine s_iald (v0 := (M4 53 7)) C (sh_53 hF5) (by decide) (by decide) dX10_bill_115 rfl ?_
            obtain ⟨o42, h⟩ := h
            refine s_imul C dX10_bill_116 o42 ?_
            obtain ⟨o43, h⟩ := h
            refine s_iadd C dX10_bill_117 o43 ?_
            refine s_aload_n C dX10_bill_118 rfl ?_
            refine gf_X10_134 C (sh_41 hF5) dX10_bill_119 (fx_41_50 hF5) ?_
            refine s_iload_n C dX10_bill_122 rfl ?_
            obtain ⟨o44, h⟩ := h
            obtain ⟨o45, h⟩ := h
            refine s_iald (v0 := (M4 83 l1)) C (sh_83 hF5) o44 o45 dX10_bill_123 rfl ?_
            refine s_aload_n C dX10_bill_124 rfl ?_
            refine gf_X10_43 C (sh_41 hF5) dX10_bill_125 (fx_41_13 hF5) ?_
            refine s_bipush C dX10_bill_128 ⟨rfl, by decide, by decide⟩ ?_
            refine s_iald (v0 := (M4 53 8)) C (sh_53 hF5) (by decide) (by decide) dX10_bill_130 rfl ?_
            obtain ⟨o46, h⟩ := h
            refine s_imul C dX10_bill_131 o46 ?_
            obtain ⟨o47, h⟩ := h
            refine s_isub C dX10_bill_132 o47 ?_
            refine s_istore (ls' := [(2, 41), (0, l1), (0, l2), (0, z4), (0, (M4 53 4)), (0, z4), (0, (z4 - z4)), (0, ((((z4 * (M4 53 5)) + ((z4 - z4) * (M4 53 6))) + (((z4 - z4) - (z4 - z4)) * (M4 53 7))) - ((M4 83 l1) * (M4 53 8))))]) C dX10_bill_133 (by decide) rfl rfl ?_
            refine s_iload C dX10_bill_135 rfl ?_
            refine s_ifge C dX10_bill_137 rfl (fun hc => ?_) (fun hc => ?_)
            · have h := h.1 hc
              refine s_iload C dX10_bill_144 rfl ?_
              exact s_ireturn C dX10_bill_146 h
            · have h := h.2 hc
              refine s_iconst C dX10_bill_140 (by decide) ?_
              refine s_goto C dX10_bill_141 rfl ?_
              exact s_ireturn C dX10_bill_146 h
      · have h := h.2 hc
        refine s_iload_n C dX10_bill_38 rfl ?_
        exact s_ireturn C dX10_bill_39 h
    · have h := h.2 (b2i_nn hc)
      refine s_bipush C dX10_bill_24 ⟨rfl, by decide, by decide⟩ ?_
      exact s_ireturn C dX10_bill_26 h
  · have h := h.2 (b2i_nn hc)
    refine s_iconst C dX10_bill_12 (by decide) ?_
    exact s_ireturn C dX10_bill_13 h
theorem E_X10_bill {G : GP} {l : Launch} {P : Int → NS → MM → Prop} {l1 : Int} {l2 : Int} {w : NS} {M : MM} (h : inR l1 → inR l2 → ∀ X : BX, X.2.1 = l → CX_X10_bill G X → A_X10_bill_0 G X P l1 l2 w M) : CT_X10_bill G l [(2, 41), (0, l1), (0, l2)] w M P :=
  CT.of RX10 "bill" (by decide +kernel) rfl rfl rfl (Nat.le_of_ble_eq_true rfl) (fun hr X hX C => h (hr (0, l1) (by simp)) (hr (0, l2) (by simp)) X hX C)
def A_X10_file_0 (G : GP) (X : BX) (P : Int → NS → MM → Prop) (l1 : Int) (l2 : Int) (w : NS) (M : MM) : Prop := WA true G X (QM G X true 0 P) 4 0 [(2, 41), (0, l1), (0, l2), (3, 0)] [] 0 0 w M
set_option maxHeartbeats 4000000 in
set_option maxRecDepth 100000 in
theorem B_X10_file_0 {G : GP} {X : BX} {P : Int → NS → MM → Prop} {l1 : Int} {l2 : Int} {w : NS} {M : MM} (C : CX_X10_file G X) (h : (0 ≤ M 41 12) ∧ ((((0 ≤ l1 ∧ l1 < M 41 12)) → ((((0 ≤ l2 ∧ l2 ≤ 15)) → (0 ≤ l1) ∧ (l1 < 24) ∧ P (M 51 l1) w (up M 51 l1 l2)) ∧ ((¬ (0 ≤ l2 ∧ l2 ≤ 15)) → P (-2) w M))) ∧ ((¬ (0 ≤ l1 ∧ l1 < M 41 12)) → P (-1) w M))) : A_X10_file_0 G X P l1 l2 w M := by
  unfold A_X10_file_0
  refine s_aload_n C dX10_file_0 rfl ?_
  refine s_iload_n C dX10_file_1 rfl ?_
  refine WA.fix (fun hF1 => ?_)
  obtain ⟨o2, h⟩ := h
  refine s_callV (ci := 10) (av := [(0, l1)]) (rest := []) (mc := 0) (ms := 0) C dX10_file_2 lk_X10_186 (sh_41 hF1) (by decide) rfl rfl rfl (Nat.le_of_ble_eq_true rfl) (by decide) (by decide) (pc_X10_isPiece o2) (fun z3 wz3 Mz3 hq => ?_)
  obtain ⟨hq1, hq2, hq3⟩ := hq
  have hq2 := hq2.symm
  have hq3 := hq3.symm
  subst hq1 hq2 hq3
  refine s_ifne C dX10_file_5 rfl (fun hc => ?_) (fun hc => ?_)
  · have h := h.1 (b2i_n0 hc)
    refine s_iload_n C dX10_file_10 rfl ?_
    refine s_i2l C dX10_file_11 ?_
    refine s_lconst (z := 0) C dX10_file_12 ⟨rfl, by decide⟩ ?_
    refine s_ldc2 (z := 15) C dX10_file_13 (mG (wd_1224) rfl) ⟨rfl, by decide⟩ ?_
    refine s_callS (av := [(1, l2), (1, 0), (1, 15)]) (rest := []) (mc := 0) (ms := 0) C dX10_file_16 lk_X10_139 rfl rfl (Nat.le_of_ble_eq_true rfl) (by decide) (by decide) (pc_X10_in) (fun z4 wz4 Mz4 hq => ?_)
    obtain ⟨hq1, hq2, hq3⟩ := hq
    have hq2 := hq2.symm
    have hq3 := hq3.symm
    subst hq1 hq2 hq3
    refine s_ifne C dX10_file_19 rfl (fun hc => ?_) (fun hc => ?_)
    · have h := h.1 (b2i_n0 hc)
      refine s_aload_n C dX10_file_25 rfl ?_
      refine gf_X10_37 C (sh_41 hF1) dX10_file_26 (fx_41_10 hF1) ?_
      refine s_iload_n C dX10_file_29 rfl ?_
      obtain ⟨o5, h⟩ := h
      obtain ⟨o6, h⟩ := h
      refine s_iald (v0 := (M 51 l1)) C (sh_51 hF1) o5 o6 dX10_file_30 rfl ?_
      refine s_istore_n (ls' := [(2, 41), (0, l1), (0, l2), (0, (M 51 l1))]) C dX10_file_31 (by decide) rfl rfl ?_
      refine s_aload_n C dX10_file_32 rfl ?_
      refine gf_X10_37 C (sh_41 hF1) dX10_file_33 (fx_41_10 hF1) ?_
      refine s_iload_n C dX10_file_36 rfl ?_
      refine s_iload_n C dX10_file_37 rfl ?_
      refine s_iast C (sh_51 hF1) o5 o6 (fun _ => by decide) dX10_file_38 ?_
      refine s_iload_n C dX10_file_39 rfl ?_
      exact s_ireturn C dX10_file_40 h
    · have h := h.2 (b2i_nn hc)
      refine s_bipush C dX10_file_22 ⟨rfl, by decide, by decide⟩ ?_
      exact s_ireturn C dX10_file_24 h
  · have h := h.2 (b2i_nn hc)
    refine s_iconst C dX10_file_8 (by decide) ?_
    exact s_ireturn C dX10_file_9 h
theorem E_X10_file {G : GP} {l : Launch} {P : Int → NS → MM → Prop} {l1 : Int} {l2 : Int} {w : NS} {M : MM} (h : inR l1 → inR l2 → ∀ X : BX, X.2.1 = l → CX_X10_file G X → A_X10_file_0 G X P l1 l2 w M) : CT_X10_file G l [(2, 41), (0, l1), (0, l2)] w M P :=
  CT.of RX10 "file" (by decide +kernel) rfl rfl rfl (Nat.le_of_ble_eq_true rfl) (fun hr X hX C => h (hr (0, l1) (by simp)) (hr (0, l2) (by simp)) X hX C)
def A_X10_isOld_0 (G : GP) (X : BX) (P : Int → NS → MM → Prop) (l1 : Int) (l2 : Int) (l3 : Int) (l4 : Int) (w : NS) (M : MM) : Prop := WA true G X (QM G X true 0 P) 5 0 [(2, 41), (0, l1), (0, l2), (0, l3), (0, l4)] [] 0 0 w M
set_option maxHeartbeats 4000000 in
set_option maxRecDepth 100000 in
theorem B_X10_isOld_0 {G : GP} {X : BX} {P : Int → NS → MM → Prop} {l1 : Int} {l2 : Int} {l3 : Int} {l4 : Int} {w : NS} {M : MM} (C : CX_X10_isOld G X) (h : (0 ≤ l1) ∧ (l1 < 24) ∧ ((((zand (zshr (M 51 l1) l2) 1) ≠ 1) → P 0 w M) ∧ ((¬ ((zand (zshr (M 51 l1) l2) 1) ≠ 1)) → (0 ≤ (M 46 l1)) ∧ ((M 46 l1) < 8) ∧ (((¬ (l3 ≤ (M 44 (M 46 l1)) ∧ (M 44 (M 46 l1)) ≤ l4)) → P 0 w M) ∧ (((l3 ≤ (M 44 (M 46 l1)) ∧ (M 44 (M 46 l1)) ≤ l4)) → P 1 w M))))) : A_X10_isOld_0 G X P l1 l2 l3 l4 w M := by
  unfold A_X10_isOld_0
  refine s_aload_n C dX10_isOld_0 rfl ?_
  refine WA.fix (fun hF1 => ?_)
  refine gf_X10_37 C (sh_41 hF1) dX10_isOld_1 (fx_41_10 hF1) ?_
  refine s_iload_n C dX10_isOld_4 rfl ?_
  obtain ⟨o2, h⟩ := h
  obtain ⟨o3, h⟩ := h
  refine s_iald (v0 := (M 51 l1)) C (sh_51 hF1) o2 o3 dX10_isOld_5 rfl ?_
  refine s_iload_n C dX10_isOld_6 rfl ?_
  refine s_ishr C dX10_isOld_7 ?_
  refine s_iconst C dX10_isOld_8 (by decide) ?_
  refine s_iand C dX10_isOld_9 ?_
  refine s_iconst C dX10_isOld_10 (by decide) ?_
  refine s_icmpne C dX10_isOld_11 rfl (fun hc => ?_) (fun hc => ?_)
  · have h := h.1 hc
    refine s_iconst C dX10_isOld_41 (by decide) ?_
    exact s_zreturn C dX10_isOld_42 (by decide) h
  · have h := h.2 hc
    refine s_aload_n C dX10_isOld_14 rfl ?_
    refine gf_X10_16 C (sh_41 hF1) dX10_isOld_15 (fx_41_2 hF1) ?_
    refine s_aload_n C dX10_isOld_18 rfl ?_
    refine gf_X10_22 C (sh_41 hF1) dX10_isOld_19 (fx_41_5 hF1) ?_
    refine s_iload_n C dX10_isOld_22 rfl ?_
    refine s_iald (v0 := (M 46 l1)) C (sh_46 hF1) o2 o3 dX10_isOld_23 rfl ?_
    obtain ⟨o4, h⟩ := h
    obtain ⟨o5, h⟩ := h
    refine s_iald (v0 := (M 44 (M 46 l1))) C (sh_44 hF1) o4 o5 dX10_isOld_24 rfl ?_
    refine s_i2l C dX10_isOld_25 ?_
    refine s_iload_n C dX10_isOld_26 rfl ?_
    refine s_i2l C dX10_isOld_27 ?_
    refine s_iload C dX10_isOld_28 rfl ?_
    refine s_i2l C dX10_isOld_30 ?_
    refine s_callS (av := [(1, (M 44 (M 46 l1))), (1, l3), (1, l4)]) (rest := []) (mc := 0) (ms := 0) C dX10_isOld_31 lk_X10_139 rfl rfl (Nat.le_of_ble_eq_true rfl) (by decide) (by decide) (pc_X10_in) (fun z6 wz6 Mz6 hq => ?_)
    obtain ⟨hq1, hq2, hq3⟩ := hq
    have hq2 := hq2.symm
    have hq3 := hq3.symm
    subst hq1 hq2 hq3
    refine s_ifeq C dX10_isOld_34 rfl (fun hc => ?_) (fun hc => ?_)
    · have h := h.1 (b2i_0.mp hc)
      refine s_iconst C dX10_isOld_41 (by decide) ?_
      exact s_zreturn C dX10_isOld_42 (by decide) h
    · have h := h.2 (b2i_n0 hc)
      refine s_iconst C dX10_isOld_37 (by decide) ?_
      refine s_goto C dX10_isOld_38 rfl ?_
      exact s_zreturn C dX10_isOld_42 (by decide) h
theorem E_X10_isOld {G : GP} {l : Launch} {P : Int → NS → MM → Prop} {l1 : Int} {l2 : Int} {l3 : Int} {l4 : Int} {w : NS} {M : MM} (h : inR l1 → inR l2 → inR l3 → inR l4 → ∀ X : BX, X.2.1 = l → CX_X10_isOld G X → A_X10_isOld_0 G X P l1 l2 l3 l4 w M) : CT_X10_isOld G l [(2, 41), (0, l1), (0, l2), (0, l3), (0, l4)] w M P :=
  CT.of RX10 "isOld" (by decide +kernel) rfl rfl rfl (Nat.le_of_ble_eq_true rfl) (fun hr X hX C => h (hr (0, l1) (by simp)) (hr (0, l2) (by simp)) (hr (0, l3) (by simp)) (hr (0, l4) (by simp)) X hX C)
def A_X10_old_0 (G : GP) (X : BX) (P : Int → NS → MM → Prop) (l1 : Int) (l2 : Int) (l3 : Int) (l4 : Int) (w : NS) (M : MM) : Prop := WA true G X (QM G X true 0 P) 9 0 [(2, 41), (0, l1), (0, l2), (0, l3), (0, l4), (3, 0), (3, 0), (3, 0), (3, 0)] [] 0 0 w M
def A_X10_old_32 (G : GP) (X : BX) (P : Int → NS → MM → Prop) (l1 : Int) (l2 : Int) (l3 : Int) (l4 : Int) (l5 : Int) (l6 : Int) (w : NS) (M : MM) : Prop := WA true G X (QM G X true 0 P) 9 32 [(2, 41), (0, l1), (0, l2), (0, l3), (0, l4), (0, l5), (0, l6), (3, 0), (3, 0)] [] 0 0 w M
def A_X10_old_81 (G : GP) (X : BX) (P : Int → NS → MM → Prop) (l1 : Int) (l2 : Int) (l3 : Int) (l4 : Int) (l6 : Int) (w : NS) (M : MM) : Prop := WA true G X (QM G X true 0 P) 9 81 [(2, 41), (0, l1), (0, l2), (0, l3), (0, l4), (3, 0), (0, l6), (3, 0), (3, 0)] [] 0 0 w M
def A_X10_old_96 (G : GP) (X : BX) (P : Int → NS → MM → Prop) (l1 : Int) (l2 : Int) (l3 : Int) (l4 : Int) (l6 : Int) (l7 : Int) (l8 : Int) (w : NS) (M : MM) : Prop := WA true G X (QM G X true 0 P) 9 96 [(2, 41), (0, l1), (0, l2), (0, l3), (0, l4), (3, 0), (0, l6), (0, l7), (0, l8)] [] 0 0 w M
set_option maxHeartbeats 4000000 in
set_option maxRecDepth 100000 in
theorem B_X10_old_0 {G : GP} {X : BX} {P : Int → NS → MM → Prop} {l1 : Int} {l2 : Int} {l3 : Int} {l4 : Int} {w : NS} {M : MM} (C : CX_X10_old G X) (h : ((((0 ≤ l1 ∧ l1 ≤ 3)) → (((¬ (0 ≤ l2 ∧ l2 ≤ 99)) → P (-2) w M) ∧ (((0 ≤ l2 ∧ l2 ≤ 99)) → ((((0 ≤ l3 ∧ l3 ≤ 99)) → A_X10_old_32 G X P l1 l2 l3 l4 0 0 w M) ∧ ((¬ (0 ≤ l3 ∧ l3 ≤ 99)) → P (-2) w M))))) ∧ ((¬ (0 ≤ l1 ∧ l1 ≤ 3)) → P (-1) w M))) : A_X10_old_0 G X P l1 l2 l3 l4 w M := by
  unfold A_X10_old_0
  refine s_iload_n C dX10_old_0 rfl ?_
  refine s_callS (av := [(0, l1)]) (rest := []) (mc := 0) (ms := 0) C dX10_old_1 lk_X10_294 rfl rfl (Nat.le_of_ble_eq_true rfl) (by decide) (by decide) (pc_X10_isName) (fun z1 wz1 Mz1 hq => ?_)
  obtain ⟨hq1, hq2, hq3⟩ := hq
  have hq2 := hq2.symm
  have hq3 := hq3.symm
  subst hq1 hq2 hq3
  refine s_ifne C dX10_old_4 rfl (fun hc => ?_) (fun hc => ?_)
  · have h := h.1 (b2i_n0 hc)
    refine s_iload_n C dX10_old_9 rfl ?_
    refine s_callS (av := [(0, l2)]) (rest := []) (mc := 0) (ms := 0) C dX10_old_10 lk_X10_152 rfl rfl (Nat.le_of_ble_eq_true rfl) (by decide) (by decide) (pc_X10_isDay) (fun z2 wz2 Mz2 hq => ?_)
    obtain ⟨hq1, hq2, hq3⟩ := hq
    have hq2 := hq2.symm
    have hq3 := hq3.symm
    subst hq1 hq2 hq3
    refine s_ifeq C dX10_old_13 rfl (fun hc => ?_) (fun hc => ?_)
    · have h := h.1 (b2i_0.mp hc)
      refine s_bipush C dX10_old_23 ⟨rfl, by decide, by decide⟩ ?_
      exact s_ireturn C dX10_old_25 h
    · have h := h.2 (b2i_n0 hc)
      refine s_iload_n C dX10_old_16 rfl ?_
      refine s_callS (av := [(0, l3)]) (rest := []) (mc := 0) (ms := 0) C dX10_old_17 lk_X10_152 rfl rfl (Nat.le_of_ble_eq_true rfl) (by decide) (by decide) (pc_X10_isDay) (fun z3 wz3 Mz3 hq => ?_)
      obtain ⟨hq1, hq2, hq3⟩ := hq
      have hq2 := hq2.symm
      have hq3 := hq3.symm
      subst hq1 hq2 hq3
      refine s_ifne C dX10_old_20 rfl (fun hc => ?_) (fun hc => ?_)
      · have h := h.1 (b2i_n0 hc)
        refine s_iconst C dX10_old_26 (by decide) ?_
        refine s_istore (ls' := [(2, 41), (0, l1), (0, l2), (0, l3), (0, l4), (0, 0), (3, 0), (3, 0), (3, 0)]) C dX10_old_27 (by decide) rfl rfl ?_
        refine s_iconst C dX10_old_29 (by decide) ?_
        refine s_istore (ls' := [(2, 41), (0, l1), (0, l2), (0, l3), (0, l4), (0, 0), (0, 0), (3, 0), (3, 0)]) C dX10_old_30 (by decide) rfl rfl ?_
        exact h
      · have h := h.2 (b2i_nn hc)
        refine s_bipush C dX10_old_23 ⟨rfl, by decide, by decide⟩ ?_
        exact s_ireturn C dX10_old_25 h
  · have h := h.2 (b2i_nn hc)
    refine s_iconst C dX10_old_7 (by decide) ?_
    exact s_ireturn C dX10_old_8 h
set_option maxHeartbeats 4000000 in
set_option maxRecDepth 100000 in
theorem B_X10_old_32 {G : GP} {X : BX} {P : Int → NS → MM → Prop} {l1 : Int} {l2 : Int} {l3 : Int} {l4 : Int} {l5 : Int} {l6 : Int} {w : NS} {M : MM} (C : CX_X10_old G X) (h : ((((M 41 12) ≤ l6) → (((l4 ≠ (-1)) → A_X10_old_81 G X P l1 l2 l3 l4 0 w M) ∧ ((¬ (l4 ≠ (-1))) → P l5 w M))) ∧ ((¬ ((M 41 12) ≤ l6)) → ∃ Q2 : Int → NS → MM → Prop, CT_X10_isOld G X.2.1 [(2, 41), (0, l6), (0, l1), (0, l2), (0, l3)] w M Q2 ∧ ∀ (z2 : Int) (w2 : NS) (M2 : MM), Q2 z2 w2 M2 → (((z2 = 0) → (inR (l5 + 0)) ∧ (inR (l6 + 1)) ∧ A_X10_old_32 G X P l1 l2 l3 l4 (l5 + 0) (l6 + 1) w2 M2) ∧ ((¬ (z2 = 0)) → (inR (l5 + 1)) ∧ (inR (l6 + 1)) ∧ A_X10_old_32 G X P l1 l2 l3 l4 (l5 + 1) (l6 + 1) w2 M2))))) : A_X10_old_32 G X P l1 l2 l3 l4 l5 l6 w M := by
  unfold A_X10_old_32
  refine s_iload C dX10_old_32 rfl ?_
  refine s_aload_n C dX10_old_34 rfl ?_
  refine WA.fix (fun hF1 => ?_)
  refine gf_X10_147 (v0 := (M 41 12)) C (sh_41 hF1) dX10_old_35 rfl ?_
  refine s_icmpge C dX10_old_38 rfl (fun hc => ?_) (fun hc => ?_)
  · have h := h.1 hc
    refine s_iload C dX10_old_69 rfl ?_
    refine s_iconst C dX10_old_71 (by decide) ?_
    refine s_icmpne C dX10_old_72 rfl (fun hc => ?_) (fun hc => ?_)
    · have h := h.1 hc
      refine s_iconst C dX10_old_78 (by decide) ?_
      refine s_istore (ls' := [(2, 41), (0, l1), (0, l2), (0, l3), (0, l4), (0, l5), (0, 0), (3, 0), (3, 0)]) C dX10_old_79 (by decide) rfl rfl ?_
      exact WA.wk h ⟨Or.inr rfl, Or.inr rfl, Or.inr rfl, Or.inr rfl, Or.inr rfl, Or.inl rfl, Or.inr rfl, Or.inl rfl, Or.inl rfl, trivial⟩
    · have h := h.2 hc
      refine s_iload C dX10_old_75 rfl ?_
      exact s_ireturn C dX10_old_77 h
  · have h := h.2 hc
    refine s_iload C dX10_old_41 rfl ?_
    refine s_aload_n C dX10_old_43 rfl ?_
    refine s_iload C dX10_old_44 rfl ?_
    refine s_iload_n C dX10_old_46 rfl ?_
    refine s_iload_n C dX10_old_47 rfl ?_
    refine s_iload_n C dX10_old_48 rfl ?_
    obtain ⟨Q2, hKQ2, h⟩ := h
    refine s_callV (ci := 10) (av := [(0, l6), (0, l1), (0, l2), (0, l3)]) (rest := [(0, l5)]) (mc := 0) (ms := 0) C dX10_old_49 lk_X10_347 (sh_41 hF1) (by decide) rfl rfl rfl (Nat.le_of_ble_eq_true rfl) (by decide) (by decide) hKQ2 (fun z2 w2 M2 hq => ?_)
    have h := h z2 w2 M2 hq
    refine s_ifeq C dX10_old_52 rfl (fun hc => ?_) (fun hc => ?_)
    · have h := h.1 hc
      refine s_iconst C dX10_old_59 (by decide) ?_
      obtain ⟨o3, h⟩ := h
      refine s_iadd C dX10_old_60 o3 ?_
      refine s_istore (ls' := [(2, 41), (0, l1), (0, l2), (0, l3), (0, l4), (0, (l5 + 0)), (0, l6), (3, 0), (3, 0)]) C dX10_old_61 (by decide) rfl rfl ?_
      obtain ⟨o4, h⟩ := h
      refine s_iinc (ls' := [(2, 41), (0, l1), (0, l2), (0, l3), (0, l4), (0, (l5 + 0)), (0, (l6 + 1)), (3, 0), (3, 0)]) C dX10_old_63 (by decide) rfl o4 rfl rfl ?_
      refine s_goto C dX10_old_66 rfl ?_
      exact h
    · have h := h.2 hc
      refine s_iconst C dX10_old_55 (by decide) ?_
      refine s_goto C dX10_old_56 rfl ?_
      obtain ⟨o5, h⟩ := h
      refine s_iadd C dX10_old_60 o5 ?_
      refine s_istore (ls' := [(2, 41), (0, l1), (0, l2), (0, l3), (0, l4), (0, (l5 + 1)), (0, l6), (3, 0), (3, 0)]) C dX10_old_61 (by decide) rfl rfl ?_
      obtain ⟨o6, h⟩ := h
      refine s_iinc (ls' := [(2, 41), (0, l1), (0, l2), (0, l3), (0, l4), (0, (l5 + 1)), (0, (l6 + 1)), (3, 0), (3, 0)]) C dX10_old_63 (by decide) rfl o6 rfl rfl ?_
      refine s_goto C dX10_old_66 rfl ?_
      exact h
set_option maxHeartbeats 4000000 in
set_option maxRecDepth 100000 in
theorem B_X10_old_81 {G : GP} {X : BX} {P : Int → NS → MM → Prop} {l1 : Int} {l2 : Int} {l3 : Int} {l4 : Int} {l6 : Int} {w : NS} {M : MM} (C : CX_X10_old G X) (h : ((((M 41 12) ≤ l6) → P (-6) w M) ∧ ((¬ ((M 41 12) ≤ l6)) → A_X10_old_96 G X P l1 l2 l3 l4 l6 0 0 w M))) : A_X10_old_81 G X P l1 l2 l3 l4 l6 w M := by
  unfold A_X10_old_81
  refine s_iload C dX10_old_81 rfl ?_
  refine s_aload_n C dX10_old_83 rfl ?_
  refine WA.fix (fun hF1 => ?_)
  refine gf_X10_147 (v0 := (M 41 12)) C (sh_41 hF1) dX10_old_84 rfl ?_
  refine s_icmpge C dX10_old_87 rfl (fun hc => ?_) (fun hc => ?_)
  · have h := h.1 hc
    refine s_bipush C dX10_old_179 ⟨rfl, by decide, by decide⟩ ?_
    exact s_ireturn C dX10_old_181 h
  · have h := h.2 hc
    refine s_iconst C dX10_old_90 (by decide) ?_
    refine s_istore (ls' := [(2, 41), (0, l1), (0, l2), (0, l3), (0, l4), (3, 0), (0, l6), (0, 0), (3, 0)]) C dX10_old_91 (by decide) rfl rfl ?_
    refine s_iconst C dX10_old_93 (by decide) ?_
    refine s_istore (ls' := [(2, 41), (0, l1), (0, l2), (0, l3), (0, l4), (3, 0), (0, l6), (0, 0), (0, 0)]) C dX10_old_94 (by decide) rfl rfl ?_
    exact h
set_option maxHeartbeats 4000000 in
set_option maxRecDepth 100000 in
theorem B_X10_old_96 {G : GP} {X : BX} {P : Int → NS → MM → Prop} {l1 : Int} {l2 : Int} {l3 : Int} {l4 : Int} {l6 : Int} {l7 : Int} {l8 : Int} {w : NS} {M : MM} (C : CX_X10_old G X) (h : ((((M 41 12) ≤ l8) → ∃ Q2 : Int → NS → MM → Prop, CT_X10_isOld G X.2.1 [(2, 41), (0, l6), (0, l1), (0, l2), (0, l3)] w M Q2 ∧ ∀ (z2 : Int) (w2 : NS) (M2 : MM), Q2 z2 w2 M2 → (((z2 = 0) → (inR (l6 + 1)) ∧ A_X10_old_81 G X P l1 l2 l3 l4 (l6 + 1) w2 M2) ∧ ((¬ (z2 = 0)) → (((l7 ≠ l4) → (inR (l6 + 1)) ∧ A_X10_old_81 G X P l1 l2 l3 l4 (l6 + 1) w2 M2) ∧ ((¬ (l7 ≠ l4)) → P l6 w2 M2))))) ∧ ((¬ ((M 41 12) ≤ l8)) → (((l8 = l6) → (inR (l7 + 0)) ∧ (inR (l8 + 1)) ∧ A_X10_old_96 G X P l1 l2 l3 l4 l6 (l7 + 0) (l8 + 1) w M) ∧ ((¬ (l8 = l6)) → ∃ Q7 : Int → NS → MM → Prop, CT_X10_isOld G X.2.1 [(2, 41), (0, l8), (0, l1), (0, l2), (0, l3)] w M Q7 ∧ ∀ (z7 : Int) (w7 : NS) (M7 : MM), Q7 z7 w7 M7 → (((z7 = 0) → (inR (l7 + 0)) ∧ (inR (l8 + 1)) ∧ A_X10_old_96 G X P l1 l2 l3 l4 l6 (l7 + 0) (l8 + 1) w7 M7) ∧ ((¬ (z7 = 0)) → ∃ Q11 : Int → NS → MM → Prop, CT_X10_isAhead G X.2.1 [(2, 41), (0, l8), (0, l6)] w7 M7 Q11 ∧ ∀ (z11 : Int) (w11 : NS) (M11 : MM), Q11 z11 w11 M11 → (((z11 = 0) → (inR (l7 + 0)) ∧ (inR (l8 + 1)) ∧ A_X10_old_96 G X P l1 l2 l3 l4 l6 (l7 + 0) (l8 + 1) w11 M11) ∧ ((¬ (z11 = 0)) → (inR (l7 + 1)) ∧ (inR (l8 + 1)) ∧ A_X10_old_96 G X P l1 l2 l3 l4 l6 (l7 + 1) (l8 + 1) w11 M11))))))))) : A_X10_old_96 G X P l1 l2 l3 l4 l6 l7 l8 w M := by
  unfold A_X10_old_96
  refine s_iload C dX10_old_96 rfl ?_
  refine s_aload_n C dX10_old_98 rfl ?_
  refine WA.fix (fun hF1 => ?_)
  refine gf_X10_147 (v0 := (M 41 12)) C (sh_41 hF1) dX10_old_99 rfl ?_
  refine s_icmpge C dX10_old_102 rfl (fun hc => ?_) (fun hc => ?_)
  · have h := h.1 hc
    refine s_aload_n C dX10_old_151 rfl ?_
    refine s_iload C dX10_old_152 rfl ?_
    refine s_iload_n C dX10_old_154 rfl ?_
    refine s_iload_n C dX10_old_155 rfl ?_
    refine s_iload_n C dX10_old_156 rfl ?_
    obtain ⟨Q2, hKQ2, h⟩ := h
    refine s_callV (ci := 10) (av := [(0, l6), (0, l1), (0, l2), (0, l3)]) (rest := []) (mc := 0) (ms := 0) C dX10_old_157 lk_X10_347 (sh_41 hF1) (by decide) rfl rfl rfl (Nat.le_of_ble_eq_true rfl) (by decide) (by decide) hKQ2 (fun z2 w2 M2 hq => ?_)
    have h := h z2 w2 M2 hq
    refine s_ifeq C dX10_old_160 rfl (fun hc => ?_) (fun hc => ?_)
    · have h := h.1 hc
      obtain ⟨o3, h⟩ := h
      refine s_iinc (ls' := [(2, 41), (0, l1), (0, l2), (0, l3), (0, l4), (3, 0), (0, (l6 + 1)), (0, l7), (0, l8)]) C dX10_old_173 (by decide) rfl o3 rfl rfl ?_
      refine s_goto C dX10_old_176 rfl ?_
      exact WA.wk h ⟨Or.inr rfl, Or.inr rfl, Or.inr rfl, Or.inr rfl, Or.inr rfl, Or.inl rfl, Or.inr rfl, Or.inl rfl, Or.inl rfl, trivial⟩
    · have h := h.2 hc
      refine s_iload C dX10_old_163 rfl ?_
      refine s_iload C dX10_old_165 rfl ?_
      refine s_icmpne C dX10_old_167 rfl (fun hc => ?_) (fun hc => ?_)
      · have h := h.1 hc
        obtain ⟨o4, h⟩ := h
        refine s_iinc (ls' := [(2, 41), (0, l1), (0, l2), (0, l3), (0, l4), (3, 0), (0, (l6 + 1)), (0, l7), (0, l8)]) C dX10_old_173 (by decide) rfl o4 rfl rfl ?_
        refine s_goto C dX10_old_176 rfl ?_
        exact WA.wk h ⟨Or.inr rfl, Or.inr rfl, Or.inr rfl, Or.inr rfl, Or.inr rfl, Or.inl rfl, Or.inr rfl, Or.inl rfl, Or.inl rfl, trivial⟩
      · have h := h.2 hc
        refine s_iload C dX10_old_170 rfl ?_
        exact s_ireturn C dX10_old_172 h
  · have h := h.2 hc
    refine s_iload C dX10_old_105 rfl ?_
    refine s_iload C dX10_old_107 rfl ?_
    refine s_iload C dX10_old_109 rfl ?_
    refine s_icmpeq C dX10_old_111 rfl (fun hc => ?_) (fun hc => ?_)
    · have h := h.1 hc
      refine s_iconst C dX10_old_141 (by decide) ?_
      obtain ⟨o5, h⟩ := h
      refine s_iadd C dX10_old_142 o5 ?_
      refine s_istore (ls' := [(2, 41), (0, l1), (0, l2), (0, l3), (0, l4), (3, 0), (0, l6), (0, (l7 + 0)), (0, l8)]) C dX10_old_143 (by decide) rfl rfl ?_
      obtain ⟨o6, h⟩ := h
      refine s_iinc (ls' := [(2, 41), (0, l1), (0, l2), (0, l3), (0, l4), (3, 0), (0, l6), (0, (l7 + 0)), (0, (l8 + 1))]) C dX10_old_145 (by decide) rfl o6 rfl rfl ?_
      refine s_goto C dX10_old_148 rfl ?_
      exact h
    · have h := h.2 hc
      refine s_aload_n C dX10_old_114 rfl ?_
      refine s_iload C dX10_old_115 rfl ?_
      refine s_iload_n C dX10_old_117 rfl ?_
      refine s_iload_n C dX10_old_118 rfl ?_
      refine s_iload_n C dX10_old_119 rfl ?_
      obtain ⟨Q7, hKQ7, h⟩ := h
      refine s_callV (ci := 10) (av := [(0, l8), (0, l1), (0, l2), (0, l3)]) (rest := [(0, l7)]) (mc := 0) (ms := 0) C dX10_old_120 lk_X10_347 (sh_41 hF1) (by decide) rfl rfl rfl (Nat.le_of_ble_eq_true rfl) (by decide) (by decide) hKQ7 (fun z7 w7 M7 hq => ?_)
      have h := h z7 w7 M7 hq
      refine s_ifeq C dX10_old_123 rfl (fun hc => ?_) (fun hc => ?_)
      · have h := h.1 hc
        refine s_iconst C dX10_old_141 (by decide) ?_
        obtain ⟨o8, h⟩ := h
        refine s_iadd C dX10_old_142 o8 ?_
        refine s_istore (ls' := [(2, 41), (0, l1), (0, l2), (0, l3), (0, l4), (3, 0), (0, l6), (0, (l7 + 0)), (0, l8)]) C dX10_old_143 (by decide) rfl rfl ?_
        obtain ⟨o9, h⟩ := h
        refine s_iinc (ls' := [(2, 41), (0, l1), (0, l2), (0, l3), (0, l4), (3, 0), (0, l6), (0, (l7 + 0)), (0, (l8 + 1))]) C dX10_old_145 (by decide) rfl o9 rfl rfl ?_
        refine s_goto C dX10_old_148 rfl ?_
        exact h
      · have h := h.2 hc
        refine s_aload_n C dX10_old_126 rfl ?_
        refine s_iload C dX10_old_127 rfl ?_
        refine s_iload C dX10_old_129 rfl ?_
        refine WA.fix (fun hF10 => ?_)
        obtain ⟨Q11, hKQ11, h⟩ := h
        refine s_callV (ci := 10) (av := [(0, l8), (0, l6)]) (rest := [(0, l7)]) (mc := 0) (ms := 0) C dX10_old_131 lk_X10_272 (sh_41 hF10) (by decide) rfl rfl rfl (Nat.le_of_ble_eq_true rfl) (by decide) (by decide) hKQ11 (fun z11 w11 M11 hq => ?_)
        have h := h z11 w11 M11 hq
        refine s_ifeq C dX10_old_134 rfl (fun hc => ?_) (fun hc => ?_)
        · have h := h.1 hc
          refine s_iconst C dX10_old_141 (by decide) ?_
          obtain ⟨o12, h⟩ := h
          refine s_iadd C dX10_old_142 o12 ?_
          refine s_istore (ls' := [(2, 41), (0, l1), (0, l2), (0, l3), (0, l4), (3, 0), (0, l6), (0, (l7 + 0)), (0, l8)]) C dX10_old_143 (by decide) rfl rfl ?_
          obtain ⟨o13, h⟩ := h
          refine s_iinc (ls' := [(2, 41), (0, l1), (0, l2), (0, l3), (0, l4), (3, 0), (0, l6), (0, (l7 + 0)), (0, (l8 + 1))]) C dX10_old_145 (by decide) rfl o13 rfl rfl ?_
          refine s_goto C dX10_old_148 rfl ?_
          exact h
        · have h := h.2 hc
          refine s_iconst C dX10_old_137 (by decide) ?_
          refine s_goto C dX10_old_138 rfl ?_
          obtain ⟨o14, h⟩ := h
          refine s_iadd C dX10_old_142 o14 ?_
          refine s_istore (ls' := [(2, 41), (0, l1), (0, l2), (0, l3), (0, l4), (3, 0), (0, l6), (0, (l7 + 1)), (0, l8)]) C dX10_old_143 (by decide) rfl rfl ?_
          obtain ⟨o15, h⟩ := h
          refine s_iinc (ls' := [(2, 41), (0, l1), (0, l2), (0, l3), (0, l4), (3, 0), (0, l6), (0, (l7 + 1)), (0, (l8 + 1))]) C dX10_old_145 (by decide) rfl o15 rfl rfl ?_
          refine s_goto C dX10_old_148 rfl ?_
          exact h
theorem E_X10_old {G : GP} {l : Launch} {P : Int → NS → MM → Prop} {l1 : Int} {l2 : Int} {l3 : Int} {l4 : Int} {w : NS} {M : MM} (h : inR l1 → inR l2 → inR l3 → inR l4 → ∀ X : BX, X.2.1 = l → CX_X10_old G X → A_X10_old_0 G X P l1 l2 l3 l4 w M) : CT_X10_old G l [(2, 41), (0, l1), (0, l2), (0, l3), (0, l4)] w M P :=
  CT.of RX10 "old" (by decide +kernel) rfl rfl rfl (Nat.le_of_ble_eq_true rfl) (fun hr X hX C => h (hr (0, l1) (by simp)) (hr (0, l2) (by simp)) (hr (0, l3) (by simp)) (hr (0, l4) (by simp)) X hX C)
def A_X10_told_0 (G : GP) (X : BX) (P : Int → NS → MM → Prop) (l1 : Int) (w : NS) (M : MM) : Prop := WA true G X (QM G X true 0 P) 4 0 [(2, 41), (0, l1), (3, 0), (3, 0)] [] 0 0 w M
def A_X10_told_28 (G : GP) (X : BX) (P : Int → NS → MM → Prop) (l1 : Int) (l2 : Int) (l3 : Int) (w : NS) (M : MM) : Prop := WA true G X (QM G X true 0 P) 4 28 [(2, 41), (0, l1), (0, l2), (0, l3)] [] 0 0 w M
set_option maxHeartbeats 4000000 in
set_option maxRecDepth 100000 in
theorem B_X10_told_0 {G : GP} {X : BX} {P : Int → NS → MM → Prop} {l1 : Int} {w : NS} {M : MM} (C : CX_X10_told G X) (h : (((¬ (10 ≤ l1 ∧ l1 ≤ 18)) → A_X10_told_28 G X P l1 0 0 w M) ∧ (((10 ≤ l1 ∧ l1 ≤ 18)) → (inR (l1 - 10)) ∧ (0 ≤ (l1 - 10)) ∧ ((l1 - 10) < 9) ∧ P (M 53 (l1 - 10)) w M))) : A_X10_told_0 G X P l1 w M := by
  unfold A_X10_told_0
  refine s_iload_n C dX10_told_0 rfl ?_
  refine s_i2l C dX10_told_1 ?_
  refine s_ldc2 (z := 10) C dX10_told_2 (mG (wd_1237) rfl) ⟨rfl, by decide⟩ ?_
  refine s_ldc2 (z := 18) C dX10_told_5 (mG (wd_1238) rfl) ⟨rfl, by decide⟩ ?_
  refine s_callS (av := [(1, l1), (1, 10), (1, 18)]) (rest := []) (mc := 0) (ms := 0) C dX10_told_8 lk_X10_139 rfl rfl (Nat.le_of_ble_eq_true rfl) (by decide) (by decide) (pc_X10_in) (fun z1 wz1 Mz1 hq => ?_)
  obtain ⟨hq1, hq2, hq3⟩ := hq
  have hq2 := hq2.symm
  have hq3 := hq3.symm
  subst hq1 hq2 hq3
  refine s_ifeq C dX10_told_11 rfl (fun hc => ?_) (fun hc => ?_)
  · have h := h.1 (b2i_0.mp hc)
    refine s_iconst C dX10_told_24 (by decide) ?_
    refine s_istore_n (ls' := [(2, 41), (0, l1), (0, 0), (3, 0)]) C dX10_told_25 (by decide) rfl rfl ?_
    refine s_iconst C dX10_told_26 (by decide) ?_
    refine s_istore_n (ls' := [(2, 41), (0, l1), (0, 0), (0, 0)]) C dX10_told_27 (by decide) rfl rfl ?_
    exact h
  · have h := h.2 (b2i_n0 hc)
    refine s_aload_n C dX10_told_14 rfl ?_
    refine WA.fix (fun hF2 => ?_)
    refine gf_X10_43 C (sh_41 hF2) dX10_told_15 (fx_41_13 hF2) ?_
    refine s_iload_n C dX10_told_18 rfl ?_
    refine s_bipush C dX10_told_19 ⟨rfl, by decide, by decide⟩ ?_
    obtain ⟨o3, h⟩ := h
    refine s_isub C dX10_told_21 o3 ?_
    obtain ⟨o4, h⟩ := h
    obtain ⟨o5, h⟩ := h
    refine s_iald (v0 := (M 53 (l1 - 10))) C (sh_53 hF2) o4 o5 dX10_told_22 rfl ?_
    exact s_ireturn C dX10_told_23 h
set_option maxHeartbeats 4000000 in
set_option maxRecDepth 100000 in
theorem B_X10_told_28 {G : GP} {X : BX} {P : Int → NS → MM → Prop} {l1 : Int} {l2 : Int} {l3 : Int} {w : NS} {M : MM} (C : CX_X10_told G X) (h : (((6 ≤ l3) → (((l1 < 0 ∨ 5 < l1) → P (-2) w M) ∧ (l1 = 0 → P (M 41 4) w M) ∧ (l1 = 1 → P (M 41 12) w M) ∧ (l1 = 2 → P (M 41 26) w M) ∧ (l1 = 3 → P (M 57 10) w M) ∧ (l1 = 4 → ∃ Q6 : Int → NS → MM → Prop, CT_X10_sentTo G X.2.1 [(2, 41), (0, (-1))] w M Q6 ∧ ∀ (z6 : Int) (w6 : NS) (M6 : MM), Q6 z6 w6 M6 → P z6 w6 M6) ∧ (l1 = 5 → P l2 w M))) ∧ ((¬ (6 ≤ l3)) → (0 ≤ l3) ∧ (l3 < 6) ∧ (inR (l2 + (M 83 l3))) ∧ (inR (l3 + 1)) ∧ A_X10_told_28 G X P l1 (l2 + (M 83 l3)) (l3 + 1) w M))) : A_X10_told_28 G X P l1 l2 l3 w M := by
  unfold A_X10_told_28
  refine s_iload_n C dX10_told_28 rfl ?_
  refine s_bipush C dX10_told_29 ⟨rfl, by decide, by decide⟩ ?_
  refine s_icmpge C dX10_told_31 rfl (fun hc => ?_) (fun hc => ?_)
  · have h := h.1 hc
    refine s_iload_n C dX10_told_49 rfl ?_
    rcases (show (l1 < 0 ∨ 5 < l1) ∨ l1 = 0 ∨ l1 = 1 ∨ l1 = 2 ∨ l1 = 3 ∨ l1 = 4 ∨ l1 = 5 from by omega) with hc | hc | hc | hc | hc | hc | hc
    · have h := h.1 hc
      refine s_tabOut C dX10_told_50 hc rfl ?_
      refine s_bipush C dX10_told_119 ⟨rfl, by decide, by decide⟩ ?_
      exact s_ireturn C dX10_told_121 h
    · have h := h.2.1 hc
      refine s_tabIn C dX10_told_50 hc (by decide) (by decide) rfl rfl ?_
      refine s_aload_n C dX10_told_88 rfl ?_
      refine WA.fix (fun hF1 => ?_)
      refine gf_X10_143 (v0 := (M 41 4)) C (sh_41 hF1) dX10_told_89 rfl ?_
      exact s_ireturn C dX10_told_92 h
    · have h := h.2.2.1 hc
      refine s_tabIn C dX10_told_50 hc (by decide) (by decide) rfl rfl ?_
      refine s_aload_n C dX10_told_93 rfl ?_
      refine WA.fix (fun hF2 => ?_)
      refine gf_X10_147 (v0 := (M 41 12)) C (sh_41 hF2) dX10_told_94 rfl ?_
      exact s_ireturn C dX10_told_97 h
    · have h := h.2.2.2.1 hc
      refine s_tabIn C dX10_told_50 hc (by decide) (by decide) rfl rfl ?_
      refine s_aload_n C dX10_told_98 rfl ?_
      refine WA.fix (fun hF3 => ?_)
      refine gf_X10_220 (v0 := (M 41 26)) C (sh_41 hF3) dX10_told_99 rfl ?_
      exact s_ireturn C dX10_told_102 h
    · have h := h.2.2.2.2.1 hc
      refine s_tabIn C dX10_told_50 hc (by decide) (by decide) rfl rfl ?_
      refine s_aload_n C dX10_told_103 rfl ?_
      refine WA.fix (fun hF4 => ?_)
      refine gf_X10_55 C (sh_41 hF4) dX10_told_104 (fx_41_19 hF4) ?_
      refine s_bipush C dX10_told_107 ⟨rfl, by decide, by decide⟩ ?_
      refine s_iald (v0 := (M 57 10)) C (sh_57 hF4) (by decide) (by decide) dX10_told_109 rfl ?_
      exact s_ireturn C dX10_told_110 h
    · have h := h.2.2.2.2.2.1 hc
      refine s_tabIn C dX10_told_50 hc (by decide) (by decide) rfl rfl ?_
      refine s_aload_n C dX10_told_111 rfl ?_
      refine s_iconst C dX10_told_112 (by decide) ?_
      refine WA.fix (fun hF5 => ?_)
      obtain ⟨Q6, hKQ6, h⟩ := h
      refine s_callV (ci := 10) (av := [(0, (-1))]) (rest := []) (mc := 0) (ms := 0) C dX10_told_113 lk_X10_342 (sh_41 hF5) (by decide) rfl rfl rfl (Nat.le_of_ble_eq_true rfl) (by decide) (by decide) hKQ6 (fun z6 w6 M6 hq => ?_)
      have h := h z6 w6 M6 hq
      exact s_ireturn C dX10_told_116 h
    · have h := h.2.2.2.2.2.2 hc
      refine s_tabIn C dX10_told_50 hc (by decide) (by decide) rfl rfl ?_
      refine s_iload_n C dX10_told_117 rfl ?_
      exact s_ireturn C dX10_told_118 h
  · have h := h.2 hc
    refine s_iload_n C dX10_told_34 rfl ?_
    refine s_aload_n C dX10_told_35 rfl ?_
    refine WA.fix (fun hF7 => ?_)
    refine gf_X10_134 C (sh_41 hF7) dX10_told_36 (fx_41_50 hF7) ?_
    refine s_iload_n C dX10_told_39 rfl ?_
    obtain ⟨o8, h⟩ := h
    obtain ⟨o9, h⟩ := h
    refine s_iald (v0 := (M 83 l3)) C (sh_83 hF7) o8 o9 dX10_told_40 rfl ?_
    obtain ⟨o10, h⟩ := h
    refine s_iadd C dX10_told_41 o10 ?_
    refine s_istore_n (ls' := [(2, 41), (0, l1), (0, (l2 + (M 83 l3))), (0, l3)]) C dX10_told_42 (by decide) rfl rfl ?_
    obtain ⟨o11, h⟩ := h
    refine s_iinc (ls' := [(2, 41), (0, l1), (0, (l2 + (M 83 l3))), (0, (l3 + 1))]) C dX10_told_43 (by decide) rfl o11 rfl rfl ?_
    refine s_goto C dX10_told_46 rfl ?_
    exact h
theorem E_X10_told {G : GP} {l : Launch} {P : Int → NS → MM → Prop} {l1 : Int} {w : NS} {M : MM} (h : inR l1 → ∀ X : BX, X.2.1 = l → CX_X10_told G X → A_X10_told_0 G X P l1 w M) : CT_X10_told G l [(2, 41), (0, l1)] w M P :=
  CT.of RX10 "told" (by decide +kernel) rfl rfl rfl (Nat.le_of_ble_eq_true rfl) (fun hr X hX C => h (hr (0, l1) (by simp)) X hX C)
