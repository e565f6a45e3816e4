/-! PARTED: THE MODEL -/
def FPT (x _i : Int) : Prop := 80 ≤ x ∧ x ≤ 82
theorem FPT_wk : WK FPT := fun x i h => by
  unfold FPT at h
  refine ⟨?_, fun e => by omega⟩
  unfold PA; simp; omega
theorem cm_parted {G : GP} {l : Launch} {w : NS} {S M : MM} {b i : Int} (hI : SInv S) (hA : Ag S M) : CT_X10_parted G l [(2, 41), (0, b), (0, i)] w M (PM w M (op_parted S b i)) := by
  refine E_X10_parted (fun _ _ X hX C => ?_)
  refine B_X10_parted_0 C ?_
  have hpg := hI.pg
  have h8 : (2 : Nat) ^ (S 41 4).toNat ≤ 2 ^ 8 := Nat.pow_le_pow_right (by decide) (by omega)
  have hp0 : 0 < 2 ^ (S 41 4).toNat := Nat.two_pow_pos _
  have ec : ((2 ^ (S 41 4).toNat : Nat) : Int) = (2 : Int) ^ (S 41 4).toNat := by rw [Int.natCast_pow]; rfl
  rw [hA.2 4 rfl, z_shl1 hpg.1 (by omega)]
  refine ⟨by omega, fun hb => ?_, fun hb => pm_s hA (by unfold op_parted; rw [if_neg (fun q => hb ⟨q.1, by omega⟩)])⟩
  obtain ⟨B, hBe⟩ : ∃ B : Nat, b = B := ⟨b.toNat, by omega⟩
  rw [hBe]
  have hB : B < 2 ^ (S 41 4).toNat := by omega
  have fin : ∀ M1 z, Fo FPT M M1 → (op_parted S b i).1 = z → PM w M (op_parted S b i) z w M1 := fun M1 z hF hz => pm_u (S1 := S) (by rw [← hz]; rfl) (hF.ag FPT_wk hA) (hF.frm (fun x i q => by unfold FPT at q; omega)) (hF.dk (fun x i q => by unfold FPT at q; unfold DC; omega))
  rw [hBe] at fin
  have all4 : OKp S 0 B (fun _ => 4) := ⟨fun p _ _ _ => ⟨(by decide : (0 : Int) ≤ 4), Int.le_refl _⟩, fun r h1 h2 => by
    rw [ctR_0 (fun p _ _ _ => by show (4 : Int) ≠ r; omega), Int.zero_mul]; exact (hI.mi _).1⟩
  -- the loop over all partings
  generalize hSt : (fun (M1 : MM) (v : Int) (least : Int) => ((least = 1000000 ∧ ∀ c, OKp S 0 B c → ¬ vlP B c < v) ∨ (OKp S 0 B (M1 81) ∧ smP S B (M1 81) = least ∧ vlP B (M1 81) < v ∧ ∀ c, OKp S 0 B c → vlP B c < v → cdS S B (M1 81) ≤ cdS S B c))) = St
  have END : ∀ M1 least, Fo FPT M M1 → MinP S B (M1 81) → smP S B (M1 81) = least → A_X10_parted_49 G X (PM w M (op_parted S B i)) B i least 0 w M1 := fun M1 least hF hmin hl => by
    obtain ⟨u1, u2⟩ := bst_un hI hmin
    refine B_X10_parted_49 C ?_
    rw [(hF.ag FPT_wk hA).2 4 rfl]
    refine ⟨fun _ => ⟨fun q => ⟨by omega, fun q2 => fin _ _ hF ?_, fun q2 => ?_⟩, fun q => fin _ _ hF ?_⟩, fun q => absurd rfl q⟩
    · unfold op_parted; rw [if_pos ⟨by omega, by omega⟩, if_neg q, if_neg (fun r => q2 r.1)]
    · rw [ne_eq, z_hb (x := (B : Int)) (i := i) (by omega) (by omega) q2.1 (by omega)]
      refine ⟨fun q3 => fin _ _ hF ?_, fun q3 => ⟨by omega, by omega, fin _ _ hF ?_⟩⟩
      · unfold op_parted; rw [if_pos ⟨by omega, by omega⟩, if_neg q, if_neg (fun r => q3 r.2)]
      · have q3' := Decidable.not_not.mp q3
        unfold op_parted; rw [if_pos ⟨by omega, by omega⟩, if_neg q, if_pos ⟨q2, q3'⟩, Int.toNat_natCast, u2 i (by omega) (by omega) q3']
    · unfold op_parted; rw [if_pos ⟨by omega, by omega⟩, if_pos (Decidable.not_not.mp q), Int.toNat_natCast, u1, hl]
  have L : ∀ v : Int, v ≤ 390625 → ∀ (M1 : MM) (least : Int), RngP B (M1 80) → vlP B (M1 80) = v → Fo FPT M M1 → St M1 v least → A_X10_parted_49 G X (PM w M (op_parted S B i)) B i least 1 w M1 := up_ind _ (fun v hv ih M1 least hR hvl hF hst => by
    have hA1 := hF.ag FPT_wk hA
    have hst2 := hst
    rw [← hSt] at hst2
    refine B_X10_parted_49 C ⟨fun q => absurd q (by decide), fun _ => ⟨_, cm_tried hI hA1 hB hR, ?_⟩⟩
    rintro z7 _ M7 ⟨ht, rfl, hF7⟩
    have hF7' : Fo FPT M M7 := hF.tr (hF7.mono (fun x i q => by unfold FPT; omega))
    have hA7 := hF7'.ag FPT_wk hA
    have e80 : M7 80 = M1 80 := funext fun p => hF7 80 p (by omega)
    have e81 : M7 81 = M1 81 := funext fun p => hF7 81 p (by omega)
    -- behind the try: this one counts too
    have go : ∀ (M8 : MM) (least' : Int), Fo FPT M M8 → (∀ p, M8 80 p = M1 80 p) → ((least' = 1000000 ∧ ∀ c, OKp S 0 B c → ¬ vlP B c ≤ v) ∨ (OKp S 0 B (M8 81) ∧ smP S B (M8 81) = least' ∧ vlP B (M8 81) ≤ v ∧ ∀ c, OKp S 0 B c → vlP B c ≤ v → cdS S B (M8 81) ≤ cdS S B c)) → ∃ Q9 : Int → NS → MM → Prop, CT_X10_nextReads G X.2.1 [(2, 41), (0, (B : Int))] w M8 Q9 ∧ ∀ (z9 : Int) (w9 : NS) (M9 : MM), Q9 z9 w9 M9 → A_X10_parted_49 G X (PM w M (op_parted S B i)) B i least' z9 w9 M9 := fun M8 least' hF8 e8 hst8 => by
      have e8' : M8 80 = M1 80 := funext e8
      refine ⟨_, cm_nextReads hI (hF8.ag FPT_wk hA) hB (by rw [e8']; exact hR), ?_⟩
      rintro z9 _ M9 ⟨hz, rfl, hF9⟩
      have hF9' : Fo FPT M M9 := hF8.tr (hF9.mono (fun x i q => by unfold FPT; omega))
      have e91 : M9 81 = M8 81 := funext fun p => hF9 81 p (by omega)
      rw [e8', hvl] at hz
      rcases hz with ⟨hz, htop⟩ | ⟨hz, n1, n2, n3⟩
      · rw [hz]
        rcases hst8 with ⟨s1, s2⟩ | ⟨s1, s2, s3, s4⟩
        · exact absurd (htop _ (okp_r all4)) (s2 _ all4)
        · rw [← e91] at s1 s2 s4
          exact END M9 least' hF9' ⟨s1, fun c hc => s4 c hc (htop c (okp_r hc))⟩ s2
      · rw [hz]
        have hlt := vl_b n1
        refine ih (vlP B (M9 80)) n2 (by omega) M9 least' n1 rfl hF9' ?_
        rw [← hSt]
        rcases hst8 with ⟨s1, s2⟩ | ⟨s1, s2, s3, s4⟩
        · exact Or.inl ⟨s1, fun c hc q => s2 c hc (n3 c (okp_r hc) q)⟩
        · exact Or.inr ⟨by rw [e91]; exact s1, by rw [e91]; exact s2, by rw [e91]; omega, fun c hc q => by rw [e91]; exact s4 c hc (n3 c (okp_r hc) q)⟩
    have va := vl_b hR
    have smb := sm_b hI B (M1 80)
    refine ⟨fun q => go M7 least hF7' (fun p => by rw [e80]) ?_, fun q => ?_⟩
    · rw [e81]
      rcases hst2 with ⟨s1, s2⟩ | ⟨s1, s2, s3, s4⟩
      · left
        refine ⟨s1, fun c hc hcv => ?_⟩
        by_cases e : vlP B c = v
        · rcases ht with ⟨t1, t2⟩ | ⟨t1, t2⟩
          · omega
          · apply t1
            have hd := vl_inj (okp_r hc) hR (e.trans hvl.symm)
            have hcg : ∀ p, 0 ≤ p → p < 8 → tb B p = true → c p = M1 80 p := fun p p0 p1 hp => by
              have := hd p p0 p1; unfold dgP at this; rwa [if_pos hp, if_pos hp] at this
            refine ⟨fun p p0 p1 hp => by rw [← hcg p p0 p1 hp]; exact hc.1 p p0 p1 hp, fun r r0 r3 => ?_⟩
            rw [← ctR_cg (s := B) (t := B) (a := c) (b := M1 80) (fun p p0 p1 => by
              cases e2 : tb B p
              · rfl
              · rw [hcg p p0 p1 e2])]
            exact hc.2 r r0 r3
        · exact s2 c hc (by omega)
      · right
        refine ⟨s1, s2, by omega, fun c hc hcv => ?_⟩
        by_cases e : vlP B c = v
        · have vc := vl_b (okp_r s1)
          have hd := vl_inj (okp_r hc) hR (e.trans hvl.symm)
          have hcg : ∀ p, 0 ≤ p → p < 8 → tb B p = true → c p = M1 80 p := fun p p0 p1 hp => by
            have := hd p p0 p1; unfold dgP at this; rwa [if_pos hp, if_pos hp] at this
          have hok : OKp S 0 B (M1 80) := by
            refine ⟨fun p p0 p1 hp => by rw [← hcg p p0 p1 hp]; exact hc.1 p p0 p1 hp, fun r r0 r3 => ?_⟩
            rw [← ctR_cg (s := B) (t := B) (a := c) (b := M1 80) (fun p p0 p1 => by
              cases e2 : tb B p
              · rfl
              · rw [hcg p p0 p1 e2])]
            exact hc.2 r r0 r3
          have hsm : smP S B c = smP S B (M1 80) := ssm_cg (fun p p0 p1 hp => by
            show misS S (c p) p = misS S (M1 80 p) p
            rw [hcg p p0 p1 hp])
          rcases ht with ⟨t1, t2⟩ | ⟨t1, t2⟩
          · rw [cd_eq, cd_eq, hsm, e, s2]; omega
          · exact absurd hok t1
        · exact s4 c hc (by omega)
    · -- a new least one
      have hok : OKp S 0 B (M1 80) ∧ smP S B (M1 80) = z7 := by
        rcases ht with t | ⟨t1, t2⟩
        · exact t
        · exfalso
          rcases hst2 with ⟨s1, s2⟩ | ⟨s1, s2, s3, s4⟩
          · omega
          · have := sm_b hI B (M1 81); omega
      have cp : ∀ p : Int, p ≤ 8 → ∀ M8, 0 ≤ p → Fo (fun x _ => x = 81) M7 M8 → (∀ q, 0 ≤ q → q < p → M8 81 q = M1 80 q) → A_X10_parted_73 G X (PM w M (op_parted S B i)) B i z7 p w M8 := up_ind _ (fun p hp ih2 M8 p0 hF8 hq => by
        refine B_X10_parted_73 C ?_
        have e8 : ∀ q, M8 80 q = M1 80 q := fun q => by rw [hF8 80 q (by omega), e80]
        rw [e8 p]
        refine ⟨fun h => go M8 z7 (hF7'.tr (hF8.mono (fun x i q => by unfold FPT; omega))) e8 (Or.inr ?_), fun h => ⟨p0, by omega, by omega, ih2 (p + 1) (by omega) (by omega) _ (by omega) (fo_up hF8 _ rfl) (fun q q0 q1 => ?_)⟩⟩
        · have hcg : ∀ q, 0 ≤ q → q < 8 → M1 80 q = M8 81 q := fun q q0 q1 => (hq q q0 (by omega)).symm
          refine ⟨okp_cg hcg hok.1, by rw [← sm_cg hcg]; exact hok.2, by rw [← vl_cg hcg]; omega, fun c hc hcv => ?_⟩
          have vc := vl_b (okp_r hc)
          rw [cd_eq, cd_eq, ← sm_cg hcg, ← vl_cg hcg, hok.2, hvl]
          by_cases e : vlP B c = v
          · have hd := vl_inj (okp_r hc) hR (e.trans hvl.symm)
            have hsm : smP S B c = smP S B (M1 80) := ssm_cg (fun p p0 p1 hp => by
              show misS S (c p) p = misS S (M1 80 p) p
              have := hd p p0 p1; unfold dgP at this; rw [if_pos hp, if_pos hp] at this; rw [this])
            rw [hsm, hok.2]; omega
          · rcases hst2 with ⟨s1, s2⟩ | ⟨s1, s2, s3, s4⟩
            · exact absurd (show vlP B c < v by omega) (s2 c hc)
            · have h5 := s4 c hc (by omega)
              have vb := vl_b (okp_r s1)
              rw [cd_eq, cd_eq, s2] at h5
              omega
        · by_cases e : q = p
          · rw [e, up_eq]
          · rw [up_ni e]; exact hq q q0 (by omega))
      exact cp 0 (by omega) M7 (by omega) (Fo.rfl' _ _) (fun q q0 q1 => by omega))
  have K : ∀ p : Int, p ≤ 8 → ∀ M1, 0 ≤ p → Fo FPT M M1 → (∀ q, 0 ≤ q → q < p → M1 80 q = 0) → A_X10_parted_23 G X (PM w M (op_parted S B i)) B i p w M1 := up_ind _ (fun p hp ih M1 p0 hF hq => by
    refine B_X10_parted_23 C ?_
    refine ⟨fun h => ?_, fun h => ⟨p0, by omega, by omega, ih (p + 1) (by omega) (by omega) _ (by omega) (fo_up hF _ (by unfold FPT; omega)) (fun q q0 q1 => ?_)⟩⟩
    · have hR : RngP B (M1 80) := fun q q0 q1 _ => by rw [hq q q0 (by omega)]; omega
      have hv := vl_b hR
      have hz : vlP B (M1 80) = 0 := by
        have d : ∀ q, 0 ≤ q → q < 8 → dgP B (M1 80) q = 0 := fun q q0 q1 => by unfold dgP; rw [hq q q0 (by omega)]; split <;> rfl
        unfold vlP
        rw [d 0 (by omega) (by omega), d 1 (by omega) (by omega), d 2 (by omega) (by omega), d 3 (by omega) (by omega), d 4 (by omega) (by omega), d 5 (by omega) (by omega), d 6 (by omega) (by omega), d 7 (by omega) (by omega)]; rfl
      refine L 0 (by omega) M1 1000000 hR hz hF ?_
      rw [← hSt]
      exact Or.inl ⟨rfl, fun c hc q => by have := vl_b (okp_r hc); omega⟩
    · by_cases e : q = p
      · rw [e, up_eq]
      · rw [up_ni e]; exact hq q q0 (by omega))
  exact K 0 (by omega) M (by omega) (Fo.rfl' _ _) (fun q q0 q1 => by omega)
