/-! PARTED: THE MODEL's helpers -/
theorem cnN_mono {f : Int → Bool} : ∀ {n m : Nat}, n ≤ m → cnN f n ≤ cnN f m
  | n, 0, h => by rw [show n = 0 by omega]; exact Int.le_refl _
  | n, m + 1, h => by
    by_cases e : n = m + 1
    · rw [e]; exact Int.le_refl _
    · have := cnN_mono (f := f) (show n ≤ m by omega)
      rw [cnN]; split <;> omega
theorem cm_tried {G : GP} {l : Launch} {w : NS} {S M : MM} {B : Nat} (hI : SInv S) (hA : Ag S M) (hB : B < 2 ^ (S 41 4).toNat) (hR : RngP B (M 80)) : CT_X10_tried G l [(2, 41), (0, (B : Int))] w M (fun z w' M' => ((OKp S 0 B (M 80) ∧ smP S B (M 80) = z) ∨ (¬ OKp S 0 B (M 80) ∧ 1000000 = z)) ∧ w = w' ∧ Fo (fun x _ => x = 82) M M') := by
  refine E_X10_tried (fun _ X hX C => ?_)
  have hpg := hI.pg
  have h8 : (2 : Nat) ^ (S 41 4).toNat ≤ 2 ^ 8 := Nat.pow_le_pow_right (by decide) (by omega)
  have hun : 0 ≤ S 53 3 ∧ S 53 3 ≤ 1000 := hI.nm 3 (by decide) (by decide)
  have out : ∀ p : Int, (S 41 4).toNat ≤ p → tb B p = false := fun p hp => by rw [tb_nat]; exact tb_hi hB (by omega)
  have wk82 : WK (fun x _ => x = 82) := fun x i h => by subst h; exact ⟨rfl, fun q => absurd q (by decide)⟩
  generalize ha : M 80 = a at hR
  have m80 : ∀ M1, Fo (fun x _ => x = 82) M M1 → ∀ p, M1 80 p = a p := fun M1 hF p => by rw [hF 80 p (by omega), ha]
  have K2 : ∀ p : Int, p ≤ S 41 4 → ∀ (M1 : MM) (z : Int), 0 ≤ p → Fo (fun x _ => x = 82) M M1 → z = smN (fun q => if tb B q then misS S (a q) q else 0) p.toNat → (∀ r, 0 ≤ r → r ≤ 3 → M1 82 r = S 78 (2 * r + 1) - cnN (fun q => tb B q && decide (a q = r)) p.toNat * S 78 (2 * r) ∧ 0 ≤ M1 82 r) → A_X10_tried_33 G X (fun z w' M' => ((OKp S 0 B a ∧ smP S B a = z) ∨ (¬ OKp S 0 B a ∧ 1000000 = z)) ∧ w = w' ∧ Fo (fun x _ => x = 82) M M') B z p w M1 := up_ind _ (fun p hp ih M1 z p0 hF hz hr => by
    have hA1 := hF.ag wk82 hA
    obtain ⟨kf4, kf12, kf26, ke42, ke43, ke44, ke45, ke46, ke47, ke48, ke49, ke50, ke51, ke52, ke53, ke56, ke57, ke58, ke59, ke60, ke61, ke62, ke63, ke72, ke73, ke77, ke78, ke79, ke83⟩ := hA1.all
    refine B_X10_tried_33 C ?_
    simp only [kf4, kf12, kf26, ke42, ke43, ke44, ke45, ke46, ke47, ke48, ke49, ke50, ke51, ke52, ke53, ke56, ke57, ke58, ke59, ke60, ke61, ke62, ke63, ke72, ke73, ke77, ke78, ke79, ke83]
    rw [m80 M1 hF p]
    have hzb := smN_bnd (f := fun q => if tb B q then misS S (a q) q else 0) (m := 1000) (fun q => by
      have := mis_b hI (a q) q
      show 0 ≤ (if tb B q then misS S (a q) q else 0) ∧ (if tb B q then misS S (a q) q else 0) ≤ 1000
      split <;> omega) p.toNat
    refine ⟨fun h => ⟨Or.inl ⟨⟨fun q q0 q1 hq => hR q q0 q1 hq, fun r r0 r3 => ?_⟩, ?_⟩, by trivial, hF⟩, fun h => ?_⟩
    · have h1 := hr r r0 r3
      have e : ctR B a r = cnN (fun q => tb B q && decide (a q = r)) p.toNat := cnN_tail 8 (by omega) (fun k hk => by
        show (tb B k && decide (a k = r)) = false
        rw [out k (by omega)]; rfl)
      rw [e]; omega
    · rw [hz]
      exact smN_tl 8 (by omega) (fun k k0 k1 => by
        show (if tb B k then misS S (a k) k else 0) = 0
        rw [out k (by omega)]; rfl)
    · have ih2 := fun M2 z hF2 hz2 hr2 => ih (p + 1) (by omega) (by omega) M2 z (by omega) hF2 hz2 hr2
      rw [show (p + 1).toNat = p.toNat + 1 by omega] at ih2
      simp only [smN, cnN, show ((p.toNat : Nat) : Int) = p by omega] at ih2
      have hbt := z_hb (x := (B : Int)) (i := p) (by omega) (by omega) p0 (by omega)
      simp only [ne_eq, hbt]
      refine ⟨fun h1 => ⟨by omega, ih2 M1 z hF ?_ (fun r r0 r3 => ?_)⟩, fun h1 => ⟨p0, by omega, fun h2 => ?_, fun h2 => ⟨by omega, by omega, ih2 M1 _ hF ?_ (fun r r0 r3 => ?_)⟩⟩⟩
      · rw [if_neg h1, hz]; omega
      · rw [if_neg (by rw [Bool.eq_false_iff.mpr h1]; simp), Int.add_zero]; exact hr r r0 r3
      · have hap := hR p p0 (by omega) (Decidable.not_not.mp h1)
        have hr1 := hr (a p) hap.1 (by omega)
        have hmr := hI.mr (a p) hap.1 (by omega)
        have hmi := hI.mi (2 * a p + 1)
        have hpp := hI.pp p
        have hsl := hI.sl (10 * a p + S 43 p)
        have hct := cnN_rng (fun q => tb B q && decide (a q = a p)) p.toNat
        have hml := mulb (x := cnN (fun q => tb B q && decide (a q = a p)) p.toNat) (y := S 78 (2 * a p)) (by omega) (by omega) (by omega) (by omega)
        have emis : misS S (a p) p = S 79 (10 * a p + S 43 p) := by unfold misS; rw [if_neg h2]
        refine ⟨by omega, by omega, by omega, by omega, by omega, by omega, by omega, by omega, by omega, by omega, by omega, fun h3 => ⟨by omega, ih2 _ _ (fo_up hF _ rfl) ?_ (fun r r0 r3 => ?_)⟩, fun h3 => ⟨Or.inr ⟨fun hok => ?_, by trivial⟩, by trivial, fo_up hF _ rfl⟩⟩
        · rw [if_pos (Decidable.not_not.mp h1), hz, emis]
        · by_cases e : r = a p
          · rw [e, up_eq, if_pos (by rw [Decidable.not_not.mp h1]; simp), Int.add_mul, hr1.1]; omega
          · rw [up_ni e, if_neg (by rw [decide_eq_false (fun q => e q.symm)]; simp), Int.add_zero]; exact hr r r0 r3
        · have h4 := hok.2 (a p) hap.1 (by omega)
          have h5 : cnN (fun q => tb B q && decide (a q = a p)) (p.toNat + 1) ≤ ctR B a (a p) := cnN_mono (by omega)
          rw [cnN, show ((p.toNat : Nat) : Int) = p by omega, if_pos (by rw [Decidable.not_not.mp h1]; simp)] at h5
          have h6 := Int.mul_le_mul_of_nonneg_right h5 (show 0 ≤ S 78 (2 * a p) by omega)
          rw [Int.add_mul] at h6
          omega
      · have h2' := Decidable.not_not.mp h2
        rw [if_pos (Decidable.not_not.mp h1), hz]; unfold misS; rw [if_pos h2']
      · have h2' := Decidable.not_not.mp h2
        rw [if_neg (by rw [decide_eq_false (show ¬ a p = r by omega)]; simp), Int.add_zero]; exact hr r r0 r3)
  have K1 : ∀ r : Int, r ≤ 4 → ∀ M1, 0 ≤ r → Fo (fun x _ => x = 82) M M1 → (∀ q, 0 ≤ q → q < r → M1 82 q = S 78 (2 * q + 1)) → A_X10_tried_4 G X (fun z w' M' => ((OKp S 0 B a ∧ smP S B a = z) ∨ (¬ OKp S 0 B a ∧ 1000000 = z)) ∧ w = w' ∧ Fo (fun x _ => x = 82) M M') B 0 r w M1 := up_ind _ (fun r hr ih M1 r0 hF hq => by
    refine B_X10_tried_4 C ?_
    rw [(hF.ag wk82 hA).1 78 _ rfl]
    refine ⟨fun h => K2 0 (by omega) M1 0 (by omega) hF rfl (fun q q0 q3 => ?_), fun h => ⟨by omega, by omega, by omega, by omega, r0, by omega, by omega, ih (r + 1) (by omega) (by omega) _ (by omega) (fo_up hF _ rfl) (fun q q0 q1 => ?_)⟩⟩
    · have := hI.mi (2 * q + 1)
      rw [hq q q0 (by omega)]
      exact ⟨by simp [cnN], this.1⟩
    · by_cases e : q = r
      · rw [e, up_eq]
      · rw [up_ni e]; exact hq q q0 (by omega))
  exact B_X10_tried_0 C (K1 0 (by omega) M (by omega) (Fo.rfl' _ _) (fun q q0 q1 => by omega))
theorem cm_nextReads {G : GP} {l : Launch} {w : NS} {S M : MM} {B : Nat} (hI : SInv S) (hA : Ag S M) (hB : B < 2 ^ (S 41 4).toNat) (hR : RngP B (M 80)) : CT_X10_nextReads G l [(2, 41), (0, (B : Int))] w M (fun z w' M' => ((z = 0 ∧ ∀ c, RngP B c → vlP B c ≤ vlP B (M 80)) ∨ (z = 1 ∧ RngP B (M' 80) ∧ vlP B (M 80) < vlP B (M' 80) ∧ ∀ c, RngP B c → vlP B c < vlP B (M' 80) → vlP B c ≤ vlP B (M 80))) ∧ w = w' ∧ Fo (fun x _ => x = 80) M M') := by
  refine E_X10_nextReads (fun _ X hX C => ?_)
  have hpg := hI.pg
  have h8 : (2 : Nat) ^ (S 41 4).toNat ≤ 2 ^ 8 := Nat.pow_le_pow_right (by decide) (by omega)
  have out : ∀ p : Int, S 41 4 ≤ p → tb B p = false := fun p hp => by rw [tb_nat]; exact tb_hi hB (by omega)
  generalize ha : M 80 = a at hR
  have L := dn_ind (P := fun p => p < S 41 4 → ∀ M1, Fo (fun x _ => x = 80) M M1 → (∀ q, p < q → q < 8 → tb B q = true → a q = 4 ∧ M1 80 q = 0) → (∀ q, 0 ≤ q → q ≤ p → M1 80 q = a q) → A_X10_nextReads_7 G X (fun z w' M' => ((z = 0 ∧ ∀ c, RngP B c → vlP B c ≤ vlP B a) ∨ (z = 1 ∧ RngP B (M' 80) ∧ vlP B a < vlP B (M' 80) ∧ ∀ c, RngP B c → vlP B c < vlP B (M' 80) → vlP B c ≤ vlP B a)) ∧ w = w' ∧ Fo (fun x _ => x = 80) M M') B p w M1) (-1) (fun p hp ih hpP M1 hF h4 hlo => by
    refine B_X10_nextReads_7 C ?_
    refine ⟨fun h => ⟨Or.inl ⟨rfl, vl_top (fun q q0 q1 hq => (h4 q (by omega) q1 hq).1)⟩, rfl, hF⟩, fun h => ?_⟩
    have hbt := z_hb (x := (B : Int)) (i := p) (by omega) (by omega) (by omega) (by omega)
    simp only [ne_eq, hbt]
    rw [hlo p (by omega) (by omega)]
    have hap := fun hq => hR p (by omega) (by omega) hq
    refine ⟨fun h1 => ⟨by omega, ?_⟩, fun h1 => ⟨by omega, by omega, fun h2 => ⟨by omega, ?_⟩, fun h2 => ⟨by have := hap (Decidable.not_not.mp h1); omega, Or.inr ⟨by trivial, ?_⟩, by trivial, fo_up hF _ rfl⟩⟩⟩
    · rw [show p + -1 = p - 1 by omega]
      refine ih (p - 1) (by omega) (by omega) (by omega) M1 hF (fun q q0 q1 hq => ?_) (fun q q0 q1 => hlo q q0 (by omega))
      by_cases e : q = p
      · rw [e] at hq; exact absurd hq h1
      · exact h4 q (by omega) q1 hq
    · rw [show p + -1 = p - 1 by omega]
      have := hap (Decidable.not_not.mp h1)
      refine ih (p - 1) (by omega) (by omega) (by omega) _ (fo_up hF _ rfl) (fun q q0 q1 hq => ?_) (fun q q0 q1 => by rw [up_ni (by omega)]; exact hlo q q0 (by omega))
      by_cases e : q = p
      · rw [e, up_eq]; exact ⟨by omega, rfl⟩
      · rw [up_ni e]; exact h4 q (by omega) q1 hq
    · have := hap (Decidable.not_not.mp h1)
      refine vl_succ hR (p := p) (by omega) (by omega) (Decidable.not_not.mp h1) (by omega) up_eq (fun q q0 q1 hq => ?_) (fun q q0 q1 => ?_)
      · rw [up_ni (by omega)]; exact h4 q q0 q1 hq
      · rw [up_ni (by omega)]; exact hlo q q0 (by omega))
  refine B_X10_nextReads_0 C ?_
  rw [hA.2 4 rfl]
  refine ⟨by omega, L (S 41 4 - 1) (by omega) (by omega) M (Fo.rfl' _ _) (fun q q0 q1 hq => ?_) (fun q q0 q1 => by rw [ha])⟩
  rw [out q (by omega)] at hq; cases hq
