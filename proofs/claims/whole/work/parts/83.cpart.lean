/-! PARTED: THE CLASS -/
def MinP (S : MM) (s : Nat) (a : Int → Int) : Prop := OKp S 0 s a ∧ ∀ b, OKp S 0 s b → cdS S s a ≤ cdS S s b
noncomputable def bstP (S : MM) (s : Nat) : Int → Int := Classical.epsilon (MinP S s)
theorem bst_un {S : MM} {s : Nat} {a : Int → Int} (hI : SInv S) (h : MinP S s a) : smP S s (bstP S s) = smP S s a ∧ ∀ p, 0 ≤ p → p < 8 → tb s p = true → bstP S s p = a p := by
  have hb : MinP S s (bstP S s) := Classical.epsilon_spec ⟨a, h⟩
  have h1 := h.2 _ hb.1
  have h2 := hb.2 _ h.1
  have v1 := vl_b (okp_r h.1)
  have v2 := vl_b (okp_r hb.1)
  rw [cd_eq, cd_eq] at h1 h2
  have es : smP S s (bstP S s) = smP S s a := by omega
  refine ⟨es, fun p p0 p1 hp => ?_⟩
  have := vl_inj (okp_r hb.1) (okp_r h.1) (by omega) p p0 p1
  unfold dgP at this
  rwa [if_pos hp, if_pos hp] at this
noncomputable def op_parted (S : MM) (b i : Int) : Int × MM :=
  (if 0 ≤ b ∧ b < 2 ^ (S 41 4).toNat then (if i = -1 then smP S b.toNat (bstP S b.toNat) else if isPg S i ∧ tb b i = true then bstP S b.toNat i else -6) else -2, S)
theorem cd_b {S : MM} (hI : SInv S) {s : Nat} {a : Int → Int} (h : RngP s a) : 0 ≤ cdS S s a ∧ cdS S s a ≤ 3200000000 := by
  have h1 := sm_b hI s a
  have h2 := vl_b h
  rw [cd_eq]; omega
theorem mn_b {S : MM} (hI : SInv S) {R c : Int} {s : Nat} (hR : 0 ≤ R) (h : Mn S R s c) : 0 ≤ c ∧ c ≤ 3200000000 := by
  obtain ⟨⟨a, a1, a2⟩, -⟩ := h
  rw [← a2]
  exact cd_b hI (fun p p0 p1 hp => by have := a1.1 p p0 p1 hp; omega)
theorem cc_giveAll {G : GP} {l : Launch} {w : NS} {M : MM} {k : Int} {B : Nat} (hk : 0 ≤ k ∧ k ≤ 4) (hB : B < 256) : CT_X5_giveAll G l [(2, 20), (0, k), (0, (B : Int))] w M (fun _ w' M' => w = w' ∧ Fo (fun x _ => x = 23) M M' ∧ ∀ s : Nat, s ≤ B → M' 23 s = ssm (fun p => M 21 p * 390625 + k * PUf p.toNat) s) := by
  refine E_X5_giveAll (fun _ _ X hX C => ?_)
  refine WA.fix (fun hFx => WA.rng (fun hr => ?_))
  have h21 : ∀ i, inR (M 21 i) := fun i => by have := hr.1 21 i (by rw [sh_21 hFx]; decide); rw [sh_21 hFx] at this; exact this
  have pu := PUf_b
  have kp : ∀ j, 0 ≤ k * PUf j ∧ k * PUf j ≤ 312500 := fun j => by
    have := pu j
    rcases (show k = 0 ∨ k = 1 ∨ k = 2 ∨ k = 3 ∨ k = 4 by omega) with rfl | rfl | rfl | rfl | rfl <;> omega
  have gb : ∀ p : Int, -900000000000000 ≤ M 21 p * 390625 + k * PUf p.toNat ∧ M 21 p * 390625 + k * PUf p.toNat ≤ 900000000000000 := fun p => by
    have h1 := h21 p
    have h2 := kp p.toNat
    unfold inR at h1
    omega
  have sb : ∀ s : Nat, -(8 * 900000000000000) ≤ ssm (fun p => M 21 p * 390625 + k * PUf p.toNat) s ∧ ssm (fun p => M 21 p * 390625 + k * PUf p.toNat) s ≤ 8 * 900000000000000 := fun s => ssm_b gb
  have K : ∀ p : Nat, p < 8 → (∀ M1, Fo (fun x _ => x = 23) M M1 → (∀ s : Nat, s < 2 ^ (p + 1) → s ≤ B → M1 23 s = ssm (fun p => M 21 p * 390625 + k * PUf p.toNat) s) → A_X5_giveAll_9 G X (fun _ w' M' => w = w' ∧ Fo (fun x _ => x = 23) M M' ∧ ∀ s : Nat, s ≤ B → M' 23 s = ssm (fun p => M 21 p * 390625 + k * PUf p.toNat) s) k B ((p : Int) + 1) w M1) →
      ∀ t : Int, t ≤ (2 ^ (p + 1) : Nat) → ∀ M1, (2 ^ p : Nat) ≤ t → Fo (fun x _ => x = 23) M M1 → (∀ s : Nat, (s : Int) < t → s ≤ B → M1 23 s = ssm (fun p => M 21 p * 390625 + k * PUf p.toNat) s) → A_X5_giveAll_42 G X (fun _ w' M' => w = w' ∧ Fo (fun x _ => x = 23) M M' ∧ ∀ s : Nat, s ≤ B → M' 23 s = ssm (fun p => M 21 p * 390625 + k * PUf p.toNat) s) k B p (M 21 p * 390625 + k * PUf p) t w M1 := fun p hp nx => up_ind _ (fun t ht ih M1 t0 hF hs => by
    refine B_X5_giveAll_42 C ?_
    have hp2 : (2 : Nat) ^ (p + 1) ≤ 2 ^ 8 := Nat.pow_le_pow_right (by decide) (by omega)
    have hps : (2 : Nat) ^ (p + 1) = 2 ^ p * 2 := Nat.pow_succ ..
    have z2 : zshl 2 (p : Int) = ((2 ^ (p + 1) : Nat) : Int) := by
      have := z_shl 2 p (by omega) (by rw [Nat.mul_comm, ← hps]; omega)
      rw [Nat.mul_comm, ← hps] at this
      exact this
    have z1 : zshl 1 (p : Int) = ((2 ^ p : Nat) : Int) := by have := z_shl1 (p := (p : Int)) (by omega) (by omega); rwa [Int.toNat_natCast] at this
    rw [z2, z1]
    refine ⟨fun h => ⟨by omega, nx M1 hF (fun s q1 q2 => hs s (by omega) q2)⟩, fun h => ⟨fun h2 => ⟨by omega, nx M1 hF (fun s q1 q2 => hs s (by omega) q2)⟩, fun h2 => ?_⟩⟩
    obtain ⟨tn, htn⟩ : ∃ tn : Nat, t = tn := ⟨t.toNat, by omega⟩
    have hbit : tn.testBit p = true := by
      have e : tn = 2 ^ p * 1 + (tn - 2 ^ p) := by omega
      rw [e, Nat.testBit_two_pow_mul_add _ (show tn - 2 ^ p < 2 ^ p by omega), if_neg (by omega), show p - p = 0 by omega]; rfl
    have hsub : SbM (2 ^ p) tn := by
      rw [sbm_tb]; intro i hi
      rw [Nat.testBit_two_pow, decide_eq_true_eq] at hi
      rw [← hi]; exact hbit
    have hpos : 0 < 2 ^ p := Nat.two_pow_pos p
    have hlt := xor_lt_of hsub hpos
    have zx : zxor t ((2 ^ p : Nat) : Int) = ((tn ^^^ 2 ^ p : Nat) : Int) := by rw [htn]; exact z_xor _ _ (by omega) (by omega)
    rw [zx, hs (tn ^^^ 2 ^ p) (by omega) (by omega)]
    have hsum : ssm (fun p => M 21 p * 390625 + k * PUf p.toNat) tn = ssm (fun p => M 21 p * 390625 + k * PUf p.toNat) (tn ^^^ 2 ^ p) + (M 21 p * 390625 + k * PUf p) := by
      rw [ssm_add hsub, ssm_one _ hp, Int.toNat_natCast]; omega
    have b1 := sb (tn ^^^ 2 ^ p)
    have b2 := gb p
    rw [Int.toNat_natCast] at b2
    refine ⟨by omega, by omega, by unfold inL; omega, by omega, by omega, by omega, ih (t + 1) (by omega) (by omega) _ (by omega) (fo_up hF _ rfl) (fun s q1 q2 => ?_)⟩
    by_cases e : (s : Int) = t
    · rw [e, up_eq, ← hsum, show s = tn by omega]
    · rw [up_ni e]; exact hs s (by omega) q2)
  have L : ∀ p : Int, p ≤ 8 → ∀ M1, 0 ≤ p → Fo (fun x _ => x = 23) M M1 → (∀ s : Nat, s < 2 ^ p.toNat → s ≤ B → M1 23 s = ssm (fun p => M 21 p * 390625 + k * PUf p.toNat) s) → A_X5_giveAll_9 G X (fun _ w' M' => w = w' ∧ Fo (fun x _ => x = 23) M M' ∧ ∀ s : Nat, s ≤ B → M' 23 s = ssm (fun p => M 21 p * 390625 + k * PUf p.toNat) s) k B p w M1 := up_ind _ (fun p hp ih M1 p0 hF hs => by
    refine B_X5_giveAll_9 C ?_
    rw [hF 21 p (by omega)]
    refine ⟨fun h => ⟨rfl, hF, fun s hsB => hs s (by rw [show p.toNat = 8 by omega]; omega) hsB⟩, fun h => ?_⟩
    have h1 := h21 p
    have h2 := kp p.toNat
    unfold inR at h1
    have hpp : ((p.toNat : Nat) : Int) = p := by omega
    refine ⟨p0, by omega, by unfold inL; omega, by omega, by unfold inL; omega, ?_⟩
    have := K p.toNat (by omega) (fun M2 g1 g2 => by
      rw [hpp]
      refine ih (p + 1) (by omega) (by omega) M2 (by omega) g1 ?_
      rw [show (p + 1).toNat = p.toNat + 1 by omega]; exact g2) ((2 ^ p.toNat : Nat) : Int) (by rw [Nat.pow_succ]; omega) M1 (by omega) hF (fun s q1 q2 => hs s (by omega) q2)
    rw [hpp] at this
    rw [z_shl1 p0 (by omega)]
    exact this)
  refine B_X5_giveAll_0 C (L 0 (by omega) _ (by omega) (fo_up (Fo.rfl' _ _) _ rfl) (fun s q1 q2 => ?_))
  have : s = 0 := by simp at q1; exact q1
  rw [this, show ((0 : Nat) : Int) = 0 from rfl, up_eq, ssm_0]
theorem cc_leaveUnread {G : GP} {l : Launch} {w : NS} {S M : MM} {B : Nat} (hI : SInv S) (hB : B < 256) (h21 : ∀ p, 0 ≤ p → p < 8 → tb B p = true → M 21 p = misS S 4 p) : CT_X5_leaveUnread G l [(2, 20), (0, (B : Int))] w M (fun _ w' M' => w = w' ∧ Fo (fun x _ => x = 22 ∨ x = 23) M M' ∧ ∀ s : Nat, SbM s B → Mn S 4 s (M' 22 s)) := by
  refine E_X5_leaveUnread (fun _ X hX C => ?_)
  refine B_X5_leaveUnread_0 C ⟨_, cc_giveAll (by omega) hB, ?_⟩
  rintro z2 _ M2 ⟨rfl, hF2, hs2⟩
  have L : ∀ t : Int, t ≤ (B : Int) + 1 → ∀ M1, 0 ≤ t → Fo (fun x _ => x = 22) M2 M1 → (∀ s : Nat, (s : Int) < t → M1 22 s = M2 23 s) → A_X5_leaveUnread_8 G X (fun _ w' M' => w = w' ∧ Fo (fun x _ => x = 22 ∨ x = 23) M M' ∧ ∀ s : Nat, SbM s B → Mn S 4 s (M' 22 s)) B t w M1 := up_ind _ (fun t ht ih M1 t0 hF hs => by
    refine B_X5_leaveUnread_8 C ?_
    refine ⟨fun h => ⟨rfl, (hF2.mono (fun x i q => Or.inr q)).tr (hF.mono (fun x i q => Or.inl q)), fun s hsub => ?_⟩, fun h => ⟨t0, by omega, by omega, ih (t + 1) (by omega) (by omega) _ (by omega) (fo_up hF _ rfl) (fun s q => ?_)⟩⟩
    · have hle := sbm_le hsub
      rw [hs s (by omega), hs2 s hle]
      have e4 : ∀ a, OKp S 4 s a → cdS S s a = ssm (fun p => M 21 p * 390625 + 4 * PUf p.toNat) s := fun a ha => ssm_cg (fun p p0 p1 hp => by
        have h1 := ha.1 p p0 p1 hp
        show cst S (a p) p = M 21 p * 390625 + 4 * PUf p.toNat
        rw [show a p = 4 by omega, h21 p p0 p1 (sbm_tbi hsub p hp)]; rfl)
      refine ⟨⟨fun _ => 4, ?_, ?_⟩, fun a ha => Int.le_of_eq (e4 a ha).symm⟩
      · exact ⟨fun p _ _ _ => ⟨Int.le_refl _, Int.le_refl _⟩, fun r h1 h2 => by omega⟩
      · exact e4 _ ⟨fun p _ _ _ => ⟨Int.le_refl _, Int.le_refl _⟩, fun r h1 h2 => by omega⟩
    · by_cases e : (s : Int) = t
      · rw [e, up_eq, hF 23 t (by omega)]
      · rw [up_ni e]; exact hs s (by omega))
  exact L 0 (by omega) M2 (by omega) (Fo.rfl' _ _) (fun s q => by omega)
theorem popc_q {s : Nat} (h : s < 256) : popc (s : Int) = ctq s := by
  unfold popc ctq
  rw [popc_l]
  exact cnN_tail 32 (by decide) (fun k hk => by rw [tb_nat]; exact tb_hi (m := 8) h (by omega))
theorem cc_offerTo {G : GP} {l : Launch} {w : NS} {S M : MM} {r : Int} {B : Nat} (hI : SInv S) (hr : 0 ≤ r ∧ r ≤ 3) (hB : B < 256) (ht : w.2 (33 + 2 * r) = (8, 4)) (h0 : M (33 + 2 * r) 0 = S 78 (2 * r)) (h1 : M (33 + 2 * r) 1 = S 78 (2 * r + 1)) (h21 : ∀ p, 0 ≤ p → p < 8 → tb B p = true → M 21 p = misS S r p) (h22 : ∀ s : Nat, SbM s B → Mn S (r + 1) s (M 22 s)) : CT_X5_offerTo G l [(2, 20), (2, 33 + 2 * r), (0, r), (0, (B : Int))] w M (fun _ w' M' => w = w' ∧ Fo (fun x _ => x = 22 ∨ x = 23) M M' ∧ ∀ s : Nat, SbM s B → Mn S r s (M' 22 s)) := by
  refine E_X5_offerTo (fun _ _ X hX C => ?_)
  refine B_X5_offerTo_0 C ⟨_, cc_giveAll (by omega) hB, ?_⟩
  rintro z2 _ M2 ⟨rfl, hF2, hs2⟩
  have e23 : ∀ s : Nat, SbM s B → M2 23 s = ssm (cst S r) s := fun s hsub => by
    rw [hs2 s (sbm_le hsub)]
    exact ssm_cg (fun p p0 p1 hp => by
      show M 21 p * 390625 + r * PUf p.toNat = cst S r p
      rw [h21 p p0 p1 (sbm_tbi hsub p hp)]; rfl)
  have hm := hI.mr r hr.1 hr.2
  have b23 : ∀ s : Nat, 0 ≤ ssm (cst S r) s ∧ ssm (cst S r) s ≤ 8 * 400000000 := fun s => ssm_nn (fun p => cst_b hI (by omega))
  have sbB : ∀ {q s : Nat}, SbM q s → SbM s B → SbM q B := fun h1 h2 => by rw [sbm_tb] at *; exact fun i hi => h2 i (h1 i hi)
  -- one set: its own parts
  have K : ∀ s : Nat, SbM s B → 0 < s → (∀ M1, Fo (fun x _ => x = 22) M2 M1 → (∀ q : Nat, SbM q B → s ≤ q → Mn S r q (M1 22 q)) → (∀ q : Nat, SbM q B → q < s → Mn S (r + 1) q (M1 22 q)) → A_X5_offerTo_9 G X (fun _ w' M' => w = w' ∧ Fo (fun x _ => x = 22 ∨ x = 23) M M' ∧ ∀ s : Nat, SbM s B → Mn S r s (M' 22 s)) (33 + 2 * r) B (((s - 1) &&& B : Nat) : Int) w M1) →
      ∀ (o : Nat) (M1 : MM), SbM o s → Fo (fun x _ => x = 22) M2 M1 → (∀ q : Nat, SbM q B → s < q → Mn S r q (M1 22 q)) → (∀ q : Nat, SbM q B → q < s → Mn S (r + 1) q (M1 22 q)) → Pn S r s o (M1 22 s) → A_X5_offerTo_18 G X (fun _ w' M' => w = w' ∧ Fo (fun x _ => x = 22 ∨ x = 23) M M' ∧ ∀ s : Nat, SbM s B → Mn S r s (M' 22 s)) (33 + 2 * r) B s o w M1 := by
    intro s hsB hs0 nx o
    induction o using Nat.strongRecOn with
    | _ o ih =>
      intro M1 ho hF hgt hlt hP
      have hsle := sbm_le hsB
      have hole := sbm_le ho
      have zs : zand ((s : Int) - 1) (B : Int) = (((s - 1) &&& B : Nat) : Int) := by rw [show (s : Int) - 1 = ((s - 1 : Nat) : Int) by omega, z_and _ _ (by omega)]
      refine B_X5_offerTo_18 C ?_
      rw [hF _ 0 (by omega), hF _ 1 (by omega), hF2 _ 0 (by omega), hF2 _ 1 (by omega), h0, h1, zs]
      refine ⟨fun h => ⟨by omega, nx M1 hF (fun q hq hle => ?_) hlt⟩, fun h => ?_⟩
      · by_cases e : q = s
        · rw [e]
          have : o = 0 := by omega
          rw [this] at hP; exact pn_end hr.2 hP
        · exact hgt q hq (by omega)
      · have ho0 : 0 < o := by omega
        have zo : zand ((o : Int) - 1) (s : Int) = (((o - 1) &&& s : Nat) : Int) := by rw [show (o : Int) - 1 = ((o - 1 : Nat) : Int) by omega, z_and _ _ (by omega)]
        have zx : zxor (s : Int) (o : Int) = ((s ^^^ o : Nat) : Int) := z_xor _ _ (by omega) (by omega)
        have hol := and_pred_lt (s := s) ho0
        have hxl := xor_lt_of ho ho0
        have hct := cnN_rng (fun p => tb o p) 8
        have hct2 : 0 ≤ ctq o ∧ ctq o ≤ 8 := hct
        have hmul := mulb (x := ctq o) (y := S 78 (2 * r)) (by omega) (by omega) (by omega) (by omega)
        have hxB : SbM (s ^^^ o) B := sbB (xor_sub ho) hsB
        have hMx := hlt (s ^^^ o) hxB hxl
        have bMx := mn_b hI (by omega) hMx
        have bo := b23 o
        rw [popc_q (by omega), zo, zx, hF 23 _ (by omega), e23 o (sbB ho hsB)]
        refine ⟨by omega, by omega, ht, by omega, fun q => ⟨by omega, ih _ hol M1 (sbm_and _ _) hF hgt hlt (pn_skip hP ho0 ho (by omega))⟩, fun q => ⟨by omega, by omega, by omega, by omega, by omega, by unfold inL; omega, by omega, ?_⟩⟩
        refine ih _ hol _ (sbm_and _ _) (fo_up hF _ rfl) (fun t ht2 hts => ?_) (fun t ht2 hts => ?_) ?_
        · rw [up_ni (by omega)]; exact hgt t ht2 hts
        · rw [up_ni (by omega)]; exact hlt t ht2 hts
        · rw [up_eq]; exact pn_take hr hP ho0 ho (by omega) hMx
  have L : ∀ (s : Nat) (M1 : MM), SbM s B → Fo (fun x _ => x = 22) M2 M1 → (∀ q : Nat, SbM q B → s < q → Mn S r q (M1 22 q)) → (∀ q : Nat, SbM q B → q ≤ s → Mn S (r + 1) q (M1 22 q)) → A_X5_offerTo_9 G X (fun _ w' M' => w = w' ∧ Fo (fun x _ => x = 22 ∨ x = 23) M M' ∧ ∀ s : Nat, SbM s B → Mn S r s (M' 22 s)) (33 + 2 * r) B s w M1 := by
    intro s
    induction s using Nat.strongRecOn with
    | _ s ih =>
      intro M1 hsB hF hgt hle
      refine B_X5_offerTo_9 C ?_
      refine ⟨fun h => ⟨rfl, (hF2.mono (fun x i q => Or.inr q)).tr (hF.mono (fun x i q => Or.inl q)), fun q hq => ?_⟩, fun h => ?_⟩
      · by_cases e : q = 0
        · have hz := hle 0 (by unfold SbM; exact Nat.zero_and _) (by omega)
          rw [e]
          refine ⟨?_, fun a ha => ?_⟩
          · obtain ⟨⟨a, a1, a2⟩, -⟩ := hz
            exact ⟨a, okp_up hI a1, a2⟩
          · obtain ⟨⟨b, b1, b2⟩, -⟩ := hz
            rw [← b2]
            unfold cdS; rw [ssm_0, ssm_0]; exact Int.le_refl _
        · exact hgt q hq (by omega)
      · refine K s hsB (by omega) (fun M3 g1 g2 g3 => ?_) s M1 (Nat.and_self _) hF hgt (fun q hq hl => hle q hq (by omega)) (pn_start hI (hle s hsB (Nat.le_refl _)))
        have hs0 : 0 < s := by omega
        refine ih _ (and_pred_lt hs0) M3 (sbm_and _ _) g1 (fun q hq hl => ?_) (fun q hq hl => g3 q hq (by have := and_pred_lt (s := B) hs0; omega))
        by_cases c : q < s
        · have := sbm_next s s q B (Nat.le_refl _) hs0 hsB hq c; omega
        · exact g2 q hq (by omega)
  exact L B M2 (Nat.and_self _) (Fo.rfl' _ _) (fun q hq hl => by have := sbm_le hq; omega) (fun q hq hl => by rw [hF2 22 _ (by omega)]; exact h22 q hq)
theorem cc_leastParting {G : GP} {l : Launch} {w : NS} {S M : MM} {B : Nat} (hI : SInv S) (hC : CInv S w M) (hB : (B : Int) < 2 ^ (S 41 4).toNat) : CT_X9_leastParting G l [(2, 1), (0, (B : Int))] w M (fun z w' M' => Mn S 0 B z ∧ w = w' ∧ Fo (fun x _ => 21 ≤ x ∧ x ≤ 23) M M') := by
  refine E_X9_leastParting (fun _ X hX C => ?_)
  refine WA.fix (fun hFx => ?_)
  have hpg := hI.pg
  have hB2 : B < 2 ^ (S 41 4).toNat := by exact_mod_cast hB
  have h8 : (2 : Nat) ^ (S 41 4).toNat ≤ 2 ^ 8 := Nat.pow_le_pow_right (by decide) (by omega)
  have inP : ∀ p : Int, 0 ≤ p → tb B p = true → p < S 41 4 := fun p p0 hp => by
    apply Int.not_le.mp
    intro q
    rw [tb_nat, tb_hi hB2 (by omega)] at hp; cases hp
  have wk : ∀ M1, Fo (fun x _ => 21 ≤ x ∧ x ≤ 23) M M1 → CInv S w M1 ∧ (∀ x i, x ≤ 20 ∨ 24 ≤ x → M1 x i = M x i) := fun M1 hF => by
    have hFw : Fo (FWK S M) M M1 := hF.mono (fun x i q => by unfold FWK; omega)
    exact ⟨hC.work hI hFw (CFam.wk hC (hF _ _ (by omega)) (fun k => hF _ _ (by omega)) (fun k i hk => hF _ _ (by have := (hC.pc k hk).1; omega))), fun x i hx => hF x i (by omega)⟩
  have K2 : ∀ r : Int, 0 ≤ r → r ≤ 3 → (∀ M1, Fo (fun x _ => 21 ≤ x ∧ x ≤ 23) M M1 → (∀ s : Nat, SbM s B → Mn S r s (M1 22 s)) → A_X9_leastParting_41 G X (fun z w' M' => Mn S 0 B z ∧ w = w' ∧ Fo (fun x _ => 21 ≤ x ∧ x ≤ 23) M M') B (r - 1) w M1) →
      ∀ p : Int, p ≤ S 41 4 → ∀ M1, 0 ≤ p → Fo (fun x _ => 21 ≤ x ∧ x ≤ 23) M M1 → (∀ s : Nat, SbM s B → Mn S (r + 1) s (M1 22 s)) → (∀ q, 0 ≤ q → q < p → M1 21 q = misS S r q) → A_X9_leastParting_47 G X (fun z w' M' => Mn S 0 B z ∧ w = w' ∧ Fo (fun x _ => 21 ≤ x ∧ x ≤ 23) M M') B r p w M1 := fun r r0 r3 nx => up_ind _ (fun p hp ih M1 p0 hF hM hq => by
    obtain ⟨c1, c2⟩ := wk M1 hF
    obtain ⟨f1, f2⟩ := fixR hFx r0 r3
    have hrd := c1.rd r r0 r3
    refine B_X9_leastParting_47 C ?_
    rw [c1.top.1, c2 19 r (by omega), f1]
    refine ⟨fun h => ⟨r0, by omega, _, cc_offerTo hI ⟨r0, r3⟩ (by omega) f2 hrd.1 hrd.2.1 (fun q q0 q1 hq2 => hq q q0 (by have := inP q q0 hq2; omega)) hM, ?_⟩, fun h => ?_⟩
    · rintro z4 _ M4 ⟨rfl, hF4, hM4⟩
      refine ⟨by omega, ?_⟩
      rw [show r + -1 = r - 1 by omega]
      exact nx M4 (hF.tr (hF4.mono (fun x i q => by omega))) hM4
    · have hG := c1.pg p ⟨p0, by omega⟩
      have hpp := hI.pp p
      rw [hG.2.2.2.2.1, hrd.2.2.2 (S 43 p) hpp.1 hpp.2]
      refine ⟨r0, by omega, f2, p0, by omega, hG.2.1, by omega, by omega, by omega, ih (p + 1) (by omega) (by omega) _ (by omega) (fo_up hF _ (by omega)) (fun s hs => by rw [up_na (by decide)]; exact hM s hs) (fun q q0 q1 => ?_)⟩
      by_cases e : q = p
      · rw [e, up_eq]; unfold misS; rw [if_neg (by omega)]
      · rw [up_ni e]; exact hq q q0 (by omega))
  have K1 := dn_ind (P := fun r => r ≤ 3 → ∀ M1, Fo (fun x _ => 21 ≤ x ∧ x ≤ 23) M M1 → (∀ s : Nat, SbM s B → Mn S (r + 1) s (M1 22 s)) → A_X9_leastParting_41 G X (fun z w' M' => Mn S 0 B z ∧ w = w' ∧ Fo (fun x _ => 21 ≤ x ∧ x ≤ 23) M M') B r w M1) (-1) (fun r hr ih hr3 M1 hF hM => by
    refine B_X9_leastParting_41 C ?_
    refine ⟨fun h => ⟨by omega, by omega, ?_, rfl, hF⟩, fun h => K2 r (by omega) hr3 (fun M2 g1 g2 => ih (r - 1) (by omega) (by omega) (by omega) M2 g1 (by rw [show r - 1 + 1 = r by omega]; exact g2)) 0 (by omega) M1 (by omega) hF hM (fun q q0 q1 => by omega)⟩
    have := hM B (Nat.and_self _)
    rwa [show r + 1 = 0 by omega] at this)
  have K0 : ∀ p : Int, p ≤ S 41 4 → ∀ M1, 0 ≤ p → Fo (fun x _ => 21 ≤ x ∧ x ≤ 23) M M1 → (∀ q, 0 ≤ q → q < p → M1 21 q = misS S 4 q) → A_X9_leastParting_2 G X (fun z w' M' => Mn S 0 B z ∧ w = w' ∧ Fo (fun x _ => 21 ≤ x ∧ x ≤ 23) M M') B p w M1 := up_ind _ (fun p hp ih M1 p0 hF hq => by
    obtain ⟨c1, c2⟩ := wk M1 hF
    refine B_X9_leastParting_2 C ?_
    rw [c1.top.1, c1.num.1 3 (by decide) (by decide)]
    refine ⟨fun h => ⟨_, cc_leaveUnread hI (by omega) (fun q q0 q1 hq2 => hq q q0 (by have := inP q q0 hq2; omega)), ?_⟩, fun h => ⟨p0, by omega, by omega, ih (p + 1) (by omega) (by omega) _ (by omega) (fo_up hF _ (by omega)) (fun q q0 q1 => ?_)⟩⟩
    · rintro z2 _ M2 ⟨rfl, hF2, hM2⟩
      exact K1 3 (by omega) (by omega) M2 (hF.tr (hF2.mono (fun x i q => by omega))) hM2
    · by_cases e : q = p
      · rw [e, up_eq]; unfold misS; rw [if_pos rfl]
      · rw [up_ni e]; exact hq q q0 (by omega))
  exact B_X9_leastParting_0 C (K0 0 (by omega) M (by omega) (Fo.rfl' _ _) (fun q q0 q1 => by omega))
theorem cc_readerOf {G : GP} {l : Launch} {w : NS} {M : MM} {c i d : Int} (hi : 0 ≤ i ∧ i < 8) (f : Int → Int) (f7 : f 7 = c) (fs : ∀ p, 0 < p → p ≤ 7 → 0 ≤ f p ∧ f p / 5 = f (p - 1)) (f0 : 0 ≤ f i) (fd : f i % 5 = d) : CT_X5_readerOf G l [(1, c), (0, i)] w M (PE d w M) := by
  refine E_X5_readerOf (fun _ _ X hX C => ?_)
  have L := dn_ind (P := fun p => p ≤ 7 → A_X5_readerOf_6 G X (PE d w M) i (f p) p w M) i (fun p hp ih hp7 => by
    refine B_X5_readerOf_6 C ?_
    refine ⟨fun h => ?_, fun h => ⟨(fs p (by omega) hp7).1, by omega, ?_⟩⟩
    · rw [show p = i by omega]
      exact ⟨f0, by omega, fd.symm, rfl, rfl⟩
    · rw [(fs p (by omega) hp7).2, show p + -1 = p - 1 by omega]
      exact ih (p - 1) (by omega) (by omega) (by omega))
  have := L 7 (by omega) (by omega)
  rw [f7] at this
  exact B_X5_readerOf_0 C this
theorem cc_sumOf {G : GP} {l : Launch} {w : NS} {M : MM} {c : Int} (hc : 0 ≤ c ∧ c ≤ 3200000000) : CT_X5_sumOf G l [(1, c)] w M (PE (c / 390625) w M) := by
  refine E_X5_sumOf (fun _ X hX C => ?_)
  exact B_X5_sumOf_0 C ⟨hc.1, by omega, rfl, rfl, rfl⟩
theorem cc_parted {G : GP} {l : Launch} {w : NS} {S M : MM} {b i : Int} (hI : SInv S) (hC : CInv S w M) : CT_X9_parted G l [(2, 1), (0, b), (0, i)] w M (PC M (op_parted S b i)) := by
  refine E_X9_parted (fun _ _ X hX C => ?_)
  refine B_X9_parted_0 C ?_
  have hpg := hI.pg
  have h8 : (2 : Nat) ^ (S 41 4).toNat ≤ 2 ^ 8 := Nat.pow_le_pow_right (by decide) (by omega)
  have hp0 : 0 < 2 ^ (S 41 4).toNat := Nat.two_pow_pos _
  have ec : ((2 ^ (S 41 4).toNat : Nat) : Int) = (2 : Int) ^ (S 41 4).toNat := by rw [Int.natCast_pow]; rfl
  rw [hC.top.1, z_shl1 hpg.1 (by omega)]
  have main : (0 ≤ b ∧ b < ((2 ^ (S 41 4).toNat : Nat) : Int)) → (i = -1 ∨ (isPg S i ∧ tb b i = true)) → ∃ Q4 : Int → NS → MM → Prop, CT_X9_leastParting G X.2.1 [(2, 1), (0, b)] w M Q4 ∧ ∀ (z4 : Int) (w4 : NS) (M4 : MM), Q4 z4 w4 M4 → (((i ≠ (-1)) → ∃ Q5 : Int → NS → MM → Prop, CT_X5_readerOf G X.2.1 [(1, z4), (0, i)] w4 M4 Q5 ∧ ∀ (z5 : Int) (w5 : NS) (M5 : MM), Q5 z5 w5 M5 → PC M (op_parted S b i) z5 w5 M5) ∧ ((¬ (i ≠ (-1))) → ∃ Q6 : Int → NS → MM → Prop, CT_X5_sumOf G X.2.1 [(1, z4)] w4 M4 Q6 ∧ ∀ (z6 : Int) (w6 : NS) (M6 : MM), Q6 z6 w6 M6 → PC M (op_parted S b i) z6 w6 M6)) := fun hb hi => by
    have hbn : ((b.toNat : Nat) : Int) = b := by omega
    have hl := cc_leastParting (G := G) (l := X.2.1) (B := b.toNat) hI hC (by rw [hbn]; omega)
    rw [hbn] at hl
    refine ⟨_, hl, ?_⟩
    rintro z4 _ M4 ⟨⟨⟨a, a1, a2⟩, a3⟩, rfl, hF4⟩
    have hmin : MinP S b.toNat a := ⟨a1, fun c hc => by rw [a2]; exact a3 c hc⟩
    obtain ⟨u1, u2⟩ := bst_un hI hmin
    obtain ⟨d1, d2, d3⟩ := mn_dec hI a1 a2
    have hFw : Fo (FWK S M) M M4 := hF4.mono (fun x i q => by unfold FWK; omega)
    have hC4 : CInv S w M4 := hC.work hI hFw (CFam.wk hC (hF4 _ _ (by omega)) (fun k => hF4 _ _ (by omega)) (fun k i hk => hF4 _ _ (by have := (hC.pc k hk).1; omega)))
    have fr := FWK.frc hC hFw
    refine ⟨fun q => ?_, fun q => ⟨_, cc_sumOf d1, ?_⟩⟩
    · obtain ⟨hip, hit⟩ := hi.resolve_left q
      have hip2 := hip
      unfold isPg at hip2
      obtain ⟨f, f7, fs, f0, fd⟩ := d3 i (by omega) (by omega)
      refine ⟨_, cc_readerOf (by omega) f f7 fs f0 fd, ?_⟩
      rintro _ _ _ ⟨rfl, rfl, rfl⟩
      refine pc_u (S1 := S) ?_ hC4 fr
      unfold op_parted dgP
      rw [if_pos ⟨hb.1, by omega⟩, if_neg q, if_pos ⟨hip, hit⟩, hbn, if_pos hit, u2 i (by omega) (by omega) (by rw [hbn]; exact hit)]
    · rintro _ _ _ ⟨rfl, rfl, rfl⟩
      refine pc_u (S1 := S) ?_ hC4 fr
      unfold op_parted
      rw [if_pos ⟨hb.1, by omega⟩, if_pos (Decidable.not_not.mp q), u1, d2]
  refine ⟨by omega, fun h => ⟨fun h2 => main (by omega) (Or.inl h2), fun h2 => ⟨by omega, fun h3 => pc_s hC ?_, fun h3 => ?_⟩⟩, fun h => pc_s hC ?_⟩
  · unfold op_parted; rw [if_pos ⟨h.1, by omega⟩, if_neg h2, if_neg (fun q => h3 (by have := q.1; unfold isPg at this; omega))]
  · rw [z_hb h.1 (by omega) h3.1 (by omega)]
    refine ⟨fun h4 => main (by omega) (Or.inr ⟨⟨h3.1, by omega⟩, h4⟩), fun h4 => pc_s hC ?_⟩
    unfold op_parted; rw [if_pos ⟨h.1, by omega⟩, if_neg h2, if_neg (fun q => h4 q.2)]
  · unfold op_parted; rw [if_neg (fun q => h ⟨q.1, by omega⟩)]
