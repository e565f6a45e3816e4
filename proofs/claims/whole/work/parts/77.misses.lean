/-! MISSES, both sides -/
def cntS (S : MM) (x : Int) : Int := cnN (fun p => tb x p) (S 41 12).toNat
theorem cnN_le {f g : Int → Bool} (h : ∀ k, 0 ≤ k → f k = true → g k = true) : ∀ n : Nat, cnN f n ≤ cnN g n
  | 0 => Int.le_refl _
  | n + 1 => by
    have := cnN_le h n
    rw [cnN, cnN]
    by_cases c : f n = true
    · rw [if_pos c, if_pos (h n (by omega) c)]; omega
    · rw [if_neg c]; split <;> omega
theorem popc_c {S : MM} (hI : SInv S) {x : Int} (h0 : 0 ≤ x) (h1 : x < 2 ^ (S 41 12).toNat) : popc x = cntS S x := by
  have hp := hI.pc
  unfold popc cntS
  rw [popc_l, cnN_tail 32 (n := (S 41 12).toNat) (by omega) (fun j hj => tb_big h0 h1 hj)]
def upS (S : MM) (a b x : Int) : Int := if x = 0 then cntS S (S 77 a) * cntS S (S 77 b) else (cntS S (S 77 a) - cntS S (zand (S 77 a) (S 77 b))) * (cntS S (S 77 b) - cntS S (zand (S 77 a) (S 77 b)))
def op_misses (S : MM) (a b x y : Int) : Int × MM :=
  (if (0 ≤ a ∧ a ≤ 3) ∧ (0 ≤ b ∧ b ≤ 3) ∧ a ≠ b then (if (0 ≤ x ∧ x ≤ 1) ∧ 0 ≤ y ∧ y ≤ 1 then (if cntS S (zand (S 77 a) (S 77 b)) = 0 then y else (if y = 0 then upS S a b x else cntS S (zand (S 77 a) (S 77 b))) / (Nat.gcd (upS S a b x).toNat (cntS S (zand (S 77 a) (S 77 b))).toNat : Nat)) else -2) else -1, S)
theorem cm_lowest {G : GP} {l : Launch} {w : NS} {M : MM} {u v y : Int} (hu : 0 ≤ u) (hv : 0 < v) : CT_X10_lowest G l [(0, u), (0, v), (0, y)] w M (PE ((if y = 0 then u else v) / (Nat.gcd u.toNat v.toNat : Nat)) w M) := by
  refine E_X10_lowest (fun _ _ _ X hX C => ?_)
  have L : ∀ (Y : Nat) (Z : Nat), Nat.gcd Z Y = Nat.gcd u.toNat v.toNat → (0 < Z ∨ 0 < Y) → A_X10_lowest_5 G X (PE ((if y = 0 then u else v) / (Nat.gcd u.toNat v.toNat : Nat)) w M) u v y (Z : Int) (Y : Int) w M := by
    intro Y
    induction Y using Nat.strongRecOn with
    | _ Y ih =>
      intro Z hg hp
      refine B_X10_lowest_5 C ?_
      refine ⟨fun h => ?_, fun h => ⟨by omega, by omega, ?_⟩⟩
      · have hY : Y = 0 := by omega
        rw [hY, Nat.gcd_zero_right] at hg
        rw [hg]
        have hg0 : 0 < Nat.gcd u.toNat v.toNat := Nat.gcd_pos_of_pos_right _ (by omega)
        refine ⟨fun q => ⟨by omega, by omega, ?_, rfl, rfl⟩, fun q => ⟨by omega, by omega, ?_, rfl, rfl⟩⟩
        · rw [if_neg q]
        · rw [if_pos (Decidable.not_not.mp q)]
      · have e : (Z : Int) % (Y : Int) = ((Z % Y : Nat) : Int) := (Int.natCast_emod Z Y).symm
        rw [e]
        refine ih (Z % Y) (Nat.mod_lt _ (by omega)) Y ?_ (Or.inl (by omega))
        rw [Nat.gcd_comm, ← Nat.gcd_rec, Nat.gcd_comm]; exact hg
  refine B_X10_lowest_0 C ?_
  have := L v.toNat u.toNat rfl (Or.inr (by omega))
  rwa [show ((u.toNat : Nat) : Int) = u by omega, show ((v.toNat : Nat) : Int) = v by omega] at this
theorem cc_inLowestTerms {G : GP} {l : Launch} {w : NS} {M : MM} {o u v : Int} (ho : 0 ≤ o) (hu : 0 ≤ u) (hv : 0 < v) : CT_X9_inLowestTerms G l [(0, o), (0, u), (0, v)] w M (PE (o / (Nat.gcd u.toNat v.toNat : Nat)) w M) := by
  refine E_X9_inLowestTerms (fun _ _ _ X hX C => ?_)
  have hg0 : 0 < Nat.gcd u.toNat v.toNat := Nat.gcd_pos_of_pos_right _ (by omega)
  have dv : ∀ (x d : Int), 0 ≤ x → 0 < d → (x % d = 0 ↔ d.toNat ∣ x.toNat) := fun x d hx hd => by
    obtain ⟨n, rfl⟩ : ∃ n : Nat, x = n := ⟨x.toNat, by omega⟩
    obtain ⟨m, rfl⟩ : ∃ n : Nat, d = n := ⟨d.toNat, by omega⟩
    rw [← Int.natCast_emod, Int.toNat_natCast, Int.toNat_natCast, Nat.dvd_iff_mod_eq_zero]
    omega
  have L := dn_ind (P := fun d => d ≤ v → (∀ e : Nat, d < e → ¬ (e ∣ u.toNat ∧ e ∣ v.toNat)) → A_X9_inLowestTerms_2 G X (PE (o / (Nat.gcd u.toNat v.toNat : Nat)) w M) o u v d w M) 0 (fun d hd ih hdv hno => by
    refine B_X9_inLowestTerms_2 C ?_
    have hgd : (Nat.gcd u.toNat v.toNat : Int) ≤ d := by
      apply Int.not_lt.mp
      intro q
      exact hno _ q ⟨Nat.gcd_dvd_left _ _, Nat.gcd_dvd_right _ _⟩
    refine ⟨fun h => ?_, fun h => ⟨hu, by omega, fun h1 => ⟨by omega, ?_⟩, fun h1 => ⟨by omega, fun h2 => ⟨by omega, ?_⟩, fun h2 => ⟨ho, ?_, rfl, rfl⟩⟩⟩⟩
    · have : Nat.gcd u.toNat v.toNat = 1 := by omega
      rw [this]
      exact ⟨by simp, rfl, rfl⟩
    · rw [ne_eq, dv u d hu (by omega)] at h1
      refine ih (d + -1) (by omega) (by omega) (by omega) (fun e he q => ?_)
      by_cases c : (e : Int) = d
      · apply h1; rw [← c, Int.toNat_natCast]; exact q.1
      · exact hno e (by omega) q
    · rw [ne_eq, dv v d (by omega) (by omega)] at h2
      refine ih (d + -1) (by omega) (by omega) (by omega) (fun e he q => ?_)
      by_cases c : (e : Int) = d
      · apply h2; rw [← c, Int.toNat_natCast]; exact q.2
      · exact hno e (by omega) q
    · have h1' := (dv u d hu (by omega)).mp (Decidable.not_not.mp h1)
      have h2' := (dv v d (by omega) (by omega)).mp (Decidable.not_not.mp h2)
      have := Nat.le_of_dvd hg0 (Nat.dvd_gcd h1' h2')
      rw [show ((Nat.gcd u.toNat v.toNat : Nat) : Int) = d by omega])
  refine B_X9_inLowestTerms_0 C (L v (by omega) (by omega) (fun e he q => ?_))
  have := Nat.le_of_dvd (by omega) q.2
  omega
theorem cm_foundBy {G : GP} {l : Launch} {w : NS} {S M : MM} {x : Int} (hI : SInv S) (hA : Ag S M) (h0 : 0 ≤ x) (h1 : x < 2 ^ (S 41 12).toNat) : CT_X10_foundBy G l [(2, 41), (0, x)] w M (PE (cntS S x) w M) := by
  refine E_X10_foundBy (fun _ X hX C => ?_)
  have hpc := hI.pc
  have h24 := pw24 hI
  have L : ∀ i, i ≤ S 41 12 → ∀ z, 0 ≤ i → z = cnN (fun p => tb x p) i.toNat → A_X10_foundBy_4 G X (PE (cntS S x) w M) x z i w M := up_ind _ (fun i hi ih z i0 hz => by
    refine B_X10_foundBy_4 C ?_
    rw [hA.2 12 rfl]
    have hr := cnN_rng (fun p => tb x p) i.toNat
    refine ⟨fun h => ⟨?_, rfl, rfl⟩, fun h => ?_⟩
    · rw [hz, show i = S 41 12 by omega]; rfl
    · rw [z_bit h0 (by omega) i0 (by omega)]
      have h01 := bi_01 (tb x i)
      refine ⟨by omega, by omega, ih (i + 1) (by omega) (by omega) _ (by omega) ?_⟩
      rw [cnN_s i0, hz]; rfl)
  exact B_X10_foundBy_0 C (L 0 (by omega) 0 (by omega) rfl)
theorem cnt_b {S : MM} (hI : SInv S) (a b : Int) : (0 ≤ zand (S 77 a) (S 77 b) ∧ zand (S 77 a) (S 77 b) < 2 ^ (S 41 12).toNat) ∧ (0 ≤ cntS S (zand (S 77 a) (S 77 b)) ∧ cntS S (zand (S 77 a) (S 77 b)) ≤ cntS S (S 77 a) ∧ cntS S (zand (S 77 a) (S 77 b)) ≤ cntS S (S 77 b)) ∧ (cntS S (S 77 a) ≤ 24 ∧ cntS S (S 77 b) ≤ 24) ∧ (∀ x, 0 ≤ upS S a b x ∧ upS S a b x ≤ 600000) := by
  have hpc := hI.pc
  have ha := hI.fd a
  have hb := hI.fd b
  obtain ⟨z1, z2⟩ := z_and2 (x := S 77 a) (y := S 77 b) (k := (S 41 12).toNat) ha.1 ha.2 hb.1 (by omega)
  have r1 := cnN_rng (fun p => tb (S 77 a) p) (S 41 12).toNat
  have r2 := cnN_rng (fun p => tb (S 77 b) p) (S 41 12).toNat
  have r3 := cnN_rng (fun p => tb (zand (S 77 a) (S 77 b)) p) (S 41 12).toNat
  have l1 := cnN_le (f := fun p => tb (zand (S 77 a) (S 77 b)) p) (g := fun p => tb (S 77 a) p) (fun k k0 hk => by rw [z2 k k0, Bool.and_eq_true] at hk; exact hk.1) (S 41 12).toNat
  have l2 := cnN_le (f := fun p => tb (zand (S 77 a) (S 77 b)) p) (g := fun p => tb (S 77 b) p) (fun k k0 hk => by rw [z2 k k0, Bool.and_eq_true] at hk; exact hk.2) (S 41 12).toNat
  have l1' : cntS S (zand (S 77 a) (S 77 b)) ≤ cntS S (S 77 a) := l1
  have l2' : cntS S (zand (S 77 a) (S 77 b)) ≤ cntS S (S 77 b) := l2
  have r1' : 0 ≤ cntS S (S 77 a) ∧ cntS S (S 77 a) ≤ (S 41 12).toNat := r1
  have r2' : 0 ≤ cntS S (S 77 b) ∧ cntS S (S 77 b) ≤ (S 41 12).toNat := r2
  have r3' : 0 ≤ cntS S (zand (S 77 a) (S 77 b)) ∧ cntS S (zand (S 77 a) (S 77 b)) ≤ (S 41 12).toNat := r3
  refine ⟨z1, ⟨r3'.1, l1', l2'⟩, ⟨by omega, by omega⟩, fun x => ?_⟩
  unfold upS
  split
  · exact ⟨Int.mul_nonneg r1'.1 r2'.1, (mulb (by omega) (by omega) (by omega) (by omega)).2⟩
  · exact ⟨Int.mul_nonneg (by omega) (by omega), (mulb (by omega) (by omega) (by omega) (by omega)).2⟩
theorem cm_misses {G : GP} {l : Launch} {w : NS} {S M : MM} {a b x y : Int} (hI : SInv S) (hA : Ag S M) : CT_X10_misses G l [(2, 41), (0, a), (0, b), (0, x), (0, y)] w M (PM w M (op_misses S a b x y)) := by
  refine E_X10_misses (fun _ _ _ _ X hX C => ?_)
  obtain ⟨z1, ⟨r0, r1, r2⟩, ⟨r3, r4⟩, r5⟩ := cnt_b hI a b
  refine B_X10_misses_0 C ?_
  refine ⟨fun h1 => pm_s hA ?_, fun h1 => ⟨fun h2 => pm_s hA ?_, fun h2 => ⟨fun h3 => ⟨fun h4 => pm_s hA ?_, fun h4 => ⟨fun h5 => ⟨by omega, by omega, ?_⟩, fun h5 => pm_s hA ?_⟩⟩, fun h3 => pm_s hA ?_⟩⟩⟩
  · unfold op_misses; rw [if_neg (fun q => h1 q.1)]
  · unfold op_misses; rw [if_neg (fun q => h2 q.2.1)]
  · unfold op_misses; rw [if_pos ⟨h1, h2, h3⟩, if_neg (fun q => h4 q.1)]
  · rw [hA.1 77 a rfl]
    refine ⟨_, cm_foundBy hI hA (hI.fd a).1 (hI.fd a).2, ?_⟩
    rintro _ _ _ ⟨rfl, rfl, rfl⟩
    rw [hA.1 77 b rfl]
    refine ⟨by omega, by omega, _, cm_foundBy hI hA (hI.fd b).1 (hI.fd b).2, ?_⟩
    rintro _ _ _ ⟨rfl, rfl, rfl⟩
    rw [hA.1 77 b rfl, hA.1 77 a rfl]
    refine ⟨_, cm_foundBy hI hA z1.1 z1.2, ?_⟩
    rintro _ _ _ ⟨rfl, rfl, rfl⟩
    have op : ∀ z, (if cntS S (zand (S 77 a) (S 77 b)) = 0 then y else (if y = 0 then upS S a b x else cntS S (zand (S 77 a) (S 77 b))) / (Nat.gcd (upS S a b x).toNat (cntS S (zand (S 77 a) (S 77 b))).toNat : Nat)) = z → PM w M (op_misses S a b x y) z w M := fun z hz => pm_s hA (by unfold op_misses; rw [if_pos ⟨h1, h2, h3⟩, if_pos ⟨h4, h5⟩, hz])
    have h5x := r5 x
    refine ⟨fun q => ⟨fun q2 => ?_, fun q2 => ?_⟩, fun q => op _ ?_⟩
    · have eu : upS S a b x = (cntS S (S 77 a) - cntS S (zand (S 77 a) (S 77 b))) * (cntS S (S 77 b) - cntS S (zand (S 77 a) (S 77 b))) := by unfold upS; rw [if_neg q2]
      rw [← eu]
      refine ⟨by omega, by omega, by omega, _, cm_lowest (by omega) (by omega), ?_⟩
      rintro _ _ _ ⟨rfl, rfl, rfl⟩
      exact op _ (by rw [if_neg q])
    · have eu : upS S a b x = cntS S (S 77 a) * cntS S (S 77 b) := by unfold upS; rw [if_pos (Decidable.not_not.mp q2)]
      rw [← eu]
      refine ⟨by omega, _, cm_lowest (by omega) (by omega), ?_⟩
      rintro _ _ _ ⟨rfl, rfl, rfl⟩
      exact op _ (by rw [if_neg q])
    · rw [if_pos (Decidable.not_not.mp q)]
  · unfold op_misses; rw [if_pos ⟨h1, h2, h3⟩, if_neg (fun q => h5 q.2)]
  · unfold op_misses; rw [if_neg (fun q => h3 q.2.2)]
theorem cc_misses {G : GP} {l : Launch} {w : NS} {S M : MM} {a b x y : Int} (hI : SInv S) (hC : CInv S w M) : CT_X9_misses G l [(2, 1), (0, a), (0, b), (0, x), (0, y)] w M (PC M (op_misses S a b x y)) := by
  refine E_X9_misses (fun _ _ _ _ X hX C => ?_)
  unfold A_X9_misses_0
  refine WA.fix (fun hF => ?_)
  obtain ⟨z1, ⟨r0, r1, r2⟩, ⟨r3, r4⟩, r5⟩ := cnt_b hI a b
  have h24 := pw24 hI
  refine B_X9_misses_0 C ?_
  refine ⟨fun h1 => pc_s hC ?_, fun h1 => ⟨fun h2 => pc_s hC ?_, fun h2 => ⟨fun h3 => ⟨fun h4 => pc_s hC ?_, fun h4 => ⟨fun h5 => ?_, fun h5 => pc_s hC ?_⟩⟩, fun h3 => pc_s hC ?_⟩⟩⟩
  · unfold op_misses; rw [if_neg (fun q => h1 q.1)]
  · unfold op_misses; rw [if_neg (fun q => h2 q.2.1)]
  · unfold op_misses; rw [if_pos ⟨h1, h2, h3⟩, if_neg (fun q => h4 q.1)]
  · obtain ⟨f1, f2⟩ := fixR hF h1.1 h1.2
    obtain ⟨g1, g2⟩ := fixR hF h2.1 h2.2
    have ha := hI.fd a
    have hb := hI.fd b
    rw [f1, g1, (hC.rd a h1.1 h1.2).2.2.1, (hC.rd b h2.1 h2.2).2.2.1, popc_c hI ha.1 ha.2, popc_c hI hb.1 hb.2, popc_c hI z1.1 z1.2]
    have op : ∀ z, (if cntS S (zand (S 77 a) (S 77 b)) = 0 then y else (if y = 0 then upS S a b x else cntS S (zand (S 77 a) (S 77 b))) / (Nat.gcd (upS S a b x).toNat (cntS S (zand (S 77 a) (S 77 b))).toNat : Nat)) = z → PC M (op_misses S a b x y) z w M := fun z hz => pc_s hC (by unfold op_misses; rw [if_pos ⟨h1, h2, h3⟩, if_pos ⟨h4, h5⟩, hz])
    have h5x := r5 x
    refine ⟨by omega, by omega, f2, by omega, by omega, by omega, by omega, g2, by omega, by omega, by omega, by omega, fun q => ⟨fun q2 => ?_, fun q2 => ?_⟩, fun q => op _ ?_⟩
    · have eu : upS S a b x = (cntS S (S 77 a) - cntS S (zand (S 77 a) (S 77 b))) * (cntS S (S 77 b) - cntS S (zand (S 77 a) (S 77 b))) := by unfold upS; rw [if_neg q2]
      rw [← eu]
      refine ⟨by omega, by omega, by omega, fun q3 => ⟨_, cc_inLowestTerms (by omega) (by omega) (by omega), ?_⟩, fun q3 => ⟨_, cc_inLowestTerms (by omega) (by omega) (by omega), ?_⟩⟩
      · rintro _ _ _ ⟨rfl, rfl, rfl⟩
        exact op _ (by rw [if_neg q, if_neg q3])
      · rintro _ _ _ ⟨rfl, rfl, rfl⟩
        exact op _ (by rw [if_neg q, if_pos (Decidable.not_not.mp q3)])
    · have eu : upS S a b x = cntS S (S 77 a) * cntS S (S 77 b) := by unfold upS; rw [if_pos (Decidable.not_not.mp q2)]
      rw [← eu]
      refine ⟨by omega, fun q3 => ⟨_, cc_inLowestTerms (by omega) (by omega) (by omega), ?_⟩, fun q3 => ⟨_, cc_inLowestTerms (by omega) (by omega) (by omega), ?_⟩⟩
      · rintro _ _ _ ⟨rfl, rfl, rfl⟩
        exact op _ (by rw [if_neg q, if_neg q3])
      · rintro _ _ _ ⟨rfl, rfl, rfl⟩
        exact op _ (by rw [if_neg q, if_pos (Decidable.not_not.mp q3)])
    · rw [if_pos (Decidable.not_not.mp q)]
  · unfold op_misses; rw [if_pos ⟨h1, h2, h3⟩, if_neg (fun q => h5 q.2)]
  · unfold op_misses; rw [if_neg (fun q => h3 q.2.2)]
