/-! WHAT WAS SENT: told and bill, both sides -/
def snt (S : MM) (c k o : Int) : Bool := tb (S 52 k) o && (decide (c < 0) || decide (S 58 o = c))
def sentK (S : MM) (c k : Int) (n : Nat) : Int := cnN (fun o => snt S c k o) n
def sentS (S : MM) (c : Int) : Int := smN (fun k => sentK S c k (S 41 26).toNat) (S 41 12).toNat
def missS (S : MM) : Int := smN (fun c => S 83 c) 6
def op_told (S : MM) (x : Int) : Int × MM :=
  (if 10 ≤ x ∧ x ≤ 18 then S 53 (x - 10) else if x = 0 then S 41 4 else if x = 1 then S 41 12 else if x = 2 then S 41 26 else if x = 3 then S 57 10 else if x = 4 then sentS S (-1) else if x = 5 then missS S else -2, S)
theorem smN_bnd {f : Int → Int} {m : Int} (h : ∀ k, 0 ≤ f k ∧ f k ≤ m) : ∀ n : Nat, 0 ≤ smN f n ∧ smN f n ≤ n * m
  | 0 => by simp [smN]
  | n + 1 => by
    have h1 := smN_bnd h n
    have h2 := h n
    rw [smN, show ((n + 1 : Nat) : Int) * m = n * m + m by rw [Int.natCast_add, Int.add_mul]; simp]
    omega
theorem smN_add (f g : Int → Int) : ∀ n : Nat, smN (fun k => f k + g k) n = smN f n + smN g n
  | 0 => rfl
  | n + 1 => by rw [smN, smN, smN, smN_add f g n]; omega
theorem smN_zero : ∀ n : Nat, smN (fun _ => 0) n = 0
  | 0 => rfl
  | n + 1 => by rw [smN, smN_zero n]; rfl
theorem cn_swap (f : Int → Int → Bool) (m : Nat) : ∀ n : Nat, smN (fun k => cnN (fun o => f k o) n) m = smN (fun o => cnN (fun k => f k o) m) n
  | 0 => smN_zero m
  | n + 1 => by
    rw [smN, ← cn_swap f m n]
    have : smN (fun k => cnN (fun o => f k o) (n + 1)) m = smN (fun k => cnN (fun o => f k o) n + (if f k n then 1 else 0)) m := rfl
    rw [this, smN_add]
    have e : ∀ m : Nat, smN (fun k => if f k n = true then 1 else 0) m = cnN (fun k => f k n) m := fun m => by
      induction m with
      | zero => rfl
      | succ j ih => rw [smN, cnN, ih]
    rw [e]
theorem sentK_rng (S : MM) (c k : Int) (n : Nat) : 0 ≤ sentK S c k n ∧ sentK S c k n ≤ n := cnN_rng _ n
theorem sent_b {S : MM} (hI : SInv S) (k : Int) : 0 ≤ S 52 k ∧ S 52 k < 2 ^ 10 := by
  have h := hI.sn k
  have ho := hI.oc
  have h2 : (2 : Int) ^ (S 41 26).toNat ≤ 2 ^ 10 := by
    have h3 : (2 : Nat) ^ (S 41 26).toNat ≤ 2 ^ 10 := Nat.pow_le_pow_right (by decide) (by omega)
    exact_mod_cast h3
  omega
theorem cm_sentTo {G : GP} {l : Launch} {w : NS} {S M : MM} {c : Int} (hI : SInv S) (hA : Ag S M) : CT_X10_sentTo G l [(2, 41), (0, c)] w M (PE (sentS S c) w M) := by
  refine E_X10_sentTo (fun _ X hX C => ?_)
  obtain ⟨kf4, kf12, kf26, ke42, ke43, ke44, ke45, ke46, ke47, ke48, ke49, ke50, ke51, ke52, ke53, ke56, ke57, ke58, ke59, ke60, ke61, ke62, ke63, ke72, ke73, ke77, ke78, ke79, ke83⟩ := hA.all
  have hp := hI.pc
  have ho := hI.oc
  have K : ∀ k, 0 ≤ k → k < S 41 12 → (∀ z, z = smN (fun k => sentK S c k (S 41 26).toNat) (k + 1).toNat → A_X10_sentTo_4 G X (PE (sentS S c) w M) c z (k + 1) w M) → ∀ i, i ≤ S 41 26 → ∀ z, 0 ≤ i → z = smN (fun k => sentK S c k (S 41 26).toNat) k.toNat + sentK S c k i.toNat → A_X10_sentTo_15 G X (PE (sentS S c) w M) c z k i w M := fun k hk hk2 nx => up_ind (S 41 26) (fun i hi ih z h0 hz => by
    refine B_X10_sentTo_15 C ?_
    simp only [kf4, kf12, kf26, ke42, ke43, ke44, ke45, ke46, ke47, ke48, ke49, ke50, ke51, ke52, ke53, ke56, ke57, ke58, ke59, ke60, ke61, ke62, ke63, ke72, ke73, ke77, ke78, ke79, ke83]
    have b1 := smN_bnd (f := fun k => sentK S c k (S 41 26).toNat) (m := 10) (fun k => by have := sentK_rng S c k (S 41 26).toNat; omega) k.toNat
    have b2 := sentK_rng S c k i.toNat
    have b3 := sent_b hI k
    refine ⟨fun h => ⟨by omega, nx z ?_⟩, fun h => ⟨hk, by omega, ?_⟩⟩
    · rw [smN_s hk, hz, show i = S 41 26 by omega]
    · have ih2 := fun z hz => ih (i + 1) (by omega) (by omega) z (by omega) hz
      unfold sentK at ih2 hz b2
      rw [cnN_s h0] at ih2
      have hb := z_hb (x := S 52 k) (i := i) b3.1 (by omega) h0 (by omega)
      simp only [ne_eq, hb]
      have e : snt S c k i = (tb (S 52 k) i && (decide (c < 0) || decide (S 58 i = c))) := rfl
      unfold sentK at b1
      refine ⟨fun h1 => ⟨by omega, by omega, ih2 _ ?_⟩, fun h1 => ⟨fun h2 => ⟨by omega, by omega, ih2 _ ?_⟩, fun h2 => ⟨h0, by omega, fun h3 => ⟨by omega, by omega, ih2 _ ?_⟩, fun h3 => ⟨by omega, by omega, ih2 _ ?_⟩⟩⟩⟩
      all_goals (rw [hz, e]; simp_all; try omega))
  have L := up_ind (P := fun k => ∀ z, 0 ≤ k → z = smN (fun k => sentK S c k (S 41 26).toNat) k.toNat → A_X10_sentTo_4 G X (PE (sentS S c) w M) c z k w M) (S 41 12) (fun k hk ih z h0 hz => by
    refine B_X10_sentTo_4 C ?_
    simp only [kf4, kf12, kf26, ke42, ke43, ke44, ke45, ke46, ke47, ke48, ke49, ke50, ke51, ke52, ke53, ke56, ke57, ke58, ke59, ke60, ke61, ke62, ke63, ke72, ke73, ke77, ke78, ke79, ke83]
    refine ⟨fun h => ⟨?_, rfl, rfl⟩, fun h => K k h0 (by omega) (fun z hz => ih (k + 1) (by omega) (by omega) z (by omega) hz) 0 (by omega) z (by omega) (by rw [hz]; simp [sentK, cnN])⟩
    rw [hz, show k = S 41 12 by omega]; rfl)
  exact B_X10_sentTo_0 C (L 0 (by omega) 0 (by omega) rfl)
theorem cm_told {G : GP} {l : Launch} {w : NS} {S M : MM} {a : Int} (hI : SInv S) (hA : Ag S M) : CT_X10_told G l [(2, 41), (0, a)] w M (PM w M (op_told S a)) := by
  refine E_X10_told (fun _ X hX C => ?_)
  obtain ⟨kf4, kf12, kf26, ke42, ke43, ke44, ke45, ke46, ke47, ke48, ke49, ke50, ke51, ke52, ke53, ke56, ke57, ke58, ke59, ke60, ke61, ke62, ke63, ke72, ke73, ke77, ke78, ke79, ke83⟩ := hA.all
  have L : ¬ (10 ≤ a ∧ a ≤ 18) → ∀ i, i ≤ 6 → ∀ z, 0 ≤ i → z = smN (fun c => S 83 c) i.toNat → A_X10_told_28 G X (PM w M (op_told S a)) a z i w M := fun ha => up_ind 6 (fun i hi ih z h0 hz => by
    refine B_X10_told_28 C ?_
    simp only [kf4, kf12, kf26, ke42, ke43, ke44, ke45, ke46, ke47, ke48, ke49, ke50, ke51, ke52, ke53, ke56, ke57, ke58, ke59, ke60, ke61, ke62, ke63, ke72, ke73, ke77, ke78, ke79, ke83]
    have b1 := smN_bnd (f := fun c => S 83 c) (m := 512) (fun c => hI.mm c) i.toNat
    have b2 := hI.mm i
    refine ⟨fun h => ?_, fun h => ⟨h0, by omega, by omega, by omega, ih (i + 1) (by omega) (by omega) _ (by omega) (by rw [smN_s h0, hz])⟩⟩
    have hz2 : z = missS S := by rw [hz, show i = 6 by omega]; rfl
    refine ⟨fun h1 => pm_s hA ?_, fun h1 => pm_s hA ?_, fun h1 => pm_s hA ?_, fun h1 => pm_s hA ?_, fun h1 => pm_s hA ?_, fun h1 => ⟨_, cm_sentTo hI hA, ?_⟩, fun h1 => pm_s hA ?_⟩
    all_goals (first | (unfold op_told; grind) | skip)
    rintro _ _ _ ⟨rfl, rfl, rfl⟩
    exact pm_s hA (by unfold op_told; grind))
  refine B_X10_told_0 C ?_
  simp only [kf4, kf12, kf26, ke42, ke43, ke44, ke45, ke46, ke47, ke48, ke49, ke50, ke51, ke52, ke53, ke56, ke57, ke58, ke59, ke60, ke61, ke62, ke63, ke72, ke73, ke77, ke78, ke79, ke83]
  exact ⟨fun h => L h 0 (by omega) 0 (by omega) rfl, fun h => ⟨by omega, by omega, by omega, pm_s hA (by unfold op_told; grind)⟩⟩
