/-! THE BILL, both sides -/
def priceS (S : MM) (n : Int) : Int := min n (S 53 4) * S 53 5 + min (n - min n (S 53 4)) (S 53 4) * S 53 6 + (n - min n (S 53 4) - min (n - min n (S 53 4)) (S 53 4)) * S 53 7
def op_bill (S : MM) (c x : Int) : Int × MM :=
  (if 0 ≤ c ∧ c ≤ 5 then if x = 0 then max 0 (priceS S (sentS S c) - S 53 8 * S 83 c) else if x = 1 then sentS S c else -2 else -1, S)
theorem mulb {x y : Int} (h1 : -600 ≤ x) (h2 : x ≤ 600) (h3 : 0 ≤ y) (h4 : y ≤ 1000) : -600000 ≤ x * y ∧ x * y ≤ 600000 := by
  have a := Int.mul_le_mul_of_nonneg_right h2 h3
  have b := Int.mul_le_mul_of_nonneg_right h1 h3
  omega
theorem sentS_rng {S : MM} (hI : SInv S) (c : Int) : 0 ≤ sentS S c ∧ sentS S c ≤ 240 := by
  have ho := hI.oc
  have hp := hI.pc
  have b1 := smN_bnd (f := fun k => sentK S c k (S 41 26).toNat) (m := 10) (fun k => by have := sentK_rng S c k (S 41 26).toNat; omega) (S 41 12).toNat
  unfold sentS; omega
theorem price_b {S : MM} (hI : SInv S) : (1 ≤ S 53 4 ∧ S 53 4 ≤ 100) ∧ (0 ≤ S 53 5 ∧ S 53 5 ≤ 1000) ∧ (0 ≤ S 53 6 ∧ S 53 6 ≤ 1000) ∧ (0 ≤ S 53 7 ∧ S 53 7 ≤ 1000) ∧ (0 ≤ S 53 8 ∧ S 53 8 ≤ 1000) := by
  have h4 := hI.nm 4 (by decide) (by decide)
  have h5 := hI.nm 5 (by decide) (by decide)
  have h6 := hI.nm 6 (by decide) (by decide)
  have h7 := hI.nm 7 (by decide) (by decide)
  have h8 := hI.nm 8 (by decide) (by decide)
  exact ⟨h4, h5, h6, h7, h8⟩
theorem cm_bill {G : GP} {l : Launch} {w : NS} {S M : MM} {a b : Int} (hI : SInv S) (hA : Ag S M) : CT_X10_bill G l [(2, 41), (0, a), (0, b)] w M (PM w M (op_bill S a b)) := by
  refine E_X10_bill (fun _ _ X hX C => ?_)
  obtain ⟨kf4, kf12, kf26, ke42, ke43, ke44, ke45, ke46, ke47, ke48, ke49, ke50, ke51, ke52, ke53, ke56, ke57, ke58, ke59, ke60, ke61, ke62, ke63, ke72, ke73, ke77, ke78, ke79, ke83⟩ := hA.all
  refine B_X10_bill_0 C ?_
  refine ⟨fun h1 => ⟨fun h2 => ⟨_, cm_sentTo hI hA, ?_⟩, fun h2 => pm_s hA (by unfold op_bill; grind)⟩, fun h1 => pm_s hA (by unfold op_bill; grind)⟩
  rintro _ _ _ ⟨rfl, rfl, rfl⟩
  simp only [kf4, kf12, kf26, ke42, ke43, ke44, ke45, ke46, ke47, ke48, ke49, ke50, ke51, ke52, ke53, ke56, ke57, ke58, ke59, ke60, ke61, ke62, ke63, ke72, ke73, ke77, ke78, ke79, ke83]
  refine ⟨fun h3 => ?_, fun h3 => pm_s hA (by unfold op_bill; grind)⟩
  obtain ⟨b4, b5, b6, b7, b8⟩ := price_b hI
  have bn := sentS_rng hI a
  have bm := hI.mm a
  have e : op_bill S a b = (max 0 (priceS S (sentS S a) - S 53 8 * S 83 a), S) := by unfold op_bill; rw [if_pos h1, if_pos (by omega)]
  rw [e]
  clear e
  unfold priceS
  generalize sentS S a = n at *
  generalize S 53 4 = t at *
  generalize S 53 5 = x5 at *
  generalize S 53 6 = x6 at *
  generalize S 53 7 = x7 at *
  generalize S 53 8 = x8 at *
  generalize S 83 a = x9 at *
  have m8 : x8 * x9 = x9 * x8 := Int.mul_comm _ _
  have g8 := mulb (x := x9) (y := x8) (by omega) (by omega) (by omega) (by omega)
  rw [m8]
  refine ⟨fun h4 => ?_, fun h4 => ?_⟩
  · rw [show min n t = t by omega]
    refine ⟨by omega, fun h5 => ?_, fun h5 => ?_⟩
    · rw [show min (n - t) t = t by omega]
      have g1 := mulb (x := t) (y := x5) (by omega) (by omega) (by omega) (by omega)
      have g2 := mulb (x := t) (y := x6) (by omega) (by omega) (by omega) (by omega)
      have g3 := mulb (x := n - t - t) (y := x7) (by omega) (by omega) (by omega) (by omega)
      repeat' (first | with_reducible refine And.intro ?_ ?_ | with_reducible intro _)
      all_goals (first | omega | exact pm_s hA (by congr 1; omega))
    · rw [show min (n - t) t = n - t by omega]
      have g1 := mulb (x := t) (y := x5) (by omega) (by omega) (by omega) (by omega)
      have g2 := mulb (x := n - t) (y := x6) (by omega) (by omega) (by omega) (by omega)
      have g3 := mulb (x := n - t - (n - t)) (y := x7) (by omega) (by omega) (by omega) (by omega)
      repeat' (first | with_reducible refine And.intro ?_ ?_ | with_reducible intro _)
      all_goals (first | omega | exact pm_s hA (by congr 1; omega))
  · rw [show min n t = n by omega]
    refine ⟨by omega, fun h5 => by omega, fun h5 => ?_⟩
    rw [show min (n - n) t = n - n by omega]
    have g1 := mulb (x := n) (y := x5) (by omega) (by omega) (by omega) (by omega)
    have g2 := mulb (x := n - n) (y := x6) (by omega) (by omega) (by omega) (by omega)
    have g3 := mulb (x := n - n - (n - n)) (y := x7) (by omega) (by omega) (by omega) (by omega)
    repeat' (first | with_reducible refine And.intro ?_ ?_ | with_reducible intro _)
    all_goals (first | omega | exact pm_s hA (by congr 1; omega))
theorem cc_countSentTo {G : GP} {l : Launch} {w : NS} {S M : MM} {c : Int} (hI : SInv S) (hC : CInv S w M) (hc : 0 ≤ c) : CT_X9_countSentTo G l [(2, 1), (0, c)] w M (PE (sentS S c) w M) := by
  refine E_X9_countSentTo (fun _ X hX C => ?_)
  have hp := hI.pc
  have ho := hI.oc
  have e : sentS S c = smN (fun o => cnN (fun k => snt S c k o) (S 41 12).toNat) (S 41 26).toNat := cn_swap _ _ _
  have b1 := fun n => smN_bnd (f := fun o => cnN (fun k => snt S c k o) (S 41 12).toNat) (m := 24) (fun k => by have := cnN_rng (fun j => snt S c j k) (S 41 12).toNat; omega) n
  have K : ∀ o, 0 ≤ o → o < S 41 26 → (∀ z, z = smN (fun o => cnN (fun k => snt S c k o) (S 41 12).toNat) (o + 1).toNat → A_X9_countSentTo_4 G X (PE (sentS S c) w M) c z (o + 1) w M) → ∀ i, i ≤ S 41 12 → ∀ z, 0 ≤ i → z = smN (fun o => cnN (fun k => snt S c k o) (S 41 12).toNat) o.toNat + cnN (fun k => snt S c k o) i.toNat → A_X9_countSentTo_15 G X (PE (sentS S c) w M) c z o i w M := fun o h1 h2 nx => up_ind (S 41 12) (fun i hi ih z h0 hz => by
    refine B_X9_countSentTo_15 C ?_
    have hO := hC.od o ⟨h1, h2⟩
    have c1 := b1 o.toNat
    have c2 := cnN_rng (fun k => snt S c k o) i.toNat
    rw [hO.2.2.1.1, hC.top.2.1]
    have hz0 : S 58 o ≠ c → ∀ n, cnN (fun k => snt S c k o) n = 0 := fun hne n => by
      rw [cnN_congr (g := fun _ => false) n (fun k _ _ => by unfold snt; simp [hne, show ¬ c < 0 by omega])]
      induction n with
      | zero => rfl
      | succ j ih => rw [cnN, ih]; rfl
    refine ⟨h1, by omega, hO.2.1, fun h3 => ⟨by omega, nx _ ?_⟩, fun h3 => ⟨fun h4 => ⟨by omega, nx _ ?_⟩, fun h4 => ?_⟩⟩
    · rw [smN_s h1, hz, hz0 h3, hz0 h3]
    · rw [smN_s h1, hz, show i = S 41 12 by omega]
    · have hP := hC.pc i ⟨h0, by omega⟩
      have b3 := sent_b hI i
      have hb := z_hb (x := S 52 i) (i := o) b3.1 (by omega) h1 (by omega)
      have ih2 := fun z hz => ih (i + 1) (by omega) (by omega) z (by omega) hz
      rw [cnN_s h0] at ih2
      rw [hP.2.2.2.2.2.2.1.2]
      have es : b2i (zand (zshr (S 52 i) o) 1 = 1) = if snt S c i o = true then 1 else 0 := by
        unfold snt b2i; simp only [hb]; simp [Decidable.not_not.mp h3]
      rw [es]
      refine ⟨h0, by omega, hP.2.1, ?_, by omega, ih2 _ (by rw [hz]; omega)⟩
      split <;> omega)
  have L := up_ind (P := fun o => ∀ z, 0 ≤ o → z = smN (fun o => cnN (fun k => snt S c k o) (S 41 12).toNat) o.toNat → A_X9_countSentTo_4 G X (PE (sentS S c) w M) c z o w M) (S 41 26) (fun o h1 ih z h0 hz => by
    refine B_X9_countSentTo_4 C ?_
    rw [hC.top.2.2]
    refine ⟨fun h => ⟨?_, rfl, rfl⟩, fun h => K o h0 (by omega) (fun z hz => ih (o + 1) (by omega) (by omega) z (by omega) hz) 0 (by omega) z (by omega) (by rw [hz]; simp [cnN])⟩
    rw [hz, e, show o = S 41 26 by omega])
  exact B_X9_countSentTo_0 C (L 0 (by omega) 0 (by omega) rfl)
theorem cc_priceOf {G : GP} {l : Launch} {w : NS} {S M : MM} {n : Int} (hI : SInv S) (hC : CInv S w M) (hn : 0 ≤ n ∧ n ≤ 240) : CT_X9_priceOf G l [(2, 1), (0, n)] w M (PE (priceS S n) w M) := by
  refine E_X9_priceOf (fun _ X hX C => ?_)
  refine B_X9_priceOf_0 C ?_
  obtain ⟨b4, b5, b6, b7, b8⟩ := price_b hI
  rw [hC.num.1 4 (by decide) (by decide), hC.num.1 5 (by decide) (by decide), hC.num.1 6 (by decide) (by decide), hC.num.1 7 (by decide) (by decide)]
  have g1 := mulb (x := min n (S 53 4)) (y := S 53 5) (by omega) (by omega) (by omega) (by omega)
  have g2 := mulb (x := min (n - min n (S 53 4)) (S 53 4)) (y := S 53 6) (by omega) (by omega) (by omega) (by omega)
  have g3 := mulb (x := n - min n (S 53 4) - min (n - min n (S 53 4)) (S 53 4)) (y := S 53 7) (by omega) (by omega) (by omega) (by omega)
  exact ⟨by omega, by omega, by omega, by omega, by omega, by omega, by omega, rfl, rfl, rfl⟩
theorem cc_bill {G : GP} {l : Launch} {w : NS} {S M : MM} {a b : Int} (hI : SInv S) (hC : CInv S w M) : CT_X9_bill G l [(2, 1), (0, a), (0, b)] w M (PC M (op_bill S a b)) := by
  refine E_X9_bill (fun _ _ X hX C => ?_)
  refine B_X9_bill_0 C ?_
  refine ⟨fun h1 => ⟨fun h2 => pc_s hC (by unfold op_bill; grind), fun h2 => ⟨_, cc_countSentTo hI hC h1.1, ?_⟩, fun h2 => ⟨_, cc_countSentTo hI hC h1.1, ?_⟩⟩, fun h1 => pc_s hC (by unfold op_bill; grind)⟩
  · rintro _ _ _ ⟨rfl, rfl, rfl⟩
    have bn := sentS_rng hI a
    refine ⟨_, cc_priceOf hI hC bn, ?_⟩
    rintro _ _ _ ⟨rfl, rfl, rfl⟩
    obtain ⟨b4, b5, b6, b7, b8⟩ := price_b hI
    have bm := hI.mm a
    rw [hC.num.1 8 (by decide) (by decide), hC.num.2 a h1.1 h1.2]
    have g8 := mulb (x := S 83 a) (y := S 53 8) (by omega) (by omega) (by omega) (by omega)
    rw [Int.mul_comm] at g8
    have g1 := mulb (x := min (sentS S a) (S 53 4)) (y := S 53 5) (by omega) (by omega) (by omega) (by omega)
    have g2 := mulb (x := min (sentS S a - min (sentS S a) (S 53 4)) (S 53 4)) (y := S 53 6) (by omega) (by omega) (by omega) (by omega)
    have g3 := mulb (x := sentS S a - min (sentS S a) (S 53 4) - min (sentS S a - min (sentS S a) (S 53 4)) (S 53 4)) (y := S 53 7) (by omega) (by omega) (by omega) (by omega)
    refine ⟨h1.1, by omega, by omega, by unfold priceS; omega, pc_s hC (by unfold op_bill; rw [if_pos h1, if_pos h2])⟩
  · rintro _ _ _ ⟨rfl, rfl, rfl⟩
    exact pc_s hC (by unfold op_bill; rw [if_pos h1, if_neg (by omega), if_pos h2])
