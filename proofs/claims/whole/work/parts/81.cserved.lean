/-! SERVED: THE CLASS -/
def CAs (S : MM) (pg : Int) (M : MM) : Prop := M 14 2 = mPr S pg ∧ AL M 16 (sn1 (askS S pg))
theorem CAs.at {S M : MM} {pg i : Int} (h : CAs S pg M) (h0 : 0 ≤ i) (h1 : i < mPr S pg) : M 16 i = pkS S pg i := by
  unfold pkS; exact al_at h.2 h0 (by rw [sn1_len]; exact h1)
def CClR (S : MM) (pg : Int) (M : MM) : Prop := ∀ i : Int, 0 ≤ i → i < mPr S pg → (0 ≤ M 17 i ∧ M 17 i < 2 ^ 9) ∧ ∀ k : Int, 0 ≤ k → tb (M 17 i) k = (decide (k < mPr S pg) && decide (k ≠ i) && clI S pg (mPr S pg - 1 - i) (mPr S pg - 1 - k))
theorem cc_findClashes {G : GP} {l : Launch} {w : NS} {S M : MM} {pg : Int} (hI : SInv S) (hC : CInv S w M) (hM : CAs S pg M) : CT_X0_findClashes G l [(2, 14), (2, 4)] w M (fun _ w' M' => w = w' ∧ Fo (fun x _ => x = 17) M M' ∧ CClR S pg M') := by
  refine E_X0_findClashes (fun X hX C => ?_)
  refine WA.fix (fun hFx => ?_)
  have hpc := hI.pc
  have hm9 := mPr9 (S := S) (pg := pg)
  have wk : ∀ M1, Fo (fun x _ => x = 17) M M1 → CInv S w M1 ∧ CAs S pg M1 ∧ (∀ k, M1 4 k = M 4 k) := fun M1 hF => by
    have hFw : Fo (FWK S M) M M1 := hF.mono (fun x i q => by unfold FWK; omega)
    exact ⟨hC.work hI hFw (CFam.wk hC (hF _ _ (by omega)) (fun k => hF _ _ (by omega)) (fun k i hk => hF _ _ (by have := (hC.pc k hk).1; omega))), ⟨by rw [hF 14 2 (by omega)]; exact hM.1, al_fr hM.2 (fun t => hF 16 t (by omega))⟩, fun k => hF 4 k (by omega)⟩
  have K : ∀ i : Int, 0 ≤ i → i < mPr S pg → ∀ M1, Fo (fun x _ => x = 17) M M1 → (∀ v : Int, (0 ≤ v ∧ v < 2 ^ 9) → (∀ j : Int, 0 ≤ j → tb v j = (decide (j < mPr S pg) && decide (j ≠ mPr S pg - 1 - i) && clI S pg i (mPr S pg - 1 - j))) → A_X0_findClashes_2 G X (fun _ w' M' => w = w' ∧ Fo (fun x _ => x = 17) M M' ∧ CClR S pg M') 4 (i + 1) w (up M1 17 (mPr S pg - 1 - i) v)) →
      ∀ k : Int, k ≤ mPr S pg → ∀ v : Int, 0 ≤ k → (0 ≤ v ∧ v < 2 ^ 9) → (∀ j : Int, 0 ≤ j → tb v j = (decide (j < mPr S pg) && decide (mPr S pg - 1 - j < k) && decide (j ≠ mPr S pg - 1 - i) && clI S pg i (mPr S pg - 1 - j))) → A_X0_findClashes_15 G X (fun _ w' M' => w = w' ∧ Fo (fun x _ => x = 17) M M' ∧ CClR S pg M') 4 i v k w M1 := fun i i0 i1 M1 hF nx => up_ind _ (fun k hk ih v k0 hv hb => by
    obtain ⟨c1, c2, c3⟩ := wk M1 hF
    refine B_X0_findClashes_15 C ?_
    rw [c2.1]
    have more : ∀ v' : Int, (0 ≤ v' ∧ v' < 2 ^ 9) → (∀ j : Int, 0 ≤ j → tb v' j = (tb v j || (decide (j = mPr S pg - 1 - k) && decide (k ≠ i) && clI S pg i k))) → k < mPr S pg → A_X0_findClashes_15 G X (fun _ w' M' => w = w' ∧ Fo (fun x _ => x = 17) M M' ∧ CClR S pg M') 4 i v' (k + 1) w M1 := fun v' g1 g2 g3 => by
      refine ih (k + 1) (by omega) (by omega) v' (by omega) g1 (fun j j0 => ?_)
      rw [g2 j j0, hb j j0]
      by_cases e : j = mPr S pg - 1 - k
      · rw [e, show (mPr S pg : Int) - 1 - (mPr S pg - 1 - k) = k by omega]
        have e1 : decide ((mPr S pg : Int) - 1 - k < mPr S pg) = true := decide_eq_true (by omega)
        have e2 : decide (k < k) = false := decide_eq_false (by omega)
        have e3 : decide (k < k + 1) = true := decide_eq_true (by omega)
        have e4 : decide ((mPr S pg : Int) - 1 - k ≠ mPr S pg - 1 - i) = decide (k ≠ i) := by rw [decide_eq_decide]; omega
        rw [e1, e2, e3, e4]; simp
      · have e2 : decide ((mPr S pg : Int) - 1 - j < k + 1) = decide ((mPr S pg : Int) - 1 - j < k) := by rw [decide_eq_decide]; omega
        rw [e2, decide_eq_false e]; simp
    refine ⟨fun h => ⟨by omega, by omega, by omega, by omega, by omega, nx v hv (fun j j0 => ?_)⟩, fun h => ⟨fun h2 => ⟨by omega, more v hv (fun j j0 => ?_) (by omega)⟩, fun h2 => ?_⟩⟩
    · rw [hb j j0]
      by_cases e : j < mPr S pg
      · rw [decide_eq_true (show (mPr S pg : Int) - 1 - j < k by omega)]; simp
      · rw [decide_eq_false e]; rfl
    · rw [decide_eq_false (show ¬ k ≠ i by omega)]; simp
    · have hpi := pk_pc hI i0 i1
      have hpk := pk_pc (pg := pg) hI k0 (show k < mPr S pg by omega)
      have hpi2 := hpi
      have hpk2 := hpk
      unfold isPc at hpi2 hpk2
      rw [c2.at i0 i1, c2.at k0 (by omega)]
      refine ⟨i0, by omega, sh_4 hFx, by omega, by omega, k0, by omega, by omega, by omega, (c1.pc _ hpi).2.1, _, cc_clashesWith hI c1 hpi hpk, ?_⟩
      rintro _ _ _ ⟨rfl, rfl, rfl⟩
      rw [c2.1]
      have ecl : clashS S (pkS S pg i) (pkS S pg k) = clI S pg i k := rfl
      rw [ecl]
      refine ⟨fun q => ⟨by omega, more v hv (fun j j0 => ?_) (by omega)⟩, fun q => ⟨by omega, by omega, by omega, ?_⟩⟩
      · rw [bi_0.mp q]; simp
      · have q1 : clI S pg i k = true := by cases e : clI S pg i k; rw [e] at q; exact absurd rfl q; rfl
        obtain ⟨s1, s2⟩ := z_set (x := v) (p := (mPr S pg : Int) - 1 - k) (k := 9) hv.1 hv.2 (by omega) (by omega) (by omega) (by omega)
        refine more _ s1 (fun j j0 => ?_) (by omega)
        rw [s2 j j0, q1, decide_eq_true (show k ≠ i from h2)]; simp)
  have L : ∀ i : Int, i ≤ mPr S pg → ∀ M1, 0 ≤ i → Fo (fun x _ => x = 17) M M1 → (∀ t : Int, 0 ≤ t → t < mPr S pg → mPr S pg - 1 - t < i → (0 ≤ M1 17 t ∧ M1 17 t < 2 ^ 9) ∧ ∀ k : Int, 0 ≤ k → tb (M1 17 t) k = (decide (k < mPr S pg) && decide (k ≠ t) && clI S pg (mPr S pg - 1 - t) (mPr S pg - 1 - k))) → A_X0_findClashes_2 G X (fun _ w' M' => w = w' ∧ Fo (fun x _ => x = 17) M M' ∧ CClR S pg M') 4 i w M1 := up_ind _ (fun i hi ih M1 i0 hF hr => by
    obtain ⟨c1, c2, c3⟩ := wk M1 hF
    refine B_X0_findClashes_2 C ?_
    rw [c2.1]
    refine ⟨fun h => ⟨rfl, hF, fun t t0 t1 => hr t t0 t1 (by omega)⟩, fun h => ?_⟩
    refine K i i0 (by omega) M1 hF (fun v hv hb => ih (i + 1) (by omega) (by omega) _ (by omega) (fo_up hF _ rfl) (fun t t0 t1 t2 => ?_)) 0 (by omega) 0 (by omega) (by omega) (fun j j0 => ?_)
    · by_cases e : t = mPr S pg - 1 - i
      · rw [e, up_eq, show (mPr S pg : Int) - 1 - (mPr S pg - 1 - i) = i by omega]
        exact ⟨hv, hb⟩
      · rw [up_ni e]; exact hr t t0 t1 (by omega)
    · rw [tb_0]
      by_cases e : j < mPr S pg
      · rw [decide_eq_false (show ¬ (mPr S pg : Int) - 1 - j < 0 by omega)]; simp
      · rw [decide_eq_false e]; rfl)
  refine B_X0_findClashes_0 C (L 0 (by omega) M (by omega) (Fo.rfl' _ _) (fun t t0 t1 t2 => by omega))
theorem z_and0 {x y : Int} {k : Nat} (h0 : 0 ≤ x) (h1 : x < 2 ^ k) (g0 : 0 ≤ y) (hk : k ≤ 31) : zand x y = 0 ↔ ∀ j, 0 ≤ j → ¬ (tb x j = true ∧ tb y j = true) := by
  obtain ⟨z1, z2⟩ := z_and2 h0 h1 g0 hk
  constructor
  · intro h j j0 q
    have := z2 j j0
    rw [h, tb_0, q.1, q.2] at this; cases this
  · intro h
    refine tb_ext z1.1 (by omega) (fun j j0 => ?_)
    rw [z2 j j0, tb_0]
    cases e1 : tb x j
    · rfl
    · cases e2 : tb y j
      · rfl
      · exact absurd ⟨e1, e2⟩ (h j j0)
theorem one_rv {S : MM} {pg : Int} {s : Nat} (hI : SInv S) : oneB S pg (rv (mPr S pg) s : Nat) = true ↔ ∀ i k : Int, 0 ≤ i → i < mPr S pg → 0 ≤ k → k < mPr S pg → i ≠ k → tb s i = true → tb s k = true → clI S pg (mPr S pg - 1 - i) (mPr S pg - 1 - k) = false := by
  rw [one_iff hI]
  have tr : ∀ i : Int, 0 ≤ i → i < mPr S pg → tb (rv (mPr S pg) s : Nat) i = tb s (mPr S pg - 1 - i) := fun i i0 i1 => by
    rw [tb_nat, tb_nat, rv_tb, decide_eq_true (show i.toNat < mPr S pg by omega), Bool.true_and]
    congr 1; omega
  constructor
  · intro h i k i0 i1 k0 k1 hne ti tk
    refine h _ _ (by omega) (by omega) (by omega) (by omega) (by omega) ?_ ?_
    · rw [tr _ (by omega) (by omega), show (mPr S pg : Int) - 1 - (mPr S pg - 1 - i) = i by omega]; exact ti
    · rw [tr _ (by omega) (by omega), show (mPr S pg : Int) - 1 - (mPr S pg - 1 - k) = k by omega]; exact tk
  · intro h i k i0 i1 k0 k1 hne ti tk
    have := h (mPr S pg - 1 - i) (mPr S pg - 1 - k) (by omega) (by omega) (by omega) (by omega) (by omega) (by rw [← tr i i0 i1]; exact ti) (by rw [← tr k k0 k1]; exact tk)
    rwa [show (mPr S pg : Int) - 1 - (mPr S pg - 1 - i) = i by omega, show (mPr S pg : Int) - 1 - (mPr S pg - 1 - k) = k by omega] at this
theorem cc_fitsOneSheet {G : GP} {l : Launch} {w : NS} {S M : MM} {pg : Int} {s : Nat} (hI : SInv S) (hM : CAs S pg M) (hR : CClR S pg M) (hs : s < 2 ^ mPr S pg) : CT_X0_fitsOneSheet G l [(2, 14), (0, (s : Int))] w M (PE (bi (oneB S pg (rv (mPr S pg) s : Nat))) w M) := by
  refine E_X0_fitsOneSheet (fun _ X hX C => ?_)
  have hm9 := mPr9 (S := S) (pg := pg)
  have h9 : (2 : Nat) ^ mPr S pg ≤ 2 ^ 9 := Nat.pow_le_pow_right (by decide) hm9
  have L : ∀ i : Int, i ≤ mPr S pg → 0 ≤ i → (∀ t k : Int, 0 ≤ t → t < i → 0 ≤ k → k < mPr S pg → t ≠ k → tb s t = true → tb s k = true → clI S pg (mPr S pg - 1 - t) (mPr S pg - 1 - k) = false) → A_X0_fitsOneSheet_2 G X (PE (bi (oneB S pg (rv (mPr S pg) s : Nat))) w M) s i w M := up_ind _ (fun i hi ih i0 hno => by
    refine B_X0_fitsOneSheet_2 C ?_
    rw [hM.1]
    refine ⟨fun h => ⟨?_, rfl, rfl⟩, fun h => ?_⟩
    · rw [(one_rv hI).mpr (fun t k t0 t1 => hno t k t0 (by omega))]; rfl
    · obtain ⟨r1, r2⟩ := hR i i0 (by omega)
      rw [z_hb (x := (s : Int)) (i := i) (by omega) (by omega) i0 (by omega), z_and0 (k := 9) r1.1 r1.2 (by omega) (by omega)]
      refine ⟨fun q => ⟨by omega, ih (i + 1) (by omega) (by omega) (by omega) (fun t k t0 t1 k0 k1 hne ht hk => ?_)⟩, fun q => ⟨i0, by omega, fun q2 => ⟨by omega, ih (i + 1) (by omega) (by omega) (by omega) (fun t k t0 t1 k0 k1 hne ht hk => ?_)⟩, fun q2 => ⟨?_, rfl, rfl⟩⟩⟩
      · by_cases e : t = i
        · rw [e] at ht; exact absurd ht q
        · exact hno t k t0 (by omega) k0 k1 hne ht hk
      · by_cases e : t = i
        · rw [e] at hne ⊢
          apply Bool.eq_false_iff.mpr
          intro hc
          refine q2 k k0 ⟨?_, hk⟩
          rw [r2 k k0, hc, decide_eq_true k1, decide_eq_true (show k ≠ i from fun r => hne r.symm)]; rfl
        · exact hno t k t0 (by omega) k0 k1 hne ht hk
      · cases e : oneB S pg (rv (mPr S pg) s : Nat)
        · rfl
        · exfalso
          apply q2
          intro k k0 hk
          rw [r2 k k0] at hk
          simp only [Bool.and_eq_true, decide_eq_true_eq] at hk
          have := (one_rv hI).mp e i k i0 (by omega) k0 hk.1.1.1 (fun r => hk.1.1.2 r.symm) q hk.2
          rw [this] at hk; exact absurd hk.1.2 (by decide))
  exact B_X0_fitsOneSheet_0 C (L 0 (by omega) (by omega) (fun t k t0 t1 => by omega))
def ShO (S : MM) (pg : Int) (v : Int) (s : Nat) : Prop := (0 ≤ v ∧ v ≤ 10) ∧ ∀ k : Nat, k ≤ 8 → (v ≤ k ↔ CanM (fun q => oneB S pg q = true) k (rv (mPr S pg) s))
theorem sho_1 {S : MM} {pg v : Int} {s : Nat} (h : ShO S pg v s) (hs : s < 2 ^ mPr S pg) (h0 : s ≠ 0) : v = 1 ↔ oneB S pg (rv (mPr S pg) s : Nat) = true := by
  have hz : rv (mPr S pg) s ≠ 0 := fun e => h0 ((rv_z hs).mp e)
  have a0 := h.2 0 (by decide)
  have a1 := h.2 1 (by decide)
  have n0 : ¬ v ≤ ((0 : Nat) : Int) := fun q => hz (a0.mp q)
  constructor
  · intro e
    obtain ⟨q, q1, q2, q3, q4⟩ := (can_S hz).mp (a1.mp (by omega))
    have q4' : rv (mPr S pg) s ^^^ q = 0 := q4
    rw [xor_0.mp q4']; exact q3
  · intro e
    have : v ≤ ((1 : Nat) : Int) := a1.mpr ((can_S hz).mpr ⟨_, hz, Nat.and_self _, e, by rw [Nat.xor_self]; rfl⟩)
    omega
theorem cc_leastSheets {G : GP} {l : Launch} {w : NS} {S M : MM} {pg : Int} {s : Nat} (hI : SInv S) (hs : s < 2 ^ mPr S pg) (h0 : s ≠ 0) (hn : oneB S pg (rv (mPr S pg) s : Nat) = false) (hR : ∀ q : Nat, q < s → ShO S pg (M 18 q) q) : CT_X0_leastSheets G l [(2, 14), (0, (s : Int))] w M (fun z w' M' => ShO S pg z s ∧ w = w' ∧ M = M') := by
  refine E_X0_leastSheets (fun _ X hX C => ?_)
  have hm9 := mPr9 (S := S) (pg := pg)
  have h9 : (2 : Nat) ^ mPr S pg ≤ 2 ^ 9 := Nat.pow_le_pow_right (by decide) hm9
  have hz : rv (mPr S pg) s ≠ 0 := fun e => h0 ((rv_z hs).mp e)
  have K : ∀ (p : Nat) (v : Int), SbM p s → p < s → (0 ≤ v ∧ v ≤ 9) → (∀ k : Nat, k ≤ 7 → (v ≤ k ↔ ∃ q, p < q ∧ q < s ∧ SbM q s ∧ oneB S pg (rv (mPr S pg) q : Nat) = true ∧ CanM (fun q => oneB S pg q = true) k (rv (mPr S pg) (s ^^^ q)))) → A_X0_leastSheets_9 G X (fun z w' M' => ShO S pg z s ∧ w = w' ∧ M = M') s v p w M := by
    intro p
    induction p using Nat.strongRecOn with
    | _ p ih =>
      intro v hp hps hv hk
      refine B_X0_leastSheets_9 C ?_
      refine ⟨fun h => ⟨by omega, ⟨⟨by omega, by omega⟩, fun k hk8 => ?_⟩, rfl, rfl⟩, fun h => ?_⟩
      · cases k with
        | zero => exact ⟨fun q => absurd q (by omega), fun q => absurd q hz⟩
        | succ k =>
          rw [can_S hz]
          have := hk k (by omega)
          rw [show v + 1 ≤ ((k + 1 : Nat) : Int) ↔ v ≤ k by omega, this]
          constructor
          · rintro ⟨q, q1, q2, q3, q4, q5⟩
            refine ⟨rv (mPr S pg) q, fun e => ?_, rv_sub q3, q4, ?_⟩
            · have := (rv_z (show q < 2 ^ mPr S pg by omega)).mp e; omega
            · rw [← rv_xor]; exact q5
          · rintro ⟨q, q1, q2, q3, q4⟩
            have hq : q < 2 ^ mPr S pg := Nat.lt_of_le_of_lt (sbm_le q2) (rv_lt _ _)
            have hsub : SbM (rv (mPr S pg) q) s := by have := rv_sub (m := mPr S pg) q2; rwa [rv_rv hs] at this
            have hne : rv (mPr S pg) q ≠ s := fun e => by
              have : q = rv (mPr S pg) s := by rw [← e, rv_rv hq]
              rw [this, hn] at q3; cases q3
            have hle := sbm_le hsub
            refine ⟨rv (mPr S pg) q, Nat.lt_of_le_of_lt (show p ≤ 0 by omega) (Nat.pos_of_ne_zero (fun e => q1 ((rv_z hq).mp e))), by omega, hsub, by rw [rv_rv hq]; exact q3, ?_⟩
            rw [rv_xor, rv_rv hq]; exact q4
      · have hp0 : 0 < p := by omega
        have hlt := and_pred_lt (s := s) hp0
        have hxl := xor_lt_of hp hp0
        have znx : zand ((p : Int) - 1) (s : Int) = (((p - 1) &&& s : Nat) : Int) := by rw [show (p : Int) - 1 = ((p - 1 : Nat) : Int) by omega, z_and _ _ (by omega)]
        have zx : zxor (s : Int) (p : Int) = ((s ^^^ p : Nat) : Int) := z_xor _ _ (by omega) (by omega)
        rw [znx, zx]
        have hop := sho_1 (hR p hps) (by omega) (by omega)
        have hcs := hR (s ^^^ p) hxl
        have go : ∀ v' : Int, (0 ≤ v' ∧ v' ≤ 9) → (∀ k : Nat, k ≤ 7 → (v' ≤ k ↔ (v ≤ k ∨ (oneB S pg (rv (mPr S pg) p : Nat) = true ∧ CanM (fun q => oneB S pg q = true) k (rv (mPr S pg) (s ^^^ p)))))) → A_X0_leastSheets_9 G X (fun z w' M' => ShO S pg z s ∧ w = w' ∧ M = M') s v' (((p - 1) &&& s : Nat) : Int) w M := fun v' g1 g2 => by
          refine ih _ hlt v' (sbm_and _ _) (by omega) g1 (fun k hk7 => ?_)
          rw [g2 k hk7, hk k hk7]
          constructor
          · rintro (⟨q, q1, q2⟩ | q)
            · exact ⟨q, by omega, q2⟩
            · exact ⟨p, hlt, hps, hp, q⟩
          · rintro ⟨q, q1, q2, q3, q4⟩
            rcases Nat.lt_trichotomy q p with c3 | c3 | c3
            · have := sbm_next p p q s (Nat.le_refl _) hp0 hp q3 c3; omega
            · rw [c3] at q4; exact Or.inr q4
            · exact Or.inl ⟨q, c3, q2, q3, q4⟩
        refine ⟨by omega, by omega, fun h5 => ⟨by omega, go v hv (fun k hk7 => ?_)⟩, fun h5 => ⟨by omega, by omega, fun h6 => ⟨by omega, go v hv (fun k hk7 => ?_)⟩, fun h6 => ⟨by omega, go _ ⟨hcs.1.1, by omega⟩ (fun k hk7 => ?_)⟩⟩⟩
        · exact ⟨Or.inl, fun q => q.elim id (fun r => absurd (hop.mpr r.1) h5)⟩
        · refine ⟨Or.inl, fun q => q.elim id (fun r => ?_)⟩
          have := (hcs.2 k (by omega)).mpr r.2; omega
        · have hone := hop.mp (Decidable.not_not.mp h5)
          rw [hcs.2 k (by omega)]
          constructor
          · exact fun q => Or.inr ⟨hone, q⟩
          · rintro (q | q)
            · exact (hcs.2 k (by omega)).mp (by omega)
            · exact q.2
  refine B_X0_leastSheets_0 C ⟨by omega, ?_⟩
  have hs0 : 0 < s := Nat.pos_of_ne_zero h0
  have znx : zand ((s : Int) - 1) (s : Int) = (((s - 1) &&& s : Nat) : Int) := by rw [show (s : Int) - 1 = ((s - 1 : Nat) : Int) by omega, z_and _ _ (by omega)]
  rw [znx]
  refine K _ 9 (sbm_and _ _) (and_pred_lt hs0) (by omega) (fun k hk7 => ⟨fun q => by omega, ?_⟩)
  rintro ⟨q, q1, q2, q3, -⟩
  have := sbm_next s s q s (Nat.le_refl _) hs0 (Nat.and_self _) q3 q2; omega
theorem cc_countSheets {G : GP} {l : Launch} {w : NS} {S M : MM} {pg : Int} (hI : SInv S) (hM : CAs S pg M) (hR : CClR S pg M) : CT_X0_countSheets G l [(2, 14)] w M (fun _ w' M' => w = w' ∧ Fo (fun x _ => x = 18) M M' ∧ ∀ q : Nat, q < 2 ^ mPr S pg → ShO S pg (M' 18 q) q) := by
  refine E_X0_countSheets (fun X hX C => ?_)
  have hm9 := mPr9 (S := S) (pg := pg)
  have h9 : (2 : Nat) ^ mPr S pg ≤ 2 ^ 9 := Nat.pow_le_pow_right (by decide) hm9
  have hpos : 0 < 2 ^ mPr S pg := Nat.two_pow_pos _
  have fo : ∀ M1, Fo (fun x _ => x = 18) M M1 → CAs S pg M1 ∧ CClR S pg M1 := fun M1 hF => ⟨⟨by rw [hF 14 2 (by omega)]; exact hM.1, al_fr hM.2 (fun t => hF 16 t (by omega))⟩, fun i i0 i1 => by rw [hF 17 i (by omega)]; exact hR i i0 i1⟩
  have L : ∀ s : Int, s ≤ (2 ^ mPr S pg : Nat) → ∀ M1, 1 ≤ s → Fo (fun x _ => x = 18) M M1 → (∀ q : Nat, (q : Int) < s → ShO S pg (M1 18 q) q) → A_X0_countSheets_9 G X (fun _ w' M' => w = w' ∧ Fo (fun x _ => x = 18) M M' ∧ ∀ q : Nat, q < 2 ^ mPr S pg → ShO S pg (M' 18 q) q) s w M1 := up_ind _ (fun s hs ih M1 s0 hF hr => by
    obtain ⟨c1, c2⟩ := fo M1 hF
    refine B_X0_countSheets_9 C ?_
    rw [c1.1, z_shl1 (by omega) (by omega), Int.toNat_natCast]
    refine ⟨fun h => ⟨rfl, hF, fun q hq => hr q (by omega)⟩, fun h => ?_⟩
    have hss : ((s.toNat : Nat) : Int) = s := by omega
    have hfit := cc_fitsOneSheet (G := G) (l := X.2.1) (w := w) (s := s.toNat) hI c1 c2 (by omega)
    rw [hss] at hfit
    have nx : ∀ v : Int, ShO S pg v s.toNat → A_X0_countSheets_9 G X (fun _ w' M' => w = w' ∧ Fo (fun x _ => x = 18) M M' ∧ ∀ q : Nat, q < 2 ^ mPr S pg → ShO S pg (M' 18 q) q) (s + 1) w (up M1 18 s v) := fun v hv => ih (s + 1) (by omega) (by omega) _ (by omega) (fo_up hF _ rfl) (fun q hq => by
      by_cases e : (q : Int) = s
      · rw [e, up_eq, show q = s.toNat by omega]; exact hv
      · rw [up_ni e]; exact hr q (by omega))
    refine ⟨_, hfit, ?_⟩
    rintro _ _ _ ⟨rfl, rfl, rfl⟩
    refine ⟨fun q => ?_, fun q => ⟨by omega, by omega, by omega, nx 1 ?_⟩⟩
    · have hls := cc_leastSheets (G := G) (l := X.2.1) (w := w) (M := M1) (s := s.toNat) hI (by omega) (by omega) (bi_0.mp q) (fun t ht => hr t (by omega))
      rw [hss] at hls
      refine ⟨_, hls, ?_⟩
      rintro z4 _ _ ⟨e1, rfl, rfl⟩
      exact ⟨by omega, by omega, by omega, nx z4 e1⟩
    · have o1 : oneB S pg (rv (mPr S pg) s.toNat : Nat) = true := by cases e : oneB S pg (rv (mPr S pg) s.toNat : Nat); rw [e] at q; exact absurd rfl q; rfl
      have hz : rv (mPr S pg) s.toNat ≠ 0 := fun e => by have := (rv_z (show s.toNat < 2 ^ mPr S pg by omega)).mp e; omega
      refine ⟨by omega, fun k hk => ?_⟩
      cases k with
      | zero => exact ⟨fun r => absurd r (by decide), fun r => absurd r hz⟩
      | succ k =>
        refine ⟨fun _ => (can_S hz).mpr ⟨_, hz, Nat.and_self _, o1, by rw [Nat.xor_self]; exact can_0 _ _⟩, fun _ => by omega⟩)
  refine B_X0_countSheets_0 C (L 1 (by omega) _ (by omega) (fo_up (Fo.rfl' _ _) _ rfl) (fun q hq => ?_))
  rw [show q = 0 by omega]
  rw [show ((0 : Nat) : Int) = 0 from rfl, up_eq]
  exact ⟨by omega, fun k hk => ⟨fun _ => by rw [rv_0]; exact can_0 _ _, fun _ => by omega⟩⟩
theorem zshl_bi {b : Bool} {i : Int} (h0 : 0 ≤ i) (h1 : i < 9) : (0 ≤ zshl (bi b) i ∧ zshl (bi b) i < 2 ^ 9) ∧ ∀ j, 0 ≤ j → tb (zshl (bi b) i) j = (b && decide (j = i)) := by
  cases b
  · have e : zshl (bi false) i = 0 := by
      have := z_shl 0 i.toNat (by omega) (by simp)
      rw [show ((i.toNat : Nat) : Int) = i by omega] at this
      rw [Nat.zero_mul] at this
      exact this
    rw [e]
    exact ⟨by omega, fun j _ => by rw [tb_0]; rfl⟩
  · obtain ⟨o1, o2⟩ := z_one (p := i) (k := 9) h0 (by omega) (by omega) (by omega)
    exact ⟨o1, fun j j0 => by rw [Bool.true_and]; exact o2 j j0⟩
theorem cc_bestSet {G : GP} {l : Launch} {w : NS} {S M : MM} {pg : Int} {n : Nat} (hI : SInv S) (hC : CInv S w M) (hM : CAs S pg M) (hn : 1 ≤ n ∧ n ≤ 4) : CT_X0_bestSet G l [(2, 14), (2, 4), (0, (n : Int))] w M (fun z w' M' => (bstS S pg n : Int) = z ∧ w = w' ∧ Fo (fun x _ => x = 17 ∨ x = 18) M M') := by
  refine E_X0_bestSet (fun _ X hX C => ?_)
  have hm9 := mPr9 (S := S) (pg := pg)
  have h9 : (2 : Nat) ^ mPr S pg ≤ 2 ^ 9 := Nat.pow_le_pow_right (by decide) hm9
  have hpos : 0 < 2 ^ mPr S pg := Nat.two_pow_pos _
  refine B_X0_bestSet_0 C ⟨_, cc_findClashes hI hC hM, ?_⟩
  rintro z2 _ M2 ⟨rfl, hF2, hR2⟩
  have hM2 : CAs S pg M2 := ⟨by rw [hF2 14 2 (by omega)]; exact hM.1, al_fr hM.2 (fun t => hF2 16 t (by omega))⟩
  refine ⟨_, cc_countSheets hI hM2 hR2, ?_⟩
  rintro z4 _ M4 ⟨rfl, hF4, hR4⟩
  have hM4 : CAs S pg M4 := ⟨by rw [hF4 14 2 (by omega)]; exact hM2.1, al_fr hM2.2 (fun t => hF4 16 t (by omega))⟩
  have hF : Fo (fun x _ => x = 17 ∨ x = 18) M M4 := (hF2.mono (fun x i q => Or.inl q)).tr (hF4.mono (fun x i q => Or.inr q))
  have K2 : ∀ b : Nat, b < 2 ^ mPr S pg → rv (mPr S pg) b = bstS S pg n → ∀ i : Int, i ≤ mPr S pg → ∀ v : Int, 0 ≤ i → (0 ≤ v ∧ v < 2 ^ 9) → (∀ j : Int, 0 ≤ j → tb v j = (decide (j < i) && tb b (mPr S pg - 1 - j))) → A_X0_bestSet_63 G X (fun z w' M' => (bstS S pg n : Int) = z ∧ w = w' ∧ Fo (fun x _ => x = 17 ∨ x = 18) M M') b v i w M4 := fun b hb hbe => up_ind _ (fun i hi ih v i0 hv hbt => by
    refine B_X0_bestSet_63 C ?_
    rw [hM4.1]
    refine ⟨fun h => ⟨?_, rfl, hF⟩, fun h => ⟨by omega, by omega, by omega, ?_⟩⟩
    · rw [← hbe]
      refine tb_ext (by omega) hv.1 (fun j j0 => ?_)
      rw [hbt j j0, tb_nat, rv_tb, tb_nat]
      by_cases e : j < mPr S pg
      · rw [decide_eq_true (show j.toNat < mPr S pg by omega), decide_eq_true (show j < i by omega)]
        congr 2; omega
      · rw [decide_eq_false (show ¬ j.toNat < mPr S pg by omega), decide_eq_false (show ¬ j < i by omega)]; rfl
    · rw [z_bit (by omega) (by omega) (by omega) (by omega)]
      obtain ⟨o1, o2⟩ := zshl_bi (b := tb b (mPr S pg - 1 - i)) (i := i) i0 (by omega)
      obtain ⟨s1, s2⟩ := z_or2 (x := v) (y := zshl (bi (tb b (mPr S pg - 1 - i))) i) (k := 9) hv.1 hv.2 o1.1 o1.2 (by omega)
      refine ih (i + 1) (by omega) (by omega) _ (by omega) s1 (fun j j0 => ?_)
      rw [s2 j j0, hbt j j0, o2 j j0]
      by_cases e : j = i
      · rw [e, decide_eq_false (show ¬ i < i by omega), decide_eq_true (show i < i + 1 by omega)]; simp
      · have : decide (j < i + 1) = decide (j < i) := by rw [decide_eq_decide]; omega
        rw [this, decide_eq_false e]; simp)
  have feas : ∀ s : Nat, s < 2 ^ mPr S pg → (M4 18 s ≤ n ↔ canB S pg n (rv (mPr S pg) s) = true) := fun s hs => by
    rw [canB_iff]; exact (hR4 s hs).2 n (by omega)
  have K1 : ∀ s : Int, s ≤ (2 ^ mPr S pg : Nat) → ∀ b : Nat, 1 ≤ s → (b : Int) < s → (b = 0 ∨ canB S pg n (rv (mPr S pg) b) = true) → (∀ t : Nat, (t : Int) < s → canB S pg n (rv (mPr S pg) t) = true → pcM t * 512 + t ≤ pcM b * 512 + b) → A_X0_bestSet_14 G X (fun z w' M' => (bstS S pg n : Int) = z ∧ w = w' ∧ Fo (fun x _ => x = 17 ∨ x = 18) M M') n b s w M4 := up_ind _ (fun s hs ih b s0 hbs hb1 hb2 => by
    refine B_X0_bestSet_14 C ?_
    rw [hM4.1, z_shl1 (by omega) (by omega), Int.toNat_natCast]
    refine ⟨fun h => ?_, fun h => ?_⟩
    · have hb : b < 2 ^ mPr S pg := by omega
      refine K2 b hb ?_ 0 (by omega) 0 (by omega) (by omega) (fun j j0 => by rw [tb_0, decide_eq_false (by omega)]; rfl)
      -- the greatest of both orders is one
      have kr : ∀ t : Nat, t < 2 ^ mPr S pg → keyM (mPr S pg) (rv (mPr S pg) t) = pcM t * 512 + t := fun t ht => by unfold keyM; rw [pcM_rv ht hm9, rv_rv ht]
      obtain ⟨p1, p2⟩ := bst_spec (canB S pg n) (mPr S pg) (2 ^ mPr S pg)
      have hlt : bstS S pg n < 2 ^ mPr S pg := bst_lt (fe := canB S pg n) (m := mPr S pg) hpos
      have z0 : canB S pg n 0 = true := canB_iff.mpr (can_0 _ _)
      have e1 : canB S pg n (rv (mPr S pg) b) = true := by
        rcases hb1 with e | e
        · rw [e, rv_0]; exact z0
        · exact e
      have e2 : canB S pg n (bstS S pg n) = true := by
        rcases p1 with e | e
        · unfold bstS; rw [e]; exact z0
        · exact e.2
      have h1 := p2 (rv (mPr S pg) b) (rv_lt _ _) e1
      have h2 := hb2 (rv (mPr S pg) (bstS S pg n)) (by have := rv_lt (mPr S pg) (bstS S pg n); omega) (by rw [rv_rv hlt]; exact e2)
      have h3 : pcM (rv (mPr S pg) (bstS S pg n)) * 512 + (rv (mPr S pg) (bstS S pg n) : Nat) = keyM (mPr S pg) (bstS S pg n) := by unfold keyM; rw [pcM_rv hlt hm9]
      have h4 := kr b hb
      refine key_inj hm9 (rv_lt _ _) hlt ?_
      have h5 : keyM (mPr S pg) (bstN (canB S pg n) (mPr S pg) (2 ^ mPr S pg)) = keyM (mPr S pg) (bstS S pg n) := rfl
      omega
    · have hss : ((s.toNat : Nat) : Int) = s := by omega
      have hf := feas s.toNat (by omega)
      have ep := popc_m (s := s.toNat) (by omega)
      rw [hss] at hf ep
      have eb := popc_m (s := b) (by omega)
      have sp := pcM_b s.toNat
      have bp := pcM_b b
      rw [ep, eb]
      have keep : ¬ (canB S pg n (rv (mPr S pg) s.toNat) = true ∧ pcM b ≤ pcM s.toNat) → A_X0_bestSet_14 G X (fun z w' M' => (bstS S pg n : Int) = z ∧ w = w' ∧ Fo (fun x _ => x = 17 ∨ x = 18) M M') n b (s + 1) w M4 := fun q => ih (s + 1) (by omega) (by omega) b (by omega) (by omega) hb1 (fun t ht hc => by
        by_cases e : (t : Int) = s
        · have et : t = s.toNat := by omega
          rw [et] at hc ⊢
          have : ¬ pcM b ≤ pcM s.toNat := fun r => q ⟨hc, r⟩
          omega
        · exact hb2 t (by omega) hc)
      refine ⟨by omega, by omega, fun q => ⟨by omega, keep (fun r => by have := hf.mpr r.1; omega)⟩, fun q => ⟨by omega, by omega, by omega, fun q2 => ⟨by omega, keep (fun r => by omega)⟩, fun q2 => ⟨by omega, ?_⟩⟩⟩
      have hc := hf.mp (by omega)
      have := ih (s + 1) (by omega) (by omega) s.toNat (by omega) (by omega) (Or.inr hc) (fun t ht hc2 => by
        by_cases e : (t : Int) = s
        · rw [show t = s.toNat by omega]; exact Int.le_refl _
        · have := hb2 t (by omega) hc2; omega)
      rw [hss] at this
      exact this)
  have := K1 1 (by omega) 0 (by omega) (by omega) (Or.inl rfl) (fun t ht _ => by rw [show t = 0 by omega]; exact Int.le_refl _)
  exact this
theorem cc_served {G : GP} {l : Launch} {w : NS} {S M : MM} {a n x : Int} (hI : SInv S) (hV : RInv S) (hC : CInv S w M) : CT_X9_served G l [(2, 1), (0, a), (0, n), (0, x)] w M (PC M (op_served S a n x)) := by
  refine E_X9_served (fun _ _ _ X hX C => ?_)
  refine B_X9_served_0 C ?_
  have hpg := hI.pg
  rw [hC.top.1]
  refine ⟨by omega, by omega, fun h => ⟨fun h2 => ?_, fun h2 => ⟨fun h3 => ?_, fun h3 => ?_⟩⟩, fun h => ?_⟩
  · have h1 : isPg S a := Decidable.not_not.mp (fun q => h ((pgO_ne hC).mpr q))
    exact pc_s hC (by unfold op_served; rw [if_pos h1, if_neg (fun q => h2 q.1)])
  · have h1 : isPg S a := Decidable.not_not.mp (fun q => h ((pgO_ne hC).mpr q))
    rw [pgO_in hC h1]
    refine ⟨_, cc_gatherAsked hI hV hC h1, ?_⟩
    rintro z7 _ M7 ⟨rfl, k1, k2, k3, k4, k5⟩
    have hnn : ((n.toNat : Nat) : Int) = n := by omega
    have hb := cc_bestSet (G := G) (l := X.2.1) (w := w) (n := n.toNat) hI k1 ⟨k3, k5⟩ (by omega)
    rw [hnn] at hb
    refine ⟨_, hb, ?_⟩
    rintro _ _ M9 ⟨rfl, rfl, hF9⟩
    have hFw : Fo (FWK S M7) M7 M9 := hF9.mono (fun x i q => by unfold FWK; omega)
    have hC9 : CInv S w M9 := k1.work hI hFw (CFam.wk k1 (hF9 _ _ (by omega)) (fun k => hF9 _ _ (by omega)) (fun k i hk => hF9 _ _ (by have := (k1.pc k hk).1; omega)))
    have hm9 := mPr9 (S := S) (pg := a)
    have h9 : (2 : Nat) ^ mPr S a ≤ 2 ^ 9 := Nat.pow_le_pow_right (by decide) hm9
    have hlt := bst_lt (fe := canB S a n.toNat) (m := mPr S a) (Nat.two_pow_pos (mPr S a))
    have hlt2 : bstS S a n.toNat < 512 := by unfold bstS; omega
    have op : ∀ z, (if x = 0 then pcM (bstS S a n.toNat) else (bstS S a n.toNat : Int)) = z → PC M (op_served S a n x) z w M9 := fun z hz => pc_u (S1 := S) (by unfold op_served; rw [if_pos h1, if_pos ⟨h2, h3⟩, hz]) hC9 ((FWK.frc hC k2).tr (FWK.frc k1 hFw))
    rw [popc_m hlt2]
    refine ⟨fun q => op _ ?_, fun q => ⟨by omega, by omega, op _ ?_⟩⟩
    · rw [if_neg q]
    · rw [if_pos (Decidable.not_not.mp q)]
  · have h1 : isPg S a := Decidable.not_not.mp (fun q => h ((pgO_ne hC).mpr q))
    exact pc_s hC (by unfold op_served; rw [if_pos h1, if_neg (fun q => h3 q.2)])
  · exact pc_s hC (by unfold op_served; rw [if_neg ((pgO_ne hC).mp (Decidable.not_not.mp h))])
