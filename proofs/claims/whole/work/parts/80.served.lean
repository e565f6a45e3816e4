/-! SERVED: what it is; THE MODEL -/
noncomputable def pkS (S : MM) (pg i : Int) : Int := (sn1 (askS S pg)).getD i.toNat 0
noncomputable def clI (S : MM) (pg i k : Int) : Bool := clashS S (pkS S pg i) (pkS S pg k)
noncomputable def mPr (S : MM) (pg : Int) : Nat := (askS S pg).length
noncomputable def oneB (S : MM) (pg s : Int) : Bool := !exN (fun i => exN (fun k => tb s i && tb s k && clI S pg i k) i.toNat) (mPr S pg)
theorem clash_sym {S : MM} (hI : SInv S) {a b : Int} (ha : isPc S a) (hb : isPc S b) : clashS S a b = clashS S b a := by
  have ga := hI.po a ha
  have gb := hI.po b hb
  have key : S 45 (S 46 a) = S 46 b ↔ S 45 (S 46 b) = S 46 a := by
    constructor
    · intro h
      rcases hI.sd _ ga with q | q
      · have := gb.1; omega
      · rw [h] at q; exact q.2.2.1
    · intro h
      rcases hI.sd _ gb with q | q
      · have := ga.1; omega
      · rw [h] at q; exact q.2.2.1
  unfold clashS
  rw [Bool.eq_iff_iff]
  by_cases c : S 46 a = S 46 b
  · simp only [c, if_true, Bool.and_eq_true, decide_eq_true_eq]; omega
  · rw [if_neg c, if_neg (fun q => c q.symm)]
    simp only [Bool.and_eq_true, decide_eq_true_eq, key]; omega
theorem pk_pc {S : MM} {pg i : Int} (hI : SInv S) (h0 : 0 ≤ i) (h1 : i < mPr S pg) : isPc S (pkS S pg i) := sn1_mem hI (by unfold mPr at h1; omega)
theorem cl_sym {S : MM} {pg i k : Int} (hI : SInv S) (h0 : 0 ≤ i) (h1 : i < mPr S pg) (g0 : 0 ≤ k) (g1 : k < mPr S pg) : clI S pg i k = clI S pg k i := clash_sym hI (pk_pc hI h0 h1) (pk_pc hI g0 g1)
theorem one_iff {S : MM} {pg s : Int} (hI : SInv S) : oneB S pg s = true ↔ ∀ i k : Int, 0 ≤ i → i < mPr S pg → 0 ≤ k → k < mPr S pg → i ≠ k → tb s i = true → tb s k = true → clI S pg i k = false := by
  unfold oneB
  rw [Bool.not_eq_true', Bool.eq_false_iff, ne_eq, exN_iff]
  constructor
  · intro h i k i0 i1 k0 k1 hne ti tk
    apply Bool.eq_false_iff.mpr
    intro hc
    apply h
    by_cases c : k < i
    · exact ⟨i, i0, i1, (exN_iff _ _).mpr ⟨k, k0, by omega, by rw [ti, tk, hc]; rfl⟩⟩
    · exact ⟨k, k0, k1, (exN_iff _ _).mpr ⟨i, i0, by omega, by rw [ti, tk, cl_sym hI k0 k1 i0 i1, hc]; rfl⟩⟩
  · rintro h ⟨i, i0, i1, hi⟩
    obtain ⟨k, k0, k1, hk⟩ := (exN_iff _ _).mp hi
    simp only [Bool.and_eq_true] at hk
    have := h i k i0 i1 k0 (by omega) (by omega) hk.1.1 hk.1.2
    rw [this] at hk; exact absurd hk.2 (by decide)
def CanM (One : Nat → Prop) : Nat → Nat → Prop
  | 0, s => s = 0
  | k + 1, s => CanM One k s ∨ ∃ q, q ≠ 0 ∧ SbM q s ∧ One q ∧ CanM One k (s ^^^ q)
theorem can_0 (One : Nat → Prop) : ∀ k, CanM One k 0
  | 0 => rfl
  | k + 1 => Or.inl (can_0 One k)
theorem can_S {One : Nat → Prop} : ∀ {k s : Nat}, s ≠ 0 → (CanM One (k + 1) s ↔ ∃ q, q ≠ 0 ∧ SbM q s ∧ One q ∧ CanM One k (s ^^^ q))
  | 0, s, hs => ⟨fun h => h.resolve_left hs, fun h => Or.inr h⟩
  | k + 1, s, hs => by
    constructor
    · rintro (h | h)
      · obtain ⟨q, q1, q2, q3, q4⟩ := (can_S hs).mp h
        exact ⟨q, q1, q2, q3, Or.inl q4⟩
      · exact h
    · exact fun h => Or.inr h
noncomputable def canB (S : MM) (pg : Int) (k s : Nat) : Bool := @decide (CanM (fun q => oneB S pg q = true) k s) (Classical.propDecidable _)
theorem canB_iff {S : MM} {pg : Int} {k s : Nat} : canB S pg k s = true ↔ CanM (fun q => oneB S pg q = true) k s := by
  unfold canB; exact @decide_eq_true_iff _ (Classical.propDecidable _)
def keyM (m s : Nat) : Int := pcM s * 512 + rv m s
def bstN (fe : Nat → Bool) (m : Nat) : Nat → Nat
  | 0 => 0
  | j + 1 => if fe j && decide (keyM m (bstN fe m j) < keyM m j) then j else bstN fe m j
theorem bst_spec (fe : Nat → Bool) (m : Nat) : ∀ j : Nat, (bstN fe m j = 0 ∨ (bstN fe m j < j ∧ fe (bstN fe m j) = true)) ∧ ∀ s, s < j → fe s = true → keyM m s ≤ keyM m (bstN fe m j)
  | 0 => ⟨Or.inl rfl, fun s h => by omega⟩
  | j + 1 => by
    obtain ⟨h1, h2⟩ := bst_spec fe m j
    rw [bstN]
    by_cases c : (fe j && decide (keyM m (bstN fe m j) < keyM m j)) = true
    · rw [if_pos c]
      rw [Bool.and_eq_true, decide_eq_true_eq] at c
      refine ⟨Or.inr ⟨by omega, c.1⟩, fun s hs hf => ?_⟩
      by_cases e : s = j
      · rw [e]; exact Int.le_refl _
      · have := h2 s (by omega) hf; omega
    · rw [if_neg c]
      refine ⟨h1.imp id (fun q => ⟨by omega, q.2⟩), fun s hs hf => ?_⟩
      by_cases e : s = j
      · rw [e]; rw [e] at hf
        rw [hf, Bool.true_and, decide_eq_true_eq] at c; omega
      · exact h2 s (by omega) hf
noncomputable def bstS (S : MM) (pg : Int) (n : Nat) : Nat := bstN (canB S pg n) (mPr S pg) (2 ^ mPr S pg)
theorem bst_lt {fe : Nat → Bool} {m j : Nat} (hj : 0 < j) : bstN fe m j < j := by
  rcases (bst_spec fe m j).1 with h | h
  · omega
  · exact h.1
noncomputable def op_served (S : MM) (pg n x : Int) : Int × MM :=
  (if isPg S pg then (if (1 ≤ n ∧ n ≤ 4) ∧ 0 ≤ x ∧ x ≤ 1 then (if x = 0 then pcM (bstS S pg n.toNat) else (bstS S pg n.toNat : Int)) else -2) else -1, S)
theorem neg512 : ∀ u : Nat, u < 512 → 0 < u → Int32.ofInt (-(u : Int)) = nI (u - 1) ^^^ (-1) := by decide +kernel
theorem z_neg {y u : Nat} (hy : y < 512) (hu : u < 512) (h0 : 0 < u) : zand (y : Int) (-(u : Int)) = ((y ^^^ (y &&& (u - 1)) : Nat) : Int) := by
  unfold zand
  have h1 : y &&& (u - 1) ≤ y := Nat.and_le_left
  have h2 : y ^^^ (y &&& (u - 1)) < 2 ^ 9 := Nat.xor_lt_two_pow hy (Nat.lt_of_le_of_lt h1 hy)
  rw [zi_of, neg512 u hu h0, zi_clr, nI_toInt (by omega)]
theorem xor_0 {a b : Nat} : a ^^^ b = 0 ↔ a = b := by
  constructor
  · intro h
    apply Nat.eq_of_testBit_eq
    intro i
    have := congrArg (fun x => x.testBit i) h
    simp only [Nat.testBit_xor, Nat.zero_testBit] at this
    revert this
    cases a.testBit i <;> cases b.testBit i <;> simp
  · intro h; rw [h, Nat.xor_self]
theorem z_ahead {m t b : Nat} (hm : m ≤ 9) (ht : t < 2 ^ m) (hb : b < 2 ^ m) (hne : t ≠ b) : inR (-(zxor (t : Int) (b : Int))) ∧ (zand (zand (t : Int) (zxor (t : Int) (b : Int))) (-(zxor (t : Int) (b : Int))) = 0 ↔ ¬ rv m b < rv m t) := by
  have h9 : (2 : Nat) ^ m ≤ 2 ^ 9 := Nat.pow_le_pow_right (by decide) hm
  have hx : t ^^^ b < 2 ^ 9 := Nat.xor_lt_two_pow (by omega) (by omega)
  have h0 : 0 < t ^^^ b := Nat.pos_of_ne_zero (fun e => hne (xor_0.mp e))
  have ha : t &&& (t ^^^ b) < 2 ^ 9 := Nat.lt_of_le_of_lt Nat.and_le_left (by omega)
  rw [z_xor t b (by omega) (by omega)]
  refine ⟨by omega, ?_⟩
  rw [z_and _ _ (by omega), z_neg ha hx h0, ← lb_rv, lb_bit m t b ht hb hne, ne_eq, Decidable.not_not, show (0 : Int) = ((0 : Nat) : Int) from rfl, Int.ofNat_inj, xor_0]
  exact ⟨fun q => q.symm, fun q => q.symm⟩
theorem key_lt {m t b : Nat} (hm : m ≤ 9) : keyM m b < keyM m t ↔ (pcM b < pcM t ∨ (pcM t = pcM b ∧ rv m b < rv m t)) := by
  have h9 : (2 : Nat) ^ m ≤ 2 ^ 9 := Nat.pow_le_pow_right (by decide) hm
  have h1 := rv_lt m t
  have h2 := rv_lt m b
  unfold keyM
  omega
theorem key_inj {m a b : Nat} (hm : m ≤ 9) (ha : a < 2 ^ m) (hb : b < 2 ^ m) (h : keyM m a = keyM m b) : a = b := by
  have h9 : (2 : Nat) ^ m ≤ 2 ^ 9 := Nat.pow_le_pow_right (by decide) hm
  have h1 := rv_lt m a
  have h2 := rv_lt m b
  unfold keyM at h
  exact rv_inj ha hb (by omega)
theorem cm_ones {G : GP} {l : Launch} {w : NS} {M : MM} {s : Nat} (hs : s < 512) : CT_X10_ones G l [(0, (s : Int))] w M (PE (pcM s) w M) := by
  refine E_X10_ones (fun _ X hX C => ?_)
  have L : ∀ i : Int, i ≤ 9 → ∀ z, 0 ≤ i → z = cnN (fun k => tb s k) i.toNat → A_X10_ones_4 G X (PE (pcM s) w M) s z i w M := up_ind _ (fun i hi ih z i0 hz => by
    refine B_X10_ones_4 C ?_
    have hr := cnN_rng (fun k => tb s k) i.toNat
    refine ⟨fun h => ⟨?_, rfl, rfl⟩, fun h => ?_⟩
    · rw [hz, show i = 9 by omega]; rfl
    · rw [z_bit (by omega) (by omega) i0 (by omega)]
      have h01 := bi_01 (tb s i)
      refine ⟨by omega, by omega, ih (i + 1) (by omega) (by omega) _ (by omega) ?_⟩
      rw [cnN_s i0, hz]; rfl)
  exact B_X10_ones_0 C (L 0 (by omega) 0 (by omega) rfl)
/-- what the model's rows hold while the sheets are counted -/
def MAs (S : MM) (pg : Int) (M : MM) : Prop := M 41 42 = mPr S pg ∧ AL M 75 (sn1 (askS S pg))
theorem MAs.at {S M : MM} {pg i : Int} (h : MAs S pg M) (h0 : 0 ≤ i) (h1 : i < mPr S pg) : M 75 i = pkS S pg i := by
  unfold pkS; exact al_at h.2 h0 (by rw [sn1_len]; exact h1)
theorem mPr9 {S : MM} {pg : Int} : mPr S pg ≤ 9 := askS_len
theorem cm_isOneSheet {G : GP} {l : Launch} {w : NS} {S M : MM} {pg s : Int} (hI : SInv S) (hA : Ag S M) (hM : MAs S pg M) (h0 : 0 ≤ s) (h1 : s < 512) : CT_X10_isOneSheet G l [(2, 41), (0, s)] w M (PE (bi (oneB S pg s)) w M) := by
  refine E_X10_isOneSheet (fun _ X hX C => ?_)
  have hm9 := mPr9 (S := S) (pg := pg)
  have K : ∀ i : Int, 0 ≤ i → i < mPr S pg → (∀ z, z = bi (!exN (fun i => exN (fun k => tb s i && tb s k && clI S pg i k) i.toNat) (i + 1).toNat) → A_X10_isOneSheet_4 G X (PE (bi (oneB S pg s)) w M) s z (i + 1) w M) →
      ∀ k : Int, k ≤ i → ∀ z, 0 ≤ k → z = bi (!(exN (fun i => exN (fun k => tb s i && tb s k && clI S pg i k) i.toNat) i.toNat || exN (fun k => tb s i && tb s k && clI S pg i k) k.toNat)) → A_X10_isOneSheet_15 G X (PE (bi (oneB S pg s)) w M) s z i k w M := fun i i0 i1 nx => up_ind _ (fun k hk ih z k0 hz => by
    refine B_X10_isOneSheet_15 C ?_
    refine ⟨fun h => ⟨by omega, nx z ?_⟩, fun h => ?_⟩
    · rw [exN_s i0, hz, show k = i by omega]
    · have ih2 := fun z hz => ih (k + 1) (by omega) (by omega) z (by omega) hz
      rw [exN_s k0] at ih2
      have bi1 := z_hb (x := s) (i := i) h0 (by omega) i0 (by omega)
      have bk1 := z_hb (x := s) (i := k) h0 (by omega) k0 (by omega)
      simp only [ne_eq, bi1, bk1]
      generalize hE : exN (fun i => exN (fun k => tb s i && tb s k && clI S pg i k) i.toNat) i.toNat = E at *
      generalize hE2 : exN (fun k => tb s i && tb s k && clI S pg i k) k.toNat = E2 at *
      have h01 := bi_01 (!(E || E2))
      have z0 : z = 0 → A_X10_isOneSheet_15 G X (PE (bi (oneB S pg s)) w M) s 0 i (k + 1) w M := fun q => ih2 0 (by
        have : (!(E || E2)) = false := bi_0.mp (hz.symm.trans q)
        rw [← Bool.or_assoc]
        simp only [Bool.not_eq_false'] at this
        rw [this]; rfl)
      have z1 : ¬ z = 0 → ∀ v : Bool, (tb s i && tb s k && clI S pg i k) = v → A_X10_isOneSheet_15 G X (PE (bi (oneB S pg s)) w M) s (bi (!v)) i (k + 1) w M := fun q v hv => ih2 _ (by
        have : (!(E || E2)) = true := bi_1.mp (by omega)
        rw [← Bool.or_assoc, hv]
        simp only [Bool.not_eq_true'] at this
        rw [this]; rfl)
      refine ⟨fun q => ⟨fun q2 => ⟨by omega, z0 q2⟩, fun q2 => ⟨by omega, z1 q2 false ?_⟩⟩, fun q => ⟨fun q3 => ⟨fun q2 => ⟨by omega, z0 q2⟩, fun q2 => ⟨by omega, z1 q2 false ?_⟩⟩, fun q3 => ⟨fun q2 => ⟨by omega, z0 q2⟩, fun q2 => ⟨i0, by omega, k0, by omega, ?_⟩⟩⟩⟩
      · rw [Bool.eq_false_iff.mpr q]; rfl
      · rw [Bool.eq_false_iff.mpr q3, Bool.and_false]; rfl
      · rw [hM.at i0 i1, hM.at k0 (by omega)]
        refine ⟨_, cm_doClash hI hA (pk_pc hI i0 i1) (pk_pc hI k0 (by omega)), ?_⟩
        rintro _ _ _ ⟨rfl, rfl, rfl⟩
        have ecl : clashS S (pkS S pg i) (pkS S pg k) = clI S pg i k := rfl
        rw [ecl]
        refine ⟨fun q4 => ⟨by omega, ?_⟩, fun q4 => ⟨by omega, ?_⟩⟩
        · have : clI S pg i k = true := by cases e : clI S pg i k; rw [e] at q4; exact absurd rfl q4; rfl
          exact z1 q2 true (by rw [Decidable.not_not.mp q, Decidable.not_not.mp q3, this]; rfl)
        · exact z1 q2 false (by rw [bi_0.mp (Decidable.not_not.mp q4), Bool.and_false]))
  have L : ∀ i : Int, i ≤ mPr S pg → ∀ z, 0 ≤ i → z = bi (!exN (fun i => exN (fun k => tb s i && tb s k && clI S pg i k) i.toNat) i.toNat) → A_X10_isOneSheet_4 G X (PE (bi (oneB S pg s)) w M) s z i w M := up_ind _ (fun i hi ih z i0 hz => by
    refine B_X10_isOneSheet_4 C ?_
    rw [hM.1]
    refine ⟨fun h => ⟨by rw [hz]; exact bi_01 _, ?_, rfl, rfl⟩, fun h => K i i0 (by omega) (fun z hz => ih (i + 1) (by omega) (by omega) z (by omega) hz) 0 (by omega) z (by omega) (by rw [hz]; simp [exN])⟩
    rw [hz, show i.toNat = mPr S pg by omega]; rfl)
  exact B_X10_isOneSheet_0 C (L 0 (by omega) 1 (by omega) rfl)
def F76 (x _i : Int) : Prop := x = 76
theorem F76_wk : WK F76 := fun x i h => by have h : x = 76 := h; subst h; exact ⟨rfl, fun q => absurd q (by decide)⟩
theorem mas_fo {S M M1 : MM} {pg : Int} (h : MAs S pg M) (hF : Fo F76 M M1) : MAs S pg M1 := ⟨by rw [hF 41 42 (by unfold F76; omega)]; exact h.1, al_fr h.2 (fun t => hF 75 t (by unfold F76; omega))⟩
theorem z_par {k : Nat} (hk : k < 512) : zand (k : Int) 1 = ((k % 2 : Nat) : Int) := by
  rw [show (1 : Int) = ((1 : Nat) : Int) from rfl, z_and _ _ (by omega), Nat.and_one_is_mod]
theorem cm_findSheets {G : GP} {l : Launch} {w : NS} {S M : MM} {pg : Int} {n : Nat} (hI : SInv S) (hA : Ag S M) (hM : MAs S pg M) (hn : n ≤ 4) : CT_X10_findSheets G l [(2, 41), (0, (n : Int))] w M (fun _ w' M' => w = w' ∧ Fo F76 M M' ∧ ∀ s : Nat, s < 2 ^ mPr S pg → M' 76 (512 * ((n % 2 : Nat) : Int) + s) = bi (canB S pg n s)) := by
  refine E_X10_findSheets (fun _ X hX C => ?_)
  have hm9 := mPr9 (S := S) (pg := pg)
  have h9 : (2 : Nat) ^ mPr S pg ≤ 2 ^ 9 := Nat.pow_le_pow_right (by decide) hm9
  generalize hall : (2 : Nat) ^ mPr S pg = all at *
  -- one set, one k: the parts
  have K4 : ∀ (k s : Nat), k + 1 ≤ n → s < all → (∀ M1, Fo F76 M M1 → (∀ q, q < all → M1 76 (512 * ((k % 2 : Nat) : Int) + q) = bi (canB S pg k q)) → (∀ q : Nat, q < all → M1 76 (2048 + q) = bi (oneB S pg q)) → (∀ q, q < s + 1 → M1 76 (512 * (((k + 1) % 2 : Nat) : Int) + q) = bi (canB S pg (k + 1) q)) → A_X10_findSheets_60 G X (fun _ w' M' => w = w' ∧ Fo F76 M M' ∧ ∀ s : Nat, s < all → M' 76 (512 * ((n % 2 : Nat) : Int) + s) = bi (canB S pg n s)) n all ((k : Int) + 1) ((s : Int) + 1) w M1) →
      ∀ (p : Nat) (c : Int) (M1 : MM), SbM p s → Fo F76 M M1 → (∀ q, q < all → M1 76 (512 * ((k % 2 : Nat) : Int) + q) = bi (canB S pg k q)) → (∀ q : Nat, q < all → M1 76 (2048 + q) = bi (oneB S pg q)) → (∀ q, q < s → M1 76 (512 * (((k + 1) % 2 : Nat) : Int) + q) = bi (canB S pg (k + 1) q)) → (c = 0 ∨ c = 1) → (c = 1 → CanM (fun q => oneB S pg q = true) (k + 1) s) → (c = 0 → ¬ CanM (fun q => oneB S pg q = true) k s ∧ ∀ q, p < q → SbM q s → oneB S pg q = true → ¬ CanM (fun q => oneB S pg q = true) k (s ^^^ q)) → A_X10_findSheets_89 G X (fun _ w' M' => w = w' ∧ Fo F76 M M' ∧ ∀ s : Nat, s < all → M' 76 (512 * ((n % 2 : Nat) : Int) + s) = bi (canB S pg n s)) n all ((k : Int) + 1) s c p w M1 := by
    intro k s hk hs nx p
    induction p using Nat.strongRecOn with
    | _ p ih =>
      intro c M1 hp hF h1 h2 h3 hc hc1 hc0
      refine B_X10_findSheets_89 C ?_
      have ple := sbm_le hp
      have z1 : zand ((k : Int) + 1) 1 = (((k + 1) % 2 : Nat) : Int) := by have := z_par (k := k + 1) (by omega); rwa [show ((k + 1 : Nat) : Int) = (k : Int) + 1 by omega] at this
      have z2 : zand ((k : Int) + 1 - 1) 1 = ((k % 2 : Nat) : Int) := by rw [show (k : Int) + 1 - 1 = k by omega]; exact z_par (by omega)
      rw [z1, z2]
      have store : c = bi (canB S pg (k + 1) s) → (inR (512 * (((k + 1) % 2 : Nat) : Int))) ∧ (inR (512 * (((k + 1) % 2 : Nat) : Int) + s)) ∧ (0 ≤ 512 * (((k + 1) % 2 : Nat) : Int) + s) ∧ (512 * (((k + 1) % 2 : Nat) : Int) + s < 2560) ∧ (c = 0 ∨ c = 1) ∧ (inR ((s : Int) + 1)) ∧ A_X10_findSheets_60 G X (fun _ w' M' => w = w' ∧ Fo F76 M M' ∧ ∀ s : Nat, s < all → M' 76 (512 * ((n % 2 : Nat) : Int) + s) = bi (canB S pg n s)) n all ((k : Int) + 1) ((s : Int) + 1) w (up M1 76 (512 * (((k + 1) % 2 : Nat) : Int) + s) c) := fun e => by
        refine ⟨by omega, by omega, by omega, by omega, hc, by omega, nx _ (fo_up hF _ rfl) (fun q hq => ?_) (fun q hq => ?_) (fun q hq => ?_)⟩
        · rw [up_ni (by omega)]; exact h1 q hq
        · rw [up_ni (by omega)]; exact h2 q hq
        · by_cases e2 : q = s
          · rw [e2, up_eq]; exact e
          · rw [up_ni (by omega)]; exact h3 q (by omega)
      refine ⟨fun h => store ?_, fun h => ⟨fun h4 => store ?_, fun h4 => ?_⟩⟩
      · rcases hc with e | e
        · rw [e]
          obtain ⟨n1, n2⟩ := hc0 e
          symm; apply bi_0.mpr; apply Bool.eq_false_iff.mpr
          intro q
          rcases canB_iff.mp q with q | ⟨t, t1, t2, t3, t4⟩
          · exact n1 q
          · exact n2 t (by omega) t2 t3 t4
        · rw [e, canB_iff.mpr (hc1 e)]; rfl
      · have e : c = 1 := by omega
        rw [e, canB_iff.mpr (hc1 e)]; rfl
      · have e0 : c = 0 := Decidable.not_not.mp h4
        obtain ⟨n1, n2⟩ := hc0 e0
        have hp0 : 0 < p := by omega
        have znx : zand ((p : Int) - 1) (s : Int) = (((p - 1) &&& s : Nat) : Int) := by rw [show (p : Int) - 1 = ((p - 1 : Nat) : Int) by omega, z_and _ _ (by omega)]
        have zcl : zand (s : Int) (zxor (p : Int) (-1)) = ((s ^^^ p : Nat) : Int) := by
          unfold zand zxor
          have hle : s &&& p ≤ s := Nat.and_le_left
          have hx : s ^^^ (s &&& p) < 2 ^ 9 := Nat.xor_lt_two_pow (by omega) (by omega)
          rw [Int32.ofInt_toInt, zi_of, zi_of, show Int32.ofInt (-1) = (-1 : Int32) from rfl, zi_clr, nI_toInt (by omega)]
          have : s &&& p = p := by rw [Nat.and_comm]; exact hp
          rw [this]
        have hlt := and_pred_lt (s := s) hp0
        have hxl := xor_lt_of hp hp0
        have go : ∀ c' : Int, (c' = 0 ∨ c' = 1) → (c' = 1 → CanM (fun q => oneB S pg q = true) (k + 1) s) → (c' = 0 → ¬ (oneB S pg p = true ∧ CanM (fun q => oneB S pg q = true) k (s ^^^ p))) → A_X10_findSheets_89 G X (fun _ w' M' => w = w' ∧ Fo F76 M M' ∧ ∀ s : Nat, s < all → M' 76 (512 * ((n % 2 : Nat) : Int) + s) = bi (canB S pg n s)) n all ((k : Int) + 1) s c' (((p - 1) &&& s : Nat) : Int) w M1 := fun c' g1 g2 g3 => by
          refine ih _ hlt c' M1 (sbm_and _ _) hF h1 h2 h3 g1 g2 (fun e => ⟨n1, fun q hq hq2 hq3 hq4 => ?_⟩)
          rcases Nat.lt_trichotomy q p with c3 | c3 | c3
          · have := sbm_next p p q s (Nat.le_refl _) hp0 hp hq2 c3; omega
          · rw [c3] at hq3 hq4; exact g3 e ⟨hq3, hq4⟩
          · exact n2 q c3 hq2 hq3 hq4
        rw [znx, zcl, h2 p (by omega), h1 _ (by omega)]
        refine ⟨by omega, by omega, by omega, fun h5 => ⟨by omega, go 0 (Or.inl rfl) (fun q => by omega) (fun _ q => ?_)⟩, fun h5 => ⟨by omega, by omega, by omega, by omega, by omega, fun h6 => ⟨by omega, go 0 (Or.inl rfl) (fun q => by omega) (fun _ q => ?_)⟩, fun h6 => ⟨by omega, go 1 (Or.inr rfl) (fun _ => ?_) (fun q => by omega)⟩⟩⟩
        · rw [q.1] at h5; exact absurd h5 (by decide)
        · rw [canB_iff.mpr q.2] at h6; exact absurd h6 (by decide)
        · have o1 : oneB S pg p = true := by cases e : oneB S pg p; rw [e] at h5; exact absurd rfl h5; rfl
          have o2 : canB S pg k (s ^^^ p) = true := by cases e : canB S pg k (s ^^^ p); rw [e] at h6; exact absurd rfl h6; rfl
          exact Or.inr ⟨p, by omega, hp, o1, canB_iff.mp o2⟩
  have K3 : ∀ k : Nat, k + 1 ≤ n → (∀ M1, Fo F76 M M1 → (∀ q, q < all → M1 76 (512 * (((k + 1) % 2 : Nat) : Int) + q) = bi (canB S pg (k + 1) q)) → (∀ q : Nat, q < all → M1 76 (2048 + q) = bi (oneB S pg q)) → A_X10_findSheets_52 G X (fun _ w' M' => w = w' ∧ Fo F76 M M' ∧ ∀ s : Nat, s < all → M' 76 (512 * ((n % 2 : Nat) : Int) + s) = bi (canB S pg n s)) n all ((k : Int) + 2) w M1) →
      ∀ s : Int, s ≤ all → ∀ M1, 0 ≤ s → Fo F76 M M1 → (∀ q, q < all → M1 76 (512 * ((k % 2 : Nat) : Int) + q) = bi (canB S pg k q)) → (∀ q : Nat, q < all → M1 76 (2048 + q) = bi (oneB S pg q)) → (∀ q, q < s.toNat → M1 76 (512 * (((k + 1) % 2 : Nat) : Int) + q) = bi (canB S pg (k + 1) q)) → A_X10_findSheets_60 G X (fun _ w' M' => w = w' ∧ Fo F76 M M' ∧ ∀ s : Nat, s < all → M' 76 (512 * ((n % 2 : Nat) : Int) + s) = bi (canB S pg n s)) n all ((k : Int) + 1) s w M1 := fun k hk nx => up_ind _ (fun s hs ih M1 s0 hF h1 h2 h3 => by
    refine B_X10_findSheets_60 C ?_
    have z2 : zand ((k : Int) + 1 - 1) 1 = ((k % 2 : Nat) : Int) := by rw [show (k : Int) + 1 - 1 = k by omega]; exact z_par (by omega)
    rw [z2]
    refine ⟨fun h => ⟨by omega, ?_⟩, fun h => ⟨by omega, by omega, by omega, by omega, by omega, ?_⟩⟩
    · rw [show (k : Int) + 1 + 1 = (k : Int) + 2 by omega]
      exact nx M1 hF (fun q hq => h3 q (by omega)) h2
    · have hss : ((s.toNat : Nat) : Int) = s := by omega
      have h1s := h1 s.toNat (by omega)
      rw [hss] at h1s
      rw [h1s]
      have := K4 k s.toNat hk (by omega) (fun M2 g1 g2 g3 g4 => by
        have h6 := ih (s + 1) (by omega) (by omega) M2 (by omega) g1 g2 g3
        rw [show (s + 1).toNat = s.toNat + 1 by omega] at h6
        rw [hss]; exact h6 g4) s.toNat (bi (canB S pg k s.toNat)) M1 (Nat.and_self _) hF h1 h2 h3 (bi_01 _) (fun e => Or.inl (canB_iff.mp (bi_1.mp e))) (fun e => ⟨fun q => (by rw [canB_iff.mpr q] at e; exact absurd e (by decide)), fun q hq hq2 => (by have := sbm_le hq2; omega)⟩)
      rw [hss] at this
      exact this)
  have K2 : ∀ k : Int, k ≤ (n : Int) + 1 → ∀ M1, 1 ≤ k → Fo F76 M M1 → (∀ q, q < all → M1 76 (512 * (((k - 1).toNat % 2 : Nat) : Int) + q) = bi (canB S pg (k - 1).toNat q)) → (∀ q : Nat, q < all → M1 76 (2048 + q) = bi (oneB S pg q)) → A_X10_findSheets_52 G X (fun _ w' M' => w = w' ∧ Fo F76 M M' ∧ ∀ s : Nat, s < all → M' 76 (512 * ((n % 2 : Nat) : Int) + s) = bi (canB S pg n s)) n all k w M1 := up_ind _ (fun k hk ih M1 k0 hF h1 h2 => by
    refine B_X10_findSheets_52 C ?_
    refine ⟨fun h => ⟨rfl, hF, ?_⟩, fun h => ?_⟩
    · rw [show (k - 1).toNat = n by omega] at h1; exact h1
    · have hkk : (((k - 1).toNat : Nat) : Int) + 1 = k := by omega
      have := K3 (k - 1).toNat (by omega) (fun M2 g1 g2 g3 => by
        rw [show (((k - 1).toNat : Nat) : Int) + 2 = k + 1 by omega]
        refine ih (k + 1) (by omega) (by omega) M2 (by omega) g1 ?_ g3
        rw [show (k + 1 - 1).toNat = (k - 1).toNat + 1 by omega]; exact g2) 0 (by omega) M1 (by omega) hF h1 h2 (fun q hq => by simp at hq)
      rw [hkk] at this
      exact this)
  have K1 : ∀ s : Int, s ≤ all → ∀ M1, 0 ≤ s → Fo F76 M M1 → (∀ q : Nat, (q : Int) < s → M1 76 q = bi (canB S pg 0 q)) → (∀ q : Nat, (q : Int) < s → M1 76 (2048 + q) = bi (oneB S pg q)) → A_X10_findSheets_9 G X (fun _ w' M' => w = w' ∧ Fo F76 M M' ∧ ∀ s : Nat, s < all → M' 76 (512 * ((n % 2 : Nat) : Int) + s) = bi (canB S pg n s)) n all s w M1 := up_ind _ (fun s hs ih M1 s0 hF h1 h2 => by
    refine B_X10_findSheets_9 C ?_
    have hss : ((s.toNat : Nat) : Int) = s := by omega
    have sheet : s < all → ∀ v : Int, v = bi (canB S pg 0 s.toNat) → ∃ Q : Int → NS → MM → Prop, CT_X10_isOneSheet G X.2.1 [(2, 41), (0, s)] w (up M1 76 s v) Q ∧ ∀ (z6 : Int) (w6 : NS) (M6 : MM), Q z6 w6 M6 → (0 ≤ (2048 + s)) ∧ ((2048 + s) < 2560) ∧ (z6 = 0 ∨ z6 = 1) ∧ (inR (s + 1)) ∧ A_X10_findSheets_9 G X (fun _ w' M' => w = w' ∧ Fo F76 M M' ∧ ∀ s : Nat, s < all → M' 76 (512 * ((n % 2 : Nat) : Int) + s) = bi (canB S pg n s)) n all (s + 1) w6 (up M6 76 (2048 + s) z6) := fun c v hv => by
      refine ⟨_, cm_isOneSheet hI ((fo_up hF (a := 76) (i := s) v rfl).ag F76_wk hA) (mas_fo hM (fo_up hF v rfl)) s0 (by omega), ?_⟩
      rintro _ _ _ ⟨rfl, rfl, rfl⟩
      refine ⟨by omega, by omega, bi_01 _, by omega, ih (s + 1) (by omega) (by omega) _ (by omega) (fo_up (fo_up hF v rfl) _ rfl) (fun q hq => ?_) (fun q hq => ?_)⟩
      · rw [up_ni (by omega)]
        by_cases e : (q : Int) = s
        · rw [e, up_eq, hv, show q = s.toNat by omega]
        · rw [up_ni e]; exact h1 q (by omega)
      · by_cases e : (q : Int) = s
        · rw [e, up_eq]
        · rw [up_ni (by omega), up_ni (by omega)]; exact h2 q (by omega)
    refine ⟨fun h => K2 1 (by omega) M1 (by omega) hF (fun q hq => ?_) (fun q hq => h2 q (by omega)), fun h => ⟨fun h4 => ⟨s0, by omega, by omega, ?_⟩, fun h4 => ⟨s0, by omega, by omega, ?_⟩⟩⟩
    · have := h1 q (by omega)
      rw [show (1 - 1 : Int).toNat = 0 from rfl]
      simpa using this
    · exact sheet (by omega) 0 (by
        symm; apply bi_0.mpr; apply Bool.eq_false_iff.mpr
        intro q
        have : s.toNat = 0 := canB_iff.mp q
        omega)
    · exact sheet (by omega) 1 (by
        have : s.toNat = 0 := by omega
        rw [canB_iff.mpr (show CanM _ 0 s.toNat from this)]; rfl))
  refine B_X10_findSheets_0 C ?_
  rw [hM.1, z_shl1 (by omega) (by omega), Int.toNat_natCast, hall]
  exact K1 0 (by omega) M (by omega) (Fo.rfl' _ _) (fun q hq => by omega) (fun q hq => by omega)
theorem cm_served {G : GP} {l : Launch} {w : NS} {S M : MM} {a n x : Int} (hI : SInv S) (hV : RInv S) (hA : Ag S M) (hD : MD S M) : CT_X10_served G l [(2, 41), (0, a), (0, n), (0, x)] w M (PMD w M (op_served S a n x)) := by
  refine E_X10_served (fun _ _ _ X hX C => ?_)
  refine B_X10_served_0 C ?_
  have hpg := hI.pg
  rw [hA.2 4 rfl]
  refine ⟨by omega, fun h1 => ⟨fun h2 => pd_s hA hD ?_, fun h2 => ⟨fun h3 => ⟨_, cm_findAsked hI hV hA hD h1, ?_⟩, fun h3 => pd_s hA hD ?_⟩⟩, fun h1 => pd_s hA hD (by unfold op_served; rw [if_neg h1])⟩
  · unfold op_served; rw [if_pos h1, if_neg (fun q => h2 q.1)]
  · rintro z6 _ M6 ⟨rfl, k1, k2, k3, k4, k5⟩
    have hM6 : MAs S a M6 := ⟨k1, k3⟩
    have hA6 := k5.ag FAK_wk hA
    have hnn : ((n.toNat : Nat) : Int) = n := by omega
    have hfs := cm_findSheets (G := G) (l := X.2.1) (w := w) (n := n.toNat) hI hA6 hM6 (by omega)
    rw [hnn] at hfs
    refine ⟨_, hfs, ?_⟩
    rintro z8 _ M8 ⟨rfl, hF8, h8⟩
    have hm9 := mPr9 (S := S) (pg := a)
    have h9 : (2 : Nat) ^ mPr S a ≤ 2 ^ 9 := Nat.pow_le_pow_right (by decide) hm9
    have hpos : 0 < 2 ^ mPr S a := Nat.two_pow_pos _
    have zn : zand n 1 = ((n.toNat % 2 : Nat) : Int) := by have := z_par (k := n.toNat) (by omega); rwa [hnn] at this
    have hA8 := hF8.ag F76_wk hA6
    have hD8 : MD S M8 := md_dk hA6 hA8 k4 (hF8.dk (fun x i q => by have : x = 76 := q; unfold DC; omega))
    have hfr : FrM M M8 := (k5.frm FAK_in).tr (hF8.frm (fun x i q => by have : x = 76 := q; omega))
    have op : ∀ z, (if x = 0 then pcM (bstS S a n.toNat) else (bstS S a n.toNat : Int)) = z → PMD w M (op_served S a n x) z w M8 := fun z hz => pd_u (S1 := S) (by unfold op_served; rw [if_pos h1, if_pos ⟨h2, h3⟩, hz]) hA8 hfr hD8
    have L : ∀ s : Int, s ≤ (2 ^ mPr S a : Nat) → ∀ b : Int, 1 ≤ s → b = (bstN (canB S a n.toNat) (mPr S a) s.toNat : Nat) → A_X10_served_51 G X (PMD w M (op_served S a n x)) n x b s w M8 := up_ind _ (fun s hs ih b s0 hb => by
      refine B_X10_served_51 C ?_
      rw [(mas_fo hM6 hF8).1, z_shl1 (by omega) (by omega), Int.toNat_natCast, zn]
      have hblt := bst_lt (fe := canB S a n.toNat) (m := mPr S a) (j := s.toNat) (by omega)
      have hst : bstN (canB S a n.toNat) (mPr S a) (s + 1).toNat = if canB S a n.toNat s.toNat && decide (keyM (mPr S a) (bstN (canB S a n.toNat) (mPr S a) s.toNat) < keyM (mPr S a) s.toNat) then s.toNat else bstN (canB S a n.toNat) (mPr S a) s.toNat := by
        rw [show (s + 1).toNat = s.toNat + 1 by omega, bstN]
      generalize hB : bstN (canB S a n.toNat) (mPr S a) s.toNat = B at *
      refine ⟨fun h => ?_, fun h => ?_⟩
      · have e : bstS S a n.toNat = B := by unfold bstS; rw [← hB, show s.toNat = 2 ^ mPr S a by omega]
        rw [e] at op
        refine ⟨fun q => op _ ?_, fun q => ?_⟩
        · rw [if_neg q, hb]
        · rw [hb]
          refine ⟨_, cm_ones (by omega), ?_⟩
          rintro _ _ _ ⟨rfl, rfl, rfl⟩
          exact op _ (by rw [if_pos (Decidable.not_not.mp q)])
      · have hss : ((s.toNat : Nat) : Int) = s := by omega
        have h8s := h8 s.toNat (by omega)
        rw [hss] at h8s
        have keep : ¬ (canB S a n.toNat s.toNat = true ∧ keyM (mPr S a) B < keyM (mPr S a) s.toNat) → A_X10_served_51 G X (PMD w M (op_served S a n x)) n x b (s + 1) w M8 := fun q => ih (s + 1) (by omega) (by omega) b (by omega) (by
          rw [hst, if_neg (by rw [Bool.and_eq_true, decide_eq_true_eq]; exact q), hb])
        have take : (canB S a n.toNat s.toNat = true ∧ keyM (mPr S a) B < keyM (mPr S a) s.toNat) → A_X10_served_51 G X (PMD w M (op_served S a n x)) n x s (s + 1) w M8 := fun q => ih (s + 1) (by omega) (by omega) s (by omega) (by
          rw [hst, if_pos (by rw [Bool.and_eq_true, decide_eq_true_eq]; exact q), hss])
        rw [h8s]
        refine ⟨by omega, by omega, by omega, by omega, fun q => ⟨by omega, keep (fun r => by rw [r.1] at q; exact absurd q (by decide))⟩, fun q => ?_⟩
        have hc : canB S a n.toNat s.toNat = true := by cases e : canB S a n.toNat s.toNat; rw [e] at q; exact absurd rfl q; rfl
        have hah := z_ahead (m := mPr S a) (t := s.toNat) (b := B) hm9 (by omega) (by omega) (by omega)
        have hkl := key_lt (m := mPr S a) (t := s.toNat) (b := B) hm9
        have on1 := cm_ones (G := G) (l := X.2.1) (w := w) (M := M8) (s := s.toNat) (by omega)
        have on2 := cm_ones (G := G) (l := X.2.1) (w := w) (M := M8) (s := B) (by omega)
        rw [hss] at hah on1
        rw [← hb] at hah on2
        rw [hah.2]
        refine ⟨hah.1, fun q2 => ⟨_, on1, ?_⟩, fun q2 => ⟨_, on1, ?_⟩⟩
        · rintro _ _ _ ⟨rfl, rfl, rfl⟩
          refine ⟨_, on2, ?_⟩
          rintro _ _ _ ⟨rfl, rfl, rfl⟩
          refine ⟨fun q3 => ⟨by omega, take ⟨hc, hkl.mpr (Or.inl q3)⟩⟩, fun q3 => ⟨_, on1, ?_⟩⟩
          rintro _ _ _ ⟨rfl, rfl, rfl⟩
          refine ⟨_, on2, ?_⟩
          rintro _ _ _ ⟨rfl, rfl, rfl⟩
          have no : ¬ (canB S a n.toNat s.toNat = true ∧ keyM (mPr S a) B < keyM (mPr S a) s.toNat) := fun r => (hkl.mp r.2).elim q3 (fun t => q2 t.2)
          exact ⟨fun _ => ⟨by omega, keep no⟩, fun _ => ⟨by omega, keep no⟩⟩
        · rintro _ _ _ ⟨rfl, rfl, rfl⟩
          refine ⟨_, on2, ?_⟩
          rintro _ _ _ ⟨rfl, rfl, rfl⟩
          refine ⟨fun q3 => ⟨by omega, take ⟨hc, hkl.mpr (Or.inl q3)⟩⟩, fun q3 => ⟨_, on1, ?_⟩⟩
          rintro _ _ _ ⟨rfl, rfl, rfl⟩
          refine ⟨_, on2, ?_⟩
          rintro _ _ _ ⟨rfl, rfl, rfl⟩
          refine ⟨fun q4 => ⟨by omega, keep (fun r => (hkl.mp r.2).elim q3 (fun t => q4 t.1))⟩, fun q4 => ⟨by omega, take ⟨hc, hkl.mpr (Or.inr ⟨Decidable.not_not.mp q4, Decidable.not_not.mp q2⟩)⟩⟩⟩)
    refine L 1 (by omega) 0 (by omega) ?_
    have : bstN (canB S a n.toNat) (mPr S a) 1 = 0 := by
      rw [bstN, if_neg]
      · rfl
      · rw [Bool.and_eq_true, decide_eq_true_eq]
        exact fun q => Int.lt_irrefl _ q.2
    rw [show (1 : Int).toNat = 1 from rfl, this]; rfl
  · unfold op_served; rw [if_pos h1, if_neg (fun q => h3 q.2)]
