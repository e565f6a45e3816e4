/-! THE RULE: what it says of a piece -/
theorem z_or2 {x y : Int} {k : Nat} (h0 : 0 ≤ x) (h1 : x < 2 ^ k) (g0 : 0 ≤ y) (g1 : y < 2 ^ k) (hk : k ≤ 31) : (0 ≤ zor x y ∧ zor x y < 2 ^ k) ∧ ∀ j, 0 ≤ j → tb (zor x y) j = (tb x j || tb y j) := by
  obtain ⟨n, rfl⟩ : ∃ n : Nat, x = n := ⟨x.toNat, by omega⟩
  obtain ⟨m, rfl⟩ : ∃ n : Nat, y = n := ⟨y.toNat, by omega⟩
  have hn : n < 2 ^ k := by exact_mod_cast h1
  have hm : m < 2 ^ k := by exact_mod_cast g1
  have h31 : (2 : Nat) ^ k ≤ 2 ^ 31 := Nat.pow_le_pow_right (by decide) hk
  rw [z_or _ _ (by omega) (by omega)]
  have hlt := Nat.or_lt_two_pow hn hm
  refine ⟨⟨by omega, by exact_mod_cast hlt⟩, fun j hj => ?_⟩
  unfold tb
  rw [Int.toNat_natCast, Int.toNat_natCast, Int.toNat_natCast, Nat.testBit_or]
theorem z_and2 {x y : Int} {k : Nat} (h0 : 0 ≤ x) (h1 : x < 2 ^ k) (g0 : 0 ≤ y) (hk : k ≤ 31) : (0 ≤ zand x y ∧ zand x y < 2 ^ k) ∧ ∀ j, 0 ≤ j → tb (zand x y) j = (tb x j && tb y j) := by
  obtain ⟨n, rfl⟩ : ∃ n : Nat, x = n := ⟨x.toNat, by omega⟩
  obtain ⟨m, rfl⟩ : ∃ n : Nat, y = n := ⟨y.toNat, by omega⟩
  have hn : n < 2 ^ k := by exact_mod_cast h1
  have h31 : (2 : Nat) ^ k ≤ 2 ^ 31 := Nat.pow_le_pow_right (by decide) hk
  rw [z_and _ _ (by omega)]
  have hlt : n &&& m < 2 ^ k := Nat.lt_of_le_of_lt Nat.and_le_left hn
  refine ⟨⟨by omega, by exact_mod_cast hlt⟩, fun j hj => ?_⟩
  unfold tb
  rw [Int.toNat_natCast, Int.toNat_natCast, Int.toNat_natCast, Nat.testBit_and]
theorem z_xor2 {x y : Int} {k : Nat} (h0 : 0 ≤ x) (h1 : x < 2 ^ k) (g0 : 0 ≤ y) (g1 : y < 2 ^ k) (hk : k ≤ 31) : (0 ≤ zxor x y ∧ zxor x y < 2 ^ k) ∧ ∀ j, 0 ≤ j → tb (zxor x y) j = (tb x j ^^ tb y j) := by
  obtain ⟨n, rfl⟩ : ∃ n : Nat, x = n := ⟨x.toNat, by omega⟩
  obtain ⟨m, rfl⟩ : ∃ n : Nat, y = n := ⟨y.toNat, by omega⟩
  have hn : n < 2 ^ k := by exact_mod_cast h1
  have hm : m < 2 ^ k := by exact_mod_cast g1
  have h31 : (2 : Nat) ^ k ≤ 2 ^ 31 := Nat.pow_le_pow_right (by decide) hk
  rw [z_xor _ _ (by omega) (by omega)]
  have hlt := Nat.xor_lt_two_pow hn hm
  refine ⟨⟨by omega, by exact_mod_cast hlt⟩, fun j hj => ?_⟩
  unfold tb
  rw [Int.toNat_natCast, Int.toNat_natCast, Int.toNat_natCast, Nat.testBit_xor]
theorem z_one {p : Int} {k : Nat} (h0 : 0 ≤ p) (h1 : p < k) (hk : k ≤ 31) (h2 : p < 31) : (0 ≤ zshl 1 p ∧ zshl 1 p < 2 ^ k) ∧ ∀ j, 0 ≤ j → tb (zshl 1 p) j = decide (j = p) := by
  rw [z_shl1 h0 h2]
  have hlt : 2 ^ p.toNat < 2 ^ k := Nat.pow_lt_pow_right (by decide) (by omega)
  refine ⟨⟨Int.natCast_nonneg _, by exact_mod_cast hlt⟩, fun j hj => ?_⟩
  unfold tb
  rw [Int.toNat_natCast, Nat.testBit_two_pow, decide_eq_decide]; omega
def sgn (S : MM) (o i : Int) : Int := if 0 ≤ i ∧ i < S 57 o then S 56 (40 * o + i) else 0
def dgt (S : MM) (o i : Int) : Int := if 48 ≤ sgn S o i ∧ sgn S o i ≤ 57 then sgn S o i - 48 else -1
def wdA (S : MM) (o i : Int) : Int := if dgt S o (i + 1) < 0 then dgt S o i else 10 * dgt S o i + dgt S o (i + 1)
theorem dgt_rng (S : MM) (o i : Int) : -1 ≤ dgt S o i ∧ dgt S o i ≤ 9 := by unfold dgt; split <;> omega
def howS (W : List Int) (x : Int) : Int := cnN (fun j => decide (W.getD j.toNat 0 = x)) W.length
def wayS (i k : Int) : Int := if i < k then k - i else i - k
def nrS (W : List Int) (x y d i k : Int) : Bool := decide (W.getD i.toNat 0 = x) && decide (W.getD k.toNat 0 = y) && decide (0 < wayS i k) && decide (wayS i k ≤ d)
def nearS (W : List Int) (x y d : Int) : Bool := exN (fun i => exN (fun k => nrS W x y d i k) W.length) W.length
def nxI (S : MM) (o i : Int) : Int := if dgt S o (i + 1) < 0 then i + 1 else i + 2
def itS (S : MM) (o k i : Int) : Bool :=
  if sgn S o (nxI S o i) = 126 then nearS (wl S k) (wdA S o i) (wdA S o (nxI S o i + 3)) (dgt S o (nxI S o i + 1))
  else if sgn S o (nxI S o i) = 62 then decide (dgt S o (nxI S o i + 1) < howS (wl S k) (wdA S o i))
  else decide (0 < howS (wl S k) (wdA S o i))
abbrev RS : Type := (Int → Bool) × (Int → Bool) × (Int → Bool)
def ub (f : Int → Bool) (e : Int) (b : Bool) : Int → Bool := fun x => if x = e then b else f x
def joR (R : RS) (e : Int) (b : Bool) : RS := (R.1, ub R.2.1 e (R.2.1 e && (b != R.2.2 e)), ub R.2.2 e false)
def stR (s c d : Int) (it : Bool) (R : RS) : RS :=
  if c = 40 then (ub R.1 (d + 1) false, ub R.2.1 (d + 1) true, ub R.2.2 (d + 1) false)
  else if c = 33 then (R.1, R.2.1, ub R.2.2 d (!R.2.2 d))
  else if c = 124 then (ub R.1 d (R.1 d || R.2.1 d), ub R.2.1 d true, R.2.2)
  else if c = 41 then joR R (d - 1) (R.1 d || R.2.1 d)
  else if s = 0 ∧ 48 ≤ c ∧ c ≤ 57 then joR R d it
  else R
def evF (S : MM) (o k : Int) : Nat → Int → Int → Int → RS → Bool
  | 0, _, _, _, R => R.1 0 || R.2.1 0
  | n + 1, s, d, i, R => evF S o k n (stp s (S 56 (40 * o + i)) d) (dpt (S 56 (40 * o + i)) d) (i + 1) (stR s (S 56 (40 * o + i)) d (itS S o k i) R)
def RS0 : RS := (fun _ => false, fun _ => true, fun _ => false)
def ruleS (S : MM) (o k : Int) : Bool := evF S o k (S 57 o).toNat 0 0 0 RS0
def VAL (S : MM) (o s d i : Int) : Prop := fltF (fun i => S 56 (40 * o + i)) (S 57 o) (S 57 o - i).toNat s d i = -6
theorem VAL.end {S : MM} {o s d i : Int} (h : VAL S o s d i) (hm : 0 ≤ S 57 o) (hi : S 57 o ≤ i) : (s = 1 ∨ s = 2 ∨ s = 6 ∨ s = 8) ∧ d = 0 := by
  unfold VAL at h
  rw [show (S 57 o - i).toNat = 0 by omega] at h
  unfold fltF at h
  by_cases c : (s = 1 ∨ s = 2 ∨ s = 6 ∨ s = 8) ∧ d = 0
  · exact c
  · rw [if_neg c] at h; omega
theorem VAL.step {S : MM} {o s d i : Int} (h : VAL S o s d i) (h0 : 0 ≤ i) (hi : i < S 57 o) : stp s (S 56 (40 * o + i)) d ≠ -1 ∧ VAL S o (stp s (S 56 (40 * o + i)) d) (dpt (S 56 (40 * o + i)) d) (i + 1) := by
  unfold VAL at h ⊢
  rw [show (S 57 o - i).toNat = (S 57 o - (i + 1)).toNat + 1 by omega] at h
  unfold fltF at h
  by_cases c : stp s (S 56 (40 * o + i)) d = -1
  · rw [if_pos c] at h; omega
  · rw [if_neg c] at h; exact ⟨c, h⟩
theorem evF_s {S : MM} {o k s d i : Int} {R : RS} (hi : i < S 57 o) : evF S o k (S 57 o - i).toNat s d i R = evF S o k (S 57 o - (i + 1)).toNat (stp s (S 56 (40 * o + i)) d) (dpt (S 56 (40 * o + i)) d) (i + 1) (stR s (S 56 (40 * o + i)) d (itS S o k i) R) := by
  rw [show (S 57 o - i).toNat = (S 57 o - (i + 1)).toNat + 1 by omega, evF]
theorem evF_e {S : MM} {o k s d i : Int} {R : RS} (hi : S 57 o ≤ i) : evF S o k (S 57 o - i).toNat s d i R = (R.1 0 || R.2.1 0) := by
  rw [show (S 57 o - i).toNat = 0 by omega, evF]
theorem stp_d {s c d : Int} (h : stp s c d ≠ -1) (h0 : 0 ≤ d) (h1 : d ≤ 8) : (0 ≤ dpt c d ∧ dpt c d ≤ 8) ∧ (c = 40 → s = 0 ∧ d < 8) ∧ (c = 41 → 0 < d) := by
  unfold stp stW stI at h
  unfold dpt
  by_cases c40 : c = 40
  · subst c40
    by_cases hs : s = 0
    · subst hs
      by_cases hd : d < 8
      · simp; omega
      · simp [hd] at h
    · exfalso; apply h; simp [hs]
  · by_cases c41 : c = 41
    · subst c41
      by_cases hd : 0 < d
      · simp; omega
      · exfalso; apply h; simp [hd]
    · simp [c40, c41]; omega
/-- what the sign before tells of the state -/
def PV (S : MM) (o s i : Int) : Prop := (s = 0 → i = 0 ∨ (S 56 (40 * o + (i - 1)) = 33 ∨ S 56 (40 * o + (i - 1)) = 40 ∨ S 56 (40 * o + (i - 1)) = 38 ∨ S 56 (40 * o + (i - 1)) = 124)) ∧ ((s = 1 ∨ s = 6) → 0 < i ∧ 48 ≤ S 56 (40 * o + (i - 1)) ∧ S 56 (40 * o + (i - 1)) ≤ 57) ∧ (s = 3 → 0 < i ∧ S 56 (40 * o + (i - 1)) = 126) ∧ (s = 5 → 0 < i ∧ S 56 (40 * o + (i - 1)) = 58) ∧ (s = 7 → 0 < i ∧ S 56 (40 * o + (i - 1)) = 62)
theorem stp_cases {s c d : Int} (hs : 0 ≤ s ∧ s ≤ 8) (h : stp s c d ≠ -1) : (stp s c d = 0 → (c = 33 ∨ c = 40 ∨ c = 38 ∨ c = 124)) ∧ ((stp s c d = 1 ∨ stp s c d = 6) → 48 ≤ c ∧ c ≤ 57) ∧ (stp s c d = 3 → c = 126) ∧ (stp s c d = 5 → c = 58) ∧ (stp s c d = 7 → c = 62) := by
  rcases (show s = 0 ∨ s = 1 ∨ s = 2 ∨ s = 3 ∨ s = 4 ∨ s = 5 ∨ s = 6 ∨ s = 7 ∨ s = 8 by omega) with rfl | rfl | rfl | rfl | rfl | rfl | rfl | rfl | rfl <;> (unfold stp stW stI at h ⊢; grind)
theorem PV.step {S : MM} {o s d i : Int} (hs : 0 ≤ s ∧ s ≤ 8) (h0 : 0 ≤ i) (h : stp s (S 56 (40 * o + i)) d ≠ -1) : PV S o (stp s (S 56 (40 * o + i)) d) (i + 1) := by
  obtain ⟨h1, h2, h3, h4, h5⟩ := stp_cases hs h
  unfold PV
  rw [show i + 1 - 1 = i by omega]
  exact ⟨fun e => Or.inr (h1 e), fun e => ⟨by omega, h2 e⟩, fun e => ⟨by omega, h3 e⟩, fun e => ⟨by omega, h4 e⟩, fun e => ⟨by omega, h5 e⟩⟩
theorem stp_dig {s c d : Int} (hs : 0 ≤ s ∧ s ≤ 8) (hc : 48 ≤ c ∧ c ≤ 57) (h : stp s c d ≠ -1) : s = 0 ∨ s = 1 ∨ s = 3 ∨ s = 5 ∨ s = 6 ∨ s = 7 := by
  rcases (show s = 0 ∨ s = 1 ∨ s = 2 ∨ s = 3 ∨ s = 4 ∨ s = 5 ∨ s = 6 ∨ s = 7 ∨ s = 8 by omega) with rfl | rfl | rfl | rfl | rfl | rfl | rfl | rfl | rfl <;> first | omega | (exfalso; unfold stp stW stI at h; grind)
/-! THE CLASS: looks into a rule, and into a piece -/
theorem cc_signAt {G : GP} {l : Launch} {w : NS} {S M : MM} {r o i : Int} (hI : SInv S) (hR : CRule S w M r o) : CT_X8_signAt G l [(2, r), (0, i)] w M (PE (sgn S o i) w M) := by
  refine E_X8_signAt (fun _ X hX C => ?_)
  refine B_X8_signAt_0 C ?_
  obtain ⟨r1, r2, r3, r4, r5⟩ := hR
  have hm := hI.sm o
  rw [r4]
  refine ⟨fun h => ⟨?_, rfl, rfl⟩, fun h => ⟨r2, fun h2 => ⟨?_, rfl, rfl⟩, fun h2 => ⟨by omega, by omega, ?_, rfl, rfl⟩⟩⟩
  · unfold sgn; rw [if_neg (by omega)]
  · unfold sgn; rw [if_neg (by omega)]
  · unfold sgn; rw [if_pos (by omega), r5 i (by omega) (by omega)]
theorem cc_digitAt {G : GP} {l : Launch} {w : NS} {S M : MM} {r o i : Int} (hI : SInv S) (hR : CRule S w M r o) : CT_X8_digitAt G l [(2, r), (0, i)] w M (PE (dgt S o i) w M) := by
  refine E_X8_digitAt (fun _ X hX C => ?_)
  refine B_X8_digitAt_0 C ?_
  obtain ⟨r1, r2, r3, r4, r5⟩ := hR
  have hm := hI.sm o
  rw [r4]
  have out : ¬ (0 ≤ i ∧ i < S 57 o) → dgt S o i = -1 := fun h => by unfold dgt sgn; rw [if_neg h]; simp
  refine ⟨fun h => ⟨out (by omega), rfl, rfl⟩, fun h => ⟨r2, fun h2 => ⟨out (by omega), rfl, rfl⟩, fun h2 => ⟨by omega, by omega, ?_⟩⟩⟩
  have e : sgn S o i = M (r + 1) i := by unfold sgn; rw [if_pos (by omega), r5 i (by omega) (by omega)]
  unfold dgt
  rw [e]
  refine ⟨fun h3 => ⟨if_neg (by omega), rfl, rfl⟩, fun h3 => ⟨fun h4 => ⟨if_neg (by omega), rfl, rfl⟩, fun h4 => ⟨by omega, if_pos (by omega), rfl, rfl⟩⟩⟩
theorem cc_wordAt {G : GP} {l : Launch} {w : NS} {S M : MM} {r o i : Int} (hI : SInv S) (hR : CRule S w M r o) (hi : -10 ≤ i ∧ i ≤ 100) : CT_X8_wordAt G l [(2, r), (0, i)] w M (PE (wdA S o i) w M) := by
  refine E_X8_wordAt (fun _ X hX C => ?_)
  refine B_X8_wordAt_0 C ⟨hR.2.1, _, cc_digitAt hI hR, ?_⟩
  rintro _ _ _ ⟨rfl, rfl, rfl⟩
  refine ⟨by omega, hR.2.1, _, cc_digitAt hI hR, ?_⟩
  rintro _ _ _ ⟨rfl, rfl, rfl⟩
  have h1 := dgt_rng S o i
  have h2 := dgt_rng S o (i + 1)
  refine ⟨fun h => ⟨by omega, by omega, ?_, rfl, rfl⟩, fun h => ⟨?_, rfl, rfl⟩⟩
  · unfold wdA; rw [if_neg (by omega)]
  · unfold wdA; rw [if_pos (by omega)]
def sttS (S : MM) (o i : Int) : Bool := decide (0 ≤ dgt S o i) && !(decide (0 ≤ dgt S o (i - 1)) || decide (sgn S o (i - 1) = 126) || decide (sgn S o (i - 1) = 58) || decide (sgn S o (i - 1) = 62))
theorem cc_startsItem {G : GP} {l : Launch} {w : NS} {S M : MM} {r o i : Int} (hI : SInv S) (hR : CRule S w M r o) (hi : -10 ≤ i ∧ i ≤ 100) : CT_X8_startsItem G l [(2, r), (0, i)] w M (PE (bi (sttS S o i)) w M) := by
  refine E_X8_startsItem (fun _ X hX C => ?_)
  refine B_X8_startsItem_0 C ⟨by omega, hR.2.1, _, cc_signAt hI hR, ?_⟩
  rintro _ _ _ ⟨rfl, rfl, rfl⟩
  refine ⟨hR.2.1, _, cc_digitAt hI hR, ?_⟩
  rintro _ _ _ ⟨rfl, rfl, rfl⟩
  have pe : ∀ z, bi (sttS S o i) = z → PE (bi (sttS S o i)) w M z w M := fun z hz => ⟨hz, rfl, rfl⟩
  have hd : ∃ Q : Int → NS → MM → Prop, CT_X8_digitAt G X.2.1 [(2, r), (0, i)] w M Q ∧ ∀ z w1 M1, Q z w1 M1 → dgt S o i = z ∧ w = w1 ∧ M = M1 := ⟨_, cc_digitAt hI hR, fun z w1 M1 h => h⟩
  obtain ⟨Q, hQ, hQ2⟩ := hd
  unfold sttS at pe ⊢
  refine ⟨fun h => ⟨hR.2.1, Q, hQ, fun z w1 M1 q => ?_⟩, fun h => ⟨fun h2 => ⟨hR.2.1, Q, hQ, fun z w1 M1 q => ?_⟩, fun h2 => ⟨fun h3 => ⟨hR.2.1, Q, hQ, fun z w1 M1 q => ?_⟩, fun h3 => ⟨fun h4 => ⟨hR.2.1, Q, hQ, fun z w1 M1 q => ?_⟩, fun h4 => ⟨hR.2.1, Q, hQ, fun z w1 M1 q => ?_⟩⟩⟩⟩⟩
  all_goals (obtain ⟨rfl, rfl, rfl⟩ := hQ2 z w1 M1 q; refine ⟨fun h9 => pe _ ?_, fun h9 => pe _ ?_⟩)
  all_goals (simp_all [bi] <;> omega)
theorem cc_howOften {G : GP} {l : Launch} {w : NS} {S M : MM} {k x : Int} (hI : SInv S) (hP : CPiece S w M k) : CT_X6_howOften G l [(2, M 4 k), (0, x)] w M (PE (howS (wl S k) x) w M) := by
  refine E_X6_howOften (fun _ X hX C => ?_)
  obtain ⟨a1, a2, a3, -, -, -, -, a8, a9⟩ := hP
  have hla := wl_len hI k
  have L : ∀ i, i ≤ ((wl S k).length : Int) → ∀ z, 0 ≤ i → z = cnN (fun j => decide ((wl S k).getD j.toNat 0 = x)) i.toNat → A_X6_howOften_4 G X (PE (howS (wl S k) x) w M) (M 4 k) x z i w M := up_ind _ (fun i hi ih z h0 hz => by
    refine B_X6_howOften_4 C ?_
    have hrg := cnN_rng (fun j => decide ((wl S k).getD j.toNat 0 = x)) i.toNat
    rw [a8]
    refine ⟨a2, fun h => ⟨?_, rfl, rfl⟩, fun h => ?_⟩
    · rw [hz, show i.toNat = (wl S k).length by omega]; rfl
    · have ih2 := fun z hz => ih (i + 1) (by omega) (by omega) z (by omega) hz
      rw [cnN_s h0] at ih2
      rw [al_at a9 h0 (by omega)]
      refine ⟨h0, by omega, fun h2 => ⟨by omega, ih2 _ ?_⟩, fun h2 => ⟨by omega, by omega, ih2 _ ?_⟩⟩
      · rw [hz, if_neg (by simpa using h2)]; omega
      · rw [hz, if_pos (by simpa using h2)])
  exact B_X6_howOften_0 C (L 0 (by omega) 0 (by omega) rfl)
theorem near_iff {W : List Int} {x y d : Int} : nearS W x y d = true ↔ ∃ i k : Int, (0 ≤ i ∧ i < W.length) ∧ (0 ≤ k ∧ k < W.length) ∧ W.getD i.toNat 0 = x ∧ W.getD k.toNat 0 = y ∧ i ≠ k ∧ wayS i k ≤ d := by
  unfold nearS
  rw [exN_iff]
  constructor
  · rintro ⟨i, h0, h1, h2⟩
    obtain ⟨k, g0, g1, g2⟩ := (exN_iff _ _).mp h2
    unfold nrS wayS at g2
    simp only [Bool.and_eq_true, decide_eq_true_eq] at g2
    refine ⟨i, k, ⟨h0, h1⟩, ⟨g0, g1⟩, g2.1.1.1, g2.1.1.2, ?_, g2.2⟩
    rintro rfl
    have := g2.1.2
    simp at this
  · rintro ⟨i, k, ⟨h0, h1⟩, ⟨g0, g1⟩, e1, e2, e3, e4⟩
    refine ⟨i, h0, h1, (exN_iff _ _).mpr ⟨k, g0, g1, ?_⟩⟩
    unfold nrS
    simp only [Bool.and_eq_true, decide_eq_true_eq]
    refine ⟨⟨⟨e1, e2⟩, ?_⟩, e4⟩
    unfold wayS; split <;> omega
theorem cc_hasNear {G : GP} {l : Launch} {w : NS} {S M : MM} {k x y d : Int} (hI : SInv S) (hP : CPiece S w M k) (hd : -1 ≤ d ∧ d ≤ 9) : CT_X6_hasNear G l [(2, M 4 k), (0, x), (0, y), (0, d)] w M (PE (bi (nearS (wl S k) x y d)) w M) := by
  refine E_X6_hasNear (fun _ _ _ X hX C => ?_)
  obtain ⟨a1, a2, a3, -, -, -, -, a8, a9⟩ := hP
  have hla := wl_len hI k
  generalize hW : wl S k = W at *
  have yes : ∀ i j : Int, 0 ≤ i → i < j → j < W.length → j ≤ i + d → (W.getD i.toNat 0 = x ∧ W.getD j.toNat 0 = y ∨ W.getD i.toNat 0 = y ∧ W.getD j.toNat 0 = x) → PE (bi (nearS W x y d)) w M 1 w M := fun i j h0 h1 h2 h3 h4 => by
    refine ⟨?_, rfl, rfl⟩
    rw [near_iff.mpr ?_]; · rfl
    rcases h4 with h4 | h4
    · exact ⟨i, j, ⟨h0, by omega⟩, ⟨by omega, h2⟩, h4.1, h4.2, by omega, by unfold wayS; split <;> omega⟩
    · exact ⟨j, i, ⟨by omega, h2⟩, ⟨h0, by omega⟩, h4.2, h4.1, by omega, by unfold wayS; split <;> omega⟩
  have K : ∀ i : Int, 0 ≤ i → i < W.length → (∀ j : Int, i < j → j < W.length → j ≤ i + d → ¬ (W.getD i.toNat 0 = x ∧ W.getD j.toNat 0 = y ∨ W.getD i.toNat 0 = y ∧ W.getD j.toNat 0 = x)) ∨ True → ((∀ j : Int, i < j → j < W.length → j ≤ i + d → ¬ (W.getD i.toNat 0 = x ∧ W.getD j.toNat 0 = y ∨ W.getD i.toNat 0 = y ∧ W.getD j.toNat 0 = x)) → A_X6_hasNear_3 G X (PE (bi (nearS W x y d)) w M) (M 4 k) x y d (i + 1) w M) →
      ∀ j : Int, j ≤ W.length → i < j → (∀ j' : Int, i < j' → j' < j → j' ≤ i + d → ¬ (W.getD i.toNat 0 = x ∧ W.getD j'.toNat 0 = y ∨ W.getD i.toNat 0 = y ∧ W.getD j'.toNat 0 = x)) → A_X6_hasNear_18 G X (PE (bi (nearS W x y d)) w M) (M 4 k) x y d i j w M := fun i i0 i1 _ nx => up_ind _ (fun j hj ih hij hno => by
    refine B_X6_hasNear_18 C ?_
    rw [a8]
    refine ⟨a2, fun h => ⟨by omega, nx (fun j' q1 q2 q3 => hno j' q1 (by omega) q3)⟩, fun h => ⟨by omega, fun h2 => ⟨by omega, nx (fun j' q1 q2 q3 => hno j' q1 (by omega) q3)⟩, fun h2 => ?_⟩⟩
    rw [al_at a9 i0 (by omega), al_at a9 (show 0 ≤ j by omega) (by omega)]
    have go : ¬ (W.getD i.toNat 0 = x ∧ W.getD j.toNat 0 = y ∨ W.getD i.toNat 0 = y ∧ W.getD j.toNat 0 = x) → A_X6_hasNear_18 G X (PE (bi (nearS W x y d)) w M) (M 4 k) x y d i (j + 1) w M := fun hn => ih (j + 1) (by omega) (by omega) (by omega) (fun j' q1 q2 q3 => by
      by_cases e : j' = j
      · rw [e]; exact hn
      · exact hno j' q1 (by omega) q3)
    have ys := yes i j i0 hij (by omega) (by omega)
    repeat' (first | with_reducible refine And.intro ?_ ?_ | with_reducible intro _)
    all_goals (first | omega | (exact go (by omega)) | (exact ys (by omega)) | (refine go ?_; grind) | (refine ys ?_; grind)))
  have L : ∀ i : Int, i ≤ W.length → 0 ≤ i → (∀ i' j' : Int, 0 ≤ i' → i' < i → i' < j' → j' < W.length → j' ≤ i' + d → ¬ (W.getD i'.toNat 0 = x ∧ W.getD j'.toNat 0 = y ∨ W.getD i'.toNat 0 = y ∧ W.getD j'.toNat 0 = x)) → A_X6_hasNear_3 G X (PE (bi (nearS W x y d)) w M) (M 4 k) x y d i w M := up_ind _ (fun i hi ih i0 hno => by
    refine B_X6_hasNear_3 C ?_
    rw [a8]
    refine ⟨a2, fun h => ⟨?_, rfl, rfl⟩, fun h => ⟨by omega, K i i0 (by omega) (Or.inr trivial) (fun hn => ih (i + 1) (by omega) (by omega) (by omega) (fun i' j' q0 q1 q2 q3 q4 => ?_)) (i + 1) (by omega) (by omega) (fun j' q1 q2 => by omega)⟩⟩
    · cases e : nearS W x y d
      · rfl
      · exfalso
        obtain ⟨p, q, ⟨p0, p1⟩, ⟨q0, q1⟩, e1, e2, e3, e4⟩ := near_iff.mp e
        unfold wayS at e4
        by_cases c : p < q
        · rw [if_pos c] at e4
          exact hno p q p0 (by omega) c q1 (by omega) (Or.inl ⟨e1, e2⟩)
        · rw [if_neg c] at e4
          exact hno q p q0 (by omega) (by omega) p1 (by omega) (Or.inr ⟨e2, e1⟩)
    · by_cases e : i' = i
      · rw [e] at q2 q4 ⊢; exact hn j' q2 q3 q4
      · exact hno i' j' q0 (by omega) q2 q3 q4)
  exact B_X6_hasNear_0 C (L 0 (by omega) (by omega) (fun i' j' q0 q1 => by omega))
theorem cc_itemIsSo {G : GP} {l : Launch} {w : NS} {S M : MM} {r o k i : Int} (hI : SInv S) (hR : CRule S w M r o) (hP : CPiece S w M k) (hi : 0 ≤ i ∧ i ≤ 40) : CT_X8_itemIsSo G l [(2, r), (2, M 4 k), (0, i)] w M (PE (bi (itS S o k i)) w M) := by
  refine E_X8_itemIsSo (fun _ X hX C => ?_)
  refine B_X8_itemIsSo_0 C ⟨hR.2.1, _, cc_wordAt hI hR (by omega), ?_⟩
  rintro _ _ _ ⟨rfl, rfl, rfl⟩
  refine ⟨by omega, hR.2.1, _, cc_digitAt hI hR, ?_⟩
  rintro _ _ _ ⟨rfl, rfl, rfl⟩
  have pe : ∀ z, bi (itS S o k i) = z → PE (bi (itS S o k i)) w M z w M := fun z hz => ⟨hz, rfl, rfl⟩
  have hp2 := hP.2.1
  have tail : ∀ j, nxI S o i = j → 0 ≤ j → j ≤ 42 → (w.2 r = (9, 2)) ∧ ∃ Q8 : Int → NS → MM → Prop, CT_X8_signAt G X.2.1 [(2, r), (0, j)] w M Q8 ∧ ∀ (z8 : Int) (w8 : NS) (M8 : MM), Q8 z8 w8 M8 → (((z8 ≠ 126) → (w8.2 r = (9, 2)) ∧ ∃ Q10 : Int → NS → MM → Prop, CT_X8_signAt G X.2.1 [(2, r), (0, j)] w8 M8 Q10 ∧ ∀ (z10 : Int) (w10 : NS) (M10 : MM), Q10 z10 w10 M10 → (((z10 ≠ 62) → (w10.2 (M 4 k) = (7, 12)) ∧ ∃ Q12 : Int → NS → MM → Prop, CT_X6_howOften G X.2.1 [(2, M 4 k), (0, wdA S o i)] w10 M10 Q12 ∧ ∀ (z12 : Int) (w12 : NS) (M12 : MM), Q12 z12 w12 M12 → (((z12 ≤ 0) → PE (bi (itS S o k i)) w M 0 w12 M12) ∧ ((¬ (z12 ≤ 0)) → PE (bi (itS S o k i)) w M 1 w12 M12))) ∧ ((¬ (z10 ≠ 62)) → (w10.2 (M 4 k) = (7, 12)) ∧ ∃ Q14 : Int → NS → MM → Prop, CT_X6_howOften G X.2.1 [(2, M 4 k), (0, wdA S o i)] w10 M10 Q14 ∧ ∀ (z14 : Int) (w14 : NS) (M14 : MM), Q14 z14 w14 M14 → (inR (j + 1)) ∧ (w14.2 r = (9, 2)) ∧ ∃ Q17 : Int → NS → MM → Prop, CT_X8_digitAt G X.2.1 [(2, r), (0, (j + 1))] w14 M14 Q17 ∧ ∀ (z17 : Int) (w17 : NS) (M17 : MM), Q17 z17 w17 M17 → (((z14 ≤ z17) → PE (bi (itS S o k i)) w M 0 w17 M17) ∧ ((¬ (z14 ≤ z17)) → PE (bi (itS S o k i)) w M 1 w17 M17))))) ∧ ((¬ (z8 ≠ 126)) → (inR (j + 3)) ∧ (w8.2 r = (9, 2)) ∧ ∃ Q20 : Int → NS → MM → Prop, CT_X8_wordAt G X.2.1 [(2, r), (0, (j + 3))] w8 M8 Q20 ∧ ∀ (z20 : Int) (w20 : NS) (M20 : MM), Q20 z20 w20 M20 → (inR (j + 1)) ∧ (w20.2 r = (9, 2)) ∧ ∃ Q23 : Int → NS → MM → Prop, CT_X8_digitAt G X.2.1 [(2, r), (0, (j + 1))] w20 M20 Q23 ∧ ∀ (z23 : Int) (w23 : NS) (M23 : MM), Q23 z23 w23 M23 → (w23.2 (M 4 k) = (7, 12)) ∧ ∃ Q25 : Int → NS → MM → Prop, CT_X6_hasNear G X.2.1 [(2, M 4 k), (0, wdA S o i), (0, z20), (0, z23)] w23 M23 Q25 ∧ ∀ (z25 : Int) (w25 : NS) (M25 : MM), Q25 z25 w25 M25 → (z25 = 0 ∨ z25 = 1) ∧ PE (bi (itS S o k i)) w M z25 w25 M25)) := fun j hj j0 j1 => by
    refine ⟨hR.2.1, _, cc_signAt hI hR, ?_⟩
    rintro _ _ _ ⟨rfl, rfl, rfl⟩
    refine ⟨fun h1 => ⟨hR.2.1, _, cc_signAt hI hR, ?_⟩, fun h1 => ⟨by omega, hR.2.1, _, cc_wordAt hI hR (by omega), ?_⟩⟩
    · rintro _ _ _ ⟨rfl, rfl, rfl⟩
      refine ⟨fun h2 => ⟨hp2, _, cc_howOften hI hP, ?_⟩, fun h2 => ⟨hp2, _, cc_howOften hI hP, ?_⟩⟩
      · rintro _ _ _ ⟨rfl, rfl, rfl⟩
        refine ⟨fun h3 => pe _ ?_, fun h3 => pe _ ?_⟩
        · unfold itS; rw [hj, if_neg h1, if_neg h2, decide_eq_false (by omega)]; rfl
        · unfold itS; rw [hj, if_neg h1, if_neg h2, decide_eq_true (by omega)]; rfl
      · rintro _ _ _ ⟨rfl, rfl, rfl⟩
        refine ⟨by omega, hR.2.1, _, cc_digitAt hI hR, ?_⟩
        rintro _ _ _ ⟨rfl, rfl, rfl⟩
        have h2' := Decidable.not_not.mp h2
        refine ⟨fun h3 => pe _ ?_, fun h3 => pe _ ?_⟩
        · unfold itS; rw [hj, if_neg h1, if_pos h2', decide_eq_false (by omega)]; rfl
        · unfold itS; rw [hj, if_neg h1, if_pos h2', decide_eq_true (by omega)]; rfl
    · rintro _ _ _ ⟨rfl, rfl, rfl⟩
      refine ⟨by omega, hR.2.1, _, cc_digitAt hI hR, ?_⟩
      rintro _ _ _ ⟨rfl, rfl, rfl⟩
      refine ⟨hp2, _, cc_hasNear hI hP (dgt_rng S o (j + 1)), ?_⟩
      rintro _ _ _ ⟨rfl, rfl, rfl⟩
      refine ⟨bi_01 _, pe _ ?_⟩
      unfold itS; rw [hj, if_pos (Decidable.not_not.mp h1)]
  refine ⟨fun h => ⟨by omega, tail (i + 2) (by unfold nxI; rw [if_neg (by omega)]) (by omega) (by omega)⟩, fun h => tail (i + 1) (by unfold nxI; rw [if_pos (by omega)]) (by omega) (by omega)⟩
