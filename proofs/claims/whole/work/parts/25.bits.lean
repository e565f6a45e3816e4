/-! bits of whole numbers that are not negative (rows zi_and, zi_xor, zi_sl, zi_su after kit/laws/BITS.to-paste) -/
theorem zi_of (n : Nat) : Int32.ofInt (n : Int) = nI n := Int32.ofInt_eq_ofNat
theorem zi_and (a b : Nat) : nI a &&& nI b = nI (a &&& b) := by
  apply Int32.toBitVec_inj.1
  show BitVec.ofNat 32 a &&& BitVec.ofNat 32 b = BitVec.ofNat 32 (a &&& b)
  apply BitVec.eq_of_getLsbD_eq
  intro i hi
  simp [hi]
theorem zi_or (a b : Nat) : nI a ||| nI b = nI (a ||| b) := by
  apply Int32.toBitVec_inj.1
  show BitVec.ofNat 32 a ||| BitVec.ofNat 32 b = BitVec.ofNat 32 (a ||| b)
  apply BitVec.eq_of_getLsbD_eq
  intro i hi
  simp [hi]
theorem zi_xor (a b : Nat) : nI a ^^^ nI b = nI (a ^^^ b) := by
  apply Int32.toBitVec_inj.1
  show BitVec.ofNat 32 a ^^^ BitVec.ofNat 32 b = BitVec.ofNat 32 (a ^^^ b)
  apply BitVec.eq_of_getLsbD_eq
  intro i hi
  simp [hi]
theorem zi_sl : ∀ n, n < 32 → ((nI n &&& 31).toBitVec.smod 32).toNat = n := by decide +kernel
theorem zi_su : ∀ n, n < 32 → (((nI n).toUInt32 &&& Int32.toUInt32 31).toBitVec % 32).toNat = n := by decide +kernel
theorem z_and (a b : Nat) (ha : a < 2 ^ 31) : zand a b = ((a &&& b : Nat) : Int) := by
  unfold zand; rw [zi_of, zi_of, zi_and, nI_toInt (Nat.lt_of_le_of_lt Nat.and_le_left ha)]
theorem z_or (a b : Nat) (ha : a < 2 ^ 31) (hb : b < 2 ^ 31) : zor a b = ((a ||| b : Nat) : Int) := by
  unfold zor; rw [zi_of, zi_of, zi_or, nI_toInt (Nat.or_lt_two_pow ha hb)]
theorem z_xor (a b : Nat) (ha : a < 2 ^ 31) (hb : b < 2 ^ 31) : zxor a b = ((a ^^^ b : Nat) : Int) := by
  unfold zxor; rw [zi_of, zi_of, zi_xor, nI_toInt (Nat.xor_lt_two_pow ha hb)]
theorem z_shr (a i : Nat) (ha : a < 2 ^ 31) (hi : i < 32) : zshr a i = ((a / 2 ^ i : Nat) : Int) := by
  unfold zshr; rw [zi_of, zi_of, pk_shrN ha _ i (zi_sl i hi), nI_toInt (Nat.lt_of_le_of_lt (Nat.div_le_self _ _) ha)]
theorem z_ushr (a i : Nat) (ha : a < 2 ^ 31) (hi : i < 32) : zushr a i = ((a / 2 ^ i : Nat) : Int) := by
  unfold zushr; rw [zi_of, zi_of, pk_ushrN (by omega) _ i (zi_su i hi), nI_toInt (Nat.lt_of_le_of_lt (Nat.div_le_self _ _) ha)]
theorem z_shl (a i : Nat) (hi : i < 32) (ha : a * 2 ^ i < 2 ^ 31) : zshl a i = ((a * 2 ^ i : Nat) : Int) := by
  unfold zshl; rw [zi_of, zi_of, pk_shlN _ i (zi_sl i hi) (by omega), nI_toInt ha]
theorem z_shl1 {p : Int} (h0 : 0 ≤ p) (h1 : p < 31) : zshl 1 p = ((2 ^ p.toNat : Nat) : Int) := by
  obtain ⟨n, rfl⟩ : ∃ n : Nat, p = n := ⟨p.toNat, by omega⟩
  have := z_shl 1 n (by omega) (by rw [Nat.one_mul]; exact Nat.pow_lt_pow_right (by decide) (by omega))
  rw [Nat.one_mul] at this
  simpa using this
/-- the bit of a number -/
def tb (x i : Int) : Bool := x.toNat.testBit i.toNat
theorem z_bit {x i : Int} (h0 : 0 ≤ x) (h1 : x < 2 ^ 31) (hi : 0 ≤ i) (hi2 : i < 32) : zand (zshr x i) 1 = bi (tb x i) := by
  obtain ⟨n, rfl⟩ : ∃ n : Nat, x = n := ⟨x.toNat, by omega⟩
  obtain ⟨j, rfl⟩ : ∃ j : Nat, i = j := ⟨i.toNat, by omega⟩
  have hn : n < 2 ^ 31 := by omega
  rw [z_shr n j hn (by omega), show (1 : Int) = ((1 : Nat) : Int) from rfl, z_and _ _ (Nat.lt_of_le_of_lt (Nat.div_le_self _ _) hn), Nat.and_one_is_mod]
  unfold tb bi
  rw [Int.toNat_natCast, Int.toNat_natCast, Nat.testBit_eq_decide_div_mod_eq]
  by_cases e : n / 2 ^ j % 2 = 1
  · simp [e]
  · have : n / 2 ^ j % 2 = 0 := by omega
    simp [this]
theorem z_hb {x i : Int} (h0 : 0 ≤ x) (h1 : x < 2 ^ 31) (hi : 0 ≤ i) (hi2 : i < 32) : (zand (zshr x i) 1 = 1) ↔ tb x i = true := by
  rw [z_bit h0 h1 hi hi2]; exact bi_1
theorem z_msk {x p : Int} (h0 : 0 ≤ x) (h1 : x < 2 ^ 31) (hp : 0 ≤ p) (hp2 : p < 31) : (zand x (zshl 1 p) = 0) ↔ tb x p = false := by
  rw [z_shl1 hp hp2]
  obtain ⟨n, rfl⟩ : ∃ n : Nat, x = n := ⟨x.toNat, by omega⟩
  rw [z_and _ _ (by omega), show (0 : Int) = ((0 : Nat) : Int) from rfl, Int.ofNat_inj]
  unfold tb
  rw [Int.toNat_natCast]
  constructor
  · intro h
    have := congrArg (fun m => m.testBit p.toNat) h
    simpa [Nat.testBit_and, Nat.testBit_two_pow_self] using this
  · intro h
    apply Nat.eq_of_testBit_eq
    intro j
    rw [Nat.testBit_and, Nat.testBit_two_pow, Nat.zero_testBit]
    by_cases e : p.toNat = j
    · rw [← e, h]; rfl
    · simp [e]
theorem z_set {x p : Int} {k : Nat} (h0 : 0 ≤ x) (h1 : x < 2 ^ k) (hk : k ≤ 31) (hp : 0 ≤ p) (hp2 : p < k) (hp3 : p < 31) : (0 ≤ zor x (zshl 1 p) ∧ zor x (zshl 1 p) < 2 ^ k) ∧ ∀ j, 0 ≤ j → tb (zor x (zshl 1 p)) j = (tb x j || decide (j = p)) := by
  obtain ⟨n, rfl⟩ : ∃ n : Nat, x = n := ⟨x.toNat, by omega⟩
  have hn : n < 2 ^ k := by exact_mod_cast h1
  have h31 : (2 : Nat) ^ k ≤ 2 ^ 31 := Nat.pow_le_pow_right (by decide) hk
  have hq : 2 ^ p.toNat < 2 ^ k := Nat.pow_lt_pow_right (by decide) (by omega)
  rw [z_shl1 hp hp3, z_or _ _ (by omega) (by omega)]
  have hlt := Nat.or_lt_two_pow hn hq
  refine ⟨⟨by omega, by exact_mod_cast hlt⟩, fun j hj => ?_⟩
  unfold tb
  rw [Int.toNat_natCast, Int.toNat_natCast, Nat.testBit_or, Nat.testBit_two_pow]
  congr 1
  rw [decide_eq_decide]; omega
theorem z_flp {x p : Int} {k : Nat} (h0 : 0 ≤ x) (h1 : x < 2 ^ k) (hk : k ≤ 31) (hp : 0 ≤ p) (hp2 : p < k) (hp3 : p < 31) : (0 ≤ zxor x (zshl 1 p) ∧ zxor x (zshl 1 p) < 2 ^ k) ∧ ∀ j, 0 ≤ j → tb (zxor x (zshl 1 p)) j = (tb x j ^^ decide (j = p)) := by
  obtain ⟨n, rfl⟩ : ∃ n : Nat, x = n := ⟨x.toNat, by omega⟩
  have hn : n < 2 ^ k := by exact_mod_cast h1
  have h31 : (2 : Nat) ^ k ≤ 2 ^ 31 := Nat.pow_le_pow_right (by decide) hk
  have hq : 2 ^ p.toNat < 2 ^ k := Nat.pow_lt_pow_right (by decide) (by omega)
  rw [z_shl1 hp hp3, z_xor _ _ (by omega) (by omega)]
  have hlt := Nat.xor_lt_two_pow hn hq
  refine ⟨⟨by omega, by exact_mod_cast hlt⟩, fun j hj => ?_⟩
  unfold tb
  rw [Int.toNat_natCast, Int.toNat_natCast, Nat.testBit_xor, Nat.testBit_two_pow]
  congr 1
  rw [decide_eq_decide]; omega
theorem zi_clr (a b : Nat) : nI a &&& (nI b ^^^ (-1)) = nI (a ^^^ (a &&& b)) := by
  apply Int32.toBitVec_inj.1
  show BitVec.ofNat 32 a &&& (BitVec.ofNat 32 b ^^^ BitVec.allOnes 32) = BitVec.ofNat 32 (a ^^^ (a &&& b))
  apply BitVec.eq_of_getLsbD_eq
  intro i hi
  simp only [BitVec.getLsbD_and, BitVec.getLsbD_xor, BitVec.getLsbD_allOnes, BitVec.getLsbD_ofNat, Nat.testBit_xor, Nat.testBit_and, hi, decide_true, Bool.true_and]
  cases a.testBit i <;> cases b.testBit i <;> rfl
theorem z_clr {x p : Int} {k : Nat} (h0 : 0 ≤ x) (h1 : x < 2 ^ k) (hk : k ≤ 31) (hp : 0 ≤ p) (hp3 : p < 31) : (0 ≤ zand x (zxor (zshl 1 p) (-1)) ∧ zand x (zxor (zshl 1 p) (-1)) < 2 ^ k) ∧ ∀ j, 0 ≤ j → tb (zand x (zxor (zshl 1 p) (-1))) j = (tb x j && !decide (j = p)) := by
  obtain ⟨n, rfl⟩ : ∃ n : Nat, x = n := ⟨x.toNat, by omega⟩
  have hn : n < 2 ^ k := by exact_mod_cast h1
  have h31 : (2 : Nat) ^ k ≤ 2 ^ 31 := Nat.pow_le_pow_right (by decide) hk
  have hle : n &&& 2 ^ p.toNat ≤ n := Nat.and_le_left
  have hlt := Nat.xor_lt_two_pow hn (Nat.lt_of_le_of_lt hle hn)
  have e : zand (n : Int) (zxor (zshl 1 p) (-1)) = ((n ^^^ (n &&& 2 ^ p.toNat) : Nat) : Int) := by
    rw [z_shl1 hp hp3]
    unfold zand zxor
    rw [Int32.ofInt_toInt, zi_of, zi_of, show Int32.ofInt (-1) = (-1 : Int32) from rfl, zi_clr, nI_toInt (by omega)]
  rw [e]
  refine ⟨⟨by omega, by exact_mod_cast hlt⟩, fun j hj => ?_⟩
  unfold tb
  rw [Int.toNat_natCast, Int.toNat_natCast, Nat.testBit_xor, Nat.testBit_and, Nat.testBit_two_pow]
  by_cases ej : j = p
  · subst ej; simp
  · have : ¬ p.toNat = j.toNat := by omega
    simp [this, ej]
theorem tb_big {x j : Int} {k : Nat} (h0 : 0 ≤ x) (h1 : x < 2 ^ k) (hj : (k : Int) ≤ j) : tb x j = false := by
  obtain ⟨n, rfl⟩ : ∃ n : Nat, x = n := ⟨x.toNat, by omega⟩
  have hn : n < 2 ^ k := by exact_mod_cast h1
  unfold tb; rw [Int.toNat_natCast]
  exact Nat.testBit_lt_two_pow (Nat.lt_of_lt_of_le hn (Nat.pow_le_pow_right (by decide) (by omega)))
theorem tb_0 (j : Int) : tb 0 j = false := by unfold tb; simp
theorem tb_ext {x y : Int} (hx : 0 ≤ x) (hy : 0 ≤ y) (h : ∀ j, 0 ≤ j → tb x j = tb y j) : x = y := by
  obtain ⟨n, rfl⟩ : ∃ n : Nat, x = n := ⟨x.toNat, by omega⟩
  obtain ⟨m, rfl⟩ : ∃ n : Nat, y = n := ⟨y.toNat, by omega⟩
  congr 1
  apply Nat.eq_of_testBit_eq
  intro j
  have := h j (by omega)
  unfold tb at this
  simpa using this
theorem tb_lt {x : Int} {k : Nat} (hx : 0 ≤ x) (h : ∀ j, (k : Int) ≤ j → tb x j = false) : x < 2 ^ k := by
  obtain ⟨n, rfl⟩ : ∃ n : Nat, x = n := ⟨x.toNat, by omega⟩
  have : n < 2 ^ k := Nat.lt_pow_two_of_testBit n (fun i hi => by
    have := h i (by omega)
    unfold tb at this
    simpa using this)
  exact_mod_cast this
