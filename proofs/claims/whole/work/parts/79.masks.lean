/-! SETS AS BITS -/
theorem an_d (a b : Nat) : (a &&& b) / 2 = a / 2 &&& b / 2 := Nat.eq_of_testBit_eq fun i => by
  rw [← Nat.testBit_succ, Nat.testBit_and, Nat.testBit_and, Nat.testBit_succ, Nat.testBit_succ]
theorem xo_d (a b : Nat) : (a ^^^ b) / 2 = a / 2 ^^^ b / 2 := Nat.eq_of_testBit_eq fun i => by
  rw [← Nat.testBit_succ, Nat.testBit_xor, Nat.testBit_xor, Nat.testBit_succ, Nat.testBit_succ]
theorem an_m (a b : Nat) : (a &&& b) % 2 = if a % 2 = 1 ∧ b % 2 = 1 then 1 else 0 := by
  have h : (a &&& b).testBit 0 = (a.testBit 0 && b.testBit 0) := Nat.testBit_and ..
  rw [Nat.testBit_zero, Nat.testBit_zero, Nat.testBit_zero] at h
  by_cases c : a % 2 = 1 ∧ b % 2 = 1
  · rw [if_pos c]
    rw [decide_eq_true c.1, decide_eq_true c.2] at h
    exact of_decide_eq_true h
  · rw [if_neg c]
    have h2 : (decide (a % 2 = 1) && decide (b % 2 = 1)) = false := by
      by_cases q : a % 2 = 1
      · rw [decide_eq_false (fun r => c ⟨q, r⟩), Bool.and_false]
      · rw [decide_eq_false q, Bool.false_and]
    have := of_decide_eq_false (h.trans h2)
    omega
theorem xo_m (a b : Nat) : (a ^^^ b) % 2 = if a % 2 = b % 2 then 0 else 1 := by
  have h : (a ^^^ b).testBit 0 = (a.testBit 0 ^^ b.testBit 0) := Nat.testBit_xor ..
  rw [Nat.testBit_zero, Nat.testBit_zero, Nat.testBit_zero] at h
  by_cases c : a % 2 = b % 2
  · rw [if_pos c]
    rw [c, Bool.xor_self] at h
    have := of_decide_eq_false h
    omega
  · rw [if_neg c]
    have h2 : (decide (a % 2 = 1) ^^ decide (b % 2 = 1)) = true := by
      rcases (show a % 2 = 1 ∧ b % 2 = 0 ∨ a % 2 = 0 ∧ b % 2 = 1 by omega) with r | r
      · rw [r.1, r.2]; rfl
      · rw [r.1, r.2]; rfl
    exact of_decide_eq_true (h.trans h2)
/-- q is a part of s -/
def SbM (q s : Nat) : Prop := q &&& s = q
theorem sbm_h {q s : Nat} : SbM q s ↔ (SbM (q / 2) (s / 2) ∧ (q % 2 = 1 → s % 2 = 1)) := by
  unfold SbM
  have h1 := an_d q s
  have h2 := an_m q s
  constructor
  · intro h
    rw [h] at h1 h2
    refine ⟨h1.symm, fun r => ?_⟩
    by_cases c : q % 2 = 1 ∧ s % 2 = 1
    · exact c.2
    · rw [if_neg c] at h2; omega
  · rintro ⟨g1, g2⟩
    rw [g1] at h1
    by_cases c : q % 2 = 1
    · rw [if_pos ⟨c, g2 c⟩] at h2; omega
    · rw [if_neg (fun r => c r.1)] at h2; omega
theorem sbm_le {q s : Nat} (h : SbM q s) : q ≤ s := by unfold SbM at h; rw [← h]; exact Nat.and_le_right
theorem sbm_tb {q s : Nat} : SbM q s ↔ ∀ i, q.testBit i = true → s.testBit i = true := by
  unfold SbM
  constructor
  · intro h i hi
    have := congrArg (fun x => x.testBit i) h
    simp only [Nat.testBit_and, hi, Bool.true_and] at this
    exact this
  · intro h
    apply Nat.eq_of_testBit_eq
    intro i
    rw [Nat.testBit_and]
    cases e : q.testBit i
    · rfl
    · rw [h i e]; rfl
/-- behind the part p of s comes the next smaller one -/
theorem sbm_next : ∀ (n : Nat) (p q s : Nat), p ≤ n → 0 < p → SbM p s → SbM q s → q < p → q ≤ (p - 1) &&& s
  | 0, p, q, s, h, h0, _, _, _ => by omega
  | n + 1, p, q, s, h, h0, hp, hq, hlt => by
    obtain ⟨p1, p2⟩ := sbm_h.mp hp
    obtain ⟨q1, q2⟩ := sbm_h.mp hq
    have hd := an_d (p - 1) s
    have hm := an_m (p - 1) s
    by_cases c : p % 2 = 1
    · have e : (p - 1) / 2 = p / 2 := by omega
      rw [e] at hd
      have p1' : p / 2 &&& s / 2 = p / 2 := p1
      rw [p1'] at hd
      omega
    · have e : (p - 1) / 2 = p / 2 - 1 := by omega
      rw [e] at hd
      have ih := sbm_next n (p / 2) (q / 2) (s / 2) (by omega) (by omega) p1 q1 (by omega)
      rw [← hd] at ih
      by_cases c2 : q % 2 = 1
      · rw [if_pos ⟨by omega, q2 c2⟩] at hm; omega
      · omega
theorem sbm_and (p s : Nat) : SbM (p &&& s) s := by
  rw [sbm_tb]; intro i hi; rw [Nat.testBit_and, Bool.and_eq_true] at hi; exact hi.2
theorem and_pred_lt {p s : Nat} (h : 0 < p) : (p - 1) &&& s < p := Nat.lt_of_le_of_lt Nat.and_le_left (by omega)
theorem xor_lt_of {q s : Nat} (h : SbM q s) (h0 : 0 < q) : s ^^^ q < s := by
  have key : ∀ (n q s : Nat), s ≤ n → SbM q s → s ^^^ q = s - q := by
    intro n
    induction n with
    | zero =>
      intro q s hn h
      have := sbm_le h
      have e1 : s = 0 := by omega
      have e2 : q = 0 := by omega
      rw [e1, e2]; rfl
    | succ n ih =>
      intro q s hn h
      obtain ⟨h1, h2⟩ := sbm_h.mp h
      have hd := xo_d s q
      have hm := xo_m s q
      by_cases c0 : s = 0
      · have := sbm_le h
        have e2 : q = 0 := by omega
        rw [c0, e2]; rfl
      · rw [ih (q / 2) (s / 2) (by omega) h1] at hd
        have := sbm_le h1
        have := sbm_le h
        by_cases c : s % 2 = q % 2
        · rw [if_pos c] at hm; omega
        · rw [if_neg c] at hm
          have : q % 2 = 0 := by
            rcases (show q % 2 = 0 ∨ q % 2 = 1 by omega) with r | r
            · exact r
            · have := h2 r; omega
          omega
  rw [key s q s (Nat.le_refl _) h]
  have := sbm_le h
  omega
theorem xor_sub {q s : Nat} (h : SbM q s) : SbM (s ^^^ q) s := by
  rw [sbm_tb] at h ⊢
  intro i hi
  rw [Nat.testBit_xor] at hi
  cases e : s.testBit i
  · cases e2 : q.testBit i
    · rw [e, e2] at hi; exact hi
    · have := h i e2; rw [e] at this; exact this
  · rfl
/-! the bits the other way round -/
def rv : Nat → Nat → Nat
  | 0, _ => 0
  | m + 1, s => 2 ^ m * (s % 2) + rv m (s / 2)
theorem rv_lt : ∀ (m s : Nat), rv m s < 2 ^ m
  | 0, s => by simp [rv]
  | m + 1, s => by
    have := rv_lt m (s / 2)
    rw [rv, Nat.pow_succ]
    rcases (show s % 2 = 0 ∨ s % 2 = 1 by omega) with r | r <;> rw [r] <;> omega
theorem rv_tb : ∀ (m s j : Nat), (rv m s).testBit j = (decide (j < m) && s.testBit (m - 1 - j))
  | 0, s, j => by simp [rv]
  | m + 1, s, j => by
    rw [rv, Nat.testBit_two_pow_mul_add _ (rv_lt m (s / 2))]
    by_cases c : j < m
    · rw [if_pos c, rv_tb m (s / 2) j, decide_eq_true c, decide_eq_true (show j < m + 1 by omega), Bool.true_and, Bool.true_and, ← Nat.testBit_succ]
      congr 1; omega
    · rw [if_neg c]
      by_cases c2 : j = m
      · subst c2
        rw [show j - j = 0 by omega, show j + 1 - 1 - j = 0 by omega, decide_eq_true (show j < j + 1 by omega), Bool.true_and, Nat.testBit_zero, Nat.testBit_zero]
        congr 1
        rw [eq_iff_iff]; omega
      · rw [decide_eq_false (show ¬ j < m + 1 by omega), Bool.false_and]
        exact Nat.testBit_lt_two_pow (Nat.lt_of_lt_of_le (show s % 2 < 2 ^ 1 by omega) (Nat.pow_le_pow_right (by decide) (by omega)))
theorem tb_hi {m s j : Nat} (h : s < 2 ^ m) (hj : m ≤ j) : s.testBit j = false := Nat.testBit_lt_two_pow (Nat.lt_of_lt_of_le h (Nat.pow_le_pow_right (by decide) hj))
theorem rv_rv {m s : Nat} (h : s < 2 ^ m) : rv m (rv m s) = s := by
  apply Nat.eq_of_testBit_eq
  intro j
  rw [rv_tb, rv_tb]
  by_cases c : j < m
  · rw [decide_eq_true c, decide_eq_true (show m - 1 - j < m by omega), Bool.true_and, Bool.true_and]
    congr 1; omega
  · rw [decide_eq_false c, tb_hi (j := j) h (by omega)]; rfl
theorem rv_inj {m a b : Nat} (ha : a < 2 ^ m) (hb : b < 2 ^ m) (h : rv m a = rv m b) : a = b := by rw [← rv_rv ha, h, rv_rv hb]
theorem rv_0 (m : Nat) : rv m 0 = 0 := by
  apply Nat.eq_of_testBit_eq; intro j; rw [rv_tb]; simp
theorem rv_z {m s : Nat} (h : s < 2 ^ m) : rv m s = 0 ↔ s = 0 := ⟨fun e => rv_inj h (Nat.two_pow_pos m) (by rw [e, rv_0]), fun e => by rw [e, rv_0]⟩
theorem rv_sub {m q s : Nat} (h : SbM q s) : SbM (rv m q) (rv m s) := by
  rw [sbm_tb] at h ⊢
  intro i hi
  rw [rv_tb, Bool.and_eq_true] at hi ⊢
  exact ⟨hi.1, h _ hi.2⟩
theorem rv_xor (m a b : Nat) : rv m (a ^^^ b) = rv m a ^^^ rv m b := by
  apply Nat.eq_of_testBit_eq
  intro j
  rw [Nat.testBit_xor, rv_tb, rv_tb, rv_tb, Nat.testBit_xor]
  cases decide (j < m) <;> simp
/-! the lowest bit in which two are unlike -/
def lbB : Nat → Nat → Nat → Bool
  | 0, _, _ => false
  | m + 1, t, b => if t % 2 = b % 2 then lbB m (t / 2) (b / 2) else decide (t % 2 = 1)
theorem lb_rv : ∀ (m t b : Nat), lbB m t b = true ↔ rv m b < rv m t
  | 0, t, b => by simp [lbB, rv]
  | m + 1, t, b => by
    have ih := lb_rv m (t / 2) (b / 2)
    have h1 := rv_lt m (t / 2)
    have h2 := rv_lt m (b / 2)
    rw [lbB, rv, rv]
    by_cases c : t % 2 = b % 2
    · rw [if_pos c, ih, c]; omega
    · rw [if_neg c, decide_eq_true_eq]
      rcases (show t % 2 = 0 ∨ t % 2 = 1 by omega) with r | r
      · rw [r, show b % 2 = 1 by omega]; omega
      · rw [r, show b % 2 = 0 by omega]; omega
theorem lb_bit : ∀ (m t b : Nat), t < 2 ^ m → b < 2 ^ m → t ≠ b → (lbB m t b = true ↔ (t &&& (t ^^^ b)) &&& ((t ^^^ b) - 1) ≠ t &&& (t ^^^ b))
  | 0, t, b, ht, hb, hne => by simp at ht hb; omega
  | m + 1, t, b, ht, hb, hne => by
    rw [Nat.pow_succ] at ht hb
    have u1 := xo_d t b
    have u2 := xo_m t b
    have y1 := an_d t (t ^^^ b)
    have y2 := an_m t (t ^^^ b)
    have v1 := an_d (t &&& (t ^^^ b)) ((t ^^^ b) - 1)
    have v2 := an_m (t &&& (t ^^^ b)) ((t ^^^ b) - 1)
    generalize hu : t ^^^ b = u at *
    generalize hy : t &&& u = y at *
    generalize hv : y &&& (u - 1) = v at *
    rw [lbB]
    by_cases c : t % 2 = b % 2
    · rw [if_pos c]
      rw [if_pos c] at u2
      have hne2 : t / 2 ≠ b / 2 := fun e => hne (by omega)
      have hup : 0 < u := by
        apply Nat.pos_of_ne_zero
        intro e
        rw [e] at u1
        have h0 : t / 2 ^^^ b / 2 = 0 := u1.symm
        apply hne2
        apply Nat.eq_of_testBit_eq
        intro i
        have := congrArg (fun x => x.testBit i) h0
        simp only [Nat.testBit_xor, Nat.zero_testBit] at this
        revert this
        cases (t / 2).testBit i <;> cases (b / 2).testBit i <;> simp
      have ih := lb_bit m (t / 2) (b / 2) (by omega) (by omega) hne2
      rw [← u1, ← y1] at ih
      rw [show (u - 1) / 2 = u / 2 - 1 by omega] at v1
      rw [← v1] at ih
      rw [ih]
      rw [if_neg (by omega)] at y2
      rw [if_neg (by omega)] at v2
      omega
    · rw [if_neg c, decide_eq_true_eq]
      rw [if_neg c] at u2
      rw [show (u - 1) / 2 = u / 2 by omega] at v1
      have e1 : y / 2 &&& u / 2 = y / 2 := by rw [y1, Nat.and_assoc, Nat.and_self]
      rw [e1] at v1
      rw [if_neg (by omega)] at v2
      by_cases c1 : t % 2 = 1
      · rw [if_pos ⟨c1, by omega⟩] at y2; omega
      · rw [if_neg (fun q => c1 q.1)] at y2; omega
/-! how many -/
theorem cnN_sh (f : Int → Bool) : ∀ n : Nat, cnN f (n + 1) = (if f 0 then 1 else 0) + cnN (fun k => f (k + 1)) n
  | 0 => by simp [cnN]
  | n + 1 => by
    rw [cnN, cnN_sh f n, cnN]
    have : ((n + 1 : Nat) : Int) = (n : Int) + 1 := by omega
    rw [this]; omega
theorem cnN_rv (f : Int → Bool) : ∀ n : Nat, cnN (fun k => f (n - 1 - k)) n = cnN f n
  | 0 => rfl
  | n + 1 => by
    rw [cnN_sh, cnN]
    have e : cnN (fun k => f (((n + 1 : Nat) : Int) - 1 - (k + 1))) n = cnN (fun k => f (n - 1 - k)) n := cnN_congr n (fun k _ _ => by
      show f (((n + 1 : Nat) : Int) - 1 - (k + 1)) = f (n - 1 - k)
      rw [show ((n + 1 : Nat) : Int) - 1 - (k + 1) = n - 1 - k by omega])
    rw [e, cnN_rv f n, show ((n + 1 : Nat) : Int) - 1 - 0 = (n : Int) by omega]
    omega
def pcM (s : Nat) : Int := cnN (fun k => tb s k) 9
theorem tb_nat (s : Nat) (k : Int) : tb (s : Int) k = s.testBit k.toNat := by unfold tb; rw [Int.toNat_natCast]
theorem pcM_m {m s : Nat} (h : s < 2 ^ m) (hm : m ≤ 9) : pcM s = cnN (fun k => tb s k) m := by
  unfold pcM
  exact cnN_tail 9 hm (fun k hk => by rw [tb_nat]; exact tb_hi h (by omega))
theorem pcM_rv {m s : Nat} (h : s < 2 ^ m) (hm : m ≤ 9) : pcM (rv m s) = pcM s := by
  rw [pcM_m (rv_lt m s) hm, pcM_m h hm, ← cnN_rv (fun k => tb s k) m]
  refine cnN_congr m (fun k k0 k1 => ?_)
  show tb (rv m s : Nat) k = tb s ((m : Int) - 1 - k)
  rw [tb_nat, tb_nat, rv_tb, decide_eq_true (show k.toNat < m by omega), Bool.true_and]
  congr 1; omega
theorem pcM_b (s : Nat) : 0 ≤ pcM s ∧ pcM s ≤ 9 := cnN_rng _ 9
theorem popc_m {s : Nat} (h : s < 512) : popc (s : Int) = pcM s := by
  unfold popc pcM
  rw [popc_l]
  exact cnN_tail 32 (by decide) (fun k hk => by rw [tb_nat]; exact tb_hi (m := 9) h (by omega))
