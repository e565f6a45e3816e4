/-! PARTED: what it is -/
def ssm (g : Int → Int) (s : Nat) : Int := smN (fun p => if tb s p then g p else 0) 8
theorem tb_xor (a b : Nat) (p : Int) : tb ((a ^^^ b : Nat) : Int) p = (tb a p ^^ tb b p) := by rw [tb_nat, tb_nat, tb_nat, Nat.testBit_xor]
theorem sbm_tbi {q s : Nat} (h : SbM q s) (p : Int) (hp : tb q p = true) : tb s p = true := by rw [tb_nat] at hp ⊢; exact sbm_tb.mp h _ hp
theorem ssm_add {g : Int → Int} {q s : Nat} (h : SbM q s) : ssm g s = ssm g q + ssm g (s ^^^ q) := by
  unfold ssm
  rw [← smN_add]
  refine smN_congr 8 (fun p p0 p1 => ?_)
  show (if tb s p then g p else 0) = (if tb q p then g p else 0) + (if tb ((s ^^^ q : Nat) : Int) p then g p else 0)
  rw [tb_xor]
  have := sbm_tbi h p
  cases e1 : tb s p <;> cases e2 : tb q p <;> simp_all
theorem ssm_cg {g h : Int → Int} {s : Nat} (hg : ∀ p, 0 ≤ p → p < 8 → tb s p = true → g p = h p) : ssm g s = ssm h s := by
  unfold ssm
  refine smN_congr 8 (fun p p0 p1 => ?_)
  by_cases c : tb s p = true
  · rw [if_pos c, if_pos c]; exact hg p p0 (by omega) c
  · rw [if_neg c, if_neg c]
theorem ssm_0 (g : Int → Int) : ssm g 0 = 0 := smN_z 8 (fun p _ _ => by
  show (if tb ((0 : Nat) : Int) p then g p else 0) = 0
  rw [show ((0 : Nat) : Int) = 0 from rfl, tb_0]; rfl)
theorem ssm_b {g : Int → Int} {m : Int} {s : Nat} (h : ∀ p, -m ≤ g p ∧ g p ≤ m) : -(8 * m) ≤ ssm g s ∧ ssm g s ≤ 8 * m := by
  have h0 := h 0
  have := smN_abs (f := fun p => if tb s p then g p else 0) (m := m) (fun p => by
    have := h p
    show -m ≤ (if tb s p then g p else 0) ∧ (if tb s p then g p else 0) ≤ m
    split <;> omega) 8
  exact this
theorem ssm_nn {g : Int → Int} {m : Int} {s : Nat} (h : ∀ p, 0 ≤ g p ∧ g p ≤ m) : 0 ≤ ssm g s ∧ ssm g s ≤ 8 * m := by
  have h0 := h 0
  have := smN_bnd (f := fun p => if tb s p then g p else 0) (m := m) (fun p => by
    have := h p
    show 0 ≤ (if tb s p then g p else 0) ∧ (if tb s p then g p else 0) ≤ m
    split <;> omega) 8
  exact this
theorem smN_pt {g : Int → Int} {m : Int} : ∀ n : Nat, 0 ≤ m → m < n → smN (fun q => if q = m then g q else 0) n = g m
  | 0, h0, h1 => by omega
  | n + 1, h0, h1 => by
    rw [smN]
    by_cases e : m = n
    · subst e
      rw [smN_z n (fun k k0 k1 => if_neg (by omega)), if_pos rfl]; omega
    · rw [smN_pt n h0 (by omega), if_neg (by omega)]; omega
theorem tb_pow (p : Nat) (q : Int) (h0 : 0 ≤ q) : tb ((2 ^ p : Nat) : Int) q = decide (q = p) := by
  rw [tb_nat, Nat.testBit_two_pow, decide_eq_decide]; omega
theorem ssm_one (g : Int → Int) {p : Nat} (hp : p < 8) : ssm g (2 ^ p) = g p := by
  unfold ssm
  rw [smN_congr (g := fun q => if q = (p : Int) then g q else 0) 8 (fun q q0 q1 => by
    show (if tb ((2 ^ p : Nat) : Int) q then g q else 0) = if q = (p : Int) then g q else 0
    rw [tb_pow p q q0]; simp)]
  exact smN_pt 8 (by omega) (by omega)
theorem PUf_b (j : Nat) : 0 ≤ PUf j ∧ PUf j ≤ 78125 := by
  by_cases h : j < 8
  · rcases (show j = 0 ∨ j = 1 ∨ j = 2 ∨ j = 3 ∨ j = 4 ∨ j = 5 ∨ j = 6 ∨ j = 7 by omega) with rfl | rfl | rfl | rfl | rfl | rfl | rfl | rfl <;> decide
  · have : PUf j = 0 := by
      unfold PUf
      rw [List.getD_eq_getElem?_getD, List.getElem?_eq_none (by simp; omega)]; rfl
    omega
def misS (S : MM) (r p : Int) : Int := if r = 4 then S 53 3 else S 79 (10 * r + S 43 p)
def cst (S : MM) (r p : Int) : Int := misS S r p * 390625 + r * PUf p.toNat
def cdS (S : MM) (s : Nat) (a : Int → Int) : Int := ssm (fun p => cst S (a p) p) s
def smP (S : MM) (s : Nat) (a : Int → Int) : Int := ssm (fun p => misS S (a p) p) s
def ctR (s : Nat) (a : Int → Int) (r : Int) : Int := cnN (fun p => tb s p && decide (a p = r)) 8
def ctq (s : Nat) : Int := cnN (fun p => tb s p) 8
def OKp (S : MM) (R : Int) (s : Nat) (a : Int → Int) : Prop := (∀ p, 0 ≤ p → p < 8 → tb s p = true → R ≤ a p ∧ a p ≤ 4) ∧ ∀ r, R ≤ r → r ≤ 3 → ctR s a r * S 78 (2 * r) ≤ S 78 (2 * r + 1)
def Mn (S : MM) (R : Int) (s : Nat) (c : Int) : Prop := (∃ a, OKp S R s a ∧ cdS S s a = c) ∧ ∀ a, OKp S R s a → c ≤ cdS S s a
theorem mis_b {S : MM} (hI : SInv S) (r p : Int) : 0 ≤ misS S r p ∧ misS S r p ≤ 1000 := by
  unfold misS
  have h1 : 0 ≤ S 53 3 ∧ S 53 3 ≤ 1000 := hI.nm 3 (by decide) (by decide)
  have h2 := hI.sl (10 * r + S 43 p)
  split <;> omega
theorem cst_b {S : MM} (hI : SInv S) {r p : Int} (hr : 0 ≤ r ∧ r ≤ 4) : 0 ≤ cst S r p ∧ cst S r p ≤ 400000000 := by
  have h1 := mis_b hI r p
  have h2 := PUf_b p.toNat
  unfold cst
  rcases (show r = 0 ∨ r = 1 ∨ r = 2 ∨ r = 3 ∨ r = 4 by omega) with rfl | rfl | rfl | rfl | rfl <;> omega
/-- a set of bits out of a predicate -/
def mkM (f : Int → Bool) : Nat → Nat
  | 0 => 0
  | n + 1 => 2 ^ n * (if f n then 1 else 0) + mkM f n
theorem mkM_lt (f : Int → Bool) : ∀ n : Nat, mkM f n < 2 ^ n
  | 0 => by simp [mkM]
  | n + 1 => by
    have := mkM_lt f n
    rw [mkM, Nat.pow_succ]
    split <;> omega
theorem mkM_tb (f : Int → Bool) : ∀ (n j : Nat), (mkM f n).testBit j = (decide (j < n) && f j)
  | 0, j => by simp [mkM]
  | n + 1, j => by
    rw [mkM, Nat.testBit_two_pow_mul_add _ (mkM_lt f n)]
    by_cases c : j < n
    · rw [if_pos c, mkM_tb f n j, decide_eq_true c, decide_eq_true (show j < n + 1 by omega)]
    · rw [if_neg c]
      by_cases c2 : j = n
      · subst c2
        rw [show j - j = 0 by omega, decide_eq_true (show j < j + 1 by omega), Bool.true_and]
        cases f j <;> rfl
      · rw [decide_eq_false (show ¬ j < n + 1 by omega), Bool.false_and]
        have : (if f n = true then 1 else 0) < 2 ^ 1 := by split <;> omega
        exact Nat.testBit_lt_two_pow (Nat.lt_of_lt_of_le this (Nat.pow_le_pow_right (by decide) (by omega)))
theorem ctR_b (s : Nat) (a : Int → Int) (r : Int) : 0 ≤ ctR s a r ∧ ctR s a r ≤ 8 := cnN_rng _ 8
theorem ctR_0 {s : Nat} {a : Int → Int} {r : Int} (h : ∀ p, 0 ≤ p → p < 8 → tb s p = true → a p ≠ r) : ctR s a r = 0 := by
  unfold ctR
  rw [cnN_congr (g := fun _ => false) 8 (fun p p0 p1 => by
    show (tb s p && decide (a p = r)) = false
    cases e : tb s p
    · rfl
    · rw [decide_eq_false (h p p0 (by omega) e)]; rfl)]
  rfl
theorem ctR_cg {s t : Nat} {a b : Int → Int} {r : Int} (h : ∀ p, 0 ≤ p → p < 8 → (tb s p && decide (a p = r)) = (tb t p && decide (b p = r))) : ctR s a r = ctR t b r := cnN_congr 8 (fun p p0 p1 => h p p0 (by omega))
theorem okp_up {S : MM} (hI : SInv S) {r : Int} {s : Nat} {a : Int → Int} (h : OKp S (r + 1) s a) : OKp S r s a := by
  refine ⟨fun p p0 p1 hp => ?_, fun q hq hq3 => ?_⟩
  · have := h.1 p p0 p1 hp; omega
  · by_cases e : q = r
    · rw [e, ctR_0 (fun p p0 p1 hp => by have := h.1 p p0 p1 hp; omega), Int.zero_mul]
      exact (hI.mi _).1
    · exact h.2 q (by omega) hq3
def Pn (S : MM) (r : Int) (s own : Nat) (v : Int) : Prop := (∃ a, OKp S r s a ∧ cdS S s a = v) ∧ (∀ a, OKp S (r + 1) s a → v ≤ cdS S s a) ∧ ∀ q, own < q → SbM q s → ctq q * S 78 (2 * r) ≤ S 78 (2 * r + 1) → ∀ a, OKp S (r + 1) (s ^^^ q) a → v ≤ ssm (cst S r) q + cdS S (s ^^^ q) a
theorem pn_start {S : MM} (hI : SInv S) {r v : Int} {s : Nat} (h : Mn S (r + 1) s v) : Pn S r s s v := by
  obtain ⟨⟨a, h1, h2⟩, h3⟩ := h
  exact ⟨⟨a, okp_up hI h1, h2⟩, h3, fun q hq hq2 => by have := sbm_le hq2; omega⟩
theorem pn_end {S : MM} {r v : Int} {s : Nat} (hr : r ≤ 3) (h : Pn S r s 0 v) : Mn S r s v := by
  obtain ⟨h1, h2, h3⟩ := h
  refine ⟨h1, fun a ha => ?_⟩
  have tq : ∀ p : Int, 0 ≤ p → tb (mkM (fun p => tb s p && decide (a p = r)) 8 : Nat) p = (decide (p < 8) && (tb s p && decide (a p = r))) := fun p p0 => by
    rw [tb_nat, mkM_tb, show ((p.toNat : Nat) : Int) = p by omega]
    congr 1
    rw [decide_eq_decide]; omega
  generalize hq : mkM (fun p => tb s p && decide (a p = r)) 8 = q at tq
  have hsub : SbM q s := by
    rw [sbm_tb]
    intro i hi
    have := tq i (by omega)
    rw [tb_nat, Int.toNat_natCast, hi, tb_nat, Int.toNat_natCast] at this
    cases e : s.testBit i
    · rw [e] at this; simp at this
    · rfl
  by_cases hz : q = 0
  · refine h2 a ⟨fun p p0 p1 hp => ?_, fun x hx hx3 => ha.2 x (by omega) hx3⟩
    have h4 := ha.1 p p0 p1 hp
    have h5 := tq p p0
    rw [hz, show ((0 : Nat) : Int) = 0 from rfl, tb_0, hp, decide_eq_true p1] at h5
    have : a p ≠ r := by
      intro e; rw [decide_eq_true e] at h5; exact absurd h5 (by decide)
    omega
  · have hct : ctq q = ctR s a r := cnN_congr 8 (fun p p0 p1 => by
      show tb q p = (tb s p && decide (a p = r))
      rw [tq p p0, decide_eq_true (show p < 8 by omega), Bool.true_and])
    have hOK : OKp S (r + 1) (s ^^^ q) a := by
      have inn : ∀ p, 0 ≤ p → p < 8 → tb ((s ^^^ q : Nat) : Int) p = (tb s p && !decide (a p = r)) := fun p p0 p1 => by
        rw [tb_xor, tq p p0, decide_eq_true p1]
        cases tb s p <;> simp
      refine ⟨fun p p0 p1 hp => ?_, fun x hx hx3 => ?_⟩
      · rw [inn p p0 p1] at hp
        simp only [Bool.and_eq_true, Bool.not_eq_true', decide_eq_false_iff_not] at hp
        have := ha.1 p p0 p1 hp.1
        have := hp.2
        omega
      · have e : ctR (s ^^^ q) a x = ctR s a x := ctR_cg (fun p p0 p1 => by
          rw [inn p p0 p1]
          by_cases e : a p = x
          · rw [decide_eq_true e, decide_eq_false (show ¬ a p = r by omega)]; simp
          · rw [decide_eq_false e]; simp)
        rw [e]; exact ha.2 x (by omega) hx3
    have h4 := h3 q (Nat.pos_of_ne_zero hz) hsub (by rw [hct]; exact ha.2 r (by omega) hr) a hOK
    have e1 : cdS S s a = ssm (fun p => cst S (a p) p) q + cdS S (s ^^^ q) a := ssm_add hsub
    have e2 : ssm (fun p => cst S (a p) p) q = ssm (cst S r) q := ssm_cg (fun p p0 p1 hp => by
      rw [tq p p0] at hp
      simp only [Bool.and_eq_true, decide_eq_true_eq] at hp
      show cst S (a p) p = cst S r p
      rw [hp.2.2])
    rw [e1, e2]; exact h4
theorem pn_skip {S : MM} {r v : Int} {s own : Nat} (h : Pn S r s own v) (h0 : 0 < own) (hs : SbM own s) (hn : ¬ ctq own * S 78 (2 * r) ≤ S 78 (2 * r + 1)) : Pn S r s ((own - 1) &&& s) v := by
  refine ⟨h.1, h.2.1, fun q hq hq2 hq3 a ha => ?_⟩
  rcases Nat.lt_trichotomy q own with c | c | c
  · have := sbm_next own own q s (Nat.le_refl _) h0 hs hq2 c; omega
  · rw [c] at hq3; exact absurd hq3 hn
  · exact h.2.2 q c hq2 hq3 a ha
theorem pn_take {S : MM} {r v u : Int} {s own : Nat} (hr : 0 ≤ r ∧ r ≤ 3) (h : Pn S r s own v) (h0 : 0 < own) (hs : SbM own s) (hn : ctq own * S 78 (2 * r) ≤ S 78 (2 * r + 1)) (hu : Mn S (r + 1) (s ^^^ own) u) : Pn S r s ((own - 1) &&& s) (min v (ssm (cst S r) own + u)) := by
  obtain ⟨⟨a, a1, a2⟩, h2, h3⟩ := h
  obtain ⟨⟨b, b1, b2⟩, b3⟩ := hu
  refine ⟨?_, fun c hc => ?_, fun q hq hq2 hq3 c hc => ?_⟩
  · by_cases c : v ≤ ssm (cst S r) own + u
    · exact ⟨a, a1, by omega⟩
    · refine ⟨fun p => if tb own p then r else b p, ⟨fun p p0 p1 hp => ?_, fun x hx hx3 => ?_⟩, ?_⟩
      · show r ≤ (if tb own p then r else b p) ∧ (if tb own p then r else b p) ≤ 4
        by_cases e : tb own p = true
        · rw [if_pos e]; omega
        · rw [if_neg e]
          have := b1.1 p p0 p1 (by rw [tb_xor, hp, Bool.eq_false_iff.mpr e]; rfl)
          omega
      · by_cases e : x = r
        · have : ctR s (fun p => if tb own p then r else b p) x = ctq own := cnN_congr 8 (fun p p0 p1 => by
            show (tb s p && decide ((if tb own p then r else b p) = x)) = tb own p
            cases e2 : tb own p
            · simp only [Bool.false_eq_true, if_false]
              cases e3 : tb s p
              · rfl
              · have := b1.1 p p0 (by omega) (by rw [tb_xor, e3, e2]; rfl)
                rw [decide_eq_false (show ¬ b p = x by omega)]; rfl
            · rw [sbm_tbi hs p e2]; simp [e])
          rw [this, e]; exact hn
        · have : ctR s (fun p => if tb own p then r else b p) x = ctR (s ^^^ own) b x := ctR_cg (fun p p0 p1 => by
            show (tb s p && decide ((if tb own p then r else b p) = x)) = (tb ((s ^^^ own : Nat) : Int) p && decide (b p = x))
            rw [tb_xor]
            cases e2 : tb own p
            · simp
            · rw [sbm_tbi hs p e2, if_pos rfl, decide_eq_false (show ¬ r = x from fun q => e q.symm)]; simp)
          rw [this]; exact b1.2 x (by omega) hx3
      · have e1 : cdS S s (fun p => if tb own p then r else b p) = ssm (fun p => cst S (if tb own p then r else b p) p) own + ssm (fun p => cst S (if tb own p then r else b p) p) (s ^^^ own) := ssm_add hs
        have e2 : ssm (fun p => cst S (if tb own p then r else b p) p) own = ssm (cst S r) own := ssm_cg (fun p p0 p1 hp => by
          show cst S (if tb own p then r else b p) p = cst S r p
          rw [if_pos hp])
        have e3 : ssm (fun p => cst S (if tb own p then r else b p) p) (s ^^^ own) = cdS S (s ^^^ own) b := ssm_cg (fun p p0 p1 hp => by
          show cst S (if tb own p then r else b p) p = cst S (b p) p
          rw [tb_xor] at hp
          cases e2 : tb own p
          · rfl
          · rw [e2, sbm_tbi hs p e2] at hp; exact absurd hp (by decide))
        rw [e1, e2, e3, b2]; omega
  · have := h2 c hc; omega
  · rcases Nat.lt_trichotomy q own with c2 | c2 | c2
    · have := sbm_next own own q s (Nat.le_refl _) h0 hs hq2 c2; omega
    · rw [c2] at hc ⊢
      have := b3 c hc; omega
    · have := h3 q c2 hq2 hq3 c hc; omega
/-! the number of a parting, told apart -/
def dgP (s : Nat) (a : Int → Int) (p : Int) : Int := if tb s p then a p else 0
def vlP (s : Nat) (a : Int → Int) : Int := dgP s a 0 * 78125 + dgP s a 1 * 15625 + dgP s a 2 * 3125 + dgP s a 3 * 625 + dgP s a 4 * 125 + dgP s a 5 * 25 + dgP s a 6 * 5 + dgP s a 7
theorem smN_mul (f : Int → Int) (c : Int) : ∀ n : Nat, smN (fun p => f p * c) n = smN f n * c
  | 0 => by simp [smN]
  | n + 1 => by rw [smN, smN, smN_mul f c n, Int.add_mul]
theorem cd_eq (S : MM) (s : Nat) (a : Int → Int) : cdS S s a = smP S s a * 390625 + vlP s a := by
  have e : cdS S s a = smN (fun p => (if tb s p then misS S (a p) p else 0) * 390625 + dgP s a p * PUf p.toNat) 8 := smN_congr 8 (fun p p0 p1 => by
    show (if tb s p then cst S (a p) p else 0) = (if tb s p then misS S (a p) p else 0) * 390625 + dgP s a p * PUf p.toNat
    unfold dgP cst
    cases tb s p <;> simp)
  rw [e, smN_add, smN_mul]
  have : smN (fun p => dgP s a p * PUf p.toNat) 8 = vlP s a := by
    simp only [smN]
    unfold vlP
    have h0 : PUf (0 : Int).toNat = 78125 := rfl
    show 0 + dgP s a 0 * PUf 0 + dgP s a 1 * PUf 1 + dgP s a 2 * PUf 2 + dgP s a 3 * PUf 3 + dgP s a 4 * PUf 4 + dgP s a 5 * PUf 5 + dgP s a 6 * PUf 6 + dgP s a 7 * PUf 7 = _
    show 0 + dgP s a 0 * 78125 + dgP s a 1 * 15625 + dgP s a 2 * 3125 + dgP s a 3 * 625 + dgP s a 4 * 125 + dgP s a 5 * 25 + dgP s a 6 * 5 + dgP s a 7 * 1 = _
    omega
  rw [this]; rfl
def RngP (s : Nat) (a : Int → Int) : Prop := ∀ p, 0 ≤ p → p < 8 → tb s p = true → 0 ≤ a p ∧ a p ≤ 4
theorem dg_b {s : Nat} {a : Int → Int} (h : RngP s a) (p : Int) (h0 : 0 ≤ p) (h1 : p < 8) : 0 ≤ dgP s a p ∧ dgP s a p ≤ 4 := by
  unfold dgP
  by_cases c : tb s p = true
  · rw [if_pos c]; exact h p h0 h1 c
  · rw [if_neg c]; omega
theorem vl_b {s : Nat} {a : Int → Int} (h : RngP s a) : 0 ≤ vlP s a ∧ vlP s a < 390625 := by
  have d := dg_b h
  have d0 := d 0 (by omega) (by omega)
  have d1 := d 1 (by omega) (by omega)
  have d2 := d 2 (by omega) (by omega)
  have d3 := d 3 (by omega) (by omega)
  have d4 := d 4 (by omega) (by omega)
  have d5 := d 5 (by omega) (by omega)
  have d6 := d 6 (by omega) (by omega)
  have d7 := d 7 (by omega) (by omega)
  unfold vlP; omega
theorem sm_b {S : MM} (hI : SInv S) (s : Nat) (a : Int → Int) : 0 ≤ smP S s a ∧ smP S s a ≤ 8000 := ssm_nn (m := 1000) (fun p => mis_b hI (a p) p)
/-- two partings of one number are one -/
theorem vl_inj {s : Nat} {a b : Int → Int} (ha : RngP s a) (hb : RngP s b) (h : vlP s a = vlP s b) : ∀ p, 0 ≤ p → p < 8 → dgP s a p = dgP s b p := by
  have d := dg_b ha
  have e := dg_b hb
  have d0 := d 0 (by omega) (by omega)
  have d1 := d 1 (by omega) (by omega)
  have d2 := d 2 (by omega) (by omega)
  have d3 := d 3 (by omega) (by omega)
  have d4 := d 4 (by omega) (by omega)
  have d5 := d 5 (by omega) (by omega)
  have d6 := d 6 (by omega) (by omega)
  have d7 := d 7 (by omega) (by omega)
  have e0 := e 0 (by omega) (by omega)
  have e1 := e 1 (by omega) (by omega)
  have e2 := e 2 (by omega) (by omega)
  have e3 := e 3 (by omega) (by omega)
  have e4 := e 4 (by omega) (by omega)
  have e5 := e 5 (by omega) (by omega)
  have e6 := e 6 (by omega) (by omega)
  have e7 := e 7 (by omega) (by omega)
  unfold vlP at h
  intro p p0 p1
  rcases (show p = 0 ∨ p = 1 ∨ p = 2 ∨ p = 3 ∨ p = 4 ∨ p = 5 ∨ p = 6 ∨ p = 7 by omega) with rfl | rfl | rfl | rfl | rfl | rfl | rfl | rfl <;> omega
theorem okp_r {S : MM} {s : Nat} {a : Int → Int} (h : OKp S 0 s a) : RngP s a := fun p p0 p1 hp => h.1 p p0 p1 hp
/-- the least parting's sum and readers, out of its number -/
theorem mn_dec {S : MM} (hI : SInv S) {s : Nat} {c : Int} {a : Int → Int} (h : OKp S 0 s a) (he : cdS S s a = c) : (0 ≤ c ∧ c ≤ 3200000000) ∧ c / 390625 = smP S s a ∧ ∀ i, 0 ≤ i → i < 8 → ∃ f : Int → Int, f 7 = c ∧ (∀ p, 0 < p → p ≤ 7 → 0 ≤ f p ∧ f p / 5 = f (p - 1)) ∧ 0 ≤ f i ∧ f i % 5 = dgP s a i := by
  have hv := vl_b (okp_r h)
  have hs := sm_b hI s a
  rw [cd_eq] at he
  refine ⟨by omega, by omega, fun i i0 i1 => ?_⟩
  have d := dg_b (okp_r h)
  have d0 := d 0 (by omega) (by omega)
  have d1 := d 1 (by omega) (by omega)
  have d2 := d 2 (by omega) (by omega)
  have d3 := d 3 (by omega) (by omega)
  have d4 := d 4 (by omega) (by omega)
  have d5 := d 5 (by omega) (by omega)
  have d6 := d 6 (by omega) (by omega)
  have d7 := d 7 (by omega) (by omega)
  unfold vlP at he
  generalize hsm : smP S s a = m at *
  refine ⟨fun p => if p = 7 then c else if p = 6 then c / 5 else if p = 5 then c / 25 else if p = 4 then c / 125 else if p = 3 then c / 625 else if p = 2 then c / 3125 else if p = 1 then c / 15625 else c / 78125, by simp, fun p p0 p1 => ?_, ?_, ?_⟩
  · rcases (show p = 1 ∨ p = 2 ∨ p = 3 ∨ p = 4 ∨ p = 5 ∨ p = 6 ∨ p = 7 by omega) with rfl | rfl | rfl | rfl | rfl | rfl | rfl <;> (simp; omega)
  · rcases (show i = 0 ∨ i = 1 ∨ i = 2 ∨ i = 3 ∨ i = 4 ∨ i = 5 ∨ i = 6 ∨ i = 7 by omega) with rfl | rfl | rfl | rfl | rfl | rfl | rfl | rfl <;> (simp; omega)
  · rcases (show i = 0 ∨ i = 1 ∨ i = 2 ∨ i = 3 ∨ i = 4 ∨ i = 5 ∨ i = 6 ∨ i = 7 by omega) with rfl | rfl | rfl | rfl | rfl | rfl | rfl | rfl <;> (simp; omega)
