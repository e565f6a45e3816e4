/-! PARTED: THE MODEL -/
theorem okp_cg {S : MM} {R : Int} {s : Nat} {a b : Int → Int} (h : ∀ p, 0 ≤ p → p < 8 → a p = b p) (ha : OKp S R s a) : OKp S R s b := by
  refine ⟨fun p p0 p1 hp => by rw [← h p p0 p1]; exact ha.1 p p0 p1 hp, fun r h1 h2 => ?_⟩
  rw [← ctR_cg (s := s) (t := s) (a := a) (b := b) (fun p p0 p1 => by rw [h p p0 p1])]
  exact ha.2 r h1 h2
theorem sm_cg {S : MM} {s : Nat} {a b : Int → Int} (h : ∀ p, 0 ≤ p → p < 8 → a p = b p) : smP S s a = smP S s b := ssm_cg (fun p p0 p1 _ => by
  show misS S (a p) p = misS S (b p) p
  rw [h p p0 p1])
theorem vl_cg {s : Nat} {a b : Int → Int} (h : ∀ p, 0 ≤ p → p < 8 → a p = b p) : vlP s a = vlP s b := by
  have d : ∀ p, 0 ≤ p → p < 8 → dgP s a p = dgP s b p := fun p p0 p1 => by unfold dgP; rw [h p p0 p1]
  unfold vlP
  rw [d 0 (by omega) (by omega), d 1 (by omega) (by omega), d 2 (by omega) (by omega), d 3 (by omega) (by omega), d 4 (by omega) (by omega), d 5 (by omega) (by omega), d 6 (by omega) (by omega), d 7 (by omega) (by omega)]
/-- the next one in the order of numbers -/
theorem vl_succ {s : Nat} {a b : Int → Int} (ha : RngP s a) {p : Int} (p0 : 0 ≤ p) (p1 : p < 8) (hp : tb s p = true) (h4 : a p ≤ 3) (e1 : b p = a p + 1) (e2 : ∀ q, p < q → q < 8 → tb s q = true → a q = 4 ∧ b q = 0) (e3 : ∀ q, 0 ≤ q → q < p → b q = a q) :
    RngP s b ∧ vlP s a < vlP s b ∧ ∀ c, RngP s c → vlP s c < vlP s b → vlP s c ≤ vlP s a := by
  have hb : RngP s b := fun q q0 q1 hq => by
    rcases Int.lt_trichotomy q p with h | h | h
    · rw [e3 q q0 h]; exact ha q q0 q1 hq
    · rw [h, e1]; have := ha p p0 p1 hp; omega
    · rw [(e2 q h q1 hq).2]; omega
  have da := dg_b ha
  have x1 : ∀ q, 0 ≤ q → q < p → dgP s b q = dgP s a q := fun q q0 q1 => by unfold dgP; rw [e3 q q0 q1]
  have x2 : dgP s b p = dgP s a p + 1 := by unfold dgP; rw [if_pos hp, if_pos hp]; exact e1
  have x3 : ∀ q, p < q → q < 8 → dgP s b q = 0 := fun q q0 q1 => by
    unfold dgP
    by_cases c : tb s q = true
    · rw [if_pos c]; exact (e2 q q0 q1 c).2
    · rw [if_neg c]
  have x4 : ∀ c : Int → Int, RngP s c → ∀ q, p < q → q < 8 → dgP s c q ≤ dgP s a q := fun c hc q q0 q1 => by
    unfold dgP
    by_cases c2 : tb s q = true
    · rw [if_pos c2, if_pos c2, (e2 q q0 q1 c2).1]; exact (hc q (by omega) q1 c2).2
    · rw [if_neg c2, if_neg c2]; omega
  refine ⟨hb, ?_⟩
  have sp : ∀ {pu ka kc la lc va vb vc : Int}, 0 < pu → va = pu * ka + la → vb = pu * (ka + 1) → vc = pu * kc + lc → 0 ≤ lc → lc ≤ la → vc < vb → vc ≤ va := fun {pu ka kc la lc va vb vc} h0 h1 h2 h3 h4 h5 h6 => by
    have h7 : pu * kc < pu * (ka + 1) := by omega
    have h8 : kc < ka + 1 := Int.lt_of_mul_lt_mul_left h7 (by omega)
    have h9 : pu * kc ≤ pu * ka := Int.mul_le_mul_of_nonneg_left (by omega) (by omega)
    omega
  rcases (show p = 0 ∨ p = 1 ∨ p = 2 ∨ p = 3 ∨ p = 4 ∨ p = 5 ∨ p = 6 ∨ p = 7 by omega) with rfl | rfl | rfl | rfl | rfl | rfl | rfl | rfl
  · have ea : vlP s a = 78125 * (dgP s a 0 * 1) + (dgP s a 1 * 15625 + dgP s a 2 * 3125 + dgP s a 3 * 625 + dgP s a 4 * 125 + dgP s a 5 * 25 + dgP s a 6 * 5 + dgP s a 7 * 1) := by unfold vlP; omega
    have eb : vlP s b = 78125 * ((dgP s a 0 * 1) + 1) := by
      unfold vlP
      rw [x2, x3 1 (by omega) (by omega), x3 2 (by omega) (by omega), x3 3 (by omega) (by omega), x3 4 (by omega) (by omega), x3 5 (by omega) (by omega), x3 6 (by omega) (by omega), x3 7 (by omega) (by omega)]
      omega
    have la : dgP s a 1 * 15625 + dgP s a 2 * 3125 + dgP s a 3 * 625 + dgP s a 4 * 125 + dgP s a 5 * 25 + dgP s a 6 * 5 + dgP s a 7 * 1 < 78125 := by
      have d1 := da 1 (by omega) (by omega)
      have d2 := da 2 (by omega) (by omega)
      have d3 := da 3 (by omega) (by omega)
      have d4 := da 4 (by omega) (by omega)
      have d5 := da 5 (by omega) (by omega)
      have d6 := da 6 (by omega) (by omega)
      have d7 := da 7 (by omega) (by omega)
      omega
    refine ⟨by rw [ea, eb]; omega, fun c hc h => ?_⟩
    have ec : vlP s c = 78125 * (dgP s c 0 * 1) + (dgP s c 1 * 15625 + dgP s c 2 * 3125 + dgP s c 3 * 625 + dgP s c 4 * 125 + dgP s c 5 * 25 + dgP s c 6 * 5 + dgP s c 7 * 1) := by unfold vlP; omega
    refine sp (by decide) ea eb ec ?_ ?_ h
    · have c1 := dg_b hc 1 (by omega) (by omega)
      have c2 := dg_b hc 2 (by omega) (by omega)
      have c3 := dg_b hc 3 (by omega) (by omega)
      have c4 := dg_b hc 4 (by omega) (by omega)
      have c5 := dg_b hc 5 (by omega) (by omega)
      have c6 := dg_b hc 6 (by omega) (by omega)
      have c7 := dg_b hc 7 (by omega) (by omega)
      omega
    · have z1 := x4 c hc 1 (by omega) (by omega)
      have z2 := x4 c hc 2 (by omega) (by omega)
      have z3 := x4 c hc 3 (by omega) (by omega)
      have z4 := x4 c hc 4 (by omega) (by omega)
      have z5 := x4 c hc 5 (by omega) (by omega)
      have z6 := x4 c hc 6 (by omega) (by omega)
      have z7 := x4 c hc 7 (by omega) (by omega)
      omega
  · have ea : vlP s a = 15625 * (dgP s a 0 * 5 + dgP s a 1 * 1) + (dgP s a 2 * 3125 + dgP s a 3 * 625 + dgP s a 4 * 125 + dgP s a 5 * 25 + dgP s a 6 * 5 + dgP s a 7 * 1) := by unfold vlP; omega
    have eb : vlP s b = 15625 * ((dgP s a 0 * 5 + dgP s a 1 * 1) + 1) := by
      unfold vlP
      rw [x1 0 (by omega) (by omega), x2, x3 2 (by omega) (by omega), x3 3 (by omega) (by omega), x3 4 (by omega) (by omega), x3 5 (by omega) (by omega), x3 6 (by omega) (by omega), x3 7 (by omega) (by omega)]
      omega
    have la : dgP s a 2 * 3125 + dgP s a 3 * 625 + dgP s a 4 * 125 + dgP s a 5 * 25 + dgP s a 6 * 5 + dgP s a 7 * 1 < 15625 := by
      have d2 := da 2 (by omega) (by omega)
      have d3 := da 3 (by omega) (by omega)
      have d4 := da 4 (by omega) (by omega)
      have d5 := da 5 (by omega) (by omega)
      have d6 := da 6 (by omega) (by omega)
      have d7 := da 7 (by omega) (by omega)
      omega
    refine ⟨by rw [ea, eb]; omega, fun c hc h => ?_⟩
    have ec : vlP s c = 15625 * (dgP s c 0 * 5 + dgP s c 1 * 1) + (dgP s c 2 * 3125 + dgP s c 3 * 625 + dgP s c 4 * 125 + dgP s c 5 * 25 + dgP s c 6 * 5 + dgP s c 7 * 1) := by unfold vlP; omega
    refine sp (by decide) ea eb ec ?_ ?_ h
    · have c2 := dg_b hc 2 (by omega) (by omega)
      have c3 := dg_b hc 3 (by omega) (by omega)
      have c4 := dg_b hc 4 (by omega) (by omega)
      have c5 := dg_b hc 5 (by omega) (by omega)
      have c6 := dg_b hc 6 (by omega) (by omega)
      have c7 := dg_b hc 7 (by omega) (by omega)
      omega
    · have z2 := x4 c hc 2 (by omega) (by omega)
      have z3 := x4 c hc 3 (by omega) (by omega)
      have z4 := x4 c hc 4 (by omega) (by omega)
      have z5 := x4 c hc 5 (by omega) (by omega)
      have z6 := x4 c hc 6 (by omega) (by omega)
      have z7 := x4 c hc 7 (by omega) (by omega)
      omega
  · have ea : vlP s a = 3125 * (dgP s a 0 * 25 + dgP s a 1 * 5 + dgP s a 2 * 1) + (dgP s a 3 * 625 + dgP s a 4 * 125 + dgP s a 5 * 25 + dgP s a 6 * 5 + dgP s a 7 * 1) := by unfold vlP; omega
    have eb : vlP s b = 3125 * ((dgP s a 0 * 25 + dgP s a 1 * 5 + dgP s a 2 * 1) + 1) := by
      unfold vlP
      rw [x1 0 (by omega) (by omega), x1 1 (by omega) (by omega), x2, x3 3 (by omega) (by omega), x3 4 (by omega) (by omega), x3 5 (by omega) (by omega), x3 6 (by omega) (by omega), x3 7 (by omega) (by omega)]
      omega
    have la : dgP s a 3 * 625 + dgP s a 4 * 125 + dgP s a 5 * 25 + dgP s a 6 * 5 + dgP s a 7 * 1 < 3125 := by
      have d3 := da 3 (by omega) (by omega)
      have d4 := da 4 (by omega) (by omega)
      have d5 := da 5 (by omega) (by omega)
      have d6 := da 6 (by omega) (by omega)
      have d7 := da 7 (by omega) (by omega)
      omega
    refine ⟨by rw [ea, eb]; omega, fun c hc h => ?_⟩
    have ec : vlP s c = 3125 * (dgP s c 0 * 25 + dgP s c 1 * 5 + dgP s c 2 * 1) + (dgP s c 3 * 625 + dgP s c 4 * 125 + dgP s c 5 * 25 + dgP s c 6 * 5 + dgP s c 7 * 1) := by unfold vlP; omega
    refine sp (by decide) ea eb ec ?_ ?_ h
    · have c3 := dg_b hc 3 (by omega) (by omega)
      have c4 := dg_b hc 4 (by omega) (by omega)
      have c5 := dg_b hc 5 (by omega) (by omega)
      have c6 := dg_b hc 6 (by omega) (by omega)
      have c7 := dg_b hc 7 (by omega) (by omega)
      omega
    · have z3 := x4 c hc 3 (by omega) (by omega)
      have z4 := x4 c hc 4 (by omega) (by omega)
      have z5 := x4 c hc 5 (by omega) (by omega)
      have z6 := x4 c hc 6 (by omega) (by omega)
      have z7 := x4 c hc 7 (by omega) (by omega)
      omega
  · have ea : vlP s a = 625 * (dgP s a 0 * 125 + dgP s a 1 * 25 + dgP s a 2 * 5 + dgP s a 3 * 1) + (dgP s a 4 * 125 + dgP s a 5 * 25 + dgP s a 6 * 5 + dgP s a 7 * 1) := by unfold vlP; omega
    have eb : vlP s b = 625 * ((dgP s a 0 * 125 + dgP s a 1 * 25 + dgP s a 2 * 5 + dgP s a 3 * 1) + 1) := by
      unfold vlP
      rw [x1 0 (by omega) (by omega), x1 1 (by omega) (by omega), x1 2 (by omega) (by omega), x2, x3 4 (by omega) (by omega), x3 5 (by omega) (by omega), x3 6 (by omega) (by omega), x3 7 (by omega) (by omega)]
      omega
    have la : dgP s a 4 * 125 + dgP s a 5 * 25 + dgP s a 6 * 5 + dgP s a 7 * 1 < 625 := by
      have d4 := da 4 (by omega) (by omega)
      have d5 := da 5 (by omega) (by omega)
      have d6 := da 6 (by omega) (by omega)
      have d7 := da 7 (by omega) (by omega)
      omega
    refine ⟨by rw [ea, eb]; omega, fun c hc h => ?_⟩
    have ec : vlP s c = 625 * (dgP s c 0 * 125 + dgP s c 1 * 25 + dgP s c 2 * 5 + dgP s c 3 * 1) + (dgP s c 4 * 125 + dgP s c 5 * 25 + dgP s c 6 * 5 + dgP s c 7 * 1) := by unfold vlP; omega
    refine sp (by decide) ea eb ec ?_ ?_ h
    · have c4 := dg_b hc 4 (by omega) (by omega)
      have c5 := dg_b hc 5 (by omega) (by omega)
      have c6 := dg_b hc 6 (by omega) (by omega)
      have c7 := dg_b hc 7 (by omega) (by omega)
      omega
    · have z4 := x4 c hc 4 (by omega) (by omega)
      have z5 := x4 c hc 5 (by omega) (by omega)
      have z6 := x4 c hc 6 (by omega) (by omega)
      have z7 := x4 c hc 7 (by omega) (by omega)
      omega
  · have ea : vlP s a = 125 * (dgP s a 0 * 625 + dgP s a 1 * 125 + dgP s a 2 * 25 + dgP s a 3 * 5 + dgP s a 4 * 1) + (dgP s a 5 * 25 + dgP s a 6 * 5 + dgP s a 7 * 1) := by unfold vlP; omega
    have eb : vlP s b = 125 * ((dgP s a 0 * 625 + dgP s a 1 * 125 + dgP s a 2 * 25 + dgP s a 3 * 5 + dgP s a 4 * 1) + 1) := by
      unfold vlP
      rw [x1 0 (by omega) (by omega), x1 1 (by omega) (by omega), x1 2 (by omega) (by omega), x1 3 (by omega) (by omega), x2, x3 5 (by omega) (by omega), x3 6 (by omega) (by omega), x3 7 (by omega) (by omega)]
      omega
    have la : dgP s a 5 * 25 + dgP s a 6 * 5 + dgP s a 7 * 1 < 125 := by
      have d5 := da 5 (by omega) (by omega)
      have d6 := da 6 (by omega) (by omega)
      have d7 := da 7 (by omega) (by omega)
      omega
    refine ⟨by rw [ea, eb]; omega, fun c hc h => ?_⟩
    have ec : vlP s c = 125 * (dgP s c 0 * 625 + dgP s c 1 * 125 + dgP s c 2 * 25 + dgP s c 3 * 5 + dgP s c 4 * 1) + (dgP s c 5 * 25 + dgP s c 6 * 5 + dgP s c 7 * 1) := by unfold vlP; omega
    refine sp (by decide) ea eb ec ?_ ?_ h
    · have c5 := dg_b hc 5 (by omega) (by omega)
      have c6 := dg_b hc 6 (by omega) (by omega)
      have c7 := dg_b hc 7 (by omega) (by omega)
      omega
    · have z5 := x4 c hc 5 (by omega) (by omega)
      have z6 := x4 c hc 6 (by omega) (by omega)
      have z7 := x4 c hc 7 (by omega) (by omega)
      omega
  · have ea : vlP s a = 25 * (dgP s a 0 * 3125 + dgP s a 1 * 625 + dgP s a 2 * 125 + dgP s a 3 * 25 + dgP s a 4 * 5 + dgP s a 5 * 1) + (dgP s a 6 * 5 + dgP s a 7 * 1) := by unfold vlP; omega
    have eb : vlP s b = 25 * ((dgP s a 0 * 3125 + dgP s a 1 * 625 + dgP s a 2 * 125 + dgP s a 3 * 25 + dgP s a 4 * 5 + dgP s a 5 * 1) + 1) := by
      unfold vlP
      rw [x1 0 (by omega) (by omega), x1 1 (by omega) (by omega), x1 2 (by omega) (by omega), x1 3 (by omega) (by omega), x1 4 (by omega) (by omega), x2, x3 6 (by omega) (by omega), x3 7 (by omega) (by omega)]
      omega
    have la : dgP s a 6 * 5 + dgP s a 7 * 1 < 25 := by
      have d6 := da 6 (by omega) (by omega)
      have d7 := da 7 (by omega) (by omega)
      omega
    refine ⟨by rw [ea, eb]; omega, fun c hc h => ?_⟩
    have ec : vlP s c = 25 * (dgP s c 0 * 3125 + dgP s c 1 * 625 + dgP s c 2 * 125 + dgP s c 3 * 25 + dgP s c 4 * 5 + dgP s c 5 * 1) + (dgP s c 6 * 5 + dgP s c 7 * 1) := by unfold vlP; omega
    refine sp (by decide) ea eb ec ?_ ?_ h
    · have c6 := dg_b hc 6 (by omega) (by omega)
      have c7 := dg_b hc 7 (by omega) (by omega)
      omega
    · have z6 := x4 c hc 6 (by omega) (by omega)
      have z7 := x4 c hc 7 (by omega) (by omega)
      omega
  · have ea : vlP s a = 5 * (dgP s a 0 * 15625 + dgP s a 1 * 3125 + dgP s a 2 * 625 + dgP s a 3 * 125 + dgP s a 4 * 25 + dgP s a 5 * 5 + dgP s a 6 * 1) + (dgP s a 7 * 1) := by unfold vlP; omega
    have eb : vlP s b = 5 * ((dgP s a 0 * 15625 + dgP s a 1 * 3125 + dgP s a 2 * 625 + dgP s a 3 * 125 + dgP s a 4 * 25 + dgP s a 5 * 5 + dgP s a 6 * 1) + 1) := by
      unfold vlP
      rw [x1 0 (by omega) (by omega), x1 1 (by omega) (by omega), x1 2 (by omega) (by omega), x1 3 (by omega) (by omega), x1 4 (by omega) (by omega), x1 5 (by omega) (by omega), x2, x3 7 (by omega) (by omega)]
      omega
    have la : dgP s a 7 * 1 < 5 := by
      have d7 := da 7 (by omega) (by omega)
      omega
    refine ⟨by rw [ea, eb]; omega, fun c hc h => ?_⟩
    have ec : vlP s c = 5 * (dgP s c 0 * 15625 + dgP s c 1 * 3125 + dgP s c 2 * 625 + dgP s c 3 * 125 + dgP s c 4 * 25 + dgP s c 5 * 5 + dgP s c 6 * 1) + (dgP s c 7 * 1) := by unfold vlP; omega
    refine sp (by decide) ea eb ec ?_ ?_ h
    · have c7 := dg_b hc 7 (by omega) (by omega)
      omega
    · have z7 := x4 c hc 7 (by omega) (by omega)
      omega
  · have ea : vlP s a = 1 * (dgP s a 0 * 78125 + dgP s a 1 * 15625 + dgP s a 2 * 3125 + dgP s a 3 * 625 + dgP s a 4 * 125 + dgP s a 5 * 25 + dgP s a 6 * 5 + dgP s a 7 * 1) + (0) := by unfold vlP; omega
    have eb : vlP s b = 1 * ((dgP s a 0 * 78125 + dgP s a 1 * 15625 + dgP s a 2 * 3125 + dgP s a 3 * 625 + dgP s a 4 * 125 + dgP s a 5 * 25 + dgP s a 6 * 5 + dgP s a 7 * 1) + 1) := by
      unfold vlP
      rw [x1 0 (by omega) (by omega), x1 1 (by omega) (by omega), x1 2 (by omega) (by omega), x1 3 (by omega) (by omega), x1 4 (by omega) (by omega), x1 5 (by omega) (by omega), x1 6 (by omega) (by omega), x2]
      omega
    have la : 0 < 1 := by
      omega
    refine ⟨by rw [ea, eb]; omega, fun c hc h => ?_⟩
    have ec : vlP s c = 1 * (dgP s c 0 * 78125 + dgP s c 1 * 15625 + dgP s c 2 * 3125 + dgP s c 3 * 625 + dgP s c 4 * 125 + dgP s c 5 * 25 + dgP s c 6 * 5 + dgP s c 7 * 1) + (0) := by unfold vlP; omega
    refine sp (by decide) ea eb ec ?_ ?_ h
    · omega
    · omega
theorem vl_top {s : Nat} {a : Int → Int} (h : ∀ q, 0 ≤ q → q < 8 → tb s q = true → a q = 4) : ∀ c, RngP s c → vlP s c ≤ vlP s a := fun c hc => by
  have k : ∀ q, 0 ≤ q → q < 8 → dgP s c q ≤ dgP s a q := fun q q0 q1 => by
    unfold dgP
    by_cases e : tb s q = true
    · rw [if_pos e, if_pos e, h q q0 q1 e]; exact (hc q q0 q1 e).2
    · rw [if_neg e, if_neg e]; omega
  have k0 := k 0 (by omega) (by omega)
  have k1 := k 1 (by omega) (by omega)
  have k2 := k 2 (by omega) (by omega)
  have k3 := k 3 (by omega) (by omega)
  have k4 := k 4 (by omega) (by omega)
  have k5 := k 5 (by omega) (by omega)
  have k6 := k 6 (by omega) (by omega)
  have k7 := k 7 (by omega) (by omega)
  unfold vlP; omega
