/-! two abstract states that look alike to the pieces -/
def SV (S S' : MM) : Prop := S' 41 12 = S 41 12 ∧ True ∧ ∀ k, isPc S k → True ∧ S' 46 k = S 46 k ∧ S' 43 (S 46 k) = S 43 (S 46 k) ∧ S' 44 (S 46 k) = S 44 (S 46 k)
theorem SV.pc {S S' : MM} (h : SV S S') {k : Int} : isPc S' k ↔ isPc S k := by unfold isPc; rw [h.1]
theorem SV.dbl {S S' : MM} (h : SV S S') (h5 : S' 53 0 = S 53 0 ∧ ∀ k, isPc S k → wl S' k = wl S k) {p q : Int} (hp : isPc S p) (hq : isPc S q) : dblS S' p q = dblS S p q := by
  unfold dblS; rw [h5.2 p hp, h5.2 q hq, h5.1]
theorem SV.rn {S S' : MM} (h : SV S S') (h5 : S' 53 0 = S 53 0 ∧ ∀ k, isPc S k → wl S' k = wl S k) : ∀ (n : Nat) (p q : Int), isPc S p → isPc S q → (Rn S' n p q ↔ Rn S n p q)
  | 0, p, q, _, _ => Iff.rfl
  | n + 1, p, q, hp, hq => by
    constructor
    · rintro ⟨r, h1, h2, h3⟩
      have h1' := h.pc.mp h1
      exact ⟨r, h1', (h.rn h5 n p r hp h1').mp h2, by rw [← h.dbl h5 h1' hq]; exact h3⟩
    · rintro ⟨r, h1, h2, h3⟩
      exact ⟨r, h.pc.mpr h1, (h.rn h5 n p r hp h1).mpr h2, by rw [h.dbl h5 h1 hq]; exact h3⟩
theorem SV.fam {S S' : MM} (h : SV S S') (h5 : S' 53 0 = S 53 0 ∧ ∀ k, isPc S k → wl S' k = wl S k) {p q : Int} (hp : isPc S p) (hq : isPc S q) : famb S' p q = famb S p q := by
  rw [Bool.eq_iff_iff, famb_iff, famb_iff, h.pc]
  constructor
  · rintro ⟨h1, n, h2⟩; exact ⟨h1, n, (h.rn h5 n p q hp hq).mp h2⟩
  · rintro ⟨h1, n, h2⟩; exact ⟨h1, n, (h.rn h5 n p q hp hq).mpr h2⟩
theorem SV.ahead {S S' : MM} (h : SV S S') {p q : Int} (hp : isPc S p) (hq : isPc S q) : aheadS S' p q = aheadS S p q := by
  obtain ⟨-, a1, a2, a3⟩ := h.2.2 p hp
  obtain ⟨-, b1, b2, b3⟩ := h.2.2 q hq
  unfold aheadS; rw [a1, b1, a2, b2, a3, b3]
theorem fstN_rng (S : MM) (f : Int → Bool) : ∀ n : Nat, -1 ≤ fstN S f n ∧ fstN S f n < n ∧ (0 ≤ fstN S f n → f (fstN S f n) = true)
  | 0 => by simp [fstN]
  | n + 1 => by
    have ih := fstN_rng S f n
    rw [fstN]
    by_cases hc : (f n && (decide (fstN S f n < 0) || aheadS S n (fstN S f n))) = true
    · rw [if_pos hc]
      refine ⟨by omega, by omega, fun _ => ?_⟩
      rw [Bool.and_eq_true] at hc; exact hc.1
    · rw [if_neg hc]; exact ⟨ih.1, by omega, ih.2.2⟩
theorem SV.fst {S S' : MM} (h : SV S S') {f' f : Int → Bool} (hf : ∀ k, isPc S k → f' k = f k) : ∀ n : Nat, (n : Int) ≤ S 41 12 → fstN S' f' n = fstN S f n
  | 0, _ => rfl
  | n + 1, hn => by
    have ih := h.fst hf n (by omega)
    have hr := fstN_rng S f n
    rw [fstN, fstN, ih, hf n (by unfold isPc; omega)]
    by_cases h0 : fstN S f n < 0
    · simp [h0]
    · rw [h.ahead (by unfold isPc; omega) (by unfold isPc; omega)]
theorem SV.first {S S' : MM} (h : SV S S') (h5 : S' 53 0 = S 53 0 ∧ ∀ k, isPc S k → wl S' k = wl S k) (hI : 0 ≤ S 41 12) {p : Int} (hp : isPc S p) : firstS S' p = firstS S p := by
  unfold firstS; rw [h.1]; exact h.fst (fun k hk => h.fam h5 hp hk) _ (by omega)
theorem SV.size {S S' : MM} (h : SV S S') (h5 : S' 53 0 = S 53 0 ∧ ∀ k, isPc S k → wl S' k = wl S k) {p : Int} (hp : isPc S p) : famC S' p = famC S p := by
  unfold famC; rw [h.1]; exact cnN_congr _ (fun k h1 h2 => h.fam h5 hp (by unfold isPc; omega))
theorem insR_mem (S : MM) (n : Int) : ∀ (R : List Int) (x : Int), x ∈ insR S n R ↔ x = n ∨ x ∈ R
  | [], x => by simp [insR]
  | e :: R, x => by
    rw [insR]; split
    · rw [List.mem_cons, insR_mem S n R x, List.mem_cons]
      constructor
      · rintro (h | h | h)
        · exact Or.inr (Or.inl h)
        · exact Or.inl h
        · exact Or.inr (Or.inr h)
      · rintro (h | h | h)
        · exact Or.inr (Or.inl h)
        · exact Or.inl h
        · exact Or.inr (Or.inr h)
    · rw [List.mem_cons]
theorem ordR_mem (S : MM) : ∀ (n : Nat) (x : Int), x ∈ ordR S n ↔ 0 ≤ x ∧ x < n
  | 0, x => by simp [ordR]
  | n + 1, x => by rw [ordR, insR_mem, ordR_mem S n x]; omega
theorem insR_len (S : MM) (n : Int) : ∀ R : List Int, (insR S n R).length = R.length + 1
  | [] => rfl
  | e :: R => by rw [insR]; split <;> simp [insR_len S n R]
theorem ordR_len (S : MM) : ∀ n : Nat, (ordR S n).length = n
  | 0 => rfl
  | n + 1 => by rw [ordR, insR_len, ordR_len S n]
theorem ordL_len (S : MM) : (ordL S).length = (S 41 12).toNat := by rw [ordL, List.length_reverse, ordR_len]
theorem SV.ins {S S' : MM} (h : SV S S') {n : Int} (hn : isPc S n) : ∀ R : List Int, (∀ x ∈ R, isPc S x) → insR S' n R = insR S n R
  | [], _ => rfl
  | e :: R, hR => by
    have he := hR e List.mem_cons_self
    obtain ⟨-, a1, a2, a3⟩ := h.2.2 n hn
    obtain ⟨-, b1, b2, b3⟩ := h.2.2 e he
    have : pgLt S' (S' 46 n) (S' 46 e) = pgLt S (S 46 n) (S 46 e) := by unfold pgLt; rw [a1, b1, a2, b2, a3, b3]
    rw [insR, insR, this, h.ins hn R (fun x hx => hR x (List.mem_cons_of_mem _ hx))]
theorem SV.oR {S S' : MM} (h : SV S S') : ∀ n : Nat, (n : Int) ≤ S 41 12 → ordR S' n = ordR S n
  | 0, _ => rfl
  | n + 1, hn => by
    rw [ordR, ordR, h.oR n (by omega)]
    exact h.ins (by unfold isPc; omega) _ (fun x hx => by rw [ordR_mem] at hx; unfold isPc; omega)
theorem SV.ord {S S' : MM} (h : SV S S') (hI : 0 ≤ S 41 12) : ordL S' = ordL S := by
  unfold ordL; rw [h.1, h.oR _ (by omega)]
