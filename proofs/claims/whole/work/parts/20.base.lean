/-! BASE of the pure part: loops as recursions, agreement of the model's memory with the abstract state S, frames -/
theorem up_ind {P : Int → Prop} (n : Int) (h : ∀ i, i ≤ n → (∀ j, i < j → j ≤ n → P j) → P i) : ∀ i, i ≤ n → P i := by
  have key : ∀ (k : Nat) (i : Int), i ≤ n → (n - i).toNat ≤ k → P i := by
    intro k
    induction k with
    | zero => intro i hi hk; exact h i hi (fun j h1 h2 => by omega)
    | succ k ih => intro i hi hk; exact h i hi (fun j h1 h2 => ih j h2 (by omega))
  exact fun i hi => key _ i hi (Nat.le_refl _)
theorem dn_ind {P : Int → Prop} (n : Int) (h : ∀ i, n ≤ i → (∀ j, j < i → n ≤ j → P j) → P i) : ∀ i, n ≤ i → P i := by
  have key : ∀ (k : Nat) (i : Int), n ≤ i → (i - n).toNat ≤ k → P i := by
    intro k
    induction k with
    | zero => intro i hi hk; exact h i hi (fun j h1 h2 => by omega)
    | succ k ih => intro i hi hk; exact h i hi (fun j h1 h2 => ih j h2 (by omega))
  exact fun i hi => key _ i hi (Nat.le_refl _)
def exN (f : Int → Bool) : Nat → Bool
  | 0 => false
  | n + 1 => exN f n || f n
def cnN (f : Int → Bool) : Nat → Int
  | 0 => 0
  | n + 1 => cnN f n + (if f n then 1 else 0)
def smN (f : Int → Int) : Nat → Int
  | 0 => 0
  | n + 1 => smN f n + f n
def ftN (f : Int → Bool) : Nat → List Int
  | 0 => []
  | n + 1 => ftN f n ++ (if f n then [(n : Int)] else [])
theorem exN_iff (f : Int → Bool) : ∀ n : Nat, exN f n = true ↔ ∃ k : Int, 0 ≤ k ∧ k < n ∧ f k = true
  | 0 => by simp [exN]; intro k h1 h2; omega
  | n + 1 => by
    rw [exN, Bool.or_eq_true, exN_iff f n]
    constructor
    · rintro (⟨k, h1, h2, h3⟩ | h)
      · exact ⟨k, h1, by omega, h3⟩
      · exact ⟨n, by omega, by omega, h⟩
    · rintro ⟨k, h1, h2, h3⟩
      by_cases e : k = n
      · right; rw [← e]; exact h3
      · left; exact ⟨k, h1, by omega, h3⟩
theorem cnN_rng (f : Int → Bool) : ∀ n : Nat, 0 ≤ cnN f n ∧ cnN f n ≤ n
  | 0 => by simp [cnN]
  | n + 1 => by have := cnN_rng f n; rw [cnN]; split <;> omega
theorem exN_congr {f g : Int → Bool} : ∀ n : Nat, (∀ k : Int, 0 ≤ k → k < n → f k = g k) → exN f n = exN g n
  | 0, _ => rfl
  | n + 1, h => by rw [exN, exN, exN_congr n (fun k h1 h2 => h k h1 (by omega)), h n (by omega) (by omega)]
theorem cnN_congr {f g : Int → Bool} : ∀ n : Nat, (∀ k : Int, 0 ≤ k → k < n → f k = g k) → cnN f n = cnN g n
  | 0, _ => rfl
  | n + 1, h => by rw [cnN, cnN, cnN_congr n (fun k h1 h2 => h k h1 (by omega)), h n (by omega) (by omega)]
theorem smN_congr {f g : Int → Int} : ∀ n : Nat, (∀ k : Int, 0 ≤ k → k < n → f k = g k) → smN f n = smN g n
  | 0, _ => rfl
  | n + 1, h => by rw [smN, smN, smN_congr n (fun k h1 h2 => h k h1 (by omega)), h n (by omega) (by omega)]
theorem ftN_congr {f g : Int → Bool} : ∀ n : Nat, (∀ k : Int, 0 ≤ k → k < n → f k = g k) → ftN f n = ftN g n
  | 0, _ => rfl
  | n + 1, h => by rw [ftN, ftN, ftN_congr n (fun k h1 h2 => h k h1 (by omega)), h n (by omega) (by omega)]
theorem exN_s {f : Int → Bool} {i : Int} (h : 0 ≤ i) : exN f (i + 1).toNat = (exN f i.toNat || f i) := by
  rw [show (i + 1).toNat = i.toNat + 1 by omega, exN, show ((i.toNat : Nat) : Int) = i by omega]
theorem cnN_s {f : Int → Bool} {i : Int} (h : 0 ≤ i) : cnN f (i + 1).toNat = cnN f i.toNat + (if f i then 1 else 0) := by
  rw [show (i + 1).toNat = i.toNat + 1 by omega, cnN, show ((i.toNat : Nat) : Int) = i by omega]
theorem smN_s {f : Int → Int} {i : Int} (h : 0 ≤ i) : smN f (i + 1).toNat = smN f i.toNat + f i := by
  rw [show (i + 1).toNat = i.toNat + 1 by omega, smN, show ((i.toNat : Nat) : Int) = i by omega]
theorem ftN_s {f : Int → Bool} {i : Int} (h : 0 ≤ i) : ftN f (i + 1).toNat = ftN f i.toNat ++ (if f i then [i] else []) := by
  rw [show (i + 1).toNat = i.toNat + 1 by omega, ftN, show ((i.toNat : Nat) : Int) = i by omega]
def bi (b : Bool) : Int := if b then 1 else 0
theorem bi_t : bi true = 1 := rfl
theorem bi_f : bi false = 0 := rfl
theorem bi_01 (b : Bool) : bi b = 0 ∨ bi b = 1 := by cases b <;> simp [bi]
theorem bi_0 {b : Bool} : bi b = 0 ↔ b = false := by cases b <;> simp [bi]
theorem bi_1 {b : Bool} : bi b = 1 ↔ b = true := by cases b <;> simp [bi]
/-! the model's memory against the abstract state -/
def PA (a : Int) : Bool := (42 ≤ a && a ≤ 53) || (56 ≤ a && a ≤ 63) || a == 72 || a == 73 || (77 ≤ a && a ≤ 79) || a == 83
def PF (i : Int) : Bool := i == 4 || i == 12 || i == 26
def Ag (S M : MM) : Prop := (∀ a i, PA a = true → M a i = S a i) ∧ (∀ i, PF i = true → M 41 i = S 41 i)
theorem Ag.rfl' (S : MM) : Ag S S := ⟨fun _ _ _ => rfl, fun _ _ => rfl⟩
theorem ag_up {S M : MM} (h : Ag S M) (a i v : Int) : Ag (up S a i v) (up M a i v) := by
  refine ⟨fun b j hb => ?_, fun j hj => ?_⟩
  · simp only [up]; split
    · rfl
    · exact h.1 b j hb
  · simp only [up]; split
    · rfl
    · exact h.2 j hj
/-- a write into what is only for work -/
theorem ag_sc {S M : MM} (h : Ag S M) {a i : Int} (v : Int) (hs : PA a = false ∧ (a = 41 → PF i = false)) : Ag S (up M a i v) := by
  refine ⟨fun b j hb => ?_, fun j hj => ?_⟩
  · simp only [up]; rw [if_neg]
    · exact h.1 b j hb
    · intro q; rw [q.1] at hb; rw [hb] at hs; cases hs.1
  · simp only [up]; rw [if_neg]
    · exact h.2 j hj
    · intro q; have := hs.2 q.1.symm; rw [← q.2, hj] at this; cases this
/-- nothing outside the model's cells -/
def FrM (M M' : MM) : Prop := ∀ a i, (a < 41 ∨ 83 < a) → M' a i = M a i
theorem FrM.rfl' (M : MM) : FrM M M := fun _ _ _ => rfl
theorem FrM.tr {M M1 M2 : MM} (h1 : FrM M M1) (h2 : FrM M1 M2) : FrM M M2 := fun a i h => (h2 a i h).trans (h1 a i h)
theorem frm_up {M M1 : MM} (h : FrM M M1) {a i : Int} (v : Int) (ha : 41 ≤ a ∧ a ≤ 83) : FrM M (up M1 a i v) := fun b j hb => by
  simp only [up]; rw [if_neg (by omega)]; exact h b j hb
def FrC (M M' : MM) : Prop := ∀ a i, (41 ≤ a ∧ a ≤ 83) → M' a i = M a i
theorem FrC.rfl' (M : MM) : FrC M M := fun _ _ _ => rfl
theorem FrC.tr {M M1 M2 : MM} (h1 : FrC M M1) (h2 : FrC M1 M2) : FrC M M2 := fun a i h => (h2 a i h).trans (h1 a i h)
theorem frc_up {M M1 : MM} (h : FrC M M1) {a i : Int} (v : Int) (ha : a < 41 ∨ 83 < a) : FrC M (up M1 a i v) := fun b j hb => by
  simp only [up]; rw [if_neg (by omega)]; exact h b j hb
theorem FrC.ag {S M M' : MM} (h : FrC M M') (hA : Ag S M) : Ag S M' := ⟨fun a i ha => by
    rw [h a i (by simp [PA] at ha; omega)]; exact hA.1 a i ha, fun i hi => by rw [h 41 i (by omega)]; exact hA.2 i hi⟩
theorem Ag.all {S M : MM} (h : Ag S M) : M 41 4 = S 41 4 ∧ M 41 12 = S 41 12 ∧ M 41 26 = S 41 26 ∧ (∀ i, M 42 i = S 42 i) ∧ (∀ i, M 43 i = S 43 i) ∧ (∀ i, M 44 i = S 44 i) ∧ (∀ i, M 45 i = S 45 i) ∧ (∀ i, M 46 i = S 46 i) ∧ (∀ i, M 47 i = S 47 i) ∧ (∀ i, M 48 i = S 48 i) ∧ (∀ i, M 49 i = S 49 i) ∧ (∀ i, M 50 i = S 50 i) ∧ (∀ i, M 51 i = S 51 i) ∧ (∀ i, M 52 i = S 52 i) ∧ (∀ i, M 53 i = S 53 i) ∧ (∀ i, M 56 i = S 56 i) ∧ (∀ i, M 57 i = S 57 i) ∧ (∀ i, M 58 i = S 58 i) ∧ (∀ i, M 59 i = S 59 i) ∧ (∀ i, M 60 i = S 60 i) ∧ (∀ i, M 61 i = S 61 i) ∧ (∀ i, M 62 i = S 62 i) ∧ (∀ i, M 63 i = S 63 i) ∧ (∀ i, M 72 i = S 72 i) ∧ (∀ i, M 73 i = S 73 i) ∧ (∀ i, M 77 i = S 77 i) ∧ (∀ i, M 78 i = S 78 i) ∧ (∀ i, M 79 i = S 79 i) ∧ (∀ i, M 83 i = S 83 i) := ⟨h.2 4 rfl, h.2 12 rfl, h.2 26 rfl, fun i => h.1 42 i rfl, fun i => h.1 43 i rfl, fun i => h.1 44 i rfl, fun i => h.1 45 i rfl, fun i => h.1 46 i rfl, fun i => h.1 47 i rfl, fun i => h.1 48 i rfl, fun i => h.1 49 i rfl, fun i => h.1 50 i rfl, fun i => h.1 51 i rfl, fun i => h.1 52 i rfl, fun i => h.1 53 i rfl, fun i => h.1 56 i rfl, fun i => h.1 57 i rfl, fun i => h.1 58 i rfl, fun i => h.1 59 i rfl, fun i => h.1 60 i rfl, fun i => h.1 61 i rfl, fun i => h.1 62 i rfl, fun i => h.1 63 i rfl, fun i => h.1 72 i rfl, fun i => h.1 73 i rfl, fun i => h.1 77 i rfl, fun i => h.1 78 i rfl, fun i => h.1 79 i rfl, fun i => h.1 83 i rfl⟩
