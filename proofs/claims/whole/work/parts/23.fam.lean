/-! changes, doubles, families, the order of pieces: what they are -/
def dpr (a b : List Int) : Nat → Nat → Nat
  | 0 => fun k => k
  | i + 1 => fun k => Nat.rec (i + 1) (fun k r => min (dpr a b i k + (if a.getD i 0 = b.getD k 0 then 0 else 1)) (1 + min (dpr a b i (k + 1)) r)) k
def edS (a b : List Int) : Nat := dpr a b a.length b.length
theorem dpr_0 (a b : List Int) (k : Nat) : dpr a b 0 k = k := rfl
theorem dpr_k0 (a b : List Int) (i : Nat) : dpr a b i 0 = i := by cases i <;> rfl
theorem dpr_ss (a b : List Int) (i k : Nat) : dpr a b (i + 1) (k + 1) = min (dpr a b i k + (if a.getD i 0 = b.getD k 0 then 0 else 1)) (1 + min (dpr a b i (k + 1)) (dpr a b (i + 1) k)) := rfl
theorem dpr_sym (a b : List Int) : ∀ i k : Nat, dpr a b i k = dpr b a k i
  | 0, k => by rw [dpr_0, dpr_k0]
  | i + 1, k => by
    induction k with
    | zero => rw [dpr_k0, dpr_0]
    | succ k ih =>
      have he : (if a.getD i 0 = b.getD k 0 then 0 else 1 : Nat) = (if b.getD k 0 = a.getD i 0 then 0 else 1) := by
        by_cases e : a.getD i 0 = b.getD k 0
        · rw [if_pos e, if_pos e.symm]
        · rw [if_neg e, if_neg (fun q => e q.symm)]
      rw [dpr_ss, dpr_ss, dpr_sym a b i k, dpr_sym a b i (k + 1), ih, he]
      omega
theorem edS_sym (a b : List Int) : edS a b = edS b a := dpr_sym a b _ _
/-- one word more is one change more: the counts of two beginnings differ by at most what they are longer -/
theorem dpr_ge (a b : List Int) : ∀ i k : Nat, i ≤ dpr a b i k + k ∧ k ≤ dpr a b i k + i
  | 0, k => by rw [dpr_0]; omega
  | i + 1, k => by
    induction k with
    | zero => rw [dpr_k0]; omega
    | succ k ih =>
      have h1 := dpr_ge a b i k
      have h2 := dpr_ge a b i (k + 1)
      rw [dpr_ss]
      have : 0 ≤ (if a.getD i 0 = b.getD k 0 then 0 else 1 : Nat) := Nat.zero_le _
      omega
theorem dpr_le (a b : List Int) : ∀ i k : Nat, dpr a b i k ≤ i + k
  | 0, k => by rw [dpr_0]; omega
  | i + 1, k => by
    induction k with
    | zero => rw [dpr_k0]; omega
    | succ k ih => rw [dpr_ss]; omega
def dblS (S : MM) (p q : Int) : Bool := decide (0 < (wl S p).length) && decide (0 < (wl S q).length) && decide (100 * (edS (wl S p) (wl S q) : Int) ≤ S 53 0 * (max (wl S p).length (wl S q).length : Nat))
theorem dblS_sym (S : MM) (p q : Int) : dblS S p q = dblS S q p := by
  unfold dblS
  rw [edS_sym, Nat.max_comm, Bool.and_comm (decide (0 < (wl S p).length))]
/-- who is reached by doubles in so many steps -/
def Rn (S : MM) : Nat → Int → Int → Prop
  | 0, p, q => p = q
  | n + 1, p, q => ∃ r, isPc S r ∧ Rn S n p r ∧ dblS S r q = true
noncomputable def famb (S : MM) (p q : Int) : Bool := @decide (isPc S q ∧ ∃ n, Rn S n p q) (Classical.propDecidable _)
theorem famb_iff {S : MM} {p q : Int} : famb S p q = true ↔ isPc S q ∧ ∃ n, Rn S n p q := by
  unfold famb; exact @decide_eq_true_iff _ (Classical.propDecidable _)
/-- a page ahead of a page by day, then paper -/
def pgLt (S : MM) (a b : Int) : Bool := if S 44 a = S 44 b then decide (S 43 a < S 43 b) else decide (S 44 a < S 44 b)
def aheadS (S : MM) (p q : Int) : Bool :=
  if S 44 (S 46 p) = S 44 (S 46 q) then (if S 43 (S 46 p) = S 43 (S 46 q) then decide (p < q) else decide (S 43 (S 46 p) < S 43 (S 46 q))) else decide (S 44 (S 46 p) < S 44 (S 46 q))
def fstN (S : MM) (f : Int → Bool) : Nat → Int
  | 0 => -1
  | n + 1 => if f n && (decide (fstN S f n < 0) || aheadS S n (fstN S f n)) then n else fstN S f n
noncomputable def firstS (S : MM) (p : Int) : Int := fstN S (famb S p) (S 41 12).toNat
noncomputable def famC (S : MM) (p : Int) : Int := cnN (famb S p) (S 41 12).toNat
/-- the pieces in order, the last one first -/
def insR (S : MM) (n : Int) : List Int → List Int
  | [] => [n]
  | e :: R => if pgLt S (S 46 n) (S 46 e) then e :: insR S n R else n :: e :: R
def ordR (S : MM) : Nat → List Int
  | 0 => []
  | n + 1 => insR S n (ordR S n)
def ordL (S : MM) : List Int := (ordR S (S 41 12).toNat).reverse
