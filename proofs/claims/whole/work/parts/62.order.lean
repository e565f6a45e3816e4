/-! ORDER -/
def cpyS (S : MM) (n k : Int) : MM := fun x i => if x = 56 ∧ 40 * n ≤ i ∧ i < 40 * n + k then S 56 (400 + (i - 40 * n)) else S x i
def ordS (S : MM) (c p f u m o : Int) : MM :=
  up (up (up (up (up (up (up (up (up (cpyS S (S 41 26) (S 57 10)) 57 (S 41 26) (S 57 10)) 57 10 0) 58 (S 41 26) c) 59 (S 41 26) p) 60 (S 41 26) f) 61 (S 41 26) u) 62 (S 41 26) m) 63 (S 41 26) o) 41 26 (S 41 26 + 1)
def op_order (S : MM) (c p f u m o : Int) : Int × MM :=
  if (0 ≤ c ∧ c ≤ 5) ∧ (0 ≤ p ∧ p ≤ 1023) ∧ (0 ≤ f ∧ f ≤ u ∧ u ≤ 99) ∧ 0 ≤ m ∧ m ≤ 20 then
    if S 41 26 = 10 then (-4, S) else if 0 ≤ fltS S 10 then (-5, S) else (S 41 26, ordS S c p f u m o)
  else (-2, S)
theorem cpyS_0 (S : MM) (n : Int) : cpyS S n 0 = S := by
  funext x i; unfold cpyS; rw [if_neg (by omega)]
theorem cpyS_s {S : MM} {n k : Int} (hk : 0 ≤ k) : cpyS S n (k + 1) = up (cpyS S n k) 56 (40 * n + k) (S 56 (400 + k)) := by
  funext x i
  by_cases h : x = 56 ∧ i = 40 * n + k
  · rw [h.1, h.2, up_eq]; unfold cpyS
    rw [if_pos (by omega)]; congr 1; omega
  · have e : up (cpyS S n k) 56 (40 * n + k) (S 56 (400 + k)) x i = cpyS S n k x i := by
      by_cases h1 : x = 56
      · rw [h1, up_ni (fun q => h ⟨h1, q⟩)]
      · exact up_na h1
    rw [e]; unfold cpyS
    by_cases h2 : x = 56 ∧ 40 * n ≤ i ∧ i < 40 * n + k
    · rw [if_pos h2, if_pos (by omega)]
    · rw [if_neg h2, if_neg (by omega)]
