/-! the words of a piece, as the loops gather them -/
def rowW (f : Int → Int) (a : Int) : Nat → List Int
  | 0 => []
  | n + 1 => rowW f a n ++ (if 0 ≤ f (a + n) then [f (a + n)] else [])
def blkW (g : Int → List Int) (t : Int) : Nat → List Int
  | 0 => []
  | n + 1 => blkW g t n ++ g (t + n)
def lineW (S : MM) (k line : Int) (n : Nat) : List Int := rowW (fun c => S 42 (60 * S 46 k + 10 * line + c)) (S 49 k) n
def linesW (S : MM) (k : Int) (n : Nat) : List Int := blkW (fun line => lineW S k line (S 50 k - S 49 k + 1).toNat) (S 47 k) n
def wl (S : MM) (k : Int) : List Int := linesW S k (S 48 k - S 47 k + 1).toNat
theorem rowW_len (f : Int → Int) (a : Int) : ∀ n : Nat, (rowW f a n).length ≤ n
  | 0 => Nat.le_refl 0
  | n + 1 => by have := rowW_len f a n; rw [rowW, List.length_append]; split <;> simp <;> omega
theorem blkW_len (g : Int → List Int) (t : Int) (b : Nat) (h : ∀ i, (g i).length ≤ b) : ∀ n : Nat, (blkW g t n).length ≤ n * b
  | 0 => by simp [blkW]
  | n + 1 => by have := blkW_len g t b h n; have := h (t + n); rw [blkW, List.length_append, Nat.add_mul]; omega
theorem rowW_s {f : Int → Int} {a c : Int} (h : a ≤ c) : rowW f a (c + 1 - a).toNat = rowW f a (c - a).toNat ++ (if 0 ≤ f c then [f c] else []) := by
  rw [show (c + 1 - a).toNat = (c - a).toNat + 1 by omega, rowW, show a + ((c - a).toNat : Int) = c by omega]
theorem blkW_s {g : Int → List Int} {t i : Int} (h : t ≤ i) : blkW g t (i + 1 - t).toNat = blkW g t (i - t).toNat ++ g i := by
  rw [show (i + 1 - t).toNat = (i - t).toNat + 1 by omega, blkW, show t + ((i - t).toNat : Int) = i by omega]
theorem rowW_mem {f : Int → Int} {a : Int} {P : Int → Prop} (h : ∀ i, 0 ≤ f i → P (f i)) : ∀ n : Nat, ∀ x ∈ rowW f a n, P x
  | 0, x, hx => by simp [rowW] at hx
  | n + 1, x, hx => by
    rw [rowW, List.mem_append] at hx
    rcases hx with hx | hx
    · exact rowW_mem h n x hx
    · split at hx
      · rename_i h2; simp at hx; rw [hx]; exact h _ h2
      · simp at hx
theorem blkW_mem {g : Int → List Int} {t : Int} {P : Int → Prop} (h : ∀ i, ∀ x ∈ g i, P x) : ∀ n : Nat, ∀ x ∈ blkW g t n, P x
  | 0, x, hx => by simp [blkW] at hx
  | n + 1, x, hx => by
    rw [blkW, List.mem_append] at hx
    rcases hx with hx | hx
    · exact blkW_mem h n x hx
    · exact h _ x hx
theorem wl_mem {S : MM} (hI : SInv S) (k : Int) : ∀ x ∈ wl S k, 0 ≤ x ∧ x ≤ 99 :=
  blkW_mem (fun line => rowW_mem (fun i h => by have := hI.wd (60 * S 46 k + 10 * line + i); omega) _) _
theorem lineW_len (S : MM) (k line : Int) (n : Nat) : (lineW S k line n).length ≤ n := rowW_len _ _ _
theorem linesW_len {S : MM} (hI : SInv S) (k : Int) (n : Nat) : (linesW S k n).length ≤ n * 10 :=
  blkW_len _ _ 10 (fun i => by have := lineW_len S k i (S 50 k - S 49 k + 1).toNat; have := hI.ed k; omega) n
theorem wl_len {S : MM} (hI : SInv S) (k : Int) : (wl S k).length ≤ 60 := by
  have := linesW_len hI k (S 48 k - S 47 k + 1).toNat
  have := hI.ed k
  unfold wl
  omega
/-- the row's beginning is the list -/
def AL (M : MM) (a : Int) (W : List Int) : Prop := ∀ j : Nat, j < W.length → M a j = W.getD j 0
theorem al_nil (M : MM) (a : Int) : AL M a [] := fun j h => by simp at h
theorem al_snoc {M : MM} {a : Int} {W : List Int} (h : AL M a W) (v : Int) : AL (up M a (W.length : Int) v) a (W ++ [v]) := by
  intro j hj
  rw [List.length_append] at hj
  simp only [up_ap, List.getD_eq_getElem?_getD]
  by_cases e : j = W.length
  · subst e; simp
  · have hj' : j < W.length := by simp at hj; omega
    rw [if_neg (by omega), List.getElem?_append_left hj', h j hj', List.getD_eq_getElem?_getD]
theorem al_fr {M M' : MM} {a : Int} {W : List Int} (h : AL M a W) (hf : ∀ i, M' a i = M a i) : AL M' a W := fun j hj => by rw [hf]; exact h j hj
theorem al_at {M : MM} {a : Int} {W : List Int} (h : AL M a W) {i : Int} (h0 : 0 ≤ i) (h1 : i < W.length) : M a i = W.getD i.toNat 0 := by
  have := h i.toNat (by omega)
  rwa [show ((i.toNat : Nat) : Int) = i by omega] at this
/-- what a call may write -/
def Fo (F : Int → Int → Prop) (M M' : MM) : Prop := ∀ x i, ¬ F x i → M' x i = M x i
theorem Fo.rfl' (F : Int → Int → Prop) (M : MM) : Fo F M M := fun _ _ _ => rfl
theorem Fo.tr {F : Int → Int → Prop} {M M1 M2 : MM} (h1 : Fo F M M1) (h2 : Fo F M1 M2) : Fo F M M2 := fun x i h => (h2 x i h).trans (h1 x i h)
theorem fo_up {F : Int → Int → Prop} {M M1 : MM} (h : Fo F M M1) {a i : Int} (v : Int) (hF : F a i) : Fo F M (up M1 a i v) := fun x j hx => by
  rw [up_ap, if_neg (fun q => hx (by rw [q.1, q.2]; exact hF))]; exact h x j hx
theorem Fo.mono {F F2 : Int → Int → Prop} {M M' : MM} (h : Fo F M M') (hF : ∀ x i, F x i → F2 x i) : Fo F2 M M' := fun x i hx => h x i (fun q => hx (hF x i q))
/-- a write into the model's work cells keeps the agreement -/
def WK (F : Int → Int → Prop) : Prop := ∀ x i, F x i → PA x = false ∧ (x = 41 → PF i = false)
theorem Fo.ag {F : Int → Int → Prop} {S M M' : MM} (h : Fo F M M') (hW : WK F) (hA : Ag S M) : Ag S M' := by
  refine ⟨fun x i hx => ?_, fun i hi => ?_⟩
  · rw [h x i (fun q => by have := (hW x i q).1; rw [hx] at this; cases this)]; exact hA.1 x i hx
  · rw [h 41 i (fun q => by have := (hW 41 i q).2 rfl; rw [hi] at this; cases this)]; exact hA.2 i hi
theorem Fo.frm {F : Int → Int → Prop} {M M' : MM} (h : Fo F M M') (hF : ∀ x i, F x i → 41 ≤ x ∧ x ≤ 83) : FrM M M' := fun x i hx => h x i (fun q => by have := hF x i q; omega)
def op_word (S : MM) (a i : Int) : Int × MM := (if isPc S a then (if 0 ≤ i ∧ i < (wl S a).length then (wl S a).getD i.toNat 0 else -6) else -1, S)
theorem rowW_cg {f g : Int → Int} {a : Int} : ∀ n : Nat, (∀ i, a ≤ i → i < a + n → f i = g i) → rowW f a n = rowW g a n
  | 0, _ => rfl
  | n + 1, h => by rw [rowW, rowW, rowW_cg n (fun i h1 h2 => h i h1 (by omega)), h (a + n) (by omega) (by omega)]
theorem blkW_cg {f g : Int → List Int} {a : Int} : ∀ n : Nat, (∀ i, a ≤ i → i < a + n → f i = g i) → blkW f a n = blkW g a n
  | 0, _ => rfl
  | n + 1, h => by rw [blkW, blkW, blkW_cg n (fun i h1 h2 => h i h1 (by omega)), h (a + n) (by omega) (by omega)]
theorem wl_cg {S S' : MM} {k : Int} (hI : SInv S) (h46 : S' 46 k = S 46 k) (h47 : S' 47 k = S 47 k) (h48 : S' 48 k = S 48 k) (h49 : S' 49 k = S 49 k) (h50 : S' 50 k = S 50 k) (h42 : ∀ i, 0 ≤ i → i < 60 → S' 42 (60 * S 46 k + i) = S 42 (60 * S 46 k + i)) : wl S' k = wl S k := by
  have he := hI.ed k
  unfold wl linesW lineW
  rw [h46, h47, h48, h49, h50]
  refine blkW_cg _ (fun line h1 h2 => rowW_cg _ (fun c h3 h4 => ?_))
  rw [Int.add_assoc]
  exact h42 _ (by omega) (by omega)
