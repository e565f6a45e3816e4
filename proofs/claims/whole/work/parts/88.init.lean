/-! THE MAKERS: from the fresh heap to the first state -/
def wN (k : Nat) : NS := (k, fun x => if 1 ≤ x ∧ x < (k : Int) then shF x else (0, 0))
theorem wN_at {k : Nat} {x : Int} (h1 : 1 ≤ x) (h2 : x < k) : (wN k).2 x = shF x := if_pos ⟨h1, h2⟩
theorem wN_s {k t n : Nat} (h0 : 0 < k) (h : shF (k : Int) = (t, n)) : (((wN k).1 + 1, us (wN k).2 ((wN k).1 : Int) t n) : NS) = wN (k + 1) := by
  have e : us (wN k).2 ((wN k).1 : Int) t n = (wN (k + 1)).2 := funext (fun x => by
    show (if x = (k : Int) then (t, n) else if 1 ≤ x ∧ x < (k : Int) then shF x else (0, 0)) = if 1 ≤ x ∧ x < ((k + 1 : Nat) : Int) then shF x else (0, 0)
    by_cases hx : x = k
    · rw [if_pos hx, if_pos (by omega), hx, h]
    · rw [if_neg hx]
      by_cases h1 : 1 ≤ x ∧ x < (k : Int)
      · rw [if_pos h1, if_pos (by omega)]
      · rw [if_neg h1, if_neg (by omega)])
  rw [e]; rfl
theorem wst {k t n : Nat} {P : NS → Prop} (h0 : 0 < k) (h : shF (k : Int) = (t, n)) (hP : P (wN (k + 1))) : ∀ w2 : NS, w2 = ((wN k).1 + 1, us (wN k).2 ((wN k).1 : Int) t n) → P w2 := fun w2 e => by
  rw [e, wN_s h0 h]; exact hP
def EX (w : NS) (M : MM) : Int → NS → MM → Prop := fun _ w' M' => w = w' ∧ M = M'
def ups (M : MM) : List (Int × Int × Int) → MM
  | [] => M
  | e :: L => ups (up M e.1 e.2.1 e.2.2) L
theorem ups_row {x : Int} : ∀ (L : List (Int × Int × Int)) (M : MM), (∀ e ∈ L, x ≠ e.1) → ups M L x = M x
  | [], _, _ => rfl
  | e :: L, M, h => by
    rw [ups, ups_row L _ (fun e he => h e (List.mem_cons_of_mem _ he))]
    exact up_row (h e (List.mem_cons_self ..))
def fil (M : MM) (n : Int) : MM := fun x i => if x = 42 ∧ 0 ≤ i ∧ i < n then -6 else M x i
theorem fil_row {M : MM} {n x : Int} (h : x ≠ 42) : fil M n x = M x := funext (fun i => if_neg (fun q => h q.1))
theorem fil_0 (M : MM) : fil M 0 = M := by funext x i; unfold fil; rw [if_neg (by omega)]
theorem fil_s {M : MM} {n : Int} (hn : 0 ≤ n) : up (fil M n) 42 n (-6) = fil M (n + 1) := by
  funext x i
  unfold up fil
  by_cases h : x = 42 ∧ i = n
  · rw [if_pos h, if_pos (by omega)]
  · rw [if_neg h]
    by_cases h2 : x = 42 ∧ 0 ≤ i ∧ i < n
    · rw [if_pos h2, if_pos (by omega)]
    · rw [if_neg h2, if_neg (by omega)]
def M00 : MM := fun _ _ => 0
def L1 : List (Int × Int × Int) := [(2, 0, 20), (2, 1, 5), (2, 2, 10), (2, 3, 500), (2, 4, 100), (2, 5, 3), (2, 6, 2), (2, 7, 1), (2, 8, 0), (1, 0, 2), (1, 1, 3), (1, 2, 0), (1, 3, 4), (1, 4, 0), (1, 5, 5), (1, 6, 6), (1, 7, 0), (7, 0, 8), (7, 1, 0), (1, 8, 7), (9, 0, 0), (9, 1, 10), (9, 2, 11), (1, 9, 9), (1, 10, 12), (1, 11, 0), (1, 12, 13), (14, 0, 15), (14, 1, 16), (14, 2, 0), (14, 3, 17), (14, 4, 18), (1, 13, 14), (1, 14, 19), (20, 0, 21), (20, 1, 22), (20, 2, 23), (1, 15, 20), (1, 16, 24), (25, 0, -6), (25, 1, 26), (13, 0, 25), (27, 0, -6), (27, 1, 28), (13, 1, 27), (29, 0, -6), (29, 1, 30), (13, 2, 29), (31, 0, -6), (31, 1, 32), (13, 3, 31), (33, 0, 50), (33, 1, 100), (33, 2, 34), (33, 3, 0), (19, 0, 33), (35, 0, 50), (35, 1, 100), (35, 2, 36), (35, 3, 0), (19, 1, 35), (37, 0, 50), (37, 1, 100), (37, 2, 38), (37, 3, 0), (19, 2, 37), (39, 0, 50), (39, 1, 100), (39, 2, 40), (39, 3, 0), (19, 3, 39)]
def LA : List (Int × Int × Int) := [(41, 0, 42), (41, 1, 43), (41, 2, 44), (41, 3, 45), (41, 5, 46), (41, 6, 47), (41, 7, 48), (41, 8, 49), (41, 9, 50), (41, 10, 51), (41, 11, 52), (41, 13, 53), (41, 14, 54), (41, 15, 55), (41, 18, 56), (41, 19, 57), (41, 20, 58), (41, 21, 59), (41, 22, 60), (41, 23, 61), (41, 24, 62), (41, 25, 63), (41, 27, 64), (41, 28, 65), (41, 29, 66), (41, 31, 67), (41, 32, 68), (41, 33, 69), (41, 35, 70), (41, 37, 71), (41, 38, 72), (41, 39, 73), (41, 40, 74), (41, 41, 75), (41, 43, 76), (41, 44, 77), (41, 45, 78), (41, 46, 79), (41, 47, 80), (41, 48, 81), (41, 49, 82), (41, 50, 83)]
def LB : List (Int × Int × Int) := [(53, 0, 20), (53, 1, 5), (53, 2, 10), (53, 3, 500), (53, 4, 100), (53, 5, 3), (53, 6, 2), (53, 7, 1), (72, 0, -6), (72, 1, -6), (72, 2, -6), (72, 3, -6), (78, 0, 50), (78, 1, 100), (78, 2, 50), (78, 3, 100), (78, 4, 50), (78, 5, 100), (78, 6, 50), (78, 7, 100)]
def M01 : MM := ups M00 L1
def M02 : MM := ups (fil (ups M01 LA) 480) LB
theorem ce_X8 {G : GP} {l : Launch} {M : MM} {k : Nat} (hk : 0 < k) (h0 : shF ((k : Nat) : Int) = (9, 2)) (h1 : shF ((k + 1 : Nat) : Int) = (12, 40)) : CT_X8_init G l [(2, ((wN (k)).1 : Int))] (wN (k + 1)) M (EX (wN (k + 1 + 1)) (up (up (M) ((wN (k)).1 : Int) 0 ((wN (k + 1)).1 : Int)) ((wN (k)).1 : Int) 1 0)) := by
  refine E_X8_init (fun X hX C => ?_)
  have q : ((wN k).1 : Int) < ((wN (k + 1)).1 : Int) := by show (k : Int) < ((k + 1 : Nat) : Int); omega
  refine B_X8_init_0 (rc := 0) (rs := 0) C ⟨by rw [← h0]; exact wN_at (by show 1 ≤ (k : Int); omega) q, ?_⟩
  repeat (first | exact ⟨rfl, rfl⟩ | refine ⟨q, ?_⟩ | refine wst (Nat.succ_pos _) (by assumption) ?_ | rintro _ rfl)
theorem ce_X1 {G : GP} {l : Launch} {M : MM} {k : Nat} (hk : 0 < k) (h0 : shF ((k : Nat) : Int) = (2, 3)) (h1 : shF ((k + 1 : Nat) : Int) = (18, 24)) (h2 : shF ((k + 1 + 1 : Nat) : Int) = (12, 61)) : CT_X1_init G l [(2, ((wN (k)).1 : Int))] (wN (k + 1)) M (EX (wN (k + 1 + 1 + 1)) (up (up (up (M) ((wN (k)).1 : Int) 0 0) ((wN (k)).1 : Int) 1 ((wN (k + 1)).1 : Int)) ((wN (k)).1 : Int) 2 ((wN (k + 1 + 1)).1 : Int))) := by
  refine E_X1_init (fun X hX C => ?_)
  have q : ((wN k).1 : Int) < ((wN (k + 1)).1 : Int) := by show (k : Int) < ((k + 1 : Nat) : Int); omega
  refine B_X1_init_0 (rc := 0) (rs := 0) C ⟨by rw [← h0]; exact wN_at (by show 1 ≤ (k : Int); omega) q, ?_⟩
  repeat (first | exact ⟨rfl, rfl⟩ | refine ⟨q, ?_⟩ | refine wst (Nat.succ_pos _) (by assumption) ?_ | rintro _ rfl)
theorem ce_X0 {G : GP} {l : Launch} {M : MM} {k : Nat} (hk : 0 < k) (h0 : shF ((k : Nat) : Int) = (1, 5)) (h1 : shF ((k + 1 : Nat) : Int) = (12, 9)) (h2 : shF ((k + 1 + 1 : Nat) : Int) = (12, 9)) (h3 : shF ((k + 1 + 1 + 1 : Nat) : Int) = (12, 9)) (h4 : shF ((k + 1 + 1 + 1 + 1 : Nat) : Int) = (12, 512)) : CT_X0_init G l [(2, ((wN (k)).1 : Int))] (wN (k + 1)) M (EX (wN (k + 1 + 1 + 1 + 1 + 1)) (up (up (up (up (up (M) ((wN (k)).1 : Int) 0 ((wN (k + 1)).1 : Int)) ((wN (k)).1 : Int) 1 ((wN (k + 1 + 1)).1 : Int)) ((wN (k)).1 : Int) 2 0) ((wN (k)).1 : Int) 3 ((wN (k + 1 + 1 + 1)).1 : Int)) ((wN (k)).1 : Int) 4 ((wN (k + 1 + 1 + 1 + 1)).1 : Int))) := by
  refine E_X0_init (fun X hX C => ?_)
  have q : ((wN k).1 : Int) < ((wN (k + 1)).1 : Int) := by show (k : Int) < ((k + 1 : Nat) : Int); omega
  refine B_X0_init_0 (rc := 0) (rs := 0) C ⟨by rw [← h0]; exact wN_at (by show 1 ≤ (k : Int); omega) q, ?_⟩
  repeat (first | exact ⟨rfl, rfl⟩ | refine ⟨q, ?_⟩ | refine wst (Nat.succ_pos _) (by assumption) ?_ | rintro _ rfl)
theorem ce_X5 {G : GP} {l : Launch} {M : MM} {k : Nat} (hk : 0 < k) (h0 : shF ((k : Nat) : Int) = (6, 3)) (h1 : shF ((k + 1 : Nat) : Int) = (12, 8)) (h2 : shF ((k + 1 + 1 : Nat) : Int) = (13, 256)) (h3 : shF ((k + 1 + 1 + 1 : Nat) : Int) = (13, 256)) : CT_X5_init G l [(2, ((wN (k)).1 : Int))] (wN (k + 1)) M (EX (wN (k + 1 + 1 + 1 + 1)) (up (up (up (M) ((wN (k)).1 : Int) 0 ((wN (k + 1)).1 : Int)) ((wN (k)).1 : Int) 1 ((wN (k + 1 + 1)).1 : Int)) ((wN (k)).1 : Int) 2 ((wN (k + 1 + 1 + 1)).1 : Int))) := by
  refine E_X5_init (fun X hX C => ?_)
  have q : ((wN k).1 : Int) < ((wN (k + 1)).1 : Int) := by show (k : Int) < ((k + 1 : Nat) : Int); omega
  refine B_X5_init_0 (rc := 0) (rs := 0) C ⟨by rw [← h0]; exact wN_at (by show 1 ≤ (k : Int); omega) q, ?_⟩
  repeat (first | exact ⟨rfl, rfl⟩ | refine ⟨q, ?_⟩ | refine wst (Nat.succ_pos _) (by assumption) ?_ | rintro _ rfl)
theorem ce_X2 {G : GP} {l : Launch} {M : MM} {k : Nat} (hk : 0 < k) (h0 : shF ((k : Nat) : Int) = (3, 2)) (h1 : shF ((k + 1 : Nat) : Int) = (12, 100)) : CT_X2_init G l [(2, ((wN (k)).1 : Int))] (wN (k + 1)) M (EX (wN (k + 1 + 1)) (up (up (M) ((wN (k)).1 : Int) 0 (-6)) ((wN (k)).1 : Int) 1 ((wN (k + 1)).1 : Int))) := by
  refine E_X2_init (fun X hX C => ?_)
  have q : ((wN k).1 : Int) < ((wN (k + 1)).1 : Int) := by show (k : Int) < ((k + 1 : Nat) : Int); omega
  refine B_X2_init_0 (rc := 0) (rs := 0) C ⟨by rw [← h0]; exact wN_at (by show 1 ≤ (k : Int); omega) q, ?_⟩
  repeat (first | exact ⟨rfl, rfl⟩ | refine ⟨q, ?_⟩ | refine wst (Nat.succ_pos _) (by assumption) ?_ | rintro _ rfl)
theorem ce_X7 {G : GP} {l : Launch} {M : MM} {k : Nat} (hk : 0 < k) (h0 : shF ((k : Nat) : Int) = (8, 4)) (h1 : shF ((k + 1 : Nat) : Int) = (12, 10)) : CT_X7_init G l [(2, ((wN (k)).1 : Int))] (wN (k + 1)) M (EX (wN (k + 1 + 1)) (up (up (up (up (M) ((wN (k)).1 : Int) 0 50) ((wN (k)).1 : Int) 1 100) ((wN (k)).1 : Int) 2 ((wN (k + 1)).1 : Int)) ((wN (k)).1 : Int) 3 0)) := by
  refine E_X7_init (fun X hX C => ?_)
  have q : ((wN k).1 : Int) < ((wN (k + 1)).1 : Int) := by show (k : Int) < ((k + 1 : Nat) : Int); omega
  refine B_X7_init_0 (rc := 0) (rs := 0) C ⟨by rw [← h0]; exact wN_at (by show 1 ≤ (k : Int); omega) q, ?_⟩
  repeat (first | exact ⟨rfl, rfl⟩ | refine ⟨q, ?_⟩ | refine wst (Nat.succ_pos _) (by assumption) ?_ | rintro _ rfl)
