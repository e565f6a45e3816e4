/-! THE FIRST STATE keeps all bounds -/
theorem m2_z {x : Int} (h : ∀ e ∈ L1 ++ LA ++ LB, x ≠ e.1) (h42 : x ≠ 42) (i : Int) : M02 x i = 0 := by
  unfold M02 M01
  rw [ups_row LB _ (fun e he => h e (List.mem_append_right _ he)), fil_row h42, ups_row LA _ (fun e he => h e (List.mem_append_left _ (List.mem_append_right _ he))), ups_row L1 _ (fun e he => h e (List.mem_append_left _ (List.mem_append_left _ he)))]
  rfl
theorem fin_int {P : Int → Prop} {n : Nat} (h : ∀ i : Fin n, P ((i.val : Nat) : Int)) : ∀ x : Int, 0 ≤ x → x < n → P x := fun x h0 h1 => by
  have := h ⟨x.toNat, by omega⟩
  rw [show ((x.toNat : Nat) : Int) = x by omega] at this
  exact this
theorem ups_out {x i : Int} : ∀ (L : List (Int × Int × Int)) (M : MM), (∀ e ∈ L, x = e.1 → i ≠ e.2.1) → ups M L x i = M x i
  | [], _, _ => rfl
  | e :: L, M, h => by
    rw [ups, ups_out L _ (fun e he => h e (List.mem_cons_of_mem _ he))]
    have := h e (List.mem_cons_self ..)
    by_cases q : x = e.1
    · exact up_ni (this q)
    · exact up_na q
theorem LB_in : ∀ e ∈ LB, (e.1 = 53 ∧ e.2.1 < 8 ∧ 0 ≤ e.2.1) ∨ (e.1 = 72 ∧ e.2.1 < 4 ∧ 0 ≤ e.2.1) ∨ (e.1 = 78 ∧ e.2.1 < 8 ∧ 0 ≤ e.2.1) := by decide +kernel
theorem m2_o {x i : Int} (h1 : ∀ e ∈ L1 ++ LA, x ≠ e.1) (h42 : x ≠ 42) (h : i < 0 ∨ 8 ≤ i) : M02 x i = 0 := by
  unfold M02 M01
  rw [ups_out LB _ (fun e he q r => by have := LB_in e he; omega), fil_row h42, ups_row LA _ (fun e he => h1 e (List.mem_append_right _ he)), ups_row L1 _ (fun e he => h1 e (List.mem_append_left _ he))]
  rfl
theorem m2_42 (i : Int) : M02 42 i = if 0 ≤ i ∧ i < 480 then -6 else 0 := by
  unfold M02 M01
  rw [ups_row LB _ (by decide +kernel)]
  unfold fil
  by_cases h : 0 ≤ i ∧ i < 480
  · rw [if_pos ⟨rfl, h⟩, if_pos h]
  · rw [if_neg (fun q => h q.2), if_neg h, ups_row LA _ (by decide +kernel), ups_row L1 _ (by decide +kernel)]; rfl
theorem m2_pg : M02 41 4 = 0 := by decide +kernel
theorem m2_pc : M02 41 12 = 0 := by decide +kernel
theorem m2_or : M02 41 26 = 0 := by decide +kernel
theorem s0_si : SInv M02 := by
  have z : ∀ {x : Int}, ((L1 ++ LA ++ LB).all (fun e => x != e.1) && x != 42) = true → ∀ i, M02 x i = 0 := fun {x} h i => by
    simp only [Bool.and_eq_true, List.all_eq_true, bne_iff_ne, ne_eq] at h
    exact m2_z h.1 h.2 i
  have no : ∀ (p : Int), ¬ (0 ≤ p ∧ p < M02 41 4) := fun p h => by rw [m2_pg] at h; omega
  have nc : ∀ (p : Int), ¬ (0 ≤ p ∧ p < M02 41 12) := fun p h => by rw [m2_pc] at h; omega
  refine ⟨by rw [m2_pg]; decide, by rw [m2_pc]; decide, by rw [m2_or]; decide, fun i => ?_, fun p i h1 h2 h3 h4 => ?_, fun p => ?_, fun p => ?_, fun p hp => absurd hp (no p), fun k hk => absurd hk (nc k), fun k => ?_, fun k => ?_, fun k => ?_, fun k _ => ?_, fun k k0 k1 => ?_, fun i => ?_, fun o => ?_, fun r => ?_, fun i => ?_, fun r r0 r1 => ?_, fun i => ?_, fun n => ?_, fun i => ?_, fun o => ?_, fun o => ?_, fun o => ?_, fun o => ?_, fun o => ?_, fun c => ?_⟩
  · rw [m2_42]; split <;> omega
  · rw [m2_pg] at h1; rw [m2_42, if_pos (by omega)]
  · rw [z (by decide +kernel)]; decide
  · rw [z (by decide +kernel)]; decide
  · rw [z (x := 47) (by decide +kernel), z (x := 48) (by decide +kernel), z (x := 49) (by decide +kernel), z (x := 50) (by decide +kernel)]; decide
  · rw [z (by decide +kernel)]; decide
  · rw [z (by decide +kernel)]; exact ⟨by decide, Int.pow_pos (by decide)⟩
  · rw [z (x := 51) (by decide +kernel), z (x := 52) (by decide +kernel)]; decide
  · exact fin_int (n := 9) (P := fun k => lstO k ≤ M02 53 k ∧ M02 53 k ≤ grtO k) (by decide +kernel) k k0 (by omega)
  · rw [z (by decide +kernel)]; decide
  · rw [z (by decide +kernel)]; decide
  · rw [z (by decide +kernel)]; exact ⟨by decide, Int.pow_pos (by decide)⟩
  · by_cases h : 0 ≤ i ∧ i < 8
    · exact fin_int (n := 8) (P := fun i => 0 ≤ M02 78 i ∧ M02 78 i ≤ 1000) (by decide +kernel) i h.1 h.2
    · rw [m2_o (by decide +kernel) (by decide) (by omega)]; decide
  · exact fin_int (n := 4) (P := fun r => 1 ≤ M02 78 (2 * r) ∧ M02 78 (2 * r) ≤ 100) (by decide +kernel) r r0 (by omega)
  · rw [z (by decide +kernel)]; decide
  · by_cases h : 0 ≤ n ∧ n < 8
    · exact fin_int (n := 8) (P := fun n => M02 72 n = -6 ∨ (0 ≤ M02 72 n ∧ M02 72 n ≤ 99)) (by decide +kernel) n h.1 h.2
    · rw [m2_o (by decide +kernel) (by decide) (by omega)]; decide
  · rw [z (by decide +kernel)]; decide
  · rw [z (by decide +kernel)]; decide
  · rw [z (by decide +kernel)]; decide
  · rw [z (x := 60) (by decide +kernel), z (x := 61) (by decide +kernel)]; decide
  · rw [z (by decide +kernel)]; decide
  · rw [z (by decide +kernel)]; decide
  · rw [z (by decide +kernel)]; decide
theorem s0_jj : JJ 0 M02 := ⟨s0_si, fun o ho => by have := ho.1; have h2 := ho.2; rw [m2_or] at h2; omega, fun c => by rw [m2_z (by decide +kernel) (by decide)]; decide⟩
theorem s0_fix : FixA (wN 84) M02 := by
  refine ⟨fun a h1 h2 => wN_at h1 (by have : (nFix : Int) = 83 := rfl; show a < ((84 : Nat) : Int); omega), by decide +kernel, fun e he a ha => ?_, by decide⟩
  by_cases h : 1 ≤ a ∧ a < 84
  · have key : ∀ i : Fin 84, ∀ e ∈ fixD, (wN 84).2 ((i.val : Nat) : Int) = (e.1, e.2.1) → M02 ((i.val : Nat) : Int) e.2.2.1 = ((i.val : Nat) : Int) + 1 ∧ (wN 84).2 (((i.val : Nat) : Int) + 1) = (12, e.2.2.2) := by decide +kernel
    exact fin_int (n := 84) (P := fun a => ∀ e ∈ fixD, (wN 84).2 a = (e.1, e.2.1) → M02 a e.2.2.1 = a + 1 ∧ (wN 84).2 (a + 1) = (12, e.2.2.2)) key a (by omega) (by omega) e he ha
  · have : (wN 84).2 a = (0, 0) := if_neg h
    rw [this] at ha
    have hk : ∀ e ∈ fixD, e.1 ≠ 0 := by decide
    exact absurd (congrArg Prod.fst ha).symm (hk e he)
theorem s0_ci : CInv M02 (wN 84) M02 := by
  have z : ∀ {x : Int}, ((L1 ++ LA ++ LB).all (fun e => x != e.1) && x != 42) = true → ∀ i, M02 x i = 0 := fun {x} h i => by
    simp only [Bool.and_eq_true, List.all_eq_true, bne_iff_ne, ne_eq] at h
    exact m2_z h.1 h.2 i
  refine ⟨⟨by decide +kernel, by decide +kernel, by decide +kernel⟩, ⟨fun k k0 k1 => fin_int (n := 9) (P := fun k => M02 2 k = M02 53 k) (by decide +kernel) k k0 (by omega), fun c _ _ => by rw [z (x := 24) (by decide +kernel), z (x := 83) (by decide +kernel)]⟩, fun p hp => ?_, fun p hp => ?_, fun p hp => ?_, ?_, fun n n0 n1 => ⟨?_, fun x x0 x1 => ?_⟩, fun r r0 r1 => ?_, fun j hj => ?_, Or.inl (by decide +kernel)⟩
  · have h := hp.2; have h0 := hp.1; rw [m2_pg] at h; omega
  · have h := hp.2; have h0 := hp.1; rw [m2_pc] at h; omega
  · have h := hp.2; have h0 := hp.1; rw [m2_or] at h; omega
  · have e : M02 1 8 = 7 := by decide +kernel
    rw [e]
    exact ⟨Or.inl rfl, by decide +kernel, by decide +kernel, by decide +kernel, fun i i0 i1 => by rw [z (x := 57) (by decide +kernel)] at i1; omega⟩
  · exact fin_int (n := 4) (P := fun n => M02 (25 + 2 * n) 0 = M02 72 n) (by decide +kernel) n n0 (by omega)
  · have h : n = 0 ∨ n = 1 ∨ n = 2 ∨ n = 3 := by omega
    rw [z (x := 73) (by decide +kernel)]
    rcases h with rfl | rfl | rfl | rfl <;> exact z (by decide +kernel) x
  · have h : r = 0 ∨ r = 1 ∨ r = 2 ∨ r = 3 := by omega
    refine ⟨fin_int (n := 4) (P := fun r => M02 (33 + 2 * r) 0 = M02 78 (2 * r)) (by decide +kernel) r r0 (by omega), fin_int (n := 4) (P := fun r => M02 (33 + 2 * r) 1 = M02 78 (2 * r + 1)) (by decide +kernel) r r0 (by omega), ?_, fun p p0 p1 => ?_⟩
    · rw [z (x := 77) (by decide +kernel)]
      rcases h with rfl | rfl | rfl | rfl <;> decide +kernel
    · rw [z (x := 79) (by decide +kernel)]
      rcases h with rfl | rfl | rfl | rfl <;> exact z (by decide +kernel) p
  · unfold ordL at hj; rw [m2_pc] at hj; simp [ordR] at hj
theorem s0_ag : Ag M02 M02 := Ag.rfl' _
theorem s0_md : MD M02 M02 := Or.inl (by decide +kernel)
