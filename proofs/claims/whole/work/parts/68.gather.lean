/-! FAMILIES: what they are; THE CLASS: gather -/
theorem famb_pc {S : MM} {a p : Int} (h : famb S a p = true) : isPc S p := (famb_iff.mp h).1
theorem famb_tr {S : MM} {a p q : Int} (h1 : famb S a p = true) (h2 : famb S p q = true) : famb S a q = true :=
  famb_closed (P := fun q => famb S a q = true) h1 (fun x y hx hy h3 h4 => famb_step h3 h4 hy) h2
theorem famb_sym {S : MM} {a p : Int} (ha : isPc S a) (h : famb S a p = true) : famb S p a = true := by
  have key := famb_closed (S := S) (a := a) (P := fun q => isPc S q → famb S q a = true) (fun _ => famb_self ha) (fun x y hx hy h3 h4 _ => famb_tr (famb_step (famb_self hy) (by rw [dblS_sym]; exact h4) hx) (h3 hx)) h
  exact key (famb_pc h)
theorem famb_eq {S : MM} {a p : Int} (ha : isPc S a) (h : famb S a p = true) (q : Int) : famb S p q = famb S a q := by
  rw [Bool.eq_iff_iff]
  exact ⟨fun h2 => famb_tr h h2, fun h2 => famb_tr (famb_sym ha h) h2⟩
/-- the one that is ahead of all others is the first -/
theorem fst_is {S : MM} {f : Int → Bool} {s : Int} (h0 : 0 ≤ s) (hf : f s = true) {N : Int} (ha : ∀ q, 0 ≤ q → q < N → f q = true → q = s ∨ aheadS S s q = true) : ∀ n : Nat, (n : Int) ≤ N → (n ≤ s → fstN S f n < 0 ∨ aheadS S s (fstN S f n) = true) ∧ (s < n → fstN S f n = s)
  | 0, _ => ⟨fun _ => Or.inl (by simp [fstN]), fun h => by omega⟩
  | n + 1, hn => by
    have ih := fst_is h0 hf ha n (by omega)
    have hr := fstN_rng S f n
    rw [fstN]
    refine ⟨fun h => ?_, fun h => ?_⟩
    · have i1 := ih.1 (by omega)
      by_cases hc : (f n && (decide (fstN S f n < 0) || aheadS S n (fstN S f n))) = true
      · rw [if_pos hc]
        right
        rw [Bool.and_eq_true] at hc
        rcases ha n (by omega) (by omega) hc.1 with e | e
        · omega
        · exact e
      · rw [if_neg hc]; exact i1
    · by_cases e : s = n
      · have i1 := ih.1 (by omega)
        rw [if_pos]
        · exact e.symm
        · rw [← e, hf, Bool.true_and]
          rcases i1 with i1 | i1
          · simp [i1]
          · simp [i1]
      · have i2 := ih.2 (by omega)
        rw [i2, if_neg]
        intro q
        rw [Bool.and_eq_true] at q
        rcases ha n (by omega) (by omega) q.1 with e2 | e2
        · omega
        · have := ah_asy _ _ e2
          rw [this] at q
          have h3 : ¬ s < 0 := by omega
          simp [h3] at q
theorem first_is {S : MM} {a s : Int} (hI : SInv S) (ha : isPc S a) (hs : famb S a s = true) (hl : ∀ q, famb S a q = true → q = s ∨ aheadS S s q = true) : firstS S a = s := by
  have hsp := famb_pc hs
  unfold isPc at hsp
  have := hI.pc
  exact (fst_is hsp.1 hs (N := S 41 12) (fun q _ _ hq => hl q hq) (S 41 12).toNat (by omega)).2 (by omega)
theorem fst_mem {S : MM} {f : Int → Bool} {s : Int} (h0 : 0 ≤ s) (hf : f s = true) : ∀ n : Nat, s < n → 0 ≤ fstN S f n
  | 0, h => by omega
  | n + 1, h => by
    rw [fstN]
    by_cases e : s = n
    · by_cases hc : fstN S f n < 0
      · rw [if_pos (by rw [← e, hf]; simp [hc])]; omega
      · split <;> omega
    · have := fst_mem (S := S) h0 hf n (by omega)
      split <;> omega
theorem firstS_mem {S : MM} {a : Int} (hI : SInv S) (ha : isPc S a) : famb S a (firstS S a) = true := by
  have hr := fstN_rng S (famb S a) (S 41 12).toNat
  have hp := ha
  unfold isPc at hp
  have := hI.pc
  exact hr.2.2 (fst_mem hp.1 (famb_self ha) _ (by omega))
theorem firstS_eq {S : MM} {a p : Int} (ha : isPc S a) (h : famb S a p = true) : firstS S p = firstS S a := by
  unfold firstS
  rw [show famb S p = famb S a from funext (famb_eq ha h)]
theorem famC_eq {S : MM} {a p : Int} (ha : isPc S a) (h : famb S a p = true) : famC S p = famC S a := by
  unfold famC
  rw [show famb S p = famb S a from funext (famb_eq ha h)]
theorem first_iff {S : MM} {a p : Int} (hI : SInv S) (ha : isPc S a) (hp : isPc S p) : firstS S p = firstS S a ↔ famb S a p = true := by
  constructor
  · intro h
    have h1 := firstS_mem hI hp
    rw [h] at h1
    exact famb_tr (firstS_mem hI ha) (famb_sym hp h1)
  · exact firstS_eq ha
/-- the row of pieces in order -/
theorem ord_at {S : MM} {w : NS} {M : MM} (hC : CInv S w M) (hI : SInv S) {j : Int} (h0 : 0 ≤ j) (h1 : j < S 41 12) : ∃ k, (ordL S)[j.toNat]? = some k ∧ isPc S k ∧ M 5 j = M 4 k := by
  have hlen := ordL_len S
  have hj : j.toNat < (ordL S).length := by omega
  have hl := hC.ln j.toNat hj
  rw [show ((j.toNat : Nat) : Int) = j by omega, List.getD_eq_getElem?_getD, List.getElem?_eq_getElem hj, Option.getD_some] at hl
  exact ⟨(ordL S)[j.toNat]'hj, List.getElem?_eq_getElem hj, (ordL_mem _).mp (List.getElem_mem hj), hl⟩
theorem ord_ah {S : MM} {i j : Nat} {p q : Int} (hi : (ordL S)[i]? = some p) (hj : (ordL S)[j]? = some q) (h : i < j) : aheadS S p q = true := by
  obtain ⟨h1, e1⟩ := List.getElem?_eq_some_iff.mp hi
  obtain ⟨h2, e2⟩ := List.getElem?_eq_some_iff.mp hj
  have := List.pairwise_iff_getElem.mp (ordL_sorted S) i j h1 h2 h
  rw [e1, e2] at this; exact this
theorem ord_ix {S : MM} {k : Int} (hk : isPc S k) : ∃ j : Nat, (ordL S)[j]? = some k := by
  obtain ⟨j, h, e⟩ := List.mem_iff_getElem.mp ((ordL_mem k).mpr hk)
  exact ⟨j, by rw [List.getElem?_eq_getElem h, e]⟩
def FGa (S M : MM) (x i : Int) : Prop := (9 ≤ x ∧ x ≤ 11) ∨ ∃ k, isPc S k ∧ x = M 4 k ∧ (i = 8 ∨ i = 9)
theorem FGa.wk {S M : MM} : ∀ x i, FGa S M x i → FWK S M x i := fun x i h => by
  rcases h with h | h
  · exact Or.inl (by omega)
  · exact Or.inr (Or.inr (Or.inr (Or.inr h)))
theorem fga_pcs {S : MM} {w : NS} {M M1 : MM} (hC : CInv S w M) (hF : Fo (FGa S M) M M1) : CPcs S w M1 := fun k hk => by
  have hK := hC.pc k hk
  have hF2 := hF.mono FGa.wk
  exact hK.mv (fwk_low hC hF2 (by omega) (by omega)) (fwk_low hC hF2 (by omega) (by omega)) (fun i h8 h9 => fwk_pc hC hF2 hk h8 h9) (fwk_tag hC hF2 hK.2.2.1 (by decide) (by have := hK.1; omega)) rfl rfl rfl rfl rfl rfl rfl rfl rfl rfl
/-- how far the families are gathered: who has a first one, and that it is right -/
def GInv (S M M1 : MM) : Prop := Fo (FGa S M) M M1 ∧ (∀ k, isPc S k → M1 (M 4 k) 8 = -6 ∨ (M1 (M 4 k) 8 = firstS S k ∧ M1 (M 4 k) 9 = famC S k)) ∧ (∀ p q, isPc S p → isPc S q → M1 (M 4 p) 8 ≠ -6 → dblS S p q = true → M1 (M 4 q) 8 ≠ -6)
theorem mem_snoc {L : List Int} {x y : Int} : y ∈ L ++ [x] ↔ y ∈ L ∨ y = x := by simp
theorem cc_gatherOne {G : GP} {l : Launch} {w : NS} {S M M1 : MM} {j s : Int} (hI : SInv S) (hC : CInv S w M) (hG : GInv S M M1) (h0 : 0 ≤ j) (h1 : j < S 41 12) (hs : (ordL S)[j.toNat]? = some s) (hn : M1 (M 4 s) 8 = -6) (hb : ∀ (i : Nat) (k : Int), (i : Int) < j → (ordL S)[i]? = some k → M1 (M 4 k) 8 ≠ -6) : CT_X1_gatherOne G l [(2, 9), (2, 5), (0, S 41 12), (0, j), (0, S 53 0)] w M1 (fun _ w' M' => w = w' ∧ GInv S M M' ∧ (∀ k, isPc S k → M1 (M 4 k) 8 ≠ -6 → M' (M 4 k) 8 ≠ -6) ∧ M' (M 4 s) 8 ≠ -6) := by
  refine E_X1_gatherOne (fun _ _ _ X hX C => ?_)
  refine WA.fix (fun hFx => ?_)
  have hpc := hI.pc
  obtain ⟨g1, g2, g3⟩ := hG
  have hsp : isPc S s := (ordL_mem s).mp (List.mem_of_getElem? hs)
  have hsq := hsp
  unfold isPc at hsq
  have low : ∀ {M2 : MM} {x i : Int}, Fo (FGa S M) M M2 → x ≤ 8 → M2 x i = M x i := fun {M2 x i} hF hx => hF x i (by
    rintro (q | ⟨k, hk, q, -⟩)
    · omega
    · have := (hC.pc k hk).1; omega)
  have pce : ∀ {M2 : MM} {k i : Int}, Fo (FGa S M) M M2 → isPc S k → i ≠ 8 → i ≠ 9 → M2 (M 4 k) i = M (M 4 k) i := fun {M2 k i} hF hk h8 h9 => fwk_pc hC (hF.mono FGa.wk) hk h8 h9
  have lne : ∀ {k : Int}, isPc S k → M 4 k ≠ 10 ∧ M 4 k ≠ 11 := fun hk => by have := (hC.pc _ hk).1; omega
  have t7 : ∀ {k : Int}, isPc S k → w.2 (M 4 k) = (7, 12) := fun hk => (hC.pc _ hk).2.1
  have f10 : ∀ {i : Int}, FGa S M 10 i := fun {i} => Or.inl (by omega)
  have f8 : ∀ {k : Int}, isPc S k → FGa S M (M 4 k) 8 := fun hk => Or.inr ⟨_, hk, rfl, Or.inl rfl⟩
  have f9 : ∀ {k : Int}, isPc S k → FGa S M (M 4 k) 9 := fun hk => Or.inr ⟨_, hk, rfl, Or.inr rfl⟩
  have at5 : ∀ {M2 : MM} {i : Int}, Fo (FGa S M) M M2 → 0 ≤ i → i < S 41 12 → ∃ k, (ordL S)[i.toNat]? = some k ∧ isPc S k ∧ M2 5 i = M 4 k := fun {M2 i} hF i0 i1 => by
    obtain ⟨k, e1, e2, e3⟩ := ord_at hC hI i0 i1
    exact ⟨k, e1, e2, (low hF (by omega)).trans e3⟩
  -- the members so far
  generalize hJ : (fun (M2 : MM) (L : List Int) => Fo (FGa S M) M M2 ∧ s ∈ L ∧ (∀ x ∈ L, isPc S x ∧ famb S s x = true ∧ M1 (M 4 x) 8 = -6) ∧ (∀ (i : Nat) (x : Int), L[i]? = some x → M2 10 i = M 4 x) ∧ (∀ k, isPc S k → (k ∈ L → M2 (M 4 k) 8 = s) ∧ (k ∉ L → M2 (M 4 k) 8 = M1 (M 4 k) 8) ∧ M2 (M 4 k) 9 = M1 (M 4 k) 9) ∧ (L.length : Int) = cnN (fun k => decide (k ∈ L)) (S 41 12).toNat) = J
  have asg : ∀ {M2 : MM} {L : List Int} {k : Int}, J M2 L → isPc S k → (k ∈ L ∨ M1 (M 4 k) 8 ≠ -6) → M2 (M 4 k) 8 ≠ -6 := fun {M2 L k} hj hk h => by
    rw [← hJ] at hj
    have q := hj.2.2.2.2.1 k hk
    by_cases e : k ∈ L
    · rw [q.1 e]; omega
    · rw [q.2.1 e]; exact h.resolve_left e
  have unas : ∀ {M2 : MM} {L : List Int} {k : Int}, J M2 L → isPc S k → M2 (M 4 k) 8 = -6 → k ∉ L ∧ M1 (M 4 k) 8 = -6 := fun {M2 L k} hj hk h => by
    rw [← hJ] at hj
    have q := hj.2.2.2.2.1 k hk
    by_cases e : k ∈ L
    · rw [q.1 e] at h; omega
    · exact ⟨e, by rw [← q.2.1 e]; exact h⟩
  -- the sizes, at the end
  have K4 : ∀ (L : List Int), J M1 [] ∨ True → (∀ k, isPc S k → (k ∈ L ↔ famb S s k = true)) → (∀ x ∈ L, isPc S x ∧ M1 (M 4 x) 8 = -6) → (L.length : Int) = famC S s → L.length ≤ 24 →
      ∀ m : Int, m ≤ (L.length : Int) → ∀ M2 : MM, 0 ≤ m → Fo (FGa S M) M M2 → (∀ (i : Nat) (x : Int), L[i]? = some x → M2 10 i = M 4 x) → (∀ k, isPc S k → (k ∈ L → M2 (M 4 k) 8 = s) ∧ (k ∉ L → M2 (M 4 k) 8 = M1 (M 4 k) 8 ∧ M2 (M 4 k) 9 = M1 (M 4 k) 9)) → (∀ (i : Nat) (x : Int), (i : Int) < m → L[i]? = some x → M2 (M 4 x) 9 = L.length) →
      A_X1_gatherOne_124 G X (fun _ w' M' => w = w' ∧ GInv S M M' ∧ (∀ k, isPc S k → M1 (M 4 k) 8 ≠ -6 → M' (M 4 k) 8 ≠ -6) ∧ M' (M 4 s) 8 ≠ -6) (L.length : Int) m w M2 := fun L _ hL hL2 hLc hL24 => up_ind _ (fun m hm ih M2 m0 hF hrow h8 h9 => by
    refine B_X1_gatherOne_124 C ?_
    refine ⟨fun h => ⟨rfl, ⟨hF, fun k hk => ?_, fun p q hp hq h2 h3 => ?_⟩, fun k hk h2 => ?_, ?_⟩, fun h => ?_⟩
    · by_cases e : k ∈ L
      · right
        have hfk := (hL k hk).mp e
        obtain ⟨i, hi, e2⟩ := List.mem_iff_getElem.mp e
        refine ⟨?_, ?_⟩
        · rw [(h8 k hk).1 e, firstS_eq hsp hfk]
          refine (first_is hI hsp (famb_self hsp) (fun q hq => ?_)).symm
          obtain ⟨t, ht⟩ := ord_ix (famb_pc hq)
          rcases Nat.lt_trichotomy t j.toNat with c | c | c
          · exfalso
            have := hb t q (by omega) ht
            exact this (hL2 q ((hL q (famb_pc hq)).mpr hq)).2
          · left; rw [c, hs] at ht; exact (Option.some.inj ht).symm
          · right; exact ord_ah hs ht c
        · rw [h9 i k (by omega) (by rw [List.getElem?_eq_getElem hi, e2]), famC_eq hsp hfk]; exact hLc
      · rw [((h8 k hk).2 e).1, ((h8 k hk).2 e).2]; exact g2 k hk
    · by_cases e : p ∈ L
      · have : q ∈ L := (hL q hq).mpr (famb_step ((hL p hp).mp e) h3 hq)
        rw [(h8 q hq).1 this]; omega
      · rw [((h8 p hp).2 e).1] at h2
        have h4 := g3 p q hp hq h2 h3
        by_cases e2 : q ∈ L
        · rw [(h8 q hq).1 e2]; omega
        · rw [((h8 q hq).2 e2).1]; exact h4
    · by_cases e : k ∈ L
      · rw [(h8 k hk).1 e]; omega
      · rw [((h8 k hk).2 e).1]; exact h2
    · rw [(h8 s hsp).1 ((hL s hsp).mpr (famb_self hsp))]; omega
    · have hmt : m.toNat < L.length := by omega
      have hx := List.getElem?_eq_getElem hmt
      generalize hxe : L[m.toNat]'hmt = x at hx
      have hxL : x ∈ L := by rw [← hxe]; exact List.getElem_mem _
      have hxp := (hL2 x hxL).1
      have e10 : M2 10 m = M 4 x := by have := hrow m.toNat x hx; rwa [show ((m.toNat : Nat) : Int) = m by omega] at this
      rw [e10]
      refine ⟨m0, by omega, t7 hxp, by omega, ih (m + 1) (by omega) (by omega) _ (by omega) (fo_up hF _ (f9 hxp)) (fun i y hy => ?_) (fun k hk => ⟨fun e => ?_, fun e => ⟨?_, ?_⟩⟩) (fun i y hi hy => ?_)⟩
      · rw [up_na (fun e => (lne hxp).1 e.symm)]; exact hrow i y hy
      · rw [up_ni (by decide)]; exact (h8 k hk).1 e
      · rw [up_ni (by decide)]; exact ((h8 k hk).2 e).1
      · rw [up_na (fun e2 => by have := (pc_inj hC hk hxp).mp e2; rw [this] at e; exact e hxL)]; exact ((h8 k hk).2 e).2
      · by_cases e : y = x
        · rw [e, up_eq]
        · have hyp := (hL2 y (List.mem_of_getElem? hy)).1
          rw [up_na (fun e2 => e ((pc_inj hC hyp hxp).mp e2))]
          refine h9 i y ?_ hy
          rcases Int.lt_or_eq_of_le (show (i : Int) ≤ m by omega) with c | c
          · exact c
          · exfalso; apply e
            have : i = m.toNat := by omega
            rw [this, hx] at hy; exact (Option.some.inj hy).symm)
  -- one member looks at the others
  have K3 : ∀ (m : Int), 0 ≤ m → m < 24 → (∀ M2 (L : List Int), J M2 L → m < L.length → (∀ (i : Nat) (x q : Int), (i : Int) < m + 1 → L[i]? = some x → isPc S q → dblS S x q = true → M2 (M 4 q) 8 ≠ -6) → A_X1_gatherOne_29 G X (fun _ w' M' => w = w' ∧ GInv S M M' ∧ (∀ k, isPc S k → M1 (M 4 k) 8 ≠ -6 → M' (M 4 k) 8 ≠ -6) ∧ M' (M 4 s) 8 ≠ -6) 5 (S 41 12) j (S 53 0) (M 4 s) (L.length : Int) (m + 1) w M2) →
      ∀ t : Int, t ≤ S 41 12 → ∀ M2 (L : List Int), j < t → J M2 L → m < L.length → (∀ (i : Nat) (x q : Int), (i : Int) < m → L[i]? = some x → isPc S q → dblS S x q = true → M2 (M 4 q) 8 ≠ -6) → (∀ (i : Nat) (x q : Int), (i : Int) < t → L[m.toNat]? = some x → (ordL S)[i]? = some q → dblS S x q = true → M2 (M 4 q) 8 ≠ -6) →
      A_X1_gatherOne_47 G X (fun _ w' M' => w = w' ∧ GInv S M M' ∧ (∀ k, isPc S k → M1 (M 4 k) 8 ≠ -6 → M' (M 4 k) 8 ≠ -6) ∧ M' (M 4 s) 8 ≠ -6) 5 (S 41 12) j (S 53 0) (M 4 s) (L.length : Int) m t w M2 := fun m m0 m24 nx => up_ind _ (fun t ht ih M2 L t0 hj hmL hA hB => by
    have hj2 := hj
    rw [← hJ] at hj2
    obtain ⟨j1, j2, j3, j4, j5, j6⟩ := hj2
    refine B_X1_gatherOne_47 C ?_
    have hLr := cnN_rng (fun k => decide (k ∈ L)) (S 41 12).toNat
    have hmt : m.toNat < L.length := by omega
    have hx := List.getElem?_eq_getElem hmt
    generalize hxe : L[m.toNat]'hmt = x at hx
    have hxL : x ∈ L := by rw [← hxe]; exact List.getElem_mem _
    have hxp := (j3 x hxL).1
    have e10 : M2 10 m = M 4 x := by have := j4 m.toNat x hx; rwa [show ((m.toNat : Nat) : Int) = m by omega] at this
    refine ⟨fun h => ⟨by omega, nx M2 L hj hmL (fun i y q hi hy hq hd => ?_)⟩, fun h => ?_⟩
    · by_cases c : (i : Int) < m
      · exact hA i y q c hy hq hd
      · obtain ⟨t', ht'⟩ := ord_ix hq
        have hlt : t' < (ordL S).length := (List.getElem?_eq_some_iff.mp ht').1
        rw [ordL_len] at hlt
        rw [show i = m.toNat by omega] at hy
        exact hB t' y q (by omega) hy ht' hd
    · obtain ⟨y, hy1, hyp, hy2⟩ := at5 (i := t) j1 (by omega) (by omega)
      rw [hy2]
      refine ⟨sh_5 hFx, by omega, by omega, t7 hyp, fun h2 => ⟨by omega, ?_⟩, fun h2 => ⟨m0, by omega, ?_⟩⟩
      · refine ih (t + 1) (by omega) (by omega) M2 L (by omega) hj hmL hA (fun i x' q hi hx' hq hd => ?_)
        by_cases c : (i : Int) < t
        · exact hB i x' q c hx' hq hd
        · rw [show i = t.toNat by omega, hy1] at hq
          rw [← Option.some.inj hq]; exact h2
      · have h2' := Decidable.not_not.mp h2
        obtain ⟨u1, u2⟩ := unas hj hyp h2'
        have hm4 : ∀ k, M2 4 k = M 4 k := fun k => low j1 (by omega)
        have hP2 := fga_pcs hC j1
        rw [e10]
        have hd := cc_areDoubles (G := G) (l := X.2.1) hI hP2 hxp hyp
        rw [hm4 x, hm4 y] at hd
        refine ⟨_, hd, ?_⟩
        rintro z10 _ M3 ⟨e1, rfl, hF3⟩
        have hF3' : Fo (FGa S M) M M3 := j1.tr (hF3.mono (fun x i q => by have : x = 11 := q; exact Or.inl (by omega)))
        have same : ∀ k i, isPc S k → M3 (M 4 k) i = M2 (M 4 k) i := fun k i hk => hF3 _ _ (by have := (lne hk).2; exact this)
        have hj3 : J M3 L := by
          rw [← hJ]
          refine ⟨hF3', j2, j3, fun i z hz => ?_, fun k hk => ?_, j6⟩
          · rw [hF3 10 _ (by unfold F11; omega)]; exact j4 i z hz
          · rw [same k 8 hk, same k 9 hk]; exact j5 k hk
        refine ⟨fun h3 => ⟨by omega, ?_⟩, fun h3 => ⟨t7 hsp, t7 hyp, by omega, ?_⟩⟩
        · have hdf : dblS S x y = false := bi_0.mp (by rw [e1]; exact h3)
          refine ih (t + 1) (by omega) (by omega) M3 L (by omega) hj3 hmL (fun i x' q hi hx' hq hd => by rw [same q 8 hq]; exact hA i x' q hi hx' hq hd) (fun i x' q hi hx' hq hd => ?_)
          have hqp := (ordL_mem q).mp (List.mem_of_getElem? hq)
          rw [same q 8 hqp]
          by_cases c : (i : Int) < t
          · exact hB i x' q c hx' hq hd
          · rw [show i = t.toNat by omega, hy1] at hq
            rw [hx] at hx'
            rw [← Option.some.inj hq, ← Option.some.inj hx', hdf] at hd
            cases hd
        · have hdt : dblS S x y = true := by
            cases e : dblS S x y
            · rw [e] at e1; exact absurd e1.symm h3
            · rfl
          have hfy : famb S s y = true := famb_step (j3 x hxL).2.1 hdt hyp
          have hlt := cnN_lt (f := fun k => decide (k ∈ L)) (m := y) (S 41 12).toNat (by simp [u1]) hyp.1 (by have := hyp.2; omega)
          have hyne : M 4 y ≠ 10 := (lne hyp).1
          have hsq : M3 (M 4 s) 0 = s := (pce hF3' hsp (by decide) (by decide)).trans (hC.pc s hsp).2.2.2.1
          rw [hsq]
          have hj4 : J (up (up M3 (M 4 y) 8 s) 10 (L.length : Int) (M 4 y)) (L ++ [y]) := by
            rw [← hJ] at hj3 ⊢
            obtain ⟨k1, k2, k3, k4, k5, k6⟩ := hj3
            refine ⟨fo_up (fo_up k1 _ (f8 hyp)) _ f10, List.mem_append_left _ k2, fun z hz => ?_, fun i z hz => ?_, fun k hk => ⟨fun e => ?_, fun e => ?_, ?_⟩, ?_⟩
            · rcases mem_snoc.mp hz with e | e
              · exact k3 z e
              · rw [e]; exact ⟨hyp, hfy, u2⟩
            · by_cases c : i = L.length
              · subst c
                rw [List.getElem?_append_right (Nat.le_refl _)] at hz
                simp at hz
                rw [up_eq, ← hz]
              · rw [up_ni (by omega), up_na (fun e => hyne e.symm)]
                rw [List.getElem?_append_left (by
                  have := (List.getElem?_eq_some_iff.mp hz).1
                  rw [List.length_append] at this; simp at this; omega)] at hz
                exact k4 i z hz
            · rw [up_na (lne hk).1]
              by_cases c : k = y
              · rw [c, up_eq]
              · rw [up_na (fun e2 => c ((pc_inj hC hk hyp).mp e2))]
                exact (k5 k hk).1 ((mem_snoc.mp e).resolve_right c)
            · have e' : k ∉ L ∧ k ≠ y := ⟨fun q => e (mem_snoc.mpr (Or.inl q)), fun q => e (mem_snoc.mpr (Or.inr q))⟩
              rw [up_na (lne hk).1, up_na (fun e2 => e'.2 ((pc_inj hC hk hyp).mp e2))]
              exact (k5 k hk).2.1 e'.1
            · rw [up_na (lne hk).1, up_ni (by decide)]; exact (k5 k hk).2.2
            · rw [List.length_append, cnN_up (f := fun k => decide (k ∈ L)) (m := y) _ (fun k hk => ?_) (by simp [u1]) (by simp) hyp.1 (by have := hyp.2; omega), ← k6]
              · simp
              · rw [decide_eq_decide, mem_snoc]; exact ⟨fun q => q.resolve_right hk, Or.inl⟩
          have mono : ∀ q, isPc S q → M2 (M 4 q) 8 ≠ -6 → up (up M3 (M 4 y) 8 s) 10 (L.length : Int) (M 4 y) (M 4 q) 8 ≠ -6 := fun q hq h => by
            refine asg hj4 hq ?_
            by_cases c : q ∈ L
            · exact Or.inl (List.mem_append_left _ c)
            · right; rw [← (j5 q hq).2.1 c]; exact h
          have hl24 : (L.length : Int) < 24 := by omega
          refine ⟨by omega, by omega, by omega, ?_⟩
          have e5 : ((L.length : Int) + 1) = ((L ++ [y]).length : Int) := by simp
          rw [e5]
          refine ih (t + 1) (by omega) (by omega) _ _ (by omega) hj4 (by rw [List.length_append]; simp; omega) (fun i x' q hi hx' hq hd => ?_) (fun i x' q hi hx' hq hd => ?_)
          · rw [List.getElem?_append_left (by omega)] at hx'
            exact mono q hq (hA i x' q hi hx' hq hd)
          · have hqp := (ordL_mem q).mp (List.mem_of_getElem? hq)
            rw [List.getElem?_append_left hmt] at hx'
            by_cases c : (i : Int) < t
            · exact mono q hqp (hB i x' q c hx' hq hd)
            · rw [show i = t.toNat by omega, hy1] at hq
              rw [← Option.some.inj hq]
              exact asg hj4 hyp (Or.inl (mem_snoc.mpr (Or.inr rfl))))
  have K2 : ∀ m : Int, m ≤ S 41 12 → ∀ M2 (L : List Int), 0 ≤ m → J M2 L → m ≤ L.length → (∀ (i : Nat) (x q : Int), (i : Int) < m → L[i]? = some x → isPc S q → dblS S x q = true → M2 (M 4 q) 8 ≠ -6) → A_X1_gatherOne_29 G X (fun _ w' M' => w = w' ∧ GInv S M M' ∧ (∀ k, isPc S k → M1 (M 4 k) 8 ≠ -6 → M' (M 4 k) 8 ≠ -6) ∧ M' (M 4 s) 8 ≠ -6) 5 (S 41 12) j (S 53 0) (M 4 s) (L.length : Int) m w M2 := up_ind _ (fun m hm ih M2 L m0 hj hmL hA => by
    have hj2 := hj
    rw [← hJ] at hj2
    obtain ⟨j1, j2, j3, j4, j5, j6⟩ := hj2
    have hLr := cnN_rng (fun k => decide (k ∈ L)) (S 41 12).toNat
    refine B_X1_gatherOne_29 C ?_
    have fin : (L.length : Int) ≤ m → A_X1_gatherOne_124 G X (fun _ w' M' => w = w' ∧ GInv S M M' ∧ (∀ k, isPc S k → M1 (M 4 k) 8 ≠ -6 → M' (M 4 k) 8 ≠ -6) ∧ M' (M 4 s) 8 ≠ -6) (L.length : Int) 0 w M2 := fun hle => by
      have clo : ∀ q, famb S s q = true → q ∈ L := fun q hq => by
        have := famb_closed (S := S) (a := s) (P := fun q => q ∈ L) j2 (fun x y hx hy h3 h4 => by
          obtain ⟨i, hi, e⟩ := List.mem_iff_getElem.mp h3
          have h5 := hA i x y (by omega) (by rw [List.getElem?_eq_getElem hi, e]) hy h4
          by_cases c : y ∈ L
          · exact c
          · rw [(j5 y hy).2.1 c] at h5
            have h6 := g3 y x hy hx h5 (by rw [dblS_sym]; exact h4)
            exact absurd (j3 x h3).2.2 h6) hq
        exact this
      refine K4 L (Or.inr trivial) (fun k hk => ⟨fun e => (j3 k e).2.1, clo k⟩) (fun x hx => ⟨(j3 x hx).1, (j3 x hx).2.2⟩) ?_ (by omega) 0 (by omega) M2 (by omega) j1 j4 (fun k hk => ⟨(j5 k hk).1, fun e => ⟨(j5 k hk).2.1 e, (j5 k hk).2.2⟩⟩) (fun i x hi => by omega)
      rw [j6]
      refine cnN_congr _ (fun k k0 k1 => ?_)
      have hk : isPc S k := ⟨k0, by omega⟩
      cases e : famb S s k
      · exact decide_eq_false (fun q => by have := (j3 k q).2.1; rw [e] at this; cases this)
      · exact decide_eq_true (clo k e)
    refine ⟨fun h => fin h, fun h => ⟨fun h2 => fin (by omega), fun h2 => ⟨by omega, ?_⟩⟩⟩
    refine K3 m m0 (by omega) (fun M3 L3 q1 q2 q3 => ih (m + 1) (by omega) (by omega) M3 L3 (by omega) q1 (by omega) q3) (j + 1) (by omega) M2 L (by omega) hj (by omega) hA (fun i x q hi hx hq hd => ?_)
    have hqp := (ordL_mem q).mp (List.mem_of_getElem? hq)
    refine asg hj hqp ?_
    by_cases c : (i : Int) < j
    · exact Or.inr (hb i q c hq)
    · left
      rw [show i = j.toNat by omega, hs] at hq
      rw [← Option.some.inj hq]; exact j2)
  refine B_X1_gatherOne_0 C ?_
  obtain ⟨k, e1, e2, e3⟩ := at5 (i := j) g1 h0 h1
  have hks : k = s := by rw [hs] at e1; exact (Option.some.inj e1).symm
  rw [hks] at e3
  rw [e3]
  have hs0 : M1 (M 4 s) 0 = s := (pce g1 hsp (by decide) (by decide)).trans (hC.pc s hsp).2.2.2.1
  rw [hs0]
  refine ⟨sh_5 hFx, h0, by omega, t7 hsp, ?_⟩
  have := K2 0 (by omega) (up (up M1 (M 4 s) 8 s) 10 0 (M 4 s)) [s] (by omega) (by
    rw [← hJ]
    refine ⟨fo_up (fo_up g1 _ (f8 hsp)) _ f10, by simp, fun x hx => ?_, fun i x hx => ?_, fun k hk => ⟨fun e => ?_, fun e => ?_, ?_⟩, ?_⟩
    · simp at hx; rw [hx]; exact ⟨hsp, famb_self hsp, hn⟩
    · have : i = 0 := by have := (List.getElem?_eq_some_iff.mp hx).1; simp at this; exact this
      subst this
      simp at hx
      rw [← hx]; exact up_eq
    · simp at e
      rw [e, up_na (lne hsp).1, up_eq]
    · simp at e
      rw [up_na (lne hk).1, up_na (fun e2 => e ((pc_inj hC hk hsp).mp e2))]
    · rw [up_na (lne hk).1, up_ni (by decide)]
    · rw [cnN_congr (g := fun k => decide (k = s)) _ (fun k _ _ => by simp), cnN_one _ hsq.1 (by omega)]; simp) (by simp) (fun i x q hi => by omega)
  exact this
