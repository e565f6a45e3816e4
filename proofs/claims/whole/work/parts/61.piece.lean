/-! THE CLASS: piece, the call -/
theorem cc_piece {G : GP} {l : Launch} {w : NS} {S M : MM} {p t b c d : Int} (hI : SInv S) (hI' : SInv (op_piece S p t b c d).2) (hC : CInv S w M) : CT_X9_piece G l [(2, 1), (0, p), (0, t), (0, b), (0, c), (0, d)] w M (PC M (op_piece S p t b c d)) := by
  refine E_X9_piece (fun _ _ _ _ _ X hX C => ?_)
  refine WA.fix (fun hF => WA.rng (fun hR => ?_))
  refine B_X9_piece_0 C ?_
  have hpg := hI.pg
  have hpc := hI.pc
  obtain ⟨-, -, hlt⟩ := hR
  have hn83 : (83 : Int) < w.1 := by exact_mod_cast hF.2.2.2
  rw [hC.top.1, hC.top.2.1]
  refine ⟨by omega, by omega, fun h0 => ?_, fun h0 => pc_s hC ?_⟩
  · have hp : isPg S p := Decidable.not_not.mp (fun q => h0 ((pgO_ne hC).mpr q))
    rw [pgO_in hC hp]
    refine ⟨fun h1 => pc_s hC (by unfold op_piece; grind), fun h1 => ⟨fun h2 => ⟨fun h3 => ?_, fun h3 => pc_s hC (by unfold op_piece; grind)⟩, fun h2 => pc_s hC (by unfold op_piece; grind)⟩⟩
    obtain ⟨n, hn⟩ : ∃ n : Nat, S 41 12 = n := ⟨(S 41 12).toNat, by omega⟩
    have hop : op_piece S p t b c d = (S 41 12, up (up (up (up (up (up S 46 (S 41 12) p) 47 (S 41 12) t) 48 (S 41 12) b) 49 (S 41 12) c) 50 (S 41 12) d) 41 12 (S 41 12 + 1)) := by
      unfold op_piece; rw [if_pos hp, if_pos (by omega), if_neg (by omega)]
    rw [hop] at hI'
    rw [hn] at hop hI' h3 ⊢
    replace hI' : SInv (up (up (up (up (up (up S 46 n p) 47 n t) 48 n b) 49 n c) 50 n d) 41 12 ((n : Int) + 1)) := hI'
    generalize hS' : up (up (up (up (up (up S 46 n p) 47 n t) 48 n b) 49 n c) 50 n d) 41 12 ((n : Int) + 1) = S' at hop hI'
    have s : ∀ y, y ≠ 41 → ¬ (46 ≤ y ∧ y ≤ 50) → S' y = S y := fun y q1 q2 => by rw [← hS', up_fn q1, up_fn (by omega), up_fn (by omega), up_fn (by omega), up_fn (by omega), up_fn (by omega)]
    have s41 : ∀ i, i ≠ 12 → S' 41 i = S 41 i := fun i hi => by rw [← hS', up_ni hi, up_na (by decide), up_na (by decide), up_na (by decide), up_na (by decide), up_na (by decide)]
    have s12 : S' 41 12 = n + 1 := by rw [← hS', up_eq]
    have sk : ∀ y k : Int, 46 ≤ y → y ≤ 50 → k ≠ (n : Int) → S' y k = S y k := fun y k q1 q2 hk => by
      rw [← hS', up_na (by omega)]; unfold up; simp [hk]
    have s46 : S' 46 n = p ∧ S' 47 n = t ∧ S' 48 n = b ∧ S' 49 n = c ∧ S' 50 n = d := by
      rw [← hS']; unfold up; simp
    have hG := hC.pg p hp
    have lp := (hlt _ (by rw [hG.2.1]; exact (by decide : 0 < 5))).2
    have lp1 := (hlt _ (by rw [hG.2.2.1]; exact (by decide : 0 < 12))).2
    rintro _ rfl
    refine ⟨by omega, _, cc_X6_init (us_new _ _ _ _) (by show ((w.1 + 1 : Nat) : Int) = _; omega), ?_⟩
    rintro _ _ N ⟨rfl, m1, m2, m3, ⟨m4, m5, m6, m7⟩, m8, m9, m10, m11⟩
    have mo : ∀ y : Int, y < w.1 → N y = M y := fun y hy => m1 y (by omega)
    have ew : (((w.1 + 1, us w.2 w.1 7 12) : NS).1 + 1, us ((w.1 + 1, us w.2 w.1 7 12) : NS).2 ((w.1 + 1, us w.2 w.1 7 12) : NS).1 12 60) = ((w.1 + 2, us (us w.2 w.1 7 12) ((w.1 : Int) + 1) 12 60) : NS) := by
      show ((w.1 + 1 + 1, us (us w.2 w.1 7 12) ((w.1 + 1 : Nat) : Int) 12 60) : NS) = _
      rw [show ((w.1 + 1 : Nat) : Int) = (w.1 : Int) + 1 by omega]
    rw [ew]
    have hFN : FixA (w.1 + 2, us (us w.2 w.1 7 12) ((w.1 : Int) + 1) 12 60) N := hF.grow hlt (k := 6) (by decide) mo m8
    have wo : ∀ y t m, w.2 y = (t, m) → t ≠ 0 → y < w.1 ∧ us (us w.2 w.1 7 12) ((w.1 : Int) + 1) 12 60 y = (t, m) := fun y t m hy ht => by
      have := (hlt y (by rw [hy]; exact Nat.pos_of_ne_zero ht)).2
      exact ⟨this, us_ne (us_ne hy (by omega)) (by omega)⟩
    have wx : us (us w.2 w.1 7 12) ((w.1 : Int) + 1) 12 60 w.1 = (7, 12) := us_ne (us_new _ _ _ _) (by omega)
    refine ⟨hFN, wx, _, cc_readWords (S := S') (k := n) hI' wx (by rw [m3]; exact (wo _ _ _ hG.2.1 (by decide)).2) (by rw [m3]; omega) (by rw [m3]; omega) (m4.trans s46.2.1.symm) (m5.trans s46.2.2.1.symm) (m6.trans s46.2.2.2.1.symm) (m7.trans s46.2.2.2.2.symm) (fun i i0 i1 => by rw [m3, mo _ lp1, s46.1, s 42 (by decide) (by decide)]; exact hG.2.2.2.2.2.2.2 i i0 i1), ?_⟩
    rintro _ _ N2 ⟨rfl, k1, k2, k3⟩
    have mo2 : ∀ y : Int, y < w.1 → N2 y = M y := fun y hy => (funext fun i => k3 y i (by unfold FRW; omega)).trans (mo y hy)
    have nx : ∀ i, i ≠ 7 → N2 w.1 i = N w.1 i := fun i hi => k3 _ i (by unfold FRW; omega)
    rw [mo2 1 (by omega), hC.top.2.1, hn]
    have pcl : ∀ e ∈ ordR S n, isPc S e := fun e he => by have := (ordR_mem S n e).mp he; unfold isPc; omega
    have u4 : ∀ e, isPc S e → up N2 4 (n : Int) (w.1 : Int) 4 e = M 4 e := fun e he => by rw [up_ni (by have := he.2; omega), mo2 4 (by omega)]
    refine ⟨by omega, by omega, wx, _, cc_putInOrder (S := S') (n := n) (R := ordR S n) (by rw [up_na (by decide), mo2 1 (by omega), hC.top.2.1, hn]) (by omega) wx ⟨by omega, by rw [up_na (by omega), nx 1 (by decide), m3]; have := hG.1; omega⟩ (by rw [up_na (by omega), nx 1 (by decide), m3]; exact (wo _ _ _ hG.2.1 (by decide)).2) up_eq (ordR_len S n) (fun j hj => ?_) (fun e he => ?_), ?_⟩
    · have eo : ordL S = (ordR S n).reverse := by unfold ordL; rw [hn]; rfl
      have hj2 : j < (ordL S).length := by rw [ordL_len, hn]; exact hj
      have h5 := hC.ln j hj2
      have hmem : (ordL S).getD j 0 ∈ ordL S := by
        rw [List.getD_eq_getElem?_getD, List.getElem?_eq_getElem hj2, Option.getD_some]; exact List.getElem_mem _
      rw [← eo, u4 _ ((ordL_mem _).mp hmem), up_na (by decide), mo2 5 (by omega)]
      exact h5
    · have he2 := pcl e he
      have hP := hC.pc e he2
      have w1 := wo _ _ _ hP.2.1 (by decide)
      have h83 := hP.1
      have hg := hI.po e he2
      have hQ := hC.pg _ hg
      have w2 := wo _ _ _ hQ.2.1 (by decide)
      have q83 := hQ.1
      have g83 := hG.1
      have a1 : up N2 4 (n : Int) (w.1 : Int) (M 4 e) 1 = M 3 (S 46 e) := by rw [up_na (by omega), mo2 _ w1.1]; exact hP.2.2.2.2.1
      have a2 : up N2 4 (n : Int) (w.1 : Int) w.1 1 = M 3 p := by rw [up_na (by omega), nx 1 (by decide), m3]
      rw [u4 e he2, a1, a2]
      refine ⟨w1.2, w2.2, by omega, by omega, ?_⟩
      unfold latB pgLt
      rw [up_fn (show M 3 (S 46 e) ≠ 4 by omega), up_fn (show M 3 p ≠ 4 by omega), mo2 _ w2.1, mo2 _ lp, hQ.2.2.2.2.1, hQ.2.2.2.2.2.1, hG.2.2.2.2.1, hG.2.2.2.2.2.1, s46.1, sk 46 e (by decide) (by decide) (by have := he2.2; omega), s 43 (by decide) (by decide), s 44 (by decide) (by decide)]
      grind
    · rintro _ _ N3 ⟨rfl, q1, q2⟩
      have e14 : N3 1 4 = n := by rw [q1 1 (by decide), up_na (by decide), mo2 1 (by omega), hC.top.2.1, hn]
      rw [e14]
      have u1 : ∀ y : Int, 83 < y → up (up N3 9 0 0) 1 4 ((n : Int) + 1) y = N2 y := fun y hy => by rw [up_fn (by omega), up_fn (by omega), q1 y (by omega), up_fn (by omega)]
      refine ⟨by omega, pc_u hop (hC.newPiece hI hn hp s s41 s12 sk s46.1 wo hn83 wx (us_new _ _ _ _) (fun y hy y1 y4 y5 y9 => ?_) (fun i hi => ?_) (by rw [up_eq]) (fun i hi => ?_) ?_ ?_ ?_ ?_ ?_ ?_ ?_ ?_ (fun j hj => ?_)) (frc_up (frc_up (fun y i hy => ?_) _ (by omega)) _ (by omega))⟩
      · rw [up_fn y1, up_fn y9, q1 y y5, up_fn y4, mo2 y hy]
      · rw [up_ni hi, up_na (by decide), q1 1 (by decide), up_na (by decide), mo2 1 (by omega)]
      · rw [up_na (by decide), up_na (by decide), q1 4 (by decide), up_ni hi, mo2 4 (by omega)]
      · rw [up_na (by decide), up_na (by decide), q1 4 (by decide), up_eq]
      · rw [up_na (by decide), up_eq]
      · rw [u1 _ hn83, nx 0 (by decide), m2]
      · rw [u1 _ hn83, nx 1 (by decide), m3]
      · rw [u1 _ hn83, nx 2 (by decide), nx 3 (by decide), nx 4 (by decide), nx 5 (by decide), m4, m5, m6, m7, s46.2.1, s46.2.2.1, s46.2.2.2.1, s46.2.2.2.2]; exact ⟨rfl, rfl, rfl, rfl⟩
      · rw [u1 _ hn83, nx 10 (by decide), nx 11 (by decide)]; exact ⟨m10, m11⟩
      · rw [u1 _ hn83]; exact k1
      · exact al_fr k2 (fun i => by rw [u1 _ (by omega)])
      · have v : ∀ y : Int, y ≠ 1 → y ≠ 9 → up (up N3 9 0 0) 1 4 ((n : Int) + 1) y = N3 y := fun y y1 y9 => (up_fn y1).trans (up_fn y9)
        rw [v 5 (by decide) (by decide), v 4 (by decide) (by decide), q1 4 (by decide)]
        exact q2 j hj
      · rw [q1 y (by omega), up_na (by omega), mo2 y (by omega)]
  · unfold op_piece; rw [if_neg (fun q => h0 (fun r => ((pgO_ne hC).mp r) q))]
