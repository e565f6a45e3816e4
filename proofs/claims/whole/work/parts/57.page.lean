/-! THE CLASS: page -/
theorem cc_page {G : GP} {l : Launch} {w : NS} {S M : MM} {a b : Int} (hI : SInv S) (hC : CInv S w M) : CT_X9_page G l [(2, 1), (0, a), (0, b)] w M (PC M (op_page S a b)) := by
  refine E_X9_page (fun _ _ X hX C => ?_)
  refine WA.fix (fun hF => WA.rng (fun hR => ?_))
  refine B_X9_page_0 C ?_
  have hpg := hI.pg
  obtain ⟨-, -, hlt⟩ := hR
  have hn83 : (83 : Int) < w.1 := by exact_mod_cast hF.2.2.2
  rw [hC.top.1]
  refine ⟨fun h1 => pc_s hC (by unfold op_page; grind), fun h1 => ⟨fun h2 => ⟨fun h3 => ?_, fun h3 => pc_s hC (by unfold op_page; grind)⟩, fun h2 => pc_s hC (by unfold op_page; grind)⟩⟩
  rintro _ rfl
  refine ⟨by omega, _, cc_X4_init (us_new _ _ _ _) (by show ((w.1 + 1 : Nat) : Int) = _; omega), ?_⟩
  rintro _ _ N ⟨rfl, m1, m2, m3, m4, m5, m6, m7⟩
  have hop : op_page S a b = (S 41 4, up (up (up (up S 43 (S 41 4) a) 44 (S 41 4) b) 45 (S 41 4) (-6)) 41 4 (S 41 4 + 1)) := by
    unfold op_page; rw [if_pos ⟨h1, h2⟩, if_neg (by omega)]
  have mo : ∀ x : Int, x < w.1 → N x = M x := fun x hx => m1 x (by omega) (by omega)
  have ew : (((w.1 + 1, us w.2 w.1 5 5) : NS).1 + 1, us ((w.1 + 1, us w.2 w.1 5 5) : NS).2 ((w.1 + 1, us w.2 w.1 5 5) : NS).1 12 60) = ((w.1 + 2, us (us w.2 w.1 5 5) ((w.1 : Int) + 1) 12 60) : NS) := by
    show ((w.1 + 1 + 1, us (us w.2 w.1 5 5) ((w.1 + 1 : Nat) : Int) 12 60) : NS) = _
    rw [show ((w.1 + 1 : Nat) : Int) = (w.1 : Int) + 1 by omega]
  rw [ew]
  have hFN : FixA (w.1 + 2, us (us w.2 w.1 5 5) ((w.1 : Int) + 1) 12 60) N := hF.grow hlt (k := 3) (by decide) mo m5
  have e12 : N 1 2 = S 41 4 := by rw [mo 1 (by omega)]; exact hC.top.1
  have wo : ∀ x t n, w.2 x = (t, n) → t ≠ 0 → x < w.1 ∧ us (us w.2 w.1 5 5) ((w.1 : Int) + 1) 12 60 x = (t, n) := fun x t n hx ht => by
    have := (hlt x (by rw [hx]; exact Nat.pos_of_ne_zero ht)).2
    exact ⟨this, us_ne (us_ne hx (by omega)) (by omega)⟩
  rw [e12]
  refine ⟨hFN, by omega, by omega, us_ne (us_new _ _ _ _) (by omega), by omega, ?_⟩
  refine pc_u hop ?_ (frc_up (frc_up (fun x i hx => by rw [mo x (by omega)]) _ (by omega)) _ (by omega))
  generalize hM' : up (up N 3 (S 41 4) (w.1 : Int)) 1 2 (S 41 4 + 1) = M'
  generalize hS' : up (up (up (up S 43 (S 41 4) a) 44 (S 41 4) b) 45 (S 41 4) (-6)) 41 4 (S 41 4 + 1) = S'
  have o : ∀ x : Int, x < w.1 → x ≠ 1 → x ≠ 3 → M' x = M x := fun x hx x1 x3 => by rw [← hM', up_fn x1, up_fn x3]; exact mo x hx
  have o1 : ∀ i, i ≠ 2 → M' 1 i = M 1 i := fun i hi => by rw [← hM', up_ni hi, up_na (by decide), mo 1 (by omega)]
  have o3 : ∀ i, i ≠ S 41 4 → M' 3 i = M 3 i := fun i hi => by rw [← hM', up_na (by decide), up_ni hi, mo 3 (by omega)]
  have o3n : M' 3 (S 41 4) = w.1 := by rw [← hM', up_na (by decide), up_eq]
  have oN : ∀ x : Int, 83 < x → M' x = N x := fun x hx => by rw [← hM', up_fn (by omega), up_fn (by omega)]
  have s : ∀ x, x ≠ 41 → x ≠ 43 → x ≠ 44 → x ≠ 45 → S' x = S x := fun x q1 q2 q3 q4 => by rw [← hS', up_fn q1, up_fn q4, up_fn q3, up_fn q2]
  have s41 : ∀ i, i ≠ 4 → S' 41 i = S 41 i := fun i hi => by rw [← hS', up_ni hi, up_na (by decide), up_na (by decide), up_na (by decide)]
  have s4 : S' 41 4 = S 41 4 + 1 := by rw [← hS', up_eq]
  have sp : ∀ p, p ≠ S 41 4 → S' 43 p = S 43 p ∧ S' 44 p = S 44 p ∧ S' 45 p = S 45 p := fun p hp => by
    rw [← hS']
    exact ⟨by rw [up_na (by decide), up_na (by decide), up_na (by decide), up_ni hp], by rw [up_na (by decide), up_na (by decide), up_ni hp, up_na (by decide)], by rw [up_na (by decide), up_ni hp, up_na (by decide), up_na (by decide)]⟩
  have sn : S' 43 (S 41 4) = a ∧ S' 44 (S 41 4) = b ∧ S' 45 (S 41 4) = -6 := by
    rw [← hS']
    exact ⟨by rw [up_na (by decide), up_na (by decide), up_na (by decide), up_eq], by rw [up_na (by decide), up_na (by decide), up_eq], by rw [up_na (by decide), up_eq]⟩
  have pk : ∀ k, isPc S' k → isPc S k := fun k hk => by unfold isPc at hk ⊢; rw [s41 12 (by decide)] at hk; exact hk
  have sv : SV S S' := ⟨s41 12 (by decide), trivial, fun k hk => by
    have hg := hI.po k hk
    have q := sp (S 46 k) (by have := hg.2; omega)
    exact ⟨trivial, by rw [s 46 (by decide) (by decide) (by decide) (by decide)], q.1, q.2.1⟩⟩
  have swl : ∀ k, wl S' k = wl S k := fun k => wl_c (s _ (by decide) (by decide) (by decide) (by decide)) (by rw [s 46 (by decide) (by decide) (by decide) (by decide)]) (by rw [s 47 (by decide) (by decide) (by decide) (by decide)]) (by rw [s 48 (by decide) (by decide) (by decide) (by decide)]) (by rw [s 49 (by decide) (by decide) (by decide) (by decide)]) (by rw [s 50 (by decide) (by decide) (by decide) (by decide)])
  have o4 : M' 4 = M 4 := o 4 (by omega) (by decide) (by decide)
  refine ⟨⟨?_, ?_, ?_⟩, ⟨fun k p q => ?_, fun k p q => ?_⟩, fun p hp => ?_, fun k hk => ?_, fun od ho => ?_, ?_, fun n p q => ?_, fun r p q => ?_, fun j hj => ?_, ?_⟩
  · rw [s4, ← hM', up_eq]
  · rw [o1 4 (by decide), s41 12 (by decide)]; exact hC.top.2.1
  · rw [o1 7 (by decide), s41 26 (by decide)]; exact hC.top.2.2
  · rw [o 2 (by omega) (by decide) (by decide), s 53 (by decide) (by decide) (by decide) (by decide)]; exact hC.num.1 k p q
  · rw [o 24 (by omega) (by decide) (by decide), s 83 (by decide) (by decide) (by decide) (by decide)]; exact hC.num.2 k p q
  · unfold CPage
    by_cases ep : p = S 41 4
    · rw [ep, o3n, oN _ hn83, oN ((w.1 : Int) + 1) (by omega), sn.1, sn.2.1, sn.2.2, s 42 (by decide) (by decide) (by decide) (by decide)]
      refine ⟨hn83, us_ne (us_new _ _ _ _) (by omega), us_new _ _ _ _, m2, m3, m4, m6, fun i i0 i1 => ?_⟩
      rw [m7 i i0 i1, hI.wn (S 41 4) i (by omega) (by omega) i0 i1]
    · have hp2 : isPg S p := by unfold isPg at hp ⊢; rw [s4] at hp; omega
      obtain ⟨q1, q2, q3, q4, q5, q6, q7, q8⟩ := hC.pg p hp2
      have w1 := wo _ _ _ q2 (by decide)
      have w2 := wo _ _ _ q3 (by decide)
      rw [o3 p ep, o _ w1.1 (by omega) (by omega), o _ w2.1 (by omega) (by omega), (sp p ep).1, (sp p ep).2.1, (sp p ep).2.2, s 42 (by decide) (by decide) (by decide) (by decide)]
      refine ⟨q1, w1.2, w2.2, q4, q5, q6, ?_, q8⟩
      rw [q7]
      by_cases hs : S 45 p < 0
      · rw [if_pos hs, if_pos hs]
      · rw [if_neg hs, if_neg hs, o3 _ (by
          rcases hI.sd p hp2 with r | r
          · omega
          · have := r.1.2; omega)]
  · have hk2 := pk k hk
    have hK := hC.pc k hk2
    have w1 := wo _ _ _ hK.2.1 (by decide)
    have w2 := wo _ _ _ hK.2.2.1 (by decide)
    have h83 := hK.1
    have s' : ∀ x i, x ≠ 41 → x ≠ 43 → x ≠ 44 → x ≠ 45 → S' x i = S x i := fun x i q1 q2 q3 q4 => by rw [s x q1 q2 q3 q4]
    exact hK.mv (by rw [o4]) (o3 _ (by have := (hI.po k hk2).2; omega)) (fun i _ _ => by rw [o _ w1.1 (by omega) (by omega)]) (o _ w2.1 (by omega) (by omega)) (s' _ _ (by decide) (by decide) (by decide) (by decide)) (s' _ _ (by decide) (by decide) (by decide) (by decide)) (s' _ _ (by decide) (by decide) (by decide) (by decide)) (s' _ _ (by decide) (by decide) (by decide) (by decide)) (s' _ _ (by decide) (by decide) (by decide) (by decide)) (s' _ _ (by decide) (by decide) (by decide) (by decide)) (s' _ _ (by decide) (by decide) (by decide) (by decide)) (swl k) (w1.2.trans hK.2.1.symm) (w2.2.trans hK.2.2.1.symm)
  · have ho2 : isOr S od := by unfold isOr at ho ⊢; rw [s41 26 (by decide)] at ho; exact ho
    have hO := hC.od od ho2
    obtain ⟨r1, r2, r3, -⟩ := hO.2.2.2.1
    have h83 := hO.1
    have w1 := wo _ _ _ hO.2.1 (by decide)
    have w2 := wo _ _ _ r2 (by decide)
    have w3 := wo _ _ _ r3 (by decide)
    exact hO.mv (by rw [o 6 (by omega) (by decide) (by decide)]) (o _ w1.1 (by omega) (by omega)) (o _ w2.1 (by omega) (by omega)) (o _ w3.1 (by omega) (by omega)) (Or.inl (o1 8 (by decide))) (fun x x1 x2 => by rw [s x (by omega) (by omega) (by omega) (by omega)]) (fun i _ _ => by rw [s 56 (by decide) (by decide) (by decide) (by decide)]) (hI.sm od).2 (w1.2.trans hO.2.1.symm) (w2.2.trans r2.symm) (w3.2.trans r3.symm)
  · rw [o1 8 (by decide)]
    obtain ⟨r1, r2, r3, -⟩ := hC.sp
    have w2 := wo _ _ _ r2 (by decide)
    have w3 := wo _ _ _ r3 (by decide)
    exact hC.sp.mv (o _ w2.1 (by omega) (by omega)) (o _ w3.1 (by omega) (by omega)) (by rw [s 57 (by decide) (by decide) (by decide) (by decide)]) (fun i _ _ => by rw [s 56 (by decide) (by decide) (by decide) (by decide)]) (hI.sm 10).2 (w2.2.trans r2.symm) (w3.2.trans r3.symm)
  · have hn := hC.nm n p q
    exact ⟨by rw [o _ (by omega) (by omega) (by omega), s 72 (by decide) (by decide) (by decide) (by decide)]; exact hn.1, fun x p2 q2 => by rw [o _ (by omega) (by omega) (by omega), s 73 (by decide) (by decide) (by decide) (by decide)]; exact hn.2 x p2 q2⟩
  · have hr := hC.rd r p q
    rw [o (33 + 2 * r) (by omega) (by omega) (by omega), o (33 + 2 * r + 1) (by omega) (by omega) (by omega), s 77 (by decide) (by decide) (by decide) (by decide), s 78 (by decide) (by decide) (by decide) (by decide), s 79 (by decide) (by decide) (by decide) (by decide)]
    exact hr
  · rw [sv.ord hI.pc.1] at hj ⊢
    rw [o 5 (by omega) (by decide) (by decide), o4]; exact hC.ln j hj
  · refine CFam.mv hC hI sv ⟨by rw [s 53 (by decide) (by decide) (by decide) (by decide)], fun k _ => swl k⟩ (by rw [o 9 (by omega) (by decide) (by decide)]) o4 (fun k hk => ?_)
    have hK := hC.pc k hk
    have h83 := hK.1
    rw [o _ (wo _ _ _ hK.2.1 (by decide)).1 (by omega) (by omega)]
    exact ⟨rfl, rfl⟩
