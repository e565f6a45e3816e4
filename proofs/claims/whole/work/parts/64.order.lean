/-! THE CLASS: order, the call -/
theorem fixD_4 : ∀ e ∈ fixD, e.1 ≠ 4 := by decide +kernel
/-- an object without a row, made at w.1 -/
theorem FixA.one {w : NS} {M M' : MM} {t n : Nat} (hF : FixA w M) (hr : ∀ a : Int, 0 < (w.2 a).1 → 0 < a ∧ a < w.1) (ht : ∀ e ∈ fixD, e.1 ≠ t) (hm : ∀ x : Int, x < w.1 → M' x = M x) : FixA (w.1 + 1, us w.2 w.1 t n) M' := by
  obtain ⟨h1, h2, h3, h4⟩ := hF
  have h5 : (nFix : Int) < w.1 := by exact_mod_cast h4
  refine ⟨fun a ha ha2 => us_ne (h1 a ha ha2) (by omega), fun e he2 => ?_, fun e he2 a ha => ?_, by show nFix < w.1 + 1; omega⟩
  · have hb := fixL_in e he2
    rw [hm e.1 (by omega)]; exact h2 e he2
  · have hd := fixD_in e he2
    have ha2 : us w.2 w.1 t n a = (e.1, e.2.1) := ha
    by_cases c2 : a = w.1
    · rw [c2, us_new] at ha2
      exact absurd (congrArg Prod.fst ha2).symm (ht e he2)
    · have ha3 : w.2 a = (e.1, e.2.1) := by unfold us at ha2; rw [if_neg c2] at ha2; exact ha2
      obtain ⟨q1, q2⟩ := h3 e he2 a ha3
      have l1 := (hr a (by rw [ha3]; exact Nat.pos_of_ne_zero hd.1)).2
      have l2 := (hr (a + 1) (by rw [q2]; exact (by decide : 0 < 12))).2
      exact ⟨by rw [hm a l1]; exact q1, us_ne q2 (by omega)⟩
theorem CInv.newOrder {S S' : MM} {w w' : NS} {M M' : MM} {n x c p f u m o : Int} (hC : CInv S w M) (hI : SInv S) (hn : S 41 26 = n) (hn2 : n < 10)
    (s : ∀ y, y ≠ 41 → ¬ (56 ≤ y ∧ y ≤ 63) → S' y = S y) (s41 : ∀ i, i ≠ 26 → S' 41 i = S 41 i) (s26 : S' 41 26 = n + 1) (sk : ∀ y k : Int, 58 ≤ y → y ≤ 63 → k ≠ n → S' y k = S y k) (s57 : ∀ k, k ≠ n → k ≠ 10 → S' 57 k = S 57 k) (s57n : S' 57 n = S 57 10) (s5710 : S' 57 10 = 0)
    (s56n : ∀ i, 0 ≤ i → i < S 57 10 → S' 56 (40 * n + i) = S 56 (400 + i)) (s56 : ∀ i, ¬ (40 * n ≤ i ∧ i < 40 * n + 40) → S' 56 i = S 56 i)
    (sv : S' 58 n = c ∧ S' 59 n = p ∧ S' 60 n = f ∧ S' 61 n = u ∧ S' 62 n = m ∧ S' 63 n = o)
    (wo : ∀ y t k, w.2 y = (t, k) → t ≠ 0 → y < x ∧ w'.2 y = (t, k)) (hx : 83 < x) (wx : w'.2 x = (4, 7)) (wr : w'.2 (x + 1) = (9, 2)) (wr1 : w'.2 (x + 1 + 1) = (12, 40))
    (ho : ∀ y, y < x → y ≠ 1 → y ≠ 6 → M' y = M y) (o1 : ∀ i, i ≠ 7 → i ≠ 8 → M' 1 i = M 1 i) (o17 : M' 1 7 = n + 1) (o18 : M' 1 8 = x + 1) (o6 : ∀ i : Int, i ≠ n → M' 6 i = M 6 i) (o6n : M' 6 n = x)
    (ov : M' x 0 = c ∧ M' x 2 = p ∧ M' x 3 = f ∧ M' x 4 = u ∧ M' x 5 = m ∧ M' x 6 = o) (ox : M' x 1 = M 1 8) (orr : M' (x + 1) 1 = 0) : CInv S' w' M' := by
  have hoc := hI.oc
  have hs2 : ∀ y i, y ≠ 41 → ¬ (56 ≤ y ∧ y ≤ 63) → S' y i = S y i := fun y i h1 h2 => by rw [s y h1 h2]
  have svS : SV S S' := ⟨s41 12 (by decide), trivial, fun k _ => ⟨trivial, hs2 _ _ (by decide) (by decide), hs2 _ _ (by decide) (by decide), hs2 _ _ (by decide) (by decide)⟩⟩
  have swl : ∀ k, wl S' k = wl S k := fun k => wl_c (s _ (by decide) (by decide)) (hs2 _ _ (by decide) (by decide)) (hs2 _ _ (by decide) (by decide)) (hs2 _ _ (by decide) (by decide)) (hs2 _ _ (by decide) (by decide)) (hs2 _ _ (by decide) (by decide))
  obtain ⟨r1, r2, r3, r4, r5⟩ := hC.sp
  have v2 := wo _ _ _ r2 (by decide)
  have v3 := wo _ _ _ r3 (by decide)
  have e18 : M' (M 1 8) = M (M 1 8) := ho _ v2.1 (by omega) (by omega)
  have e181 : M' (M 1 8 + 1) = M (M 1 8 + 1) := ho _ v3.1 (by omega) (by omega)
  have o4 : M' 4 = M 4 := ho 4 (by omega) (by decide) (by decide)
  refine ⟨⟨?_, ?_, ?_⟩, ⟨fun k a b => ?_, fun k a b => ?_⟩, fun q hq => ?_, fun k hk => ?_, fun d hd => ?_, ?_, fun k a b => ?_, fun r a b => ?_, fun j hj => ?_, ?_⟩
  · rw [o1 2 (by decide) (by decide), s41 4 (by decide)]; exact hC.top.1
  · rw [o1 4 (by decide) (by decide), s41 12 (by decide)]; exact hC.top.2.1
  · rw [o17, s26]
  · rw [ho 2 (by omega) (by decide) (by decide), s 53 (by decide) (by decide)]; exact hC.num.1 k a b
  · rw [ho 24 (by omega) (by decide) (by decide), s 83 (by decide) (by decide)]; exact hC.num.2 k a b
  · have hq2 : isPg S q := by unfold isPg at hq ⊢; rw [s41 4 (by decide)] at hq; exact hq
    have hP := hC.pg q hq2
    have h83 := hP.1
    have w1 := wo _ _ _ hP.2.1 (by decide)
    have w2 := wo _ _ _ hP.2.2.1 (by decide)
    exact hP.mv (ho 3 (by omega) (by decide) (by decide)) (ho _ w1.1 (by omega) (by omega)) (ho _ w2.1 (by omega) (by omega)) (hs2 _ _ (by decide) (by decide)) (hs2 _ _ (by decide) (by decide)) (hs2 _ _ (by decide) (by decide)) (fun i _ _ => hs2 _ _ (by decide) (by decide)) (w1.2.trans hP.2.1.symm) (w2.2.trans hP.2.2.1.symm)
  · have hK := hC.pc k (svS.pc.mp hk)
    have h83 := hK.1
    have w1 := wo _ _ _ hK.2.1 (by decide)
    have w2 := wo _ _ _ hK.2.2.1 (by decide)
    exact hK.mv (by rw [o4]) (by rw [ho 3 (by omega) (by decide) (by decide)]) (fun i _ _ => by rw [ho _ w1.1 (by omega) (by omega)]) (ho _ w2.1 (by omega) (by omega)) (hs2 _ _ (by decide) (by decide)) (hs2 _ _ (by decide) (by decide)) (hs2 _ _ (by decide) (by decide)) (hs2 _ _ (by decide) (by decide)) (hs2 _ _ (by decide) (by decide)) (hs2 _ _ (by decide) (by decide)) (hs2 _ _ (by decide) (by decide)) (swl k) (w1.2.trans hK.2.1.symm) (w2.2.trans hK.2.2.1.symm)
  · by_cases e : d = n
    · rw [e]
      unfold COrder
      rw [o6n, sv.1, sv.2.1, sv.2.2.1, sv.2.2.2.1, sv.2.2.2.2.1, sv.2.2.2.2.2, ox, o18]
      refine ⟨hx, wx, ov, ⟨r1, v2.2, v3.2, ?_, fun i i0 i1 => ?_⟩, by omega⟩
      · rw [e18, s57n]; exact r4
      · rw [s57n] at i1
        rw [e181, s56n i i0 i1]
        exact r5 i i0 i1
    · have hd2 : isOr S d := by unfold isOr at hd ⊢; rw [s26] at hd; omega
      have hO := hC.od d hd2
      obtain ⟨q1, q2, q3, -⟩ := hO.2.2.2.1
      have h83 := hO.1
      have w1 := wo _ _ _ hO.2.1 (by decide)
      have w2 := wo _ _ _ q2 (by decide)
      have w3 := wo _ _ _ q3 (by decide)
      have d10 : d ≠ 10 := by have := hd2.2; omega
      exact hO.mv (o6 d e) (ho _ w1.1 (by omega) (by omega)) (ho _ w2.1 (by omega) (by omega)) (ho _ w3.1 (by omega) (by omega)) (Or.inr (by rw [o18]; omega)) (fun y y1 y2 => by
        by_cases h57 : y = 57
        · rw [h57]; exact s57 d e d10
        · exact sk y d (by omega) y2 e) (fun i i0 i1 => s56 _ (by omega)) (hI.sm d).2 (w1.2.trans hO.2.1.symm) (w2.2.trans q2.symm) (w3.2.trans q3.symm)
  · rw [o18]
    exact ⟨Or.inr (by omega), wr, wr1, by rw [orr, s5710], fun i i0 i1 => by rw [s5710] at i1; omega⟩
  · have hm := hC.nm k a b
    exact ⟨by rw [ho _ (by omega) (by omega) (by omega), s 72 (by decide) (by decide)]; exact hm.1, fun y p2 q2 => by rw [ho _ (by omega) (by omega) (by omega), s 73 (by decide) (by decide)]; exact hm.2 y p2 q2⟩
  · have hr := hC.rd r a b
    rw [ho (33 + 2 * r) (by omega) (by omega) (by omega), ho (33 + 2 * r + 1) (by omega) (by omega) (by omega), s 77 (by decide) (by decide), s 78 (by decide) (by decide), s 79 (by decide) (by decide)]
    exact hr
  · rw [svS.ord hI.pc.1] at hj ⊢
    rw [ho 5 (by omega) (by decide) (by decide), o4]; exact hC.ln j hj
  · refine CFam.mv hC hI svS ⟨hs2 _ _ (by decide) (by decide), fun k _ => swl k⟩ (by rw [ho 9 (by omega) (by decide) (by decide)]) o4 (fun k hk => ?_)
    have hK := hC.pc k hk
    have h83 := hK.1
    rw [ho _ (wo _ _ _ hK.2.1 (by decide)).1 (by omega) (by omega)]
    exact ⟨rfl, rfl⟩
theorem cc_order {G : GP} {l : Launch} {w : NS} {S M : MM} {c p f u m o : Int} (hI : SInv S) (hC : CInv S w M) (hob : o = 0 ∨ o = 1) : CT_X9_order G l [(2, 1), (0, c), (0, p), (0, f), (0, u), (0, m), (0, o)] w M (PC M (op_order S c p f u m o)) := by
  refine E_X9_order (fun _ _ _ _ _ _ X hX C => ?_)
  refine WA.fix (fun hF => WA.rng (fun hR => ?_))
  refine B_X9_order_0 C ?_
  have hoc := hI.oc
  obtain ⟨-, -, hlt⟩ := hR
  have hn83 : (83 : Int) < w.1 := by exact_mod_cast hF.2.2.2
  rw [hC.top.2.2]
  have flr : fltS S 10 = -6 ∨ 0 ≤ fltS S 10 := by
    have key : ∀ (sg : Int → Int) (n : Int), 0 ≤ n → ∀ (k : Nat) (t d i : Int), 0 ≤ i → fltF sg n k t d i = -6 ∨ 0 ≤ fltF sg n k t d i := fun sg n hn k => by
      induction k with
      | zero => intro t d i hi; unfold fltF; split <;> omega
      | succ k ih => intro t d i hi; unfold fltF; split; omega; exact ih _ _ _ (by omega)
    exact key _ _ (hI.sm 10).1 _ _ _ _ (by omega)
  have n2 : ¬ ((0 ≤ c ∧ c ≤ 5) ∧ (0 ≤ p ∧ p ≤ 1023) ∧ (0 ≤ f ∧ f ≤ u ∧ u ≤ 99) ∧ 0 ≤ m ∧ m ≤ 20) → PC M (op_order S c p f u m o) (-2) w M := fun h => pc_s hC (by unfold op_order; rw [if_neg h])
  refine ⟨fun h1 => n2 (by omega), fun h1 => ⟨fun h2 => n2 (by omega), fun h2 => ⟨fun h3 => n2 (by omega), fun h3 => ⟨fun h4 => ⟨fun h5 => ⟨hC.sp.2.1, _, cc_faultPlace hI hC.sp, ?_⟩, fun h5 => pc_s hC ?_⟩, fun h4 => n2 (by omega)⟩⟩⟩⟩
  · rintro _ _ _ ⟨rfl, rfl, rfl⟩
    refine ⟨fun h6 => ?_, fun h6 => pc_s hC ?_⟩
    · have hop : op_order S c p f u m o = (S 41 26, ordS S c p f u m o) := by
        unfold op_order; rw [if_pos (by omega), if_neg (by omega), if_neg (by omega)]
      rintro _ rfl
      refine ⟨by omega, _, cc_X3_init (us_new _ _ _ _) hob, ?_⟩
      rintro _ _ N ⟨rfl, m1, m2, m3⟩
      have mo : ∀ y : Int, y < w.1 → N y = M y := fun y hy => m1 y (by omega)
      have hFN : FixA (w.1 + 1, us w.2 w.1 4 7) N := hF.one hlt fixD_4 mo
      rw [hC.top.2.2]
      refine ⟨hFN, hoc.1, by omega, us_new _ _ _ _, ?_⟩
      rintro _ rfl
      have hw1 : ((w.1 + 1 : Nat) : Int) = (w.1 : Int) + 1 := by omega
      refine ⟨by show (6 : Int) < ((w.1 + 1 : Nat) : Int); omega, by show (w.1 : Int) < ((w.1 + 1 : Nat) : Int); omega, _, cc_X8_init (us_new _ _ _ _) (by show ((w.1 + 1 + 1 : Nat) : Int) = ((w.1 + 1 : Nat) : Int) + 1; omega), ?_⟩
      rintro _ _ N2 ⟨rfl, k1, k2, k3⟩
      have ew : (((((w.1 + 1, us w.2 w.1 4 7) : NS).1 + 1, us ((w.1 + 1, us w.2 w.1 4 7) : NS).2 ((w.1 + 1, us w.2 w.1 4 7) : NS).1 9 2) : NS).1 + 1, us ((((w.1 + 1, us w.2 w.1 4 7) : NS).1 + 1, us ((w.1 + 1, us w.2 w.1 4 7) : NS).2 ((w.1 + 1, us w.2 w.1 4 7) : NS).1 9 2) : NS).2 ((((w.1 + 1, us w.2 w.1 4 7) : NS).1 + 1, us ((w.1 + 1, us w.2 w.1 4 7) : NS).2 ((w.1 + 1, us w.2 w.1 4 7) : NS).1 9 2) : NS).1 12 40) = ((w.1 + 3, us (us (us w.2 w.1 4 7) ((w.1 : Int) + 1) 9 2) ((w.1 : Int) + 1 + 1) 12 40) : NS) := by
        show ((w.1 + 1 + 1 + 1, us (us (us w.2 w.1 4 7) ((w.1 + 1 : Nat) : Int) 9 2) ((w.1 + 1 + 1 : Nat) : Int) 12 40) : NS) = _
        rw [hw1, show ((w.1 + 1 + 1 : Nat) : Int) = (w.1 : Int) + 1 + 1 by omega]
      rw [ew]
      have k1' : ∀ y, y ≠ (w.1 : Int) + 1 → N2 y = up N 6 (S 41 26) (w.1 : Int) y := fun y hy => k1 y (by show y ≠ ((w.1 + 1 : Nat) : Int); omega)
      have k2' : N2 ((w.1 : Int) + 1) 0 = (w.1 : Int) + 1 + 1 := by rw [← hw1]; exact k2
      have k3' : N2 ((w.1 : Int) + 1) 1 = 0 := by rw [← hw1]; exact k3
      have hlt1 : ∀ a : Int, 0 < (((w.1 + 1, us w.2 w.1 4 7) : NS).2 a).1 → 0 < a ∧ a < ((w.1 + 1, us w.2 w.1 4 7) : NS).1 := fun a ha => by
        show 0 < a ∧ a < ((w.1 + 1 : Nat) : Int)
        by_cases e : a = w.1
        · omega
        · have : 0 < (w.2 a).1 := by
            have h7 : us w.2 w.1 4 7 a = w.2 a := us_ne rfl e
            rw [← h7]; exact ha
          have := hlt a this; omega
      have hF6 : FixA (w.1 + 1, us w.2 w.1 4 7) (up N 6 (S 41 26) (w.1 : Int)) := hFN.stT (sh_6 hFN) (by decide) _
      have hFN2 : FixA (w.1 + 3, us (us (us w.2 w.1 4 7) ((w.1 : Int) + 1) 9 2) ((w.1 : Int) + 1 + 1) 12 40) N2 := by
        have := hF6.grow (M' := N2) (t := 9) (n := 2) (k := 0) (m := 40) hlt1 (by decide) (fun y hy => k1' y (by have : y < ((w.1 + 1 : Nat) : Int) := hy; omega)) (by show N2 ((w.1 + 1 : Nat) : Int) 0 = ((w.1 + 1 : Nat) : Int) + 1; rw [hw1]; exact k2')
        rw [show (((w.1 + 1, us w.2 w.1 4 7) : NS).1 : Int) = (w.1 : Int) + 1 from hw1] at this
        exact this
      have e17 : N2 1 7 = S 41 26 := by rw [k1' 1 (by omega), up_na (by decide), mo 1 (by omega)]; exact hC.top.2.2
      rw [e17]
      refine ⟨hFN2, by omega, ?_⟩
      rw [show (((w.1 + 1, us w.2 w.1 4 7) : NS).1 : Int) = (w.1 : Int) + 1 from hw1]
      have hm1 : ∀ y : Int, y ≠ 1 → up (up N2 1 8 ((w.1 : Int) + 1)) 1 7 (S 41 26 + 1) y = N2 y := fun y hy => (up_fn hy).trans (up_fn hy)
      have hs56 := hI.sm 10
      refine pc_u hop (hC.newOrder (x := w.1) (n := S 41 26) (c := c) (p := p) (f := f) (u := u) (m := m) (o := o) hI rfl (by omega) (fun y y1 y2 => ?_) (fun i hi => ?_) ?_ (fun y k y1 y2 hk => ?_) (fun k h7 h8 => ?_) ?_ ?_ (fun i i0 i1 => ?_) (fun i hi => ?_) ?_ (fun y t k hy ht => ?_) hn83 ?_ ?_ ?_ (fun y y0 y1 y6 => ?_) (fun i i7 i8 => ?_) ?_ ?_ (fun i hi => ?_) ?_ ?_ ?_ ?_) (fun y i hy => ?_)
      · unfold ordS; rw [up_fn y1, up_fn (by omega), up_fn (by omega), up_fn (by omega), up_fn (by omega), up_fn (by omega), up_fn (by omega), up_fn (by omega), up_fn (by omega)]
        funext i; unfold cpyS; rw [if_neg (by omega)]
      · unfold ordS; rw [up_ni hi, up_na (by decide), up_na (by decide), up_na (by decide), up_na (by decide), up_na (by decide), up_na (by decide), up_na (by decide), up_na (by decide)]
        unfold cpyS; rw [if_neg (by omega)]
      · unfold ordS; rw [up_eq]
      · unfold ordS; rw [up_na (by omega), up_ni hk, up_ni hk, up_ni hk, up_ni hk, up_ni hk, up_ni hk, up_na (by omega), up_na (by omega)]
        unfold cpyS; rw [if_neg (by omega)]
      · unfold ordS; rw [up_na (by omega), up_na (by omega), up_na (by omega), up_na (by omega), up_na (by omega), up_na (by omega), up_na (by omega), up_ni h8, up_ni h7]
        unfold cpyS; rw [if_neg (by omega)]
      · unfold ordS; rw [up_na (by omega), up_na (by omega), up_na (by omega), up_na (by omega), up_na (by omega), up_na (by omega), up_na (by omega), up_ni (by omega), up_eq]
      · unfold ordS; rw [up_na (by omega), up_na (by omega), up_na (by omega), up_na (by omega), up_na (by omega), up_na (by omega), up_na (by omega), up_eq]
      · unfold ordS; rw [up_na (by omega), up_na (by omega), up_na (by omega), up_na (by omega), up_na (by omega), up_na (by omega), up_na (by omega), up_na (by omega), up_na (by omega)]
        unfold cpyS; rw [if_pos (by omega)]; congr 1; omega
      · unfold ordS; rw [up_na (by omega), up_na (by omega), up_na (by omega), up_na (by omega), up_na (by omega), up_na (by omega), up_na (by omega), up_na (by omega), up_na (by omega)]
        unfold cpyS; rw [if_neg (by omega)]
      · unfold ordS; simp [up_ap]
      · have := (hlt y (by rw [hy]; exact Nat.pos_of_ne_zero ht)).2
        exact ⟨this, us_ne (us_ne (us_ne hy (by omega)) (by omega)) (by omega)⟩
      · exact us_ne (us_ne (us_new _ _ _ _) (by omega)) (by omega)
      · exact us_ne (us_new _ _ _ _) (by omega)
      · exact us_new _ _ _ _
      · rw [hm1 y y1, k1' y (by omega), up_fn y6, mo y y0]
      · rw [up_ni i7, up_ni i8, k1' 1 (by omega), up_na (by decide), mo 1 (by omega)]
      · rw [up_eq]
      · rw [up_ni (by decide), up_eq]
      · rw [hm1 6 (by decide), k1' 6 (by omega), up_ni hi, mo 6 (by omega)]
      · rw [hm1 6 (by decide), k1' 6 (by omega), up_eq]
      · rw [hm1 _ (by omega), k1' _ (by omega), up_fn (by omega)]; exact m2
      · rw [hm1 _ (by omega), k1' _ (by omega), up_fn (by omega)]; exact m3
      · rw [hm1 _ (by omega)]; exact k3'
      · rw [hm1 y (by omega), k1' y (by omega), up_fn (by omega), mo y (by omega)]
    · unfold op_order; rw [if_pos (by omega), if_neg (by omega), if_pos (by omega)]
  · unfold op_order; rw [if_pos (by omega), if_pos (by omega)]
