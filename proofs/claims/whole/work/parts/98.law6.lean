set_option maxRecDepth 100000 in
theorem wd_574 : (Jvm.Cond.laysStatic "CutBureau" "LEAST_SETTING" "[I") ∈ lw_tbl := inT3 (List.mem_of_getElem? (i := 33) rfl)
set_option maxRecDepth 100000 in
theorem wd_576 : (Jvm.Cond.laysStatic "CutBureau" "GREATEST_SETTING" "[I") ∈ lw_tbl := inT3 (List.mem_of_getElem? (i := 35) rfl)
set_option maxRecDepth 100000 in
theorem wd_702 : (Jvm.Cond.laysStatic "CutBureau$Parting" "PAGE_UNITS" "[I") ∈ lw_tbl := inT3 (List.mem_of_getElem? (i := 161) rfl)

theorem ext_ls {args : Array Value} {s : State} {A : Nat → Prop} (hts : ∀ w ∈ lw_tbl, w.before args s = true) (hgv : (Jvm.Cond.and given_1 narrow_1).before args s = true) (hA : ∀ a : Nat, a < s.heap.size → ¬ A a) : ∃ t : Nat, va_Z "CutBureau" "LEAST_SETTING" "[I" (.ref t) A s s.heap ∧ va_T .int t 9 (fun j => .int (Int32.ofInt (LSf j))) A s s.heap := by
  have hs := flat_of_before _ hgv
  have harr : (Cond.arrayOf (.static "CutBureau" "LEAST_SETTING" "[I") .int).before args s = true := hs _ (by decide +kernel)
  have hlen : (Cond.eq (.length (.static "CutBureau" "LEAST_SETTING" "[I")) (.int 9)).before args s = true := hs _ (by decide +kernel)
  obtain ⟨t, h1, h2⟩ := va_Tof (tm := (.static "CutBureau" "LEAST_SETTING" "[I")) (N := 9) (f := fun j => .int (Int32.ofInt (LSf j))) (by decide) harr (va_eqt hlen) (fun j hj => by
    rcases (show j = 0 ∨ j = 1 ∨ j = 2 ∨ j = 3 ∨ j = 4 ∨ j = 5 ∨ j = 6 ∨ j = 7 ∨ j = 8 by omega) with rfl | rfl | rfl | rfl | rfl | rfl | rfl | rfl | rfl
    · have h : (Cond.eq (.elem (.static "CutBureau" "LEAST_SETTING" "[I") (.int 0)) (.int 0)).before args s = true := hs _ (by decide +kernel)
      exact va_eqt h
    · have h : (Cond.eq (.elem (.static "CutBureau" "LEAST_SETTING" "[I") (.int 1)) (.int 0)).before args s = true := hs _ (by decide +kernel)
      exact va_eqt h
    · have h : (Cond.eq (.elem (.static "CutBureau" "LEAST_SETTING" "[I") (.int 2)) (.int 1)).before args s = true := hs _ (by decide +kernel)
      exact va_eqt h
    · have h : (Cond.eq (.elem (.static "CutBureau" "LEAST_SETTING" "[I") (.int 3)) (.int 0)).before args s = true := hs _ (by decide +kernel)
      exact va_eqt h
    · have h : (Cond.eq (.elem (.static "CutBureau" "LEAST_SETTING" "[I") (.int 4)) (.int 1)).before args s = true := hs _ (by decide +kernel)
      exact va_eqt h
    · have h : (Cond.eq (.elem (.static "CutBureau" "LEAST_SETTING" "[I") (.int 5)) (.int 0)).before args s = true := hs _ (by decide +kernel)
      exact va_eqt h
    · have h : (Cond.eq (.elem (.static "CutBureau" "LEAST_SETTING" "[I") (.int 6)) (.int 0)).before args s = true := hs _ (by decide +kernel)
      exact va_eqt h
    · have h : (Cond.eq (.elem (.static "CutBureau" "LEAST_SETTING" "[I") (.int 7)) (.int 0)).before args s = true := hs _ (by decide +kernel)
      exact va_eqt h
    · have h : (Cond.eq (.elem (.static "CutBureau" "LEAST_SETTING" "[I") (.int 8)) (.int 0)).before args s = true := hs _ (by decide +kernel)
      exact va_eqt h
    ) hA
  exact ⟨t, va_Zref (hts _ wd_574) (hts _ wd_62) h1 hA, h2⟩
theorem ext_gs {args : Array Value} {s : State} {A : Nat → Prop} (hts : ∀ w ∈ lw_tbl, w.before args s = true) (hgv : (Jvm.Cond.and given_1 narrow_1).before args s = true) (hA : ∀ a : Nat, a < s.heap.size → ¬ A a) : ∃ t : Nat, va_Z "CutBureau" "GREATEST_SETTING" "[I" (.ref t) A s s.heap ∧ va_T .int t 9 (fun j => .int (Int32.ofInt (GSf j))) A s s.heap := by
  have hs := flat_of_before _ hgv
  have harr : (Cond.arrayOf (.static "CutBureau" "GREATEST_SETTING" "[I") .int).before args s = true := hs _ (by decide +kernel)
  have hlen : (Cond.eq (.length (.static "CutBureau" "GREATEST_SETTING" "[I")) (.int 9)).before args s = true := hs _ (by decide +kernel)
  obtain ⟨t, h1, h2⟩ := va_Tof (tm := (.static "CutBureau" "GREATEST_SETTING" "[I")) (N := 9) (f := fun j => .int (Int32.ofInt (GSf j))) (by decide) harr (va_eqt hlen) (fun j hj => by
    rcases (show j = 0 ∨ j = 1 ∨ j = 2 ∨ j = 3 ∨ j = 4 ∨ j = 5 ∨ j = 6 ∨ j = 7 ∨ j = 8 by omega) with rfl | rfl | rfl | rfl | rfl | rfl | rfl | rfl | rfl
    · have h : (Cond.eq (.elem (.static "CutBureau" "GREATEST_SETTING" "[I") (.int 0)) (.int 100)).before args s = true := hs _ (by decide +kernel)
      exact va_eqt h
    · have h : (Cond.eq (.elem (.static "CutBureau" "GREATEST_SETTING" "[I") (.int 1)) (.int 20)).before args s = true := hs _ (by decide +kernel)
      exact va_eqt h
    · have h : (Cond.eq (.elem (.static "CutBureau" "GREATEST_SETTING" "[I") (.int 2)) (.int 1000)).before args s = true := hs _ (by decide +kernel)
      exact va_eqt h
    · have h : (Cond.eq (.elem (.static "CutBureau" "GREATEST_SETTING" "[I") (.int 3)) (.int 1000)).before args s = true := hs _ (by decide +kernel)
      exact va_eqt h
    · have h : (Cond.eq (.elem (.static "CutBureau" "GREATEST_SETTING" "[I") (.int 4)) (.int 100)).before args s = true := hs _ (by decide +kernel)
      exact va_eqt h
    · have h : (Cond.eq (.elem (.static "CutBureau" "GREATEST_SETTING" "[I") (.int 5)) (.int 1000)).before args s = true := hs _ (by decide +kernel)
      exact va_eqt h
    · have h : (Cond.eq (.elem (.static "CutBureau" "GREATEST_SETTING" "[I") (.int 6)) (.int 1000)).before args s = true := hs _ (by decide +kernel)
      exact va_eqt h
    · have h : (Cond.eq (.elem (.static "CutBureau" "GREATEST_SETTING" "[I") (.int 7)) (.int 1000)).before args s = true := hs _ (by decide +kernel)
      exact va_eqt h
    · have h : (Cond.eq (.elem (.static "CutBureau" "GREATEST_SETTING" "[I") (.int 8)) (.int 1000)).before args s = true := hs _ (by decide +kernel)
      exact va_eqt h
    ) hA
  exact ⟨t, va_Zref (hts _ wd_576) (hts _ wd_62) h1 hA, h2⟩
theorem ext_pu {args : Array Value} {s : State} {A : Nat → Prop} (hts : ∀ w ∈ lw_tbl, w.before args s = true) (hgv : (Jvm.Cond.and given_1 narrow_1).before args s = true) (hA : ∀ a : Nat, a < s.heap.size → ¬ A a) : ∃ t : Nat, va_Z "CutBureau$Parting" "PAGE_UNITS" "[I" (.ref t) A s s.heap ∧ va_T .int t 8 (fun j => .int (Int32.ofInt (PUf j))) A s s.heap := by
  have hs := flat_of_before _ hgv
  have harr : (Cond.arrayOf (.static "CutBureau$Parting" "PAGE_UNITS" "[I") .int).before args s = true := hs _ (by decide +kernel)
  have hlen : (Cond.eq (.length (.static "CutBureau$Parting" "PAGE_UNITS" "[I")) (.int 8)).before args s = true := hs _ (by decide +kernel)
  obtain ⟨t, h1, h2⟩ := va_Tof (tm := (.static "CutBureau$Parting" "PAGE_UNITS" "[I")) (N := 8) (f := fun j => .int (Int32.ofInt (PUf j))) (by decide) harr (va_eqt hlen) (fun j hj => by
    rcases (show j = 0 ∨ j = 1 ∨ j = 2 ∨ j = 3 ∨ j = 4 ∨ j = 5 ∨ j = 6 ∨ j = 7 by omega) with rfl | rfl | rfl | rfl | rfl | rfl | rfl | rfl
    · have h : (Cond.eq (.elem (.static "CutBureau$Parting" "PAGE_UNITS" "[I") (.int 0)) (.int 78125)).before args s = true := hs _ (by decide +kernel)
      exact va_eqt h
    · have h : (Cond.eq (.elem (.static "CutBureau$Parting" "PAGE_UNITS" "[I") (.int 1)) (.int 15625)).before args s = true := hs _ (by decide +kernel)
      exact va_eqt h
    · have h : (Cond.eq (.elem (.static "CutBureau$Parting" "PAGE_UNITS" "[I") (.int 2)) (.int 3125)).before args s = true := hs _ (by decide +kernel)
      exact va_eqt h
    · have h : (Cond.eq (.elem (.static "CutBureau$Parting" "PAGE_UNITS" "[I") (.int 3)) (.int 625)).before args s = true := hs _ (by decide +kernel)
      exact va_eqt h
    · have h : (Cond.eq (.elem (.static "CutBureau$Parting" "PAGE_UNITS" "[I") (.int 4)) (.int 125)).before args s = true := hs _ (by decide +kernel)
      exact va_eqt h
    · have h : (Cond.eq (.elem (.static "CutBureau$Parting" "PAGE_UNITS" "[I") (.int 5)) (.int 25)).before args s = true := hs _ (by decide +kernel)
      exact va_eqt h
    · have h : (Cond.eq (.elem (.static "CutBureau$Parting" "PAGE_UNITS" "[I") (.int 6)) (.int 5)).before args s = true := hs _ (by decide +kernel)
      exact va_eqt h
    · have h : (Cond.eq (.elem (.static "CutBureau$Parting" "PAGE_UNITS" "[I") (.int 7)) (.int 1)).before args s = true := hs _ (by decide +kernel)
      exact va_eqt h
    ) hA
  exact ⟨t, va_Zref (hts _ wd_702) (hts _ wd_66) h1 hA, h2⟩
theorem arr_p {args : Array Value} {s : State} {ty : FieldType} (h : (Cond.arrayClass ty).before args s = true) : ∃ cA : ClassId, ArrOfT s cA ty ∧ s.vm.findClass ("[" ++ ty.toString) = some cA := by
  obtain ⟨cA, kA, comp, h1, h2, h3⟩ := Cond.arrayClass_spec h
  exact ⟨cA, fun n z => ⟨fun k h => (by cases h), kA, h2, comp, h3⟩, h1⟩
theorem arr_o {args : Array Value} {s : State} {C : String} (h : (Cond.arrayOver (.object C)).before args s = true) : ∃ cA : ClassId, ArrOfT s cA (.object C) ∧ va_RA s cA (.object C) := by
  obtain ⟨comp, cA, kA, h1, -, h2, h3, h4⟩ := Cond.arrayOver_spec h
  exact ⟨cA, fun n z => ⟨fun k h => (by cases h), kA, h2, comp, h3⟩, kA, comp, h2, h3, h1, h4⟩
theorem gn_of {args : Array Value} {s : State} (hts : ∀ w ∈ lw_tbl, w.before args s = true) : GN s := by
  refine ⟨fun c hc hn => ?_, fun C hC => va_AO.of (hts _ hC)⟩
  have h1 := hts c hc
  cases c <;> first | exact va_Nw.of rfl h1 | simp [isNst] at hn
set_option maxHeartbeats 4000000 in
theorem known_of {args : Array Value} {s : State} (hts : ∀ w ∈ lw_tbl, w.before args s = true) : ∃ (dC : Nat → ClassId) (dI : Nat → Nat → Nat), ∀ (k : Nat) (q : vw_C), vwCl[k]? = some q → u_Kn s q.1 q.2.1 q.2.2 (dC k) (dI k) := by
  have ht2 : ∀ w ∈ gtbl, w.before args s = true := fun w hw => hts w (List.mem_filter.mp hw).1
  obtain ⟨c0, i0, h0⟩ := u_known (C := RX0) (T := TX0) (N := 5) (n := 5) ht2 inX0 (hts _ wd_126)
  obtain ⟨c1, i1, h1⟩ := u_known (C := RX1) (T := TX1) (N := 3) (n := 3) ht2 inX1 (hts _ wd_106)
  obtain ⟨c2, i2, h2⟩ := u_known (C := RX2) (T := TX2) (N := 2) (n := 2) ht2 inX2 (hts _ wd_171)
  obtain ⟨c3, i3, h3⟩ := u_known (C := RX3) (T := TX3) (N := 7) (n := 7) ht2 inX3 (hts _ wd_484)
  obtain ⟨c4, i4, h4⟩ := u_known (C := RX4) (T := TX4) (N := 5) (n := 5) ht2 inX4 (hts _ wd_271)
  obtain ⟨c5, i5, h5⟩ := u_known (C := RX5) (T := TX5) (N := 3) (n := 3) ht2 inX5 (hts _ wd_153)
  obtain ⟨c6, i6, h6⟩ := u_known (C := RX6) (T := TX6) (N := 12) (n := 12) ht2 inX6 (hts _ wd_343)
  obtain ⟨c7, i7, h7⟩ := u_known (C := RX7) (T := TX7) (N := 4) (n := 4) ht2 inX7 (hts _ wd_185)
  obtain ⟨c8, i8, h8⟩ := u_known (C := RX8) (T := TX8) (N := 2) (n := 2) ht2 inX8 (hts _ wd_90)
  obtain ⟨c9, i9, h9⟩ := u_known (C := RX9) (T := TX9) (N := 17) (n := 17) ht2 inX9 (hts _ wd_76)
  obtain ⟨c10, i10, h10⟩ := u_known (C := RX10) (T := TX10) (N := 51) (n := 51) ht2 inX10 (hts _ wd_765)
  refine ⟨fun k => [c0, c1, c2, c3, c4, c5, c6, c7, c8, c9, c10].getD k c0, fun k => [i0, i1, i2, i3, i4, i5, i6, i7, i8, i9, i10].getD k i0, fun k q hq => ?_⟩
  match k, hq with
  | 0, hq => cases hq; exact h0
  | 1, hq => cases hq; exact h1
  | 2, hq => cases hq; exact h2
  | 3, hq => cases hq; exact h3
  | 4, hq => cases hq; exact h4
  | 5, hq => cases hq; exact h5
  | 6, hq => cases hq; exact h6
  | 7, hq => cases hq; exact h7
  | 8, hq => cases hq; exact h8
  | 9, hq => cases hq; exact h9
  | 10, hq => cases hq; exact h10
  | k + 11, hq => simp [vwCl] at hq
set_option maxHeartbeats 4000000 in
theorem arrs_of {args : Array Value} {s : State} (hts : ∀ w ∈ lw_tbl, w.before args s = true) : ∃ ka : Nat → ClassId, ∀ (k : Nat) (q : ClassId × FieldType), [(ka 12, .int), (ka 13, .long), (ka 14, .boolean), (ka 15, .object "CutBureau$Name"), (ka 16, .object "CutBureau$Order"), (ka 17, .object "CutBureau$Page"), (ka 18, .object "CutBureau$Piece"), (ka 19, .object "CutBureau$Reader")][k]? = some q → ArrOfT s q.1 q.2 ∧ va_RA s q.1 q.2 := by
  obtain ⟨c0, h0⟩ := arr_p (hts _ wd_104)
  obtain ⟨c1, h1⟩ := arr_p (hts _ wd_170)
  obtain ⟨c2, h2⟩ := arr_p (hts _ wd_924)
  obtain ⟨c3, h3⟩ := arr_o (hts _ wd_124)
  obtain ⟨c4, h4⟩ := arr_o (hts _ wd_88)
  obtain ⟨c5, h5⟩ := arr_o (hts _ wd_84)
  obtain ⟨c6, h6⟩ := arr_o (hts _ wd_86)
  obtain ⟨c7, h7⟩ := arr_o (hts _ wd_151)
  refine ⟨fun k => [c0, c1, c2, c3, c4, c5, c6, c7].getD (k - 12) c0, fun k q hq => ?_⟩
  match k, hq with
  | 0, hq => cases hq; exact h0
  | 1, hq => cases hq; exact h1
  | 2, hq => cases hq; exact h2
  | 3, hq => cases hq; exact h3
  | 4, hq => cases hq; exact h4
  | 5, hq => cases hq; exact h5
  | 6, hq => cases hq; exact h6
  | 7, hq => cases hq; exact h7
  | k + 8, hq => simp at hq
/-- the whole walk, from the first row of the law -/
theorem law_walk {G : GP} {X : BX} {Q : State → Prop} {nm : String} {L : Nat} {xs : Nat → Int32} (C : CL G X nm) (hT : SCR G X L xs) (hL : L ≤ 3584) (hq : LQ G X Q) : WA false G X Q 4 0 [(2, -4), (3, 0), (3, 0), (3, 0)] [] 600000 7302249 (wN 1) M00 := by
  refine nw_L_7 (rc := 599999) (rs := 7302232) C (d_of DL_0 0 rfl) ?_
  rw [wN_s (t := 10) (n := 17) (by decide) (by decide +kernel)]
  show WA false G X Q 4 3 [(2, -4), (3, 0), (3, 0), (3, 0)] [(2, 1)] 599999 7302232 (wN 2) M00
  refine s_dup C (by simp) (d_of DL_0 1 rfl) ?_
  refine s_callI (av := []) (rest := [(2, 1)]) (mc := 39) (ms := 1774) (rc := 599960) (rs := 7300458) C (d_of DL_0 2 rfl) lk_L_9 (show (wN 2).2 1 = (10, 17) by decide +kernel) (by decide) rfl rfl (Nat.le_of_ble_eq_true rfl) (by decide) (by decide) ce_X9 (fun z w' M' hp => ?_)
  obtain ⟨rfl, rfl⟩ := hp
  refine s_astore_n (ls' := [(2, -4), (2, 1), (3, 0), (3, 0)]) C (d_of DL_0 3 rfl) (by decide) rfl rfl ?_
  refine nw_L_10 (rc := 599959) (rs := 7300407) C (d_of DL_0 4 rfl) ?_
  rw [wN_s (t := 11) (n := 51) (by decide) (by decide +kernel)]
  show WA false G X Q 4 11 [(2, -4), (2, 1), (3, 0), (3, 0)] [(2, 41)] 599959 7300407 (wN 42) M01
  refine s_dup C (by simp) (d_of DL_0 5 rfl) ?_
  refine s_callI (av := []) (rest := [(2, 41)]) (mc := 42) (ms := 5112) (rc := 599917) (rs := 7295295) C (d_of DL_0 6 rfl) lk_L_12 (show (wN 42).2 41 = (11, 51) by decide +kernel) (by decide) rfl rfl (Nat.le_of_ble_eq_true rfl) (by decide) (by decide) ce_X10 (fun z w' M' hp => ?_)
  obtain ⟨rfl, rfl⟩ := hp
  refine s_astore_n (ls' := [(2, -4), (2, 1), (2, 41), (3, 0)]) C (d_of DL_0 7 rfl) (by decide) rfl rfl ?_
  refine s_iconst C (d_of DL_0 8 rfl) (by decide) ?_
  refine s_istore_n (ls' := [(2, -4), (2, 1), (2, 41), (0, 0)]) C (d_of DL_0 9 rfl) (by decide) rfl rfl ?_
  refine WA.refix s0_fix ?_
  exact law_loop C hT hL hq 0 (by decide) M02 (wN 84) M02 599917 7295295 (by decide) li_0 (by decide) (by decide)
