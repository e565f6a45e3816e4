/-! THE MODEL: isRule itself, doesWant, wants -/
def HI (S : MM) (o s i : Int) : Prop := s = 0 ∨ s = 8 ∨ ((s = 6 ∨ s = 1 ∨ s = 2) ∧ dgt S o i < 0 ∧ (s ≠ 6 → sgn S o i ≠ 126 ∧ sgn S o i ≠ 62))
theorem head_dig {S : MM} {o s d i : Int} (h : HI S o s i) (hv : VAL S o s d i) (h0 : 0 ≤ i) (h1 : i < S 57 o) (hd : 0 ≤ dgt S o i) : s = 0 := by
  rcases h with h | h | h
  · exact h
  · exfalso
    obtain ⟨-, -, g⟩ := dgt_lt hd
    apply (hv.step h0 h1).1
    rw [h]; unfold stp stI; simp; omega
  · omega
theorem head_sign {S : MM} {o s d i : Int} (h : HI S o s i) (hv : VAL S o s d i) (h0 : 0 ≤ i) (h1 : i < S 57 o) (hd : ¬ (48 ≤ S 56 (40 * o + i) ∧ S 56 (40 * o + i) ≤ 57)) :
    (S 56 (40 * o + i) = 41 ∧ stp s (S 56 (40 * o + i)) d = 8) ∨ ((S 56 (40 * o + i) = 33 ∨ S 56 (40 * o + i) = 40 ∨ S 56 (40 * o + i) = 38 ∨ S 56 (40 * o + i) = 124) ∧ stp s (S 56 (40 * o + i)) d = 0) := by
  have hs := (hv.step h0 h1).1
  have hg := dgt_in h0 h1
  generalize S 56 (40 * o + i) = c at *
  have key : stI c d ≠ -1 → (c = 41 ∧ stI c d = 8) ∨ ((c = 33 ∨ c = 40 ∨ c = 38 ∨ c = 124) ∧ stI c d = 0) := fun q => by
    unfold stI at q ⊢; grind
  rcases h with h | h | ⟨h, -, h3⟩
  · rw [h] at hs ⊢
    unfold stp at hs ⊢; simp at hs ⊢; grind
  · have e : stp s c d = stI c d := by rw [h]; unfold stp; simp
    rw [e] at hs ⊢; exact key hs
  · have e : stp s c d = stI c d := by
      by_cases h6 : s = 6
      · rw [h6]; unfold stp; simp [hd]
      · have := h3 h6
        rw [hg] at this
        rcases h with h | h | h
        · exact absurd h h6
        · rw [h]; unfold stp stW; simp [hd, this]
        · rw [h]; unfold stp stW; simp [this]
    rw [e] at hs ⊢; exact key hs
def FIR (x i : Int) : Prop := x = 54 ∨ x = 64 ∨ x = 65 ∨ x = 66 ∨ (x = 41 ∧ (i = 16 ∨ i = 30))
theorem FIR_wk : WK FIR := fun x i h => by
  rcases h with rfl | rfl | rfl | rfl | ⟨rfl, rfl | rfl⟩ <;> first | exact ⟨rfl, fun q => absurd q (by decide)⟩ | exact ⟨rfl, fun _ => rfl⟩
theorem FIR_in : ∀ x i, FIR x i → 41 ≤ x ∧ x ≤ 83 := fun x i h => by unfold FIR at h; omega
theorem FIR_dk : ∀ x i, FIR x i → ¬ DC x i := fun x i h => by unfold FIR at h; unfold DC; omega
def MI (M : MM) (R : RS) (d : Int) : Prop := ∀ e, 0 ≤ e → e ≤ d → M 64 e = bi (R.1 e) ∧ M 65 e = bi (R.2.1 e) ∧ M 66 e = bi (R.2.2 e)
theorem cm_begin {G : GP} {l : Launch} {w : NS} {M : MM} {e : Int} (h0 : 0 ≤ e) (h1 : e < 10) : CT_X10_begin G l [(2, 41), (0, e)] w M (fun _ w' M' => w = w' ∧ up (up (up M 64 e 0) 65 e 1) 66 e 0 = M') := by
  refine E_X10_begin (fun _ X hX C => ?_)
  exact B_X10_begin_0 C ⟨h0, h1, rfl, rfl⟩
theorem cm_join {G : GP} {l : Launch} {w : NS} {M : MM} {e : Int} {R : RS} {d : Int} {v : Bool} (h0 : 0 ≤ e) (h1 : e < 10) (he : e ≤ d) (hM : MI M R d) : CT_X10_join G l [(2, 41), (0, e), (0, bi v)] w M (fun _ w' M' => w = w' ∧ MI M' (joR R e v) e ∧ Fo (fun x i => (x = 65 ∨ x = 66) ∧ i = e) M M') := by
  refine E_X10_join (fun _ _ X hX C => ?_)
  refine B_X10_join_0 C ?_
  have hb := hM e h0 he
  have fin : ∀ z, z = bi (R.2.1 e && (v != R.2.2 e)) → (w = w ∧ MI (up (up M 65 e z) 66 e 0) (joR R e v) e ∧ Fo (fun x i => (x = 65 ∨ x = 66) ∧ i = e) M (up (up M 65 e z) 66 e 0)) := fun z hz => by
    refine ⟨rfl, fun x x0 x1 => ?_, fo_up (fo_up (Fo.rfl' _ _) _ ⟨Or.inl rfl, rfl⟩) _ ⟨Or.inr rfl, rfl⟩⟩
    have hx := hM x x0 (by omega)
    unfold joR ub
    by_cases c : x = e
    · subst c; simp [up_ap, hx, hz, bi_f]
    · simp [up_ap, c, hx]
  rw [hb.2.1, hb.2.2]
  refine ⟨h0, h1, fun q => fin _ ?_, fun q => ⟨fun q2 => fin _ ?_, fun q2 => fin _ ?_⟩⟩
  · rw [bi_0.mp q]; rfl
  · have : v = R.2.2 e := by revert q2; cases v <;> cases R.2.2 e <;> simp [bi]
    rw [this]; simp [bi]
  · have : (v != R.2.2 e) = true := by revert q2; cases v <;> cases R.2.2 e <;> simp [bi]
    have h2 : R.2.1 e = true := by cases e2 : R.2.1 e; rw [e2] at q; exact absurd rfl q; rfl
    rw [this, h2]; rfl
theorem cm_isRule {G : GP} {l : Launch} {w : NS} {S M : MM} {o k : Int} (hI : SInv S) (hA : Ag S M) (ho : 0 ≤ o ∧ o ≤ 9) (hk : isPc S k) (hV : fltS S o = -6) : CT_X10_isRule G l [(2, 41), (0, o), (0, k)] w M (fun z w' M' => bi (ruleS S o k) = z ∧ w = w' ∧ Fo FIR M M') := by
  refine E_X10_isRule (fun _ _ X hX C => ?_)
  have hm := hI.sm o
  have L : ∀ i, i ≤ S 57 o → ∀ (s d : Int) (R : RS) (M1 : MM), 0 ≤ i → (0 ≤ d ∧ d ≤ 8) → VAL S o s d i → (0 ≤ s ∧ s ≤ 8) → HI S o s i → MI M1 R d → M1 41 30 = 40 * o + i → M1 41 16 = (wl S k).length → AL M1 54 (wl S k) → Fo FIR M M1 → ruleS S o k = evF S o k (S 57 o - i).toNat s d i R → A_X10_isRule_33 G X (fun z w' M' => bi (ruleS S o k) = z ∧ w = w' ∧ Fo FIR M M') d (40 * o + S 57 o) w M1 := up_ind _ (fun i hi ih s d R M1 i0 hd hv hs hh hM hat hn hL hF hev => by
    refine B_X10_isRule_33 C ?_
    have hA1 := hF.ag FIR_wk hA
    rw [hat]
    refine ⟨fun h => ?_, fun h => ⟨by omega, by omega, ?_⟩⟩
    · have e0 := hM 0 (by omega) hd.1
      rw [evF_e (by omega)] at hev
      rw [e0.1, e0.2.1]
      refine ⟨fun q => ⟨?_, rfl, hF⟩, fun q => ⟨fun q2 => ⟨?_, rfl, hF⟩, fun q2 => ⟨?_, rfl, hF⟩⟩⟩
      · have : R.1 0 = true := by cases e : R.1 0; rw [e] at q; exact absurd rfl q; rfl
        rw [hev, this]; rfl
      · rw [hev, bi_0.mp q2, bi_0.mp (Decidable.not_not.mp q)]; rfl
      · have : R.2.1 0 = true := by cases e : R.2.1 0; rw [e] at q2; exact absurd rfl q2; rfl
        rw [hev, this, Bool.or_true]; rfl
    · rw [hA1.1 56 _ rfl]
      refine ⟨fun hnd => ⟨by omega, ?_⟩, fun hdg => ?_⟩
      · obtain ⟨v1, v2⟩ := hv.step i0 (by omega)
        obtain ⟨d1, d2, d3⟩ := stp_d v1 hd.1 hd.2
        have hsg := head_sign hh hv i0 (by omega) hnd
        rw [evF_s (by omega)] at hev
        have hh2 : HI S o (stp s (S 56 (40 * o + i)) d) (i + 1) := by
          rcases hsg with q | q
          · exact Or.inr (Or.inl q.2)
          · exact Or.inl q.2
        have hrg : 0 ≤ stp s (S 56 (40 * o + i)) d ∧ stp s (S 56 (40 * o + i)) d ≤ 8 := by omega
        have ih2 := fun (R : RS) (M2 : MM) => ih (i + 1) (by omega) (by omega) _ _ R M2 (by omega) d1 v2 hrg hh2
        generalize hcc : S 56 (40 * o + i) = cc at *
        have hF30 : FIR 41 30 := Or.inr (Or.inr (Or.inr (Or.inr ⟨rfl, Or.inr rfl⟩)))
        rw [show 40 * o + i + 1 = 40 * o + (i + 1) by omega]
        refine ⟨fun c33 => ⟨fun c40 => ⟨fun c41 => ⟨fun c124 => ?_, fun c124 => ⟨hd.1, by omega, ?_⟩⟩, fun c41 => ⟨by omega, by omega, by omega, by omega, ?_⟩⟩, fun c40 => ⟨by omega, _, cm_begin (by omega) (by have := (d2 (Decidable.not_not.mp c40)).2; omega), ?_⟩⟩, fun c33 => ⟨hd.1, by omega, ?_⟩⟩
        · -- between two items of a both
          have edp : dpt cc d = d := dpt_x c40 c41
          have est : stR s cc d (itS S o k i) R = R := by
            unfold stR; rw [if_neg c40, if_neg c33, if_neg c124, if_neg c41, if_neg (fun q => hnd q.2)]
          rw [edp, est] at hev
          rw [edp] at ih2
          exact ih2 R _ (fun e e0 e1 => by rw [up_na (by decide), up_na (by decide), up_na (by decide)]; exact hM e e0 e1) up_eq (by rw [up_ni (by decide)]; exact hn) (al_fr hL (fun t => up_na (by decide))) (fo_up hF _ hF30) hev
        · -- one more both
          have c124' := Decidable.not_not.mp c124
          have edp : dpt cc d = d := dpt_x c40 c41
          have est : stR s cc d (itS S o k i) R = (ub R.1 d (R.1 d || R.2.1 d), ub R.2.1 d true, R.2.2) := by
            unfold stR; rw [if_neg c40, if_neg c33, if_pos c124']
          rw [edp, est] at hev
          rw [edp] at ih2
          have hMd := hM d hd.1 (by omega)
          have fin : ∀ z, z = bi (R.1 d || R.2.1 d) → A_X10_isRule_33 G X (fun z w' M' => bi (ruleS S o k) = z ∧ w = w' ∧ Fo FIR M M') d (40 * o + S 57 o) w (up (up (up M1 41 30 (40 * o + (i + 1))) 64 d z) 65 d 1) := fun z hz => by
            refine ih2 _ _ (fun e e0 e1 => ?_) (by rw [up_na (by decide), up_na (by decide), up_eq]) (by rw [up_na (by decide), up_na (by decide), up_ni (by decide)]; exact hn) (al_fr hL (fun t => by rw [up_na (by decide), up_na (by decide), up_na (by decide)])) (fo_up (fo_up (fo_up hF _ hF30) _ (Or.inr (Or.inl rfl))) _ (Or.inr (Or.inr (Or.inl rfl)))) hev
            have hMe := hM e e0 e1
            unfold ub
            by_cases c : e = d
            · subst c; simp [up_ap, hMe, hz, bi_t]
            · simp [up_ap, c, hMe]
          rw [hMd.1, hMd.2.1]
          refine ⟨fun q => fin _ ?_, fun q => ⟨fun q2 => fin _ ?_, fun q2 => fin _ ?_⟩⟩
          · have : R.1 d = true := by cases e : R.1 d; rw [e] at q; exact absurd rfl q; rfl
            rw [this]; rfl
          · rw [bi_0.mp q2, bi_0.mp (Decidable.not_not.mp q)]; rfl
          · have : R.2.1 d = true := by cases e : R.2.1 d; rw [e] at q2; exact absurd rfl q2; rfl
            rw [this, Bool.or_true]; rfl
        · -- a bracket ends
          have c41' := Decidable.not_not.mp c41
          have hd0 := d3 c41'
          have edp : dpt cc d = d - 1 := by unfold dpt; rw [c41']; simp; omega
          have est : stR s cc d (itS S o k i) R = joR R (d - 1) (R.1 d || R.2.1 d) := by
            unfold stR; rw [if_neg c40, if_neg c33, if_neg (by omega), if_pos c41']
          rw [edp, est] at hev
          rw [edp] at ih2
          have hMd := hM d hd.1 (by omega)
          rw [show d + (-1) + 1 = d by omega, show d + (-1) = d - 1 by omega, hMd.1, hMd.2.1]
          have hM2 : MI (up M1 41 30 (40 * o + (i + 1))) R d := fun e e0 e1 => by rw [up_na (by decide), up_na (by decide), up_na (by decide)]; exact hM e e0 e1
          have fin : ∀ z : Int, bi (R.1 d || R.2.1 d) = z → ∃ Q : Int → NS → MM → Prop, CT_X10_join G X.2.1 [(2, 41), (0, d - 1), (0, z)] w (up M1 41 30 (40 * o + (i + 1))) Q ∧ ∀ (z17 : Int) (w17 : NS) (M17 : MM), Q z17 w17 M17 → A_X10_isRule_33 G X (fun z w' M' => bi (ruleS S o k) = z ∧ w = w' ∧ Fo FIR M M') (d - 1) (40 * o + S 57 o) w17 M17 := fun z hz => by
            rw [← hz]
            refine ⟨_, cm_join (R := R) (d := d) (by omega) (by omega) (by omega) hM2, ?_⟩
            rintro z17 _ M17 ⟨rfl, j1, j2⟩
            refine ih2 _ _ j1 ?_ ?_ ?_ ((fo_up hF _ hF30).tr (j2.mono (fun x i q => by unfold FIR; omega))) hev
            · rw [j2 41 30 (by omega), up_eq]
            · rw [j2 41 16 (by omega), up_ni (by decide)]; exact hn
            · exact al_fr hL (fun t => by rw [j2 54 t (by omega), up_na (by decide)])
          refine ⟨fun q => fin _ ?_, fun q => ⟨fun q2 => fin _ ?_, fun q2 => fin _ ?_⟩⟩
          · have : R.1 d = true := by cases e : R.1 d; rw [e] at q; exact absurd rfl q; rfl
            rw [this]; rfl
          · rw [bi_0.mp q2, bi_0.mp (Decidable.not_not.mp q)]; rfl
          · have : R.2.1 d = true := by cases e : R.2.1 d; rw [e] at q2; exact absurd rfl q2; rfl
            rw [this, Bool.or_true]; rfl
        · -- a bracket
          have c40' := Decidable.not_not.mp c40
          rintro z21 _ _ ⟨rfl, rfl⟩
          have edp : dpt cc d = d + 1 := by unfold dpt; rw [if_pos c40']
          have est : stR s cc d (itS S o k i) R = (ub R.1 (d + 1) false, ub R.2.1 (d + 1) true, ub R.2.2 (d + 1) false) := by
            unfold stR; rw [if_pos c40']
          rw [edp, est] at hev
          rw [edp] at ih2
          refine ih2 _ _ (fun e e0 e1 => ?_) (by rw [up_na (by decide), up_na (by decide), up_na (by decide), up_eq]) (by rw [up_na (by decide), up_na (by decide), up_na (by decide), up_ni (by decide)]; exact hn) (al_fr hL (fun t => by rw [up_na (by decide), up_na (by decide), up_na (by decide), up_na (by decide)])) (fo_up (fo_up (fo_up (fo_up hF _ hF30) _ (Or.inr (Or.inl rfl))) _ (Or.inr (Or.inr (Or.inl rfl)))) _ (Or.inr (Or.inr (Or.inr (Or.inl rfl))))) hev
          unfold ub
          by_cases c : e = d + 1
          · rw [c]; simp [up_ap, bi]
          · have hMe := hM e e0 (by omega)
            simp [up_ap, c, hMe]
        · -- turned
          have c33' := Decidable.not_not.mp c33
          have edp : dpt cc d = d := dpt_x (by omega) (by omega)
          have est : stR s cc d (itS S o k i) R = (R.1, R.2.1, ub R.2.2 d (!R.2.2 d)) := by
            unfold stR; rw [if_neg (by omega), if_pos c33']
          rw [edp, est] at hev
          rw [edp] at ih2
          have hMd := hM d hd.1 (by omega)
          have fin : ∀ z, z = bi (!R.2.2 d) → A_X10_isRule_33 G X (fun z w' M' => bi (ruleS S o k) = z ∧ w = w' ∧ Fo FIR M M') d (40 * o + S 57 o) w (up (up M1 41 30 (40 * o + (i + 1))) 66 d z) := fun z hz => by
            refine ih2 _ _ (fun e e0 e1 => ?_) (by rw [up_na (by decide), up_eq]) (by rw [up_na (by decide), up_ni (by decide)]; exact hn) (al_fr hL (fun t => by rw [up_na (by decide), up_na (by decide)])) (fo_up (fo_up hF _ hF30) _ (Or.inr (Or.inr (Or.inr (Or.inl rfl))))) hev
            have hMe := hM e e0 e1
            unfold ub
            by_cases c : e = d
            · subst c; simp [up_ap, hMe, hz]
            · simp [up_ap, c, hMe]
          rw [hMd.2.2]
          refine ⟨fun q => fin _ ?_, fun q => fin _ ?_⟩
          · have : R.2.2 d = true := by cases e : R.2.2 d; rw [e] at q; exact absurd rfl q; rfl
            rw [this]; rfl
          · rw [bi_0.mp (Decidable.not_not.mp q)]; rfl
      · have hdd : 0 ≤ dgt S o i := dgt_ge i0 (by omega) hdg
        have hs0 := head_dig hh hv i0 (by omega) hdd
        rw [hs0] at hv hev
        obtain ⟨-, -, -, ⟨e1, e2⟩, e3, t, ht, e4, e5⟩ := item_ok (k := k) (R := R) hm.1 hv hdd
        refine ⟨_, cm_isItem (k := k) hI hA1 (by omega) hat hn hL hv hdd, ?_⟩
        rintro _ _ M2 ⟨rfl, rfl, a2, hF2⟩
        refine ⟨_, cm_join (R := R) (d := d) hd.1 (by omega) (by omega) (fun e e0 e1 => by rw [hF2 64 e (by unfold F30; omega), hF2 65 e (by unfold F30; omega), hF2 66 e (by unfold F30; omega)]; exact hM e e0 e1), ?_⟩
        rintro z27 _ M3 ⟨rfl, j1, j2⟩
        refine ih (endI S o i) e1 e2 t d _ M3 (by omega) hd e4 (by omega) ?_ j1 ?_ ?_ ?_ ((hF.tr (hF2.mono (fun x i q => by unfold F30 at q; unfold FIR; omega))).tr (j2.mono (fun x i q => by unfold FIR; omega))) (by rw [hev, e5])
        · rcases ht with q | q | q
          · exact Or.inr (Or.inl q)
          · exact Or.inr (Or.inr ⟨Or.inl q, e3, fun r => absurd q r⟩)
          · exact Or.inr (Or.inr ⟨Or.inr q.1, e3, fun _ => q.2⟩)
        · rw [j2 41 30 (by omega)]; exact a2
        · rw [j2 41 16 (by omega), hF2 41 16 (by unfold F30; omega)]; exact hn
        · exact al_fr hL (fun t => by rw [j2 54 t (by omega), hF2 54 t (by unfold F30; omega)]))
  refine B_X10_isRule_0 C ⟨_, cm_layOne hI hA hk, ?_⟩
  rintro z2 _ M2 ⟨rfl, k1, k2, k3⟩
  refine ⟨_, cm_begin (by omega) (by omega), ?_⟩
  rintro z4 _ _ ⟨rfl, rfl⟩
  have e57 : up (up (up M2 64 0 0) 65 0 1) 66 0 0 57 o = S 57 o := by rw [up_na (by decide), up_na (by decide), up_na (by decide), k3 57 o (by unfold FL1; omega)]; exact hA.1 57 o rfl
  rw [e57]
  refine ⟨by omega, by omega, by omega, by omega, L 0 (by omega) 0 0 RS0 _ (by omega) (by omega) ?_ (by omega) (Or.inl rfl) (fun e e0 e1 => ?_) (by rw [up_eq]; omega) ?_ ?_ ?_ ?_⟩
  · unfold VAL; rw [Int.sub_zero]; exact hV
  · rw [show e = 0 by omega]; simp [up_ap, RS0, bi]
  · rw [up_ni (by decide), up_na (by decide), up_na (by decide), up_na (by decide)]; exact k1
  · exact al_fr k2 (fun t => by rw [up_na (by decide), up_na (by decide), up_na (by decide), up_na (by decide)])
  · exact fo_up (fo_up (fo_up (fo_up (k3.mono (fun x i q => by unfold FL1 at q; unfold FIR; omega)) _ (Or.inr (Or.inl rfl))) _ (Or.inr (Or.inr (Or.inl rfl)))) _ (Or.inr (Or.inr (Or.inr (Or.inl rfl))))) _ (Or.inr (Or.inr (Or.inr (Or.inr ⟨rfl, Or.inr rfl⟩))))
  · rw [Int.sub_zero]; rfl
theorem cm_doesWant {G : GP} {l : Launch} {w : NS} {S M : MM} {o k : Int} (hI : SInv S) (hV : RInv S) (hA : Ag S M) (ho : isOr S o) (hk : isPc S k) : CT_X10_doesWant G l [(2, 41), (0, o), (0, k)] w M (fun z w' M' => bi (wantsS S o k) = z ∧ w = w' ∧ Fo FIR M M') := by
  refine E_X10_doesWant (fun _ _ X hX C => ?_)
  obtain ⟨kf4, kf12, kf26, ke42, ke43, ke44, ke45, ke46, ke47, ke48, ke49, ke50, ke51, ke52, ke53, ke56, ke57, ke58, ke59, ke60, ke61, ke62, ke63, ke72, ke73, ke77, ke78, ke79, ke83⟩ := hA.all
  refine B_X10_doesWant_0 C ?_
  simp only [kf4, kf12, kf26, ke42, ke43, ke44, ke45, ke46, ke47, ke48, ke49, ke50, ke51, ke52, ke53, ke56, ke57, ke58, ke59, ke60, ke61, ke62, ke63, ke72, ke73, ke77, ke78, ke79, ke83]
  have hpc := hI.pc
  have hoc := hI.oc
  have hpg := hI.pg
  have hg := hI.po k hk
  have hpa := hI.pa o
  have hpp := hI.pp (S 46 k)
  have hb := z_hb (x := S 59 o) (i := S 43 (S 46 k)) hpa.1 (by omega) hpp.1 (by omega)
  have ho2 := ho
  unfold isPc at hk
  unfold isOr at ho2
  unfold isPg at hg
  simp only [ne_eq, hb]
  refine ⟨by omega, by omega, by omega, by omega, by omega, by omega, fun h1 => ⟨?_, trivial, Fo.rfl' _ _⟩, fun h1 => ⟨fun h2 => ⟨?_, trivial, Fo.rfl' _ _⟩, fun h2 => ⟨_, cm_isRule hI hA (by omega) hk (hV o ho), ?_⟩⟩⟩
  · unfold wantsS; rw [Bool.eq_false_iff.mpr h1]; rfl
  · unfold wantsS; rw [decide_eq_false h2, Bool.and_false]; rfl
  · rintro z9 _ M9 ⟨e1, rfl, hF⟩
    refine ⟨fun h3 => ⟨?_, rfl, hF⟩, fun h3 => ⟨?_, rfl, hF⟩⟩
    · unfold wantsS; rw [bi_0.mp (e1.trans h3), Bool.and_false]; rfl
    · have : ruleS S o k = true := by cases e : ruleS S o k; rw [e] at e1; exact absurd e1.symm h3; rfl
      unfold wantsS; rw [Decidable.not_not.mp h1, this, decide_eq_true h2]; rfl
theorem cm_wants {G : GP} {l : Launch} {w : NS} {S M : MM} {a b c : Int} (hI : SInv S) (hV : RInv S) (hA : Ag S M) : CT_X10_wants G l [(2, 41), (0, a), (0, b), (0, c)] w M (PM w M (op_wants S a b c)) := by
  refine E_X10_wants (fun _ _ _ X hX C => ?_)
  refine B_X10_wants_0 C ?_
  have hpc := hI.pc
  have hoc := hI.oc
  rw [hA.2 12 rfl, hA.2 26 rfl]
  refine ⟨by omega, fun h1 => pm_s hA ?_, fun h1 => ⟨by omega, fun h2 => ⟨fun h3 => ⟨fun h4 => ⟨_, cm_isRule hI hA (by omega) h2 (hV a h1), ?_⟩, fun h4 => ⟨_, cm_doesWant hI hV hA h1 h2, ?_⟩⟩, fun h3 => pm_s hA ?_⟩, fun h2 => pm_s hA ?_⟩⟩
  · unfold op_wants; rw [if_neg (fun q => h1 q.1)]
  · rintro z7 _ M7 ⟨e1, rfl, hF⟩
    have op : op_wants S a b c = (bi (ruleS S a b), S) := by unfold op_wants; rw [if_pos ⟨h1, h2⟩, if_neg h4, if_pos (by omega)]
    refine ⟨fun h5 => pm_u (S1 := S) ?_ (hF.ag FIR_wk hA) (hF.frm FIR_in) (hF.dk FIR_dk), fun h5 => pm_u (S1 := S) ?_ (hF.ag FIR_wk hA) (hF.frm FIR_in) (hF.dk FIR_dk)⟩
    · rw [op, e1, h5]
    · rcases bi_01 (ruleS S a b) with q | q
      · omega
      · rw [op, q]
  · rintro z7 _ M7 ⟨e1, rfl, hF⟩
    have op : op_wants S a b c = (bi (wantsS S a b), S) := by unfold op_wants; rw [if_pos ⟨h1, h2⟩, if_pos (Decidable.not_not.mp h4)]
    refine ⟨fun h5 => pm_u (S1 := S) ?_ (hF.ag FIR_wk hA) (hF.frm FIR_in) (hF.dk FIR_dk), fun h5 => pm_u (S1 := S) ?_ (hF.ag FIR_wk hA) (hF.frm FIR_in) (hF.dk FIR_dk)⟩
    · rw [op, e1, h5]
    · rcases bi_01 (wantsS S a b) with q | q
      · omega
      · rw [op, q]
  · unfold op_wants; rw [if_pos ⟨h1, h2⟩, if_neg (by omega), if_neg (by omega)]
  · unfold op_wants; rw [if_neg (fun q => h2 q.2)]
