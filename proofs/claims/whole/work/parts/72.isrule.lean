/-! THE MODEL: isRule, doesWant, wants -/
def endI (S : MM) (o i : Int) : Int :=
  if sgn S o (nxI S o i) = 126 then nxI S o (nxI S o i + 3) else if sgn S o (nxI S o i) = 62 then nxI S o i + 2 else nxI S o i
theorem stp_0d {c d : Int} (h : 48 ≤ c ∧ c ≤ 57) : stp 0 c d = 1 := by unfold stp; simp; grind
theorem dpt_x {c d : Int} (h1 : c ≠ 40) (h2 : c ≠ 41) : dpt c d = d := by unfold dpt; simp [h1, h2]
theorem stR_x {s c d : Int} {it : Bool} {R : RS} (hs : s ≠ 0) (h1 : c ≠ 40) (h2 : c ≠ 33) (h3 : c ≠ 124) (h4 : c ≠ 41) : stR s c d it R = R := by unfold stR; simp [h1, h2, h3, h4, hs]
/-- one step within an item -/
theorem val_in {S : MM} {o k s d i : Int} {R : RS} (hv : VAL S o s d i) (h0 : 0 ≤ i) (h1 : i < S 57 o) (hs : s ≠ 0) {t : Int} (ht : stp s (S 56 (40 * o + i)) d = t) (hc : (48 ≤ S 56 (40 * o + i) ∧ S 56 (40 * o + i) ≤ 57) ∨ S 56 (40 * o + i) = 126 ∨ S 56 (40 * o + i) = 58 ∨ S 56 (40 * o + i) = 62) : VAL S o t d (i + 1) ∧ evF S o k (S 57 o - i).toNat s d i R = evF S o k (S 57 o - (i + 1)).toNat t d (i + 1) R := by
  have h2 := (hv.step h0 h1).2
  rw [ht, dpt_x (by omega) (by omega)] at h2
  refine ⟨h2, ?_⟩
  rw [evF_s h1, ht, dpt_x (by omega) (by omega), stR_x hs (by omega) (by omega) (by omega) (by omega)]
theorem dgt_lt {S : MM} {o i : Int} (h : 0 ≤ dgt S o i) : 0 ≤ i ∧ i < S 57 o ∧ (48 ≤ S 56 (40 * o + i) ∧ S 56 (40 * o + i) ≤ 57) := by
  have := dgt_iff.mp h
  unfold sgn at this
  by_cases c : 0 ≤ i ∧ i < S 57 o
  · rw [if_pos c] at this; exact ⟨c.1, c.2, this⟩
  · rw [if_neg c] at this; omega
theorem dgt_ge {S : MM} {o i : Int} (h0 : 0 ≤ i) (h1 : i < S 57 o) (h : 48 ≤ S 56 (40 * o + i) ∧ S 56 (40 * o + i) ≤ 57) : 0 ≤ dgt S o i := by rw [dgt_iff, dgt_in h0 h1]; exact h
theorem sgn_lt {S : MM} {o i c : Int} (h : sgn S o i = c) (hc : c ≠ 0) : 0 ≤ i ∧ i < S 57 o ∧ S 56 (40 * o + i) = c := by
  unfold sgn at h
  by_cases q : 0 ≤ i ∧ i < S 57 o
  · rw [if_pos q] at h; exact ⟨q.1, q.2, h⟩
  · rw [if_neg q] at h; omega
/-- a word of one or two digits, read in state s (0 or 5), and what stands behind it -/
theorem word_ok {S : MM} {o k s d i t1 t2 : Int} {R : RS} (hm : 0 ≤ S 57 o) (hv : VAL S o t1 d (i + 1)) (h0 : 0 ≤ i) (h1 : i < S 57 o) (ht : (t1 = 1 ∧ t2 = 2) ∨ (t1 = 6 ∧ t2 = 8)) : ∃ t, (t = t1 ∨ t = t2) ∧ VAL S o t d (nxI S o i) ∧ nxI S o i ≤ S 57 o ∧ i < nxI S o i ∧ evF S o k (S 57 o - (i + 1)).toNat t1 d (i + 1) R = evF S o k (S 57 o - nxI S o i).toNat t d (nxI S o i) R ∧ dgt S o (nxI S o i) < 0 ∧ s = s := by
  unfold nxI
  by_cases c : dgt S o (i + 1) < 0
  · rw [if_pos c]
    exact ⟨t1, Or.inl rfl, hv, by omega, by omega, rfl, c, rfl⟩
  · rw [if_neg c]
    obtain ⟨g0, g1, g2⟩ := dgt_lt (S := S) (o := o) (i := i + 1) (by omega)
    have hst : stp t1 (S 56 (40 * o + (i + 1))) d = t2 := by
      rcases ht with ⟨rfl, rfl⟩ | ⟨rfl, rfl⟩ <;> (unfold stp; simp [g2])
    obtain ⟨v1, v2⟩ := val_in (k := k) (R := R) hv g0 g1 (by omega) hst (Or.inl g2)
    rw [show i + 1 + 1 = i + 2 by omega] at v1 v2
    refine ⟨t2, Or.inr rfl, v1, by omega, by omega, v2, ?_, rfl⟩
    apply Int.not_le.mp
    intro q
    obtain ⟨q0, q1, q2⟩ := dgt_lt q
    apply (v1.step q0 q1).1
    rcases ht with ⟨-, rfl⟩ | ⟨-, rfl⟩ <;> (unfold stp stW stI; simp; grind)
theorem item_ok {S : MM} {o k d i : Int} {R : RS} (hm : 0 ≤ S 57 o) (hv : VAL S o 0 d i) (hd : 0 ≤ dgt S o i) :
    (dgt S o (nxI S o i) < 0 ∧ i < nxI S o i ∧ nxI S o i ≤ S 57 o) ∧ (sgn S o (nxI S o i) = 126 → nxI S o i + 3 < S 57 o ∧ 0 ≤ dgt S o (nxI S o i + 1) ∧ 0 ≤ dgt S o (nxI S o i + 3) ∧ dgt S o (nxI S o (nxI S o i + 3)) < 0) ∧ (sgn S o (nxI S o i) = 62 → 0 ≤ dgt S o (nxI S o i + 1) ∧ dgt S o (nxI S o i + 2) < 0) ∧
    (i < endI S o i ∧ endI S o i ≤ S 57 o) ∧ dgt S o (endI S o i) < 0 ∧ ∃ t, (t = 8 ∨ t = 6 ∨ ((t = 1 ∨ t = 2) ∧ sgn S o (endI S o i) ≠ 126 ∧ sgn S o (endI S o i) ≠ 62)) ∧ VAL S o t d (endI S o i) ∧ evF S o k (S 57 o - i).toNat 0 d i R = evF S o k (S 57 o - endI S o i).toNat t d (endI S o i) (joR R d (itS S o k i)) := by
  obtain ⟨i0, i1, i2⟩ := dgt_lt hd
  have v1 := (hv.step i0 i1).2
  rw [stp_0d i2, dpt_x (by omega) (by omega)] at v1
  have e1 : evF S o k (S 57 o - i).toNat 0 d i R = evF S o k (S 57 o - (i + 1)).toNat 1 d (i + 1) (joR R d (itS S o k i)) := by
    rw [evF_s i1, stp_0d i2, dpt_x (by omega) (by omega)]
    congr 1
    unfold stR; rw [if_neg (by omega), if_neg (by omega), if_neg (by omega), if_neg (by omega), if_pos ⟨rfl, i2⟩]
  generalize joR R d (itS S o k i) = R2 at e1
  obtain ⟨t, ht, w1, w2, w3, w4, w5, -⟩ := word_ok (k := k) (R := R2) (s := 0) hm v1 i0 i1 (Or.inl ⟨rfl, rfl⟩)
  have htn : t ≠ 0 := by omega
  unfold endI
  generalize hj : nxI S o i = j at *
  rw [w4] at e1
  have tw : ∀ c, stp t c d = stW c d ∨ (48 ≤ c ∧ c ≤ 57) := fun c => by
    rcases ht with rfl | rfl
    · by_cases q : 48 ≤ c ∧ c ≤ 57
      · exact Or.inr q
      · left; unfold stp; simp [q]
    · left; unfold stp; simp
  by_cases c1 : sgn S o j = 126
  · obtain ⟨j0, j1, j2⟩ := sgn_lt c1 (by decide)
    have hs3 : stp t (S 56 (40 * o + j)) d = 3 := by
      rw [j2]; rcases tw 126 with q | q
      · rw [q]; unfold stW; simp
      · omega
    obtain ⟨a1, a2⟩ := val_in (k := k) (R := R2) w1 j0 j1 htn hs3 (by omega)
    have b1 : j + 1 < S 57 o := Int.not_le.mp (fun q => by have := (a1.end hm q).1; omega)
    have b2 : 48 ≤ S 56 (40 * o + (j + 1)) ∧ S 56 (40 * o + (j + 1)) ≤ 57 := by
      apply Decidable.byContradiction; intro q
      apply (a1.step (by omega) b1).1; unfold stp; simp; omega
    obtain ⟨a3, a4⟩ := val_in (k := k) (R := R2) a1 (by omega) b1 (by decide) (t := 4) (by unfold stp; simp; omega) (Or.inl b2)
    have b3 : j + 1 + 1 < S 57 o := Int.not_le.mp (fun q => by have := (a3.end hm q).1; omega)
    have b4 : S 56 (40 * o + (j + 1 + 1)) = 58 := by
      apply Decidable.byContradiction; intro q
      apply (a3.step (by omega) b3).1; unfold stp; simp [q]
    obtain ⟨a5, a6⟩ := val_in (k := k) (R := R2) a3 (by omega) b3 (by decide) (t := 5) (by unfold stp; simp [b4]) (by omega)
    have b5 : j + 1 + 1 + 1 < S 57 o := Int.not_le.mp (fun q => by have := (a5.end hm q).1; omega)
    have b6 : 48 ≤ S 56 (40 * o + (j + 1 + 1 + 1)) ∧ S 56 (40 * o + (j + 1 + 1 + 1)) ≤ 57 := by
      apply Decidable.byContradiction; intro q
      apply (a5.step (by omega) b5).1; unfold stp; simp; omega
    obtain ⟨a7, a8⟩ := val_in (k := k) (R := R2) a5 (by omega) b5 (by decide) (t := 6) (by unfold stp; simp; omega) (Or.inl b6)
    obtain ⟨t', ht', u1, u2, u3, u4, u5, -⟩ := word_ok (k := k) (R := R2) (s := 0) hm a7 (by omega) b5 (Or.inr ⟨rfl, rfl⟩)
    rw [show j + 1 + 1 + 1 = j + 3 by omega] at u1 u2 u3 u4 u5 b5 b6
    rw [show j + 1 + 1 + 1 = j + 3 by omega] at a8 a6
    rw [if_pos c1]
    refine ⟨⟨w5, w3, w2⟩, fun _ => ⟨b5, dgt_ge (by omega) b1 b2, dgt_ge (by omega) b5 b6, u5⟩, fun q => by omega, ⟨by omega, u2⟩, u5, t', ht'.symm.imp id Or.inl, u1, ?_⟩
    rw [e1, a2, a4, a6, a8, u4]
  · by_cases c2 : sgn S o j = 62
    · obtain ⟨j0, j1, j2⟩ := sgn_lt c2 (by decide)
      have hs7 : stp t (S 56 (40 * o + j)) d = 7 := by
        rw [j2]; rcases tw 62 with q | q
        · rw [q]; unfold stW; simp
        · omega
      obtain ⟨a1, a2⟩ := val_in (k := k) (R := R2) w1 j0 j1 htn hs7 (by omega)
      have b1 : j + 1 < S 57 o := Int.not_le.mp (fun q => by have := (a1.end hm q).1; omega)
      have b2 : 48 ≤ S 56 (40 * o + (j + 1)) ∧ S 56 (40 * o + (j + 1)) ≤ 57 := by
        apply Decidable.byContradiction; intro q
        apply (a1.step (by omega) b1).1; unfold stp; simp; omega
      obtain ⟨a3, a4⟩ := val_in (k := k) (R := R2) a1 (by omega) b1 (by decide) (t := 8) (by unfold stp; simp; omega) (Or.inl b2)
      rw [show j + 1 + 1 = j + 2 by omega] at a3 a4
      have b3 : dgt S o (j + 2) < 0 := by
        apply Int.not_le.mp
        intro q
        obtain ⟨q0, q1, q2⟩ := dgt_lt q
        apply (a3.step q0 q1).1; unfold stp stI; simp; omega
      rw [if_neg c1, if_pos c2]
      exact ⟨⟨w5, w3, w2⟩, fun q => absurd q c1, fun _ => ⟨dgt_ge (by omega) b1 b2, b3⟩, ⟨by omega, by omega⟩, b3, 8, Or.inl rfl, a3, by rw [e1, a2, a4]⟩
    · rw [if_neg c1, if_neg c2]
      exact ⟨⟨w5, w3, w2⟩, fun q => absurd q c1, fun q => absurd q c2, ⟨w3, w2⟩, w5, t, Or.inr (Or.inr ⟨ht, c1, c2⟩), w1, e1⟩
def F30 (x i : Int) : Prop := x = 41 ∧ i = 30
theorem F30_wk : WK F30 := fun x i h => by rcases h with ⟨rfl, rfl⟩; exact ⟨rfl, fun _ => rfl⟩
/-- a number of at most two digits at place i -/
theorem cm_number {G : GP} {l : Launch} {w : NS} {S M : MM} {o i : Int} (hI : SInv S) (hA : Ag S M) (ho : 0 ≤ o ∧ o ≤ 10) (hat : M 41 30 = 40 * o + i) (h0 : 0 ≤ i) (hi : i ≤ S 57 o) (hd : 0 ≤ dgt S o i) (h2 : dgt S o (nxI S o i) < 0) : CT_X10_number G l [(2, 41), (0, 40 * o + S 57 o)] w M (fun z w' M' => wdA S o i = z ∧ w = w' ∧ M' 41 30 = 40 * o + nxI S o i ∧ Fo F30 M M') := by
  refine E_X10_number (fun _ X hX C => ?_)
  have hm := hI.sm o
  have st : ∀ (P : Int → NS → MM → Prop) (i v : Int) (M1 : MM), Ag S M1 → M1 41 30 = 40 * o + i → 0 ≤ i → i ≤ S 57 o → 0 ≤ v → v ≤ 9 ∨ dgt S o i < 0 → (dgt S o i < 0 → P v w M1) → (0 ≤ dgt S o i → A_X10_number_2 G X P (40 * o + S 57 o) (10 * v + dgt S o i) w (up M1 41 30 (40 * o + (i + 1)))) → A_X10_number_2 G X P (40 * o + S 57 o) v w M1 := fun P i v M1 hA1 hat1 i0 i1 v0 v1 k1 k2 => by
    refine B_X10_number_2 C ?_
    rw [hat1]
    refine ⟨fun h => k1 ?_, fun h => ⟨by omega, by omega, ?_⟩⟩
    · unfold dgt sgn; rw [if_neg (show ¬ (0 ≤ i ∧ i < S 57 o) by omega)]; simp
    · rw [hA1.1 56 _ rfl]
      have e := dgt_iff (S := S) (o := o) (i := i)
      rw [dgt_in i0 (by omega)] at e
      refine ⟨fun h3 => k1 (by omega), fun h3 => ?_⟩
      have hdd : dgt S o i = S 56 (40 * o + i) - 48 := by unfold dgt; rw [dgt_in i0 (by omega), if_pos h3]
      have k3 := k2 (e.mpr h3)
      rw [hdd] at k3
      refine ⟨by omega, by omega, by omega, by omega, ?_⟩
      rw [show 10 * v + S 56 (40 * o + i) - 48 = 10 * v + (S 56 (40 * o + i) - 48) by omega, show 40 * o + i + 1 = 40 * o + (i + 1) by omega]
      exact k3
  have hr := dgt_rng S o i
  have hr1 := dgt_rng S o (i + 1)
  obtain ⟨i0, i1, i2⟩ := dgt_lt hd
  refine B_X10_number_0 C ?_
  refine st _ i 0 M hA hat h0 hi (by omega) (by omega) (fun q => by omega) (fun _ => ?_)
  have hA1 : Ag S (up M 41 30 (40 * o + (i + 1))) := ag_sc hA _ (by decide)
  refine st _ (i + 1) _ _ hA1 up_eq (by omega) (by omega) (by omega) (by omega) (fun q => ?_) (fun q => ?_)
  · refine ⟨?_, rfl, ?_, fo_up (Fo.rfl' _ _) _ ⟨rfl, rfl⟩⟩
    · unfold wdA; rw [if_pos q]; omega
    · rw [up_eq]; unfold nxI; rw [if_pos q]
  · obtain ⟨j0, j1, j2⟩ := dgt_lt q
    have e2 : nxI S o i = i + 2 := by unfold nxI; rw [if_neg (by omega)]
    rw [e2] at h2
    refine st _ (i + 1 + 1) _ _ (ag_sc hA1 _ (by decide)) up_eq (by omega) (by omega) (by omega) (Or.inr (by rw [show i + 1 + 1 = i + 2 by omega]; exact h2)) (fun q2 => ?_) (fun q2 => by rw [show i + 1 + 1 = i + 2 by omega] at q2; omega)
    refine ⟨?_, rfl, ?_, fo_up (fo_up (Fo.rfl' _ _) _ ⟨rfl, rfl⟩) _ ⟨rfl, rfl⟩⟩
    · unfold wdA; rw [if_neg (by omega)]; omega
    · rw [up_eq, e2]; omega
theorem cm_timesOf {G : GP} {l : Launch} {w : NS} {S M : MM} {k x : Int} (hI : SInv S) (hn : M 41 16 = (wl S k).length) (hL : AL M 54 (wl S k)) : CT_X10_timesOf G l [(2, 41), (0, x)] w M (PE (howS (wl S k) x) w M) := by
  refine E_X10_timesOf (fun _ X hX C => ?_)
  have hla := wl_len hI k
  have L : ∀ i, i ≤ ((wl S k).length : Int) → ∀ z, 0 ≤ i → z = cnN (fun j => decide ((wl S k).getD j.toNat 0 = x)) i.toNat → A_X10_timesOf_4 G X (PE (howS (wl S k) x) w M) x z i w M := up_ind _ (fun i hi ih z h0 hz => by
    refine B_X10_timesOf_4 C ?_
    have hrg := cnN_rng (fun j => decide ((wl S k).getD j.toNat 0 = x)) i.toNat
    rw [hn]
    refine ⟨fun h => ⟨?_, rfl, rfl⟩, fun h => ?_⟩
    · rw [hz, show i.toNat = (wl S k).length by omega]; rfl
    · have ih2 := fun z hz => ih (i + 1) (by omega) (by omega) z (by omega) hz
      rw [cnN_s h0] at ih2
      rw [al_at hL h0 (by omega)]
      refine ⟨h0, by omega, fun h2 => ⟨by omega, by omega, ih2 _ ?_⟩, fun h2 => ⟨by omega, by omega, ih2 _ ?_⟩⟩
      · rw [hz, if_neg (by simpa using h2)]
      · rw [hz, if_pos (by simpa using h2)])
  exact B_X10_timesOf_0 C (L 0 (by omega) 0 (by omega) rfl)
theorem cm_areNear {G : GP} {l : Launch} {w : NS} {S M : MM} {k x y d : Int} (hI : SInv S) (hn : M 41 16 = (wl S k).length) (hL : AL M 54 (wl S k)) : CT_X10_areNear G l [(2, 41), (0, x), (0, y), (0, d)] w M (PE (bi (nearS (wl S k) x y d)) w M) := by
  refine E_X10_areNear (fun _ _ _ X hX C => ?_)
  have hla := wl_len hI k
  generalize hW : wl S k = W at *
  have K : ∀ i : Int, 0 ≤ i → i < W.length → (∀ z, z = bi (exN (fun i => exN (fun k => nrS W x y d i k) W.length) (i + 1).toNat) → A_X10_areNear_6 G X (PE (bi (nearS W x y d)) w M) x y d z (i + 1) w M) →
      ∀ j : Int, j ≤ W.length → ∀ z, 0 ≤ j → z = bi (exN (fun i => exN (fun k => nrS W x y d i k) W.length) i.toNat || exN (fun k => nrS W x y d i k) j.toNat) → A_X10_areNear_18 G X (PE (bi (nearS W x y d)) w M) x y d z i j w M := fun i i0 i1 nx => up_ind _ (fun j hj ih z j0 hz => by
    refine B_X10_areNear_18 C ?_
    rw [hn]
    refine ⟨fun h => ⟨by omega, nx z ?_⟩, fun h => ?_⟩
    · rw [exN_s i0, hz, show j.toNat = W.length by omega]
    · have ih2 := fun z hz => ih (j + 1) (by omega) (by omega) z (by omega) hz
      rw [exN_s j0] at ih2
      rw [al_at hL i0 (by omega), al_at hL j0 (by omega)]
      have hnr : nrS W x y d i j = (decide (W.getD i.toNat 0 = x) && decide (W.getD j.toNat 0 = y) && decide (0 < wayS i j) && decide (wayS i j ≤ d)) := rfl
      have h01 := bi_01 (exN (fun i => exN (fun k => nrS W x y d i k) W.length) i.toNat || exN (fun k => nrS W x y d i k) j.toNat)
      have g1 : z ≠ 0 → A_X10_areNear_18 G X (PE (bi (nearS W x y d)) w M) x y d 1 i (j + 1) w M := fun q => ih2 1 (by
        rw [← Bool.or_assoc]
        have : (exN (fun i => exN (fun k => nrS W x y d i k) W.length) i.toNat || exN (fun k => nrS W x y d i k) j.toNat) = true := bi_1.mp (by omega)
        rw [this]; rfl)
      have g0 : ¬ z ≠ 0 → ∀ v, v = bi (nrS W x y d i j) → A_X10_areNear_18 G X (PE (bi (nearS W x y d)) w M) x y d v i (j + 1) w M := fun q v hv => ih2 v (by
        rw [← Bool.or_assoc]
        have : (exN (fun i => exN (fun k => nrS W x y d i k) W.length) i.toNat || exN (fun k => nrS W x y d i k) j.toNat) = false := bi_0.mp (by omega)
        rw [this, hv]; rfl)
      refine ⟨fun h1 => ⟨by omega, fun h2 => ⟨by omega, g1 h2⟩, fun h2 => ⟨by omega, by omega, fun h3 => ⟨by omega, g0 h2 _ ?_⟩, fun h3 => ⟨by omega, by omega, fun h4 => ⟨by omega, g0 h2 _ ?_⟩, fun h4 => ⟨fun h5 => ⟨by omega, g0 h2 _ ?_⟩, fun h5 => ⟨fun h6 => ⟨by omega, g0 h2 _ ?_⟩, fun h6 => ⟨by omega, g0 h2 _ ?_⟩⟩⟩⟩⟩⟩, fun h1 => ⟨by omega, fun h2 => ⟨by omega, g1 h2⟩, fun h2 => ⟨by omega, by omega, fun h3 => ⟨by omega, g0 h2 _ ?_⟩, fun h3 => ⟨by omega, by omega, fun h4 => ⟨by omega, g0 h2 _ ?_⟩, fun h4 => ⟨fun h5 => ⟨by omega, g0 h2 _ ?_⟩, fun h5 => ⟨fun h6 => ⟨by omega, g0 h2 _ ?_⟩, fun h6 => ⟨by omega, g0 h2 _ ?_⟩⟩⟩⟩⟩⟩⟩
      all_goals (rw [hnr]; unfold wayS; grind [bi]))
  have L : ∀ i : Int, i ≤ W.length → ∀ z, 0 ≤ i → z = bi (exN (fun i => exN (fun k => nrS W x y d i k) W.length) i.toNat) → A_X10_areNear_6 G X (PE (bi (nearS W x y d)) w M) x y d z i w M := up_ind _ (fun i hi ih z i0 hz => by
    refine B_X10_areNear_6 C ?_
    rw [hn]
    refine ⟨fun h => ⟨by rw [hz]; exact bi_01 _, ?_, rfl, rfl⟩, fun h => K i i0 (by omega) (fun z hz => ih (i + 1) (by omega) (by omega) z (by omega) hz) 0 (by omega) z (by omega) (by rw [hz]; simp [exN])⟩
    rw [hz, show i.toNat = W.length by omega]; rfl)
  exact B_X10_areNear_0 C (L 0 (by omega) 0 (by omega) rfl)
theorem cm_isItem {G : GP} {l : Launch} {w : NS} {S M : MM} {o k d i : Int} (hI : SInv S) (hA : Ag S M) (ho : 0 ≤ o ∧ o ≤ 10) (hat : M 41 30 = 40 * o + i) (hn : M 41 16 = (wl S k).length) (hL : AL M 54 (wl S k)) (hv : VAL S o 0 d i) (hd : 0 ≤ dgt S o i) : CT_X10_isItem G l [(2, 41), (0, 40 * o + S 57 o)] w M (fun z w' M' => bi (itS S o k i) = z ∧ w = w' ∧ M' 41 30 = 40 * o + endI S o i ∧ Fo F30 M M') := by
  refine E_X10_isItem (fun _ X hX C => ?_)
  have hm := hI.sm o
  obtain ⟨⟨f1, f2, f3⟩, f4, f5, -⟩ := item_ok (k := k) (R := RS0) hm.1 hv hd
  obtain ⟨i0, i1, -⟩ := dgt_lt hd
  refine B_X10_isItem_0 C ⟨_, cm_number hI hA ho hat i0 (by omega) hd f1, ?_⟩
  rintro _ _ M2 ⟨rfl, rfl, a2, hF2⟩
  have hA2 := hF2.ag F30_wk hA
  have hn2 : M2 41 16 = (wl S k).length := (hF2 41 16 (by unfold F30; omega)).trans hn
  have hL2 : AL M2 54 (wl S k) := al_fr hL (fun j => hF2 54 j (by unfold F30; omega))
  have hit : itS S o k i = if sgn S o (nxI S o i) = 126 then nearS (wl S k) (wdA S o i) (wdA S o (nxI S o i + 3)) (dgt S o (nxI S o i + 1)) else if sgn S o (nxI S o i) = 62 then decide (dgt S o (nxI S o i + 1) < howS (wl S k) (wdA S o i)) else decide (0 < howS (wl S k) (wdA S o i)) := rfl
  have hen : endI S o i = if sgn S o (nxI S o i) = 126 then nxI S o (nxI S o i + 3) else if sgn S o (nxI S o i) = 62 then nxI S o i + 2 else nxI S o i := rfl
  generalize hj : nxI S o i = j at *
  have plain : sgn S o j ≠ 126 → sgn S o j ≠ 62 → ∃ Q4 : Int → NS → MM → Prop, CT_X10_timesOf G X.2.1 [(2, 41), (0, wdA S o i)] w M2 Q4 ∧ ∀ (z4 : Int) (w4 : NS) (M4 : MM), Q4 z4 w4 M4 → (((z4 ≤ 0) → (bi (itS S o k i) = 0 ∧ w = w4 ∧ M4 41 30 = 40 * o + endI S o i ∧ Fo F30 M M4)) ∧ ((¬ (z4 ≤ 0)) → (bi (itS S o k i) = 1 ∧ w = w4 ∧ M4 41 30 = 40 * o + endI S o i ∧ Fo F30 M M4))) := fun c1 c2 => by
    rw [if_neg c1, if_neg c2] at hit hen
    refine ⟨_, cm_timesOf hI hn2 hL2, ?_⟩
    rintro _ _ _ ⟨rfl, rfl, rfl⟩
    refine ⟨fun h => ⟨?_, rfl, ?_, hF2⟩, fun h => ⟨?_, rfl, ?_, hF2⟩⟩
    · rw [hit, decide_eq_false (by omega)]; rfl
    · rw [a2, hen]
    · rw [hit, decide_eq_true (by omega)]; rfl
    · rw [a2, hen]
  rw [a2]
  have near : sgn S o j = 126 → (inR (40 * o + j + 1)) ∧ (0 ≤ (40 * o + j + 1)) ∧ ((40 * o + j + 1) < 440) ∧ (inR ((M2 56 (40 * o + j + 1)) - 48)) ∧ (inR (40 * o + j + 3)) ∧ ∃ Q13 : Int → NS → MM → Prop, CT_X10_number G X.2.1 [(2, 41), (0, 40 * o + S 57 o)] w (up M2 41 30 (40 * o + j + 3)) Q13 ∧ ∀ (z13 : Int) (w13 : NS) (M13 : MM), Q13 z13 w13 M13 → ∃ Q15 : Int → NS → MM → Prop, CT_X10_areNear G X.2.1 [(2, 41), (0, wdA S o i), (0, z13), (0, ((M2 56 (40 * o + j + 1)) - 48))] w13 M13 Q15 ∧ ∀ (z15 : Int) (w15 : NS) (M15 : MM), Q15 z15 w15 M15 → (z15 = 0 ∨ z15 = 1) ∧ (bi (itS S o k i) = z15 ∧ w = w15 ∧ M15 41 30 = 40 * o + endI S o i ∧ Fo F30 M M15) := fun c1 => by
    obtain ⟨q1, q2, q3, q4⟩ := f4 c1
    rw [if_pos c1] at hit hen
    obtain ⟨p0, p1, p2⟩ := dgt_lt q2
    have ed : M2 56 (40 * o + j + 1) - 48 = dgt S o (j + 1) := by
      rw [show 40 * o + j + 1 = 40 * o + (j + 1) by omega, hA2.1 56 _ rfl]
      unfold dgt; rw [dgt_in p0 p1, if_pos p2]
    rw [ed]
    have hr := dgt_rng S o (j + 1)
    have hA3 : Ag S (up M2 41 30 (40 * o + j + 3)) := ag_sc hA2 _ (by decide)
    refine ⟨by omega, by omega, by omega, by omega, by omega, _, cm_number (i := j + 3) hI hA3 ho (by rw [up_eq]; omega) (by omega) (by omega) q3 q4, ?_⟩
    rintro _ _ M3 ⟨rfl, rfl, a3, hF3⟩
    have hF4 : Fo F30 M M3 := (fo_up hF2 _ ⟨rfl, rfl⟩).tr hF3
    refine ⟨_, cm_areNear hI ((hF4 41 16 (by unfold F30; omega)).trans hn) (al_fr hL (fun t => hF4 54 t (by unfold F30; omega))), ?_⟩
    rintro _ _ _ ⟨rfl, rfl, rfl⟩
    exact ⟨bi_01 _, by rw [hit], rfl, by rw [a3, hen], hF4⟩
  have out : 40 * o + S 57 o ≤ 40 * o + j → sgn S o j = 0 := fun h => by unfold sgn; rw [if_neg (by omega)]
  refine ⟨fun h => ⟨fun _ => plain (by rw [out h]; decide) (by rw [out h]; decide), fun q => absurd h q⟩, fun h => ⟨by omega, by omega, ?_⟩⟩
  have es : M2 56 (40 * o + j) = sgn S o j := by rw [hA2.1 56 _ rfl, dgt_in (by omega) (by omega)]
  rw [es]
  refine ⟨fun c2 => ⟨fun q => absurd q h, fun _ => ⟨fun c1 => plain c1 c2, fun c1 => near (Decidable.not_not.mp c1)⟩⟩, fun c2 => ⟨by omega, ?_⟩⟩
  have c2' := Decidable.not_not.mp c2
  have hit2 := hit
  rw [if_neg (by omega), if_pos c2'] at hit2
  rw [if_neg (by omega), if_pos c2'] at hen
  obtain ⟨q1, q2⟩ := f5 c2'
  have hF3 : Fo F30 M (up M2 41 30 (40 * o + j + 1)) := fo_up hF2 _ ⟨rfl, rfl⟩
  refine ⟨_, cm_timesOf hI ((hF3 41 16 (by unfold F30; omega)).trans hn) (al_fr hL (fun t => hF3 54 t (by unfold F30; omega))), ?_⟩
  rintro _ _ _ ⟨rfl, rfl, rfl⟩
  obtain ⟨p0, p1, p2⟩ := dgt_lt q1
  have en1 : nxI S o (j + 1) = j + 2 := by unfold nxI; rw [show j + 1 + 1 = j + 2 by omega, if_pos q2]
  have ew1 : wdA S o (j + 1) = dgt S o (j + 1) := by unfold wdA; rw [show j + 1 + 1 = j + 2 by omega, if_pos q2]
  refine ⟨_, cm_number (i := j + 1) hI (hF3.ag F30_wk hA) ho (by rw [up_eq]; omega) p0 (by omega) q1 (by rw [en1]; exact q2), ?_⟩
  rintro _ _ M4 ⟨rfl, rfl, a4, hF4⟩
  rw [ew1]
  refine ⟨fun h5 => ⟨?_, rfl, by rw [a4, hen, en1], hF3.tr hF4⟩, fun h5 => ⟨?_, rfl, by rw [a4, hen, en1], hF3.tr hF4⟩⟩
  · rw [hit2, decide_eq_false (by omega)]; rfl
  · rw [hit2, decide_eq_true (by omega)]; rfl
