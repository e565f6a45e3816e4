/-! THE MODEL: the doubles laid, a family found -/
/-- what is known of the doubles is right -/
def MD (S M : MM) : Prop := M 41 34 = 0 ∨ (M 41 34 = 1 ∧ ∀ p q, isPc S p → isPc S q → M 69 (24 * p + q) = bi (dblS S p q))
theorem md_dk {S S' M M' : MM} (hA : Ag S M) (hA' : Ag S' M') (hD : MD S M) (hK : DK M M') : MD S' M' := by
  rcases hK with h | h
  · exact Or.inl h
  · rcases hD with d | ⟨d1, d2⟩
    · left; rw [h 41 34 (by unfold DC; omega)]; exact d
    · right
      have rr : ∀ x i, PA x = true → DC x i → S' x i = S x i := fun x i hp hd => by rw [← hA'.1 x i hp, h x i hd, hA.1 x i hp]
      have e12 : S' 41 12 = S 41 12 := by rw [← hA'.2 12 rfl, h 41 12 (by unfold DC; omega), hA.2 12 rfl]
      have ew : ∀ k, wl S' k = wl S k := fun k => wl_c (funext fun i => rr 42 i rfl (by unfold DC; omega)) (rr 46 k rfl (by unfold DC; omega)) (rr 47 k rfl (by unfold DC; omega)) (rr 48 k rfl (by unfold DC; omega)) (rr 49 k rfl (by unfold DC; omega)) (rr 50 k rfl (by unfold DC; omega))
      have e5 : S' 53 0 = S 53 0 := rr 53 0 rfl (by unfold DC; omega)
      refine ⟨by rw [h 41 34 (by unfold DC; omega)]; exact d1, fun p q hp hq => ?_⟩
      have hp' : isPc S p := by unfold isPc at hp ⊢; rw [e12] at hp; exact hp
      have hq' : isPc S q := by unfold isPc at hq ⊢; rw [e12] at hq; exact hq
      rw [h 69 _ (by unfold DC; omega), d2 p q hp' hq']
      unfold dblS; rw [ew, ew, e5]
def FLD (x i : Int) : Prop := x = 54 ∨ x = 55 ∨ x = 67 ∨ x = 68 ∨ x = 69 ∨ (x = 41 ∧ (i = 16 ∨ i = 17 ∨ i = 34))
theorem FLD_wk : WK FLD := fun x i h => by
  rcases h with rfl | rfl | rfl | rfl | rfl | ⟨rfl, rfl | rfl | rfl⟩ <;> first | exact ⟨rfl, fun q => absurd q (by decide)⟩ | exact ⟨rfl, fun _ => rfl⟩
theorem FLD_in : ∀ x i, FLD x i → 41 ≤ x ∧ x ≤ 83 := fun x i h => by unfold FLD at h; omega
theorem FLB_LD : ∀ x i, FLB x i → FLD x i := fun x i h => by unfold FLB at h; unfold FLD; omega
def DDb (S M : MM) : Prop := ∀ p q, isPc S p → isPc S q → M 69 (24 * p + q) = bi (dblS S p q)
def PLD (S : MM) (w : NS) (M : MM) : Int → NS → MM → Prop := fun _ w' M' => w = w' ∧ M' 41 34 = 1 ∧ DDb S M' ∧ Fo FLD M M'
theorem cm_layDoubles {G : GP} {l : Launch} {w : NS} {S M : MM} (hI : SInv S) (hA : Ag S M) (hD : MD S M) : CT_X10_layDoubles G l [(2, 41)] w M (PLD S w M) := by
  refine E_X10_layDoubles (fun X hX C => ?_)
  have hpc := hI.pc
  have f34 : FLD 41 34 := by unfold FLD; omega
  have Kin : ∀ p, isPc S p → (∀ M1, Fo FLD M M1 → M1 41 34 = 0 → (∀ a b : Int, 0 ≤ a → 0 ≤ b → (a < p + 1 ∧ b < p + 1) → M1 69 (24 * a + b) = bi (dblS S a b)) → A_X10_layDoubles_2 G X (PLD S w M) (p + 1) w M1) →
      ∀ q, q ≤ p + 1 → ∀ M1, 0 ≤ q → Fo FLD M M1 → M1 41 34 = 0 → (∀ a b : Int, 0 ≤ a → 0 ≤ b → ((a < p ∧ b < p) ∨ (a = p ∧ b < q) ∨ (b = p ∧ a < q)) → M1 69 (24 * a + b) = bi (dblS S a b)) → A_X10_layDoubles_19 G X (PLD S w M) p q w M1 := fun p hp nx => up_ind _ (fun q hq ih M1 q0 hF h34 hR => by
    have hpp := hp
    unfold isPc at hpp
    refine B_X10_layDoubles_19 C ?_
    refine ⟨fun h => ⟨by omega, nx M1 hF h34 (fun a b a0 b0 hab => hR a b a0 b0 (by omega))⟩, fun h => ⟨_, cm_areDoubles hI (hF.ag FLD_wk hA) hp ⟨q0, by omega⟩, ?_⟩⟩
    rintro z3 _ M3 ⟨e1, rfl, hF3⟩
    have h01 := bi_01 (dblS S p q)
    refine ⟨by omega, by omega, by omega, by omega, by omega, by omega, by omega, by omega, by omega, by omega, ih (q + 1) (by omega) (by omega) _ (by omega) (fo_up (fo_up (hF.tr (hF3.mono FLB_LD)) _ (by unfold FLD; omega)) _ (by unfold FLD; omega)) ?_ (fun a b a0 b0 hab => ?_)⟩
    · rw [up_na (by decide), up_na (by decide), hF3 41 34 (by unfold FLB; omega)]; exact h34
    · have hb24 : b < 24 ∧ a < 24 := by omega
      by_cases c1 : a = q ∧ b = p
      · rw [c1.1, c1.2, up_eq, ← e1, dblS_sym]
      · rw [up_ni (by omega)]
        by_cases c2 : a = p ∧ b = q
        · rw [c2.1, c2.2, up_eq, ← e1]
        · rw [up_ni (by omega), hF3 69 _ (by unfold FLB; omega)]
          exact hR a b a0 b0 (by omega))
  have K : ∀ p, p ≤ S 41 12 → ∀ M1, 0 ≤ p → Fo FLD M M1 → (M1 41 34 = 0 ∧ (∀ a b : Int, 0 ≤ a → 0 ≤ b → (a < p ∧ b < p) → M1 69 (24 * a + b) = bi (dblS S a b)) ∨ (M1 41 34 = 1 ∧ DDb S M1)) → A_X10_layDoubles_2 G X (PLD S w M) p w M1 := up_ind _ (fun p hp ih M1 p0 hF hR => by
    refine B_X10_layDoubles_2 C ?_
    have hA1 := hF.ag FLD_wk hA
    rw [hA1.2 12 rfl]
    have fin : DDb S M1 → PLD S w M 0 w (up M1 41 34 1) := fun hd => ⟨rfl, up_eq, fun a b ha hb => by rw [up_na (by decide)]; exact hd a b ha hb, fo_up hF _ f34⟩
    refine ⟨fun h => fin ?_, fun h => ⟨fun h2 => fin ?_, fun h2 => ?_⟩⟩
    · rcases hR with ⟨-, hr⟩ | ⟨-, hr⟩
      · exact fun a b ha hb => hr a b ha.1 hb.1 (by have := ha.2; have := hb.2; omega)
      · exact hr
    · rcases hR with ⟨hr, -⟩ | ⟨-, hr⟩
      · exact absurd hr h2
      · exact hr
    · rcases hR with ⟨h34, hr⟩ | ⟨hr, -⟩
      · exact Kin p ⟨p0, by omega⟩ (fun M2 g1 g2 g3 => ih (p + 1) (by omega) (by omega) M2 (by omega) g1 (Or.inl ⟨g2, g3⟩)) 0 (by omega) M1 (by omega) hF h34 (fun a b a0 b0 hab => hr a b a0 b0 (by omega))
      · omega)
  refine B_X10_layDoubles_0 C ?_
  refine K 0 (by omega) M (by omega) (Fo.rfl' _ _) ?_
  rcases hD with h | ⟨h, h2⟩
  · exact Or.inl ⟨h, fun a b a0 b0 hab => by omega⟩
  · exact Or.inr ⟨h, h2⟩
theorem famb_self {S : MM} {a : Int} (ha : isPc S a) : famb S a a = true := famb_iff.mpr ⟨ha, 0, rfl⟩
theorem famb_step {S : MM} {a p q : Int} (hp : famb S a p = true) (hd : dblS S p q = true) (hq : isPc S q) : famb S a q = true := by
  obtain ⟨h1, n, h2⟩ := famb_iff.mp hp
  exact famb_iff.mpr ⟨hq, n + 1, p, h1, h2, hd⟩
/-- a set that holds a and is closed holds its family -/
theorem famb_closed {S : MM} {a : Int} {P : Int → Prop} (ha : P a) (hc : ∀ p q, isPc S p → isPc S q → P p → dblS S p q = true → P q) {q : Int} (h : famb S a q = true) : P q := by
  obtain ⟨h1, n, h2⟩ := famb_iff.mp h
  have key : ∀ (n : Nat) (q : Int), isPc S q → Rn S n a q → P q := by
    intro n
    induction n with
    | zero => intro q _ h; have h' : a = q := h; rw [← h']; exact ha
    | succ n ih =>
      rintro q hq ⟨r, hr, h3, h4⟩
      exact hc r q hr hq (ih r hr h3) h4
  exact key n q h1 h2
theorem cnN_up {f g : Int → Bool} {m : Int} : ∀ n : Nat, (∀ k, k ≠ m → g k = f k) → f m = false → g m = true → 0 ≤ m → m < n → cnN g n = cnN f n + 1
  | 0, _, _, _, _, _ => by omega
  | n + 1, h, h1, h2, h3, h4 => by
    rw [cnN, cnN]
    by_cases e : m = n
    · subst e
      rw [cnN_congr n (g := f) (fun k _ hk => h k (by omega)), h1, h2]; simp
    · rw [cnN_up n h h1 h2 h3 (by omega), h n (by omega)]; omega
theorem cnN_lt {f : Int → Bool} {m : Int} : ∀ n : Nat, f m = false → 0 ≤ m → m < n → cnN f n < n
  | 0, _, _, _ => by omega
  | n + 1, h, h1, h2 => by
    rw [cnN]
    by_cases e : m = n
    · subst e; rw [h]; have := (cnN_rng f n).2; simp; omega
    · have := cnN_lt n h h1 (by omega); split <;> omega
theorem cnN_one {a : Int} : ∀ n : Nat, 0 ≤ a → a < n → cnN (fun k => decide (k = a)) n = 1
  | 0, _, _ => by omega
  | n + 1, h0, h1 => by
    rw [cnN]
    by_cases e : a = n
    · subst e
      rw [cnN_congr (g := fun _ => false) n (fun k _ hk => by simp; omega)]
      have z : ∀ m : Nat, cnN (fun _ => false) m = 0 := fun m => by induction m with
        | zero => rfl
        | succ j ih => rw [cnN, ih]; rfl
      rw [z]; simp
    · rw [cnN_one n h0 (by omega)]; simp; omega
def FamR (S M : MM) (a : Int) : Prop := ∀ p, isPc S p → M 68 p = bi (famb S a p)
def PFF (S : MM) (a : Int) (w : NS) (M : MM) : Int → NS → MM → Prop := fun z w' M' => famC S a = z ∧ w = w' ∧ FamR S M' a ∧ (M' 41 34 = 1 ∧ DDb S M') ∧ Fo FLD M M'
theorem cm_findFamily {G : GP} {l : Launch} {w : NS} {S M : MM} {a : Int} (hI : SInv S) (hA : Ag S M) (hD : MD S M) (ha : isPc S a) : CT_X10_findFamily G l [(2, 41), (0, a)] w M (PFF S a w M) := by
  refine E_X10_findFamily (fun _ X hX C => ?_)
  have hpc := hI.pc
  have haa := ha
  unfold isPc at haa
  -- what holds of the row of the family at all times
  generalize hJ : (fun (M1 : MM) (z : Int) => Fo FLD M M1 ∧ (M1 41 34 = 1 ∧ DDb S M1) ∧ (∀ p, isPc S p → M1 68 p = 0 ∨ M1 68 p = 1) ∧ M1 68 a = 1 ∧ (∀ p, isPc S p → M1 68 p = 1 → famb S a p = true) ∧ z = cnN (fun p => decide (M1 68 p = 1)) (S 41 12).toNat) = J
  have Kin : ∀ p, isPc S p → ∀ z0, (∀ M1 z m, J M1 z → (m = 0 ∨ m = 1) → (m = 0 → z = z0 ∧ ∀ p' q, 0 ≤ p' → p' < p + 1 → isPc S q → M1 68 p' = 0 → M1 68 q = 1 → dblS S p' q = false) → (m = 1 → z0 < z) → A_X10_findFamily_49 G X (PFF S a w M) z m (p + 1) w M1) →
      ∀ q, q ≤ S 41 12 → ∀ M1 z m, 0 ≤ q → J M1 z → (m = 0 ∨ m = 1) → (m = 0 → z = z0 ∧ ∀ p' q, 0 ≤ p' → p' < p → isPc S q → M1 68 p' = 0 → M1 68 q = 1 → dblS S p' q = false) → (m = 1 → z0 < z) → (M1 68 p = 0 → ∀ q', 0 ≤ q' → q' < q → M1 68 q' = 1 → dblS S p q' = false) → A_X10_findFamily_61 G X (PFF S a w M) z m p q w M1 := fun p hp z0 nx => up_ind _ (fun q hq ih M1 z m q0 hj hm h0 h1 h2 => by
    have hpp := hp
    unfold isPc at hpp
    have hj2 := hj
    rw [← hJ] at hj2
    obtain ⟨j1, ⟨j2, j2'⟩, j3, j4, j5, j6⟩ := hj2
    have hA1 := j1.ag FLD_wk hA
    refine B_X10_findFamily_61 C ?_
    rw [hA1.2 12 rfl]
    have hz := cnN_rng (fun p => decide (M1 68 p = 1)) (S 41 12).toNat
    have next : (M1 68 p = 0 → ∀ q', isPc S q' → M1 68 q' = 1 → dblS S p q' = false) → A_X10_findFamily_49 G X (PFF S a w M) z m (p + 1) w M1 := fun hh => nx M1 z m hj hm (fun e => ⟨(h0 e).1, fun p' q' a1 a2 a3 a4 a5 => by
      by_cases e2 : p' = p
      · rw [e2]; rw [e2] at a4; exact hh a4 q' a3 a5
      · exact (h0 e).2 p' q' a1 (by omega) a3 a4 a5⟩) h1
    refine ⟨fun h => ⟨by omega, next (fun e q' hq' e2 => h2 e q' hq'.1 (by have := hq'.2; omega) e2)⟩, fun h => ⟨by omega, by omega, fun h3 => ⟨by omega, next (fun e => absurd e h3)⟩, fun h3 => ⟨by omega, by omega, fun h4 => ⟨by omega, ?_⟩, fun h4 => ⟨by omega, by omega, by omega, by omega, fun h5 => ⟨by omega, ?_⟩, fun h5 => ⟨by omega, by omega, ?_⟩⟩⟩⟩⟩
    · refine ih (q + 1) (by omega) (by omega) M1 z m (by omega) hj hm h0 h1 (fun e q' a1 a2 a3 => ?_)
      by_cases e2 : q' = q
      · rw [e2] at a3; omega
      · exact h2 e q' a1 (by omega) a3
    · refine ih (q + 1) (by omega) (by omega) M1 z m (by omega) hj hm h0 h1 (fun e q' a1 a2 a3 => ?_)
      by_cases e2 : q' = q
      · rw [e2]
        have := j2' p q hp ⟨q0, by omega⟩
        rw [h5] at this
        exact bi_0.mp this.symm
      · exact h2 e q' a1 (by omega) a3
    · have hqc : isPc S q := ⟨q0, by omega⟩
      have hdpq : dblS S p q = true := by
        have := j2' p q hp hqc
        rcases bi_01 (dblS S p q) with e | e
        · rw [e] at this; exact absurd this h5
        · exact bi_1.mp e
      have hfq : famb S a q = true := j5 q hqc (by rcases j3 q hqc with e | e; exact absurd e h4; exact e)
      have hcn : cnN (fun k => decide (up M1 68 p 1 68 k = 1)) (S 41 12).toNat = cnN (fun p => decide (M1 68 p = 1)) (S 41 12).toNat + 1 := by
        refine cnN_up (m := p) _ (fun k hk => ?_) ?_ ?_ hpp.1 (by omega)
        · show decide (up M1 68 p 1 68 k = 1) = decide (M1 68 k = 1); rw [up_ni hk]
        · show decide (M1 68 p = 1) = false; rw [Decidable.not_not.mp h3]; rfl
        · show decide (up M1 68 p 1 68 p = 1) = true; rw [up_eq]; rfl
      have hj3 : J (up M1 68 p 1) (z + 1) := by
        rw [← hJ]
        refine ⟨fo_up j1 _ (by unfold FLD; omega), ⟨by rw [up_na (by decide)]; exact j2, fun x y hx hy => by rw [up_na (by decide)]; exact j2' x y hx hy⟩, fun k hk => ?_, ?_, fun k hk hk1 => ?_, by rw [hcn, j6]⟩
        · by_cases e : k = p
          · right; rw [e, up_eq]
          · rw [up_ni e]; exact j3 k hk
        · by_cases e : a = p
          · rw [e, up_eq]
          · rw [up_ni e]; exact j4
        · by_cases e : k = p
          · rw [e]; exact famb_step hfq (by rw [dblS_sym]; exact hdpq) hp
          · rw [up_ni e] at hk1; exact j5 k hk hk1
      have hzz : z0 ≤ z := by
        rcases hm with e | e
        · rw [(h0 e).1]; omega
        · have := h1 e; omega
      exact ih (q + 1) (by omega) (by omega) _ (z + 1) 1 (by omega) hj3 (Or.inr rfl) (fun e => by omega) (fun _ => by omega) (fun e => by rw [up_eq] at e; omega))
  have Kp : ∀ z0, (∀ M1 z m, J M1 z → (m = 0 ∨ m = 1) → (m = 0 → z = z0 ∧ ∀ p' q, isPc S p' → isPc S q → M1 68 p' = 0 → M1 68 q = 1 → dblS S p' q = false) → (m = 1 → z0 < z) → A_X10_findFamily_40 G X (PFF S a w M) z m w M1) →
      ∀ p, p ≤ S 41 12 → ∀ M1 z m, 0 ≤ p → J M1 z → (m = 0 ∨ m = 1) → (m = 0 → z = z0 ∧ ∀ p' q, 0 ≤ p' → p' < p → isPc S q → M1 68 p' = 0 → M1 68 q = 1 → dblS S p' q = false) → (m = 1 → z0 < z) → A_X10_findFamily_49 G X (PFF S a w M) z m p w M1 := fun z0 nx => up_ind _ (fun p hp ih M1 z m p0 hj hm h0 h1 => by
    have hj2 := hj
    rw [← hJ] at hj2
    have hA1 := hj2.1.ag FLD_wk hA
    refine B_X10_findFamily_49 C ?_
    rw [hA1.2 12 rfl]
    refine ⟨fun h => nx M1 z m hj hm (fun e => ⟨(h0 e).1, fun p' q hp' hq a3 a4 => (h0 e).2 p' q hp'.1 (by have := hp'.2; omega) hq a3 a4⟩) h1, fun h => ?_⟩
    exact Kin p ⟨p0, by omega⟩ z0 (fun M2 z2 m2 g1 g2 g3 g4 => ih (p + 1) (by omega) (by omega) M2 z2 m2 (by omega) g1 g2 g3 g4) 0 (by omega) M1 z m (by omega) hj hm h0 h1 (fun e q' a1 a2 => by omega))
  have Kw : ∀ z, z ≤ S 41 12 → ∀ M1 m, J M1 z → (m = 0 ∨ m = 1) → (m = 0 → ∀ p' q, isPc S p' → isPc S q → M1 68 p' = 0 → M1 68 q = 1 → dblS S p' q = false) → A_X10_findFamily_40 G X (PFF S a w M) z m w M1 := up_ind _ (fun z hz ih M1 m hj hm h0 => by
    refine B_X10_findFamily_40 C ?_
    refine ⟨fun e => ?_, fun e => ?_⟩
    · have hj2 := hj
      rw [← hJ] at hj2
      obtain ⟨j1, ⟨j2, j2'⟩, j3, j4, j5, j6⟩ := hj2
      have hR : FamR S M1 a := fun p hp => by
        rcases j3 p hp with e1 | e1
        · rw [e1]
          cases hf : famb S a p
          · rfl
          · exfalso
            have := famb_closed (P := fun q => isPc S q → M1 68 q = 1) (fun _ => j4) (fun x y hx hy h3 h4 _ => by
              rcases j3 y hy with e2 | e2
              · have h5 := h0 e y x hy hx e2 (h3 hx)
                rw [dblS_sym, h4] at h5; cases h5
              · exact e2) hf hp
            rw [e1] at this; omega
        · rw [e1, j5 p hp e1]; rfl
      refine ⟨?_, rfl, hR, ⟨j2, j2'⟩, j1⟩
      rw [j6]
      refine cnN_congr _ (fun k k0 k1 => ?_)
      show famb S a k = decide (M1 68 k = 1)
      rw [hR k ⟨k0, by omega⟩]
      cases famb S a k <;> rfl
    · refine Kp z (fun M2 z2 m2 g1 g2 g3 g4 => ?_) 0 (by omega) M1 z 0 (by omega) hj (Or.inl rfl) (fun _ => ⟨rfl, fun p' q a1 a2 => by omega⟩) (fun e2 => by omega)
      rcases g2 with e2 | e2
      · obtain ⟨e3, e4⟩ := g3 e2
        -- the last look: nothing new
        have hz2 : z2 = z := e3
        rw [e2]
        refine B_X10_findFamily_40 C ⟨fun _ => ?_, fun q => absurd rfl q⟩
        have hj2 := g1
        rw [← hJ] at hj2
        obtain ⟨j1, ⟨j2, j2'⟩, j3, j4, j5, j6⟩ := hj2
        have hR : FamR S M2 a := fun p hp => by
          rcases j3 p hp with e1 | e1
          · rw [e1]
            cases hf : famb S a p
            · rfl
            · exfalso
              have := famb_closed (P := fun q => isPc S q → M2 68 q = 1) (fun _ => j4) (fun x y hx hy h3 h4 _ => by
                rcases j3 y hy with e2 | e2
                · have h5 := e4 y x hy hx e2 (h3 hx)
                  rw [dblS_sym, h4] at h5; cases h5
                · exact e2) hf hp
              rw [e1] at this; omega
          · rw [e1, j5 p hp e1]; rfl
        refine ⟨?_, rfl, hR, ⟨j2, j2'⟩, j1⟩
        rw [j6]
        refine cnN_congr _ (fun k k0 k1 => ?_)
        show famb S a k = decide (M2 68 k = 1)
        rw [hR k ⟨k0, by omega⟩]
        cases famb S a k <;> rfl
      · have hzl := g4 e2
        have hj2 := g1
        rw [← hJ] at hj2
        have hr := cnN_rng (fun p => decide (M2 68 p = 1)) (S 41 12).toNat
        rw [← hj2.2.2.2.2.2] at hr
        exact ih z2 hzl (by omega) M2 m2 g1 (Or.inr e2) (fun e3 => by omega))
  have K1 : ∀ p, p ≤ S 41 12 → ∀ M1, 0 ≤ p → Fo FLD M M1 → (M1 41 34 = 1 ∧ DDb S M1) → (∀ k, 0 ≤ k → k < p → M1 68 k = bi (decide (k = a))) → A_X10_findFamily_6 G X (PFF S a w M) a p w M1 := up_ind _ (fun p hp ih M1 p0 hF hd hR => by
    have hA1 := hF.ag FLD_wk hA
    refine B_X10_findFamily_6 C ?_
    rw [hA1.2 12 rfl]
    refine ⟨fun h => ?_, fun h => ⟨fun h2 => ⟨by omega, by omega, by omega, ?_⟩, fun h2 => ⟨by omega, by omega, by omega, ?_⟩⟩⟩
    · have e1 : M1 68 a = 1 := by rw [hR a haa.1 (by omega)]; simp [bi]
      have hcn : cnN (fun p => decide (M1 68 p = 1)) (S 41 12).toNat = 1 := by
        rw [cnN_congr (g := fun k => decide (k = a)) _ (fun k k0 k1 => ?_)]
        · exact cnN_one _ haa.1 (by omega)
        · show decide (M1 68 k = 1) = decide (k = a)
          rw [hR k k0 (by omega)]
          by_cases e : k = a <;> simp [e, bi]
      refine Kw 1 (by omega) M1 1 ?_ (Or.inr rfl) (fun e => by omega)
      rw [← hJ]
      refine ⟨hF, hd, fun k hk => ?_, e1, fun k hk hk1 => ?_, hcn.symm⟩
      · rw [hR k hk.1 (by have := hk.2; omega)]; exact bi_01 _
      · rw [hR k hk.1 (by have := hk.2; omega)] at hk1
        have : k = a := by simpa using bi_1.mp hk1
        rw [this]; exact famb_self ha
    · refine ih (p + 1) (by omega) (by omega) _ (by omega) (fo_up hF _ (by unfold FLD; omega)) ⟨by rw [up_na (by decide)]; exact hd.1, fun x y hx hy => by rw [up_na (by decide)]; exact hd.2 x y hx hy⟩ (fun k k0 k1 => ?_)
      by_cases e : k = p
      · rw [e, up_eq]; simp [bi, h2]
      · rw [up_ni e]; exact hR k k0 (by omega)
    · refine ih (p + 1) (by omega) (by omega) _ (by omega) (fo_up hF _ (by unfold FLD; omega)) ⟨by rw [up_na (by decide)]; exact hd.1, fun x y hx hy => by rw [up_na (by decide)]; exact hd.2 x y hx hy⟩ (fun k k0 k1 => ?_)
      by_cases e : k = p
      · rw [e, up_eq]; simp [bi, Decidable.not_not.mp h2]
      · rw [up_ni e]; exact hR k k0 (by omega))
  refine B_X10_findFamily_0 C ⟨_, cm_layDoubles hI hA hD, ?_⟩
  rintro z2 _ M2 ⟨rfl, k1, k2, k3⟩
  exact K1 0 (by omega) M2 (by omega) k3 ⟨k1, k2⟩ (fun k k0 k1 => by omega)
theorem cm_firstOf {G : GP} {l : Launch} {w : NS} {S M : MM} {a : Int} (hI : SInv S) (hA : Ag S M) (hR : FamR S M a) : CT_X10_firstOf G l [(2, 41)] w M (PE (firstS S a) w M) := by
  refine E_X10_firstOf (fun X hX C => ?_)
  have hpc := hI.pc
  have L : ∀ i, i ≤ S 41 12 → ∀ z, 0 ≤ i → z = fstN S (famb S a) i.toNat → A_X10_firstOf_4 G X (PE (firstS S a) w M) z i w M := up_ind _ (fun i hi ih z h0 hz => by
    refine B_X10_firstOf_4 C ?_
    rw [hA.2 12 rfl]
    have hrg := fstN_rng S (famb S a) i.toNat
    have hs : fstN S (famb S a) (i + 1).toNat = if famb S a i && (decide (fstN S (famb S a) i.toNat < 0) || aheadS S i (fstN S (famb S a) i.toNat)) then i else fstN S (famb S a) i.toNat := by
      rw [show (i + 1).toNat = i.toNat + 1 by omega, fstN, show ((i.toNat : Nat) : Int) = i by omega]
    rw [← hz] at hrg hs
    refine ⟨fun h => ⟨?_, rfl, rfl⟩, fun h => ?_⟩
    · rw [hz, show i = S 41 12 by omega]; rfl
    · have hic : isPc S i := ⟨h0, by omega⟩
      rw [hR i hic]
      refine ⟨by omega, by omega, fun h1 => ⟨by omega, ih (i + 1) (by omega) (by omega) _ (by omega) ?_⟩, fun h1 => ⟨fun h2 => ⟨by omega, ih (i + 1) (by omega) (by omega) _ (by omega) ?_⟩, fun h2 => ⟨_, cm_isAhead hI hA hic ⟨by omega, by omega⟩, ?_⟩⟩⟩
      · rw [hs, bi_0.mp h1]; simp
      · have : famb S a i = true := by cases e : famb S a i; rw [e] at h1; exact absurd rfl h1; rfl
        rw [hs, this]; simp [h2]
      · have h3 : famb S a i = true := by cases e : famb S a i; rw [e] at h1; exact absurd rfl h1; rfl
        rintro _ _ _ ⟨rfl, rfl, rfl⟩
        refine ⟨fun h4 => ⟨by omega, ih (i + 1) (by omega) (by omega) _ (by omega) ?_⟩, fun h4 => ⟨by omega, ih (i + 1) (by omega) (by omega) _ (by omega) ?_⟩⟩
        · rw [hs, h3, bi_0.mp h4]; simp [h2]
        · have h5 : aheadS S i z = true := by cases e : aheadS S i z; rw [e] at h4; exact absurd rfl h4; rfl
          rw [hs, h3, h5]; simp)
  exact B_X10_firstOf_0 C (L 0 (by omega) _ (by omega) rfl)
noncomputable def op_about (S : MM) (a x : Int) : Int × MM :=
  (if isPc S a then (if x = 0 then S 46 a else if x = 1 then ((wl S a).length : Int) else if x = 2 then S 51 a else if x = 3 then S 52 a else if x = 4 then firstS S a else if x = 5 then famC S a else -2) else -1, S)
/-- behind a call of the model that may have laid the doubles -/
def PMD (w : NS) (M : MM) (r : Int × MM) : Int → NS → MM → Prop := fun z w' M' => z = r.1 ∧ Ag r.2 M' ∧ w' = w ∧ FrM M M' ∧ MD r.2 M'
theorem PM.d {S M M' : MM} {w w' : NS} {r : Int × MM} {z : Int} (hA : Ag S M) (hD : MD S M) (h : PM w M r z w' M') : PMD w M r z w' M' := ⟨h.1, h.2.1, h.2.2.1, h.2.2.2.1, md_dk hA h.2.1 hD h.2.2.2.2⟩
theorem pd_u {M M1 S1 : MM} {w : NS} {r : Int × MM} {z : Int} (e : r = (z, S1)) (hA1 : Ag S1 M1) (hF : FrM M M1) (hD : MD S1 M1) : PMD w M r z w M1 := by
  rw [e]; exact ⟨rfl, hA1, rfl, hF, hD⟩
theorem pd_s {S M : MM} {w : NS} {r : Int × MM} {z : Int} (hA : Ag S M) (hD : MD S M) (e : r = (z, S)) : PMD w M r z w M := pd_u e hA (FrM.rfl' M) hD
theorem cm_about {G : GP} {l : Launch} {w : NS} {S M : MM} {a b : Int} (hI : SInv S) (hA : Ag S M) (hD : MD S M) : CT_X10_about G l [(2, 41), (0, a), (0, b)] w M (PMD w M (op_about S a b)) := by
  refine E_X10_about (fun _ _ X hX C => ?_)
  have hp2 := hI.pc
  refine B_X10_about_0 C ?_
  rw [hA.2 12 rfl, hA.1 46 a rfl, hA.1 51 a rfl, hA.1 52 a rfl]
  refine ⟨by omega, fun h1 => ⟨fun h2 => pd_s hA hD ?_, fun h2 => ⟨by omega, by omega, pd_s hA hD ?_⟩, fun h2 => ⟨_, cm_layOne hI hA h1, ?_⟩, fun h2 => ⟨by omega, by omega, pd_s hA hD ?_⟩, fun h2 => ⟨by omega, by omega, pd_s hA hD ?_⟩, fun h2 => ⟨_, cm_findFamily hI hA hD h1, ?_⟩, fun h2 => ⟨_, cm_findFamily hI hA hD h1, ?_⟩⟩, fun h1 => pd_s hA hD (by unfold op_about; rw [if_neg h1])⟩
  · unfold op_about; rw [if_pos h1, if_neg (by omega), if_neg (by omega), if_neg (by omega), if_neg (by omega), if_neg (by omega), if_neg (by omega)]
  · unfold op_about; rw [if_pos h1, if_pos h2]
  · rintro z6 _ M6 ⟨rfl, k1, k2, k3⟩
    exact pd_u (S1 := S) (by unfold op_about; rw [if_pos h1, if_neg (by omega), if_pos h2, k1]) (k3.ag FL1_wk hA) (k3.frm FL1_in) (md_dk hA (k3.ag FL1_wk hA) hD (k3.dk FL1_dk))
  · unfold op_about; rw [if_pos h1, if_neg (by omega), if_neg (by omega), if_pos h2]
  · unfold op_about; rw [if_pos h1, if_neg (by omega), if_neg (by omega), if_neg (by omega), if_pos h2]
  · rintro z12 _ M12 ⟨e1, rfl, hR, hd, hF⟩
    refine ⟨_, cm_firstOf hI (hF.ag FLD_wk hA) hR, ?_⟩
    rintro _ _ _ ⟨rfl, rfl, rfl⟩
    exact pd_u (S1 := S) (by unfold op_about; rw [if_pos h1, if_neg (by omega), if_neg (by omega), if_neg (by omega), if_neg (by omega), if_pos h2]) (hF.ag FLD_wk hA) (hF.frm FLD_in) (Or.inr hd)
  · rintro z12 _ M12 ⟨e1, rfl, hR, hd, hF⟩
    exact pd_u (S1 := S) (by unfold op_about; rw [if_pos h1, if_neg (by omega), if_neg (by omega), if_neg (by omega), if_neg (by omega), if_neg (by omega), if_pos h2, e1]) (hF.ag FLD_wk hA) (hF.frm FLD_in) (Or.inr hd)
