/-! LISTS: what they are; THE MODEL -/
noncomputable def dbdS (S : MM) (o k : Int) : Bool := exN (fun p => famb S k p && aheadS S p k && wantsS S o p) (S 41 12).toNat
noncomputable def lstF (S : MM) (o day k : Int) : Bool := wantsS S o k && decide (S 44 (S 46 k) = day) && !(decide (S 63 o = 1) && dbdS S o k)
noncomputable def listS (S : MM) (o day : Int) : List Int := ((ordL S).filter (lstF S o day)).take (S 62 o).toNat
theorem sorted_ext {R : Int → Int → Bool} (irr : ∀ p, R p p = false) (asy : ∀ p q, R p q = true → R q p = false) : ∀ (A B : List Int), A.Pairwise (fun p q => R p q = true) → B.Pairwise (fun p q => R p q = true) → (∀ x, x ∈ A ↔ x ∈ B) → A = B
  | [], [], _, _, _ => rfl
  | [], b :: B, _, _, h => by have := (h b).mpr List.mem_cons_self; simp at this
  | a :: A, [], _, _, h => by have := (h a).mp List.mem_cons_self; simp at this
  | a :: A, b :: B, ha, hb, h => by
    rw [List.pairwise_cons] at ha hb
    have hab : a = b := by
      rcases List.mem_cons.mp ((h a).mp List.mem_cons_self) with e | e
      · exact e
      · rcases List.mem_cons.mp ((h b).mpr List.mem_cons_self) with e2 | e2
        · exact e2.symm
        · have h1 := hb.1 a e
          have h2 := ha.1 b e2
          rw [asy _ _ h1] at h2; cases h2
    subst hab
    rw [sorted_ext irr asy A B ha.2 hb.2 (fun x => ⟨fun hx => ?_, fun hx => ?_⟩)]
    · rcases List.mem_cons.mp ((h x).mp (List.mem_cons_of_mem _ hx)) with e | e
      · have := ha.1 x hx; rw [e, irr] at this; cases this
      · exact e
    · rcases List.mem_cons.mp ((h x).mpr (List.mem_cons_of_mem _ hx)) with e | e
      · have := hb.1 x hx; rw [e, irr] at this; cases this
      · exact e
theorem ftN_mem {f : Int → Bool} : ∀ (n : Nat) (x : Int), x ∈ ftN f n ↔ 0 ≤ x ∧ x < n ∧ f x = true
  | 0, x => by simp [ftN]; omega
  | n + 1, x => by
    rw [ftN, List.mem_append, ftN_mem n x]
    by_cases h : f n = true
    · rw [if_pos h]
      simp only [List.mem_singleton]
      constructor
      · rintro (q | q)
        · exact ⟨q.1, by omega, q.2.2⟩
        · rw [q]; exact ⟨by omega, by omega, h⟩
      · rintro ⟨q1, q2, q3⟩
        by_cases e : x = n
        · exact Or.inr e
        · exact Or.inl ⟨q1, by omega, q3⟩
    · rw [if_neg h]
      constructor
      · rintro (q | q)
        · exact ⟨q.1, by omega, q.2.2⟩
        · simp at q
      · rintro ⟨q1, q2, q3⟩
        by_cases e : x = n
        · rw [e] at q3; exact absurd q3 h
        · exact Or.inl ⟨q1, by omega, q3⟩
theorem ftN_pw {f : Int → Bool} {R : Int → Int → Prop} (hR : ∀ a b, 0 ≤ a → a < b → f a = true → f b = true → R a b) : ∀ n : Nat, (ftN f n).Pairwise R
  | 0 => List.Pairwise.nil
  | n + 1 => by
    rw [ftN, List.pairwise_append]
    refine ⟨ftN_pw hR n, ?_, fun a ha b hb => ?_⟩
    · split <;> simp
    · split at hb
      · rename_i hf
        simp at hb
        have := (ftN_mem n a).mp ha
        rw [hb]; exact hR a n this.1 (by omega) this.2.2 hf
      · simp at hb
/-- by papers, then by numbers -/
def pprN (S : MM) (f : Int → Bool) (q : Int) : Int → Bool := fun k => f k && decide (S 43 (S 46 k) = q)
def catN (S : MM) (f : Int → Bool) : Nat → List Int
  | 0 => []
  | n + 1 => catN S f n ++ ftN (pprN S f n) (S 41 12).toNat
theorem catN_mem {S : MM} {f : Int → Bool} (hI : SInv S) : ∀ (n : Nat) (x : Int), x ∈ catN S f n ↔ isPc S x ∧ f x = true ∧ S 43 (S 46 x) < n
  | 0, x => by have := hI.pp (S 46 x); simp [catN]; intros; omega
  | n + 1, x => by
    have hp := hI.pp (S 46 x)
    have hc := hI.pc
    rw [catN, List.mem_append, catN_mem hI n x, ftN_mem]
    unfold pprN isPc
    simp only [Bool.and_eq_true, decide_eq_true_eq]
    constructor
    · rintro (⟨q1, q2, q3⟩ | ⟨q1, q2, q3, q4⟩)
      · exact ⟨q1, q2, by omega⟩
      · exact ⟨⟨q1, by omega⟩, q3, by omega⟩
    · rintro ⟨q1, q2, q3⟩
      by_cases e : S 43 (S 46 x) = n
      · exact Or.inr ⟨q1.1, by omega, q2, e⟩
      · exact Or.inl ⟨q1, q2, by omega⟩
theorem catN_pw {S : MM} {f : Int → Bool} {day : Int} (hI : SInv S) (hf : ∀ k, f k = true → S 44 (S 46 k) = day) : ∀ n : Nat, (catN S f n).Pairwise (fun p q => aheadS S p q = true)
  | 0 => List.Pairwise.nil
  | n + 1 => by
    rw [catN, List.pairwise_append]
    refine ⟨catN_pw hI hf n, ftN_pw (fun a b a0 hab ha hb => ?_) _, fun a ha b hb => ?_⟩
    · unfold pprN at ha hb
      simp only [Bool.and_eq_true, decide_eq_true_eq] at ha hb
      unfold aheadS
      rw [if_pos (by rw [hf a ha.1, hf b hb.1]), if_pos (by rw [ha.2, hb.2])]
      exact decide_eq_true hab
    · have h1 := (catN_mem hI n a).mp ha
      have h2 := ((ftN_mem _ b).mp hb).2.2
      unfold pprN at h2
      simp only [Bool.and_eq_true, decide_eq_true_eq] at h2
      unfold aheadS
      rw [if_pos (by rw [hf a h1.2.1, hf b h2.1]), if_neg (by omega)]
      exact decide_eq_true (by omega)
theorem cat_ord {S : MM} {f : Int → Bool} {day : Int} (hI : SInv S) (hf : ∀ k, f k = true → S 44 (S 46 k) = day) : catN S f 10 = (ordL S).filter f := by
  refine sorted_ext (R := aheadS S) (ah_irr S) ah_asy _ _ (catN_pw hI hf 10) ((ordL_sorted S).filter f) (fun x => ?_)
  rw [catN_mem hI, List.mem_filter, ordL_mem]
  have := hI.pp (S 46 x)
  exact ⟨fun q => ⟨q.1, q.2.1⟩, fun q => ⟨q.1, q.2, by omega⟩⟩
theorem lstF_day {S : MM} {o day k : Int} (h : lstF S o day k = true) : S 44 (S 46 k) = day := by
  unfold lstF at h
  simp only [Bool.and_eq_true, decide_eq_true_eq] at h
  exact h.1.2
theorem take_snoc {A : List Int} {x : Int} {m : Nat} : (A ++ [x]).take m = if A.length < m then A.take m ++ [x] else A.take m := by
  split
  · rename_i h
    rw [List.take_of_length_le (by rw [List.length_append]; simp; omega), List.take_of_length_le (by omega)]
  · rename_i h
    rw [List.take_append_of_le_length (by omega)]
theorem listS_mem {S : MM} {o day x : Int} (h : x ∈ listS S o day) : isPc S x := by
  unfold listS at h
  exact (ordL_mem x).mp (List.mem_filter.mp (List.mem_of_mem_take h)).1
theorem listS_len {S : MM} {o day : Int} (hI : SInv S) : (listS S o day).length ≤ 20 := by
  unfold listS
  have := hI.ms o
  rw [List.length_take]; omega
theorem listS_len2 {S : MM} {o day : Int} (hI : SInv S) : ((listS S o day).length : Int) ≤ S 62 o := by
  unfold listS
  have := hI.ms o
  rw [List.length_take]; omega
theorem cm_isDoubled {G : GP} {l : Launch} {w : NS} {S M : MM} {o k : Int} (hI : SInv S) (hA : Ag S M) (hD : MD S M) (hk : isPc S k) (hW : ∀ p, isPc S p → M 71 p = bi (wantsS S o p)) : CT_X10_isDoubled G l [(2, 41), (0, k)] w M (fun z w' M' => bi (dbdS S o k) = z ∧ w = w' ∧ (M' 41 34 = 1 ∧ DDb S M') ∧ Fo FLD M M') := by
  refine E_X10_isDoubled (fun _ X hX C => ?_)
  have hpc := hI.pc
  refine B_X10_isDoubled_0 C ⟨_, cm_findFamily hI hA hD hk, ?_⟩
  rintro z2 _ M2 ⟨-, rfl, hR, hd, hF⟩
  have hA2 := hF.ag FLD_wk hA
  have hW2 : ∀ p, isPc S p → M2 71 p = bi (wantsS S o p) := fun p hp => (hF 71 p (by unfold FLD; omega)).trans (hW p hp)
  have L : ∀ i, i ≤ S 41 12 → ∀ z, 0 ≤ i → z = bi (exN (fun p => famb S k p && aheadS S p k && wantsS S o p) i.toNat) → A_X10_isDoubled_10 G X (fun z w' M' => bi (dbdS S o k) = z ∧ w = w' ∧ (M' 41 34 = 1 ∧ DDb S M') ∧ Fo FLD M M') k z i w M2 := up_ind _ (fun i hi ih z i0 hz => by
    refine B_X10_isDoubled_10 C ?_
    rw [hA2.2 12 rfl]
    refine ⟨fun h => ⟨by rw [hz]; exact bi_01 _, ?_, rfl, hd, hF⟩, fun h => ?_⟩
    · rw [hz, show i = S 41 12 by omega]; rfl
    · have hip : isPc S i := ⟨i0, by omega⟩
      have ih2 := fun z hz => ih (i + 1) (by omega) (by omega) z (by omega) hz
      rw [exN_s i0] at ih2
      have h01 := bi_01 (exN (fun p => famb S k p && aheadS S p k && wantsS S o p) i.toNat)
      have g0 : ¬ z ≠ 0 → ∀ v, v = bi (famb S k i && aheadS S i k && wantsS S o i) → A_X10_isDoubled_10 G X (fun z w' M' => bi (dbdS S o k) = z ∧ w = w' ∧ (M' 41 34 = 1 ∧ DDb S M') ∧ Fo FLD M M') k v (i + 1) w M2 := fun q v hv => ih2 v (by
        rw [bi_0.mp (hz.symm.trans (Decidable.not_not.mp q)), hv]; rfl)
      rw [hR i hip]
      refine ⟨fun q => ⟨by omega, ih2 1 ?_⟩, fun q => ⟨by omega, by omega, fun q2 => ⟨by omega, g0 q _ ?_⟩, fun q2 => ⟨fun q3 => ⟨by omega, g0 q _ ?_⟩, fun q3 => ⟨_, cm_isAhead hI hA2 hip hk, ?_⟩⟩⟩⟩
      · rw [bi_1.mp (show bi (exN (fun p => famb S k p && aheadS S p k && wantsS S o p) i.toNat) = 1 by omega)]; rfl
      · rw [bi_0.mp q2]; rfl
      · rw [q3, ah_irr]; simp [bi]
      · rintro _ _ _ ⟨rfl, rfl, rfl⟩
        have q2' : famb S k i = true := by cases e : famb S k i; rw [e] at q2; exact absurd rfl q2; rfl
        refine ⟨fun q4 => ⟨by omega, g0 q _ ?_⟩, fun q4 => ?_⟩
        · rw [bi_0.mp q4]; simp [bi]
        · have q4' : aheadS S i k = true := by cases e : aheadS S i k; rw [e] at q4; exact absurd rfl q4; rfl
          rw [hW2 i hip]
          refine ⟨fun q5 => ⟨by omega, g0 q _ ?_⟩, fun q5 => ⟨by omega, g0 q _ ?_⟩⟩
          · rw [bi_0.mp q5]; simp [bi]
          · have q5' : wantsS S o i = true := by cases e : wantsS S o i; rw [e] at q5; exact absurd rfl q5; rfl
            rw [q2', q4', q5']; rfl)
  exact L 0 (by omega) 0 (by omega) rfl
def FFL (x i : Int) : Prop := x = 54 ∨ x = 55 ∨ (64 ≤ x ∧ x ≤ 71) ∨ (x = 41 ∧ (i = 16 ∨ i = 17 ∨ i = 30 ∨ i = 34 ∨ i = 36))
theorem FFL_wk : WK FFL := fun x i h => by
  unfold FFL at h
  refine ⟨?_, fun e => ?_⟩
  · unfold PA; simp; omega
  · unfold PF; simp; omega
theorem FFL_in : ∀ x i, FFL x i → 41 ≤ x ∧ x ≤ 83 := fun x i h => by unfold FFL at h; omega
theorem FIR_FL : ∀ x i, FIR x i → FFL x i := fun x i h => by unfold FIR at h; unfold FFL; omega
theorem FLD_FL : ∀ x i, FLD x i → FFL x i := fun x i h => by unfold FLD at h; unfold FFL; omega
def PFL (S : MM) (o day : Int) (w : NS) (M : MM) : Int → NS → MM → Prop := fun _ w' M' => w = w' ∧ M' 41 36 = (listS S o day).length ∧ AL M' 70 (listS S o day) ∧ MD S M' ∧ Fo FFL M M'
theorem cm_findList {G : GP} {l : Launch} {w : NS} {S M : MM} {o day : Int} (hI : SInv S) (hV : RInv S) (hA : Ag S M) (hD : MD S M) (ho : isOr S o) : CT_X10_findList G l [(2, 41), (0, o), (0, day)] w M (PFL S o day w M) := by
  refine E_X10_findList (fun _ _ X hX C => ?_)
  have hpc := hI.pc
  have hoc := hI.oc
  have hpg := hI.pg
  have hms := hI.ms o
  have hone := hI.oe o
  have ho2 := ho
  unfold isOr at ho2
  -- who is looked at at all
  generalize hwt : (fun p => (decide (S 63 o = 1) || decide (S 44 (S 46 p) = day)) && wantsS S o p) = wt
  have hm : (S 62 o).toNat = (S 62 o).toNat := rfl
  have Kin : ∀ q : Nat, q < 10 → (∀ M1, Fo FFL M M1 → MD S M1 → (∀ p, isPc S p → M1 71 p = bi (wt p)) → M1 41 36 = ((catN S (lstF S o day) (q + 1)).take (S 62 o).toNat).length → AL M1 70 ((catN S (lstF S o day) (q + 1)).take (S 62 o).toNat) → A_X10_findList_67 G X (PFL S o day w M) o day ((q : Int) + 1) w M1) →
      ∀ p, p ≤ S 41 12 → ∀ M1, 0 ≤ p → Fo FFL M M1 → MD S M1 → (∀ p, isPc S p → M1 71 p = bi (wt p)) → M1 41 36 = ((catN S (lstF S o day) q ++ ftN (pprN S (lstF S o day) q) p.toNat).take (S 62 o).toNat).length → AL M1 70 ((catN S (lstF S o day) q ++ ftN (pprN S (lstF S o day) q) p.toNat).take (S 62 o).toNat) → A_X10_findList_76 G X (PFL S o day w M) o day q p w M1 := fun q hq nx => up_ind _ (fun p hp ih M1 p0 hF hd1 hW hn hL => by
    have hA1 := hF.ag FFL_wk hA
    obtain ⟨kf4, kf12, kf26, ke42, ke43, ke44, ke45, ke46, ke47, ke48, ke49, ke50, ke51, ke52, ke53, ke56, ke57, ke58, ke59, ke60, ke61, ke62, ke63, ke72, ke73, ke77, ke78, ke79, ke83⟩ := hA1.all
    refine B_X10_findList_76 C ?_
    simp only [kf4, kf12, kf26, ke42, ke43, ke44, ke45, ke46, ke47, ke48, ke49, ke50, ke51, ke52, ke53, ke56, ke57, ke58, ke59, ke60, ke61, ke62, ke63, ke72, ke73, ke77, ke78, ke79, ke83]
    refine ⟨fun h => ⟨by omega, nx M1 hF hd1 hW ?_ ?_⟩, fun h => ?_⟩
    · rw [catN, ← show p.toNat = (S 41 12).toNat by omega]; exact hn
    · rw [catN, ← show p.toNat = (S 41 12).toNat by omega]; exact hL
    · have hpp : isPc S p := ⟨p0, by omega⟩
      have hg := hI.po p hpp
      unfold isPg at hg
      have hs : ftN (pprN S (lstF S o day) q) (p + 1).toNat = ftN (pprN S (lstF S o day) q) p.toNat ++ (if pprN S (lstF S o day) q p then [p] else []) := ftN_s p0
      have skip : pprN S (lstF S o day) q p = false ∨ S 62 o ≤ M1 41 36 → ∀ M2, Fo FFL M M2 → MD S M2 → (∀ p, isPc S p → M2 71 p = bi (wt p)) → M2 41 36 = M1 41 36 → (∀ i, M2 70 i = M1 70 i) → A_X10_findList_76 G X (PFL S o day w M) o day q (p + 1) w M2 := fun hc M2 g1 g2 g3 g4 g5 => by
        have e : (catN S (lstF S o day) q ++ ftN (pprN S (lstF S o day) q) (p + 1).toNat).take (S 62 o).toNat = (catN S (lstF S o day) q ++ ftN (pprN S (lstF S o day) q) p.toNat).take (S 62 o).toNat := by
          rw [hs]
          by_cases c : pprN S (lstF S o day) q p = true
          · rw [if_pos c, ← List.append_assoc, take_snoc, if_neg]
            rcases hc with hc | hc
            · rw [hc] at c; cases c
            · rw [hn, List.length_take] at hc; omega
          · rw [if_neg c, List.append_nil]
        refine ih (p + 1) (by omega) (by omega) M2 (by omega) g1 g2 g3 ?_ ?_
        · rw [e, g4]; exact hn
        · rw [e]; exact al_fr hL g5
      have add : pprN S (lstF S o day) q p = true → ¬ S 62 o ≤ M1 41 36 → ∀ M2, Fo FFL M M2 → MD S M2 → (∀ p, isPc S p → M2 71 p = bi (wt p)) → M2 41 36 = M1 41 36 → (∀ i, M2 70 i = M1 70 i) → A_X10_findList_76 G X (PFL S o day w M) o day q (p + 1) w (up (up M2 70 (M1 41 36) p) 41 36 (M1 41 36 + 1)) := fun c hc M2 g1 g2 g3 g4 g5 => by
        have hlt : (catN S (lstF S o day) q ++ ftN (pprN S (lstF S o day) q) p.toNat).length < (S 62 o).toNat := by
          rw [hn, List.length_take] at hc; omega
        have e : (catN S (lstF S o day) q ++ ftN (pprN S (lstF S o day) q) (p + 1).toNat).take (S 62 o).toNat = (catN S (lstF S o day) q ++ ftN (pprN S (lstF S o day) q) p.toNat).take (S 62 o).toNat ++ [p] := by
          rw [hs, if_pos c, ← List.append_assoc, take_snoc, if_pos hlt]
        refine ih (p + 1) (by omega) (by omega) _ (by omega) (fo_up (fo_up g1 _ (by unfold FFL; omega)) _ (by unfold FFL; omega)) ?_ (fun x hx => by rw [up_na (by decide), up_na (by decide)]; exact g3 x hx) ?_ ?_
        · rcases g2 with g2 | g2
          · left; rw [up_ni (by decide), up_na (by decide)]; exact g2
          · right; exact ⟨by rw [up_ni (by decide), up_na (by decide)]; exact g2.1, fun x y hx hy => by rw [up_na (by decide), up_na (by decide)]; exact g2.2 x y hx hy⟩
        · rw [up_eq, e, List.length_append, hn]; simp
        · rw [e]
          refine al_fr (M := up M2 70 (M1 41 36) p) ?_ (fun i => up_na (by decide))
          rw [hn]
          exact al_snoc (al_fr hL g5) p
      have hlen : M1 41 36 ≤ S 62 o := by rw [hn, List.length_take]; omega
      have hl0 : 0 ≤ M1 41 36 := by rw [hn]; omega
      have hpn : pprN S (lstF S o day) q p = (wantsS S o p && decide (S 44 (S 46 p) = day) && !(decide (S 63 o = 1) && dbdS S o p) && decide (S 43 (S 46 p) = q)) := rfl
      rw [hW p hpp]
      refine ⟨by omega, by omega, by omega, by omega, fun h1 => ⟨by omega, skip (Or.inl ?_) M1 hF hd1 hW rfl (fun _ => rfl)⟩, fun h1 => ⟨fun h2 => ⟨by omega, skip (Or.inl ?_) M1 hF hd1 hW rfl (fun _ => rfl)⟩, fun h2 => ⟨by omega, by omega, fun h3 => ⟨by omega, skip (Or.inr h3) M1 hF hd1 hW rfl (fun _ => rfl)⟩, fun h3 => ⟨fun h4 => ⟨by omega, skip (Or.inl ?_) M1 hF hd1 hW rfl (fun _ => rfl)⟩, fun h4 => ⟨fun h5 => ⟨by omega, by omega, by omega, by omega, add ?_ h3 M1 hF hd1 hW rfl (fun _ => rfl)⟩, fun h5 => ?_⟩⟩⟩⟩⟩
      · rw [hpn, decide_eq_false h1]; simp
      · rw [hpn, decide_eq_false h2]; simp
      · have h4' := bi_0.mp h4
        rw [← hwt] at h4'
        have e1 : decide (S 44 (S 46 p) = day) = true := decide_eq_true (Decidable.not_not.mp h1)
        simp only [e1, Bool.or_true, Bool.true_and] at h4'
        rw [hpn, h4']; rfl
      · have h4' : wt p = true := by cases e : wt p; rw [e] at h4; exact absurd rfl h4; rfl
        rw [← hwt] at h4'
        simp only [Bool.and_eq_true] at h4'
        rw [hpn, h4'.2, decide_eq_true (Decidable.not_not.mp h1), decide_eq_true (Decidable.not_not.mp h2), decide_eq_false (show ¬ S 63 o = 1 by omega)]; rfl
      · have h5' : S 63 o = 1 := by omega
        have hW2 : ∀ x, isPc S x → M1 71 x = bi (wantsS S o x) := fun x hx => by
          rw [hW x hx, ← hwt]
          simp [h5']
        refine ⟨_, cm_isDoubled hI hA1 hd1 hpp hW2, ?_⟩
        rintro z17 _ M17 ⟨e1, rfl, hd17, hF17⟩
        have h4' : wantsS S o p = true := by
          have h6 := hW2 p hpp
          rw [hW p hpp] at h6
          cases e : wantsS S o p
          · rw [e] at h6; exact absurd h6 h4
          · rfl
        have e36 : M17 41 36 = M1 41 36 := hF17 41 36 (by unfold FLD; omega)
        have e70 : ∀ i, M17 70 i = M1 70 i := fun i => hF17 70 i (by unfold FLD; omega)
        have e71 : ∀ x, isPc S x → M17 71 x = bi (wt x) := fun x hx => (hF17 71 x (by unfold FLD; omega)).trans (hW x hx)
        refine ⟨fun h6 => ⟨by omega, skip (Or.inl ?_) M17 (hF.tr (hF17.mono FLD_FL)) (Or.inr hd17) e71 e36 e70⟩, fun h6 => ?_⟩
        · have : dbdS S o p = true := by cases e : dbdS S o p; rw [e] at e1; exact absurd e1.symm h6; rfl
          rw [hpn, this, decide_eq_true h5']; simp
        · have h7 : dbdS S o p = false := bi_0.mp (e1.trans (Decidable.not_not.mp h6))
          rw [e36]
          refine ⟨by omega, by omega, by omega, by omega, add ?_ h3 M17 (hF.tr (hF17.mono FLD_FL)) (Or.inr hd17) e71 e36 e70⟩
          rw [hpn, h4', h7, decide_eq_true (Decidable.not_not.mp h1), decide_eq_true (Decidable.not_not.mp h2)]; simp)
  have K2 : ∀ q : Int, q ≤ 10 → ∀ M1, 0 ≤ q → Fo FFL M M1 → MD S M1 → (∀ p, isPc S p → M1 71 p = bi (wt p)) → M1 41 36 = ((catN S (lstF S o day) q.toNat).take (S 62 o).toNat).length → AL M1 70 ((catN S (lstF S o day) q.toNat).take (S 62 o).toNat) → A_X10_findList_67 G X (PFL S o day w M) o day q w M1 := up_ind _ (fun q hq ih M1 q0 hF hd1 hW hn hL => by
    refine B_X10_findList_67 C ?_
    refine ⟨fun h => ?_, fun h => ?_⟩
    · rw [show q.toNat = 10 by omega, cat_ord hI (fun k => lstF_day)] at hn hL
      exact ⟨rfl, hn, hL, hd1, hF⟩
    · have := Kin q.toNat (by omega) (fun M2 g1 g2 g3 g4 g5 => by
        have h6 := ih (q + 1) (by omega) (by omega) M2 (by omega) g1 g2 g3
        rw [show (q + 1).toNat = q.toNat + 1 by omega] at h6
        rw [show ((q.toNat : Nat) : Int) + 1 = q + 1 by omega]
        exact h6 g4 g5) 0 (by omega) M1 (by omega) hF hd1 hW (by simp [ftN]; simpa using hn) (by simp [ftN]; exact hL)
      rwa [show ((q.toNat : Nat) : Int) = q by omega] at this)
  have K1 : ∀ p : Int, p ≤ S 41 12 → ∀ M1, 0 ≤ p → Fo FFL M M1 → MD S M1 → M1 41 36 = 0 → (∀ x, 0 ≤ x → x < p → M1 71 x = bi (wt x)) → A_X10_findList_7 G X (PFL S o day w M) o day p w M1 := up_ind _ (fun p hp ih M1 p0 hF hd1 hn hW => by
    have hA1 := hF.ag FFL_wk hA
    obtain ⟨kf4, kf12, kf26, ke42, ke43, ke44, ke45, ke46, ke47, ke48, ke49, ke50, ke51, ke52, ke53, ke56, ke57, ke58, ke59, ke60, ke61, ke62, ke63, ke72, ke73, ke77, ke78, ke79, ke83⟩ := hA1.all
    refine B_X10_findList_7 C ?_
    simp only [kf4, kf12, kf26, ke42, ke43, ke44, ke45, ke46, ke47, ke48, ke49, ke50, ke51, ke52, ke53, ke56, ke57, ke58, ke59, ke60, ke61, ke62, ke63, ke72, ke73, ke77, ke78, ke79, ke83]
    refine ⟨fun h => K2 0 (by omega) M1 (by omega) hF hd1 (fun x hx => hW x hx.1 (by have := hx.2; omega)) (by rw [hn]; simp [catN]) (by simp [catN, AL]), fun h => ?_⟩
    have hpp : isPc S p := ⟨p0, by omega⟩
    have hg := hI.po p hpp
    unfold isPg at hg
    have nx : ∀ M2, Fo FFL M M2 → MD S M2 → M2 41 36 = 0 → (∀ x, 0 ≤ x → x < p → M2 71 x = bi (wt x)) → ∀ v, v = bi (wt p) → A_X10_findList_7 G X (PFL S o day w M) o day (p + 1) w (up M2 71 p v) := fun M2 g1 g2 g3 g4 v hv => by
      refine ih (p + 1) (by omega) (by omega) _ (by omega) (fo_up g1 _ (by unfold FFL; omega)) ?_ (by rw [up_na (by decide)]; exact g3) (fun x x0 x1 => ?_)
      · rcases g2 with g2 | g2
        · left; rw [up_na (by decide)]; exact g2
        · right; exact ⟨by rw [up_na (by decide)]; exact g2.1, fun x y hx hy => by rw [up_na (by decide)]; exact g2.2 x y hx hy⟩
      · by_cases e : x = p
        · rw [e, up_eq]; exact hv
        · rw [up_ni e]; exact g4 x x0 (by omega)
    have fir : ∀ M4, Fo FIR M1 M4 → Fo FFL M M4 ∧ MD S M4 ∧ M4 41 36 = 0 ∧ (∀ x, 0 ≤ x → x < p → M4 71 x = bi (wt x)) := fun M4 h4 => ⟨hF.tr (h4.mono FIR_FL), md_dk hA1 (h4.ag FIR_wk hA1) hd1 (h4.dk FIR_dk), by rw [h4 41 36 (by unfold FIR; omega)]; exact hn, fun x x0 x1 => by rw [h4 71 x (by unfold FIR; omega)]; exact hW x x0 x1⟩
    refine ⟨by omega, by omega, fun h1 => ⟨_, cm_doesWant hI hV hA1 ho hpp, ?_⟩, fun h1 => ⟨by omega, by omega, by omega, by omega, fun h2 => ⟨by omega, nx M1 hF hd1 hn hW _ ?_⟩, fun h2 => ⟨_, cm_doesWant hI hV hA1 ho hpp, ?_⟩⟩⟩
    · rintro z4 _ M4 ⟨e1, rfl, hF4⟩
      obtain ⟨q1, q2, q3, q4⟩ := fir M4 hF4
      have hw1 : wt p = wantsS S o p := by rw [← hwt]; simp; omega
      refine ⟨fun h3 => ⟨by omega, by omega, by omega, nx M4 q1 q2 q3 q4 _ ?_⟩, fun h3 => ⟨by omega, by omega, by omega, nx M4 q1 q2 q3 q4 _ ?_⟩⟩
      · rw [hw1, e1, h3]
      · rw [hw1]; rcases bi_01 (wantsS S o p) with q | q <;> omega
    · rw [← hwt]
      simp only [decide_eq_false h2, decide_eq_false (show ¬ S 63 o = 1 by omega)]; rfl
    · rintro z4 _ M4 ⟨e1, rfl, hF4⟩
      obtain ⟨q1, q2, q3, q4⟩ := fir M4 hF4
      have hw1 : wt p = wantsS S o p := by rw [← hwt]; simp; omega
      refine ⟨fun h3 => ⟨by omega, nx M4 q1 q2 q3 q4 _ ?_⟩, fun h3 => ⟨by omega, nx M4 q1 q2 q3 q4 _ ?_⟩⟩
      · rw [hw1, e1, h3]
      · rw [hw1]; rcases bi_01 (wantsS S o p) with q | q <;> omega)
  refine B_X10_findList_0 C ?_
  refine K1 0 (by omega) _ (by omega) (fo_up (Fo.rfl' _ _) _ (by unfold FFL; omega)) ?_ up_eq (fun x x0 x1 => by omega)
  rcases hD with g2 | g2
  · left; rw [up_ni (by decide)]; exact g2
  · right; exact ⟨by rw [up_ni (by decide)]; exact g2.1, fun x y hx hy => by rw [up_na (by decide)]; exact g2.2 x y hx hy⟩
noncomputable def op_list (S : MM) (o day i : Int) : Int × MM :=
  (if isOr S o then if 0 ≤ day ∧ day ≤ 99 then (if i = -1 then ((listS S o day).length : Int) else if 0 ≤ i ∧ i < (listS S o day).length then (listS S o day).getD i.toNat 0 else -6) else -2 else -1, S)
theorem cm_list {G : GP} {l : Launch} {w : NS} {S M : MM} {a b c : Int} (hI : SInv S) (hV : RInv S) (hA : Ag S M) (hD : MD S M) : CT_X10_list G l [(2, 41), (0, a), (0, b), (0, c)] w M (PMD w M (op_list S a b c)) := by
  refine E_X10_list (fun _ _ _ X hX C => ?_)
  refine B_X10_list_0 C ?_
  have hoc := hI.oc
  rw [hA.2 26 rfl]
  refine ⟨by omega, fun h1 => ⟨fun h2 => ⟨_, cm_findList hI hV hA hD h1, ?_⟩, fun h2 => pd_s hA hD ?_⟩, fun h1 => pd_s hA hD ?_⟩
  · rintro z5 _ M5 ⟨rfl, k1, k2, k3, k4⟩
    have hl := listS_len (o := a) (day := b) hI
    rw [k1]
    have op : ∀ z, (if c = -1 then ((listS S a b).length : Int) else if 0 ≤ c ∧ c < (listS S a b).length then (listS S a b).getD c.toNat 0 else -6) = z → PMD w M (op_list S a b c) z w M5 := fun z hz => pd_u (S1 := S) (by unfold op_list; rw [if_pos h1, if_pos h2, hz]) (k4.ag FFL_wk hA) (k4.frm FFL_in) k3
    refine ⟨fun h3 => ⟨by omega, fun h4 => op _ ?_, fun h4 => ⟨by omega, by omega, op _ ?_⟩⟩, fun h3 => op _ ?_⟩
    · rw [if_neg h3, if_neg (by omega)]
    · rw [if_neg h3, if_pos (by omega), al_at k2 h4.1 (by omega)]
    · rw [if_pos (Decidable.not_not.mp h3)]
  · unfold op_list; rw [if_pos h1, if_neg h2]
  · unfold op_list; rw [if_neg h1]
noncomputable def op_send (S : MM) (p o : Int) : Int × MM :=
  if isPc S p ∧ isOr S o then (if p ∈ listS S o (S 44 (S 46 p)) then (if tb (S 52 p) o = true then (-5, S) else (1, up S 52 p (zor (S 52 p) (zshl 1 o)))) else (-3, S)) else (-1, S)
theorem cm_isListed {G : GP} {l : Launch} {w : NS} {S M : MM} {o p : Int} (hI : SInv S) (hV : RInv S) (hA : Ag S M) (hD : MD S M) (ho : isOr S o) (hp : isPc S p) : CT_X10_isListed G l [(2, 41), (0, o), (0, p)] w M (fun z w' M' => bi (decide (p ∈ listS S o (S 44 (S 46 p)))) = z ∧ w = w' ∧ MD S M' ∧ Fo FFL M M') := by
  refine E_X10_isListed (fun _ _ X hX C => ?_)
  have hpc := hI.pc
  have hpg := hI.pg
  have hg := hI.po p hp
  have hpp := hp
  unfold isPc at hpp
  unfold isPg at hg
  refine B_X10_isListed_0 C ?_
  rw [hA.1 46 p rfl, hA.1 44 _ rfl]
  refine ⟨by omega, by omega, by omega, by omega, _, cm_findList hI hV hA hD ho, ?_⟩
  rintro z6 _ M6 ⟨rfl, k1, k2, k3, k4⟩
  have hl := listS_len (o := o) (day := S 44 (S 46 p)) hI
  generalize listS S o (S 44 (S 46 p)) = W at *
  have L : ∀ i : Int, i ≤ W.length → ∀ z, 0 ≤ i → z = bi (decide (p ∈ W.take i.toNat)) → A_X10_isListed_21 G X (fun z w' M' => bi (decide (p ∈ W)) = z ∧ w = w' ∧ MD S M' ∧ Fo FFL M M') p z i w M6 := up_ind _ (fun i hi ih z i0 hz => by
    refine B_X10_isListed_21 C ?_
    rw [k1]
    refine ⟨fun h => ⟨by rw [hz]; exact bi_01 _, ?_, rfl, k3, k4⟩, fun h => ?_⟩
    · rw [hz, List.take_of_length_le (by omega)]
    · have hit : i.toNat < W.length := by omega
      have ih2 := fun z hz => ih (i + 1) (by omega) (by omega) z (by omega) hz
      rw [show (i + 1).toNat = i.toNat + 1 by omega, List.take_succ_eq_append_getElem hit] at ih2
      have e70 : M6 70 i = W[i.toNat]'hit := by rw [al_at k2 i0 (by omega), List.getD_eq_getElem?_getD, List.getElem?_eq_getElem hit]; rfl
      have h01 := bi_01 (decide (p ∈ W.take i.toNat))
      rw [e70]
      refine ⟨fun q => ⟨by omega, ih2 1 ?_⟩, fun q => ⟨by omega, by omega, fun q2 => ⟨by omega, ih2 0 ?_⟩, fun q2 => ⟨by omega, ih2 1 ?_⟩⟩⟩
      · have : p ∈ W.take i.toNat := by have := bi_1.mp (show bi (decide (p ∈ W.take i.toNat)) = 1 by omega); simpa using this
        rw [decide_eq_true (List.mem_append_left _ this)]; rfl
      · have : p ∉ W.take i.toNat := by have := bi_0.mp (show bi (decide (p ∈ W.take i.toNat)) = 0 by omega); simpa using this
        rw [decide_eq_false (fun r => (mem_snoc.mp r).elim this (fun e => q2 e.symm))]; rfl
      · rw [decide_eq_true (mem_snoc.mpr (Or.inr (Decidable.not_not.mp q2).symm))]; rfl)
  exact L 0 (by omega) 0 (by omega) (by simp [bi])
theorem cm_send {G : GP} {l : Launch} {w : NS} {S M : MM} {a b : Int} (hI : SInv S) (hV : RInv S) (hA : Ag S M) (hD : MD S M) : CT_X10_send G l [(2, 41), (0, a), (0, b)] w M (PMD w M (op_send S a b)) := by
  refine E_X10_send (fun _ _ X hX C => ?_)
  refine B_X10_send_0 C ?_
  have hoc := hI.oc
  have hpc := hI.pc
  rw [hA.2 26 rfl, hA.2 12 rfl]
  refine ⟨by omega, fun h1 => pd_s hA hD ?_, fun h1 => ⟨by omega, fun h2 => ⟨_, cm_isListed hI hV hA hD h2 h1, ?_⟩, fun h2 => pd_s hA hD ?_⟩⟩
  · unfold op_send; rw [if_neg (fun q => h1 q.1)]
  · rintro z6 _ M6 ⟨e1, rfl, hd, hF⟩
    have hA6 := hF.ag FFL_wk hA
    have hs := sent_b hI a
    have hb := z_hb (x := S 52 a) (i := b) hs.1 (by omega) h2.1 (by omega)
    rw [hA6.1 52 a rfl]
    simp only [ne_eq, hb]
    refine ⟨fun h3 => ⟨by omega, by omega, fun h4 => ?_, fun h4 => pd_u (S1 := S) ?_ hA6 (hF.frm FFL_in) hd⟩, fun h3 => pd_u (S1 := S) ?_ hA6 (hF.frm FFL_in) hd⟩
    · have hin : a ∈ listS S b (S 44 (S 46 a)) := by
        have : decide (a ∈ listS S b (S 44 (S 46 a))) = true := by
          cases e : decide (a ∈ listS S b (S 44 (S 46 a)))
          · rw [e] at e1; exact absurd e1.symm h3
          · rfl
        simpa using this
      refine pd_u (S1 := up S 52 a (zor (S 52 a) (zshl 1 b))) ?_ (ag_up hA6 _ _ _) (frm_up (hF.frm FFL_in) _ (by omega)) ?_
      · unfold op_send; rw [if_pos ⟨h1, h2⟩, if_pos hin, if_neg h4]
      · exact md_dk hA6 (ag_up hA6 _ _ _) hd (dk_up (DK.rfl' _) (by unfold DC; omega))
    · have hin : a ∈ listS S b (S 44 (S 46 a)) := by
        have : decide (a ∈ listS S b (S 44 (S 46 a))) = true := by
          cases e : decide (a ∈ listS S b (S 44 (S 46 a)))
          · rw [e] at e1; exact absurd e1.symm h3
          · rfl
        simpa using this
      unfold op_send; rw [if_pos ⟨h1, h2⟩, if_pos hin, if_pos (Decidable.not_not.mp h4)]
    · have hin : a ∉ listS S b (S 44 (S 46 a)) := by
        have := bi_0.mp (e1.trans (Decidable.not_not.mp h3))
        simpa using this
      unfold op_send; rw [if_pos ⟨h1, h2⟩, if_neg hin]
  · unfold op_send; rw [if_neg (fun q => h2 q.2)]
