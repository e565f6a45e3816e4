/-! both sides together -/
theorem CInv.frm {S M M' : MM} {w : NS} (h : CInv S w M) (hF : FrM M M') : CInv S w M' := by
  have e : ∀ a : Int, (a < 41 ∨ 83 < a) → M' a = M a := fun a ha => funext (fun i => hF a i ha)
  have cr : ∀ r o, CRule S w M r o → CRule S w M' r o := fun r o q => by
    unfold CRule at q ⊢
    rw [e r (by have := q.1; omega), e (r + 1) (by have := q.1; omega)]
    exact q
  obtain ⟨h1, h2, h3, h4, h5, h6, h7, h8, h9, h10⟩ := h
  refine ⟨?_, ?_, fun p hp => ?_, fun k hk => ?_, fun o ho => ?_, ?_, fun n n0 n1 => ?_, fun r r0 r1 => ?_, ?_, ?_⟩
  · unfold CTop at h1 ⊢; rw [e 1 (by decide)]; exact h1
  · unfold CNums at h2 ⊢; rw [e 2 (by decide), e 24 (by decide)]; exact h2
  · have q := h3 p hp
    unfold CPage at q ⊢
    rw [e 3 (by decide), e (M 3 p) (Or.inr q.1), e (M 3 p + 1) (Or.inr (by have := q.1; omega))]; exact q
  · have q := h4 k hk
    unfold CPiece AL at q ⊢
    rw [e 3 (by decide), e 4 (by decide), e (M 4 k) (Or.inr q.1), e (M 4 k + 1) (Or.inr (by have := q.1; omega))]; exact q
  · have q := h5 o ho
    unfold COrder at q ⊢
    rw [e 6 (by decide), e 1 (by decide), e (M 6 o) (Or.inr q.1)]
    exact ⟨q.1, q.2.1, q.2.2.1, cr _ _ q.2.2.2.1, q.2.2.2.2⟩
  · rw [e 1 (by decide)]; exact cr _ _ h6
  · rw [e (25 + 2 * n) (by omega), e (25 + 2 * n + 1) (by omega)]; exact h7 n n0 n1
  · rw [e (33 + 2 * r) (by omega), e (33 + 2 * r + 1) (by omega)]; exact h8 r r0 r1
  · unfold CLine at h9 ⊢; rw [e 5 (by decide), e 4 (by decide)]; exact h9
  · unfold CFam at h10 ⊢
    rw [e 9 (by decide), e 4 (by decide)]
    rcases h10 with q | ⟨q1, q2⟩
    · exact Or.inl q
    · refine Or.inr ⟨q1, fun k hk => ?_⟩
      rw [e (M 4 k) (Or.inr (h4 k hk).1)]; exact q2 k hk
theorem MD.frc {S M M' : MM} (h : MD S M) (hF : FrC M M') : MD S M' := by
  unfold MD at h ⊢
  rw [hF 41 34 (by decide)]
  rcases h with q | ⟨q1, q2⟩
  · exact Or.inl q
  · exact Or.inr ⟨q1, fun p q hp hq => by rw [hF 69 _ (by decide)]; exact q2 p q hp hq⟩
/-- what holds at the law's loop, n calls done -/
def LI (n : Int) (S : MM) (w : NS) (M : MM) : Prop := JJ n S ∧ CInv S w M ∧ Ag S M ∧ MD S M
theorem li_0 : LI 0 M02 (wN 84) M02 := ⟨s0_jj, s0_ci, s0_ag, s0_md⟩
theorem li_1 {n z : Int} {S M M1 : MM} {w w1 : NS} {r : Int × MM} (h : LI n S w M) (q : PC M r z w1 M1) : Ag S M1 ∧ MD S M1 := ⟨q.2.2.ag h.2.2.1, h.2.2.2.frc q.2.2⟩
theorem li_2 {n z z2 : Int} {S M M1 M2 : MM} {w w1 w2 : NS} {r : Int × MM} (h : LI n S w M) (q : PC M r z w1 M1) (p : PMD w1 M1 r z2 w2 M2) (j : JJ (n + 1) r.2) : z = z2 ∧ w1 = w2 ∧ LI (n + 1) r.2 w2 M2 := by
  obtain ⟨p1, p2, p3, p4, p5⟩ := p
  refine ⟨by rw [← q.1, p1], p3.symm, j, ?_, p2, p5⟩
  rw [p3]; exact q.2.1.frm p4
