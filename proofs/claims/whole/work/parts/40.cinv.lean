/-! THE CLASS: what its cells hold of the abstract state -/
def CPage (S : MM) (w : NS) (M : MM) (p : Int) : Prop :=
  83 < M 3 p ∧ w.2 (M 3 p) = (5, 5) ∧ w.2 (M 3 p + 1) = (12, 60) ∧ M (M 3 p) 0 = p ∧ M (M 3 p) 1 = S 43 p ∧ M (M 3 p) 2 = S 44 p ∧ (M (M 3 p) 4 = if S 45 p < 0 then 0 else M 3 (S 45 p)) ∧ ∀ i, 0 ≤ i → i < 60 → M (M 3 p + 1) i = S 42 (60 * p + i)
def CPiece (S : MM) (w : NS) (M : MM) (k : Int) : Prop :=
  83 < M 4 k ∧ w.2 (M 4 k) = (7, 12) ∧ w.2 (M 4 k + 1) = (12, 60) ∧ M (M 4 k) 0 = k ∧ M (M 4 k) 1 = M 3 (S 46 k) ∧ (M (M 4 k) 2 = S 47 k ∧ M (M 4 k) 3 = S 48 k ∧ M (M 4 k) 4 = S 49 k ∧ M (M 4 k) 5 = S 50 k) ∧ (M (M 4 k) 10 = S 51 k ∧ M (M 4 k) 11 = S 52 k) ∧ M (M 4 k) 7 = (wl S k).length ∧ AL M (M 4 k + 1) (wl S k)
def CRule (S : MM) (w : NS) (M : MM) (r o : Int) : Prop :=
  (r = 7 ∨ 83 < r) ∧ w.2 r = (9, 2) ∧ w.2 (r + 1) = (12, 40) ∧ M r 1 = S 57 o ∧ ∀ i, 0 ≤ i → i < S 57 o → M (r + 1) i = S 56 (40 * o + i)
def COrder (S : MM) (w : NS) (M : MM) (o : Int) : Prop :=
  83 < M 6 o ∧ w.2 (M 6 o) = (4, 7) ∧ (M (M 6 o) 0 = S 58 o ∧ M (M 6 o) 2 = S 59 o ∧ M (M 6 o) 3 = S 60 o ∧ M (M 6 o) 4 = S 61 o ∧ M (M 6 o) 5 = S 62 o ∧ M (M 6 o) 6 = S 63 o) ∧ CRule S w M (M (M 6 o) 1) o ∧ M (M 6 o) 1 ≠ M 1 8
def CTop (S M : MM) : Prop := M 1 2 = S 41 4 ∧ M 1 4 = S 41 12 ∧ M 1 7 = S 41 26
def CNums (S M : MM) : Prop := (∀ k, 0 ≤ k → k ≤ 8 → M 2 k = S 53 k) ∧ ∀ c, 0 ≤ c → c ≤ 5 → M 24 c = S 83 c
def CName (S M : MM) : Prop := ∀ n, 0 ≤ n → n ≤ 3 → M (25 + 2 * n) 0 = S 72 n ∧ ∀ x, 0 ≤ x → x ≤ 99 → M (25 + 2 * n + 1) x = S 73 (100 * n + x)
def CRead (S M : MM) : Prop := ∀ r, 0 ≤ r → r ≤ 3 → M (33 + 2 * r) 0 = S 78 (2 * r) ∧ M (33 + 2 * r) 1 = S 78 (2 * r + 1) ∧ M (33 + 2 * r) 3 = S 77 r ∧ ∀ p, 0 ≤ p → p ≤ 9 → M (33 + 2 * r + 1) p = S 79 (10 * r + p)
def CLine (S M : MM) : Prop := ∀ j : Nat, j < (ordL S).length → M 5 j = M 4 ((ordL S).getD j 0)
def CFam (S M : MM) : Prop := M 9 0 = 0 ∨ (M 9 0 = 1 ∧ ∀ k, isPc S k → M (M 4 k) 8 = firstS S k ∧ M (M 4 k) 9 = famC S k)
def CInv (S : MM) (w : NS) (M : MM) : Prop :=
  CTop S M ∧ CNums S M ∧ (∀ p, isPg S p → CPage S w M p) ∧ (∀ k, isPc S k → CPiece S w M k) ∧ (∀ o, isOr S o → COrder S w M o) ∧ CRule S w M (M 1 8) 10 ∧ CName S M ∧ CRead S M ∧ CLine S M ∧ CFam S M
def CInv.top {S : MM} {w : NS} {M : MM} (h : CInv S w M) := h.1
def CInv.num {S : MM} {w : NS} {M : MM} (h : CInv S w M) := h.2.1
def CInv.pg {S : MM} {w : NS} {M : MM} (h : CInv S w M) := h.2.2.1
def CInv.pc {S : MM} {w : NS} {M : MM} (h : CInv S w M) := h.2.2.2.1
def CInv.od {S : MM} {w : NS} {M : MM} (h : CInv S w M) := h.2.2.2.2.1
def CInv.sp {S : MM} {w : NS} {M : MM} (h : CInv S w M) := h.2.2.2.2.2.1
def CInv.nm {S : MM} {w : NS} {M : MM} (h : CInv S w M) := h.2.2.2.2.2.2.1
def CInv.rd {S : MM} {w : NS} {M : MM} (h : CInv S w M) := h.2.2.2.2.2.2.2.1
def CInv.ln {S : MM} {w : NS} {M : MM} (h : CInv S w M) := h.2.2.2.2.2.2.2.2.1
def CInv.fm {S : MM} {w : NS} {M : MM} (h : CInv S w M) := h.2.2.2.2.2.2.2.2.2
theorem pgO_in {S : MM} {w : NS} {M : MM} (h : CInv S w M) {p : Int} (hp : isPg S p) : pgO M p = M 3 p := by
  unfold pgO; rw [h.top.1, if_pos hp]
theorem pgO_out {S : MM} {w : NS} {M : MM} (h : CInv S w M) {p : Int} (hp : ¬ isPg S p) : pgO M p = 0 := by
  unfold pgO; rw [h.top.1, if_neg hp]
theorem pgO_ne {S : MM} {w : NS} {M : MM} (h : CInv S w M) {p : Int} : pgO M p = 0 ↔ ¬ isPg S p := by
  by_cases hp : isPg S p
  · rw [pgO_in h hp]; have := (h.pg p hp).1; exact ⟨fun q => by omega, fun q => absurd hp q⟩
  · rw [pgO_out h hp]; exact ⟨fun _ => hp, fun _ => rfl⟩
theorem pcO_in {S : MM} {w : NS} {M : MM} (h : CInv S w M) {p : Int} (hp : isPc S p) : pcO M p = M 4 p := by
  unfold pcO; rw [h.top.2.1, if_pos hp]
theorem pcO_out {S : MM} {w : NS} {M : MM} (h : CInv S w M) {p : Int} (hp : ¬ isPc S p) : pcO M p = 0 := by
  unfold pcO; rw [h.top.2.1, if_neg hp]
theorem pcO_ne {S : MM} {w : NS} {M : MM} (h : CInv S w M) {p : Int} : pcO M p = 0 ↔ ¬ isPc S p := by
  by_cases hp : isPc S p
  · rw [pcO_in h hp]; have := (h.pc p hp).1; exact ⟨fun q => by omega, fun q => absurd hp q⟩
  · rw [pcO_out h hp]; exact ⟨fun _ => hp, fun _ => rfl⟩
theorem orO_in {S : MM} {w : NS} {M : MM} (h : CInv S w M) {p : Int} (hp : isOr S p) : orO M p = M 6 p := by
  unfold orO; rw [h.top.2.2, if_pos hp]
theorem orO_out {S : MM} {w : NS} {M : MM} (h : CInv S w M) {p : Int} (hp : ¬ isOr S p) : orO M p = 0 := by
  unfold orO; rw [h.top.2.2, if_neg hp]
theorem orO_ne {S : MM} {w : NS} {M : MM} (h : CInv S w M) {p : Int} : orO M p = 0 ↔ ¬ isOr S p := by
  by_cases hp : isOr S p
  · rw [orO_in h hp]; have := (h.od p hp).1; exact ⟨fun q => by omega, fun q => absurd hp q⟩
  · rw [orO_out h hp]; exact ⟨fun _ => hp, fun _ => rfl⟩
/-- one page, one cell -/
theorem pg_inj {S : MM} {w : NS} {M : MM} (h : CInv S w M) {p q : Int} (hp : isPg S p) (hq : isPg S q) : M 3 p = M 3 q ↔ p = q := by
  constructor
  · intro e
    have h1 := (h.pg p hp).2.2.2.1
    have h2 := (h.pg q hq).2.2.2.1
    rw [e] at h1; omega
  · intro e; rw [e]
theorem pc_inj {S : MM} {w : NS} {M : MM} (h : CInv S w M) {p q : Int} (hp : isPc S p) (hq : isPc S q) : M 4 p = M 4 q ↔ p = q := by
  constructor
  · intro e
    have h1 := (h.pc p hp).2.2.2.1
    have h2 := (h.pc q hq).2.2.2.1
    rw [e] at h1; omega
  · intro e; rw [e]
/-- behind a call of the class -/
def PC (M : MM) (r : Int × MM) : Int → NS → MM → Prop := fun z w' M' => r.1 = z ∧ CInv r.2 w' M' ∧ FrC M M'
theorem pc_s {S M : MM} {w : NS} {r : Int × MM} {z : Int} (hC : CInv S w M) (e : r = (z, S)) : PC M r z w M := by
  rw [e]; exact ⟨rfl, hC, FrC.rfl' M⟩
/-! moving a part of the invariant to another memory and another abstract state -/
theorem CPage.mv {S S' : MM} {w w' : NS} {M M' : MM} {p : Int} (h : CPage S w M p) (e3 : M' 3 = M 3) (ea : M' (M 3 p) = M (M 3 p)) (eb : M' (M 3 p + 1) = M (M 3 p + 1)) (s43 : S' 43 p = S 43 p) (s44 : S' 44 p = S 44 p) (s45 : S' 45 p = S 45 p) (s42 : ∀ i, 0 ≤ i → i < 60 → S' 42 (60 * p + i) = S 42 (60 * p + i)) (hw : w'.2 (M 3 p) = w.2 (M 3 p)) (hw1 : w'.2 (M 3 p + 1) = w.2 (M 3 p + 1)) : CPage S' w' M' p := by
  obtain ⟨h1, h2, h3, h4, h5, h6, h7, h8⟩ := h
  unfold CPage
  rw [e3, ea, eb, s43, s44, s45, hw, hw1]
  exact ⟨h1, h2, h3, h4, h5, h6, h7, fun i a b => by rw [s42 i a b]; exact h8 i a b⟩
theorem CPiece.mv {S S' : MM} {w w' : NS} {M M' : MM} {k : Int} (h : CPiece S w M k) (e4 : M' 4 k = M 4 k) (e3 : M' 3 (S 46 k) = M 3 (S 46 k)) (ea : ∀ i, i ≠ 8 → i ≠ 9 → M' (M 4 k) i = M (M 4 k) i) (eb : M' (M 4 k + 1) = M (M 4 k + 1)) (s46 : S' 46 k = S 46 k) (s47 : S' 47 k = S 47 k) (s48 : S' 48 k = S 48 k) (s49 : S' 49 k = S 49 k) (s50 : S' 50 k = S 50 k) (s51 : S' 51 k = S 51 k) (s52 : S' 52 k = S 52 k) (sw : wl S' k = wl S k) (hw : w'.2 (M 4 k) = w.2 (M 4 k)) (hw1 : w'.2 (M 4 k + 1) = w.2 (M 4 k + 1)) : CPiece S' w' M' k := by
  obtain ⟨h1, h2, h3, h4, h5, ⟨h6, h7, h8, h9⟩, ⟨h10, h11⟩, h12, h13⟩ := h
  unfold CPiece AL
  rw [e4, s46, s47, s48, s49, s50, s51, s52, sw, e3, eb, hw, hw1, ea 0 (by decide) (by decide), ea 1 (by decide) (by decide), ea 2 (by decide) (by decide), ea 3 (by decide) (by decide), ea 4 (by decide) (by decide), ea 5 (by decide) (by decide), ea 7 (by decide) (by decide), ea 10 (by decide) (by decide), ea 11 (by decide) (by decide)]
  exact ⟨h1, h2, h3, h4, h5, ⟨h6, h7, h8, h9⟩, ⟨h10, h11⟩, h12, h13⟩
theorem CRule.mv {S S' : MM} {w w' : NS} {M M' : MM} {r o : Int} (h : CRule S w M r o) (ea : M' r = M r) (eb : M' (r + 1) = M (r + 1)) (s57 : S' 57 o = S 57 o) (s56 : ∀ i, 0 ≤ i → i < 40 → S' 56 (40 * o + i) = S 56 (40 * o + i)) (hm : S 57 o ≤ 40) (hw : w'.2 r = w.2 r) (hw1 : w'.2 (r + 1) = w.2 (r + 1)) : CRule S' w' M' r o := by
  obtain ⟨h1, h2, h3, h4, h5⟩ := h
  unfold CRule
  rw [ea, eb, s57, hw, hw1]
  exact ⟨h1, h2, h3, h4, fun i a b => by rw [s56 i a (by omega)]; exact h5 i a b⟩
theorem COrder.mv {S S' : MM} {w w' : NS} {M M' : MM} {o : Int} (h : COrder S w M o) (e6 : M' 6 o = M 6 o) (ea : M' (M 6 o) = M (M 6 o)) (er : M' (M (M 6 o) 1) = M (M (M 6 o) 1)) (er1 : M' (M (M 6 o) 1 + 1) = M (M (M 6 o) 1 + 1)) (e18 : M' 1 8 = M 1 8 ∨ M (M 6 o) 1 ≠ M' 1 8) (s : ∀ a, 57 ≤ a → a ≤ 63 → S' a o = S a o) (s56 : ∀ i, 0 ≤ i → i < 40 → S' 56 (40 * o + i) = S 56 (40 * o + i)) (hm : S 57 o ≤ 40) (hw : w'.2 (M 6 o) = w.2 (M 6 o)) (hwr : w'.2 (M (M 6 o) 1) = w.2 (M (M 6 o) 1)) (hwr1 : w'.2 (M (M 6 o) 1 + 1) = w.2 (M (M 6 o) 1 + 1)) : COrder S' w' M' o := by
  obtain ⟨h1, h2, ⟨h3, h4, h5, h6, h7, h8⟩, h9, h10⟩ := h
  unfold COrder
  rw [e6, ea, hw, s 58 (by decide) (by decide), s 59 (by decide) (by decide), s 60 (by decide) (by decide), s 61 (by decide) (by decide), s 62 (by decide) (by decide), s 63 (by decide) (by decide)]
  refine ⟨h1, h2, ⟨h3, h4, h5, h6, h7, h8⟩, h9.mv er er1 (s 57 (by decide) (by decide)) s56 hm hwr hwr1, ?_⟩
  rcases e18 with e | e
  · rw [e]; exact h10
  · exact e
theorem wl_c {S S' : MM} {k : Int} (h42 : S' 42 = S 42) (h46 : S' 46 k = S 46 k) (h47 : S' 47 k = S 47 k) (h48 : S' 48 k = S 48 k) (h49 : S' 49 k = S 49 k) (h50 : S' 50 k = S 50 k) : wl S' k = wl S k := by
  unfold wl linesW lineW; rw [h42, h46, h47, h48, h49, h50]
/-- the abstract states agree on what pages, pieces, orders and signs are -/
def SKp (S S' : MM) : Prop := (∀ i, PF i = true → S' 41 i = S 41 i) ∧ True ∧ ∀ a, (42 ≤ a ∧ a ≤ 52) ∨ (56 ≤ a ∧ a ≤ 63) → S' a = S a
theorem SKp.wl {S S' : MM} (h : SKp S S') (k : Int) : wl S' k = wl S k := by
  refine wl_c (h.2.2 42 (by decide)) ?_ ?_ ?_ ?_ ?_
  all_goals (first | rw [h.2.2 46 (by decide)] | rw [h.2.2 47 (by decide)] | rw [h.2.2 48 (by decide)] | rw [h.2.2 49 (by decide)] | rw [h.2.2 50 (by decide)])
theorem SKp.sv {S S' : MM} (h : SKp S S') : SV S S' := by
  refine ⟨h.1 12 rfl, trivial, fun k _ => ⟨trivial, ?_, ?_, ?_⟩⟩
  all_goals (first | rw [h.2.2 46 (by decide)] | rw [h.2.2 43 (by decide)] | rw [h.2.2 44 (by decide)])
def MKp (M M' : MM) : Prop := ∀ a, ¬ (a = 2 ∨ a = 9 ∨ 24 ≤ a ∧ a ≤ 40) → M' a = M a
def CCore (S : MM) (w : NS) (M : MM) : Prop := CTop S M ∧ (∀ p, isPg S p → CPage S w M p) ∧ (∀ k, isPc S k → CPiece S w M k) ∧ (∀ o, isOr S o → COrder S w M o) ∧ CRule S w M (M 1 8) 10 ∧ CLine S M ∧ CFam S M
theorem CInv.core {S : MM} {w : NS} {M : MM} (h : CInv S w M) : CCore S w M := ⟨h.top, h.pg, h.pc, h.od, h.sp, h.ln, h.fm⟩
theorem CInv.of {S : MM} {w : NS} {M : MM} (h : CCore S w M) (h1 : CNums S M) (h2 : CName S M) (h3 : CRead S M) : CInv S w M := ⟨h.1, h1, h.2.1, h.2.2.1, h.2.2.2.1, h.2.2.2.2.1, h2, h3, h.2.2.2.2.2.1, h.2.2.2.2.2.2⟩
theorem CInv.keep {S S' : MM} {w : NS} {M M' : MM} (h : CInv S w M) (hI : SInv S) (hS : SKp S S') (hM : MKp M M') (hf : (S' 53 0 = S 53 0 ∧ M' 9 0 = M 9 0) ∨ M' 9 0 = 0) : CCore S' w M' := by
  have e1 := hM 1 (by omega)
  have e3 := hM 3 (by omega)
  have e4 := hM 4 (by omega)
  have e6 := hM 6 (by omega)
  have hd : ∀ a, 83 < a → M' a = M a := fun a ha => hM a (by omega)
  have sa := hS.2.2
  have hpg : S' 41 4 = S 41 4 := hS.1 4 rfl
  have hpc : S' 41 12 = S 41 12 := hS.1 12 rfl
  have hor : S' 41 26 = S 41 26 := hS.1 26 rfl
  have hru : ∀ r o, CRule S w M r o → S 57 o ≤ 40 → CRule S' w M' r o := fun r o hr hm => hr.mv (by rcases hr.1 with e | e; rw [e]; exact hM 7 (by omega); exact hd _ e) (by rcases hr.1 with e | e; rw [e]; exact hM _ (by omega); exact hd _ (by omega)) (by rw [sa 57 (by omega)]) (fun i _ _ => by rw [sa 56 (by omega)]) hm rfl rfl
  refine ⟨⟨by rw [e1, hpg]; exact h.top.1, by rw [e1, hpc]; exact h.top.2.1, by rw [e1, hor]; exact h.top.2.2⟩, fun p hp => ?_, fun k hk => ?_, fun o ho => ?_, ?_, ?_, ?_⟩
  · have hp' : isPg S p := by unfold isPg at hp ⊢; rw [hpg] at hp; exact hp
    have hc := h.pg p hp'
    exact hc.mv e3 (hd _ hc.1) (hd _ (by have := hc.1; omega)) (by rw [sa 43 (by omega)]) (by rw [sa 44 (by omega)]) (by rw [sa 45 (by omega)]) (fun i _ _ => by rw [sa 42 (by omega)]) rfl rfl
  · have hk' : isPc S k := hS.sv.pc.mp hk
    have hc := h.pc k hk'
    exact hc.mv (by rw [e4]) (by rw [e3]) (fun i _ _ => by rw [hd _ hc.1]) (hd _ (by have := hc.1; omega)) (by rw [sa 46 (by omega)]) (by rw [sa 47 (by omega)]) (by rw [sa 48 (by omega)]) (by rw [sa 49 (by omega)]) (by rw [sa 50 (by omega)]) (by rw [sa 51 (by omega)]) (by rw [sa 52 (by omega)]) (hS.wl k) rfl rfl
  · have ho' : isOr S o := by unfold isOr at ho ⊢; rw [hor] at ho; exact ho
    have hc := h.od o ho'
    have hr := hc.2.2.2.1
    exact hc.mv (by rw [e6]) (hd _ hc.1) (by rcases hr.1 with e | e; rw [e]; exact hM 7 (by omega); exact hd _ e) (by rcases hr.1 with e | e; rw [e]; exact hM _ (by omega); exact hd _ (by omega)) (Or.inl (by rw [e1])) (fun a h1 h2 => by rw [sa a (by omega)]) (fun i _ _ => by rw [sa 56 (by omega)]) (hI.sm o).2 rfl rfl rfl
  · rw [e1]; exact hru _ _ h.sp (hI.sm 10).2
  · intro j hj
    rw [hS.sv.ord hI.pc.1] at hj ⊢
    rw [hM 5 (by omega), e4]; exact h.ln j hj
  · rcases hf with ⟨h5, h9⟩ | h9
    · rcases h.fm with hf | ⟨hf, hk⟩
      · left; rw [h9]; exact hf
      · right
        refine ⟨by rw [h9]; exact hf, fun k hk' => ?_⟩
        have hk2 := hS.sv.pc.mp hk'
        rw [e4, hd _ (h.pc k hk2).1, hS.sv.first ⟨h5, fun k _ => hS.wl k⟩ hI.pc.1 hk2, hS.sv.size ⟨h5, fun k _ => hS.wl k⟩ hk2]
        exact hk k hk2
    · left; exact h9
