/-! THE CLASS: write, and the pieces read again -/
theorem ne_sh {w : NS} {a b : Int} {x y : Nat × Nat} (h1 : w.2 a = x) (h2 : w.2 b = y) (hne : x ≠ y) : a ≠ b := fun e => hne (by rw [← h1, ← h2, e])
theorem cc_isKept {G : GP} {l : Launch} {w : NS} {S M : MM} {a : Int} (hI : SInv S) (hC : CInv S w M) (ha : isPg S a) : CT_X9_isKept G l [(2, 1), (2, M 3 a)] w M (PE (bi (keptS S a)) w M) := by
  refine E_X9_isKept (fun X hX C => ?_)
  have hpc := hI.pc
  have L := up_ind (P := fun i => 0 ≤ i → exN (fun k => decide (S 46 k = a) && (decide (S 52 k ≠ 0) || decide (S 51 k ≠ 0))) i.toNat = false → A_X9_isKept_2 G X (PE (bi (keptS S a)) w M) (M 3 a) i w M) (S 41 12) (fun i hi ih h0 hz => by
    refine B_X9_isKept_2 C ?_
    rw [hC.top.2.1]
    refine ⟨fun h => ⟨?_, rfl, rfl⟩, fun h => ?_⟩
    · rw [show i = S 41 12 by omega] at hz
      unfold keptS; rw [hz]; rfl
    · have hk : isPc S i := ⟨h0, by omega⟩
      obtain ⟨h1, h2, h3, h4, h5, h6, ⟨h7, h8⟩, -⟩ := hC.pc i hk
      have hg := hI.po i hk
      have e := pg_inj hC hg ha
      have p1 := (hC.pg _ hg).1
      have p2 := (hC.pg a ha).1
      have ih2 := ih (i + 1) (by omega) (by omega) (by omega)
      rw [exN_s h0, hz, Bool.false_or] at ih2
      have kt : (decide (S 46 i = a) && (decide (S 52 i ≠ 0) || decide (S 51 i ≠ 0))) = true → keptS S a = true := fun q => (exN_iff _ _).mpr ⟨i, h0, by omega, q⟩
      rw [h5, h7, h8]
      refine ⟨by omega, by omega, h2, by omega, by omega, fun h9 => ⟨by omega, ih2 ?_⟩, fun h9 => ⟨fun h10 => ?_, fun h10 => ⟨fun h11 => ⟨by omega, ih2 ?_⟩, fun h11 => ?_⟩⟩⟩
      · have : ¬ S 46 i = a := fun q => h9 (e.mpr q)
        simp [this]
      · have h12 : S 46 i = a := e.mp (Decidable.not_not.mp h9)
        exact ⟨by rw [kt (by simp [h12, h10])]; rfl, rfl, rfl⟩
      · simp [Decidable.not_not.mp h10, h11]
      · have h12 : S 46 i = a := e.mp (Decidable.not_not.mp h9)
        exact ⟨by rw [kt (by simp [h12, h11])]; rfl, rfl, rfl⟩)
  exact B_X9_isKept_0 C (L 0 (by omega) (by omega) rfl)
def FRW (a x i : Int) : Prop := (x = a ∧ i = 7) ∨ x = a + 1
def PRW (S : MM) (k a : Int) (w : NS) (M : MM) : Int → NS → MM → Prop := fun _ w' M' => w = w' ∧ M' a 7 = (wl S k).length ∧ AL M' (a + 1) (wl S k) ∧ Fo (FRW a) M M'
/-- a piece at a reads its words out of its page's row -/
theorem cc_readWords {G : GP} {l : Launch} {w : NS} {S M : MM} {a k : Int} (hI : SInv S) (ha : w.2 a = (7, 12)) (hp : w.2 (M a 1) = (5, 5)) (hn1 : M a 1 ≠ a) (hn2 : M a 1 + 1 ≠ a) (h2 : M a 2 = S 47 k) (h3 : M a 3 = S 48 k) (h4 : M a 4 = S 49 k) (h5 : M a 5 = S 50 k) (hw : ∀ i, 0 ≤ i → i < 60 → M (M a 1 + 1) i = S 42 (60 * S 46 k + i)) : CT_X6_readWords G l [(2, a)] w M (PRW S k a w M) := by
  refine E_X6_readWords (fun X hX C => ?_)
  have hed := hI.ed k
  have fx : ∀ M1, Fo (FRW a) M M1 → (∀ i, i ≠ 7 → M1 a i = M a i) ∧ ∀ i, M1 (M a 1 + 1) i = M (M a 1 + 1) i := fun M1 hF => ⟨fun i hi => hF a i (by unfold FRW; omega), fun i => hF _ i (by unfold FRW; omega)⟩
  have Lin : ∀ line, S 47 k ≤ line → line ≤ S 48 k → (∀ M2, Fo (FRW a) M M2 → M2 a 7 = (linesW S k (line + 1 - S 47 k).toNat).length → AL M2 (a + 1) (linesW S k (line + 1 - S 47 k).toNat) → A_X6_readWords_10 G X (PRW S k a w M) a (line + 1) w M2) →
      ∀ c, c ≤ S 50 k + 1 → ∀ M1, S 49 k ≤ c → Fo (FRW a) M M1 → M1 a 7 = (linesW S k (line - S 47 k).toNat ++ lineW S k line (c - S 49 k).toNat).length → AL M1 (a + 1) (linesW S k (line - S 47 k).toNat ++ lineW S k line (c - S 49 k).toNat) → A_X6_readWords_23 G X (PRW S k a w M) a line c w M1 := by
    intro line hl1 hl2 hk
    refine up_ind _ (fun c hc ih M1 hc0 hF hn hL => ?_)
    obtain ⟨f1, f2⟩ := fx M1 hF
    refine B_X6_readWords_23 C ?_
    rw [f1 5 (by decide), f1 1 (by decide), h5]
    have hb := linesW_len hI k (line - S 47 k).toNat
    have hb2 := lineW_len S k line (c - S 49 k).toNat
    rw [List.length_append] at hn
    refine ⟨ha, fun h => ⟨by omega, ?_⟩, fun h => ⟨hp, by omega, by omega, by omega, by omega, ?_⟩⟩
    · have hc1 : c = S 50 k + 1 := by omega
      have e : linesW S k (line + 1 - S 47 k).toNat = linesW S k (line - S 47 k).toNat ++ lineW S k line (c - S 49 k).toNat := by
        unfold linesW; rw [blkW_s hl1, hc1, show S 50 k + 1 - S 49 k = S 50 k - S 49 k + 1 by omega]
      refine hk M1 hF ?_ ?_
      · rw [e, List.length_append]; exact hn
      · rw [e]; exact hL
    · have hwd := hI.wd (60 * S 46 k + 10 * line + c)
      rw [f2, hw (line * 10 + c) (by omega) (by omega), show 60 * S 46 k + (line * 10 + c) = 60 * S 46 k + 10 * line + c by omega]
      refine ⟨fun h6 => ⟨by omega, ?_⟩, fun h6 => ⟨by omega, by omega, by omega, by omega, ?_⟩⟩
      · have e : lineW S k line (c + 1 - S 49 k).toNat = lineW S k line (c - S 49 k).toNat := by
          unfold lineW; rw [rowW_s hc0, if_neg (by omega), List.append_nil]
        refine ih (c + 1) (by omega) (by omega) M1 (by omega) hF ?_ ?_
        · rw [e, List.length_append]; exact hn
        · rw [e]; exact hL
      · have e : lineW S k line (c + 1 - S 49 k).toNat = lineW S k line (c - S 49 k).toNat ++ [S 42 (60 * S 46 k + 10 * line + c)] := by
          unfold lineW; rw [rowW_s hc0, if_pos (by omega)]
        have hn2 : M1 a 7 = ((linesW S k (line - S 47 k).toNat ++ lineW S k line (c - S 49 k).toNat).length : Nat) := by rw [List.length_append]; exact hn
        refine ih (c + 1) (by omega) (by omega) _ (by omega) (fo_up (fo_up hF _ (Or.inr rfl)) _ (Or.inl ⟨rfl, rfl⟩)) ?_ ?_
        · rw [up_eq, e, ← List.append_assoc, List.length_append, hn2]; simp
        · rw [e, ← List.append_assoc]
          refine al_fr (M := up M1 (a + 1) (M1 a 7) (S 42 (60 * S 46 k + 10 * line + c))) ?_ (fun i => up_na (by omega))
          rw [hn2]
          exact al_snoc hL _
  have Lo : ∀ line, line ≤ S 48 k + 1 → ∀ M1, S 47 k ≤ line → Fo (FRW a) M M1 → M1 a 7 = (linesW S k (line - S 47 k).toNat).length → AL M1 (a + 1) (linesW S k (line - S 47 k).toNat) → A_X6_readWords_10 G X (PRW S k a w M) a line w M1 := by
    refine up_ind _ (fun line hl ih M1 hl0 hF hn hL => ?_)
    obtain ⟨f1, f2⟩ := fx M1 hF
    refine B_X6_readWords_10 C ?_
    rw [f1 3 (by decide), f1 4 (by decide), h3, h4]
    refine ⟨ha, fun h => ?_, fun h => ?_⟩
    · have e : wl S k = linesW S k (line - S 47 k).toNat := by unfold wl; rw [show line = S 48 k + 1 by omega, show S 48 k + 1 - S 47 k = S 48 k - S 47 k + 1 by omega]
      exact ⟨rfl, by rw [e]; exact hn, by rw [e]; exact hL, hF⟩
    · refine Lin line hl0 (by omega) (fun M2 hF2 hn2 hL2 => ih (line + 1) (by omega) (by omega) M2 (by omega) hF2 hn2 hL2) (S 49 k) (by omega) M1 (by omega) hF ?_ ?_
      · simp [lineW, rowW, hn]
      · simp [lineW, rowW, hL]
  refine B_X6_readWords_0 C ⟨ha, ?_⟩
  rw [h2]
  refine Lo (S 47 k) (by omega) _ (by omega) (fo_up (Fo.rfl' _ _) _ (Or.inl ⟨rfl, rfl⟩)) ?_ ?_
  · rw [up_eq]; simp [linesW, blkW]
  · simp [linesW, blkW, AL]
/-- what a write and the reading behind it may touch -/
def FWr (S M : MM) (p x i : Int) : Prop := x = M 3 p + 1 ∨ ∃ j, isPc S j ∧ (x = M 4 j ∧ i = 7 ∨ x = M 4 j + 1)
theorem fwr_low {S : MM} {w : NS} {M : MM} (hC : CInv S w M) {p : Int} (hp : isPg S p) {x i : Int} (h : FWr S M p x i) : 83 < x := by
  rcases h with h | ⟨j, hj, h⟩
  · have := (hC.pg p hp).1; omega
  · have := (hC.pc j hj).1; omega
theorem fwr_tag {S : MM} {w : NS} {M : MM} (hC : CInv S w M) {p : Int} (hp : isPg S p) {x i : Int} {t : Nat × Nat} (hx : w.2 x = t) (ht : t ≠ (12, 60)) (ht2 : t ≠ (7, 12)) : ¬ FWr S M p x i := by
  rintro (h | ⟨j, hj, h | h⟩)
  · exact ne_sh hx (hC.pg p hp).2.2.1 ht h
  · exact ne_sh hx (hC.pc j hj).2.1 ht2 h.1
  · exact ne_sh hx (hC.pc j hj).2.2.1 ht h
theorem cc_readAgain {G : GP} {l : Launch} {w : NS} {S M : MM} {p x v : Int} (hI : SInv S) (hC : CInv S w M) (hp : isPg S p) (hx0 : 0 ≤ x) (hx1 : x < 60) (hI' : SInv (up S 42 (60 * p + x) v)) :
    CT_X9_readAgain G l [(2, 1), (2, M 3 p)] w (up M (M 3 p + 1) x v) (fun _ w' M' => w = w' ∧ (∀ k, isPc S k → CPiece (up S 42 (60 * p + x) v) w M' k) ∧ Fo (FWr S M p) M M' ∧ ∀ i, M' (M 3 p + 1) i = up M (M 3 p + 1) x v (M 3 p + 1) i) := by
  refine E_X9_readAgain (fun X hX C => ?_)
  have hpc := hI.pc
  have hpg := hC.pg p hp
  have L := up_ind (P := fun i => ∀ M1, 0 ≤ i → (∀ k, isPc S k → k < i → CPiece (up S 42 (60 * p + x) v) w M1 k) → Fo (fun y j => y = M 3 p + 1 ∧ j = x ∨ ∃ k, isPc S k ∧ k < i ∧ (y = M 4 k ∧ j = 7 ∨ y = M 4 k + 1)) M M1 → (∀ i, M1 (M 3 p + 1) i = up M (M 3 p + 1) x v (M 3 p + 1) i) → A_X9_readAgain_2 G X (fun _ w' M' => w = w' ∧ (∀ k, isPc S k → CPiece (up S 42 (60 * p + x) v) w M' k) ∧ Fo (FWr S M p) M M' ∧ ∀ i, M' (M 3 p + 1) i = up M (M 3 p + 1) x v (M 3 p + 1) i) (M 3 p) i w M1) (S 41 12) (fun i hi ih M1 h0 hK hF hW => by
    refine B_X9_readAgain_2 C ?_
    have lowM : ∀ a j, a ≤ 83 → M1 a j = M a j := fun a j ha => hF a j (by
      rintro (q | ⟨k, hk, -, q⟩)
      · have := hpg.1; omega
      · have := (hC.pc k hk).1; omega)
    rw [lowM 1 4 (by omega), hC.top.2.1, lowM 4 i (by omega)]
    refine ⟨fun h => ⟨rfl, fun k hk => hK k hk (by have := hk.2; omega), hF.mono (fun y j q => ?_), hW⟩, fun h => ?_⟩
    · rcases q with q | ⟨k, hk, -, q⟩
      · exact Or.inl q.1
      · exact Or.inr ⟨k, hk, q⟩
    · have hk : isPc S i := ⟨h0, by omega⟩
      have hg := hI.po i hk
      have hP := hC.pc i hk
      obtain ⟨c1, c2, c3, c4, c5, ⟨c6, c7, c8, c9⟩, ⟨c10, c11⟩, c12, c13⟩ := id hP
      have hQ := hC.pg _ hg
      -- this piece's cells are as they were
      have eo : ∀ j, M1 (M 4 i) j = M (M 4 i) j := fun j => hF _ j (by
        rintro (q | ⟨k, hk2, hlt, q | q⟩)
        · exact ne_sh c2 hpg.2.2.1 (by decide) q.1
        · have := (pc_inj hC hk hk2).mp q.1; omega
        · exact ne_sh c2 (hC.pc k hk2).2.2.1 (by decide) q)
      have ea : ∀ j, M1 (M 4 i + 1) j = M (M 4 i + 1) j := fun j => hF _ j (by
        rintro (q | ⟨k, hk2, hlt, q | q⟩)
        · exact ne_sh c2 hpg.2.1 (by decide) (by omega)
        · exact ne_sh c3 (hC.pc k hk2).2.1 (by decide) q.1
        · have := (pc_inj hC hk hk2).mp (by omega); omega)
      have epg : ∀ q, isPg S q → ∀ j, M1 (M 3 q + 1) j = if q = p then up M (M 3 p + 1) x v (M 3 p + 1) j else M (M 3 q + 1) j := fun q hq j => by
        by_cases e : q = p
        · rw [e, if_pos rfl]; exact hW j
        · rw [if_neg e]
          refine hF _ j ?_
          rintro (r | ⟨k, hk2, hlt, r | r⟩)
          · exact e ((pg_inj hC hq hp).mp (by omega))
          · exact ne_sh (hC.pg q hq).2.2.1 (hC.pc k hk2).2.1 (by decide) r.1
          · exact ne_sh (hC.pg q hq).2.1 (hC.pc k hk2).2.1 (by decide) (by omega)
      have hwd : ∀ j, 0 ≤ j → j < 60 → M1 (M 3 (S 46 i) + 1) j = up S 42 (60 * p + x) v 42 (60 * S 46 i + j) := fun j h1 h2 => by
        rw [epg _ hg j]
        by_cases e : S 46 i = p
        · rw [if_pos e, e]
          by_cases ej : j = x
          · rw [ej, up_eq, up_eq]
          · rw [up_ni ej, up_ni (by omega)]; exact hpg.2.2.2.2.2.2.2 j h1 h2
        · rw [if_neg e, up_ni (by omega)]; exact hQ.2.2.2.2.2.2.2 j h1 h2
      rw [eo 1, c5]
      have p1 := hQ.1
      have e := pg_inj hC hg hp
      refine ⟨by omega, by omega, c2, by omega, by have := hpg.1; omega, fun h7 => ⟨by omega, ?_⟩, fun h7 => ⟨_, cc_readWords (S := up S 42 (60 * p + x) v) (k := i) hI' c2 (by rw [eo 1, c5]; exact hQ.2.1) ?_ ?_ (by rw [eo 2, c6]; exact (up_na (by decide)).symm) (by rw [eo 3, c7]; exact (up_na (by decide)).symm) (by rw [eo 4, c8]; exact (up_na (by decide)).symm) (by rw [eo 5, c9]; exact (up_na (by decide)).symm) ?_, fun z w' M' hq => ⟨by omega, ?_⟩⟩⟩
      · -- another page's piece
        have hne : S 46 i ≠ p := fun q => h7 (e.mpr q)
        refine ih (i + 1) (by omega) (by omega) M1 (by omega) (fun k hk2 hlt => ?_) (hF.mono (fun y j q => ?_)) hW
        · by_cases ek : k = i
          · rw [ek]
            refine hP.mv (lowM 4 i (by omega)) (lowM 3 _ (by omega)) (fun j _ _ => eo j) (funext ea) ?_ ?_ ?_ ?_ ?_ ?_ ?_ ?_ rfl rfl
            all_goals (first | exact up_na (by decide) | skip)
            exact wl_cg hI (up_na (by decide)) (up_na (by decide)) (up_na (by decide)) (up_na (by decide)) (up_na (by decide)) (fun j _ _ => up_ni (by omega))
          · exact hK k hk2 (by omega)
        · rcases q with q | ⟨k, hk2, hlt, q⟩
          · exact Or.inl q
          · exact Or.inr ⟨k, hk2, by omega, q⟩
      · rw [eo 1, c5]; exact ne_sh hQ.2.1 c2 (by decide)
      · rw [eo 1, c5]; exact ne_sh hQ.2.2.1 c2 (by decide)
      · intro j h1 h2
        rw [eo 1, c5, hwd j h1 h2]
        rw [show up S 42 (60 * p + x) v 46 i = S 46 i from up_na (by decide)]
      · obtain ⟨rfl, r1, r2, r3⟩ := hq
        refine ih (i + 1) (by omega) (by omega) M' (by omega) (fun k hk2 hlt => ?_) (fun y j hy => ?_) (fun j => ?_)
        · by_cases ek : k = i
          · rw [ek]
            have g4 : M' 4 i = M 4 i := (r3 4 i (by unfold FRW; omega)).trans (lowM 4 i (by omega))
            have g3 : M' 3 (S 46 i) = M 3 (S 46 i) := (r3 3 _ (by unfold FRW; omega)).trans (lowM 3 _ (by omega))
            have go : ∀ j, j ≠ 7 → M' (M 4 i) j = M (M 4 i) j := fun j hj => (r3 _ j (by unfold FRW; omega)).trans (eo j)
            unfold CPiece
            rw [g4]
            have s46 : up S 42 (60 * p + x) v 46 i = S 46 i := up_na (by decide)
            refine ⟨c1, c2, c3, (go 0 (by decide)).trans c4, ?_, ⟨?_, ?_, ?_, ?_⟩, ⟨?_, ?_⟩, r1, r2⟩
            · rw [go 1 (by decide), s46, g3]; exact c5
            · rw [go 2 (by decide), up_na (by decide)]; exact c6
            · rw [go 3 (by decide), up_na (by decide)]; exact c7
            · rw [go 4 (by decide), up_na (by decide)]; exact c8
            · rw [go 5 (by decide), up_na (by decide)]; exact c9
            · rw [go 10 (by decide), up_na (by decide)]; exact c10
            · rw [go 11 (by decide), up_na (by decide)]; exact c11
          · have hk3 := hK k hk2 (by omega)
            have hkk := hC.pc k hk2
            have l4 : M1 4 k = M 4 k := lowM 4 k (by omega)
            have hne : M 4 k ≠ M 4 i := fun q => ek ((pc_inj hC hk2 hk).mp q)
            refine hk3.mv (r3 4 k (by unfold FRW; omega)) (r3 3 _ (by unfold FRW; omega)) (fun j _ _ => ?_) (funext fun j => ?_) rfl rfl rfl rfl rfl rfl rfl rfl rfl rfl
            · rw [l4]
              refine r3 _ j ?_
              rintro (q | q)
              · exact hne q.1
              · exact ne_sh hkk.2.1 c3 (by decide) q
            · rw [l4]
              refine r3 _ j ?_
              rintro (q | q)
              · exact ne_sh hkk.2.2.1 c2 (by decide) q.1
              · exact hne (by omega)
        · have hy1 : ¬ FRW (M 4 i) y j := fun q => hy (Or.inr ⟨i, hk, by omega, q⟩)
          rw [r3 y j hy1]
          refine hF y j (fun q => hy ?_)
          rcases q with q | ⟨k, hk2, hlt, q⟩
          · exact Or.inl q
          · exact Or.inr ⟨k, hk2, by omega, q⟩
        · rw [r3 _ j (by
            rintro (q | q)
            · exact ne_sh hpg.2.2.1 c2 (by decide) q.1
            · exact ne_sh hpg.2.1 c2 (by decide) (by omega))]
          exact hW j)
  refine B_X9_readAgain_0 C ?_
  refine L 0 (by omega) _ (by omega) (fun k hk hlt => by have := hk.1; omega) (fun y j hy => ?_) (fun j => rfl)
  rw [up_ap, if_neg (fun q => hy (Or.inl q))]
theorem cc_write {G : GP} {l : Launch} {w : NS} {S M : MM} {a b c : Int} (hI : SInv S) (hI' : SInv (op_write S a b c).2) (hC : CInv S w M) : CT_X9_write G l [(2, 1), (0, a), (0, b), (0, c)] w M (PC M (op_write S a b c)) := by
  refine E_X9_write (fun _ _ _ X hX C => ?_)
  refine B_X9_write_0 C ?_
  have hpg := hI.pg
  rw [hC.top.1]
  refine ⟨by omega, by omega, fun h => ?_, fun h => ?_⟩
  · have ha : isPg S a := Decidable.not_not.mp (fun q => h ((pgO_ne hC).mpr q))
    have hP := hC.pg a ha
    rw [pgO_in hC ha]
    refine ⟨fun h2 => pc_s hC (by unfold op_write; grind), fun h2 => ⟨fun h3 => ⟨_, cc_isKept hI hC ha, fun z w' M' hq => ?_⟩, fun h3 => pc_s hC (by unfold op_write; grind)⟩⟩
    obtain ⟨rfl, rfl, rfl⟩ := hq
    have key : ∀ v, op_write S a b c = (S 42 (60 * a + b), up S 42 (60 * a + b) v) → ∃ Q : Int → NS → MM → Prop, CT_X9_readAgain G X.2.1 [(2, 1), (2, M 3 a)] w (up M (M 3 a + 1) b v) Q ∧ ∀ (z : Int) (w1 : NS) (M1 : MM), Q z w1 M1 → PC M (op_write S a b c) (M (M 3 a + 1) b) w1 (up M1 9 0 0) := by
      intro v hop
      have hI2 : SInv (up S 42 (60 * a + b) v) := by rw [hop] at hI'; exact hI'
      refine ⟨_, cc_readAgain (v := v) hI hC ha h2.1 (by omega) hI2, fun z w1 M1 hq => ?_⟩
      obtain ⟨rfl, hK, hF, hW⟩ := hq
      rw [hP.2.2.2.2.2.2.2 b h2.1 (by omega)]
      have low : ∀ x i, x ≤ 83 → M1 x i = M x i := fun x i hx => hF x i (fun q => by have := fwr_low hC ha q; omega)
      have lowf : ∀ x, x ≤ 83 → x ≠ 9 → up M1 9 0 0 x = M x := fun x hx h9 => funext fun i => (up_na h9).trans (low x i hx)
      have tagf : ∀ x t, w.2 x = t → t ≠ (12, 60) → t ≠ (7, 12) → (83 < x ∨ x = 7 ∨ x = 8) → up M1 9 0 0 x = M x := fun x t hx h1 h2 h3 => funext fun i => (up_na (by omega)).trans (hF x i (fwr_tag hC ha hx h1 h2))
      have sv : SV S (up S 42 (60 * a + b) v) := ⟨up_na (by decide), trivial, fun k _ => ⟨trivial, up_na (by decide), up_na (by decide), up_na (by decide)⟩⟩
      have s4 : ∀ i, up S 42 (60 * a + b) v 41 i = S 41 i := fun i => up_na (by decide)
      refine pc_u (S1 := up S 42 (60 * a + b) v) hop ⟨⟨?_, ?_, ?_⟩, ⟨fun k p q => ?_, fun k p q => ?_⟩, fun q hq => ?_, fun k hk => ?_, fun o ho => ?_, ?_, fun n p q => ?_, fun r p q => ?_, fun j hj => ?_, Or.inl up_eq⟩ (fun x i hx => ?_)
      · rw [lowf 1 (by omega) (by omega), s4]; exact hC.top.1
      · rw [lowf 1 (by omega) (by omega), s4]; exact hC.top.2.1
      · rw [lowf 1 (by omega) (by omega), s4]; exact hC.top.2.2
      · rw [lowf 2 (by omega) (by omega), up_na (by decide)]; exact hC.num.1 k p q
      · rw [lowf 24 (by omega) (by omega), up_na (by decide)]; exact hC.num.2 k p q
      · have hq' : isPg S q := by unfold isPg at hq ⊢; rw [s4] at hq; exact hq
        have hQ := hC.pg q hq'
        by_cases e : q = a
        · subst e
          unfold CPage
          rw [lowf 3 (by omega) (by omega), tagf _ _ hQ.2.1 (by decide) (by decide) (Or.inl hQ.1)]
          obtain ⟨q1, q2, q3, q4, q5, q6, q7, q8⟩ := hQ
          refine ⟨q1, q2, q3, q4, ?_, ?_, ?_, fun i i0 i1 => ?_⟩
          · rw [up_na (by decide)]; exact q5
          · rw [up_na (by decide)]; exact q6
          · rw [up_na (by decide)]; exact q7
          · rw [up_na (by omega), hW i]
            by_cases ei : i = b
            · rw [ei, up_eq, up_eq]
            · rw [up_ni ei, up_ni (by omega)]; exact q8 i i0 i1
        · refine hQ.mv (lowf 3 (by omega) (by omega)) (tagf _ _ hQ.2.1 (by decide) (by decide) (Or.inl hQ.1)) (funext fun i => ?_) (up_na (by decide)) (up_na (by decide)) (up_na (by decide)) (fun i i0 i1 => up_ni (by omega)) rfl rfl
          refine (up_na (by have := hQ.1; omega)).trans (hF _ i ?_)
          rintro (r | ⟨j, hj, r | r⟩)
          · exact e ((pg_inj hC hq' ha).mp (by omega))
          · exact ne_sh hQ.2.2.1 (hC.pc j hj).2.1 (by decide) r.1
          · exact ne_sh hQ.2.1 (hC.pc j hj).2.1 (by decide) (by omega)
      · have hk' : isPc S k := sv.pc.mp hk
        have e4 : M1 4 k = M 4 k := low 4 k (by omega)
        have h83 := (hC.pc k hk').1
        exact (hK k hk').mv (up_na (by decide)) (up_na (by decide)) (fun i _ _ => up_na (by rw [e4]; omega)) (up_fn (by rw [e4]; omega)) rfl rfl rfl rfl rfl rfl rfl rfl rfl rfl
      · have ho' : isOr S o := by unfold isOr at ho ⊢; rw [s4] at ho; exact ho
        have hO := hC.od o ho'
        obtain ⟨r1, r2, r3, -⟩ := hO.2.2.2.1
        refine hO.mv (by rw [lowf 6 (by omega) (by omega)]) (tagf _ _ hO.2.1 (by decide) (by decide) (Or.inl hO.1)) (tagf _ _ r2 (by decide) (by decide) (by omega)) (tagf _ _ r3 (by decide) (by decide) (by omega)) (Or.inl (by rw [lowf 1 (by omega) (by omega)])) (fun x h1 h2 => up_na (by omega)) (fun i _ _ => up_na (by decide)) (hI.sm o).2 rfl rfl rfl
      · rw [lowf 1 (by omega) (by omega)]
        obtain ⟨r1, r2, r3, -⟩ := hC.sp
        exact hC.sp.mv (tagf _ _ r2 (by decide) (by decide) (by omega)) (tagf _ _ r3 (by decide) (by decide) (by omega)) (up_na (by decide)) (fun i _ _ => up_na (by decide)) (hI.sm 10).2 rfl rfl
      · have hn := hC.nm n p q
        exact ⟨by rw [lowf _ (by omega) (by omega), up_na (by decide)]; exact hn.1, fun x p2 q2 => by rw [lowf _ (by omega) (by omega), up_na (by decide)]; exact hn.2 x p2 q2⟩
      · have hr := hC.rd r p q
        refine ⟨?_, ?_, ?_, fun x p2 q2 => ?_⟩
        all_goals (rw [lowf _ (by omega) (by omega), up_na (by decide)])
        · exact hr.1
        · exact hr.2.1
        · exact hr.2.2.1
        · exact hr.2.2.2 x p2 q2
      · rw [sv.ord hI.pc.1] at hj ⊢
        rw [lowf 5 (by omega) (by omega), lowf 4 (by omega) (by omega)]; exact hC.ln j hj
      · rw [up_na (by omega)]; exact low x i (by omega)
    refine ⟨fun h4 => ⟨hP.2.1, by omega, by omega, fun h5 => ?_, fun h5 => ?_⟩, fun h4 => pc_s hC (by unfold op_write; grind [bi])⟩
    · exact key c (by unfold op_write; grind [bi])
    · exact key (-6) (by unfold op_write; grind [bi])
  · exact pc_s hC (by unfold op_write; rw [if_neg ((pgO_ne hC).mp (Decidable.not_not.mp h))])
