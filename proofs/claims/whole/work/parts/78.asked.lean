/-! ASKED, both sides -/
def onP (S : MM) (pg k : Int) : Bool := decide (S 46 k = pg) || decide (S 45 pg = S 46 k)
def segL (S : MM) (pg o : Int) (W : List Int) : List (Int × Int) := (W.filter (onP S pg)).map (fun k => (o, k))
noncomputable def askN (S : MM) (pg : Int) : Nat → List (Int × Int)
  | 0 => []
  | n + 1 => askN S pg n ++ segL S pg n (listS S n (S 44 pg))
noncomputable def askS (S : MM) (pg : Int) : List (Int × Int) := (askN S pg (S 41 26).toNat).take 9
theorem take_snocG {α : Type} {A : List α} {x : α} {m : Nat} : (A ++ [x]).take m = if A.length < m then A.take m ++ [x] else A.take m := by
  split
  · rename_i h
    rw [List.take_of_length_le (by rw [List.length_append]; simp; omega), List.take_of_length_le (by omega)]
  · rename_i h
    rw [List.take_append_of_le_length (by omega)]
theorem segL_s {S : MM} {pg o : Int} {W : List Int} {i : Nat} (h : i < W.length) : segL S pg o (W.take (i + 1)) = segL S pg o (W.take i) ++ (if onP S pg (W[i]'h) then [(o, W[i]'h)] else []) := by
  unfold segL
  rw [List.take_succ_eq_append_getElem h, List.filter_append, List.map_append]
  congr 1
  by_cases c : onP S pg (W[i]'h) = true <;> simp [c]
theorem askN_pre {S : MM} {pg : Int} : ∀ (n m : Nat), n ≤ m → 9 ≤ (askN S pg n).length → (askN S pg m).take 9 = (askN S pg n).take 9 ∧ 9 ≤ (askN S pg m).length
  | n, 0, h, h9 => by rw [show n = 0 by omega] at h9 ⊢; exact ⟨rfl, h9⟩
  | n, m + 1, h, h9 => by
    by_cases e : n = m + 1
    · rw [e] at h9 ⊢; exact ⟨rfl, h9⟩
    · have ih := askN_pre n m (by omega) h9
      rw [askN]
      refine ⟨?_, by rw [List.length_append]; omega⟩
      rw [List.take_append_of_le_length ih.2, ih.1]
theorem seg_pre {S : MM} {pg o : Int} {A : List (Int × Int)} {W : List Int} {i : Nat} (h : 9 ≤ (A ++ segL S pg o (W.take i)).length) : (A ++ segL S pg o W).take 9 = (A ++ segL S pg o (W.take i)).take 9 := by
  have e : segL S pg o W = segL S pg o (W.take i) ++ segL S pg o (W.drop i) := by
    unfold segL
    rw [← List.map_append, ← List.filter_append, List.take_append_drop]
  rw [e, ← List.append_assoc, List.take_append_of_le_length h]
theorem askN_mem {S : MM} {pg : Int} : ∀ (n : Nat) (x : Int × Int), x ∈ askN S pg n → (0 ≤ x.1 ∧ x.1 < n) ∧ isPc S x.2
  | 0, x, h => by simp [askN] at h
  | n + 1, x, h => by
    rw [askN, List.mem_append] at h
    rcases h with h | h
    · have := askN_mem n x h
      exact ⟨by omega, this.2⟩
    · unfold segL at h
      obtain ⟨k, hk, e⟩ := List.mem_map.mp h
      rw [← e]
      exact ⟨by constructor <;> (show _ ; omega), listS_mem (List.mem_filter.mp hk).1⟩
theorem askS_mem {S : MM} {pg : Int} (hI : SInv S) {x : Int × Int} (h : x ∈ askS S pg) : isOr S x.1 ∧ isPc S x.2 := by
  have hoc := hI.oc
  have := askN_mem _ x (List.mem_of_mem_take h)
  unfold isOr
  exact ⟨by omega, this.2⟩
theorem askS_len {S : MM} {pg : Int} : (askS S pg).length ≤ 9 := by unfold askS; rw [List.length_take]; omega
def fs1 (L : List (Int × Int)) : List Int := L.map Prod.fst
def sn1 (L : List (Int × Int)) : List Int := L.map Prod.snd
theorem fs1_len (L : List (Int × Int)) : (fs1 L).length = L.length := List.length_map ..
theorem sn1_len (L : List (Int × Int)) : (sn1 L).length = L.length := List.length_map ..
theorem fs1_sn {L : List (Int × Int)} {x : Int × Int} : fs1 (L ++ [x]) = fs1 L ++ [x.1] := by unfold fs1; simp
theorem sn1_sn {L : List (Int × Int)} {x : Int × Int} : sn1 (L ++ [x]) = sn1 L ++ [x.2] := by unfold sn1; simp
theorem sn1_mem {S : MM} {pg : Int} (hI : SInv S) {j : Nat} (h : j < (askS S pg).length) : isPc S ((sn1 (askS S pg)).getD j 0) := by
  have h2 : j < (sn1 (askS S pg)).length := by rw [sn1_len]; exact h
  rw [List.getD_eq_getElem?_getD, List.getElem?_eq_getElem h2, Option.getD_some]
  have hm := List.getElem_mem h2
  unfold sn1 at hm
  obtain ⟨x, hx, e⟩ := List.mem_map.mp hm
  have := (askS_mem hI hx).2
  rw [e] at this; exact this
theorem fs1_mem {S : MM} {pg : Int} (hI : SInv S) {j : Nat} (h : j < (askS S pg).length) : isOr S ((fs1 (askS S pg)).getD j 0) := by
  have h2 : j < (fs1 (askS S pg)).length := by rw [fs1_len]; exact h
  rw [List.getD_eq_getElem?_getD, List.getElem?_eq_getElem h2, Option.getD_some]
  have hm := List.getElem_mem h2
  unfold fs1 at hm
  obtain ⟨x, hx, e⟩ := List.mem_map.mp hm
  have := (askS_mem hI hx).1
  rw [e] at this; exact this
def FAK (x i : Int) : Prop := FFL x i ∨ x = 74 ∨ x = 75 ∨ (x = 41 ∧ i = 42)
theorem FAK_wk : WK FAK := fun x i h => by
  unfold FAK FFL at h
  refine ⟨?_, fun e => ?_⟩
  · unfold PA; simp; omega
  · unfold PF; simp; omega
theorem FAK_in : ∀ x i, FAK x i → 41 ≤ x ∧ x ≤ 83 := fun x i h => by unfold FAK FFL at h; omega
def PFA (S : MM) (pg : Int) (w : NS) (M : MM) : Int → NS → MM → Prop := fun _ w' M' => w = w' ∧ M' 41 42 = (askS S pg).length ∧ AL M' 74 (fs1 (askS S pg)) ∧ AL M' 75 (sn1 (askS S pg)) ∧ MD S M' ∧ Fo FAK M M'
theorem md_up {S M : MM} {a i v : Int} (h : MD S M) (hn : a ≠ 69) (h2 : ¬ (a = 41 ∧ i = 34)) : MD S (up M a i v) := by
  have e34 : up M a i v 41 34 = M 41 34 := by rw [up_ap, if_neg (fun q => h2 ⟨q.1.symm, q.2.symm⟩)]
  rcases h with h | h
  · left; rw [e34]; exact h
  · right; exact ⟨by rw [e34]; exact h.1, fun x y hx hy => by rw [up_na (fun q => hn q.symm)]; exact h.2 x y hx hy⟩
theorem cm_findAsked {G : GP} {l : Launch} {w : NS} {S M : MM} {pg : Int} (hI : SInv S) (hV : RInv S) (hA : Ag S M) (hD : MD S M) (hp : isPg S pg) : CT_X10_findAsked G l [(2, 41), (0, pg)] w M (PFA S pg w M) := by
  refine E_X10_findAsked (fun _ X hX C => ?_)
  have hpc := hI.pc
  have hoc := hI.oc
  have hpg := hI.pg
  have hpp := hp
  unfold isPg at hpp
  have Kin : ∀ o : Nat, (o : Int) < S 41 26 → (∀ M1, Fo FAK M M1 → MD S M1 → M1 41 42 = ((askN S pg (o + 1)).take 9).length → AL M1 74 (fs1 ((askN S pg (o + 1)).take 9)) → AL M1 75 (sn1 ((askN S pg (o + 1)).take 9)) → A_X10_findAsked_7 G X (PFA S pg w M) pg ((o : Int) + 1) w M1) →
      ∀ i : Int, i ≤ (listS S o (S 44 pg)).length → ∀ M1, 0 ≤ i → Fo FAK M M1 → MD S M1 → M1 41 36 = (listS S o (S 44 pg)).length → AL M1 70 (listS S o (S 44 pg)) → M1 41 42 = ((askN S pg o ++ segL S pg o ((listS S o (S 44 pg)).take i.toNat)).take 9).length → AL M1 74 (fs1 ((askN S pg o ++ segL S pg o ((listS S o (S 44 pg)).take i.toNat)).take 9)) → AL M1 75 (sn1 ((askN S pg o ++ segL S pg o ((listS S o (S 44 pg)).take i.toNat)).take 9)) → A_X10_findAsked_37 G X (PFA S pg w M) pg o i w M1 := fun o ho nx => up_ind _ (fun i hi ih M1 i0 hF hd1 h36 h70 hn hL1 hL2 => by
    have hA1 := hF.ag FAK_wk hA
    obtain ⟨kf4, kf12, kf26, ke42, ke43, ke44, ke45, ke46, ke47, ke48, ke49, ke50, ke51, ke52, ke53, ke56, ke57, ke58, ke59, ke60, ke61, ke62, ke63, ke72, ke73, ke77, ke78, ke79, ke83⟩ := hA1.all
    have hl := listS_len (o := o) (day := S 44 pg) hI
    have hmem : ∀ x ∈ listS S o (S 44 pg), isPc S x := fun x hx => listS_mem hx
    rw [askN] at nx
    generalize hW : listS S o (S 44 pg) = W at *
    refine B_X10_findAsked_37 C ?_
    simp only [kf4, kf12, kf26, ke42, ke43, ke44, ke45, ke46, ke47, ke48, ke49, ke50, ke51, ke52, ke53, ke56, ke57, ke58, ke59, ke60, ke61, ke62, ke63, ke72, ke73, ke77, ke78, ke79, ke83]
    rw [h36]
    refine ⟨fun h => ⟨by omega, ?_⟩, fun h => ⟨fun h9 => ⟨by omega, ?_⟩, fun h9 => ?_⟩⟩
    · rw [List.take_of_length_le (show W.length ≤ i.toNat by omega)] at hn hL1 hL2
      exact nx M1 hF hd1 hn hL1 hL2
    · have e := seg_pre (S := S) (pg := pg) (o := o) (A := askN S pg o) (W := W) (i := i.toNat) (by rw [hn, List.length_take] at h9; omega)
      rw [← e] at hn hL1 hL2
      exact nx M1 hF hd1 hn hL1 hL2
    · have hit : i.toNat < W.length := by omega
      have e70 : M1 70 i = W[i.toNat]'hit := by rw [al_at h70 i0 (by omega), List.getD_eq_getElem?_getD, List.getElem?_eq_getElem hit]; rfl
      have hk := hmem _ (List.getElem_mem hit)
      have hs := segL_s (S := S) (pg := pg) (o := o) hit
      generalize hke : W[i.toNat]'hit = k at *
      have hkk := hk
      unfold isPc at hkk
      have hlt : (askN S pg o ++ segL S pg o (W.take i.toNat)).length < 9 := by rw [hn, List.length_take] at h9; omega
      rw [e70]
      have add : onP S pg k = true → A_X10_findAsked_37 G X (PFA S pg w M) pg o (i + 1) w (up (up (up M1 74 (M1 41 42) o) 75 (M1 41 42) k) 41 42 (M1 41 42 + 1)) := fun c => by
        have e : (askN S pg o ++ segL S pg o (W.take (i + 1).toNat)).take 9 = (askN S pg o ++ segL S pg o (W.take i.toNat)).take 9 ++ [((o : Int), k)] := by
          rw [show (i + 1).toNat = i.toNat + 1 by omega, hs, if_pos c, ← List.append_assoc, take_snocG, if_pos hlt]
        refine ih (i + 1) (by omega) (by omega) _ (by omega) (fo_up (fo_up (fo_up hF _ (by unfold FAK; omega)) _ (by unfold FAK; omega)) _ (by unfold FAK; omega)) (md_up (md_up (md_up hd1 (by decide) (by omega)) (by decide) (by omega)) (by decide) (by omega)) ?_ ?_ ?_ ?_ ?_
        · rw [up_ni (by decide), up_na (by decide), up_na (by decide)]; exact h36
        · exact al_fr h70 (fun t => by rw [up_na (by decide), up_na (by decide), up_na (by decide)])
        · rw [up_eq, e, List.length_append, hn]; simp
        · rw [e, fs1_sn]
          refine al_fr (M := up M1 74 (M1 41 42) o) ?_ (fun t => by rw [up_na (by decide), up_na (by decide)])
          have := al_snoc hL1 (o : Int)
          rw [fs1_len, ← hn] at this
          exact this
        · rw [e, sn1_sn]
          refine al_fr (M := up (up M1 74 (M1 41 42) o) 75 (M1 41 42) k) ?_ (fun t => by rw [up_na (by decide)])
          have := al_snoc (al_fr (M' := up M1 74 (M1 41 42) o) hL2 (fun t => up_na (by decide))) k
          rw [sn1_len, ← hn] at this
          exact this
      have skip : onP S pg k = false → A_X10_findAsked_37 G X (PFA S pg w M) pg o (i + 1) w M1 := fun c => by
        have e : segL S pg o (W.take (i + 1).toNat) = segL S pg o (W.take i.toNat) := by
          rw [show (i + 1).toNat = i.toNat + 1 by omega, hs, c]; simp
        exact ih (i + 1) (by omega) (by omega) M1 (by omega) hF hd1 h36 h70 (by rw [e]; exact hn) (by rw [e]; exact hL1) (by rw [e]; exact hL2)
      have hn0 : 0 ≤ M1 41 42 := by rw [hn]; omega
      refine ⟨i0, by omega, by omega, by omega, fun h1 => ⟨by omega, by omega, by omega, by omega, add ?_⟩, fun h1 => ⟨by omega, by omega, fun h2 => ⟨by omega, skip ?_⟩, fun h2 => ⟨by omega, by omega, by omega, by omega, add ?_⟩⟩⟩
      · unfold onP; rw [decide_eq_true h1]; rfl
      · unfold onP; rw [decide_eq_false h1, decide_eq_false h2]; rfl
      · unfold onP; rw [decide_eq_true (Decidable.not_not.mp h2), Bool.or_true])
  have K : ∀ o : Int, o ≤ S 41 26 → ∀ M1, 0 ≤ o → Fo FAK M M1 → MD S M1 → M1 41 42 = ((askN S pg o.toNat).take 9).length → AL M1 74 (fs1 ((askN S pg o.toNat).take 9)) → AL M1 75 (sn1 ((askN S pg o.toNat).take 9)) → A_X10_findAsked_7 G X (PFA S pg w M) pg o w M1 := up_ind _ (fun o ho ih M1 o0 hF hd1 hn hL1 hL2 => by
    have hA1 := hF.ag FAK_wk hA
    refine B_X10_findAsked_7 C ?_
    rw [hA1.2 26 rfl, hA1.1 44 pg rfl]
    refine ⟨fun h => ?_, fun h => ⟨fun h9 => ?_, fun h9 => ⟨by omega, by omega, _, cm_findList (day := S 44 pg) hI hV hA1 hd1 ⟨o0, by omega⟩, ?_⟩⟩⟩
    · rw [show o.toNat = (S 41 26).toNat by omega] at hn hL1 hL2
      exact ⟨rfl, hn, hL1, hL2, hd1, hF⟩
    · have e := (askN_pre (S := S) (pg := pg) o.toNat (S 41 26).toNat (by omega) (by rw [hn, List.length_take] at h9; omega)).1
      rw [← e] at hn hL1 hL2
      exact ⟨rfl, hn, hL1, hL2, hd1, hF⟩
    · rintro z4 _ M4 ⟨rfl, k1, k2, k3, k4⟩
      have hoo : ((o.toNat : Nat) : Int) = o := by omega
      have := Kin o.toNat (by omega) (fun M5 g1 g2 g3 g4 g5 => by
        have h6 := ih (o + 1) (by omega) (by omega) M5 (by omega) g1 g2
        rw [show (o + 1).toNat = o.toNat + 1 by omega] at h6
        rw [hoo]
        exact h6 g3 g4 g5) 0 (by omega) M4 (by omega) (hF.tr (k4.mono (fun x i q => Or.inl q))) k3
      rw [hoo] at this
      refine this k1 k2 ?_ ?_ ?_
      · rw [k4 41 42 (by unfold FFL; omega), hn]; simp [segL]
      · simp only [segL, show (0 : Int).toNat = 0 from rfl, List.take_zero, List.filter_nil, List.map_nil, List.append_nil]
        exact al_fr hL1 (fun t => k4 74 t (by unfold FFL; omega))
      · simp only [segL, show (0 : Int).toNat = 0 from rfl, List.take_zero, List.filter_nil, List.map_nil, List.append_nil]
        exact al_fr hL2 (fun t => k4 75 t (by unfold FFL; omega)))
  refine B_X10_findAsked_0 C ?_
  refine K 0 (by omega) _ (by omega) (fo_up (Fo.rfl' _ _) _ (by unfold FAK; omega)) (md_up hD (by decide) (by omega)) (by rw [up_eq]; simp [askN]) (by simp [askN, fs1, AL]) (by simp [askN, sn1, AL])
noncomputable def op_asked (S : MM) (pg i : Int) : Int × MM :=
  (if isPg S pg then (if i = -1 then ((askS S pg).length : Int) else if 0 ≤ i ∧ i < (askS S pg).length then 100 * (fs1 (askS S pg)).getD i.toNat 0 + (sn1 (askS S pg)).getD i.toNat 0 else -6) else -1, S)
theorem cm_asked {G : GP} {l : Launch} {w : NS} {S M : MM} {a b : Int} (hI : SInv S) (hV : RInv S) (hA : Ag S M) (hD : MD S M) : CT_X10_asked G l [(2, 41), (0, a), (0, b)] w M (PMD w M (op_asked S a b)) := by
  refine E_X10_asked (fun _ _ X hX C => ?_)
  refine B_X10_asked_0 C ?_
  have hpg := hI.pg
  have hpc := hI.pc
  have hoc := hI.oc
  rw [hA.2 4 rfl]
  refine ⟨by omega, fun h1 => ⟨_, cm_findAsked hI hV hA hD h1, ?_⟩, fun h1 => pd_s hA hD (by unfold op_asked; rw [if_neg h1])⟩
  rintro z4 _ M4 ⟨rfl, k1, k2, k3, k4, k5⟩
  have hl := askS_len (S := S) (pg := a)
  rw [k1]
  have op : ∀ z, (if b = -1 then ((askS S a).length : Int) else if 0 ≤ b ∧ b < (askS S a).length then 100 * (fs1 (askS S a)).getD b.toNat 0 + (sn1 (askS S a)).getD b.toNat 0 else -6) = z → PMD w M (op_asked S a b) z w M4 := fun z hz => pd_u (S1 := S) (by unfold op_asked; rw [if_pos h1, hz]) (k5.ag FAK_wk hA) (k5.frm FAK_in) k4
  refine ⟨fun h3 => ⟨by omega, fun h4 => op _ ?_, fun h4 => ?_⟩, fun h3 => op _ ?_⟩
  · rw [if_neg h3, if_neg (by omega)]
  · have g1 := fs1_mem (pg := a) hI (j := b.toNat) (by omega)
    have g2 := sn1_mem (pg := a) hI (j := b.toNat) (by omega)
    unfold isOr at g1
    unfold isPc at g2
    rw [al_at k2 h4.1 (by rw [fs1_len]; omega), al_at k3 h4.1 (by rw [sn1_len]; omega)]
    refine ⟨by omega, by omega, by omega, by omega, op _ ?_⟩
    rw [if_neg h3, if_pos (by omega)]
  · rw [if_pos (Decidable.not_not.mp h3)]
theorem cc_add {G : GP} {l : Launch} {w : NS} {M : MM} {o k : Int} (h0 : 0 ≤ M 14 2) : CT_X0_add G l [(2, 14), (0, o), (0, k)] w M (fun _ w' M' => w = w' ∧ (if 9 ≤ M 14 2 then M else up (up (up M 15 (M 14 2) o) 16 (M 14 2) k) 14 2 (M 14 2 + 1)) = M') := by
  refine E_X0_add (fun _ _ X hX C => ?_)
  refine B_X0_add_0 C ?_
  refine ⟨fun h => ⟨rfl, if_pos h⟩, fun h => ⟨by omega, by omega, by omega, rfl, if_neg h⟩⟩
def PGA (S : MM) (pg : Int) (w : NS) (M : MM) : Int → NS → MM → Prop := fun _ w' M' => w = w' ∧ CInv S w M' ∧ Fo (FWK S M) M M' ∧ M' 14 2 = (askS S pg).length ∧ AL M' 15 (fs1 (askS S pg)) ∧ AL M' 16 (sn1 (askS S pg))
theorem cc_gatherAsked {G : GP} {l : Launch} {w : NS} {S M : MM} {pg : Int} (hI : SInv S) (hV : RInv S) (hC : CInv S w M) (hp : isPg S pg) : CT_X9_gatherAsked G l [(2, 1), (2, M 3 pg)] w M (PGA S pg w M) := by
  refine E_X9_gatherAsked (fun X hX C => ?_)
  have hpc := hI.pc
  have hoc := hI.oc
  have hpg := hI.pg
  have hG := hC.pg pg hp
  have w14 : ∀ (M1 : MM), CInv S w M1 → ∀ M2, Fo (fun x i => x = 15 ∨ x = 16 ∨ (x = 14 ∧ i = 2)) M1 M2 → CInv S w M2 ∧ Fo (FWK S M1) M1 M2 := fun M1 c1 M2 hF => by
    have hFw : Fo (FWK S M1) M1 M2 := hF.mono (fun x i q => by unfold FWK; omega)
    exact ⟨c1.work hI hFw (CFam.wk c1 (hF _ _ (by omega)) (fun k => hF _ _ (by omega)) (fun k i hk => hF _ _ (by have := (c1.pc k hk).1; omega))), hFw⟩
  have Kin : ∀ o : Nat, (o : Int) < S 41 26 → (∀ M1, CInv S w M1 → Fo (FWK S M) M M1 → M1 14 2 = ((askN S pg (o + 1)).take 9).length → AL M1 15 (fs1 ((askN S pg (o + 1)).take 9)) → AL M1 16 (sn1 ((askN S pg (o + 1)).take 9)) → A_X9_gatherAsked_10 G X (PGA S pg w M) (M 3 pg) ((o : Int) + 1) w M1) →
      ∀ i : Int, i ≤ (listS S o (S 44 pg)).length → ∀ M1, 0 ≤ i → CInv S w M1 → Fo (FWK S M) M M1 → M1 1 11 = (listS S o (S 44 pg)).length → AL M1 12 (listS S o (S 44 pg)) → M1 14 2 = ((askN S pg o ++ segL S pg o ((listS S o (S 44 pg)).take i.toNat)).take 9).length → AL M1 15 (fs1 ((askN S pg o ++ segL S pg o ((listS S o (S 44 pg)).take i.toNat)).take 9)) → AL M1 16 (sn1 ((askN S pg o ++ segL S pg o ((listS S o (S 44 pg)).take i.toNat)).take 9)) → A_X9_gatherAsked_34 G X (PGA S pg w M) (M 3 pg) o i w M1 := fun o ho nx => up_ind _ (fun i hi ih M1 i0 hC1 hF h36 h70 hn hL1 hL2 => by
    have hl := listS_len (o := o) (day := S 44 pg) hI
    have hmem : ∀ x ∈ listS S o (S 44 pg), isPc S x := fun x hx => listS_mem hx
    rw [askN] at nx
    generalize hW : listS S o (S 44 pg) = W at *
    have e3 : M1 3 pg = M 3 pg := fwk_low hC hF (by omega) (by omega)
    have hG1 := hC1.pg pg hp
    unfold CPage at hG1
    rw [e3] at hG1
    refine B_X9_gatherAsked_34 C ?_
    rw [h36]
    refine ⟨fun h => ⟨by omega, ?_⟩, fun h => ?_⟩
    · rw [List.take_of_length_le (show W.length ≤ i.toNat by omega)] at hn hL1 hL2
      exact nx M1 hC1 hF hn hL1 hL2
    · have hit : i.toNat < W.length := by omega
      have e70 : M1 12 i = W[i.toNat]'hit := by rw [al_at h70 i0 (by omega), List.getD_eq_getElem?_getD, List.getElem?_eq_getElem hit]; rfl
      have hk := hmem _ (List.getElem_mem hit)
      have hs := segL_s (S := S) (pg := pg) (o := o) hit
      generalize hke : W[i.toNat]'hit = k at *
      have hkk := hk
      unfold isPc at hkk
      have hP := hC1.pc k hk
      have hgk := hI.po k hk
      have hQ := hC1.pg _ hgk
      have inj := pg_inj hC1 hgk hp
      rw [e3] at inj
      have hn0 : 0 ≤ M1 14 2 := by rw [hn]; omega
      have add : onP S pg k = true → ∃ Q : Int → NS → MM → Prop, CT_X0_add G X.2.1 [(2, 14), (0, (o : Int)), (0, k)] w M1 Q ∧ ∀ (z10 : Int) (w10 : NS) (M10 : MM), Q z10 w10 M10 → (inR (i + 1)) ∧ A_X9_gatherAsked_34 G X (PGA S pg w M) (M 3 pg) o (i + 1) w10 M10 := fun c => by
        refine ⟨_, cc_add hn0, ?_⟩
        rintro z10 _ _ ⟨rfl, rfl⟩
        refine ⟨by omega, ?_⟩
        by_cases h9 : 9 ≤ M1 14 2
        · rw [if_pos h9]
          have e : (askN S pg o ++ segL S pg o (W.take (i + 1).toNat)).take 9 = (askN S pg o ++ segL S pg o (W.take i.toNat)).take 9 := by
            rw [show (i + 1).toNat = i.toNat + 1 by omega, hs, if_pos c, ← List.append_assoc, take_snocG, if_neg (by rw [hn, List.length_take] at h9; omega)]
          exact ih (i + 1) (by omega) (by omega) M1 (by omega) hC1 hF h36 h70 (by rw [e]; exact hn) (by rw [e]; exact hL1) (by rw [e]; exact hL2)
        · rw [if_neg h9]
          have hlt : (askN S pg o ++ segL S pg o (W.take i.toNat)).length < 9 := by rw [hn, List.length_take] at h9; omega
          have e : (askN S pg o ++ segL S pg o (W.take (i + 1).toNat)).take 9 = (askN S pg o ++ segL S pg o (W.take i.toNat)).take 9 ++ [((o : Int), k)] := by
            rw [show (i + 1).toNat = i.toNat + 1 by omega, hs, if_pos c, ← List.append_assoc, take_snocG, if_pos hlt]
          have hF2 : Fo (fun x i => x = 15 ∨ x = 16 ∨ (x = 14 ∧ i = 2)) M1 (up (up (up M1 15 (M1 14 2) o) 16 (M1 14 2) k) 14 2 (M1 14 2 + 1)) := fo_up (fo_up (fo_up (Fo.rfl' _ _) _ (Or.inl rfl)) _ (Or.inr (Or.inl rfl))) _ (Or.inr (Or.inr ⟨rfl, rfl⟩))
          obtain ⟨c2, f2⟩ := w14 M1 hC1 _ hF2
          refine ih (i + 1) (by omega) (by omega) _ (by omega) c2 (FWK.tr hC hF f2) ?_ ?_ ?_ ?_ ?_
          · rw [hF2 1 11 (by omega)]; exact h36
          · exact al_fr h70 (fun t => hF2 12 t (by omega))
          · rw [up_eq, e, List.length_append, hn]; simp
          · rw [e, fs1_sn]
            refine al_fr (M := up M1 15 (M1 14 2) o) ?_ (fun t => by rw [up_na (by decide), up_na (by decide)])
            have := al_snoc hL1 (o : Int)
            rw [fs1_len, ← hn] at this
            exact this
          · rw [e, sn1_sn]
            refine al_fr (M := up (up M1 15 (M1 14 2) o) 16 (M1 14 2) k) ?_ (fun t => by rw [up_na (by decide)])
            have := al_snoc (al_fr (M' := up M1 15 (M1 14 2) o) hL2 (fun t => up_na (by decide))) k
            rw [sn1_len, ← hn] at this
            exact this
      have skip : onP S pg k = false → A_X9_gatherAsked_34 G X (PGA S pg w M) (M 3 pg) o (i + 1) w M1 := fun c => by
        have e : segL S pg o (W.take (i + 1).toNat) = segL S pg o (W.take i.toNat) := by
          rw [show (i + 1).toNat = i.toNat + 1 by omega, hs, c]; simp
        exact ih (i + 1) (by omega) (by omega) M1 (by omega) hC1 hF h36 h70 (by rw [e]; exact hn) (by rw [e]; exact hL1) (by rw [e]; exact hL2)
      rw [e70, hP.2.2.2.2.1, hG1.2.2.2.2.2.2.1]
      have q83 := hQ.1
      have e45 : M1 3 (S 46 k) = (if S 45 pg < 0 then 0 else M1 3 (S 45 pg)) ↔ S 45 pg = S 46 k := by
        by_cases hs45 : S 45 pg < 0
        · rw [if_pos hs45]; have := hgk.1; constructor <;> intro q <;> omega
        · rw [if_neg hs45]
          have hg5 : isPg S (S 45 pg) := by rcases hI.sd pg hp with q | q; omega; exact q.1
          rw [pg_inj hC1 hgk hg5]; exact ⟨fun q => q.symm, fun q => q.symm⟩
      have n45 : 0 ≤ (if S 45 pg < 0 then 0 else M1 3 (S 45 pg)) := by
        by_cases hs45 : S 45 pg < 0
        · rw [if_pos hs45]; omega
        · rw [if_neg hs45]
          have hg5 : isPg S (S 45 pg) := by rcases hI.sd pg hp with q | q; omega; exact q.1
          have := (hC1.pg _ hg5).1; omega
      refine ⟨i0, by omega, by omega, by omega, hP.2.1, by omega, by have := hG1.1; omega, fun h1 => add ?_, fun h1 => ⟨hG1.2.1, n45, fun h2 => ⟨by omega, skip ?_⟩, fun h2 => add ?_⟩⟩
      · unfold onP; rw [decide_eq_true (inj.mp h1)]; rfl
      · unfold onP; rw [decide_eq_false (fun q => h1 (inj.mpr q)), decide_eq_false (fun q => h2 (e45.mpr q))]; rfl
      · unfold onP; rw [decide_eq_true (e45.mp (Decidable.not_not.mp h2)), Bool.or_true])
  have K : ∀ o : Int, o ≤ S 41 26 → ∀ M1, 0 ≤ o → CInv S w M1 → Fo (FWK S M) M M1 → M1 14 2 = ((askN S pg o.toNat).take 9).length → AL M1 15 (fs1 ((askN S pg o.toNat).take 9)) → AL M1 16 (sn1 ((askN S pg o.toNat).take 9)) → A_X9_gatherAsked_10 G X (PGA S pg w M) (M 3 pg) o w M1 := up_ind _ (fun o ho ih M1 o0 hC1 hF hn hL1 hL2 => by
    have e3 : M1 3 pg = M 3 pg := fwk_low hC hF (by omega) (by omega)
    have hG1 := hC1.pg pg hp
    unfold CPage at hG1
    rw [e3] at hG1
    refine B_X9_gatherAsked_10 C ?_
    rw [hC1.top.2.2, hG1.2.2.2.2.2.1]
    refine ⟨fun h => ?_, fun h => ⟨o0, by omega, hG1.2.1, _, cc_gatherList hI hV hC1 ⟨o0, by omega⟩, ?_⟩⟩
    · rw [show o.toNat = (S 41 26).toNat by omega] at hn hL1 hL2
      exact ⟨rfl, hC1, hF, hn, hL1, hL2⟩
    · rintro z4 _ M4 ⟨rfl, k1, k2, k3, k4, k5⟩
      have hoo : ((o.toNat : Nat) : Int) = o := by omega
      have := Kin o.toNat (by omega) (fun M5 g1 g2 g3 g4 g5 => by
        have h6 := ih (o + 1) (by omega) (by omega) M5 (by omega) g1 g2
        rw [show (o + 1).toNat = o.toNat + 1 by omega] at h6
        rw [hoo]
        exact h6 g3 g4 g5) 0 (by omega) M4 (by omega) k1 (FWK.tr hC hF k2)
      rw [hoo] at this
      refine this k3 k4 ?_ ?_ ?_
      · rw [(k5 2).1, hn]; simp [segL]
      · simp only [segL, show (0 : Int).toNat = 0 from rfl, List.take_zero, List.filter_nil, List.map_nil, List.append_nil]
        exact al_fr hL1 (fun t => (k5 t).2.1)
      · simp only [segL, show (0 : Int).toNat = 0 from rfl, List.take_zero, List.filter_nil, List.map_nil, List.append_nil]
        exact al_fr hL2 (fun t => (k5 t).2.2))
  refine B_X9_gatherAsked_0 C ?_
  obtain ⟨c2, f2⟩ := w14 M hC (up M 14 2 0) (fo_up (Fo.rfl' _ _) _ (Or.inr (Or.inr ⟨rfl, rfl⟩)))
  exact K 0 (by omega) _ (by omega) c2 f2 (by rw [up_eq]; simp [askN]) (by simp [askN, fs1, AL]) (by simp [askN, sn1, AL])
theorem cc_asked {G : GP} {l : Launch} {w : NS} {S M : MM} {a b : Int} (hI : SInv S) (hV : RInv S) (hC : CInv S w M) : CT_X9_asked G l [(2, 1), (0, a), (0, b)] w M (PC M (op_asked S a b)) := by
  refine E_X9_asked (fun _ _ X hX C => ?_)
  refine B_X9_asked_0 C ?_
  have hpg := hI.pg
  have hpc := hI.pc
  have hoc := hI.oc
  rw [hC.top.1]
  refine ⟨by omega, by omega, fun h => ?_, fun h => ?_⟩
  · have h1 : isPg S a := Decidable.not_not.mp (fun q => h ((pgO_ne hC).mpr q))
    rw [pgO_in hC h1]
    refine ⟨_, cc_gatherAsked hI hV hC h1, ?_⟩
    rintro z4 _ M4 ⟨rfl, k1, k2, k3, k4, k5⟩
    have hl := askS_len (S := S) (pg := a)
    rw [k3]
    have op : ∀ z, (if b = -1 then ((askS S a).length : Int) else if 0 ≤ b ∧ b < (askS S a).length then 100 * (fs1 (askS S a)).getD b.toNat 0 + (sn1 (askS S a)).getD b.toNat 0 else -6) = z → PC M (op_asked S a b) z w M4 := fun z hz => pc_u (S1 := S) (by unfold op_asked; rw [if_pos h1, hz]) k1 (FWK.frc hC k2)
    refine ⟨fun h3 => ⟨by omega, fun h4 => op _ ?_, fun h4 => ?_⟩, fun h3 => op _ ?_⟩
    · rw [if_neg h3, if_neg (by omega)]
    · have g1 := fs1_mem (pg := a) hI (j := b.toNat) (by omega)
      have g2 := sn1_mem (pg := a) hI (j := b.toNat) (by omega)
      unfold isOr at g1
      unfold isPc at g2
      rw [al_at k4 h4.1 (by rw [fs1_len]; omega), al_at k5 h4.1 (by rw [sn1_len]; omega)]
      refine ⟨by omega, by omega, by omega, by omega, op _ ?_⟩
      rw [if_neg h3, if_pos (by omega)]
    · rw [if_pos (Decidable.not_not.mp h3)]
  · exact pc_s hC (by unfold op_asked; rw [if_neg ((pgO_ne hC).mp (Decidable.not_not.mp h))])
