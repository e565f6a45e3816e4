/-! THE CLASS: isSo, asksFor, wants -/
theorem b2i_tb {x e : Int} (h0 : 0 ≤ x) (h1 : x < 2 ^ 31) (g0 : 0 ≤ e) (g1 : e < 32) : b2i (zand (zshr x e) 1 = 1) = bi (tb x e) := by
  unfold b2i
  simp only [z_hb h0 h1 g0 g1]
  cases tb x e <;> rfl
theorem dgt_in {S : MM} {o i : Int} (h0 : 0 ≤ i) (h1 : i < S 57 o) : sgn S o i = S 56 (40 * o + i) := by unfold sgn; rw [if_pos ⟨h0, h1⟩]
theorem dgt_iff {S : MM} {o i : Int} : 0 ≤ dgt S o i ↔ (48 ≤ sgn S o i ∧ sgn S o i ≤ 57) := by unfold dgt; split <;> omega
theorem stt_eq {S : MM} {o s d i : Int} (hs : 0 ≤ s ∧ s ≤ 8) (hp : PV S o s i) (h0 : 0 ≤ i) (h1 : i < S 57 o) (hv : stp s (S 56 (40 * o + i)) d ≠ -1) : sttS S o i = decide (s = 0 ∧ 48 ≤ S 56 (40 * o + i) ∧ S 56 (40 * o + i) ≤ 57) := by
  unfold sttS
  have e0 := dgt_iff (S := S) (o := o) (i := i)
  rw [dgt_in h0 h1] at e0
  by_cases hd : 48 ≤ S 56 (40 * o + i) ∧ S 56 (40 * o + i) ≤ 57
  · have hdg := e0.mpr hd
    have hc := stp_dig hs hd hv
    have e1 := dgt_iff (S := S) (o := o) (i := i - 1)
    obtain ⟨p1, p2, p3, p4, p5⟩ := hp
    have en : 0 < i → sgn S o (i - 1) = S 56 (40 * o + (i - 1)) := fun h => dgt_in (by omega) (by omega)
    have ez : i = 0 → sgn S o (i - 1) = 0 := fun h => by unfold sgn; rw [if_neg (by omega)]
    by_cases h00 : s = 0
    · have : ¬ (0 ≤ dgt S o (i - 1)) ∧ sgn S o (i - 1) ≠ 126 ∧ sgn S o (i - 1) ≠ 58 ∧ sgn S o (i - 1) ≠ 62 := by
        rw [e1]
        by_cases hi : i = 0
        · rw [ez hi]; omega
        · rw [en (by omega)]; have := p1 h00; omega
      rw [decide_eq_true hdg, decide_eq_false this.1, decide_eq_false this.2.1, decide_eq_false this.2.2.1, decide_eq_false this.2.2.2, decide_eq_true ⟨h00, hd⟩]; rfl
    · rw [decide_eq_false (fun q : s = 0 ∧ _ => h00 q.1)]
      have : 0 ≤ dgt S o (i - 1) ∨ sgn S o (i - 1) = 126 ∨ sgn S o (i - 1) = 58 ∨ sgn S o (i - 1) = 62 := by
        rw [e1]
        rcases (show s = 1 ∨ s = 6 ∨ s = 3 ∨ s = 5 ∨ s = 7 by omega) with e | e | e | e | e
        · have := p2 (Or.inl e); rw [en this.1]; omega
        · have := p2 (Or.inr e); rw [en this.1]; omega
        · have := p3 e; rw [en this.1]; omega
        · have := p4 e; rw [en this.1]; omega
        · have := p5 e; rw [en this.1]; omega
      have h9 : (decide (0 ≤ dgt S o (i - 1)) || decide (sgn S o (i - 1) = 126) || decide (sgn S o (i - 1) = 58) || decide (sgn S o (i - 1) = 62)) = true := by
        rcases this with q | q | q | q <;> simp [q]
      rw [h9]; simp
  · rw [decide_eq_false (fun q : 0 ≤ dgt S o i => hd (e0.mp q)), decide_eq_false (fun q : s = 0 ∧ 48 ≤ S 56 (40 * o + i) ∧ S 56 (40 * o + i) ≤ 57 => hd q.2)]; rfl
def BI (R : RS) (d a b c : Int) : Prop := ((0 ≤ a ∧ a < 2 ^ 9) ∧ (0 ≤ b ∧ b < 2 ^ 9) ∧ (0 ≤ c ∧ c < 2 ^ 9)) ∧ (∀ e, 0 ≤ e → e ≤ d → tb a e = R.1 e ∧ tb b e = R.2.1 e ∧ tb c e = R.2.2 e) ∧ ∀ e, d < e → tb c e = false
theorem BI.opn {R : RS} {d a b c : Int} (h : BI R d a b c) (h0 : 0 ≤ d) (h1 : d < 8) (s : Int) (it : Bool) : BI (stR s 40 d it R) (d + 1) (zand a (zxor (zshl 1 (d + 1)) (-1))) (zor b (zshl 1 (d + 1))) c := by
  obtain ⟨⟨ha, hb, hc⟩, hv, ht⟩ := h
  obtain ⟨q1, q2⟩ := z_clr (x := a) (p := d + 1) (k := 9) ha.1 ha.2 (by omega) (by omega) (by omega)
  obtain ⟨r1, r2⟩ := z_set (x := b) (p := d + 1) (k := 9) hb.1 hb.2 (by omega) (by omega) (by omega) (by omega)
  refine ⟨⟨q1, r1, hc⟩, fun e e0 e1 => ?_, fun e he => ht e (by omega)⟩
  rw [q2 e e0, r2 e e0]
  unfold stR ub
  rw [if_pos rfl]
  by_cases c1 : e = d + 1
  · rw [c1]; simp; exact ht _ (by omega)
  · have := hv e e0 (by omega)
    simp [c1, this]
theorem BI.bang {R : RS} {d a b c : Int} (h : BI R d a b c) (h0 : 0 ≤ d) (h1 : d ≤ 8) (s : Int) (it : Bool) : BI (stR s 33 d it R) d a b (zxor c (zshl 1 d)) := by
  obtain ⟨⟨ha, hb, hc⟩, hv, ht⟩ := h
  obtain ⟨q1, q2⟩ := z_flp (x := c) (p := d) (k := 9) hc.1 hc.2 (by omega) h0 (by omega) (by omega)
  refine ⟨⟨ha, hb, q1⟩, fun e e0 e1 => ?_, fun e he => ?_⟩
  · rw [q2 e e0]
    unfold stR ub
    have := hv e e0 e1
    by_cases c1 : e = d
    · subst c1; simp [this]
    · simp [c1, this]
  · rw [q2 e (by omega), ht e he]; simp; omega
theorem BI.bar {R : RS} {d a b c : Int} (h : BI R d a b c) (h0 : 0 ≤ d) (h1 : d ≤ 8) (s : Int) (it : Bool) : BI (stR s 124 d it R) d (zor a (zand b (zshl 1 d))) (zor b (zshl 1 d)) c := by
  obtain ⟨⟨ha, hb, hc⟩, hv, ht⟩ := h
  obtain ⟨o1, o2⟩ := z_one (p := d) (k := 9) h0 (by omega) (by omega) (by omega)
  obtain ⟨q1, q2⟩ := z_and2 (x := b) (y := zshl 1 d) (k := 9) hb.1 hb.2 o1.1 (by omega)
  obtain ⟨r1, r2⟩ := z_or2 (x := a) (y := zand b (zshl 1 d)) (k := 9) ha.1 ha.2 q1.1 q1.2 (by omega)
  obtain ⟨t1, t2⟩ := z_set (x := b) (p := d) (k := 9) hb.1 hb.2 (by omega) h0 (by omega) (by omega)
  refine ⟨⟨r1, t1, hc⟩, fun e e0 e1 => ?_, fun e he => ht e he⟩
  rw [r2 e e0, q2 e e0, o2 e e0, t2 e e0]
  unfold stR ub
  have := hv e e0 e1
  by_cases c1 : e = d
  · subst c1; simp [this]
  · simp [c1, this]
theorem BI.join {R : RS} {d e a b c b' : Int} {v : Bool} (h : BI R d a b c) (h0 : 0 ≤ e) (h1 : d ≤ 8) (he : e ≤ d) (hd : ∀ x, e < x → tb c x = false) (hb' : (v = tb c e ∧ b' = zand b (zxor (zshl 1 e) (-1))) ∨ (v ≠ tb c e ∧ b' = b)) : BI (joR R e v) e a b' (zand c (zxor (zshl 1 e) (-1))) := by
  obtain ⟨⟨ha, hb, hc⟩, hv, ht⟩ := h
  obtain ⟨q1, q2⟩ := z_clr (x := c) (p := e) (k := 9) hc.1 hc.2 (by omega) h0 (by omega)
  obtain ⟨r1, r2⟩ := z_clr (x := b) (p := e) (k := 9) hb.1 hb.2 (by omega) h0 (by omega)
  have bb : (0 ≤ b' ∧ b' < 2 ^ 9) ∧ ∀ x, 0 ≤ x → x ≤ e → tb b' x = ub R.2.1 e (R.2.1 e && (v != R.2.2 e)) x := by
    have hve := hv e h0 he
    rcases hb' with ⟨g1, g2⟩ | ⟨g1, g2⟩
    · rw [g2]
      refine ⟨r1, fun x x0 x1 => ?_⟩
      rw [r2 x x0]
      unfold ub
      by_cases c1 : x = e
      · rw [if_pos c1, g1, hve.2.2]; simp [c1]
      · rw [if_neg c1, (hv x x0 (by omega)).2.1]; simp [c1]
    · rw [g2]
      refine ⟨hb, fun x x0 x1 => ?_⟩
      unfold ub
      by_cases c1 : x = e
      · rw [if_pos c1, c1, hve.2.1, ← hve.2.2]
        have : (v != tb c e) = true := by simpa using g1
        rw [this, Bool.and_true]
      · rw [if_neg c1, (hv x x0 (by omega)).2.1]
  refine ⟨⟨ha, bb.1, q1⟩, fun x x0 x1 => ⟨(hv x x0 (by omega)).1, bb.2 x x0 x1, ?_⟩, fun x hx => ?_⟩
  · rw [q2 x x0]
    show _ = ub R.2.2 e false x
    unfold ub
    by_cases c1 : x = e
    · rw [if_pos c1]; simp [c1]
    · rw [if_neg c1, (hv x x0 (by omega)).2.2]; simp [c1]
  · rw [q2 x (by omega), hd x hx]; rfl
theorem stp_nz {s c d : Int} (hs : 0 ≤ s ∧ s ≤ 8) (h : stp s c d ≠ -1) (hn : stp s c d ≠ 0) (h0 : s = 0) : 48 ≤ c ∧ c ≤ 57 := by
  subst h0
  unfold stp at h hn
  simp at h hn
  grind
theorem cc_isSo {G : GP} {l : Launch} {w : NS} {S M : MM} {r o k : Int} (hI : SInv S) (hR : CRule S w M r o) (hP : CPiece S w M k) (hV : fltS S o = -6) : CT_X8_isSo G l [(2, r), (2, M 4 k)] w M (PE (bi (ruleS S o k)) w M) := by
  refine E_X8_isSo (fun X hX C => ?_)
  obtain ⟨r1, r2, r3, r4, r5⟩ := id hR
  have hm := hI.sm o
  have L : ∀ i, i ≤ S 57 o → ∀ (s d a b c : Int) (R : RS), 0 ≤ i → (0 ≤ s ∧ s ≤ 8) → (0 ≤ d ∧ d ≤ 8) → VAL S o s d i → PV S o s i → BI R d a b c → (s ≠ 0 → tb c d = false) → ruleS S o k = evF S o k (S 57 o - i).toNat s d i R → A_X8_isSo_13 G X (PE (bi (ruleS S o k)) w M) r (M 4 k) a b c d i w M := up_ind _ (fun i hi ih s d a b c R i0 hs hd hv hp hB hT hev => by
    refine B_X8_isSo_13 C ?_
    rw [r4]
    obtain ⟨⟨ba, bb, bc⟩, bv, bt⟩ := id hB
    refine ⟨r2, fun h => ⟨?_, rfl, rfl⟩, fun h => ⟨i0, by omega, ?_⟩⟩
    · rw [hev, evF_e h]
      obtain ⟨o1, o2⟩ := z_or2 (x := a) (y := b) (k := 9) ba.1 ba.2 bb.1 bb.2 (by omega)
      rw [b2i_tb o1.1 (by omega) (by omega) (by omega), o2 0 (by omega), (bv 0 (by omega) hd.1).1, (bv 0 (by omega) hd.1).2.1]
    · rw [r5 i i0 (by omega)]
      obtain ⟨v1, v2⟩ := hv.step i0 (by omega)
      obtain ⟨d1, d2, d3⟩ := stp_d v1 hd.1 hd.2
      have hrg := stp_rng s (S 56 (40 * o + i)) d
      have hpn := PV.step hs i0 v1
      have hnz := stp_nz hs v1
      rw [evF_s (by omega)] at hev
      have ih2 := fun (a b c : Int) (R : RS) => ih (i + 1) (by omega) (by omega) _ _ a b c R (by omega) (⟨by omega, hrg.2⟩ : 0 ≤ stp s (S 56 (40 * o + i)) d ∧ stp s (S 56 (40 * o + i)) d ≤ 8) d1 v2 hpn
      have hst := stt_eq hs hp i0 (show i < S 57 o by omega) v1
      generalize hc : S 56 (40 * o + i) = cc at *
      refine ⟨fun c40 => ⟨fun c33 => ⟨fun c124 => ⟨fun c41 => ⟨fun q => absurd c41 q, fun _ => ⟨fun q => absurd c41 q, fun _ => ⟨by omega, ?_⟩⟩⟩, fun c41 => ⟨_, cc_startsItem hI hR (by omega), ?_⟩⟩, fun c124 => ⟨by omega, ?_⟩⟩, fun c33 => ⟨by omega, ?_⟩⟩, fun c40 => ⟨by omega, by omega, ?_⟩⟩
      · -- a bracket ends
        have hd0 := d3 c41
        obtain ⟨o1, o2⟩ := z_or2 (x := a) (y := b) (k := 9) ba.1 ba.2 bb.1 bb.2 (by omega)
        rw [b2i_tb o1.1 (by omega) (by omega) (by omega), o2 d hd.1, (bv d hd.1 (by omega)).1, (bv d hd.1 (by omega)).2.1, b2i_tb bc.1 (by omega) (by omega) (by omega)]
        have hs0 : s ≠ 0 := fun q => by rw [q, c41] at v1; exact v1 (by unfold stp; simp)
        have hoff : ∀ x, d - 1 < x → tb c x = false := fun x hx => by
          by_cases e : x = d
          · rw [e]; exact hT hs0
          · exact bt x (by omega)
        have edp : dpt cc d = d - 1 := by unfold dpt; rw [c41]; simp; omega
        have est : stR s cc d (itS S o k i) R = joR R (d - 1) (R.1 d || R.2.1 d) := by unfold stR; rw [if_neg c40, if_neg c33, if_neg c124, if_pos c41]
        rw [est, edp] at hev
        rw [edp] at ih2
        have fin : ∀ b', ((R.1 d || R.2.1 d) = tb c (d - 1) ∧ b' = zand b (zxor (zshl 1 (d - 1)) (-1))) ∨ ((R.1 d || R.2.1 d) ≠ tb c (d - 1) ∧ b' = b) → A_X8_isSo_13 G X (PE (bi (ruleS S o k)) w M) r (M 4 k) a b' (zand c (zxor (zshl 1 (d - 1)) (-1))) (d - 1) (i + 1) w M := fun b' hb' => by
          have hj := hB.join (e := d - 1) (by omega) hd.2 (by omega) hoff hb'
          refine ih2 _ _ _ _ hj (fun _ => ?_) hev
          have := (hj.2.1 (d - 1) (by omega) (by omega)).2.2
          rw [this]; unfold joR ub; simp
        refine ⟨fun q => ⟨by omega, fin _ (Or.inr ⟨fun e => q (by rw [e]), rfl⟩)⟩, fun q => ⟨by omega, fin _ (Or.inl ⟨?_, rfl⟩)⟩⟩
        have q2 := Decidable.not_not.mp q
        revert q2
        cases (R.1 d || R.2.1 d) <;> cases tb c (d - 1) <;> simp [bi]
      · -- an item, or what stands in one
        rintro _ _ _ ⟨rfl, rfl, rfl⟩
        rw [hst]
        have edp : dpt cc d = d := by unfold dpt; rw [if_neg c40, if_neg c41]; omega
        rw [edp] at hev ih2
        by_cases hit : s = 0 ∧ 48 ≤ cc ∧ cc ≤ 57
        · rw [decide_eq_true hit]
          have est : stR s cc d (itS S o k i) R = joR R d (itS S o k i) := by unfold stR; rw [if_neg c40, if_neg c33, if_neg c124, if_neg c41, if_pos hit]
          rw [est] at hev
          refine ⟨fun q => absurd q (by decide), fun _ => ⟨fun _ => ⟨r2, _, cc_itemIsSo hI hR hP (by omega), ?_⟩, fun q => absurd c41 q⟩⟩
          rintro _ _ _ ⟨rfl, rfl, rfl⟩
          rw [show d - 0 = d by omega, b2i_tb bc.1 (by omega) hd.1 (by omega)]
          have fin : ∀ b', (itS S o k i = tb c d ∧ b' = zand b (zxor (zshl 1 d) (-1))) ∨ (itS S o k i ≠ tb c d ∧ b' = b) → A_X8_isSo_13 G X (PE (bi (ruleS S o k)) w M) r (M 4 k) a b' (zand c (zxor (zshl 1 d) (-1))) d (i + 1) w M := fun b' hb' => by
            have hj := hB.join (e := d) hd.1 hd.2 (by omega) bt hb'
            refine ih2 _ _ _ _ hj (fun _ => ?_) hev
            have := (hj.2.1 d hd.1 (by omega)).2.2
            rw [this]; unfold joR ub; simp
          refine ⟨fun _ => ⟨by omega, fun q => ⟨by omega, fin _ (Or.inr ⟨fun e => q (by rw [e]), rfl⟩)⟩, fun q => ⟨by omega, fin _ (Or.inl ⟨?_, rfl⟩)⟩⟩, fun q => absurd c41 q⟩
          have q2 := Decidable.not_not.mp q
          revert q2
          cases itS S o k i <;> cases tb c d <;> simp [bi]
        · rw [decide_eq_false hit]
          have est : stR s cc d (itS S o k i) R = R := by unfold stR; rw [if_neg c40, if_neg c33, if_neg c124, if_neg c41, if_neg hit]
          rw [est] at hev
          refine ⟨fun _ => ⟨by omega, ih2 _ _ _ _ hB (fun hn => ?_) hev⟩, fun q => absurd rfl q⟩
          by_cases e : s = 0
          · exact absurd ⟨e, hnz hn e⟩ hit
          · exact hT e
      · -- one more both
        have c124' := Decidable.not_not.mp c124
        have edp : dpt cc d = d := by unfold dpt; rw [if_neg c40, if_neg (by omega)]; omega
        rw [edp] at hev ih2
        rw [c124'] at hev
        refine ih2 _ _ _ _ (hB.bar hd.1 hd.2 s (itS S o k i)) (fun hn => ?_) (by rw [c124']; exact hev)
        by_cases e : s = 0
        · have := hnz hn e; omega
        · exact hT e
      · -- turned
        have c33' := Decidable.not_not.mp c33
        have edp : dpt cc d = d := by unfold dpt; rw [if_neg c40, if_neg (by omega)]; omega
        rw [edp] at hev ih2
        rw [c33'] at hev
        refine ih2 _ _ _ _ (hB.bang hd.1 hd.2 s (itS S o k i)) (fun hn => ?_) (by rw [c33']; exact hev)
        by_cases e : s = 0
        · have := hnz hn e; omega
        · exfalso
          rw [c33'] at v1
          apply v1
          rcases (show s = 1 ∨ s = 2 ∨ s = 3 ∨ s = 4 ∨ s = 5 ∨ s = 6 ∨ s = 7 ∨ s = 8 by omega) with e | e | e | e | e | e | e | e <;> (rw [e]; unfold stp stW stI; simp)
      · -- a bracket
        have c40' := Decidable.not_not.mp c40
        have hd8 := (d2 c40').2
        have edp : dpt cc d = d + 1 := by unfold dpt; rw [if_pos c40']
        rw [edp] at hev ih2
        rw [c40'] at hev
        refine ih2 _ _ _ _ (hB.opn hd.1 hd8 s (itS S o k i)) (fun hn => ?_) (by rw [c40']; exact hev)
        exact bt _ (by omega))
  refine B_X8_isSo_0 C (L 0 (by omega) 0 0 0 1 0 RS0 (by omega) (by omega) (by omega) ?_ ?_ ?_ (fun q => absurd rfl q) ?_)
  · unfold VAL; rw [Int.sub_zero]; exact hV
  · unfold PV; exact ⟨fun _ => Or.inl rfl, fun q => by omega, fun q => by omega, fun q => by omega, fun q => by omega⟩
  · refine ⟨⟨by omega, by omega, by omega⟩, fun e e0 e1 => ?_, fun e _ => tb_0 e⟩
    rw [show e = 0 by omega]
    exact ⟨by decide, by decide, by decide⟩
  · rw [Int.sub_zero]; rfl
def wantsS (S : MM) (o k : Int) : Bool := tb (S 59 o) (S 43 (S 46 k)) && decide (S 60 o ≤ S 44 (S 46 k) ∧ S 44 (S 46 k) ≤ S 61 o) && ruleS S o k
/-- every rule of an order is without fault -/
def RInv (S : MM) : Prop := ∀ o, isOr S o → fltS S o = -6
theorem cc_asksFor {G : GP} {l : Launch} {w : NS} {S M : MM} {o k : Int} (hI : SInv S) (hV : RInv S) (hO : COrder S w M o) (ho : isOr S o) (hP : CPiece S w M k) (hG : CPage S w M (S 46 k)) : CT_X3_asksFor G l [(2, M 6 o), (2, M 4 k)] w M (PE (bi (wantsS S o k)) w M) := by
  refine E_X3_asksFor (fun X hX C => ?_)
  refine B_X3_asksFor_0 C ?_
  obtain ⟨o1, o2, ⟨o3, o4, o5, o6, o7, o8⟩, o9, o10⟩ := hO
  have hpa := hI.pa o
  have hpp := hI.pp (S 46 k)
  have hb := z_hb (x := S 59 o) (i := S 43 (S 46 k)) hpa.1 (by omega) hpp.1 (by omega)
  rw [hP.2.2.2.2.1, hG.2.2.2.2.2.1, hG.2.2.2.2.1, o5, o6, o4, hb]
  have pe : ∀ z, bi (wantsS S o k) = z → PE (bi (wantsS S o k)) w M z w M := fun z hz => ⟨hz, rfl, rfl⟩
  refine ⟨hP.2.1, hG.2.1, o2, fun h1 => pe _ ?_, fun h1 => ⟨fun h2 => pe _ ?_, fun h2 => ⟨fun h3 => pe _ ?_, fun h3 => ⟨o9.2.1, _, cc_isSo hI o9 hP (hV o ho), ?_⟩⟩⟩⟩
  · unfold wantsS; rw [decide_eq_false (by omega), Bool.and_false]; rfl
  · unfold wantsS; rw [decide_eq_false (by omega), Bool.and_false]; rfl
  · unfold wantsS; rw [Bool.eq_false_iff.mpr h3]; rfl
  · rintro _ _ _ ⟨rfl, rfl, rfl⟩
    refine ⟨fun h4 => pe _ ?_, fun h4 => pe _ ?_⟩
    · unfold wantsS; rw [bi_0.mp h4, Bool.and_false]; rfl
    · have : ruleS S o k = true := by cases e : ruleS S o k; rw [e] at h4; exact absurd rfl h4; rfl
      unfold wantsS; rw [h3, this, decide_eq_true (by omega)]; rfl
def op_wants (S : MM) (o k x : Int) : Int × MM := (if isOr S o ∧ isPc S k then (if x = 0 then bi (wantsS S o k) else if x = 1 then bi (ruleS S o k) else -2) else -1, S)
theorem b2i_bi (b : Bool) : b2i (bi b ≠ 0) = bi b := by cases b <;> simp [b2i, bi]
theorem cc_wants {G : GP} {l : Launch} {w : NS} {S M : MM} {a b c : Int} (hI : SInv S) (hV : RInv S) (hC : CInv S w M) : CT_X9_wants G l [(2, 1), (0, a), (0, b), (0, c)] w M (PC M (op_wants S a b c)) := by
  refine E_X9_wants (fun _ _ _ X hX C => ?_)
  refine B_X9_wants_0 C ?_
  have hpc := hI.pc
  have hoc := hI.oc
  rw [hC.top.2.1, hC.top.2.2]
  refine ⟨by omega, by omega, by omega, by omega, fun h => ?_, fun h => ⟨fun h2 => ?_, fun h2 => ?_⟩⟩
  · exact pc_s hC (by unfold op_wants; rw [if_neg (fun q => (orO_ne hC).mp h q.1)])
  · have ha : isOr S a := Decidable.not_not.mp (fun q => h ((orO_ne hC).mpr q))
    have hb : isPc S b := Decidable.not_not.mp (fun q => h2 ((pcO_ne hC).mpr q))
    rw [orO_in hC ha, pcO_in hC hb]
    have hO := hC.od a ha
    have hP := hC.pc b hb
    refine ⟨fun h3 => pc_s hC ?_, fun h3 => ⟨hO.2.1, _, cc_asksFor hI hV hO ha hP (hC.pg _ (hI.po b hb)), ?_⟩, fun h3 => ⟨hO.2.1, hO.2.2.2.1.2.1, _, cc_isSo hI hO.2.2.2.1 hP (hV a ha), ?_⟩⟩
    · unfold op_wants; rw [if_pos ⟨ha, hb⟩, if_neg h3.1, if_neg h3.2]
    · rintro _ _ _ ⟨rfl, rfl, rfl⟩
      rw [b2i_bi]
      exact pc_s hC (by unfold op_wants; rw [if_pos ⟨ha, hb⟩, if_pos h3])
    · rintro _ _ _ ⟨rfl, rfl, rfl⟩
      rw [b2i_bi]
      exact pc_s hC (by unfold op_wants; rw [if_pos ⟨ha, hb⟩, if_neg (by omega), if_pos h3])
  · exact pc_s hC (by unfold op_wants; rw [if_neg (fun q => (pcO_ne hC).mp (Decidable.not_not.mp h2) q.2)])
