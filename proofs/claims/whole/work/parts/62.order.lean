/-! ORDER -/
def cpyS (S : MM) (n k : Int) : MM := fun x i => if x = 56 ∧ 40 * n ≤ i ∧ i < 40 * n + k then S 56 (400 + (i - 40 * n)) else S x i
def ordS (S : MM) (c p f u m o : Int) : MM :=
  up (up (up (up (up (up (up (up (up (cpyS S (S 41 26) (S 57 10)) 57 (S 41 26) (S 57 10)) 57 10 0) 58 (S 41 26) c) 59 (S 41 26) p) 60 (S 41 26) f) 61 (S 41 26) u) 62 (S 41 26) m) 63 (S 41 26) o) 41 26 (S 41 26 + 1)
def op_order (S : MM) (c p f u m o : Int) : Int × MM :=
  if (0 ≤ c ∧ c ≤ 5) ∧ (0 ≤ p ∧ p ≤ 1023) ∧ (0 ≤ f ∧ f ≤ u ∧ u ≤ 99) ∧ 0 ≤ m ∧ m ≤ 20 then
    if S 41 26 = 10 then (-4, S) else if 0 ≤ fltS S 10 then (-5, S) else (S 41 26, ordS S c p f u m o)
  else (-2, S)
theorem cpyS_0 (S : MM) (n : Int) : cpyS S n 0 = S := by
  funext x i; unfold cpyS; rw [if_neg (by omega)]
theorem cpyS_s {S : MM} {n k : Int} (hk : 0 ≤ k) : cpyS S n (k + 1) = up (cpyS S n k) 56 (40 * n + k) (S 56 (400 + k)) := by
  funext x i
  by_cases h : x = 56 ∧ i = 40 * n + k
  · rw [h.1, h.2, up_eq]; unfold cpyS
    rw [if_pos (by omega)]; congr 1; omega
  · have e : up (cpyS S n k) 56 (40 * n + k) (S 56 (400 + k)) x i = cpyS S n k x i := by
      by_cases h1 : x = 56
      · rw [h1, up_ni (fun q => h ⟨h1, q⟩)]
      · exact up_na h1
    rw [e]; unfold cpyS
    by_cases h2 : x = 56 ∧ 40 * n ≤ i ∧ i < 40 * n + k
    · rw [if_pos h2, if_pos (by omega)]
    · rw [if_neg h2, if_neg (by omega)]
theorem cm_order {G : GP} {l : Launch} {w : NS} {S M : MM} {c p f u m o : Int} (hI : SInv S) (hA : Ag S M) (hob : o = 0 ∨ o = 1) : CT_X10_order G l [(2, 41), (0, c), (0, p), (0, f), (0, u), (0, m), (0, o)] w M (PM w M (op_order S c p f u m o)) := by
  refine E_X10_order (fun _ _ _ _ _ _ X hX C => ?_)
  have hoc := hI.oc
  have hm := hI.sm 10
  have L : S 41 26 < 10 → op_order S c p f u m o = (S 41 26, ordS S c p f u m o) → ∀ i, i ≤ S 57 10 → ∀ M1, 0 ≤ i → Ag (cpyS S (S 41 26) i) M1 → FrM M M1 → DK M M1 → A_X10_order_86 G X (PM w M (op_order S c p f u m o)) c p f u m o i w M1 := fun h10 hop => up_ind (S 57 10) (fun i hi ih M1 h0 hA hF hK => by
    refine B_X10_order_86 C ?_
    have a26 : M1 41 26 = S 41 26 := (hA.2 26 rfl).trans (by unfold cpyS; rw [if_neg (by omega)])
    have a57 : M1 57 10 = S 57 10 := (hA.1 57 10 rfl).trans (by unfold cpyS; rw [if_neg (by omega)])
    have a56 : M1 56 (400 + i) = S 56 (400 + i) := (hA.1 56 _ rfl).trans (by unfold cpyS; rw [if_neg (by omega)])
    rw [a26, a57, a56]
    refine ⟨fun h => ⟨by omega, by omega, h10, hob, by omega, by omega, ?_⟩, fun h => ⟨by omega, by omega, by omega, by omega, by omega, by omega, by omega, by omega, ?_⟩⟩
    · rw [show S 41 26 + 1 - 1 = S 41 26 by omega]
      rw [show i = S 57 10 by omega] at hA
      refine pm_u hop (ag_up (ag_up (ag_up (ag_up (ag_up (ag_up (ag_up (ag_up (ag_up hA _ _ _) _ _ _) _ _ _) _ _ _) _ _ _) _ _ _) _ _ _) _ _ _) _ _ _) ?_
      exact frm_up (frm_up (frm_up (frm_up (frm_up (frm_up (frm_up (frm_up (frm_up hF _ (by decide)) _ (by decide)) _ (by decide)) _ (by decide)) _ (by decide)) _ (by decide)) _ (by decide)) _ (by decide)) _ (by decide)
    · refine ih (i + 1) (by omega) (by omega) _ (by omega) ?_ (frm_up hF _ (by decide)) (dk_up hK (by unfold DC; omega))
      rw [cpyS_s h0]; exact ag_up hA _ _ _)
  have n2 : ¬ ((0 ≤ c ∧ c ≤ 5) ∧ (0 ≤ p ∧ p ≤ 1023) ∧ (0 ≤ f ∧ f ≤ u ∧ u ≤ 99) ∧ 0 ≤ m ∧ m ≤ 20) → PM w M (op_order S c p f u m o) (-2) w M := fun h => pm_s hA (by unfold op_order; rw [if_neg h])
  refine B_X10_order_0 C ?_
  have a26 : M 41 26 = S 41 26 := hA.2 26 rfl
  rw [a26]
  refine ⟨fun h1 => n2 (by omega), fun h1 => ⟨fun h2 => n2 (by omega), fun h2 => ⟨fun h3 => n2 (by omega), fun h3 => ⟨fun h4 => n2 (by omega), fun h4 => ⟨fun h5 => n2 (by omega), fun h5 => ⟨fun h6 => ⟨fun h7 => ⟨_, cm_fault hI hA, ?_⟩, fun h7 => pm_s hA ?_⟩, fun h6 => n2 (by omega)⟩⟩⟩⟩⟩⟩
  · rintro z7 w7 M7 ⟨e1, hA7, e3, hF7, hK7⟩
    rw [e3]
    have ez : z7 = fltS S 10 := e1
    refine ⟨fun h8 => ?_, fun h8 => pm_u (S1 := S) ?_ hA7 hF7⟩
    · refine L (by omega) ?_ 0 (by omega) M7 (by omega) (by rw [cpyS_0]; exact hA7) hF7 hK7
      unfold op_order; rw [if_pos (by omega), if_neg h7, if_neg (by omega)]
    · unfold op_order; rw [if_pos (by omega), if_neg h7, if_pos (by omega)]
  · unfold op_order; rw [if_pos (by omega), if_pos (Decidable.not_not.mp h7)]
