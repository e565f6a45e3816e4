/-! THE ABSTRACT MACHINE. Addresses are whole numbers: 0 is null, a > 0 the cell G.1 + a, a < 0 one of the given static rows. M a i: what the cell a holds at i. w = (next address, kind and length of each cell). -/
abbrev LV : Type := Nat × Int
abbrev MM : Type := Int → Int → Int
abbrev SH : Type := Int → Nat × Nat
abbrev NS : Type := Nat × SH
abbrev inR (z : Int) : Prop := -2147483648 ≤ z ∧ z < 2147483648
abbrev inL (z : Int) : Prop := -9223372036854775808 ≤ z ∧ z < 9223372036854775808
def up (M : MM) (a i v : Int) : MM := fun a' i' => if a' = a ∧ i' = i then v else M a' i'
def us (S : SH) (a : Int) (t n : Nat) : SH := fun a' => if a' = a then (t, n) else S a'
abbrev GP : Type := Nat × va_G × (Nat → ClassId) × (Nat → Nat)
def rfv (G : GP) (z : Int) : Option Nat := if z = 0 then none else if 0 < z then some (G.1 + z.toNat) else some (G.2.2.2 (-z).toNat)
def cv (G : GP) (v : LV) : Value := if v.1 = 0 then .int (Int32.ofInt v.2) else if v.1 = 1 then .long (Int64.ofInt v.2) else va_rf (rfv G v.2)
def okV (v : LV) : Prop := if v.1 = 0 then inR v.2 else if v.1 = 1 then inL v.2 else True
def AA (G : GP) : Nat → Prop := fun q => G.1 < q
def b2i (c : Prop) [Decidable c] : Int := if c then 1 else 0
def zand (a b : Int) : Int := (Int32.ofInt a &&& Int32.ofInt b).toInt
def zor (a b : Int) : Int := (Int32.ofInt a ||| Int32.ofInt b).toInt
def zxor (a b : Int) : Int := (Int32.ofInt a ^^^ Int32.ofInt b).toInt
def zshl (a b : Int) : Int := (Int32.ofInt a <<< (Int32.ofInt b &&& 31)).toInt
def zshr (a b : Int) : Int := (Int32.ofInt a >>> (Int32.ofInt b &&& 31)).toInt
def zushr (a b : Int) : Int := ((Int32.ofInt a).toUInt32 >>> ((Int32.ofInt b).toUInt32 &&& Int32.toUInt32 31)).toInt32.toInt
def lcm3 (a b : Int) : Int := if a < b then -1 else if a = b then 0 else 1
theorem cv0 (G : GP) (z : Int) : cv G (0, z) = .int (Int32.ofInt z) := rfl
theorem cv1 (G : GP) (z : Int) : cv G (1, z) = .long (Int64.ofInt z) := rfl
theorem cv2 (G : GP) (z : Int) : cv G (2, z) = va_rf (rfv G z) := rfl
theorem ok0 {z : Int} : okV (0, z) ↔ inR z := Iff.rfl
theorem ok1 {z : Int} : okV (1, z) ↔ inL z := Iff.rfl
theorem ok2 {z : Int} : okV (2, z) := trivial
theorem ok_z (k : Nat) : okV (k, 0) := by unfold okV inR inL; split <;> (try split) <;> simp
theorem rfv0 (G : GP) : rfv G 0 = none := rfl
theorem rfv_pos (G : GP) {a : Int} (h : 0 < a) : rfv G a = some (G.1 + a.toNat) := by unfold rfv; rw [if_neg (by omega), if_pos h]
theorem rfv_ne (G : GP) {a : Int} (h : a ≠ 0) : ∃ q, rfv G a = some q := by
  unfold rfv; rw [if_neg h]; split
  · exact ⟨_, rfl⟩
  · exact ⟨_, rfl⟩
theorem rfv_inj (G : GP) {a b : Int} (ha : 0 ≤ a) (hb : 0 ≤ b) : rfv G a = rfv G b ↔ a = b := by
  constructor
  · intro h
    by_cases h1 : a = 0
    · subst h1
      by_cases h2 : b = 0
      · exact h2.symm
      · rw [rfv0, rfv_pos G (by omega)] at h; cases h
    · by_cases h2 : b = 0
      · subst h2; rw [rfv0, rfv_pos G (by omega)] at h; cases h
      · rw [rfv_pos G (by omega), rfv_pos G (by omega)] at h
        have := Option.some.inj h
        omega
  · intro h; rw [h]
theorem t3 {z : Int} (h : inR z) : (Int32.ofInt z).toInt = z := Int32.toInt_ofInt_of_le (by have := h.1; omega) (by have := h.2; omega)
theorem t6 {z : Int} (h : inL z) : (Int64.ofInt z).toInt = z := Int64.toInt_ofInt_of_le (by have := h.1; omega) (by have := h.2; omega)
theorem i3_lt {a b : Int} (ha : inR a) (hb : inR b) : Int32.ofInt a < Int32.ofInt b ↔ a < b := by rw [Int32.lt_iff_toInt_lt, t3 ha, t3 hb]
theorem i3_le {a b : Int} (ha : inR a) (hb : inR b) : Int32.ofInt a ≤ Int32.ofInt b ↔ a ≤ b := by rw [Int32.le_iff_toInt_le, t3 ha, t3 hb]
theorem i3_eq {a b : Int} (ha : inR a) (hb : inR b) : Int32.ofInt a = Int32.ofInt b ↔ a = b := by rw [← Int32.toInt_inj, t3 ha, t3 hb]
theorem inR0 : inR 0 := by unfold inR; omega
theorem inR1 : inR 1 := by unfold inR; omega
theorem i3_lt0 {a : Int} (ha : inR a) : Int32.ofInt a < 0 ↔ a < 0 := i3_lt ha inR0
theorem i3_le0 {a : Int} (ha : inR a) : Int32.ofInt a ≤ 0 ↔ a ≤ 0 := i3_le ha inR0
theorem i3_0lt {a : Int} (ha : inR a) : 0 < Int32.ofInt a ↔ 0 < a := i3_lt inR0 ha
theorem i3_0le {a : Int} (ha : inR a) : 0 ≤ Int32.ofInt a ↔ 0 ≤ a := i3_le inR0 ha
theorem i3_eq0 {a : Int} (ha : inR a) : Int32.ofInt a = 0 ↔ a = 0 := i3_eq ha inR0
theorem i3_rng (x : Int32) : inR x.toInt := ⟨by have := x.le_toInt; omega, by have := x.toInt_lt; omega⟩
theorem i3_clamp {i : Int} (h : inR i) : (Int32.ofInt i).toNatClampNeg = i.toNat := by rw [← Int32.toNat_toInt, t3 h]
theorem i3_in {i : Int} {n : Nat} (h : inR i) (h0 : 0 ≤ i) (h1 : i < (n : Int)) : vp_in (Int32.ofInt i) n := by
  unfold vp_in
  rw [i3_lt0 h, i3_clamp h]
  omega
theorem i3_bool {z : Int} (h : z = 0 ∨ z = 1) : narrow .boolean (.int (Int32.ofInt z)) = .int (Int32.ofInt z) := by rcases h with rfl | rfl <;> rfl
theorem i3_fitb {z : Int} (h : z = 0 ∨ z = 1) : fits .boolean (.int (Int32.ofInt z)) = true := by rcases h with rfl | rfl <;> rfl
theorem i6_lt {a b : Int} (ha : inL a) (hb : inL b) : Int64.ofInt a < Int64.ofInt b ↔ a < b := by rw [Int64.lt_iff_toInt_lt, t6 ha, t6 hb]
theorem i6_eq {a b : Int} (ha : inL a) (hb : inL b) : Int64.ofInt a = Int64.ofInt b ↔ a = b := by rw [← Int64.toInt_inj, t6 ha, t6 hb]
theorem inR_inL {z : Int} (h : inR z) : inL z := ⟨by have := h.1; omega, by have := h.2; omega⟩
theorem cat_cv (G : GP) (v : LV) : (cv G v).category = if v.1 = 1 then 2 else 1 := by
  obtain ⟨k, z⟩ := v
  unfold cv
  by_cases h0 : k = 0
  · subst h0; rfl
  · by_cases h1 : k = 1
    · subst h1; rfl
    · simp only [h0, h1, if_false]
      cases rfv G z <;> rfl
/-! the heap that an abstract state stands for -/
def fvs (G : GP) (ks : List Nat) (f : Int → Int) : List Value := (List.range ks.length).map (fun i => cv G (ks.getD i 0, f i))
def EE (G : GP) (t n : Nat) (f : Int → Int) : va_E :=
  if t < 12 then .inr (t - 1, fvs G (kls.getD (t - 1) []) f)
  else if t = 12 ∨ t = 14 then .inl (G.2.2.1 t, n, .inl (fun k => Int32.ofInt (f k)))
  else if t = 13 then .inl (G.2.2.1 t, n, .inr (.inl (fun k => Int64.ofInt (f k))))
  else .inl (G.2.2.1 t, n, .inr (.inr (.inr (.inr (fun k => rfv G (f k))))))
def tysG (G : GP) : List (ClassId × FieldType) := [(G.2.2.1 12, .int), (G.2.2.1 13, .long), (G.2.2.1 14, .boolean), (G.2.2.1 15, .object "CutBureau$Name"), (G.2.2.1 16, .object "CutBureau$Order"), (G.2.2.1 17, .object "CutBureau$Page"), (G.2.2.1 18, .object "CutBureau$Piece"), (G.2.2.1 19, .object "CutBureau$Reader")]
def ek (t : Nat) : Nat := if t = 13 then 1 else if t = 12 ∨ t = 14 then 0 else 2
def kdS (t : Nat) (i : Int) : Nat := if t < 12 then (kls.getD (t - 1) []).getD i.toNat 0 else ek t
def Rep (G : GP) (w : NS) (M : MM) (H : Heap) : Prop :=
  1 ≤ w.1 ∧ H.size = G.1 + w.1 ∧ (∀ a : Nat, 0 < (w.2 a).1 → va_at G.2.1 vwCl (G.1 + a, EE G (w.2 a).1 (w.2 a).2 (M a)) H) ∧ (∀ a : Int, 0 < (w.2 a).1 → 0 < a ∧ a < w.1) ∧ (∀ a : Int, (w.1 : Int) ≤ a → ∀ i, M a i = 0) ∧ (∀ a i, 0 < (w.2 a).1 → okV (kdS (w.2 a).1 i, M a i))
def LSf (j : Nat) : Int := [0, 0, 1, 0, 1, 0, 0, 0, 0].getD j 0
def GSf (j : Nat) : Int := [100, 20, 1000, 1000, 100, 1000, 1000, 1000, 1000].getD j 0
def PUf (j : Nat) : Int := [78125, 15625, 3125, 625, 125, 25, 5, 1].getD j 0
def Ext (G : GP) (U : State) (H : Heap) : Prop :=
  (va_Z "CutBureau" "LEAST_SETTING" "[I" (.ref (G.2.2.2 1)) (AA G) U H ∧ va_T .int (G.2.2.2 1) 9 (fun j => .int (Int32.ofInt (LSf j))) (AA G) U H) ∧
  (va_Z "CutBureau" "GREATEST_SETTING" "[I" (.ref (G.2.2.2 2)) (AA G) U H ∧ va_T .int (G.2.2.2 2) 9 (fun j => .int (Int32.ofInt (GSf j))) (AA G) U H) ∧
  (va_Z "CutBureau$Parting" "PAGE_UNITS" "[I" (.ref (G.2.2.2 3)) (AA G) U H ∧ va_T .int (G.2.2.2 3) 8 (fun j => .int (Int32.ofInt (PUf j))) (AA G) U H)
theorem Ext.kept {G : GP} {U : State} {H H1 : Heap} (h : Ext G U H) (hq : ∀ a : Nat, a < H.size → ¬ AA G a → H1[a]? = H[a]?) : Ext G U H1 :=
  ⟨⟨h.1.1.kept hq, h.1.2.kept hq⟩, ⟨h.2.1.1.kept hq, h.2.1.2.kept hq⟩, ⟨h.2.2.1.kept hq, h.2.2.2.kept hq⟩⟩
theorem Ext.moved {G : GP} {u U : State} {H : Heap} (hvm : u.vm.Alike U.vm) (h : Ext G u H) : Ext G U H :=
  ⟨⟨h.1.1.moved hvm, h.1.2.moved hvm⟩, ⟨h.2.1.1.moved hvm, h.2.1.2.moved hvm⟩, ⟨h.2.2.1.moved hvm, h.2.2.2.moved hvm⟩⟩
def gtbl : List Cond := lw_tbl.filter goodWord
theorem mG {c : Cond} (h : c ∈ lw_tbl) (hg : goodWord c = true) : c ∈ gtbl := List.mem_filter.mpr ⟨h, hg⟩
def isNst : Cond → Bool
  | .methodLinkNest .. => true
  | _ => false
def GN (U : State) : Prop := (∀ c ∈ lw_tbl, isNst c = true → va_Nw c U) ∧ ∀ C : String, Cond.arrayOver (.object C) ∈ lw_tbl → va_AO C U
theorem GN.warm {s U : State} (hW : s.WarmedH U.vm) (h : GN s) : GN U := by
  refine ⟨fun c hc hn => ?_, fun C hC => (h.2 C hC).moved hW.alike⟩
  have h1 := h.1 c hc hn
  cases c <;> first | exact va_Nw.warmM hW h1 | simp [isNst] at hn
theorem GN.same {u U : State} (h : u.vm = U.vm) (hg : GN u) : GN U := by
  refine ⟨fun c hc hn => ?_, fun C hC => (hg.2 C hC).moved (h ▸ Vm.Alike.refl u.vm)⟩
  have h1 := hg.1 c hc hn
  cases c <;> first | exact va_Nw.same rfl h h1 | simp [isNst] at hn
abbrev GK (G : GP) (U : State) : Prop := va_K G.2.1 vwCl (tysG G) U ∧ GN U
theorem Rep.at {G : GP} {w : NS} {M : MM} {H : Heap} (h : Rep G w M H) {a : Int} {t n : Nat} (hs : w.2 a = (t, n)) (ht : 0 < t) : 0 < a ∧ a < w.1 ∧ rfv G a = some (G.1 + a.toNat) ∧ va_at G.2.1 vwCl (G.1 + a.toNat, EE G t n (M a)) H ∧ AA G (G.1 + a.toNat) := by
  obtain ⟨-, -, h3, h4, -, -⟩ := h
  have ht' : 0 < (w.2 a).1 := by rw [hs]; exact ht
  obtain ⟨h5, h6⟩ := h4 a ht'
  obtain ⟨b, rfl⟩ : ∃ b : Nat, a = (b : Int) := ⟨a.toNat, by omega⟩
  have := h3 b ht'
  rw [hs] at this
  exact ⟨h5, h6, rfv_pos G h5, this, by unfold AA; omega⟩
theorem Rep.okk {G : GP} {w : NS} {M : MM} {H : Heap} (h : Rep G w M H) {a : Int} {t n : Nat} (hs : w.2 a = (t, n)) (ht : 0 < t) (i : Int) : okV (kdS t i, M a i) := by
  have := h.2.2.2.2.2 a i (by rw [hs]; exact ht)
  rwa [hs] at this
theorem fvs_len (G : GP) (ks : List Nat) (f : Int → Int) : (fvs G ks f).length = ks.length := by simp [fvs]
theorem fvs_get (G : GP) (ks : List Nat) (f : Int → Int) {k : Nat} (hk : k < ks.length) : (fvs G ks f)[k]? = some (cv G (ks.getD k 0, f k)) := by
  simp [fvs, hk]
/-- one cell written: the new heap stands for the new memory -/
theorem Rep.put {G : GP} {w : NS} {M : MM} {H H1 : Heap} (h : Rep G w M H) {a : Int} {t n : Nat} (hs : w.2 a = (t, n)) (ht : 0 < t) {i v : Int} (hv : okV (kdS t i, v))
    (hat : va_at G.2.1 vwCl (G.1 + a.toNat, EE G t n ((up M a i v) a)) H1) (hz : H1.size = H.size) (oq : ∀ q : Nat, q ≠ G.1 + a.toNat → H1[q]? = H[q]?) : Rep G w (up M a i v) H1 := by
  obtain ⟨h5, h6, -, -, -⟩ := h.at hs ht
  obtain ⟨h1, h2, h3, h4, h7, h8⟩ := h
  refine ⟨h1, hz.trans h2, fun b hb => ?_, h4, fun b hb j => ?_, fun b j hb => ?_⟩
  · by_cases e : (b : Int) = a
    · subst e
      rw [hs]
      exact hat
    · have hu : (up M a i v) (b : Int) = M b := by
        funext j; unfold up; rw [if_neg (fun q => e q.1)]
      rw [hu]
      exact (h3 b hb).kept (oq _ (by show G.1 + b ≠ _; omega))
  · unfold up
    rw [if_neg (fun q => by omega)]
    exact h7 b hb j
  · unfold up
    by_cases e : b = a ∧ j = i
    · rw [if_pos e, e.1, hs, e.2]; exact hv
    · rw [if_neg e]; exact h8 b j hb
/-- one cell made -/
theorem Rep.new {G : GP} {w : NS} {M : MM} {H H1 : Heap} (h : Rep G w M H) {t n : Nat} (hat : va_at G.2.1 vwCl (G.1 + w.1, EE G t n (fun _ => 0)) H1) (hz : H1.size = H.size + 1) (oq : ∀ q : Nat, q < H.size → H1[q]? = H[q]?) : Rep G (w.1 + 1, us w.2 w.1 t n) M H1 := by
  obtain ⟨h1, h2, h3, h4, h7, h8⟩ := h
  refine ⟨by show 1 ≤ w.1 + 1; omega, by show H1.size = G.1 + (w.1 + 1); omega, fun b hb => ?_, fun b hb => ?_, fun b hb j => ?_, fun b j hb => ?_⟩
  · show va_at G.2.1 vwCl (G.1 + b, EE G (us w.2 w.1 t n b).1 (us w.2 w.1 t n b).2 (M b)) H1
    have hb' : 0 < (us w.2 w.1 t n b).1 := hb
    by_cases e : (b : Int) = (w.1 : Int)
    · have e' : b = w.1 := by omega
      have hu : us w.2 w.1 t n b = (t, n) := by unfold us; rw [if_pos e]
      have hm : M (b : Int) = fun _ => 0 := by funext j; exact h7 _ (by omega) j
      rw [hu, hm, e']
      exact hat
    · have hu : us w.2 w.1 t n b = w.2 b := by unfold us; rw [if_neg e]
      rw [hu] at hb' ⊢
      have hlt := (h4 b hb').2
      refine (h3 b hb').kept (oq _ ?_)
      show G.1 + b < H.size
      omega
  · have hb' : 0 < (us w.2 w.1 t n b).1 := hb
    show 0 < b ∧ b < ((w.1 + 1 : Nat) : Int)
    unfold us at hb'
    by_cases e : b = (w.1 : Int)
    · omega
    · rw [if_neg e] at hb'
      have := h4 b hb'
      omega
  · have hb' : ((w.1 + 1 : Nat) : Int) ≤ b := hb
    exact h7 b (by omega) j
  · have hb' : 0 < (us w.2 w.1 t n b).1 := hb
    show okV (kdS (us w.2 w.1 t n b).1 j, M b j)
    unfold us at hb' ⊢
    by_cases e : b = (w.1 : Int)
    · rw [if_pos e, h7 b (by omega) j]
      exact ok_z _
    · rw [if_neg e] at hb' ⊢
      exact h8 b j hb'
/-! what stays after the makers have run: the fixed cells' kinds and the final references -/
def shF (a : Int) : Nat × Nat := shL.getD a.toNat (0, 0)
def FixA (w : NS) (M : MM) : Prop :=
  (∀ a : Int, 1 ≤ a → a ≤ nFix → w.2 a = shF a) ∧ (∀ e ∈ fixL, M e.1 e.2.1 = e.2.2) ∧ (∀ e ∈ fixD, ∀ a, w.2 a = (e.1, e.2.1) → M a e.2.2.1 = a + 1 ∧ w.2 (a + 1) = (12, e.2.2.2)) ∧ nFix < w.1
def fixOk (t : Nat) (i : Int) : Bool := fixL.all (fun e => !((shF e.1).1 == t && e.2.1 == i)) && fixD.all (fun e => !(e.1 == t && (e.2.2.1 : Int) == i))
def fixOkT (t : Nat) : Bool := fixL.all (fun e => !((shF e.1).1 == t)) && fixD.all (fun e => !(e.1 == t))
theorem fixL_in : ∀ e ∈ fixL, 1 ≤ e.1 ∧ e.1 ≤ nFix := by decide +kernel
theorem FixA.st {w : NS} {M : MM} (h : FixA w M) {a i : Int} {t n : Nat} (hs : w.2 a = (t, n)) (hd : fixOk t i = true) (v : Int) : FixA w (up M a i v) := by
  obtain ⟨h1, h2, h3, h4⟩ := h
  simp only [fixOk, Bool.and_eq_true, List.all_eq_true] at hd
  refine ⟨h1, fun e he => ?_, fun e he b hb => ⟨?_, (h3 e he b hb).2⟩, h4⟩
  · show (if _ ∧ _ then _ else _) = _
    rw [if_neg]
    · exact h2 e he
    · intro q
      have g := hd.1 e he
      have hr := fixL_in e he
      rw [← h1 e.1 hr.1 hr.2, q.1, hs, q.2] at g
      simp at g
  · show (if _ ∧ _ then _ else _) = _
    rw [if_neg]
    · exact (h3 e he b hb).1
    · intro q
      have g := hd.2 e he
      rw [q.1, hs] at hb
      have e1 : t = e.1 := congrArg Prod.fst hb
      rw [← q.2, e1] at g
      simp at g
theorem FixA.stT {w : NS} {M : MM} (h : FixA w M) {a i : Int} {t n : Nat} (hs : w.2 a = (t, n)) (hd : fixOkT t = true) (v : Int) : FixA w (up M a i v) := by
  refine h.st hs ?_ v
  simp only [fixOkT, fixOk, Bool.and_eq_true, List.all_eq_true, Bool.not_eq_true', Bool.and_eq_false_iff, beq_eq_false_iff_ne] at hd ⊢
  exact ⟨fun e he => Or.inl (hd.1 e he), fun e he => Or.inl (hd.2 e he)⟩
theorem FixA.sh {w : NS} {M : MM} (h : FixA w M) {a : Int} (h1 : 1 ≤ a) (h2 : a ≤ nFix) : w.2 a = shF a := h.1 a h1 h2
theorem FixA.dy {w : NS} {M : MM} (h : FixA w M) {a : Int} {t n k m : Nat} (he : (t, n, k, m) ∈ fixD) (hs : w.2 a = (t, n)) : M a k = a + 1 ∧ w.2 (a + 1) = (12, m) := h.2.2.1 _ he a hs
/-! bodies -/
abbrev BX : Type := Program × Launch × Env × Room × State × MethodId × Array Value × List Frame × Method × Code
def Lc (G : GP) (lc : Array Slot) (nL : Nat) (ls : List LV) : Prop := lc.size = nL ∧ lv_wf lc ∧ ∀ (k : Nat) (v : LV), ls[k]? = some v → v.1 ≠ 3 → lc[k]? = some (.val (cv G v)) ∧ okV v
def WA (fx : Bool) (G : GP) (X : BX) (Q : State → Prop) (nL pc : Nat) (ls st : List LV) (rc rs : Nat) (w : NS) (M : MM) : Prop :=
  ∀ (H : Heap) (locs : List Loc) (cells slots : Nat) (lc : Array Slot), Rep G w M H → (fx = true → FixA w M) → va_S (AA G) X.2.2.2.2.1.heap H locs → cells + rc ≤ X.2.2.2.1.cells → slots + rs ≤ X.2.2.2.1.slots → Lc G lc nL ls → (∀ v ∈ st, okV v) →
    W X.1 X.2.1 X.2.2.1 X.2.2.2.1 X.2.2.2.2.1 X.2.2.2.2.2.1 X.2.2.2.2.2.2.1 X.2.2.2.2.2.2.2.1 X.2.2.2.2.2.2.2.2.1 X.2.2.2.2.2.2.2.2.2 H locs cells slots Q (F0 X.2.2.2.2.2.1 pc lc (st.map (cv G)))
def CX (G : GP) (X : BX) (cc : ByteArray) (own nm : String) (nL : Nat) (rt : Option FieldType) (rf rl : Nat) : Prop :=
  X.1.tables.exec = Jvm.exec ∧ X.2.2.2.2.2.2.2.2.2.code = cc ∧ X.2.2.2.2.2.2.2.2.2.maxLocals = nL ∧ X.2.2.2.2.1.vm.findClass own = some X.2.2.2.2.2.1.cls ∧ (∀ w ∈ gtbl, w.before X.2.2.2.2.2.2.1 X.2.2.2.2.1 = true) ∧ GK G X.2.2.2.2.1 ∧ Ext G X.2.2.2.2.1 X.2.2.2.2.1.heap ∧ G.1 < X.2.2.2.2.1.heap.size ∧ X.2.2.2.2.2.2.2.2.1.locks = false ∧ X.2.2.2.2.2.2.2.2.1.sig.returnType = rt ∧ X.2.2.2.2.2.2.2.2.1.name = nm ∧ X.2.2.2.1.frames = rf ∧ X.2.2.2.1.locals = rl
theorem CX.gk {G : GP} {X : BX} {cc : ByteArray} {own nm : String} {nL : Nat} {rt : Option FieldType} {rf rl : Nat} (C : CX G X cc own nm nL rt rf rl) : GK G X.2.2.2.2.1 := C.2.2.2.2.2.1
theorem CX.k {G : GP} {X : BX} {cc : ByteArray} {own nm : String} {nL : Nat} {rt : Option FieldType} {rf rl : Nat} (C : CX G X cc own nm nL rt rf rl) : va_K G.2.1 vwCl (tysG G) X.2.2.2.2.1 := C.2.2.2.2.2.1.1
theorem CX.gn {G : GP} {X : BX} {cc : ByteArray} {own nm : String} {nL : Nat} {rt : Option FieldType} {rf rl : Nat} (C : CX G X cc own nm nL rt rf rl) : GN X.2.2.2.2.1 := C.2.2.2.2.2.1.2
def QcO (G : GP) (fx : Bool) (rk : Nat) (P : Int → NS → MM → Prop) : Array Value → State → Outcome → State → Prop := fun _ st oc t =>
  (∃ (z : Int) (w' : NS) (M' : MM), oc = .returned (if rk = 4 then none else some (cv G (rk, z))) ∧ okV (rk, z) ∧ Rep G w' M' t.heap ∧ (fx = true → FixA w' M') ∧ P z w' M') ∧ va_F (AA G) st t
def QM (G : GP) (X : BX) (fx : Bool) (rk : Nat) (P : Int → NS → MM → Prop) : State → Prop := MQ X.2.2.2.2.2.2.2.1 (QcO G fx rk P) X.2.2.2.2.2.2.1 X.2.2.2.2.1 X.2.2.2.1.cells X.2.2.2.1.slots (AA G)
def PcG (fx : Bool) (G : GP) (av : List LV) (w : NS) (M : MM) : Array Value → State → Prop := va_Pc (av.map (cv G)) (fun U => Rep G w M U.heap ∧ (fx = true → FixA w M) ∧ GK G U ∧ Ext G U U.heap)
def CT (fx : Bool) (G : GP) (l : Launch) (y : MethodName) (cc : ByteArray) (nL : Nat) (ret : Option FieldType) (rk rf rl mc ms : Nat) (av : List LV) (w : NS) (M : MM) (P : Int → NS → MM → Prop) : Prop :=
  (∀ v ∈ av, okV v) → Met l y (.code y cc nL ret :: gtbl) { frames := rf, cells := mc, slots := ms, locals := rl } (PcG fx G av w M) (QcO G fx rk P) mc ms (AA G)
theorem PcG.blind (fx : Bool) (G : GP) (av : List LV) (w : NS) (M : MM) : FrameBlind (PcG fx G av w M) := by
  intro a U g mk h
  obtain ⟨h0, h1, h2, h3, h4⟩ := h
  exact ⟨h0, h1, h2, ⟨va_K.moved (u := U) (U := U.calling g mk a) (Vm.Alike.refl U.vm) h3.1, GN.same (u := U) (U := U.calling g mk a) rfl h3.2⟩, Ext.moved (u := U) (U := U.calling g mk a) (Vm.Alike.refl U.vm) h4⟩
theorem PcG.pre {fx : Bool} {G : GP} {av : List LV} {w : NS} {M : MM} {s : State} {H : Heap} {locs : List Loc} (hR : Rep G w M H) (hF : fx = true → FixA w M) (hK : GK G s) (hE : Ext G s s.heap) (hS : va_S (AA G) s.heap H locs) : ∀ U : State, U.heap = H → s.WarmedH U.vm → PcG fx G av w M (av.map (cv G)).toArray U := by
  intro U hU hW
  refine ⟨rfl, by rw [hU]; exact hR, hF, ⟨va_K.moved hW.alike hK.1, hK.2.warm hW⟩, ?_⟩
  rw [hU]
  exact (hE.kept hS.2.1).moved hW.alike
def laL : List LV → List LV
  | [] => []
  | v :: l => if v.1 = 1 then v :: (3, 0) :: laL l else v :: laL l
theorem laL_args (G : GP) : ∀ (av : List LV) (n k : Nat) (v : LV), (laL av)[k]? = some v → v.1 ≠ 3 → (n + k, cv G v) ∈ lv_args n (av.map (cv G)) ∧ v ∈ av
  | [], n, k, v, h, _ => by simp [laL] at h
  | u :: l, n, k, v, h, h3 => by
    have hc : (cv G u).category = if u.1 = 1 then 2 else 1 := cat_cv G u
    unfold laL at h
    by_cases h1 : u.1 = 1
    · rw [if_pos h1] at h hc
      rw [List.map_cons]
      unfold lv_args
      rw [hc, if_pos rfl]
      match k, h with
      | 0, h => cases h; exact ⟨List.mem_cons_self, List.mem_cons_self⟩
      | 1, h => cases h; exact absurd rfl h3
      | k + 2, h =>
        have := laL_args G l (n + 2) k v h h3
        rw [show n + 2 + k = n + (k + 2) by omega] at this
        exact ⟨List.mem_cons_of_mem _ this.1, List.mem_cons_of_mem _ this.2⟩
    · rw [if_neg h1] at h hc
      rw [List.map_cons]
      unfold lv_args
      rw [hc, if_neg (by decide)]
      match k, h with
      | 0, h => cases h; exact ⟨List.mem_cons_self, List.mem_cons_self⟩
      | k + 1, h =>
        have := laL_args G l (n + 1) k v h h3
        rw [show n + 1 + k = n + (k + 1) by omega] at this
        exact ⟨List.mem_cons_of_mem _ this.1, List.mem_cons_of_mem _ this.2⟩
theorem laL_len (G : GP) : ∀ av : List LV, (lg_sl (av.map (cv G))).length = (laL av).length
  | [] => rfl
  | u :: l => by
    have hc : (cv G u).category = if u.1 = 1 then 2 else 1 := cat_cv G u
    have ih := laL_len G l
    unfold laL
    rw [List.map_cons]
    unfold lg_sl at ih ⊢
    rw [List.flatMap_cons, List.length_append, ih]
    by_cases h1 : u.1 = 1
    · rw [if_pos h1] at hc ⊢
      rw [hc]; simp; omega
    · rw [if_neg h1] at hc ⊢
      rw [hc]; simp; omega
theorem Lc_entry {G : GP} {av ls : List LV} {nL : Nat} (hok : ∀ v ∈ av, okV v) (he : laL av ++ List.replicate (nL - (laL av).length) (3, 0) = ls) (hn : (laL av).length ≤ nL) : Lc G ((lg_sl (av.map (cv G)) ++ List.replicate (nL - (lg_sl (av.map (cv G))).length) Slot.unset).toArray) nL ls := by
  have h := lv_entry (av.map (cv G)) (n := nL) (by rw [laL_len]; exact hn)
  refine ⟨h.1, h.2.1, fun k v hk h3 => ?_⟩
  subst he
  by_cases hl : k < (laL av).length
  · rw [List.getElem?_append_left hl] at hk
    have := laL_args G av 0 k v hk h3
    rw [Nat.zero_add] at this
    exact ⟨h.2.2 _ this.1, hok v this.2⟩
  · rw [List.getElem?_append_right (by omega)] at hk
    have := List.eq_of_mem_replicate (List.mem_of_getElem? hk)
    rw [this] at h3
    exact absurd rfl h3
/-- a contract out of a body -/
theorem CT.of {fx : Bool} {G : GP} {l : Launch} {y : MethodName} {cc : ByteArray} {nL : Nat} {ret : Option FieldType} {rk rf rl mc ms : Nat} {av ls : List LV} {w : NS} {M : MM} {P : Int → NS → MM → Prop} (own nm : String) (hy : plainName y.cls = true) (hown : y.cls = own) (hnm : y.name = nm)
    (he : laL av ++ List.replicate (nL - (laL av).length) (3, 0) = ls) (hn : (laL av).length ≤ nL)
    (body : (∀ v ∈ av, okV v) → ∀ X : BX, X.2.1 = l → CX G X cc own nm nL ret rf rl → WA fx G X (QM G X fx rk P) nL 0 ls [] mc ms w M) : CT fx G l y cc nL ret rk rf rl mc ms av w M P := by
  intro hok
  refine Met.ofW (cc := cc) (maxL := nL) (ret := ret) hy rfl ?_
  intro p e s m args below meth c s₁ B hml hv
  obtain ⟨rfl, hR, hF, hK, hE⟩ := hv
  have hts : ∀ w ∈ gtbl, w.before (av.map (cv G)).toArray s = true := fun w hw => atoms_spec (ws := .code y cc nL ret :: gtbl) B.pre w (List.mem_cons_of_mem _ hw)
  have hfc : s.vm.findClass own = some m.cls := by rw [← hown]; exact findClass_of_methodNamed B.named
  have hnm2 : meth.name = nm := by rw [← hnm]; exact (name_of_methodNamed B.named B.method).1
  have hsz : G.1 < s.heap.size := by have := hR.1; have := hR.2.1; omega
  have hX := body hok (p, l, e, (headSpec (.code y cc nL ret :: gtbl) { frames := rf, cells := mc, slots := ms, locals := rl }).room, s, m, (av.map (cv G)).toArray, below, meth, c) rfl ⟨B.exec, B.bytes, hml, hfc, hts, hK, hE, hsz, B.notSynchronized, B.returns, hnm2, rfl, rfl⟩
  rw [lg_entry_eq]
  exact hX s.heap [] 0 0 _ hR hF va_S.rf (by show 0 + mc ≤ mc; omega) (by show 0 + ms ≤ ms; omega) (Lc_entry hok he hn) (fun v h => by cases h)
theorem WA.weak {fx : Bool} {G : GP} {X : BX} {Q : State → Prop} {nL pc : Nat} {ls ls' st : List LV} {rc rs : Nat} {w : NS} {M : MM} (hk : ∀ (k : Nat) (v : LV), ls'[k]? = some v → v.1 ≠ 3 → ls[k]? = some v) (h : WA fx G X Q nL pc ls' st rc rs w M) : WA fx G X Q nL pc ls st rc rs w M :=
  fun H locs cells slots lc hR hF hS h1 h2 hL hst => h H locs cells slots lc hR hF hS h1 h2 ⟨hL.1, hL.2.1, fun k v hv h3 => hL.2.2 k v (hk k v hv h3) h3⟩ hst
def wkB : List LV → List LV → Prop
  | [], _ => True
  | v :: l, [] => v.1 = 3 ∧ wkB l []
  | v :: l, u :: r => (v.1 = 3 ∨ v = u) ∧ wkB l r
theorem wkB_ok : ∀ (l r : List LV), wkB l r → ∀ (k : Nat) (v : LV), l[k]? = some v → v.1 ≠ 3 → r[k]? = some v
  | [], _, _, k, v, h, _ => by simp at h
  | u :: l, [], hw, k, v, h, h3 => by
    match k, h with
    | 0, h => cases h; exact absurd hw.1 h3
    | k + 1, h => have := wkB_ok l [] hw.2 k v h h3; simp at this
  | u :: l, x :: r, hw, k, v, h, h3 => by
    match k, h with
    | 0, h =>
      cases h
      rcases hw.1 with e | e
      · exact absurd e h3
      · rw [e]; rfl
    | k + 1, h => exact wkB_ok l r hw.2 k v h h3
theorem WA.wk {fx : Bool} {G : GP} {X : BX} {Q : State → Prop} {nL pc : Nat} {ls ls' st : List LV} {rc rs : Nat} {w : NS} {M : MM} (h : WA fx G X Q nL pc ls' st rc rs w M) (hk : wkB ls' ls) : WA fx G X Q nL pc ls st rc rs w M := h.weak (wkB_ok ls' ls hk)
theorem WA.fix {G : GP} {X : BX} {Q : State → Prop} {nL pc : Nat} {ls st : List LV} {rc rs : Nat} {w : NS} {M : MM} (h : FixA w M → WA true G X Q nL pc ls st rc rs w M) : WA true G X Q nL pc ls st rc rs w M :=
  fun H locs cells slots lc hR hF hS h1 h2 hL hst => h (hF rfl) H locs cells slots lc hR hF hS h1 h2 hL hst
theorem WA.refix {G : GP} {X : BX} {Q : State → Prop} {nL pc : Nat} {ls st : List LV} {rc rs : Nat} {w : NS} {M : MM} (hF : FixA w M) (h : WA true G X Q nL pc ls st rc rs w M) : WA false G X Q nL pc ls st rc rs w M :=
  fun H locs cells slots lc hR _ hS h1 h2 hL hst => h H locs cells slots lc hR (fun _ => hF) hS h1 h2 hL hst
theorem WA.unfix {fx : Bool} {G : GP} {X : BX} {Q : State → Prop} {nL pc : Nat} {ls st : List LV} {rc rs : Nat} {w : NS} {M : MM} (h : WA false G X Q nL pc ls st rc rs w M) : WA fx G X Q nL pc ls st rc rs w M :=
  fun H locs cells slots lc hR _ hS h1 h2 hL hst => h H locs cells slots lc hR (fun q => by cases q) hS h1 h2 hL hst
/-- what the state says of its numbers: all are of their size; what is not made is 0 -/
theorem WA.rng {fx : Bool} {G : GP} {X : BX} {Q : State → Prop} {nL pc : Nat} {ls st : List LV} {rc rs : Nat} {w : NS} {M : MM} (h : ((∀ a i, 0 < (w.2 a).1 → okV (kdS (w.2 a).1 i, M a i)) ∧ (∀ a : Int, (w.1 : Int) ≤ a → ∀ i, M a i = 0) ∧ (∀ a : Int, 0 < (w.2 a).1 → 0 < a ∧ a < w.1)) → WA fx G X Q nL pc ls st rc rs w M) : WA fx G X Q nL pc ls st rc rs w M :=
  fun H locs cells slots lc hR hF hS h1 h2 hL hst => h ⟨hR.2.2.2.2.2, hR.2.2.2.2.1, hR.2.2.2.1⟩ H locs cells slots lc hR hF hS h1 h2 hL hst
section STEP
variable {fx : Bool} {G : GP} {X : BX} {Q : State → Prop} {cc : ByteArray} {own nm : String} {rt : Option FieldType} {rf rl nL pc rc rs : Nat} {ls st : List LV} {w : NS} {M : MM}
theorem okc {v : LV} (hv : okV v) (h : ∀ u ∈ st, okV u) : ∀ u ∈ v :: st, okV u := fun u hu => (List.mem_cons.mp hu).elim (fun e => e ▸ hv) (h u)
theorem ok_hd {v : LV} (h : ∀ u ∈ v :: st, okV u) : okV v := h v List.mem_cons_self
theorem ok_tl {v : LV} (h : ∀ u ∈ v :: st, okV u) : ∀ u ∈ st, okV u := fun u hu => h u (List.mem_cons_of_mem _ hu)
theorem s_iconst (C : CX G X cc own nm nL rt rf rl) {n : Int} (d : decode cc pc = .ok (.iconst n, 1)) (hn : inR n) (k : WA fx G X Q nL (pc + 1) ls ((0, n) :: st) rc rs w M) : WA fx G X Q nL pc ls st rc rs w M := by
  intro H locs cells slots lc hR hF hS h1 h2 hL hst
  exact lv_iconst C.1 C.2.1 d rfl (k H locs cells slots lc hR hF hS h1 h2 hL (okc hn hst))
theorem s_bipush (C : CX G X cc own nm nL rt rf rl) {n : Int} (d : decode cc pc = .ok (.bipush n, 2)) (hn : (Int8.ofInt n).toInt32 = Int32.ofInt n ∧ -128 ≤ n ∧ n < 128) (k : WA fx G X Q nL (pc + 2) ls ((0, n) :: st) rc rs w M) : WA fx G X Q nL pc ls st rc rs w M := by
  intro H locs cells slots lc hR hF hS h1 h2 hL hst
  exact lv_bipush C.1 C.2.1 d hn.1 (k H locs cells slots lc hR hF hS h1 h2 hL (okc (v := (0, n)) ⟨by omega, by omega⟩ hst))
theorem s_sipush (C : CX G X cc own nm nL rt rf rl) {n : Int} (d : decode cc pc = .ok (.sipush n, 3)) (hn : (Int16.ofInt n).toInt32 = Int32.ofInt n ∧ -32768 ≤ n ∧ n < 32768) (k : WA fx G X Q nL (pc + 3) ls ((0, n) :: st) rc rs w M) : WA fx G X Q nL pc ls st rc rs w M := by
  intro H locs cells slots lc hR hF hS h1 h2 hL hst
  exact lv_sipush C.1 C.2.1 d hn.1 (k H locs cells slots lc hR hF hS h1 h2 hL (okc (v := (0, n)) ⟨by omega, by omega⟩ hst))
theorem s_lconst (C : CX G X cc own nm nL rt rf rl) {n : Fin 2} {z : Int} (d : decode cc pc = .ok (.lconst n, 1)) (hz : Int64.ofNat (n : Nat) = Int64.ofInt z ∧ inL z) (k : WA fx G X Q nL (pc + 1) ls ((1, z) :: st) rc rs w M) : WA fx G X Q nL pc ls st rc rs w M := by
  intro H locs cells slots lc hR hF hS h1 h2 hL hst
  exact lv_lconst C.1 C.2.1 d hz.1 (k H locs cells slots lc hR hF hS h1 h2 hL (okc (v := (1, z)) hz.2 hst))
theorem s_ldcw (C : CX G X cc own nm nL rt rf rl) {idx : Nat} {v : Int32} {z : Int} (d : decode cc pc = .ok (.ldc_w idx, 3)) (hw : Cond.constant own idx v ∈ gtbl) (hz : v = Int32.ofInt z ∧ inR z) (k : WA fx G X Q nL (pc + 3) ls ((0, z) :: st) rc rs w M) : WA fx G X Q nL pc ls st rc rs w M := by
  intro H locs cells slots lc hR hF hS h1 h2 hL hst
  obtain ⟨hz1, hz2⟩ := hz
  subst hz1
  exact lv_ldcw C.1 C.2.1 C.2.2.2.1 (C.2.2.2.2.1 _ hw) d (k H locs cells slots lc hR hF hS h1 h2 hL (okc (v := (0, z)) hz2 hst))
theorem s_ldc (C : CX G X cc own nm nL rt rf rl) {idx : Nat} {v : Int32} {z : Int} (d : decode cc pc = .ok (.ldc idx, 2)) (hw : Cond.constant own idx v ∈ gtbl) (hz : v = Int32.ofInt z ∧ inR z) (k : WA fx G X Q nL (pc + 2) ls ((0, z) :: st) rc rs w M) : WA fx G X Q nL pc ls st rc rs w M := by
  intro H locs cells slots lc hR hF hS h1 h2 hL hst
  obtain ⟨hz1, hz2⟩ := hz
  subst hz1
  exact lv_ldc C.1 C.2.1 C.2.2.2.1 (C.2.2.2.2.1 _ hw) d (k H locs cells slots lc hR hF hS h1 h2 hL (okc (v := (0, z)) hz2 hst))
theorem s_ldc2 (C : CX G X cc own nm nL rt rf rl) {idx : Nat} {v : Int64} {z : Int} (d : decode cc pc = .ok (.ldc2_w idx, 3)) (hw : Cond.constantLong own idx v ∈ gtbl) (hz : v = Int64.ofInt z ∧ inL z) (k : WA fx G X Q nL (pc + 3) ls ((1, z) :: st) rc rs w M) : WA fx G X Q nL pc ls st rc rs w M := by
  intro H locs cells slots lc hR hF hS h1 h2 hL hst
  obtain ⟨hz1, hz2⟩ := hz
  subst hz1
  exact lv_ldc2 C.1 C.2.1 C.2.2.2.1 (C.2.2.2.2.1 _ hw) d (k H locs cells slots lc hR hF hS h1 h2 hL (okc (v := (1, z)) hz2 hst))
theorem s_iload_n (C : CX G X cc own nm nL rt rf rl) {i : Fin 4} {z : Int} (d : decode cc pc = .ok (.iload_n i, 1)) (hl : ls[i.val]? = some (0, z)) (k : WA fx G X Q nL (pc + 1) ls ((0, z) :: st) rc rs w M) : WA fx G X Q nL pc ls st rc rs w M := by
  intro H locs cells slots lc hR hF hS h1 h2 hL hst
  obtain ⟨e1, e2⟩ := hL.2.2 _ _ hl (by simp)
  exact lv_iload_n C.1 C.2.1 d rfl e1 (k H locs cells slots lc hR hF hS h1 h2 hL (okc e2 hst))
theorem s_iload (C : CX G X cc own nm nL rt rf rl) {i : Nat} {z : Int} (d : decode cc pc = .ok (.iload i, 2)) (hl : ls[i]? = some (0, z)) (k : WA fx G X Q nL (pc + 2) ls ((0, z) :: st) rc rs w M) : WA fx G X Q nL pc ls st rc rs w M := by
  intro H locs cells slots lc hR hF hS h1 h2 hL hst
  obtain ⟨e1, e2⟩ := hL.2.2 _ _ hl (by simp)
  exact lv_iload C.1 C.2.1 d e1 (k H locs cells slots lc hR hF hS h1 h2 hL (okc e2 hst))
theorem s_lload_n (C : CX G X cc own nm nL rt rf rl) {i : Fin 4} {z : Int} (d : decode cc pc = .ok (.lload_n i, 1)) (hl : ls[i.val]? = some (1, z)) (k : WA fx G X Q nL (pc + 1) ls ((1, z) :: st) rc rs w M) : WA fx G X Q nL pc ls st rc rs w M := by
  intro H locs cells slots lc hR hF hS h1 h2 hL hst
  obtain ⟨e1, e2⟩ := hL.2.2 _ _ hl (by simp)
  exact lv_lload_n C.1 C.2.1 d rfl e1 (k H locs cells slots lc hR hF hS h1 h2 hL (okc e2 hst))
theorem s_lload (C : CX G X cc own nm nL rt rf rl) {i : Nat} {z : Int} (d : decode cc pc = .ok (.lload i, 2)) (hl : ls[i]? = some (1, z)) (k : WA fx G X Q nL (pc + 2) ls ((1, z) :: st) rc rs w M) : WA fx G X Q nL pc ls st rc rs w M := by
  intro H locs cells slots lc hR hF hS h1 h2 hL hst
  obtain ⟨e1, e2⟩ := hL.2.2 _ _ hl (by simp)
  exact lv_lload C.1 C.2.1 d e1 (k H locs cells slots lc hR hF hS h1 h2 hL (okc e2 hst))
theorem rf_cs (G : GP) (z : Int) : cv G (2, z) = .null ∨ ∃ q, cv G (2, z) = .ref q := by
  rw [cv2]
  cases rfv G z with
  | none => exact Or.inl rfl
  | some q => exact Or.inr ⟨q, rfl⟩
theorem s_aload_n (C : CX G X cc own nm nL rt rf rl) {i : Fin 4} {z : Int} (d : decode cc pc = .ok (.aload_n i, 1)) (hl : ls[i.val]? = some (2, z)) (k : WA fx G X Q nL (pc + 1) ls ((2, z) :: st) rc rs w M) : WA fx G X Q nL pc ls st rc rs w M := by
  intro H locs cells slots lc hR hF hS h1 h2 hL hst
  obtain ⟨e1, e2⟩ := hL.2.2 _ _ hl (by simp)
  have kk := k H locs cells slots lc hR hF hS h1 h2 hL (okc e2 hst)
  rw [List.map_cons] at kk
  rcases rf_cs G z with h | ⟨q, h⟩
  · rw [h] at e1 kk
    exact lv_aload_nN C.1 C.2.1 d rfl e1 kk
  · rw [h] at e1 kk
    exact lv_aload_n C.1 C.2.1 d rfl e1 kk
theorem s_aload (C : CX G X cc own nm nL rt rf rl) {i : Nat} {z : Int} (d : decode cc pc = .ok (.aload i, 2)) (hl : ls[i]? = some (2, z)) (k : WA fx G X Q nL (pc + 2) ls ((2, z) :: st) rc rs w M) : WA fx G X Q nL pc ls st rc rs w M := by
  intro H locs cells slots lc hR hF hS h1 h2 hL hst
  obtain ⟨e1, e2⟩ := hL.2.2 _ _ hl (by simp)
  have kk := k H locs cells slots lc hR hF hS h1 h2 hL (okc e2 hst)
  rw [List.map_cons] at kk
  rcases rf_cs G z with h | ⟨q, h⟩
  · rw [h] at e1 kk
    exact lv_aloadN C.1 C.2.1 d e1 kk
  · rw [h] at e1 kk
    exact lv_aload C.1 C.2.1 d e1 kk
/-! stores into the locals -/
def asc (G : GP) (ls : List LV) : List (Nat × Value) := (List.range ls.length).filterMap (fun k => match ls[k]? with | some v => if v.1 = 3 then none else some (k, cv G v) | none => none)
theorem asc_in {G : GP} {ls : List LV} {k : Nat} {v : LV} (h : ls[k]? = some v) (h3 : v.1 ≠ 3) : (k, cv G v) ∈ asc G ls := by
  refine List.mem_filterMap.mpr ⟨k, List.mem_range.mpr (List.getElem?_eq_some_iff.mp h).1, ?_⟩
  rw [h]
  simp [h3]
theorem asc_of {G : GP} {ls : List LV} {q : Nat × Value} (h : q ∈ asc G ls) : ∃ v, ls[q.1]? = some v ∧ v.1 ≠ 3 ∧ q.2 = cv G v := by
  obtain ⟨k, -, hk⟩ := List.mem_filterMap.mp h
  cases e : ls[k]? with
  | none => rw [e] at hk; cases hk
  | some v =>
    rw [e] at hk
    by_cases h3 : v.1 = 3
    · simp [h3] at hk
    · simp [h3] at hk
      subst hk
      exact ⟨v, e, h3, rfl⟩
theorem Lc.has {lc : Array Slot} (h : Lc G lc nL ls) : lv_has lc nL (asc G ls) := ⟨h.1, h.2.1, fun q hq => by
  obtain ⟨v, e, h3, hv⟩ := asc_of hq
  rw [hv]
  exact (h.2.2 _ _ e h3).1⟩
def noL (ls : List LV) : Nat → Bool
  | 0 => true
  | k + 1 => match ls[k]? with
    | some v => v.1 != 1
    | none => true
theorem Lc.set1 {lc lc' : Array Slot} {i : Nat} {u : LV} (h : Lc G lc nL ls) (hu : okV u) (hk : noL ls i = true) (h' : lv_has lc' nL ((i, cv G u) :: (asc G ls).filter (fun q => !(q.1 == i) && !(q.1 + 1 == i && q.2.category == 2)))) : Lc G lc' nL (ls.set i u) := by
  refine ⟨h'.1, h'.2.1, fun k v hv h3 => ?_⟩
  by_cases e : k = i
  · subst e
    have hl : k < ls.length := by
      have := (List.getElem?_eq_some_iff.mp hv).1
      simpa using this
    rw [List.getElem?_set_self hl] at hv
    cases hv
    exact ⟨h'.2.2 _ List.mem_cons_self, hu⟩
  · rw [List.getElem?_set_ne (Ne.symm e)] at hv
    refine ⟨h'.2.2 (k, cv G v) (List.mem_cons_of_mem _ (List.mem_filter.mpr ⟨asc_in hv h3, ?_⟩)), (h.2.2 k v hv h3).2⟩
    have hc := cat_cv G v
    by_cases e2 : k + 1 = i
    · subst e2
      have hk' : v.1 ≠ 1 := by
        simp only [noL, hv] at hk
        simpa using hk
      rw [if_neg hk'] at hc
      simp [hc]
    · simp [e, e2]
theorem Lc.set2 {lc lc' : Array Slot} {i : Nat} {u : LV} (h : Lc G lc nL ls) (hu : okV u) (hk : noL ls i = true) (h' : lv_has lc' nL ((i, cv G u) :: (asc G ls).filter (fun q => !(q.1 == i) && (!(q.1 == i + 1) && !(q.1 + 1 == i && q.2.category == 2))))) : Lc G lc' nL ((ls.set i u).set (i + 1) (3, 0)) := by
  refine ⟨h'.1, h'.2.1, fun k v hv h3 => ?_⟩
  by_cases e1 : k = i + 1
  · subst e1
    have hl : i + 1 < (ls.set i u).length := by
      have := (List.getElem?_eq_some_iff.mp hv).1
      simpa using this
    rw [List.getElem?_set_self hl] at hv
    cases hv
    exact absurd rfl h3
  rw [List.getElem?_set_ne (Ne.symm e1)] at hv
  by_cases e : k = i
  · subst e
    have hl : k < ls.length := by
      have := (List.getElem?_eq_some_iff.mp hv).1
      simpa using this
    rw [List.getElem?_set_self hl] at hv
    cases hv
    exact ⟨h'.2.2 _ List.mem_cons_self, hu⟩
  · rw [List.getElem?_set_ne (Ne.symm e)] at hv
    refine ⟨h'.2.2 (k, cv G v) (List.mem_cons_of_mem _ (List.mem_filter.mpr ⟨asc_in hv h3, ?_⟩)), (h.2.2 k v hv h3).2⟩
    have hc := cat_cv G v
    by_cases e2 : k + 1 = i
    · subst e2
      have hk' : v.1 ≠ 1 := by
        simp only [noL, hv] at hk
        simpa using hk
      rw [if_neg hk'] at hc
      simp [hc, e1]
    · simp [e, e1, e2]
theorem s_istore_n (C : CX G X cc own nm nL rt rf rl) {i : Fin 4} {z : Int} {ls' : List LV} (d : decode cc pc = .ok (.istore_n i, 1)) (hi : i.val < nL) (hk : noL ls i.val = true) (he : ls.set i.val (0, z) = ls') (k : WA fx G X Q nL (pc + 1) ls' st rc rs w M) : WA fx G X Q nL pc ls ((0, z) :: st) rc rs w M := by
  intro H locs cells slots lc hR hF hS h1 h2 hL hst
  subst he
  exact lv_istore_n C.1 C.2.1 d rfl hL.has hi rfl (fun lc' h' => k H locs cells slots lc' hR hF hS h1 h2 (hL.set1 (ok_hd hst) hk h') (ok_tl hst))
theorem s_istore (C : CX G X cc own nm nL rt rf rl) {i : Nat} {z : Int} {ls' : List LV} (d : decode cc pc = .ok (.istore i, 2)) (hi : i < nL) (hk : noL ls i = true) (he : ls.set i (0, z) = ls') (k : WA fx G X Q nL (pc + 2) ls' st rc rs w M) : WA fx G X Q nL pc ls ((0, z) :: st) rc rs w M := by
  intro H locs cells slots lc hR hF hS h1 h2 hL hst
  subst he
  exact lv_istore C.1 C.2.1 d hL.has hi rfl (fun lc' h' => k H locs cells slots lc' hR hF hS h1 h2 (hL.set1 (ok_hd hst) hk h') (ok_tl hst))
theorem s_lstore_n (C : CX G X cc own nm nL rt rf rl) {i : Fin 4} {z : Int} {ls' : List LV} (d : decode cc pc = .ok (.lstore_n i, 1)) (hi : i.val + 1 < nL) (hk : noL ls i.val = true) (he : (ls.set i.val (1, z)).set (i.val + 1) (3, 0) = ls') (k : WA fx G X Q nL (pc + 1) ls' st rc rs w M) : WA fx G X Q nL pc ls ((1, z) :: st) rc rs w M := by
  intro H locs cells slots lc hR hF hS h1 h2 hL hst
  subst he
  exact lv_lstore_n C.1 C.2.1 d rfl hL.has hi rfl (fun lc' h' => k H locs cells slots lc' hR hF hS h1 h2 (hL.set2 (ok_hd hst) hk h') (ok_tl hst))
theorem s_lstore (C : CX G X cc own nm nL rt rf rl) {i : Nat} {z : Int} {ls' : List LV} (d : decode cc pc = .ok (.lstore i, 2)) (hi : i + 1 < nL) (hk : noL ls i = true) (he : (ls.set i (1, z)).set (i + 1) (3, 0) = ls') (k : WA fx G X Q nL (pc + 2) ls' st rc rs w M) : WA fx G X Q nL pc ls ((1, z) :: st) rc rs w M := by
  intro H locs cells slots lc hR hF hS h1 h2 hL hst
  subst he
  exact lv_lstore C.1 C.2.1 d hL.has hi rfl (fun lc' h' => k H locs cells slots lc' hR hF hS h1 h2 (hL.set2 (ok_hd hst) hk h') (ok_tl hst))
theorem s_astore_n (C : CX G X cc own nm nL rt rf rl) {i : Fin 4} {z : Int} {ls' : List LV} (d : decode cc pc = .ok (.astore_n i, 1)) (hi : i.val < nL) (hk : noL ls i.val = true) (he : ls.set i.val (2, z) = ls') (k : WA fx G X Q nL (pc + 1) ls' st rc rs w M) : WA fx G X Q nL pc ls ((2, z) :: st) rc rs w M := by
  intro H locs cells slots lc hR hF hS h1 h2 hL hst
  subst he
  have kk := fun lc' h' => k H locs cells slots lc' hR hF hS h1 h2 (hL.set1 (lc' := lc') (u := (2, z)) (ok_hd hst) hk h') (ok_tl hst)
  rw [List.map_cons]
  rcases rf_cs G z with h | ⟨q, h⟩
  · rw [h] at kk ⊢
    exact lv_astore_nN C.1 C.2.1 d rfl hL.has hi rfl kk
  · rw [h] at kk ⊢
    exact lv_astore_n C.1 C.2.1 d rfl hL.has hi rfl kk
theorem s_astore (C : CX G X cc own nm nL rt rf rl) {i : Nat} {z : Int} {ls' : List LV} (d : decode cc pc = .ok (.astore i, 2)) (hi : i < nL) (hk : noL ls i = true) (he : ls.set i (2, z) = ls') (k : WA fx G X Q nL (pc + 2) ls' st rc rs w M) : WA fx G X Q nL pc ls ((2, z) :: st) rc rs w M := by
  intro H locs cells slots lc hR hF hS h1 h2 hL hst
  subst he
  have kk := fun lc' h' => k H locs cells slots lc' hR hF hS h1 h2 (hL.set1 (lc' := lc') (u := (2, z)) (ok_hd hst) hk h') (ok_tl hst)
  rw [List.map_cons]
  rcases rf_cs G z with h | ⟨q, h⟩
  · rw [h] at kk ⊢
    exact lv_astoreN C.1 C.2.1 d hL.has hi rfl kk
  · rw [h] at kk ⊢
    exact lv_astore C.1 C.2.1 d hL.has hi rfl kk
theorem s_iinc (C : CX G X cc own nm nL rt rf rl) {i : Nat} {n z : Int} {ls' : List LV} (d : decode cc pc = .ok (.iinc i n, 3)) (hi : i < nL) (hl : ls[i]? = some (0, z)) (hr : inR (z + n)) (hk : noL ls i = true) (he : ls.set i (0, z + n) = ls') (k : WA fx G X Q nL (pc + 3) ls' st rc rs w M) : WA fx G X Q nL pc ls st rc rs w M := by
  intro H locs cells slots lc hR hF hS h1 h2 hL hst
  subst he
  obtain ⟨j, hj⟩ := List.getElem?_of_mem (asc_in (G := G) hl (by simp))
  exact lv_iinc C.1 C.2.1 d hL.has hj (Int32.ofInt_add z n).symm hi rfl (fun lc' h' => k H locs cells slots lc' hR hF hS h1 h2 (hL.set1 (u := (0, z + n)) hr hk h') hst)
end STEP
section STEP2
variable {fx : Bool} {G : GP} {X : BX} {Q : State → Prop} {cc : ByteArray} {own nm : String} {rt : Option FieldType} {rf rl nL pc rc rs : Nat} {ls st : List LV} {w : NS} {M : MM}
theorem s_iadd (C : CX G X cc own nm nL rt rf rl) {a b : Int} (d : decode cc pc = .ok (.iadd, 1)) (hr : inR (a + b)) (k : WA fx G X Q nL (pc + 1) ls ((0, a + b) :: st) rc rs w M) : WA fx G X Q nL pc ls ((0, b) :: (0, a) :: st) rc rs w M := by
  intro H locs cells slots lc hR hF hS h1 h2 hL hst
  have kk := k H locs cells slots lc hR hF hS h1 h2 hL (okc (v := (0, a + b)) hr (ok_tl (ok_tl hst)))
  rw [List.map_cons, cv0, Int32.ofInt_add] at kk
  exact lv_iadd C.1 C.2.1 d kk
theorem s_isub (C : CX G X cc own nm nL rt rf rl) {a b : Int} (d : decode cc pc = .ok (.isub, 1)) (hr : inR (a - b)) (k : WA fx G X Q nL (pc + 1) ls ((0, a - b) :: st) rc rs w M) : WA fx G X Q nL pc ls ((0, b) :: (0, a) :: st) rc rs w M := by
  intro H locs cells slots lc hR hF hS h1 h2 hL hst
  have kk := k H locs cells slots lc hR hF hS h1 h2 hL (okc (v := (0, a - b)) hr (ok_tl (ok_tl hst)))
  rw [List.map_cons, cv0, Int32.ofInt_sub] at kk
  exact lv_isub C.1 C.2.1 d kk
theorem s_imul (C : CX G X cc own nm nL rt rf rl) {a b : Int} (d : decode cc pc = .ok (.imul, 1)) (hr : inR (a * b)) (k : WA fx G X Q nL (pc + 1) ls ((0, a * b) :: st) rc rs w M) : WA fx G X Q nL pc ls ((0, b) :: (0, a) :: st) rc rs w M := by
  intro H locs cells slots lc hR hF hS h1 h2 hL hst
  have kk := k H locs cells slots lc hR hF hS h1 h2 hL (okc (v := (0, a * b)) hr (ok_tl (ok_tl hst)))
  rw [List.map_cons, cv0, Int32.ofInt_mul] at kk
  exact lv_imul C.1 C.2.1 d kk
theorem s_ineg (C : CX G X cc own nm nL rt rf rl) {a : Int} (d : decode cc pc = .ok (.ineg, 1)) (hr : inR (-a)) (k : WA fx G X Q nL (pc + 1) ls ((0, -a) :: st) rc rs w M) : WA fx G X Q nL pc ls ((0, a) :: st) rc rs w M := by
  intro H locs cells slots lc hR hF hS h1 h2 hL hst
  have kk := k H locs cells slots lc hR hF hS h1 h2 hL (okc (v := (0, -a)) hr (ok_tl hst))
  rw [List.map_cons, cv0, Int32.ofInt_neg] at kk
  exact lv_ineg C.1 C.2.1 d kk
theorem i3_div {a b : Int} (ha : inR a) (hb : inR b) (h0 : 0 ≤ a) (hb0 : 0 < b) : Int32.ofInt a / Int32.ofInt b = Int32.ofInt (a / b) := by
  apply Int32.toInt_inj.mp
  have hq : inR (a / b) := ⟨by have := Int.ediv_nonneg h0 (Int.le_of_lt hb0); omega, by have := Int.ediv_le_self b h0; have := ha.2; omega⟩
  have hne : Int32.ofInt b ≠ -1 := by
    intro e
    have := congrArg Int32.toInt e
    rw [t3 hb] at this
    have h2 : (-1 : Int32).toInt = -1 := rfl
    omega
  rw [Int32.toInt_div_of_ne_right _ _ hne, t3 ha, t3 hb, t3 hq, Int.tdiv_eq_ediv_of_nonneg h0]
theorem s_idiv (C : CX G X cc own nm nL rt rf rl) {a b : Int} (d : decode cc pc = .ok (.idiv, 1)) (h0 : 0 ≤ a) (hb0 : 0 < b) (k : WA fx G X Q nL (pc + 1) ls ((0, a / b) :: st) rc rs w M) : WA fx G X Q nL pc ls ((0, b) :: (0, a) :: st) rc rs w M := by
  intro H locs cells slots lc hR hF hS h1 h2 hL hst
  have hb : inR b := ok_hd hst
  have ha : inR a := ok_hd (ok_tl hst)
  have hq : inR (a / b) := ⟨by have := Int.ediv_nonneg h0 (Int.le_of_lt hb0); omega, by have := Int.ediv_le_self b h0; have := ha.2; omega⟩
  have kk := k H locs cells slots lc hR hF hS h1 h2 hL (okc (v := (0, a / b)) hq (ok_tl (ok_tl hst)))
  rw [List.map_cons, cv0, ← i3_div ha hb h0 hb0] at kk
  exact lv_idiv C.1 C.2.1 d (by rw [i3_eq0 hb]; omega) kk
theorem s_irem (C : CX G X cc own nm nL rt rf rl) {a b : Int} (d : decode cc pc = .ok (.irem, 1)) (h0 : 0 ≤ a) (hb0 : 0 < b) (k : WA fx G X Q nL (pc + 1) ls ((0, a % b) :: st) rc rs w M) : WA fx G X Q nL pc ls ((0, b) :: (0, a) :: st) rc rs w M := by
  intro H locs cells slots lc hR hF hS h1 h2 hL hst
  have hb : inR b := ok_hd hst
  have ha : inR a := ok_hd (ok_tl hst)
  have hq : inR (a % b) := ⟨by have := Int.emod_nonneg a (show b ≠ 0 by omega); omega, by have := Int.emod_lt_of_pos a hb0; have := hb.2; omega⟩
  have kk := k H locs cells slots lc hR hF hS h1 h2 hL (okc (v := (0, a % b)) hq (ok_tl (ok_tl hst)))
  rw [List.map_cons, cv0, show a % b = a - a / b * b from by have := Int.emod_add_mul_ediv a b; rw [Int.mul_comm] at this; omega, Int32.ofInt_sub, Int32.ofInt_mul, ← i3_div ha hb h0 hb0] at kk
  exact lv_irem C.1 C.2.1 d (by rw [i3_eq0 hb]; omega) kk
theorem s_iand (C : CX G X cc own nm nL rt rf rl) {a b : Int} (d : decode cc pc = .ok (.iand, 1)) (k : WA fx G X Q nL (pc + 1) ls ((0, zand a b) :: st) rc rs w M) : WA fx G X Q nL pc ls ((0, b) :: (0, a) :: st) rc rs w M := by
  intro H locs cells slots lc hR hF hS h1 h2 hL hst
  have kk := k H locs cells slots lc hR hF hS h1 h2 hL (okc (v := (0, zand a b)) (i3_rng _) (ok_tl (ok_tl hst)))
  rw [List.map_cons, cv0, zand, Int32.ofInt_toInt] at kk
  exact lv_iand C.1 C.2.1 d kk
theorem s_ior (C : CX G X cc own nm nL rt rf rl) {a b : Int} (d : decode cc pc = .ok (.ior, 1)) (k : WA fx G X Q nL (pc + 1) ls ((0, zor a b) :: st) rc rs w M) : WA fx G X Q nL pc ls ((0, b) :: (0, a) :: st) rc rs w M := by
  intro H locs cells slots lc hR hF hS h1 h2 hL hst
  have kk := k H locs cells slots lc hR hF hS h1 h2 hL (okc (v := (0, zor a b)) (i3_rng _) (ok_tl (ok_tl hst)))
  rw [List.map_cons, cv0, zor, Int32.ofInt_toInt] at kk
  exact lv_ior C.1 C.2.1 d kk
theorem s_ixor (C : CX G X cc own nm nL rt rf rl) {a b : Int} (d : decode cc pc = .ok (.ixor, 1)) (k : WA fx G X Q nL (pc + 1) ls ((0, zxor a b) :: st) rc rs w M) : WA fx G X Q nL pc ls ((0, b) :: (0, a) :: st) rc rs w M := by
  intro H locs cells slots lc hR hF hS h1 h2 hL hst
  have kk := k H locs cells slots lc hR hF hS h1 h2 hL (okc (v := (0, zxor a b)) (i3_rng _) (ok_tl (ok_tl hst)))
  rw [List.map_cons, cv0, zxor, Int32.ofInt_toInt] at kk
  exact lv_ixor C.1 C.2.1 d kk
theorem s_ishl (C : CX G X cc own nm nL rt rf rl) {a b : Int} (d : decode cc pc = .ok (.ishl, 1)) (k : WA fx G X Q nL (pc + 1) ls ((0, zshl a b) :: st) rc rs w M) : WA fx G X Q nL pc ls ((0, b) :: (0, a) :: st) rc rs w M := by
  intro H locs cells slots lc hR hF hS h1 h2 hL hst
  have kk := k H locs cells slots lc hR hF hS h1 h2 hL (okc (v := (0, zshl a b)) (i3_rng _) (ok_tl (ok_tl hst)))
  rw [List.map_cons, cv0, zshl, Int32.ofInt_toInt] at kk
  exact lv_ishl C.1 C.2.1 d kk
theorem s_ishr (C : CX G X cc own nm nL rt rf rl) {a b : Int} (d : decode cc pc = .ok (.ishr, 1)) (k : WA fx G X Q nL (pc + 1) ls ((0, zshr a b) :: st) rc rs w M) : WA fx G X Q nL pc ls ((0, b) :: (0, a) :: st) rc rs w M := by
  intro H locs cells slots lc hR hF hS h1 h2 hL hst
  have kk := k H locs cells slots lc hR hF hS h1 h2 hL (okc (v := (0, zshr a b)) (i3_rng _) (ok_tl (ok_tl hst)))
  rw [List.map_cons, cv0, zshr, Int32.ofInt_toInt] at kk
  exact lv_ishr C.1 C.2.1 d kk
theorem s_iushr (C : CX G X cc own nm nL rt rf rl) {a b : Int} (d : decode cc pc = .ok (.iushr, 1)) (k : WA fx G X Q nL (pc + 1) ls ((0, zushr a b) :: st) rc rs w M) : WA fx G X Q nL pc ls ((0, b) :: (0, a) :: st) rc rs w M := by
  intro H locs cells slots lc hR hF hS h1 h2 hL hst
  have kk := k H locs cells slots lc hR hF hS h1 h2 hL (okc (v := (0, zushr a b)) (i3_rng _) (ok_tl (ok_tl hst)))
  rw [List.map_cons, cv0, zushr, Int32.ofInt_toInt] at kk
  exact lv_iushr C.1 C.2.1 d rfl kk
theorem s_i2l (C : CX G X cc own nm nL rt rf rl) {a : Int} (d : decode cc pc = .ok (.i2l, 1)) (k : WA fx G X Q nL (pc + 1) ls ((1, a) :: st) rc rs w M) : WA fx G X Q nL pc ls ((0, a) :: st) rc rs w M := by
  intro H locs cells slots lc hR hF hS h1 h2 hL hst
  have ha : inR a := ok_hd hst
  have kk := k H locs cells slots lc hR hF hS h1 h2 hL (okc (v := (1, a)) (inR_inL ha) (ok_tl hst))
  refine lv_i2l C.1 C.2.1 d ?_ kk
  apply Int64.toInt_inj.mp
  rw [Int32.toInt_toInt64, t3 ha, t6 (inR_inL ha)]
theorem s_l2i (C : CX G X cc own nm nL rt rf rl) {a : Int} (d : decode cc pc = .ok (.l2i, 1)) (hr : inR a) (k : WA fx G X Q nL (pc + 1) ls ((0, a) :: st) rc rs w M) : WA fx G X Q nL pc ls ((1, a) :: st) rc rs w M := by
  intro H locs cells slots lc hR hF hS h1 h2 hL hst
  have kk := k H locs cells slots lc hR hF hS h1 h2 hL (okc (v := (0, a)) hr (ok_tl hst))
  exact lv_l2i C.1 C.2.1 d Int64.toInt32_ofInt kk
theorem s_ladd (C : CX G X cc own nm nL rt rf rl) {a b : Int} (d : decode cc pc = .ok (.ladd, 1)) (hr : inL (a + b)) (k : WA fx G X Q nL (pc + 1) ls ((1, a + b) :: st) rc rs w M) : WA fx G X Q nL pc ls ((1, b) :: (1, a) :: st) rc rs w M := by
  intro H locs cells slots lc hR hF hS h1 h2 hL hst
  have kk := k H locs cells slots lc hR hF hS h1 h2 hL (okc (v := (1, a + b)) hr (ok_tl (ok_tl hst)))
  rw [List.map_cons, cv1, Int64.ofInt_add] at kk
  exact lv_ladd C.1 C.2.1 d kk
theorem s_lmul (C : CX G X cc own nm nL rt rf rl) {a b : Int} (d : decode cc pc = .ok (.lmul, 1)) (hr : inL (a * b)) (k : WA fx G X Q nL (pc + 1) ls ((1, a * b) :: st) rc rs w M) : WA fx G X Q nL pc ls ((1, b) :: (1, a) :: st) rc rs w M := by
  intro H locs cells slots lc hR hF hS h1 h2 hL hst
  have kk := k H locs cells slots lc hR hF hS h1 h2 hL (okc (v := (1, a * b)) hr (ok_tl (ok_tl hst)))
  rw [List.map_cons, cv1, Int64.ofInt_mul] at kk
  exact lv_lmul C.1 C.2.1 d kk
theorem i6_div {a b : Int} (ha : inL a) (hb : inL b) (h0 : 0 ≤ a) (hb0 : 0 < b) : Int64.ofInt a / Int64.ofInt b = Int64.ofInt (a / b) := by
  apply Int64.toInt_inj.mp
  have hq : inL (a / b) := ⟨by have := Int.ediv_nonneg h0 (Int.le_of_lt hb0); omega, by have := Int.ediv_le_self b h0; have := ha.2; omega⟩
  have hne : Int64.ofInt b ≠ -1 := by
    intro e
    have := congrArg Int64.toInt e
    rw [t6 hb] at this
    have h2 : (-1 : Int64).toInt = -1 := rfl
    omega
  rw [Int64.toInt_div_of_ne_right _ _ hne, t6 ha, t6 hb, t6 hq, Int.tdiv_eq_ediv_of_nonneg h0]
theorem s_ldiv (C : CX G X cc own nm nL rt rf rl) {a b : Int} (d : decode cc pc = .ok (.ldiv, 1)) (h0 : 0 ≤ a) (hb0 : 0 < b) (k : WA fx G X Q nL (pc + 1) ls ((1, a / b) :: st) rc rs w M) : WA fx G X Q nL pc ls ((1, b) :: (1, a) :: st) rc rs w M := by
  intro H locs cells slots lc hR hF hS h1 h2 hL hst
  have hb : inL b := ok_hd hst
  have ha : inL a := ok_hd (ok_tl hst)
  have hq : inL (a / b) := ⟨by have := Int.ediv_nonneg h0 (Int.le_of_lt hb0); omega, by have := Int.ediv_le_self b h0; have := ha.2; omega⟩
  have kk := k H locs cells slots lc hR hF hS h1 h2 hL (okc (v := (1, a / b)) hq (ok_tl (ok_tl hst)))
  rw [List.map_cons, cv1, ← i6_div ha hb h0 hb0] at kk
  refine lv_ldiv C.1 C.2.1 d ?_ kk
  intro e
  have := congrArg Int64.toInt e
  rw [t6 hb] at this
  have h2 : (0 : Int64).toInt = 0 := rfl
  omega
theorem s_lrem (C : CX G X cc own nm nL rt rf rl) {a b : Int} (d : decode cc pc = .ok (.lrem, 1)) (h0 : 0 ≤ a) (hb0 : 0 < b) (k : WA fx G X Q nL (pc + 1) ls ((1, a % b) :: st) rc rs w M) : WA fx G X Q nL pc ls ((1, b) :: (1, a) :: st) rc rs w M := by
  intro H locs cells slots lc hR hF hS h1 h2 hL hst
  have hb : inL b := ok_hd hst
  have ha : inL a := ok_hd (ok_tl hst)
  have hq : inL (a % b) := ⟨by have := Int.emod_nonneg a (show b ≠ 0 by omega); omega, by have := Int.emod_lt_of_pos a hb0; have := hb.2; omega⟩
  have kk := k H locs cells slots lc hR hF hS h1 h2 hL (okc (v := (1, a % b)) hq (ok_tl (ok_tl hst)))
  rw [List.map_cons, cv1, show a % b = a - a / b * b from by have := Int.emod_add_mul_ediv a b; rw [Int.mul_comm] at this; omega, Int64.ofInt_sub, Int64.ofInt_mul, ← i6_div ha hb h0 hb0] at kk
  refine lv_lrem C.1 C.2.1 d ?_ kk
  intro e
  have := congrArg Int64.toInt e
  rw [t6 hb] at this
  have h2 : (0 : Int64).toInt = 0 := rfl
  omega
theorem s_lcmp (C : CX G X cc own nm nL rt rf rl) {a b : Int} (d : decode cc pc = .ok (.lcmp, 1)) (k : WA fx G X Q nL (pc + 1) ls ((0, lcm3 a b) :: st) rc rs w M) : WA fx G X Q nL pc ls ((1, b) :: (1, a) :: st) rc rs w M := by
  intro H locs cells slots lc hR hF hS h1 h2 hL hst
  have hb : inL b := ok_hd hst
  have ha : inL a := ok_hd (ok_tl hst)
  have hq : inR (lcm3 a b) := by unfold lcm3 inR; split <;> (try split) <;> omega
  have kk := k H locs cells slots lc hR hF hS h1 h2 hL (okc (v := (0, lcm3 a b)) hq (ok_tl (ok_tl hst)))
  refine W.lcmp C.1 C.2.1 d ?_
  have e : lg_cmp (Int64.ofInt a) (Int64.ofInt b) = Int32.ofInt (lcm3 a b) := by
    unfold lg_cmp lcm3
    simp only [i6_lt ha hb, i6_lt hb ha, i6_eq ha hb]
    repeat' split
    all_goals first | rfl | omega
  rw [e]
  exact kk
theorem s_dup (C : CX G X cc own nm nL rt rf rl) {v : LV} (hv : v.1 ≠ 1) (d : decode cc pc = .ok (.dup, 1)) (k : WA fx G X Q nL (pc + 1) ls (v :: v :: st) rc rs w M) : WA fx G X Q nL pc ls (v :: st) rc rs w M := by
  intro H locs cells slots lc hR hF hS h1 h2 hL hst
  exact lv_dup C.1 C.2.1 d (by rw [cat_cv, if_neg hv]) (k H locs cells slots lc hR hF hS h1 h2 hL (okc (ok_hd hst) hst))
theorem s_pop (C : CX G X cc own nm nL rt rf rl) {v : LV} (hv : v.1 ≠ 1) (d : decode cc pc = .ok (.pop, 1)) (k : WA fx G X Q nL (pc + 1) ls st rc rs w M) : WA fx G X Q nL pc ls (v :: st) rc rs w M := by
  intro H locs cells slots lc hR hF hS h1 h2 hL hst
  exact lv_pop C.1 C.2.1 d (by rw [cat_cv, if_neg hv]) (k H locs cells slots lc hR hF hS h1 h2 hL (ok_tl hst))
theorem s_dup_x1 (C : CX G X cc own nm nL rt rf rl) {v u : LV} (hv : v.1 ≠ 1) (hu : u.1 ≠ 1) (d : decode cc pc = .ok (.dup_x1, 1)) (k : WA fx G X Q nL (pc + 1) ls (v :: u :: v :: st) rc rs w M) : WA fx G X Q nL pc ls (v :: u :: st) rc rs w M := by
  intro H locs cells slots lc hR hF hS h1 h2 hL hst
  exact lv_dup_x1 C.1 C.2.1 d (by rw [cat_cv, if_neg hv]) (by rw [cat_cv, if_neg hu]) (k H locs cells slots lc hR hF hS h1 h2 hL (okc (ok_hd hst) (okc (ok_hd (ok_tl hst)) (okc (ok_hd hst) (ok_tl (ok_tl hst))))))
theorem s_dup2 (C : CX G X cc own nm nL rt rf rl) {v u : LV} (hv : v.1 ≠ 1) (hu : u.1 ≠ 1) (d : decode cc pc = .ok (.dup2, 1)) (k : WA fx G X Q nL (pc + 1) ls (v :: u :: v :: u :: st) rc rs w M) : WA fx G X Q nL pc ls (v :: u :: st) rc rs w M := by
  intro H locs cells slots lc hR hF hS h1 h2 hL hst
  exact lv_dup2_11 C.1 C.2.1 d (by rw [cat_cv, if_neg hv]) (by rw [cat_cv, if_neg hu]) (k H locs cells slots lc hR hF hS h1 h2 hL (okc (ok_hd hst) (okc (ok_hd (ok_tl hst)) hst)))
theorem s_goto (C : CX G X cc own nm nL rt rf rl) {off : Int} {tgt : Nat} (d : decode cc pc = .ok (.goto off, 3)) (ht : (pc : Int) + off = (tgt : Int)) (k : WA fx G X Q nL tgt ls st rc rs w M) : WA fx G X Q nL pc ls st rc rs w M := by
  intro H locs cells slots lc hR hF hS h1 h2 hL hst
  exact lv_goto C.1 C.2.1 d ht (k H locs cells slots lc hR hF hS h1 h2 hL hst)
theorem s_ifeq (C : CX G X cc own nm nL rt rf rl) {a off : Int} {tgt : Nat} (d : decode cc pc = .ok (.ifCond .eq off, 3)) (ht : (pc : Int) + off = (tgt : Int)) (kt : a = 0 → WA fx G X Q nL tgt ls st rc rs w M) (kf : ¬ (a = 0) → WA fx G X Q nL (pc + 3) ls st rc rs w M) : WA fx G X Q nL pc ls ((0, a) :: st) rc rs w M := by
  intro H locs cells slots lc hR hF hS h1 h2 hL hst
  have ha : inR a := ok_hd hst
  refine lv_if_eq C.1 C.2.1 d ht (fun h => kt ?_ H locs cells slots lc hR hF hS h1 h2 hL (ok_tl hst)) (fun h => kf ?_ H locs cells slots lc hR hF hS h1 h2 hL (ok_tl hst))
  all_goals (first | simpa only [i3_eq0 ha, i3_lt0 ha, i3_0le ha, i3_0lt ha, i3_le0 ha, ne_eq] using h | (have h' := h; simp only [i3_eq0 ha, i3_lt0 ha, i3_0le ha, i3_0lt ha, i3_le0 ha, ne_eq, ge_iff_le, gt_iff_lt] at h'; omega))
theorem s_ifne (C : CX G X cc own nm nL rt rf rl) {a off : Int} {tgt : Nat} (d : decode cc pc = .ok (.ifCond .ne off, 3)) (ht : (pc : Int) + off = (tgt : Int)) (kt : a ≠ 0 → WA fx G X Q nL tgt ls st rc rs w M) (kf : ¬ (a ≠ 0) → WA fx G X Q nL (pc + 3) ls st rc rs w M) : WA fx G X Q nL pc ls ((0, a) :: st) rc rs w M := by
  intro H locs cells slots lc hR hF hS h1 h2 hL hst
  have ha : inR a := ok_hd hst
  refine lv_if_ne C.1 C.2.1 d ht (fun h => kt ?_ H locs cells slots lc hR hF hS h1 h2 hL (ok_tl hst)) (fun h => kf ?_ H locs cells slots lc hR hF hS h1 h2 hL (ok_tl hst))
  all_goals (first | simpa only [i3_eq0 ha, i3_lt0 ha, i3_0le ha, i3_0lt ha, i3_le0 ha, ne_eq] using h | (have h' := h; simp only [i3_eq0 ha, i3_lt0 ha, i3_0le ha, i3_0lt ha, i3_le0 ha, ne_eq, ge_iff_le, gt_iff_lt] at h'; omega))
theorem s_iflt (C : CX G X cc own nm nL rt rf rl) {a off : Int} {tgt : Nat} (d : decode cc pc = .ok (.ifCond .lt off, 3)) (ht : (pc : Int) + off = (tgt : Int)) (kt : a < 0 → WA fx G X Q nL tgt ls st rc rs w M) (kf : ¬ (a < 0) → WA fx G X Q nL (pc + 3) ls st rc rs w M) : WA fx G X Q nL pc ls ((0, a) :: st) rc rs w M := by
  intro H locs cells slots lc hR hF hS h1 h2 hL hst
  have ha : inR a := ok_hd hst
  refine lv_if_lt C.1 C.2.1 d ht (fun h => kt ?_ H locs cells slots lc hR hF hS h1 h2 hL (ok_tl hst)) (fun h => kf ?_ H locs cells slots lc hR hF hS h1 h2 hL (ok_tl hst))
  all_goals (first | simpa only [i3_eq0 ha, i3_lt0 ha, i3_0le ha, i3_0lt ha, i3_le0 ha, ne_eq] using h | (have h' := h; simp only [i3_eq0 ha, i3_lt0 ha, i3_0le ha, i3_0lt ha, i3_le0 ha, ne_eq, ge_iff_le, gt_iff_lt] at h'; omega))
theorem s_ifge (C : CX G X cc own nm nL rt rf rl) {a off : Int} {tgt : Nat} (d : decode cc pc = .ok (.ifCond .ge off, 3)) (ht : (pc : Int) + off = (tgt : Int)) (kt : 0 ≤ a → WA fx G X Q nL tgt ls st rc rs w M) (kf : ¬ (0 ≤ a) → WA fx G X Q nL (pc + 3) ls st rc rs w M) : WA fx G X Q nL pc ls ((0, a) :: st) rc rs w M := by
  intro H locs cells slots lc hR hF hS h1 h2 hL hst
  have ha : inR a := ok_hd hst
  refine lv_if_ge C.1 C.2.1 d ht (fun h => kt ?_ H locs cells slots lc hR hF hS h1 h2 hL (ok_tl hst)) (fun h => kf ?_ H locs cells slots lc hR hF hS h1 h2 hL (ok_tl hst))
  all_goals (first | simpa only [i3_eq0 ha, i3_lt0 ha, i3_0le ha, i3_0lt ha, i3_le0 ha, ne_eq] using h | (have h' := h; simp only [i3_eq0 ha, i3_lt0 ha, i3_0le ha, i3_0lt ha, i3_le0 ha, ne_eq, ge_iff_le, gt_iff_lt] at h'; omega))
theorem s_ifgt (C : CX G X cc own nm nL rt rf rl) {a off : Int} {tgt : Nat} (d : decode cc pc = .ok (.ifCond .gt off, 3)) (ht : (pc : Int) + off = (tgt : Int)) (kt : 0 < a → WA fx G X Q nL tgt ls st rc rs w M) (kf : ¬ (0 < a) → WA fx G X Q nL (pc + 3) ls st rc rs w M) : WA fx G X Q nL pc ls ((0, a) :: st) rc rs w M := by
  intro H locs cells slots lc hR hF hS h1 h2 hL hst
  have ha : inR a := ok_hd hst
  refine lv_if_gt C.1 C.2.1 d ht (fun h => kt ?_ H locs cells slots lc hR hF hS h1 h2 hL (ok_tl hst)) (fun h => kf ?_ H locs cells slots lc hR hF hS h1 h2 hL (ok_tl hst))
  all_goals (first | simpa only [i3_eq0 ha, i3_lt0 ha, i3_0le ha, i3_0lt ha, i3_le0 ha, ne_eq] using h | (have h' := h; simp only [i3_eq0 ha, i3_lt0 ha, i3_0le ha, i3_0lt ha, i3_le0 ha, ne_eq, ge_iff_le, gt_iff_lt] at h'; omega))
theorem s_ifle (C : CX G X cc own nm nL rt rf rl) {a off : Int} {tgt : Nat} (d : decode cc pc = .ok (.ifCond .le off, 3)) (ht : (pc : Int) + off = (tgt : Int)) (kt : a ≤ 0 → WA fx G X Q nL tgt ls st rc rs w M) (kf : ¬ (a ≤ 0) → WA fx G X Q nL (pc + 3) ls st rc rs w M) : WA fx G X Q nL pc ls ((0, a) :: st) rc rs w M := by
  intro H locs cells slots lc hR hF hS h1 h2 hL hst
  have ha : inR a := ok_hd hst
  refine lv_if_le C.1 C.2.1 d ht (fun h => kt ?_ H locs cells slots lc hR hF hS h1 h2 hL (ok_tl hst)) (fun h => kf ?_ H locs cells slots lc hR hF hS h1 h2 hL (ok_tl hst))
  all_goals (first | simpa only [i3_eq0 ha, i3_lt0 ha, i3_0le ha, i3_0lt ha, i3_le0 ha, ne_eq] using h | (have h' := h; simp only [i3_eq0 ha, i3_lt0 ha, i3_0le ha, i3_0lt ha, i3_le0 ha, ne_eq, ge_iff_le, gt_iff_lt] at h'; omega))
theorem s_icmpeq (C : CX G X cc own nm nL rt rf rl) {a b off : Int} {tgt : Nat} (d : decode cc pc = .ok (.if_icmp .eq off, 3)) (ht : (pc : Int) + off = (tgt : Int)) (kt : a = b → WA fx G X Q nL tgt ls st rc rs w M) (kf : ¬ (a = b) → WA fx G X Q nL (pc + 3) ls st rc rs w M) : WA fx G X Q nL pc ls ((0, b) :: (0, a) :: st) rc rs w M := by
  intro H locs cells slots lc hR hF hS h1 h2 hL hst
  have hb : inR b := ok_hd hst
  have ha : inR a := ok_hd (ok_tl hst)
  refine lv_icmp_eq C.1 C.2.1 d ht (fun h => kt ?_ H locs cells slots lc hR hF hS h1 h2 hL (ok_tl (ok_tl hst))) (fun h => kf ?_ H locs cells slots lc hR hF hS h1 h2 hL (ok_tl (ok_tl hst)))
  all_goals (first | simpa only [i3_eq ha hb, i3_lt ha hb, i3_lt hb ha, i3_le ha hb, i3_le hb ha, ne_eq] using h | (have h' := h; simp only [i3_eq ha hb, i3_lt ha hb, i3_lt hb ha, i3_le ha hb, i3_le hb ha, ne_eq, ge_iff_le, gt_iff_lt] at h'; omega))
theorem s_icmpne (C : CX G X cc own nm nL rt rf rl) {a b off : Int} {tgt : Nat} (d : decode cc pc = .ok (.if_icmp .ne off, 3)) (ht : (pc : Int) + off = (tgt : Int)) (kt : a ≠ b → WA fx G X Q nL tgt ls st rc rs w M) (kf : ¬ (a ≠ b) → WA fx G X Q nL (pc + 3) ls st rc rs w M) : WA fx G X Q nL pc ls ((0, b) :: (0, a) :: st) rc rs w M := by
  intro H locs cells slots lc hR hF hS h1 h2 hL hst
  have hb : inR b := ok_hd hst
  have ha : inR a := ok_hd (ok_tl hst)
  refine lv_icmp_ne C.1 C.2.1 d ht (fun h => kt ?_ H locs cells slots lc hR hF hS h1 h2 hL (ok_tl (ok_tl hst))) (fun h => kf ?_ H locs cells slots lc hR hF hS h1 h2 hL (ok_tl (ok_tl hst)))
  all_goals (first | simpa only [i3_eq ha hb, i3_lt ha hb, i3_lt hb ha, i3_le ha hb, i3_le hb ha, ne_eq] using h | (have h' := h; simp only [i3_eq ha hb, i3_lt ha hb, i3_lt hb ha, i3_le ha hb, i3_le hb ha, ne_eq, ge_iff_le, gt_iff_lt] at h'; omega))
theorem s_icmplt (C : CX G X cc own nm nL rt rf rl) {a b off : Int} {tgt : Nat} (d : decode cc pc = .ok (.if_icmp .lt off, 3)) (ht : (pc : Int) + off = (tgt : Int)) (kt : a < b → WA fx G X Q nL tgt ls st rc rs w M) (kf : ¬ (a < b) → WA fx G X Q nL (pc + 3) ls st rc rs w M) : WA fx G X Q nL pc ls ((0, b) :: (0, a) :: st) rc rs w M := by
  intro H locs cells slots lc hR hF hS h1 h2 hL hst
  have hb : inR b := ok_hd hst
  have ha : inR a := ok_hd (ok_tl hst)
  refine lv_icmp_lt C.1 C.2.1 d ht (fun h => kt ?_ H locs cells slots lc hR hF hS h1 h2 hL (ok_tl (ok_tl hst))) (fun h => kf ?_ H locs cells slots lc hR hF hS h1 h2 hL (ok_tl (ok_tl hst)))
  all_goals (first | simpa only [i3_eq ha hb, i3_lt ha hb, i3_lt hb ha, i3_le ha hb, i3_le hb ha, ne_eq] using h | (have h' := h; simp only [i3_eq ha hb, i3_lt ha hb, i3_lt hb ha, i3_le ha hb, i3_le hb ha, ne_eq, ge_iff_le, gt_iff_lt] at h'; omega))
theorem s_icmpge (C : CX G X cc own nm nL rt rf rl) {a b off : Int} {tgt : Nat} (d : decode cc pc = .ok (.if_icmp .ge off, 3)) (ht : (pc : Int) + off = (tgt : Int)) (kt : b ≤ a → WA fx G X Q nL tgt ls st rc rs w M) (kf : ¬ (b ≤ a) → WA fx G X Q nL (pc + 3) ls st rc rs w M) : WA fx G X Q nL pc ls ((0, b) :: (0, a) :: st) rc rs w M := by
  intro H locs cells slots lc hR hF hS h1 h2 hL hst
  have hb : inR b := ok_hd hst
  have ha : inR a := ok_hd (ok_tl hst)
  refine lv_icmp_ge C.1 C.2.1 d ht (fun h => kt ?_ H locs cells slots lc hR hF hS h1 h2 hL (ok_tl (ok_tl hst))) (fun h => kf ?_ H locs cells slots lc hR hF hS h1 h2 hL (ok_tl (ok_tl hst)))
  all_goals (first | simpa only [i3_eq ha hb, i3_lt ha hb, i3_lt hb ha, i3_le ha hb, i3_le hb ha, ne_eq] using h | (have h' := h; simp only [i3_eq ha hb, i3_lt ha hb, i3_lt hb ha, i3_le ha hb, i3_le hb ha, ne_eq, ge_iff_le, gt_iff_lt] at h'; omega))
theorem s_icmpgt (C : CX G X cc own nm nL rt rf rl) {a b off : Int} {tgt : Nat} (d : decode cc pc = .ok (.if_icmp .gt off, 3)) (ht : (pc : Int) + off = (tgt : Int)) (kt : b < a → WA fx G X Q nL tgt ls st rc rs w M) (kf : ¬ (b < a) → WA fx G X Q nL (pc + 3) ls st rc rs w M) : WA fx G X Q nL pc ls ((0, b) :: (0, a) :: st) rc rs w M := by
  intro H locs cells slots lc hR hF hS h1 h2 hL hst
  have hb : inR b := ok_hd hst
  have ha : inR a := ok_hd (ok_tl hst)
  refine lv_icmp_gt C.1 C.2.1 d ht (fun h => kt ?_ H locs cells slots lc hR hF hS h1 h2 hL (ok_tl (ok_tl hst))) (fun h => kf ?_ H locs cells slots lc hR hF hS h1 h2 hL (ok_tl (ok_tl hst)))
  all_goals (first | simpa only [i3_eq ha hb, i3_lt ha hb, i3_lt hb ha, i3_le ha hb, i3_le hb ha, ne_eq] using h | (have h' := h; simp only [i3_eq ha hb, i3_lt ha hb, i3_lt hb ha, i3_le ha hb, i3_le hb ha, ne_eq, ge_iff_le, gt_iff_lt] at h'; omega))
theorem s_icmple (C : CX G X cc own nm nL rt rf rl) {a b off : Int} {tgt : Nat} (d : decode cc pc = .ok (.if_icmp .le off, 3)) (ht : (pc : Int) + off = (tgt : Int)) (kt : a ≤ b → WA fx G X Q nL tgt ls st rc rs w M) (kf : ¬ (a ≤ b) → WA fx G X Q nL (pc + 3) ls st rc rs w M) : WA fx G X Q nL pc ls ((0, b) :: (0, a) :: st) rc rs w M := by
  intro H locs cells slots lc hR hF hS h1 h2 hL hst
  have hb : inR b := ok_hd hst
  have ha : inR a := ok_hd (ok_tl hst)
  refine lv_icmp_le C.1 C.2.1 d ht (fun h => kt ?_ H locs cells slots lc hR hF hS h1 h2 hL (ok_tl (ok_tl hst))) (fun h => kf ?_ H locs cells slots lc hR hF hS h1 h2 hL (ok_tl (ok_tl hst)))
  all_goals (first | simpa only [i3_eq ha hb, i3_lt ha hb, i3_lt hb ha, i3_le ha hb, i3_le hb ha, ne_eq] using h | (have h' := h; simp only [i3_eq ha hb, i3_lt ha hb, i3_lt hb ha, i3_le ha hb, i3_le hb ha, ne_eq, ge_iff_le, gt_iff_lt] at h'; omega))
theorem s_ifnull (C : CX G X cc own nm nL rt rf rl) {a off : Int} {tgt : Nat} (d : decode cc pc = .ok (.ifnull off, 3)) (ht : (pc : Int) + off = (tgt : Int)) (kt : a = 0 → WA fx G X Q nL tgt ls st rc rs w M) (kf : ¬ a = 0 → WA fx G X Q nL (pc + 3) ls st rc rs w M) : WA fx G X Q nL pc ls ((2, a) :: st) rc rs w M := by
  intro H locs cells slots lc hR hF hS h1 h2 hL hst
  by_cases ha : a = 0
  · have kk := kt ha H locs cells slots lc hR hF hS h1 h2 hL (ok_tl hst)
    rw [List.map_cons, cv2, ha, rfv0]
    exact lv_ifnullN C.1 C.2.1 d ht kk
  · have kk := kf ha H locs cells slots lc hR hF hS h1 h2 hL (ok_tl hst)
    obtain ⟨q, hq⟩ := rfv_ne G ha
    rw [List.map_cons, cv2, hq]
    exact lv_ifnull C.1 C.2.1 d kk
theorem s_ifnonnull (C : CX G X cc own nm nL rt rf rl) {a off : Int} {tgt : Nat} (d : decode cc pc = .ok (.ifnonnull off, 3)) (ht : (pc : Int) + off = (tgt : Int)) (kt : a ≠ 0 → WA fx G X Q nL tgt ls st rc rs w M) (kf : ¬ a ≠ 0 → WA fx G X Q nL (pc + 3) ls st rc rs w M) : WA fx G X Q nL pc ls ((2, a) :: st) rc rs w M := by
  intro H locs cells slots lc hR hF hS h1 h2 hL hst
  by_cases ha : a = 0
  · have kk := kf (fun h => h ha) H locs cells slots lc hR hF hS h1 h2 hL (ok_tl hst)
    rw [List.map_cons, cv2, ha, rfv0]
    exact lv_ifnonnullN C.1 C.2.1 d kk
  · have kk := kt ha H locs cells slots lc hR hF hS h1 h2 hL (ok_tl hst)
    obtain ⟨q, hq⟩ := rfv_ne G ha
    rw [List.map_cons, cv2, hq]
    exact lv_ifnonnull C.1 C.2.1 d ht kk
theorem s_acmpeq (C : CX G X cc own nm nL rt rf rl) {a b off : Int} {tgt : Nat} (d : decode cc pc = .ok (.if_acmp .eq off, 3)) (ht : (pc : Int) + off = (tgt : Int)) (h0 : 0 ≤ a) (h0' : 0 ≤ b) (kt : a = b → WA fx G X Q nL tgt ls st rc rs w M) (kf : ¬ a = b → WA fx G X Q nL (pc + 3) ls st rc rs w M) : WA fx G X Q nL pc ls ((2, b) :: (2, a) :: st) rc rs w M := by
  intro H locs cells slots lc hR hF hS h1 h2 hL hst
  exact lv_acmp_eq C.1 C.2.1 d ht (fun h => kt ((rfv_inj G h0 h0').mp h) H locs cells slots lc hR hF hS h1 h2 hL (ok_tl (ok_tl hst))) (fun h => kf (fun e => h ((rfv_inj G h0 h0').mpr e)) H locs cells slots lc hR hF hS h1 h2 hL (ok_tl (ok_tl hst)))
theorem s_acmpne (C : CX G X cc own nm nL rt rf rl) {a b off : Int} {tgt : Nat} (d : decode cc pc = .ok (.if_acmp .ne off, 3)) (ht : (pc : Int) + off = (tgt : Int)) (h0 : 0 ≤ a) (h0' : 0 ≤ b) (kt : a ≠ b → WA fx G X Q nL tgt ls st rc rs w M) (kf : ¬ a ≠ b → WA fx G X Q nL (pc + 3) ls st rc rs w M) : WA fx G X Q nL pc ls ((2, b) :: (2, a) :: st) rc rs w M := by
  intro H locs cells slots lc hR hF hS h1 h2 hL hst
  refine lv_acmp_ne C.1 C.2.1 d ht (fun h => kt ?_ H locs cells slots lc hR hF hS h1 h2 hL (ok_tl (ok_tl hst))) (fun h => kf ?_ H locs cells slots lc hR hF hS h1 h2 hL (ok_tl (ok_tl hst)))
  · intro e; exact h ((rfv_inj G h0 h0').mpr e)
  · intro e; exact e ((rfv_inj G h0 h0').mp h)
theorem s_aconst (C : CX G X cc own nm nL rt rf rl) (d : decode cc pc = .ok (.aconst_null, 1)) (k : WA fx G X Q nL (pc + 1) ls ((2, 0) :: st) rc rs w M) : WA fx G X Q nL pc ls st rc rs w M := by
  intro H locs cells slots lc hR hF hS h1 h2 hL hst
  exact lv_null C.1 C.2.1 d (k H locs cells slots lc hR hF hS h1 h2 hL (okc ok2 hst))
theorem s_tabOut (C : CX G X cc own nm nL rt rf rl) {z dflt lo hi : Int} {offs : Array Int} {len tgt : Nat} (d : decode cc pc = .ok (.tableswitch dflt lo hi offs, len)) (h : z < lo ∨ hi < z) (ht : (pc : Int) + dflt = (tgt : Int)) (k : WA fx G X Q nL tgt ls st rc rs w M) : WA fx G X Q nL pc ls ((0, z) :: st) rc rs w M := by
  intro H locs cells slots lc hR hF hS h1 h2 hL hst
  have hz : inR z := ok_hd hst
  exact lv_tableOut C.1 C.2.1 d (by rw [t3 hz]; exact h) ht (k H locs cells slots lc hR hF hS h1 h2 hL (ok_tl hst))
theorem s_tabIn (C : CX G X cc own nm nL rt rf rl) {z v dflt lo hi off : Int} {offs : Array Int} {len tgt : Nat} (d : decode cc pc = .ok (.tableswitch dflt lo hi offs, len)) (hv : z = v) (hl : ¬ v < lo) (hh : ¬ hi < v) (ho : offs[(v - lo).toNat]? = some off) (ht : (pc : Int) + off = (tgt : Int)) (k : WA fx G X Q nL tgt ls st rc rs w M) : WA fx G X Q nL pc ls ((0, z) :: st) rc rs w M := by
  intro H locs cells slots lc hR hF hS h1 h2 hL hst
  have hz : inR z := ok_hd hst
  subst hv
  exact lv_tableIn C.1 C.2.1 d (by rw [t3 hz]; exact hl) (by rw [t3 hz]; exact hh) (by rw [t3 hz]; exact ho) ht (k H locs cells slots lc hR hF hS h1 h2 hL (ok_tl hst))
theorem s_lookup (C : CX G X cc own nm nL rt rf rl) {z dflt off : Int} {ps : Array (Int × Int)} {len tgt : Nat} (d : decode cc pc = .ok (.lookupswitch dflt ps, len)) (hp : (ps.toList.zip (ps.toList.drop 1)).all (fun (a, next) => a.1 < next.1) = true) (ho : Op.lookupswitch.offset ps.toList dflt z = off) (ht : (pc : Int) + off = (tgt : Int)) (k : WA fx G X Q nL tgt ls st rc rs w M) : WA fx G X Q nL pc ls ((0, z) :: st) rc rs w M := by
  intro H locs cells slots lc hR hF hS h1 h2 hL hst
  have hz : inR z := ok_hd hst
  exact lv_lookup C.1 C.2.1 d hp (by rw [t3 hz]; exact ho) ht (k H locs cells slots lc hR hF hS h1 h2 hL (ok_tl hst))
/-! fields -/
theorem EE_obj (G : GP) {t : Nat} (n : Nat) (f : Int → Int) (ht : t < 12) : EE G t n f = .inr (t - 1, fvs G (kls.getD (t - 1) []) f) := by unfold EE; rw [if_pos ht]
theorem s_getf (C : CX G X cc own nm nL rt rf rl) {a : Int} {ci n N idx kd k : Nat} {ref Cn : String} {T : u_T} (hs : w.2 a = (ci + 1, n)) (hci : ci < 11) (hc : vwCl[ci]? = some (Cn, T, N)) (hin : ∀ x ∈ u_ws Cn T N, x ∈ gtbl) (hk : k < N) (hkd : (kls.getD ci [])[k]? = some kd) {v0 : Int} (hv0 : M a k = v0) (hT1 : (T k).1 = ref)
    (hlink : Cond.fieldLink own idx ref (T k).2.1 (T k).2.2.1 ∈ gtbl) (d : decode cc pc = .ok (.getfield idx, 3)) (kk : WA fx G X Q nL (pc + 3) ls ((kd, v0) :: st) rc rs w M) : WA fx G X Q nL pc ls ((2, a) :: st) rc rs w M := by
  intro H locs cells slots lc hR hF hS h1 h2 hL hst
  subst hv0
  obtain ⟨a0, a1, a2, a3, a4⟩ := hR.at hs (Nat.succ_pos _)
  have hkl : k < (kls.getD ci []).length := (List.getElem?_eq_some_iff.mp hkd).1
  rw [EE_obj G n _ (by omega), Nat.add_sub_cancel] at a3
  rw [List.map_cons, cv2, a2]
  have hP : va_P G.2.1 vwCl [(G.1 + a.toNat, .inr (ci, fvs G (kls.getD ci []) (M a)))] H := fun j q hj => by
    have hz : j < 1 := (List.getElem?_eq_some_iff.mp hj).1
    rw [show j = 0 by omega] at hj
    cases hj
    exact a3
  have hv : (fvs G (kls.getD ci []) (M a))[k]? = some (cv G (kd, M a k)) := by
    rw [fvs_get G _ _ hkl, List.getD_eq_getElem?_getD, hkd]; rfl
  have hok : okV (kd, M a k) := by
    have h := hR.okk hs (Nat.succ_pos _) k
    have e : kdS (ci + 1) (k : Int) = kd := by
      unfold kdS
      rw [if_pos (by omega), Nat.add_sub_cancel, Int.toNat_natCast, List.getD_eq_getElem?_getD, hkd]; rfl
    rw [e] at h
    exact h
  exact va_get C.1 C.2.1 C.2.2.2.2.1 hin C.2.2.2.1 C.k hP 0 rfl hc k hk (C.2.2.2.2.1 _ hlink) (fun x h => by rw [← hT1]; exact h) hv d (kk H locs cells slots lc hR hF hS h1 h2 hL (okc hok (ok_tl hst)))
def fitK (ty : FieldType) (kd : Nat) : Bool := match ty with
  | .int => kd == 0
  | .boolean => kd == 5
  | .object _ => kd == 2
  | .array _ => kd == 2
  | _ => false
theorem fit_ok {G : GP} {ty : FieldType} {kd : Nat} {v : Int} (h : fitK ty kd = true) (hb : kd = 5 → v = 0 ∨ v = 1) : narrow ty (cv G (kd % 5, v)) = cv G (kd % 5, v) ∧ fits ty (cv G (kd % 5, v)) = true := by
  cases ty with
  | int => simp only [fitK, beq_iff_eq] at h; subst h; exact ⟨rfl, rfl⟩
  | boolean => simp only [fitK, beq_iff_eq] at h; subst h; exact ⟨i3_bool (hb rfl), i3_fitb (hb rfl)⟩
  | object c => simp only [fitK, beq_iff_eq] at h; subst h; show narrow _ (cv G (2, v)) = cv G (2, v) ∧ fits _ (cv G (2, v)) = true; rw [cv2]; cases rfv G v <;> exact ⟨rfl, rfl⟩
  | array c => simp only [fitK, beq_iff_eq] at h; subst h; show narrow _ (cv G (2, v)) = cv G (2, v) ∧ fits _ (cv G (2, v)) = true; rw [cv2]; cases rfv G v <;> exact ⟨rfl, rfl⟩
  | _ => simp [fitK] at h
theorem fvs_set {G : GP} {ks : List Nat} {M : MM} {a v : Int} {k kd : Nat} (hkd : ks[k]? = some kd) (j : Nat) : updV (vp_V (fvs G ks (M a))) k (cv G (kd, v)) j = vp_V (fvs G ks (up M a k v a)) j := by
  have hk : k < ks.length := (List.getElem?_eq_some_iff.mp hkd).1
  unfold updV vp_V
  by_cases e : j = k
  · subst e
    rw [if_pos rfl, List.getD_eq_getElem?_getD, fvs_get G _ _ hk, List.getD_eq_getElem?_getD, hkd]
    simp [up]
  · rw [if_neg e]
    by_cases hj : j < ks.length
    · rw [List.getD_eq_getElem?_getD, List.getD_eq_getElem?_getD, fvs_get G _ _ hj, fvs_get G _ _ hj]
      have : up M a k v a (j : Int) = M a j := by unfold up; rw [if_neg (by omega)]
      rw [this]
    · rw [List.getD_eq_getElem?_getD, List.getD_eq_getElem?_getD, List.getElem?_eq_none (by rw [fvs_len]; omega), List.getElem?_eq_none (by rw [fvs_len]; omega)]
theorem s_putf (C : CX G X cc own nm nL rt rf rl) {a v : Int} {ci n N idx kd k : Nat} {ref Cn : String} {T : u_T} {ty0 : Nat → FieldType} (hs : w.2 a = (ci + 1, n)) (hci : ci < 11) (hc : vwCl[ci]? = some (Cn, T, N)) (hin : ∀ x ∈ u_ws Cn T N, x ∈ gtbl) (hty : ∀ k, k < N → parseFieldDescriptor (T k).2.2.1 = some (ty0 k)) (hnm : ∀ a, a < N → ∀ b, b < N → a ≠ b → (T a).2.1 ≠ (T b).2.1) (hk : k < N) (hkd : (kls.getD ci [])[k]? = some (kd % 5)) (hT1 : (T k).1 = ref)
    (hfit : fitK (ty0 k) kd = true) (hb : kd = 5 → v = 0 ∨ v = 1) (hfin : (T k).2.2.2 = false ∨ ((T k).2.2.2 = true ∧ nm = "<init>" ∧ ref = own)) (hfo : fx = true → fixOk (ci + 1) k = true)
    (hlink : Cond.fieldLink own idx ref (T k).2.1 (T k).2.2.1 ∈ gtbl) (d : decode cc pc = .ok (.putfield idx, 3)) (kk : WA fx G X Q nL (pc + 3) ls st rc rs w (up M a k v)) : WA fx G X Q nL pc ls ((kd % 5, v) :: (2, a) :: st) rc rs w M := by
  intro H locs cells slots lc hR hF hS h1 h2 hL hst
  obtain ⟨a0, a1, a2, a3, a4⟩ := hR.at hs (Nat.succ_pos _)
  have hkl : k < (kls.getD ci []).length := (List.getElem?_eq_some_iff.mp hkd).1
  have hEE : ∀ f, EE G (ci + 1) n f = .inr (ci, fvs G (kls.getD ci []) f) := fun f => by rw [EE_obj G n f (by omega), Nat.add_sub_cancel]
  rw [hEE] at a3
  rw [List.map_cons, List.map_cons, cv2, a2]
  have hKs := C.k
  have hts := C.2.2.2.2.1
  obtain ⟨hn, hft⟩ := fit_ok (G := G) hfit hb
  have hap := va_apart (own := own) hts hin ty0 hty hnm hKs hc
  obtain ⟨r, e1, cell, q1, q2, q3, q4⟩ := a3
  have hr : r = (Cn, T, N) := Option.some.inj (e1.symm.trans hc)
  subst hr
  obtain ⟨hS1, hfc, kC, hkC, hkind⟩ := hKs.1 ci _ hc
  obtain ⟨cf, kf, fi, f, hi, hsl⟩ := hS1 k hk
  have hlay := hts _ (hin _ (u_in_lay hk))
  have hst' := (u_facts hfc hkC (u_lays hts hin hk) hi).1
  have hlk := hts _ hlink
  have hsame : X.2.2.2.2.1.fieldFound? ref (T k).2.1 (T k).2.2.1 = some (cf, kf, fi, f) := by rw [← hT1]; exact hi
  have hval : okV (kdS (ci + 1) (k : Int), v) := by
    have e : kdS (ci + 1) (k : Int) = kd % 5 := by
      unfold kdS
      rw [if_pos (by omega), Nat.add_sub_cancel, Int.toNat_natCast, List.getD_eq_getElem?_getD, hkd]; rfl
    rw [e]
    exact ok_hd hst
  have fin : ∀ (H' : Heap) (locs' : List Loc), H'[G.1 + a.toNat]? = some (cell.setSlot f.slot (cv G (kd % 5, v))) → H'.size = H.size → (∀ q, q ≠ G.1 + a.toNat → H'[q]? = H[q]?) → va_S (AA G) X.2.2.2.2.1.heap H' locs' → W X.1 X.2.1 X.2.2.1 X.2.2.2.1 X.2.2.2.2.1 X.2.2.2.2.2.1 X.2.2.2.2.2.2.1 X.2.2.2.2.2.2.2.1 X.2.2.2.2.2.2.2.2.1 X.2.2.2.2.2.2.2.2.2 H' locs' cells slots Q (F0 X.2.2.2.2.2.1 (pc + 3) lc (st.map (cv G))) := by
    intro H' locs' e1' e2' e3' hS'
    rw [hsl] at e1'
    refine kk H' locs' cells slots lc (hR.put hs (Nat.succ_pos _) hval ?_ e2' e3') (fun e => (hF e).st hs (hfo e) v) hS' h1 h2 hL (ok_tl (ok_tl hst))
    rw [hEE]
    exact ⟨_, hc, t_OB.to (V := updV (vp_V (fvs G (kls.getD ci []) (M a))) k (cv G (kd % 5, v))) ⟨_, e1', q2, q3, t_set q4 hap hk _⟩ (fun j _ => fvs_set hkd j)⟩
  rcases hfin with hfin | ⟨hfin, hini, hro⟩
  · unfold u_lay at hlay
    rw [if_neg (by rw [hfin]; decide)] at hlay
    have h6 := u_store hfc hkC hkind hlay hi (hty k hk) hn hft
    exact W.putK C.1 C.2.1 (f := f) ⟨C.2.2.2.1, hlk, ⟨_, _, _, hsame⟩, hst'⟩ (by rw [q2]; exact h6) q1 q3 (by rw [hsl]; exact k2_hasslot (q4 k hk)) rfl rfl d fun H' e1' e2' e3' => fin H' _ e1' e2' e3' (hS.put e2' e3' a4)
  · unfold u_lay at hlay
    rw [if_pos hfin] at hlay
    have hcf : X.2.2.2.2.2.1.cls = cf := by
      obtain ⟨_, _, c', _, _, _, -, -, hf', -, -, -, hown2, -⟩ := Cond.laysFinal_spec hlay
      have e1' : c' = cf := by have := hi.symm.trans hf'; simp at this; exact this.1.symm
      rw [hT1, hro] at hown2
      rw [← e1']; exact Option.some.inj (C.2.2.2.1.symm.trans hown2)
    have h6 := u_fits hfc hkC hkind (Or.inr hlay) hi (hty k hk) hn hft
    exact W.putFinK C.1 C.2.1 C.2.2.2.1 hlk hsame hst' hcf (by rw [C.2.2.2.2.2.2.2.2.2.2.1]; exact hini) (by rw [q2]; exact h6) q1 q3 (by rw [hsl]; exact k2_hasslot (q4 k hk)) rfl rfl d fun H' e1' e2' e3' => fin H' _ e1' e2' e3' (hS.put e2' e3' a4)
/-! rows -/
theorem EE_arr {G : GP} {t n q : Nat} {f : Int → Int} {H : Heap} (ht : 12 ≤ t) : va_at G.2.1 vwCl (q, EE G t n f) H ↔ H[q]? = some (arrV (G.2.2.1 t) n (fun k => cv G (ek t, f k))) := by
  unfold EE ek
  rw [if_neg (by omega)]
  by_cases h1 : t = 12 ∨ t = 14
  · have h3 : t ≠ 13 := by omega
    simp only [h1, h3, if_true, if_false]; exact Iff.rfl
  · by_cases h3 : t = 13
    · simp only [h1, h3, if_true, if_false]; exact Iff.rfl
    · simp only [h1, h3, if_false]; exact Iff.rfl
theorem kdS_arr {t : Nat} (ht : 12 ≤ t) (i : Int) : kdS t i = ek t := by unfold kdS; rw [if_neg (by omega)]
theorem Rep.arr {H : Heap} (hR : Rep G w M H) {a : Int} {t n : Nat} (hs : w.2 a = (t, n)) (ht : 12 ≤ t) : cv G (2, a) = .ref (G.1 + a.toNat) ∧ H[G.1 + a.toNat]? = some (arrV (G.2.2.1 t) n (fun k => cv G (ek t, M a k))) ∧ AA G (G.1 + a.toNat) := by
  obtain ⟨a0, a1, a2, a3, a4⟩ := hR.at hs (by omega)
  exact ⟨by rw [cv2, a2]; rfl, (EE_arr ht).mp a3, a4⟩
theorem Rep.astore {H H1 : Heap} (hR : Rep G w M H) {a i v : Int} {t n : Nat} (hs : w.2 a = (t, n)) (ht : 12 ≤ t) (hi : 0 ≤ i) (hv : okV (ek t, v)) (e : H1[G.1 + a.toNat]? = some ((arrV (G.2.2.1 t) n (fun k => cv G (ek t, M a k))).setSlot i.toNat (cv G (ek t, v)))) (hz : H1.size = H.size) (oq : ∀ q : Nat, q ≠ G.1 + a.toNat → H1[q]? = H[q]?) : Rep G w (up M a i v) H1 := by
  refine hR.put hs (by omega) (by rw [kdS_arr ht]; exact hv) ?_ hz oq
  rw [EE_arr ht, e, arrV_store]
  congr 2
  funext k
  unfold updV up
  by_cases e2 : k = i.toNat
  · rw [if_pos e2, if_pos ⟨rfl, by omega⟩]
  · rw [if_neg e2, if_neg (by omega)]
theorem s_iald (C : CX G X cc own nm nL rt rf rl) {a i : Int} {n : Nat} (hs : w.2 a = (12, n)) (h0 : 0 ≤ i) (hn : i < (n : Int)) (d : decode cc pc = .ok (.iaload, 1)) {v0 : Int} (hv0 : M a i = v0) (k : WA fx G X Q nL (pc + 1) ls ((0, v0) :: st) rc rs w M) : WA fx G X Q nL pc ls ((0, i) :: (2, a) :: st) rc rs w M := by
  intro H locs cells slots lc hR hF hS h1 h2 hL hst
  subst hv0
  obtain ⟨b1, b2, b3⟩ := hR.arr hs (by omega)
  have hi : inR i := ok_hd hst
  have hin := i3_in hi h0 hn
  have hok : okV (0, M a i) := by have := hR.okk hs (by omega) i; rwa [kdS_arr (by omega)] at this
  have kk := k H locs cells slots lc hR hF hS h1 h2 hL (okc hok (ok_tl (ok_tl hst)))
  rw [List.map_cons, List.map_cons, b1]
  refine W.iald C.1 C.2.1 b2 ((C.k.2 0 _ rfl).1 n _) (fun q => by cases q) (by rw [arrV_size]; exact hin) ?_ rfl rfl d kk
  rw [i3_clamp hi, arrV_read _ _ (by omega)]
  rw [show ((i.toNat : Nat) : Int) = i by omega]; rfl
theorem s_lald (C : CX G X cc own nm nL rt rf rl) {a i : Int} {n : Nat} (hs : w.2 a = (13, n)) (h0 : 0 ≤ i) (hn : i < (n : Int)) (d : decode cc pc = .ok (.laload, 1)) {v0 : Int} (hv0 : M a i = v0) (k : WA fx G X Q nL (pc + 1) ls ((1, v0) :: st) rc rs w M) : WA fx G X Q nL pc ls ((0, i) :: (2, a) :: st) rc rs w M := by
  intro H locs cells slots lc hR hF hS h1 h2 hL hst
  subst hv0
  obtain ⟨b1, b2, b3⟩ := hR.arr hs (by omega)
  have hi : inR i := ok_hd hst
  have hin := i3_in hi h0 hn
  have hok : okV (1, M a i) := by have := hR.okk hs (by omega) i; rwa [kdS_arr (by omega)] at this
  have kk := k H locs cells slots lc hR hF hS h1 h2 hL (okc hok (ok_tl (ok_tl hst)))
  rw [List.map_cons, List.map_cons, b1]
  refine W.lald C.1 C.2.1 b2 ((C.k.2 1 _ rfl).1 n _) (fun q => by cases q) (by rw [arrV_size]; exact hin) ?_ rfl rfl d kk
  rw [i3_clamp hi, arrV_read _ _ (by omega)]
  rw [show ((i.toNat : Nat) : Int) = i by omega]; rfl
theorem s_zald (C : CX G X cc own nm nL rt rf rl) {a i : Int} {n : Nat} (hs : w.2 a = (14, n)) (h0 : 0 ≤ i) (hn : i < (n : Int)) (d : decode cc pc = .ok (.baload, 1)) {v0 : Int} (hv0 : M a i = v0) (k : WA fx G X Q nL (pc + 1) ls ((0, v0) :: st) rc rs w M) : WA fx G X Q nL pc ls ((0, i) :: (2, a) :: st) rc rs w M := by
  intro H locs cells slots lc hR hF hS h1 h2 hL hst
  subst hv0
  obtain ⟨b1, b2, b3⟩ := hR.arr hs (by omega)
  have hi : inR i := ok_hd hst
  have hin := i3_in hi h0 hn
  have hok : okV (0, M a i) := by have := hR.okk hs (by omega) i; rwa [kdS_arr (by omega)] at this
  have kk := k H locs cells slots lc hR hF hS h1 h2 hL (okc hok (ok_tl (ok_tl hst)))
  rw [List.map_cons, List.map_cons, b1]
  refine W.zald C.1 C.2.1 b2 ((C.k.2 2 _ rfl).1 n _) (fun q => by cases q) (by rw [arrV_size]; exact hin) ?_ rfl rfl d kk
  rw [i3_clamp hi, arrV_read _ _ (by omega)]
  rw [show ((i.toNat : Nat) : Int) = i by omega]; rfl
theorem s_aald (C : CX G X cc own nm nL rt rf rl) {a i : Int} {t n t0 : Nat} {Cn : String} (hs : w.2 a = (t, n)) (ht : 15 ≤ t) (hty : (tysG G)[t0]? = some (G.2.2.1 t, .object Cn)) (h0 : 0 ≤ i) (hn : i < (n : Int)) (d : decode cc pc = .ok (.aaload, 1)) {v0 : Int} (hv0 : M a i = v0) (k : WA fx G X Q nL (pc + 1) ls ((2, v0) :: st) rc rs w M) : WA fx G X Q nL pc ls ((0, i) :: (2, a) :: st) rc rs w M := by
  intro H locs cells slots lc hR hF hS h1 h2 hL hst
  subst hv0
  obtain ⟨b1, b2, b3⟩ := hR.arr hs (by omega)
  have hi : inR i := ok_hd hst
  have hin := i3_in hi h0 hn
  have hek : ek t = 2 := by unfold ek; rw [if_neg (by omega), if_neg (by omega)]
  rw [hek] at b2
  have kk := k H locs cells slots lc hR hF hS h1 h2 hL (okc ok2 (ok_tl (ok_tl hst)))
  rw [List.map_cons, List.map_cons, b1]
  refine W.aald (v := cv G (2, M a i)) (ty := .object Cn) C.1 C.2.1 b2 ((C.k.2 t0 _ hty).1 n _) rfl (fun q => by cases q) (by rw [arrV_size]; exact hin) ?_ rfl rfl d kk
  rw [i3_clamp hi, arrV_read _ _ (by omega)]
  rw [show ((i.toNat : Nat) : Int) = i by omega]
theorem s_iast (C : CX G X cc own nm nL rt rf rl) {a i v : Int} {n : Nat} (hs : w.2 a = (12, n)) (h0 : 0 ≤ i) (hn : i < (n : Int)) (hfo : fx = true → fixOkT 12 = true) (d : decode cc pc = .ok (.iastore, 1)) (k : WA fx G X Q nL (pc + 1) ls st rc rs w (up M a i v)) : WA fx G X Q nL pc ls ((0, v) :: (0, i) :: (2, a) :: st) rc rs w M := by
  intro H locs cells slots lc hR hF hS h1 h2 hL hst
  obtain ⟨b1, b2, b3⟩ := hR.arr hs (by omega)
  have hi : inR i := ok_hd (ok_tl hst)
  have hin := i3_in hi h0 hn
  rw [List.map_cons, List.map_cons, List.map_cons, b1]
  refine W.iast C.1 C.2.1 b2 ((C.k.2 0 _ rfl).1 n _) (fun q => by cases q) (by rw [arrV_size]; exact hin) rfl rfl d fun H' e1 e2 e3 => ?_
  rw [i3_clamp hi] at e1
  exact k H' _ cells slots lc (hR.astore hs (by omega) h0 (ok_hd hst) e1 e2 e3) (fun e => (hF e).stT hs (hfo e) v) (hS.put e2 e3 b3) h1 h2 hL (ok_tl (ok_tl (ok_tl hst)))
theorem s_last (C : CX G X cc own nm nL rt rf rl) {a i v : Int} {n : Nat} (hs : w.2 a = (13, n)) (h0 : 0 ≤ i) (hn : i < (n : Int)) (hfo : fx = true → fixOkT 13 = true) (d : decode cc pc = .ok (.lastore, 1)) (k : WA fx G X Q nL (pc + 1) ls st rc rs w (up M a i v)) : WA fx G X Q nL pc ls ((1, v) :: (0, i) :: (2, a) :: st) rc rs w M := by
  intro H locs cells slots lc hR hF hS h1 h2 hL hst
  obtain ⟨b1, b2, b3⟩ := hR.arr hs (by omega)
  have hi : inR i := ok_hd (ok_tl hst)
  have hin := i3_in hi h0 hn
  rw [List.map_cons, List.map_cons, List.map_cons, b1]
  refine W.last C.1 C.2.1 b2 ((C.k.2 1 _ rfl).1 n _) (fun q => by cases q) (by rw [arrV_size]; exact hin) rfl rfl d fun H' e1 e2 e3 => ?_
  rw [i3_clamp hi] at e1
  exact k H' _ cells slots lc (hR.astore hs (by omega) h0 (ok_hd hst) e1 e2 e3) (fun e => (hF e).stT hs (hfo e) v) (hS.put e2 e3 b3) h1 h2 hL (ok_tl (ok_tl (ok_tl hst)))
theorem s_zast (C : CX G X cc own nm nL rt rf rl) {a i v : Int} {n : Nat} (hs : w.2 a = (14, n)) (h0 : 0 ≤ i) (hn : i < (n : Int)) (hv : v = 0 ∨ v = 1) (hfo : fx = true → fixOkT 14 = true) (d : decode cc pc = .ok (.bastore, 1)) (k : WA fx G X Q nL (pc + 1) ls st rc rs w (up M a i v)) : WA fx G X Q nL pc ls ((0, v) :: (0, i) :: (2, a) :: st) rc rs w M := by
  intro H locs cells slots lc hR hF hS h1 h2 hL hst
  obtain ⟨b1, b2, b3⟩ := hR.arr hs (by omega)
  have hi : inR i := ok_hd (ok_tl hst)
  have hin := i3_in hi h0 hn
  rw [List.map_cons, List.map_cons, List.map_cons, b1]
  refine W.zast C.1 C.2.1 b2 ((C.k.2 2 _ rfl).1 n _) (fun q => by cases q) (by rw [arrV_size]; exact hin) rfl rfl d fun H' e1 e2 e3 => ?_
  rw [i3_clamp hi, i3_bool hv] at e1
  exact k H' _ cells slots lc (hR.astore hs (by omega) h0 (ok_hd hst) e1 e2 e3) (fun e => (hF e).stT hs (hfo e) v) (hS.put e2 e3 b3) h1 h2 hL (ok_tl (ok_tl (ok_tl hst)))
theorem s_aast (C : CX G X cc own nm nL rt rf rl) {a i v : Int} {t n t0 ci n2 N : Nat} {Cn : String} {T : u_T} (hs : w.2 a = (t, n)) (ht : 15 ≤ t) (hty : (tysG G)[t0]? = some (G.2.2.1 t, .object Cn)) (hc : vwCl[ci]? = some (Cn, T, N)) (hci : ci < 11) (hsv : w.2 v = (ci + 1, n2)) (h0 : 0 ≤ i) (hn : i < (n : Int)) (hfo : fx = true → fixOkT t = true) (d : decode cc pc = .ok (.aastore, 1)) (k : WA fx G X Q nL (pc + 1) ls st rc rs w (up M a i v)) : WA fx G X Q nL pc ls ((2, v) :: (0, i) :: (2, a) :: st) rc rs w M := by
  intro H locs cells slots lc hR hF hS h1 h2 hL hst
  obtain ⟨b1, b2, b3⟩ := hR.arr hs (by omega)
  obtain ⟨v0, v1, v2, v3, v4⟩ := hR.at hsv (Nat.succ_pos _)
  rw [EE_obj G _ _ (by omega), Nat.add_sub_cancel] at v3
  have hi : inR i := ok_hd (ok_tl hst)
  have hin := i3_in hi h0 hn
  have hek : ek t = 2 := by unfold ek; rw [if_neg (by omega), if_neg (by omega)]
  have hcv : cv G (2, v) = .ref (G.1 + v.toNat) := by rw [cv2, v2]; rfl
  rw [List.map_cons, List.map_cons, List.map_cons, b1, hcv]
  have hK := C.k
  obtain ⟨r', hr', cellV, g1, g2, g3, -⟩ := v3
  have hcls := (hK.1 ci _ hc).2
  obtain ⟨kA, comp, k1, k2, k3, -⟩ := (hK.2 t0 _ hty).2
  have hcomp : comp = G.2.1.1 ci := Option.some.inj (k3.symm.trans hcls.1)
  subst hcomp
  obtain ⟨kC, hkC, -⟩ := hcls.2
  have hlt : (Int32.ofInt i).toNatClampNeg < n := Nat.not_le.mp fun q => hin (Or.inr q)
  refine W.aast C.1 C.2.1 b2 (fun q h => by cases h) (fun h => by cases h) k1 k2 rfl hkC ⟨fun q => hin (Or.inl q), by rw [arrV_size]; exact hlt⟩ g1 (fun q h => by rw [g3] at h; cases h) (by rw [g2]; exact hkC) (by rw [g2]; exact va_assign hcls) rfl rfl d fun H' e1 e2 e3 => ?_
  rw [i3_clamp hi, ← hcv] at e1
  exact k H' _ cells slots lc (hR.astore hs (by omega) h0 (by rw [hek]; exact ok2) (by rw [hek]; rw [hek] at e1; exact e1) e2 e3) (fun e => (hF e).stT hs (hfo e) v) (hS.put e2 e3 b3) h1 h2 hL (ok_tl (ok_tl (ok_tl hst)))
/-! the given static rows -/
theorem s_gets (C : CX G X cc own nm nL rt rf rl) {e : Nat} {Cn fn : String} {idx : Nat} (he : 0 < e) (hZ : va_Z Cn fn "[I" (.ref (G.2.2.2 e)) (AA G) X.2.2.2.2.1 X.2.2.2.2.1.heap) (hlink : Cond.fieldLink own idx Cn fn "[I" ∈ gtbl) (d : decode cc pc = .ok (.getstatic idx, 3)) (k : WA fx G X Q nL (pc + 3) ls ((2, -(e : Int)) :: st) rc rs w M) : WA fx G X Q nL pc ls st rc rs w M := by
  intro H locs cells slots lc hR hF hS h1 h2 hL hst
  have kk := k H locs cells slots lc hR hF hS h1 h2 hL (okc ok2 hst)
  have hcv : cv G (2, -(e : Int)) = .ref (G.2.2.2 e) := by
    rw [cv2]; unfold rfv
    rw [if_neg (by omega), if_neg (by omega)]
    rw [show (- -(e : Int)).toNat = e by omega]; rfl
  rw [List.map_cons, hcv] at kk
  exact va_gets C.1 C.2.1 hZ hS C.2.2.2.1 (C.2.2.2.2.1 _ hlink) (fun x h => h) d kk
theorem s_tald (C : CX G X cc own nm nL rt rf rl) {e N : Nat} {i : Int} {g : Nat → Int} (he : 0 < e) (hT : va_T .int (G.2.2.2 e) N (fun j => .int (Int32.ofInt (g j))) (AA G) X.2.2.2.2.1 X.2.2.2.2.1.heap) (hg : ∀ j, inR (g j)) (h0 : 0 ≤ i) (hn : i < (N : Int)) (d : decode cc pc = .ok (.iaload, 1)) (k : WA fx G X Q nL (pc + 1) ls ((0, g i.toNat) :: st) rc rs w M) : WA fx G X Q nL pc ls ((0, i) :: (2, -(e : Int)) :: st) rc rs w M := by
  intro H locs cells slots lc hR hF hS h1 h2 hL hst
  have hi : inR i := ok_hd hst
  have kk := k H locs cells slots lc hR hF hS h1 h2 hL (okc (v := (0, g i.toNat)) (hg _) (ok_tl (ok_tl hst)))
  have hcv : cv G (2, -(e : Int)) = .ref (G.2.2.2 e) := by
    rw [cv2]; unfold rfv
    rw [if_neg (by omega), if_neg (by omega)]
    rw [show (- -(e : Int)).toNat = e by omega]; rfl
  rw [List.map_cons, List.map_cons, hcv]
  exact va_ti C.1 C.2.1 hT hS (i3_in hi h0 hn) (by rw [i3_clamp hi]; rfl) d kk
/-! making -/
theorem s_new (C : CX G X cc own nm nL rt rf rl) {ci N idx : Nat} {Cn : String} {T : u_T} {ty0 : Nat → FieldType} (hci : ci < 11) (hc : vwCl[ci]? = some (Cn, T, N)) (hin : ∀ x ∈ u_ws Cn T N, x ∈ gtbl) (hty : ∀ k, k < N → parseFieldDescriptor (T k).2.2.1 = some (ty0 k)) (hdf : ∀ j, j < N → defaultValue (ty0 j) = vp_V (fvs G (kls.getD ci []) (fun _ => 0)) j)
    (hcl : Cond.classLink own idx Cn ∈ gtbl) (hinst : Cond.instantiable Cn N ∈ gtbl) (hini : Cond.initialized Cn ∈ gtbl) (d : decode cc pc = .ok (.new idx, 3)) (k : WA false G X Q nL (pc + 3) ls ((2, (w.1 : Int)) :: st) rc rs (w.1 + 1, us w.2 w.1 (ci + 1) N) M) : WA fx G X Q nL pc ls st (rc + 1) (rs + N) w M := by
  intro H locs cells slots lc hR hF hS h1 h2 hL hst
  have hts := C.2.2.2.2.1
  have hKn := C.k.1 ci _ hc
  refine W.newcK C.1 C.2.1 C.2.2.2.1 (hts _ hcl) (hts _ hinst) (hts _ hini) rfl d (by omega) (by omega) hKn.2.1 rfl fun H1 kC hkC e1 z1 o1 => ?_
  have hw1 := hR.1
  have hsz := hR.2.1
  have hR1 : Rep G (w.1 + 1, us w.2 w.1 (ci + 1) N) M H1 := by
    refine hR.new ?_ z1 o1
    rw [EE_obj G _ _ (by omega), Nat.add_sub_cancel, ← hsz]
    exact ⟨_, hc, (u_born ty0 hts hin hKn hkC e1 hty).to hdf⟩
  have kk := k H1 locs (cells + 1) (slots + N) lc hR1 (fun e => by cases e) ⟨Nat.le_trans hS.1 (by omega), fun x h1 h2 => (o1 x (Nat.lt_of_lt_of_le h1 hS.1)).trans (hS.2.1 x h1 h2), hS.2.2⟩ (by omega) (by omega) hL (okc ok2 hst)
  have hcv : cv G (2, (w.1 : Int)) = .ref H.size := by rw [cv2, rfv_pos G (by omega)]; simp [va_rf, hsz]
  rw [List.map_cons, hcv] at kk
  exact kk
theorem s_newa (C : CX G X cc own nm nL rt rf rl) {t N : Nat} {atype : ArrayType} {z : Int} (ht : 12 ≤ t) (hk : ek t = 0 ∨ ek t = 1) (hdf : defaultValue (newarray.typeOf atype) = cv G (ek t, 0)) (hcA : ∀ cA : ClassId, X.2.2.2.2.1.vm.findClass ("[" ++ (newarray.typeOf atype).toString) = some cA → cA = G.2.2.1 t) (harr : Cond.arrayClass (newarray.typeOf atype) ∈ gtbl) (hN : z = (N : Int)) (hb : N ≤ 3000) (hbb : componentBytes (newarray.typeOf atype) ≤ 8) (d : decode cc pc = .ok (.newarray atype, 2)) (k : WA false G X Q nL (pc + 2) ls ((2, (w.1 : Int)) :: st) rc rs (w.1 + 1, us w.2 w.1 t N) M) : WA fx G X Q nL pc ls ((0, z) :: st) (rc + 1) (rs + N) w M := by
  intro H locs cells slots lc hR hF hS h1 h2 hL hst
  have hts := C.2.2.2.2.1
  have hz : inR z := ok_hd hst
  have hw1 := hR.1
  have hsz := hR.2.1
  rw [List.map_cons, cv0]
  refine va_newaK C.1 C.2.1 (hts _ harr) rfl d rfl (by rw [i3_lt0 hz]; omega) (by rw [i3_clamp hz]; omega) (Nat.le_trans (Nat.mul_le_mul hb hbb) (by decide)) (by omega) (by omega) rfl fun H1 cA e1 z1 o1 hAr hNm => ?_
  have hcA' := hcA cA hNm
  subst hcA'
  have hR1 : Rep G (w.1 + 1, us w.2 w.1 t N) M H1 := by
    refine hR.new ?_ z1 o1
    rw [EE_arr ht, ← hsz, e1, hdf]
  have kk := k H1 locs (cells + 1) (slots + N) lc hR1 (fun e => by cases e) ⟨Nat.le_trans hS.1 (by omega), fun x h1 h2 => (o1 x (Nat.lt_of_lt_of_le h1 hS.1)).trans (hS.2.1 x h1 h2), hS.2.2⟩ (by omega) (by omega) hL (okc ok2 (ok_tl hst))
  have hcv : cv G (2, (w.1 : Int)) = .ref H.size := by rw [cv2, rfv_pos G (by omega)]; simp [va_rf, hsz]
  rw [List.map_cons, hcv] at kk
  exact kk
theorem s_newq (C : CX G X cc own nm nL rt rf rl) {t N idx t0 : Nat} {Cn : String} {z : Int} (ht : 15 ≤ t) (hty : (tysG G)[t0]? = some (G.2.2.1 t, .object Cn)) (hcl : Cond.classLink own idx Cn ∈ gtbl) (hov : Cond.arrayOver (.object Cn) ∈ lw_tbl) (hN : z = (N : Int)) (hb : N ≤ 600) (d : decode cc pc = .ok (.anewarray idx, 3)) (k : WA false G X Q nL (pc + 3) ls ((2, (w.1 : Int)) :: st) rc rs (w.1 + 1, us w.2 w.1 t N) M) : WA fx G X Q nL pc ls ((0, z) :: st) (rc + 1) (rs + N) w M := by
  intro H locs cells slots lc hR hF hS h1 h2 hL hst
  have hts := C.2.2.2.2.1
  have hz : inR z := ok_hd hst
  have hw1 := hR.1
  have hsz := hR.2.1
  have hNc : (Int32.ofInt z).toNatClampNeg = N := by rw [i3_clamp hz]; omega
  have hek : ek t = 2 := by unfold ek; rw [if_neg (by omega), if_neg (by omega)]
  rw [List.map_cons, cv0]
  refine W.anew C.1 C.2.1 C.2.2.2.1 (hts _ hcl) (va_AO.use (C.gn.2 _ hov)) rfl d rfl (by rw [i3_lt0 hz]; omega) (by rw [hNc]; omega) (by omega) (by rw [hNc]; omega) fun cA kA comp f1 f2 f3 f4 => ?_
  have hcA : cA = G.2.2.1 t := by
    obtain ⟨kA', comp', k1, k2, k3, k4⟩ := (C.k.2 t0 _ hty).2
    exact Option.some.inj (f1.symm.trans k4)
  subst hcA
  rw [hNc]
  generalize hH1 : H.push ({ cls := G.2.2.1 t, slots := Array.replicate N .null, vm := .none } : Cell) = H1
  have z1 : H1.size = H.size + 1 := by rw [← hH1, Array.size_push]
  have e1 : H1[H.size]? = some (arrV (G.2.2.1 t) N (fun _ => .null)) := by rw [← hH1, Array.getElem?_push_size, ← arrV_new]
  have o1 : ∀ q : Nat, q < H.size → H1[q]? = H[q]? := fun q hq => by rw [← hH1, Array.getElem?_push, if_neg (Nat.ne_of_lt hq)]
  have hR1 : Rep G (w.1 + 1, us w.2 w.1 t N) M H1 := by
    refine hR.new ?_ z1 o1
    rw [EE_arr (by omega), ← hsz, e1, hek]; rfl
  have kk := k H1 locs (cells + 1) (slots + N) lc hR1 (fun e => by cases e) ⟨Nat.le_trans hS.1 (by omega), fun x h1 h2 => (o1 x (Nat.lt_of_lt_of_le h1 hS.1)).trans (hS.2.1 x h1 h2), hS.2.2⟩ (by omega) (by omega) hL (okc ok2 (ok_tl hst))
  have hcv : cv G (2, (w.1 : Int)) = .ref H.size := by rw [cv2, rfv_pos G (by omega)]; simp [va_rf, hsz]
  rw [List.map_cons, hcv] at kk
  exact kk
/-! returns -/
theorem s_ireturn {P : Int → NS → MM → Prop} {z : Int} (C : CX G X cc own nm nL (some .int) rf rl) (d : decode cc pc = .ok (.ireturn, 1)) (hp : P z w M) : WA fx G X (QM G X fx 0 P) nL pc ls [(0, z)] rc rs w M := by
  intro H locs cells slots lc hR hF hS h1 h2 hL hst
  refine W.widen (k := X.2.2.2.1.cells) (n := X.2.2.2.1.slots) (by omega) (by omega) ?_
  exact W.iret C.1 C.2.1 C.2.2.2.2.2.2.2.2.2.1 (fun t ht hW => ⟨⟨z, w, M, rfl, ok_hd hst, by rw [ht]; exact hR, hF, hp⟩, hS.F ht⟩) hS.2.2 d C.2.2.2.2.2.2.2.2.1
theorem s_zreturn {P : Int → NS → MM → Prop} {z : Int} (C : CX G X cc own nm nL (some .boolean) rf rl) (d : decode cc pc = .ok (.ireturn, 1)) (hz : z = 0 ∨ z = 1) (hp : P z w M) : WA fx G X (QM G X fx 0 P) nL pc ls [(0, z)] rc rs w M := by
  intro H locs cells slots lc hR hF hS h1 h2 hL hst
  refine W.widen (k := X.2.2.2.1.cells) (n := X.2.2.2.1.slots) (by omega) (by omega) ?_
  exact W.zret C.1 C.2.1 C.2.2.2.2.2.2.2.2.2.1 (i3_bool hz) (fun t ht hW => ⟨⟨z, w, M, rfl, ok_hd hst, by rw [ht]; exact hR, hF, hp⟩, hS.F ht⟩) hS.2.2 d C.2.2.2.2.2.2.2.2.1
theorem s_lreturn {P : Int → NS → MM → Prop} {z : Int} (C : CX G X cc own nm nL (some .long) rf rl) (d : decode cc pc = .ok (.lreturn, 1)) (hp : P z w M) : WA fx G X (QM G X fx 1 P) nL pc ls [(1, z)] rc rs w M := by
  intro H locs cells slots lc hR hF hS h1 h2 hL hst
  refine W.widen (k := X.2.2.2.1.cells) (n := X.2.2.2.1.slots) (by omega) (by omega) ?_
  exact W.lret C.1 C.2.1 C.2.2.2.2.2.2.2.2.2.1 (fun t ht hW => ⟨⟨z, w, M, rfl, ok_hd hst, by rw [ht]; exact hR, hF, hp⟩, hS.F ht⟩) hS.2.2 d C.2.2.2.2.2.2.2.2.1
theorem s_areturn {P : Int → NS → MM → Prop} {z : Int} {Cn : String} (C : CX G X cc own nm nL (some (.object Cn)) rf rl) (d : decode cc pc = .ok (.areturn, 1)) (hp : P z w M) : WA fx G X (QM G X fx 2 P) nL pc ls [(2, z)] rc rs w M := by
  intro H locs cells slots lc hR hF hS h1 h2 hL hst
  refine W.widen (k := X.2.2.2.1.cells) (n := X.2.2.2.1.slots) (by omega) (by omega) ?_
  exact W.aret (v := cv G (2, z)) C.1 C.2.1 C.2.2.2.2.2.2.2.2.2.1 (Or.inl ⟨_, rfl⟩) (rf_cs G z) (fun t ht hW => ⟨⟨z, w, M, rfl, ok2, by rw [ht]; exact hR, hF, hp⟩, hS.F ht⟩) hS.2.2 d C.2.2.2.2.2.2.2.2.1
theorem s_vreturn {P : Int → NS → MM → Prop} (C : CX G X cc own nm nL none rf rl) (d : decode cc pc = .ok (.return_, 1)) (hp : P 0 w M) : WA fx G X (QM G X fx 4 P) nL pc ls [] rc rs w M := by
  intro H locs cells slots lc hR hF hS h1 h2 hL hst
  refine W.widen (k := X.2.2.2.1.cells) (n := X.2.2.2.1.slots) (by omega) (by omega) ?_
  exact W.vret C.1 C.2.1 C.2.2.2.2.2.2.2.2.2.1 (fun t ht hW => ⟨⟨0, w, M, rfl, ok_z _, by rw [ht]; exact hR, hF, hp⟩, hS.F ht⟩) hS.2.2 d C.2.2.2.2.2.2.2.2.1
theorem s_objInit (C : CX G X cc own nm nL rt rf rl) {a : Int} {t n idx : Nat} (hs : w.2 a = (t, n)) (ht : 0 < t) (hlink : Cond.methodLink own idx Lib.objectInit ∈ gtbl) (hinst : Cond.instanceMethod Lib.objectInit ∈ gtbl) (hcode : Cond.code Lib.objectInit ⟨#[0xb1]⟩ 1 none ∈ gtbl) (hf : 1 ≤ rf) (hl : 20 ≤ rl) (hr : (st.map fun v => if v.1 = 1 then 2 else 1).sum ≤ 8) (d : decode cc pc = .ok (.invokespecial idx, 3)) (k : WA fx G X Q nL (pc + 3) ls st rc rs w M) : WA fx G X Q nL pc ls ((2, a) :: st) rc rs w M := by
  intro H locs cells slots lc hR hF hS h1 h2 hL hst
  obtain ⟨a0, a1, a2, a3, a4⟩ := hR.at hs ht
  have hts := C.2.2.2.2.1
  have kk := k H locs cells slots lc hR hF hS h1 h2 hL (ok_tl hst)
  rw [List.map_cons, cv2, a2]
  have hcat : ((st.map (cv G)).map fun v => v.category).sum ≤ 8 := by
    rw [List.map_map]
    rw [show ((fun v => v.category) ∘ cv G) = (fun v : LV => if v.1 = 1 then 2 else 1) from funext fun v => cat_cv G v]
    exact hr
  refine W.objInit C.1 C.2.1 C.2.2.2.1 (hts _ hlink) (hts _ hinst) (hts _ hcode) rfl (by rw [C.2.2.1]; exact hL.1) rfl d (by rw [C.2.2.2.2.2.2.2.2.2.2.2.1]; exact hf) ?_ kk
  rw [C.2.2.2.2.2.2.2.2.2.2.2.2]
  have := lv_room (m := X.2.2.2.2.2.1) (pc := pc) (ls := lc) (rest := []) hcat
  have hm : (F0 X.2.2.2.2.2.1 pc lc (va_rf (some (G.1 + a.toNat)) :: st.map (cv G))).monitorRoom = (F0 X.2.2.2.2.2.1 pc lc []).monitorRoom := rfl
  rw [hm]
  omega
/-! calls -/
theorem tbl_good : GoodIn gtbl gtbl := fun w h => ⟨h, good_of_word (List.mem_filter.mp h).2⟩
theorem tbl_goodc {y : MethodName} {bytes : ByteArray} {maxL : Nat} {ret : Option FieldType} (h : Cond.code y bytes maxL ret ∈ gtbl) : GoodIn gtbl (Cond.code y bytes maxL ret :: gtbl) := fun w hw => (List.mem_cons.mp hw).elim (fun e => e ▸ tbl_good _ h) (tbl_good w)
theorem s_goon {p : Program} {l : Launch} {e : Env} {R : Room} {s : State} {m : MethodId} {args : Array Value} {below : List Frame} {meth : Method} {c : Code} {H : Heap} {locs : List Loc} {cells slots mc ms : Nat} {lc : Array Slot} {st0 rest : List Value} {f2 : Bool} {rk : Nat} {P : Int → NS → MM → Prop} {a : Array Value}
    (hr : va_Run p l e R s m args below meth c H locs cells slots mc ms (F0 m pc lc st0) rest (QcO G f2 rk P a) (AA G)) (hS : va_S (AA G) s.heap H locs)
    (kk : ∀ (z : Int) (w' : NS) (M' : MM) (H1 : Heap) (locs1 : List Loc), Rep G w' M' H1 → (f2 = true → FixA w' M') → okV (rk, z) → P z w' M' → va_S (AA G) s.heap H1 locs1 → W p l e R s m args below meth c H1 locs1 (cells + mc) (slots + ms) Q (F0 m (pc + 3) lc ((if rk = 4 then [] else [cv G (rk, z)]) ++ rest))) : W p l e R s m args below meth c H locs cells slots Q (F0 m pc lc st0) := by
  intro T hT X0
  obtain ⟨v, st₀, t, T', L, h0, X', hL, e1, e2, ⟨⟨z, w', M', hv, hok, hR, hF, hp⟩, hz, hk⟩, stp⟩ := hr T hT X0
  have hv' := Outcome.returned.inj hv
  subst hv'
  rw [h0] at hz hk
  rw [← e1] at hR hz
  obtain ⟨t2, a1, b1⟩ := kk z w' M' T'.heap (locs ++ L) hR hF hok hp ⟨Nat.le_trans hS.1 hz, fun q h1 h2 => by rw [e1, hk q (Nat.lt_of_lt_of_le h1 hS.1) h2]; exact hS.2.1 q h1 h2, fun q hq => by
      rcases List.mem_append.mp hq with h | h
      · exact hS.2.2 q h
      · exact hL q h⟩ T' rfl X'
  refine ⟨t2, stp t2 ?_, b1⟩
  have hl : (if rk = 4 then ([] : List Value) else [cv G (rk, z)]) = (if rk = 4 then none else some (cv G (rk, z)) : Option Value).toList := by
    by_cases e : rk = 4 <;> simp [e]
  rw [hl] at a1
  exact a1
def LkS (own : String) (idx : Nat) (y : MethodName) (cc : ByteArray) (nL : Nat) (ret : Option FieldType) (n : Nat) : Prop := Cond.methodLink own idx y ∈ gtbl ∧ Cond.static y ∈ gtbl ∧ Cond.initialized y.cls ∈ gtbl ∧ Cond.code y cc nL ret ∈ gtbl ∧ (y.cls ≠ "java/lang/invoke/MethodHandle" ∧ y.cls ≠ "java/lang/invoke/VarHandle" ∧ (parseMethodDescriptor y.desc).map (fun d => d.parameters.length) = some n)
def LkSN (own host : String) (idx : Nat) (y : MethodName) (cc : ByteArray) (nL : Nat) (ret : Option FieldType) (n : Nat) : Prop := Cond.methodLinkNest own idx y host ∈ lw_tbl ∧ Cond.static y ∈ gtbl ∧ Cond.initialized y.cls ∈ gtbl ∧ Cond.code y cc nL ret ∈ gtbl ∧ (y.cls ≠ "java/lang/invoke/MethodHandle" ∧ y.cls ≠ "java/lang/invoke/VarHandle" ∧ (parseMethodDescriptor y.desc).map (fun d => d.parameters.length) = some n)
def LkV (own : String) (idx : Nat) (y : MethodName) (cc : ByteArray) (nL : Nat) (ret : Option FieldType) (n : Nat) : Prop := Cond.methodLink own idx y ∈ gtbl ∧ Cond.instanceMethod y ∈ gtbl ∧ Cond.selects y.cls y y ∈ gtbl ∧ Cond.initialized y.cls ∈ gtbl ∧ Cond.code y cc nL ret ∈ gtbl ∧ (y.cls ≠ "java/lang/invoke/MethodHandle" ∧ y.cls ≠ "java/lang/invoke/VarHandle" ∧ (parseMethodDescriptor y.desc).map (fun d => d.parameters.length) = some n)
def LkI (own : String) (idx : Nat) (y : MethodName) (cc : ByteArray) (nL : Nat) (n : Nat) : Prop := Cond.methodLink own idx y ∈ gtbl ∧ Cond.instanceMethod y ∈ gtbl ∧ Cond.initialized y.cls ∈ gtbl ∧ Cond.code y cc nL none ∈ gtbl ∧ y.name = "<init>" ∧ (y.cls ≠ "java/lang/invoke/MethodHandle" ∧ y.cls ≠ "java/lang/invoke/VarHandle" ∧ (parseMethodDescriptor y.desc).map (fun d => d.parameters.length) = some n)
def LkIN (own host : String) (idx : Nat) (y : MethodName) (cc : ByteArray) (nL : Nat) (n : Nat) : Prop := Cond.methodLinkNest own idx y host ∈ lw_tbl ∧ Cond.instanceMethod y ∈ gtbl ∧ Cond.initialized y.cls ∈ gtbl ∧ Cond.code y cc nL none ∈ gtbl ∧ y.name = "<init>" ∧ (y.cls ≠ "java/lang/invoke/MethodHandle" ∧ y.cls ≠ "java/lang/invoke/VarHandle" ∧ (parseMethodDescriptor y.desc).map (fun d => d.parameters.length) = some n)
abbrev RmOk (rest : List LV) : Prop := (rest.map fun v => if v.1 = 1 then 2 else 1).sum ≤ 8
theorem rm_ok {rest : List LV} (h : RmOk rest) : ((rest.map (cv G)).map fun v => v.category).sum ≤ 8 := by
  rw [List.map_map]
  rw [show ((fun v => v.category) ∘ cv G) = (fun v : LV => if v.1 = 1 then 2 else 1) from funext fun v => cat_cv G v]
  exact h
theorem ok_app {a b : List LV} (h : ∀ v ∈ a ++ b, okV v) : (∀ v ∈ a, okV v) ∧ ∀ v ∈ b, okV v := ⟨fun v hv => h v (List.mem_append_left _ hv), fun v hv => h v (List.mem_append_right _ hv)⟩
theorem s_callS {P : Int → NS → MM → Prop} {idx nL2 rk rf2 rl2 mc ms n : Nat} {y : MethodName} {cc2 : ByteArray} {ret2 : Option FieldType} {av rest : List LV} (C : CX G X cc own nm nL rt rf rl) (d : decode cc pc = .ok (.invokestatic idx, 3)) (hl : LkS own idx y cc2 nL2 ret2 n) (hn : av.length = n) (hst0 : st = av.reverse ++ rest) (hrm : RmOk rest) (hrf : rf2 + 1 ≤ rf) (hrl : 8 + (nL2 + 11) + rl2 ≤ rl)
    (K : CT fx G X.2.1 y cc2 nL2 ret2 rk rf2 rl2 mc ms av w M P) (kk : ∀ z w' M', P z w' M' → WA fx G X Q nL (pc + 3) ls ((if rk = 4 then [] else [(rk, z)]) ++ rest) rc rs w' M') : WA fx G X Q nL pc ls st (rc + mc) (rs + ms) w M := by
  intro H locs cells slots lc hR hF hS h1 h2 hL hst
  subst hst0
  obtain ⟨ha, hb⟩ := ok_app hst
  have hts := C.2.2.2.2.1
  have hf0 := C.2.2.2.2.2.2.2.2.2.2.2.1
  have hl0 := C.2.2.2.2.2.2.2.2.2.2.2.2
  have hM := K (fun v hv => ha v (List.mem_reverse.mpr hv))
  refine s_goon (rest := rest.map (cv G)) (va_runS (As := av.map (cv G)) (Ts := gtbl) ⟨C.1, C.2.1, C.2.2.1, C.2.2.2.1, hts⟩ hM ⟨callB_of n hts (tbl_goodc hl.2.2.2.1) rfl rfl rfl (hts _ hl.2.2.1) (hts _ hl.1) hl.2.2.2.2 ⟨by rw [hf0]; exact hrf, by rw [hl0]; exact hrl⟩, hts _ hl.2.1⟩ ⟨PcG.blind _ _ _ _ _, PcG.pre hR hF C.gk C.2.2.2.2.2.2.1 hS⟩ rfl (by rw [List.length_map]; exact hn) hL.1 (by simp [F0]) (lv_room (rm_ok hrm)) d ⟨by omega, by omega⟩) hS ?_
  intro z w' M' H1 locs1 hR1 hF1 hok hp hS1
  have := kk z w' M' hp H1 locs1 (cells + mc) (slots + ms) lc hR1 hF1 hS1 (by omega) (by omega) hL (fun v hv => by
    rcases List.mem_append.mp hv with h | h
    · by_cases e : rk = 4
      · simp [e] at h
      · simp [e] at h; rw [h]; exact hok
    · exact hb v h)
  rw [List.map_append] at this
  by_cases e : rk = 4
  · simpa [e] using this
  · simpa [e] using this
theorem s_callSN {P : Int → NS → MM → Prop} {host : String} {idx nL2 rk rf2 rl2 mc ms n : Nat} {y : MethodName} {cc2 : ByteArray} {ret2 : Option FieldType} {av rest : List LV} (C : CX G X cc own nm nL rt rf rl) (d : decode cc pc = .ok (.invokestatic idx, 3)) (hl : LkSN own host idx y cc2 nL2 ret2 n) (hn : av.length = n) (hst0 : st = av.reverse ++ rest) (hrm : RmOk rest) (hrf : rf2 + 1 ≤ rf) (hrl : 8 + (nL2 + 11) + rl2 ≤ rl)
    (K : CT fx G X.2.1 y cc2 nL2 ret2 rk rf2 rl2 mc ms av w M P) (kk : ∀ z w' M', P z w' M' → WA fx G X Q nL (pc + 3) ls ((if rk = 4 then [] else [(rk, z)]) ++ rest) rc rs w' M') : WA fx G X Q nL pc ls st (rc + mc) (rs + ms) w M := by
  intro H locs cells slots lc hR hF hS h1 h2 hL hst
  subst hst0
  obtain ⟨ha, hb⟩ := ok_app hst
  have hts := C.2.2.2.2.1
  have hf0 := C.2.2.2.2.2.2.2.2.2.2.2.1
  have hl0 := C.2.2.2.2.2.2.2.2.2.2.2.2
  have hM := K (fun v hv => ha v (List.mem_reverse.mpr hv))
  refine s_goon (rest := rest.map (cv G)) (va_runSN (As := av.map (cv G)) (Ts := gtbl) ⟨C.1, C.2.1, C.2.2.1, C.2.2.2.1, hts⟩ hM ⟨va_cnB n hts (tbl_goodc hl.2.2.2.1) rfl rfl rfl (C.gn.1 _ hl.1 rfl) (hts _ hl.2.2.1) hl.2.2.2.2 ⟨by rw [hf0]; exact hrf, by rw [hl0]; exact hrl⟩, hts _ hl.2.1, trivial⟩ ⟨PcG.blind _ _ _ _ _, PcG.pre hR hF C.gk C.2.2.2.2.2.2.1 hS⟩ rfl (by rw [List.length_map]; exact hn) hL.1 (by simp [F0]) (lv_room (rm_ok hrm)) d ⟨by omega, by omega⟩) hS ?_
  intro z w' M' H1 locs1 hR1 hF1 hok hp hS1
  have := kk z w' M' hp H1 locs1 (cells + mc) (slots + ms) lc hR1 hF1 hS1 (by omega) (by omega) hL (fun v hv => by
    rcases List.mem_append.mp hv with h | h
    · by_cases e : rk = 4
      · simp [e] at h
      · simp [e] at h; rw [h]; exact hok
    · exact hb v h)
  rw [List.map_append] at this
  by_cases e : rk = 4
  · simpa [e] using this
  · simpa [e] using this
theorem s_callV {P : Int → NS → MM → Prop} {idx nL2 rk rf2 rl2 mc ms n ci n2 N : Nat} {T : u_T} {y : MethodName} {cc2 : ByteArray} {ret2 : Option FieldType} {a : Int} {av rest : List LV} (C : CX G X cc own nm nL rt rf rl) (d : decode cc pc = .ok (.invokevirtual idx, 3)) (hl : LkV own idx y cc2 nL2 ret2 n) (hs : w.2 a = (ci + 1, n2)) (hci : ci < 11) (hc : vwCl[ci]? = some (y.cls, T, N)) (hn : av.length = n) (hst0 : st = av.reverse ++ (2, a) :: rest) (hrm : RmOk rest) (hrf : rf2 + 1 ≤ rf) (hrl : 8 + (nL2 + 11) + rl2 ≤ rl)
    (K : CT fx G X.2.1 y cc2 nL2 ret2 rk rf2 rl2 mc ms ((2, a) :: av) w M P) (kk : ∀ z w' M', P z w' M' → WA fx G X Q nL (pc + 3) ls ((if rk = 4 then [] else [(rk, z)]) ++ rest) rc rs w' M') : WA fx G X Q nL pc ls st (rc + mc) (rs + ms) w M := by
  intro H locs cells slots lc hR hF hS h1 h2 hL hst
  subst hst0
  obtain ⟨ha, hb'⟩ := ok_app hst
  have hb := ok_tl hb'
  obtain ⟨a0, a1, a2, a3, a4⟩ := hR.at hs (Nat.succ_pos _)
  rw [EE_obj G _ _ (by omega), Nat.add_sub_cancel] at a3
  have hts := C.2.2.2.2.1
  have hf0 := C.2.2.2.2.2.2.2.2.2.2.2.1
  have hl0 := C.2.2.2.2.2.2.2.2.2.2.2.2
  have hM := K (okc (v := (2, a)) ok2 (fun v hv => ha v (List.mem_reverse.mpr hv)))
  have hcv : cv G (2, a) = .ref (G.1 + a.toNat) := by rw [cv2, a2]; rfl
  have hP : va_P G.2.1 vwCl [(G.1 + a.toNat, .inr (ci, fvs G (kls.getD ci []) (M a)))] H := fun j q hj => by
    have hz : j < 1 := (List.getElem?_eq_some_iff.mp hj).1
    rw [show j = 0 by omega] at hj
    cases hj
    exact a3
  have hpre := PcG.pre (av := (2, a) :: av) hR hF C.gk C.2.2.2.2.2.2.1 hS
  rw [List.map_cons, hcv] at hpre
  refine s_goon (rest := rest.map (cv G)) (va_runV (C := y.cls) (b := G.1 + a.toNat) (As := av.map (cv G)) (Ts := gtbl) ⟨C.1, C.2.1, C.2.2.1, C.2.2.2.1, hts⟩ hM ⟨callB_of n hts (tbl_goodc hl.2.2.2.2.1) rfl rfl rfl (hts _ hl.2.2.2.1) (hts _ hl.1) hl.2.2.2.2.2 ⟨by rw [hf0]; exact hrf, by rw [hl0]; exact hrl⟩, hts _ hl.2.1, hts _ hl.2.2.1⟩ ⟨PcG.blind _ _ _ _ _, va_recv C.k hP hc (q0 := 0) rfl, hpre⟩ rfl (by rw [List.length_map]; exact hn) hL.1 (by simp [F0, hcv]) (lv_room (rm_ok hrm)) d ⟨by omega, by omega⟩) hS ?_
  intro z w' M' H1 locs1 hR1 hF1 hok hp hS1
  have := kk z w' M' hp H1 locs1 (cells + mc) (slots + ms) lc hR1 hF1 hS1 (by omega) (by omega) hL (fun v hv => by
    rcases List.mem_append.mp hv with h | h
    · by_cases e : rk = 4
      · simp [e] at h
      · simp [e] at h; rw [h]; exact hok
    · exact hb v h)
  rw [List.map_append] at this
  by_cases e : rk = 4
  · simpa [e] using this
  · simpa [e] using this
theorem s_callI {P : Int → NS → MM → Prop} {idx nL2 rf2 rl2 mc ms n t n2 : Nat} {y : MethodName} {cc2 : ByteArray} {a : Int} {av rest : List LV} (C : CX G X cc own nm nL rt rf rl) (d : decode cc pc = .ok (.invokespecial idx, 3)) (hl : LkI own idx y cc2 nL2 n) (hs : w.2 a = (t, n2)) (ht : 0 < t) (hn : av.length = n) (hst0 : st = av.reverse ++ (2, a) :: rest) (hrm : RmOk rest) (hrf : rf2 + 1 ≤ rf) (hrl : 8 + (nL2 + 11) + rl2 ≤ rl)
    (K : CT fx G X.2.1 y cc2 nL2 none 4 rf2 rl2 mc ms ((2, a) :: av) w M P) (kk : ∀ z w' M', P z w' M' → WA fx G X Q nL (pc + 3) ls rest rc rs w' M') : WA fx G X Q nL pc ls st (rc + mc) (rs + ms) w M := by
  intro H locs cells slots lc hR hF hS h1 h2 hL hst
  subst hst0
  obtain ⟨ha, hb'⟩ := ok_app hst
  have hb := ok_tl hb'
  obtain ⟨a0, a1, a2, a3, a4⟩ := hR.at hs ht
  have hts := C.2.2.2.2.1
  have hf0 := C.2.2.2.2.2.2.2.2.2.2.2.1
  have hl0 := C.2.2.2.2.2.2.2.2.2.2.2.2
  have hM := K (okc (v := (2, a)) ok2 (fun v hv => ha v (List.mem_reverse.mpr hv)))
  have hcv : cv G (2, a) = .ref (G.1 + a.toNat) := by rw [cv2, a2]; rfl
  have hpre := PcG.pre (av := (2, a) :: av) hR hF C.gk C.2.2.2.2.2.2.1 hS
  rw [List.map_cons, hcv] at hpre
  refine s_goon (rest := rest.map (cv G)) (va_runI (b := G.1 + a.toNat) (As := av.map (cv G)) (Ts := gtbl) ⟨C.1, C.2.1, C.2.2.1, C.2.2.2.1, hts⟩ hM ⟨callB_of n hts (tbl_goodc hl.2.2.2.1) rfl rfl rfl (hts _ hl.2.2.1) (hts _ hl.1) hl.2.2.2.2.2 ⟨by rw [hf0]; exact hrf, by rw [hl0]; exact hrl⟩, hl.2.2.2.2.1, hts _ hl.2.1⟩ ⟨PcG.blind _ _ _ _ _, hpre⟩ rfl (by rw [List.length_map]; exact hn) hL.1 (by simp [F0, hcv]) (lv_room (rm_ok hrm)) d ⟨by omega, by omega⟩) hS ?_
  intro z w' M' H1 locs1 hR1 hF1 hok hp hS1
  exact kk z w' M' hp H1 locs1 (cells + mc) (slots + ms) lc hR1 hF1 hS1 (by omega) (by omega) hL hb
theorem s_callIN {P : Int → NS → MM → Prop} {host : String} {idx nL2 rf2 rl2 mc ms n t n2 : Nat} {y : MethodName} {cc2 : ByteArray} {a : Int} {av rest : List LV} (C : CX G X cc own nm nL rt rf rl) (d : decode cc pc = .ok (.invokespecial idx, 3)) (hl : LkIN own host idx y cc2 nL2 n) (hs : w.2 a = (t, n2)) (ht : 0 < t) (hn : av.length = n) (hst0 : st = av.reverse ++ (2, a) :: rest) (hrm : RmOk rest) (hrf : rf2 + 1 ≤ rf) (hrl : 8 + (nL2 + 11) + rl2 ≤ rl)
    (K : CT fx G X.2.1 y cc2 nL2 none 4 rf2 rl2 mc ms ((2, a) :: av) w M P) (kk : ∀ z w' M', P z w' M' → WA fx G X Q nL (pc + 3) ls rest rc rs w' M') : WA fx G X Q nL pc ls st (rc + mc) (rs + ms) w M := by
  intro H locs cells slots lc hR hF hS h1 h2 hL hst
  subst hst0
  obtain ⟨ha, hb'⟩ := ok_app hst
  have hb := ok_tl hb'
  obtain ⟨a0, a1, a2, a3, a4⟩ := hR.at hs ht
  have hts := C.2.2.2.2.1
  have hf0 := C.2.2.2.2.2.2.2.2.2.2.2.1
  have hl0 := C.2.2.2.2.2.2.2.2.2.2.2.2
  have hM := K (okc (v := (2, a)) ok2 (fun v hv => ha v (List.mem_reverse.mpr hv)))
  have hcv : cv G (2, a) = .ref (G.1 + a.toNat) := by rw [cv2, a2]; rfl
  have hpre := PcG.pre (av := (2, a) :: av) hR hF C.gk C.2.2.2.2.2.2.1 hS
  rw [List.map_cons, hcv] at hpre
  refine s_goon (rest := rest.map (cv G)) (va_runIN (b := G.1 + a.toNat) (As := av.map (cv G)) (Ts := gtbl) ⟨C.1, C.2.1, C.2.2.1, C.2.2.2.1, hts⟩ hM ⟨va_cnB n hts (tbl_goodc hl.2.2.2.1) rfl rfl rfl (C.gn.1 _ hl.1 rfl) (hts _ hl.2.2.1) hl.2.2.2.2.2 ⟨by rw [hf0]; exact hrf, by rw [hl0]; exact hrl⟩, hl.2.2.2.2.1, hts _ hl.2.1⟩ ⟨PcG.blind _ _ _ _ _, hpre⟩ rfl (by rw [List.length_map]; exact hn) hL.1 (by simp [F0, hcv]) (lv_room (rm_ok hrm)) d ⟨by omega, by omega⟩) hS ?_
  intro z w' M' H1 locs1 hR1 hF1 hok hp hS1
  exact kk z w' M' hp H1 locs1 (cells + mc) (slots + ms) lc hR1 hF1 hS1 (by omega) (by omega) hL hb
theorem mm_a : Cond.static Lib.Math.min.name ∈ lw_tbl ∧ Cond.code Lib.Math.min.name Lib.Math.min.code 2 (some .int) ∈ lw_tbl ∧ Cond.static Lib.Math.max.name ∈ lw_tbl ∧ Cond.code Lib.Math.max.name Lib.Math.max.code 2 (some .int) ∈ lw_tbl ∧ Cond.static Lib.MathLoose.min_long.x ∈ lw_tbl ∧ Cond.code Lib.MathLoose.min_long.x Lib.MathLoose.min_long.code 4 (some .long) ∈ lw_tbl ∧ Cond.initialized "java/lang/Math" ∈ lw_tbl := by decide +kernel
theorem s_mmin (C : CX G X cc own nm nL rt rf rl) {a b : Int} {idx : Nat} (d : decode cc pc = .ok (.invokestatic idx, 3)) (hl : Cond.methodLink own idx Lib.Math.min.name ∈ lw_tbl) (hrm : RmOk st) (hrf : 1 ≤ rf) (hrl : 23 ≤ rl) (k : WA fx G X Q nL (pc + 3) ls ((0, min a b) :: st) rc rs w M) : WA fx G X Q nL pc ls ((0, b) :: (0, a) :: st) rc rs w M := by
  intro H locs cells slots lc hR hF hS h1 h2 hL hst
  have hb : inR b := ok_hd hst
  have ha : inR a := ok_hd (ok_tl hst)
  have hts := C.2.2.2.2.1
  have hf0 := C.2.2.2.2.2.2.2.2.2.2.2.1
  have hl0 := C.2.2.2.2.2.2.2.2.2.2.2.2
  have hcat := rm_ok (G := G) hrm
  have kk := k H locs cells slots lc hR hF hS h1 h2 hL (okc (v := (0, min a b)) (show inR (min a b) by omega) (ok_tl (ok_tl hst)))
  rw [List.map_cons, cv0, show Int32.ofInt (min a b) = (if Int32.ofInt b < Int32.ofInt a then Int32.ofInt b else Int32.ofInt a) by
    by_cases e : b < a
    · rw [if_pos ((i3_lt hb ha).mpr e), Int.min_eq_right (by omega)]
    · rw [if_neg (fun q => e ((i3_lt hb ha).mp q)), Int.min_eq_left (by omega)]] at kk
  exact va_mmin C.1 C.2.1 (by rw [C.2.2.1]; exact hL.1.symm) C.2.2.2.1 (hts _ (mG hl rfl)) (hts _ (mG mm_a.1 rfl)) (hts _ (mG mm_a.2.2.2.2.2.2 rfl)) (hts _ (mG mm_a.2.1 rfl)) (by omega) (by omega) (by omega) (by omega) d kk
theorem s_mmax (C : CX G X cc own nm nL rt rf rl) {a b : Int} {idx : Nat} (d : decode cc pc = .ok (.invokestatic idx, 3)) (hl : Cond.methodLink own idx Lib.Math.max.name ∈ lw_tbl) (hrm : RmOk st) (hrf : 1 ≤ rf) (hrl : 23 ≤ rl) (k : WA fx G X Q nL (pc + 3) ls ((0, max a b) :: st) rc rs w M) : WA fx G X Q nL pc ls ((0, b) :: (0, a) :: st) rc rs w M := by
  intro H locs cells slots lc hR hF hS h1 h2 hL hst
  have hb : inR b := ok_hd hst
  have ha : inR a := ok_hd (ok_tl hst)
  have hts := C.2.2.2.2.1
  have hf0 := C.2.2.2.2.2.2.2.2.2.2.2.1
  have hl0 := C.2.2.2.2.2.2.2.2.2.2.2.2
  have hcat := rm_ok (G := G) hrm
  have kk := k H locs cells slots lc hR hF hS h1 h2 hL (okc (v := (0, max a b)) (show inR (max a b) by omega) (ok_tl (ok_tl hst)))
  rw [List.map_cons, cv0, show Int32.ofInt (max a b) = (if Int32.ofInt a < Int32.ofInt b then Int32.ofInt b else Int32.ofInt a) by
    by_cases e : a < b
    · rw [if_pos ((i3_lt ha hb).mpr e), Int.max_eq_right (by omega)]
    · rw [if_neg (fun q => e ((i3_lt ha hb).mp q)), Int.max_eq_left (by omega)]] at kk
  exact va_mmax C.1 C.2.1 (by rw [C.2.2.1]; exact hL.1.symm) C.2.2.2.1 (hts _ (mG hl rfl)) (hts _ (mG mm_a.2.2.1 rfl)) (hts _ (mG mm_a.2.2.2.2.2.2 rfl)) (hts _ (mG mm_a.2.2.2.1 rfl)) (by omega) (by omega) (by omega) (by omega) d kk
theorem s_lmin (C : CX G X cc own nm nL rt rf rl) {a b : Int} {idx : Nat} (d : decode cc pc = .ok (.invokestatic idx, 3)) (hl : Cond.methodLink own idx Lib.MathLoose.min_long.x ∈ lw_tbl) (hrm : RmOk st) (hrf : 1 ≤ rf) (hrl : 23 ≤ rl) (k : WA fx G X Q nL (pc + 3) ls ((1, min a b) :: st) rc rs w M) : WA fx G X Q nL pc ls ((1, b) :: (1, a) :: st) rc rs w M := by
  intro H locs cells slots lc hR hF hS h1 h2 hL hst
  have hb : inL b := ok_hd hst
  have ha : inL a := ok_hd (ok_tl hst)
  have hts := C.2.2.2.2.1
  have hf0 := C.2.2.2.2.2.2.2.2.2.2.2.1
  have hl0 := C.2.2.2.2.2.2.2.2.2.2.2.2
  have hcat := rm_ok (G := G) hrm
  have kk := k H locs cells slots lc hR hF hS h1 h2 hL (okc (v := (1, min a b)) (show inL (min a b) by omega) (ok_tl (ok_tl hst)))
  rw [List.map_cons, cv1, show Int64.ofInt (min a b) = (if Int64.ofInt b < Int64.ofInt a then Int64.ofInt b else Int64.ofInt a) by
    by_cases e : b < a
    · rw [if_pos ((i6_lt hb ha).mpr e), Int.min_eq_right (by omega)]
    · rw [if_neg (fun q => e ((i6_lt hb ha).mp q)), Int.min_eq_left (by omega)]] at kk
  exact va_mmin_long C.1 C.2.1 (by rw [C.2.2.1]; exact hL.1.symm) C.2.2.2.1 (hts _ (mG hl rfl)) (hts _ (mG mm_a.2.2.2.2.1 rfl)) (hts _ (mG mm_a.2.2.2.2.2.2 rfl)) (hts _ (mG mm_a.2.2.2.2.2.1 rfl)) (by omega) (by omega) (by omega) (by omega) d kk
end STEP2
theorem up_na {M : MM} {a i v a' i' : Int} (h : a' ≠ a) : up M a i v a' i' = M a' i' := by unfold up; rw [if_neg (fun q => h q.1)]
theorem up_ni {M : MM} {a i v a' i' : Int} (h : i' ≠ i) : up M a i v a' i' = M a' i' := by unfold up; rw [if_neg (fun q => h q.2)]
theorem up_eq {M : MM} {a i v : Int} : up M a i v a i = v := by unfold up; rw [if_pos ⟨rfl, rfl⟩]
theorem up_ap (M : MM) (a i v a' i' : Int) : up M a i v a' i' = if a' = a ∧ i' = i then v else M a' i' := rfl
theorem us_new (S : SH) (a : Int) (t n : Nat) : us S a t n a = (t, n) := by unfold us; rw [if_pos rfl]
theorem us_ne {S : SH} {a b : Int} {t n : Nat} {x : Nat × Nat} (h : S b = x) (hb : b ≠ a) : us S a t n b = x := by unfold us; rw [if_neg hb]; exact h
theorem b2i_0 {c : Prop} [Decidable c] : b2i c = 0 ↔ ¬ c := by unfold b2i; by_cases h : c <;> simp [h]
theorem b2i_1 {c : Prop} [Decidable c] : b2i c = 1 ↔ c := by unfold b2i; by_cases h : c <;> simp [h]
theorem b2i_01 (c : Prop) [Decidable c] : b2i c = 0 ∨ b2i c = 1 := by unfold b2i; by_cases h : c <;> simp [h]
theorem b2i_t {c : Prop} [Decidable c] (h : c) : b2i c = 1 := b2i_1.mpr h
theorem b2i_f {c : Prop} [Decidable c] (h : ¬ c) : b2i c = 0 := b2i_0.mpr h
theorem b2i_c {c d : Prop} [Decidable c] [Decidable d] (h : c ↔ d) : b2i c = b2i d := by
  by_cases hc : c
  · rw [b2i_t hc, b2i_t (h.mp hc)]
  · rw [b2i_f hc, b2i_f (fun q => hc (h.mpr q))]
theorem LSf_r (j : Nat) : inR (LSf j) := by
  unfold LSf inR
  match j with
  | 0 | 1 | 2 | 3 | 4 | 5 | 6 | 7 | 8 => decide
  | j + 9 => simp
theorem GSf_r (j : Nat) : inR (GSf j) := by
  unfold GSf inR
  match j with
  | 0 | 1 | 2 | 3 | 4 | 5 | 6 | 7 | 8 => decide
  | j + 9 => simp
theorem PUf_r (j : Nat) : inR (PUf j) := by
  unfold PUf inR
  match j with
  | 0 | 1 | 2 | 3 | 4 | 5 | 6 | 7 => decide
  | j + 8 => simp
theorem FixA.c {w : NS} {M : MM} (h : FixA w M) (n : Nat) {e : Int × Int × Int} (he : fixL[n]? = some e) : M e.1 e.2.1 = e.2.2 := h.2.1 e (List.mem_of_getElem? he)
theorem inX0 : ∀ w ∈ wsX00, w ∈ gtbl := fun w h => mG (inlX0 w h) ((by decide +kernel : ∀ w ∈ wsX00, goodWord w = true) w h)
theorem inX1 : ∀ w ∈ wsX10, w ∈ gtbl := fun w h => mG (inlX1 w h) ((by decide +kernel : ∀ w ∈ wsX10, goodWord w = true) w h)
theorem inX2 : ∀ w ∈ wsX20, w ∈ gtbl := fun w h => mG (inlX2 w h) ((by decide +kernel : ∀ w ∈ wsX20, goodWord w = true) w h)
theorem inX3 : ∀ w ∈ wsX30, w ∈ gtbl := fun w h => mG (inlX3 w h) ((by decide +kernel : ∀ w ∈ wsX30, goodWord w = true) w h)
theorem inX4 : ∀ w ∈ wsX40, w ∈ gtbl := fun w h => mG (inlX4 w h) ((by decide +kernel : ∀ w ∈ wsX40, goodWord w = true) w h)
theorem inX5 : ∀ w ∈ wsX50, w ∈ gtbl := fun w h => mG (inlX5 w h) ((by decide +kernel : ∀ w ∈ wsX50, goodWord w = true) w h)
theorem inX6 : ∀ w ∈ wsX60, w ∈ gtbl := fun w h => mG (inlX6 w h) ((by decide +kernel : ∀ w ∈ wsX60, goodWord w = true) w h)
theorem inX7 : ∀ w ∈ wsX70, w ∈ gtbl := fun w h => mG (inlX7 w h) ((by decide +kernel : ∀ w ∈ wsX70, goodWord w = true) w h)
theorem inX8 : ∀ w ∈ wsX80, w ∈ gtbl := fun w h => mG (inlX8 w h) ((by decide +kernel : ∀ w ∈ wsX80, goodWord w = true) w h)
theorem inX9 : ∀ w ∈ wsX90, w ∈ gtbl := fun w h => mG (inlX9 w h) ((by decide +kernel : ∀ w ∈ wsX90, goodWord w = true) w h)
theorem inX10 : ∀ w ∈ wsX100, w ∈ gtbl := fun w h => mG (inlX10 w h) ((by decide +kernel : ∀ w ∈ wsX100, goodWord w = true) w h)
theorem sh_1 {w : NS} {M : MM} (h : FixA w M) : w.2 1 = (10, 17) := h.1 1 (by decide) (by decide)
theorem sh_2 {w : NS} {M : MM} (h : FixA w M) : w.2 2 = (12, 9) := h.1 2 (by decide) (by decide)
theorem sh_3 {w : NS} {M : MM} (h : FixA w M) : w.2 3 = (17, 8) := h.1 3 (by decide) (by decide)
theorem sh_4 {w : NS} {M : MM} (h : FixA w M) : w.2 4 = (18, 24) := h.1 4 (by decide) (by decide)
theorem sh_5 {w : NS} {M : MM} (h : FixA w M) : w.2 5 = (18, 24) := h.1 5 (by decide) (by decide)
theorem sh_6 {w : NS} {M : MM} (h : FixA w M) : w.2 6 = (16, 10) := h.1 6 (by decide) (by decide)
theorem sh_7 {w : NS} {M : MM} (h : FixA w M) : w.2 7 = (9, 2) := h.1 7 (by decide) (by decide)
theorem sh_8 {w : NS} {M : MM} (h : FixA w M) : w.2 8 = (12, 40) := h.1 8 (by decide) (by decide)
theorem sh_9 {w : NS} {M : MM} (h : FixA w M) : w.2 9 = (2, 3) := h.1 9 (by decide) (by decide)
theorem sh_10 {w : NS} {M : MM} (h : FixA w M) : w.2 10 = (18, 24) := h.1 10 (by decide) (by decide)
theorem sh_11 {w : NS} {M : MM} (h : FixA w M) : w.2 11 = (12, 61) := h.1 11 (by decide) (by decide)
theorem sh_12 {w : NS} {M : MM} (h : FixA w M) : w.2 12 = (12, 24) := h.1 12 (by decide) (by decide)
theorem sh_13 {w : NS} {M : MM} (h : FixA w M) : w.2 13 = (15, 4) := h.1 13 (by decide) (by decide)
theorem sh_14 {w : NS} {M : MM} (h : FixA w M) : w.2 14 = (1, 5) := h.1 14 (by decide) (by decide)
theorem sh_15 {w : NS} {M : MM} (h : FixA w M) : w.2 15 = (12, 9) := h.1 15 (by decide) (by decide)
theorem sh_16 {w : NS} {M : MM} (h : FixA w M) : w.2 16 = (12, 9) := h.1 16 (by decide) (by decide)
theorem sh_17 {w : NS} {M : MM} (h : FixA w M) : w.2 17 = (12, 9) := h.1 17 (by decide) (by decide)
theorem sh_18 {w : NS} {M : MM} (h : FixA w M) : w.2 18 = (12, 512) := h.1 18 (by decide) (by decide)
theorem sh_19 {w : NS} {M : MM} (h : FixA w M) : w.2 19 = (19, 4) := h.1 19 (by decide) (by decide)
theorem sh_20 {w : NS} {M : MM} (h : FixA w M) : w.2 20 = (6, 3) := h.1 20 (by decide) (by decide)
theorem sh_21 {w : NS} {M : MM} (h : FixA w M) : w.2 21 = (12, 8) := h.1 21 (by decide) (by decide)
theorem sh_22 {w : NS} {M : MM} (h : FixA w M) : w.2 22 = (13, 256) := h.1 22 (by decide) (by decide)
theorem sh_23 {w : NS} {M : MM} (h : FixA w M) : w.2 23 = (13, 256) := h.1 23 (by decide) (by decide)
theorem sh_24 {w : NS} {M : MM} (h : FixA w M) : w.2 24 = (12, 6) := h.1 24 (by decide) (by decide)
theorem sh_25 {w : NS} {M : MM} (h : FixA w M) : w.2 25 = (3, 2) := h.1 25 (by decide) (by decide)
theorem sh_26 {w : NS} {M : MM} (h : FixA w M) : w.2 26 = (12, 100) := h.1 26 (by decide) (by decide)
theorem sh_27 {w : NS} {M : MM} (h : FixA w M) : w.2 27 = (3, 2) := h.1 27 (by decide) (by decide)
theorem sh_28 {w : NS} {M : MM} (h : FixA w M) : w.2 28 = (12, 100) := h.1 28 (by decide) (by decide)
theorem sh_29 {w : NS} {M : MM} (h : FixA w M) : w.2 29 = (3, 2) := h.1 29 (by decide) (by decide)
theorem sh_30 {w : NS} {M : MM} (h : FixA w M) : w.2 30 = (12, 100) := h.1 30 (by decide) (by decide)
theorem sh_31 {w : NS} {M : MM} (h : FixA w M) : w.2 31 = (3, 2) := h.1 31 (by decide) (by decide)
theorem sh_32 {w : NS} {M : MM} (h : FixA w M) : w.2 32 = (12, 100) := h.1 32 (by decide) (by decide)
theorem sh_33 {w : NS} {M : MM} (h : FixA w M) : w.2 33 = (8, 4) := h.1 33 (by decide) (by decide)
theorem sh_34 {w : NS} {M : MM} (h : FixA w M) : w.2 34 = (12, 10) := h.1 34 (by decide) (by decide)
theorem sh_35 {w : NS} {M : MM} (h : FixA w M) : w.2 35 = (8, 4) := h.1 35 (by decide) (by decide)
theorem sh_36 {w : NS} {M : MM} (h : FixA w M) : w.2 36 = (12, 10) := h.1 36 (by decide) (by decide)
theorem sh_37 {w : NS} {M : MM} (h : FixA w M) : w.2 37 = (8, 4) := h.1 37 (by decide) (by decide)
theorem sh_38 {w : NS} {M : MM} (h : FixA w M) : w.2 38 = (12, 10) := h.1 38 (by decide) (by decide)
theorem sh_39 {w : NS} {M : MM} (h : FixA w M) : w.2 39 = (8, 4) := h.1 39 (by decide) (by decide)
theorem sh_40 {w : NS} {M : MM} (h : FixA w M) : w.2 40 = (12, 10) := h.1 40 (by decide) (by decide)
theorem sh_41 {w : NS} {M : MM} (h : FixA w M) : w.2 41 = (11, 51) := h.1 41 (by decide) (by decide)
theorem sh_42 {w : NS} {M : MM} (h : FixA w M) : w.2 42 = (12, 480) := h.1 42 (by decide) (by decide)
theorem sh_43 {w : NS} {M : MM} (h : FixA w M) : w.2 43 = (12, 8) := h.1 43 (by decide) (by decide)
theorem sh_44 {w : NS} {M : MM} (h : FixA w M) : w.2 44 = (12, 8) := h.1 44 (by decide) (by decide)
theorem sh_45 {w : NS} {M : MM} (h : FixA w M) : w.2 45 = (12, 8) := h.1 45 (by decide) (by decide)
theorem sh_46 {w : NS} {M : MM} (h : FixA w M) : w.2 46 = (12, 24) := h.1 46 (by decide) (by decide)
theorem sh_47 {w : NS} {M : MM} (h : FixA w M) : w.2 47 = (12, 24) := h.1 47 (by decide) (by decide)
theorem sh_48 {w : NS} {M : MM} (h : FixA w M) : w.2 48 = (12, 24) := h.1 48 (by decide) (by decide)
theorem sh_49 {w : NS} {M : MM} (h : FixA w M) : w.2 49 = (12, 24) := h.1 49 (by decide) (by decide)
theorem sh_50 {w : NS} {M : MM} (h : FixA w M) : w.2 50 = (12, 24) := h.1 50 (by decide) (by decide)
theorem sh_51 {w : NS} {M : MM} (h : FixA w M) : w.2 51 = (12, 24) := h.1 51 (by decide) (by decide)
theorem sh_52 {w : NS} {M : MM} (h : FixA w M) : w.2 52 = (12, 24) := h.1 52 (by decide) (by decide)
theorem sh_53 {w : NS} {M : MM} (h : FixA w M) : w.2 53 = (12, 9) := h.1 53 (by decide) (by decide)
theorem sh_54 {w : NS} {M : MM} (h : FixA w M) : w.2 54 = (12, 60) := h.1 54 (by decide) (by decide)
theorem sh_55 {w : NS} {M : MM} (h : FixA w M) : w.2 55 = (12, 60) := h.1 55 (by decide) (by decide)
theorem sh_56 {w : NS} {M : MM} (h : FixA w M) : w.2 56 = (12, 440) := h.1 56 (by decide) (by decide)
theorem sh_57 {w : NS} {M : MM} (h : FixA w M) : w.2 57 = (12, 11) := h.1 57 (by decide) (by decide)
theorem sh_58 {w : NS} {M : MM} (h : FixA w M) : w.2 58 = (12, 10) := h.1 58 (by decide) (by decide)
theorem sh_59 {w : NS} {M : MM} (h : FixA w M) : w.2 59 = (12, 10) := h.1 59 (by decide) (by decide)
theorem sh_60 {w : NS} {M : MM} (h : FixA w M) : w.2 60 = (12, 10) := h.1 60 (by decide) (by decide)
theorem sh_61 {w : NS} {M : MM} (h : FixA w M) : w.2 61 = (12, 10) := h.1 61 (by decide) (by decide)
theorem sh_62 {w : NS} {M : MM} (h : FixA w M) : w.2 62 = (12, 10) := h.1 62 (by decide) (by decide)
theorem sh_63 {w : NS} {M : MM} (h : FixA w M) : w.2 63 = (14, 10) := h.1 63 (by decide) (by decide)
theorem sh_64 {w : NS} {M : MM} (h : FixA w M) : w.2 64 = (14, 10) := h.1 64 (by decide) (by decide)
theorem sh_65 {w : NS} {M : MM} (h : FixA w M) : w.2 65 = (14, 10) := h.1 65 (by decide) (by decide)
theorem sh_66 {w : NS} {M : MM} (h : FixA w M) : w.2 66 = (14, 10) := h.1 66 (by decide) (by decide)
theorem sh_67 {w : NS} {M : MM} (h : FixA w M) : w.2 67 = (12, 61) := h.1 67 (by decide) (by decide)
theorem sh_68 {w : NS} {M : MM} (h : FixA w M) : w.2 68 = (14, 24) := h.1 68 (by decide) (by decide)
theorem sh_69 {w : NS} {M : MM} (h : FixA w M) : w.2 69 = (14, 576) := h.1 69 (by decide) (by decide)
theorem sh_70 {w : NS} {M : MM} (h : FixA w M) : w.2 70 = (12, 24) := h.1 70 (by decide) (by decide)
theorem sh_71 {w : NS} {M : MM} (h : FixA w M) : w.2 71 = (14, 24) := h.1 71 (by decide) (by decide)
theorem sh_72 {w : NS} {M : MM} (h : FixA w M) : w.2 72 = (12, 4) := h.1 72 (by decide) (by decide)
theorem sh_73 {w : NS} {M : MM} (h : FixA w M) : w.2 73 = (12, 400) := h.1 73 (by decide) (by decide)
theorem sh_74 {w : NS} {M : MM} (h : FixA w M) : w.2 74 = (12, 9) := h.1 74 (by decide) (by decide)
theorem sh_75 {w : NS} {M : MM} (h : FixA w M) : w.2 75 = (12, 9) := h.1 75 (by decide) (by decide)
theorem sh_76 {w : NS} {M : MM} (h : FixA w M) : w.2 76 = (14, 2560) := h.1 76 (by decide) (by decide)
theorem sh_77 {w : NS} {M : MM} (h : FixA w M) : w.2 77 = (12, 4) := h.1 77 (by decide) (by decide)
theorem sh_78 {w : NS} {M : MM} (h : FixA w M) : w.2 78 = (12, 8) := h.1 78 (by decide) (by decide)
theorem sh_79 {w : NS} {M : MM} (h : FixA w M) : w.2 79 = (12, 40) := h.1 79 (by decide) (by decide)
theorem sh_80 {w : NS} {M : MM} (h : FixA w M) : w.2 80 = (12, 8) := h.1 80 (by decide) (by decide)
theorem sh_81 {w : NS} {M : MM} (h : FixA w M) : w.2 81 = (12, 8) := h.1 81 (by decide) (by decide)
theorem sh_82 {w : NS} {M : MM} (h : FixA w M) : w.2 82 = (12, 5) := h.1 82 (by decide) (by decide)
theorem sh_83 {w : NS} {M : MM} (h : FixA w M) : w.2 83 = (12, 6) := h.1 83 (by decide) (by decide)
theorem fx_1_0 {w : NS} {M : MM} (h : FixA w M) : M 1 0 = 2 := h.c 0 rfl
theorem fx_1_1 {w : NS} {M : MM} (h : FixA w M) : M 1 1 = 3 := h.c 1 rfl
theorem fx_1_3 {w : NS} {M : MM} (h : FixA w M) : M 1 3 = 4 := h.c 2 rfl
theorem fx_1_5 {w : NS} {M : MM} (h : FixA w M) : M 1 5 = 5 := h.c 3 rfl
theorem fx_1_6 {w : NS} {M : MM} (h : FixA w M) : M 1 6 = 6 := h.c 4 rfl
theorem fx_1_9 {w : NS} {M : MM} (h : FixA w M) : M 1 9 = 9 := h.c 5 rfl
theorem fx_1_10 {w : NS} {M : MM} (h : FixA w M) : M 1 10 = 12 := h.c 6 rfl
theorem fx_1_12 {w : NS} {M : MM} (h : FixA w M) : M 1 12 = 13 := h.c 7 rfl
theorem fx_1_13 {w : NS} {M : MM} (h : FixA w M) : M 1 13 = 14 := h.c 8 rfl
theorem fx_1_14 {w : NS} {M : MM} (h : FixA w M) : M 1 14 = 19 := h.c 9 rfl
theorem fx_1_15 {w : NS} {M : MM} (h : FixA w M) : M 1 15 = 20 := h.c 10 rfl
theorem fx_1_16 {w : NS} {M : MM} (h : FixA w M) : M 1 16 = 24 := h.c 11 rfl
theorem fx_9_1 {w : NS} {M : MM} (h : FixA w M) : M 9 1 = 10 := h.c 12 rfl
theorem fx_9_2 {w : NS} {M : MM} (h : FixA w M) : M 9 2 = 11 := h.c 13 rfl
theorem fx_13_0 {w : NS} {M : MM} (h : FixA w M) : M 13 0 = 25 := h.c 14 rfl
theorem fx_13_1 {w : NS} {M : MM} (h : FixA w M) : M 13 1 = 27 := h.c 15 rfl
theorem fx_13_2 {w : NS} {M : MM} (h : FixA w M) : M 13 2 = 29 := h.c 16 rfl
theorem fx_13_3 {w : NS} {M : MM} (h : FixA w M) : M 13 3 = 31 := h.c 17 rfl
theorem fx_14_0 {w : NS} {M : MM} (h : FixA w M) : M 14 0 = 15 := h.c 18 rfl
theorem fx_14_1 {w : NS} {M : MM} (h : FixA w M) : M 14 1 = 16 := h.c 19 rfl
theorem fx_14_3 {w : NS} {M : MM} (h : FixA w M) : M 14 3 = 17 := h.c 20 rfl
theorem fx_14_4 {w : NS} {M : MM} (h : FixA w M) : M 14 4 = 18 := h.c 21 rfl
theorem fx_19_0 {w : NS} {M : MM} (h : FixA w M) : M 19 0 = 33 := h.c 22 rfl
theorem fx_19_1 {w : NS} {M : MM} (h : FixA w M) : M 19 1 = 35 := h.c 23 rfl
theorem fx_19_2 {w : NS} {M : MM} (h : FixA w M) : M 19 2 = 37 := h.c 24 rfl
theorem fx_19_3 {w : NS} {M : MM} (h : FixA w M) : M 19 3 = 39 := h.c 25 rfl
theorem fx_20_0 {w : NS} {M : MM} (h : FixA w M) : M 20 0 = 21 := h.c 26 rfl
theorem fx_20_1 {w : NS} {M : MM} (h : FixA w M) : M 20 1 = 22 := h.c 27 rfl
theorem fx_20_2 {w : NS} {M : MM} (h : FixA w M) : M 20 2 = 23 := h.c 28 rfl
theorem fx_41_0 {w : NS} {M : MM} (h : FixA w M) : M 41 0 = 42 := h.c 29 rfl
theorem fx_41_1 {w : NS} {M : MM} (h : FixA w M) : M 41 1 = 43 := h.c 30 rfl
theorem fx_41_2 {w : NS} {M : MM} (h : FixA w M) : M 41 2 = 44 := h.c 31 rfl
theorem fx_41_3 {w : NS} {M : MM} (h : FixA w M) : M 41 3 = 45 := h.c 32 rfl
theorem fx_41_5 {w : NS} {M : MM} (h : FixA w M) : M 41 5 = 46 := h.c 33 rfl
theorem fx_41_6 {w : NS} {M : MM} (h : FixA w M) : M 41 6 = 47 := h.c 34 rfl
theorem fx_41_7 {w : NS} {M : MM} (h : FixA w M) : M 41 7 = 48 := h.c 35 rfl
theorem fx_41_8 {w : NS} {M : MM} (h : FixA w M) : M 41 8 = 49 := h.c 36 rfl
theorem fx_41_9 {w : NS} {M : MM} (h : FixA w M) : M 41 9 = 50 := h.c 37 rfl
theorem fx_41_10 {w : NS} {M : MM} (h : FixA w M) : M 41 10 = 51 := h.c 38 rfl
theorem fx_41_11 {w : NS} {M : MM} (h : FixA w M) : M 41 11 = 52 := h.c 39 rfl
theorem fx_41_13 {w : NS} {M : MM} (h : FixA w M) : M 41 13 = 53 := h.c 40 rfl
theorem fx_41_14 {w : NS} {M : MM} (h : FixA w M) : M 41 14 = 54 := h.c 41 rfl
theorem fx_41_15 {w : NS} {M : MM} (h : FixA w M) : M 41 15 = 55 := h.c 42 rfl
theorem fx_41_18 {w : NS} {M : MM} (h : FixA w M) : M 41 18 = 56 := h.c 43 rfl
theorem fx_41_19 {w : NS} {M : MM} (h : FixA w M) : M 41 19 = 57 := h.c 44 rfl
theorem fx_41_20 {w : NS} {M : MM} (h : FixA w M) : M 41 20 = 58 := h.c 45 rfl
theorem fx_41_21 {w : NS} {M : MM} (h : FixA w M) : M 41 21 = 59 := h.c 46 rfl
theorem fx_41_22 {w : NS} {M : MM} (h : FixA w M) : M 41 22 = 60 := h.c 47 rfl
theorem fx_41_23 {w : NS} {M : MM} (h : FixA w M) : M 41 23 = 61 := h.c 48 rfl
theorem fx_41_24 {w : NS} {M : MM} (h : FixA w M) : M 41 24 = 62 := h.c 49 rfl
theorem fx_41_25 {w : NS} {M : MM} (h : FixA w M) : M 41 25 = 63 := h.c 50 rfl
theorem fx_41_27 {w : NS} {M : MM} (h : FixA w M) : M 41 27 = 64 := h.c 51 rfl
theorem fx_41_28 {w : NS} {M : MM} (h : FixA w M) : M 41 28 = 65 := h.c 52 rfl
theorem fx_41_29 {w : NS} {M : MM} (h : FixA w M) : M 41 29 = 66 := h.c 53 rfl
theorem fx_41_31 {w : NS} {M : MM} (h : FixA w M) : M 41 31 = 67 := h.c 54 rfl
theorem fx_41_32 {w : NS} {M : MM} (h : FixA w M) : M 41 32 = 68 := h.c 55 rfl
theorem fx_41_33 {w : NS} {M : MM} (h : FixA w M) : M 41 33 = 69 := h.c 56 rfl
theorem fx_41_35 {w : NS} {M : MM} (h : FixA w M) : M 41 35 = 70 := h.c 57 rfl
theorem fx_41_37 {w : NS} {M : MM} (h : FixA w M) : M 41 37 = 71 := h.c 58 rfl
theorem fx_41_38 {w : NS} {M : MM} (h : FixA w M) : M 41 38 = 72 := h.c 59 rfl
theorem fx_41_39 {w : NS} {M : MM} (h : FixA w M) : M 41 39 = 73 := h.c 60 rfl
theorem fx_41_40 {w : NS} {M : MM} (h : FixA w M) : M 41 40 = 74 := h.c 61 rfl
theorem fx_41_41 {w : NS} {M : MM} (h : FixA w M) : M 41 41 = 75 := h.c 62 rfl
theorem fx_41_43 {w : NS} {M : MM} (h : FixA w M) : M 41 43 = 76 := h.c 63 rfl
theorem fx_41_44 {w : NS} {M : MM} (h : FixA w M) : M 41 44 = 77 := h.c 64 rfl
theorem fx_41_45 {w : NS} {M : MM} (h : FixA w M) : M 41 45 = 78 := h.c 65 rfl
theorem fx_41_46 {w : NS} {M : MM} (h : FixA w M) : M 41 46 = 79 := h.c 66 rfl
theorem fx_41_47 {w : NS} {M : MM} (h : FixA w M) : M 41 47 = 80 := h.c 67 rfl
theorem fx_41_48 {w : NS} {M : MM} (h : FixA w M) : M 41 48 = 81 := h.c 68 rfl
theorem fx_41_49 {w : NS} {M : MM} (h : FixA w M) : M 41 49 = 82 := h.c 69 rfl
theorem fx_41_50 {w : NS} {M : MM} (h : FixA w M) : M 41 50 = 83 := h.c 70 rfl
