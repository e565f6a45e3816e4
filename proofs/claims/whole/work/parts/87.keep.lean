theorem up_row {S : MM} {a i v x : Int} (h : x ≠ a) : up S a i v x = S x := funext (fun _ => up_na h)
theorem up_all {S : MM} {a i v : Int} {P : Int → Prop} (hv : P v) (h : ∀ j, P (S a j)) : ∀ j, P (up S a i v a j) := fun j => by
  by_cases e : j = i
  · rw [e, up_eq]; exact hv
  · rw [up_ni e]; exact h j
def JJ (n : Int) (S : MM) : Prop := SInv S ∧ RInv S ∧ ∀ c, S 83 c ≤ n
theorem JJ.wk {n : Int} {S : MM} (h : JJ n S) : JJ (n + 1) S := ⟨h.1, h.2.1, fun c => by have := h.2.2 c; omega⟩
theorem fltF_cg {f g : Int → Int} {m : Int} : ∀ (k : Nat) (s d i : Int), 0 ≤ i → (∀ j, 0 ≤ j → j < i + k → f j = g j) → fltF f m k s d i = fltF g m k s d i
  | 0, _, _, _, _, _ => rfl
  | k + 1, s, d, i, hi, h => by
    rw [fltF, fltF, h i hi (by omega), fltF_cg k _ _ (i + 1) (by omega) (fun j j0 j1 => h j j0 (by omega))]
theorem fltS_cg {S S' : MM} {o u : Int} (hn : 0 ≤ S 57 o) (h7 : S' 57 u = S 57 o) (h6 : ∀ i, 0 ≤ i → i < S 57 o → S' 56 (40 * u + i) = S 56 (40 * o + i)) : fltS S' u = fltS S o := by
  unfold fltS
  rw [h7]
  exact fltF_cg _ _ _ _ (by omega) (fun j j0 j1 => h6 j j0 (by omega))
theorem rinv_cg {S S' : MM} (h6 : ∀ i, S' 56 i = S 56 i) (h7 : ∀ i, S' 57 i = S 57 i) (h1 : S' 41 26 = S 41 26) (h : RInv S) (hI : SInv S) : RInv S' := fun o ho => by
  rw [fltS_cg (hI.sm o).1 (h7 o) (fun i _ _ => h6 _)]
  exact h o ⟨ho.1, by rw [← h1]; exact ho.2⟩
theorem si_set {S : MM} {k v : Int} (hv : lstO k ≤ v ∧ v ≤ grtO k) (hI : SInv S) : SInv (up S 53 k v) := by
  simp (discharger := decide) only [SInv, isPg, isPc, up_row]
  refine ⟨hI.pg, hI.pc, hI.oc, hI.wd, hI.wn, hI.pp, hI.dy, hI.sd, hI.po, hI.ed, hI.fl, hI.sn, hI.zb, ?_, hI.sg, hI.sm, hI.fd, hI.mi, hI.mr, hI.sl, hI.nw, hI.ct, hI.cl, hI.pa, hI.ft, hI.ms, hI.oe, hI.mm⟩
  · intro j j0 j1; by_cases e : j = k
    · rw [e, up_eq]; exact hv
    · rw [up_ni e]; exact hI.nm j j0 j1
theorem ji_set {n : Int} {S : MM} {k v : Int} (hv : lstO k ≤ v ∧ v ≤ grtO k) (h : JJ n S) : JJ (n + 1) (up S 53 k v) := ⟨si_set hv h.1, rinv_cg (fun _ => by simp (discharger := decide) only [up_row]) (fun _ => by simp (discharger := decide) only [up_row]) (by simp (discharger := decide) only [up_row]) h.2.1 h.1, fun c => by have := h.2.2 c; simp (discharger := decide) only [up_row]; omega⟩
theorem si_name {S : MM} {k v : Int} (hv : v = -6 ∨ (0 ≤ v ∧ v ≤ 99)) (hI : SInv S) : SInv (up S 72 k v) := by
  simp (discharger := decide) only [SInv, isPg, isPc, up_row]
  refine ⟨hI.pg, hI.pc, hI.oc, hI.wd, hI.wn, hI.pp, hI.dy, hI.sd, hI.po, hI.ed, hI.fl, hI.sn, hI.zb, hI.nm, hI.sg, hI.sm, hI.fd, hI.mi, hI.mr, hI.sl, ?_, hI.ct, hI.cl, hI.pa, hI.ft, hI.ms, hI.oe, hI.mm⟩
  · intro j; by_cases e : j = k
    · rw [e, up_eq]; exact hv
    · rw [up_ni e]; exact hI.nw j
theorem ji_name {n : Int} {S : MM} {k v : Int} (hv : v = -6 ∨ (0 ≤ v ∧ v ≤ 99)) (h : JJ n S) : JJ (n + 1) (up S 72 k v) := ⟨si_name hv h.1, rinv_cg (fun _ => by simp (discharger := decide) only [up_row]) (fun _ => by simp (discharger := decide) only [up_row]) (by simp (discharger := decide) only [up_row]) h.2.1 h.1, fun c => by have := h.2.2 c; simp (discharger := decide) only [up_row]; omega⟩
theorem si_counts {S : MM} {k v : Int} (hv : -100 ≤ v ∧ v ≤ 100) (hI : SInv S) : SInv (up S 73 k v) := by
  simp (discharger := decide) only [SInv, isPg, isPc, up_row]
  refine ⟨hI.pg, hI.pc, hI.oc, hI.wd, hI.wn, hI.pp, hI.dy, hI.sd, hI.po, hI.ed, hI.fl, hI.sn, hI.zb, hI.nm, hI.sg, hI.sm, hI.fd, hI.mi, hI.mr, hI.sl, hI.nw, ?_, hI.cl, hI.pa, hI.ft, hI.ms, hI.oe, hI.mm⟩
  · intro j; by_cases e : j = k
    · rw [e, up_eq]; exact hv
    · rw [up_ni e]; exact hI.ct j
theorem ji_counts {n : Int} {S : MM} {k v : Int} (hv : -100 ≤ v ∧ v ≤ 100) (h : JJ n S) : JJ (n + 1) (up S 73 k v) := ⟨si_counts hv h.1, rinv_cg (fun _ => by simp (discharger := decide) only [up_row]) (fun _ => by simp (discharger := decide) only [up_row]) (by simp (discharger := decide) only [up_row]) h.2.1 h.1, fun c => by have := h.2.2 c; simp (discharger := decide) only [up_row]; omega⟩
theorem si_slips {S : MM} {k v : Int} (hv : 0 ≤ v ∧ v ≤ 100) (hI : SInv S) : SInv (up S 79 k v) := by
  simp (discharger := decide) only [SInv, isPg, isPc, up_row]
  refine ⟨hI.pg, hI.pc, hI.oc, hI.wd, hI.wn, hI.pp, hI.dy, hI.sd, hI.po, hI.ed, hI.fl, hI.sn, hI.zb, hI.nm, hI.sg, hI.sm, hI.fd, hI.mi, hI.mr, ?_, hI.nw, hI.ct, hI.cl, hI.pa, hI.ft, hI.ms, hI.oe, hI.mm⟩
  · intro j; by_cases e : j = k
    · rw [e, up_eq]; exact hv
    · rw [up_ni e]; exact hI.sl j
theorem ji_slips {n : Int} {S : MM} {k v : Int} (hv : 0 ≤ v ∧ v ≤ 100) (h : JJ n S) : JJ (n + 1) (up S 79 k v) := ⟨si_slips hv h.1, rinv_cg (fun _ => by simp (discharger := decide) only [up_row]) (fun _ => by simp (discharger := decide) only [up_row]) (by simp (discharger := decide) only [up_row]) h.2.1 h.1, fun c => by have := h.2.2 c; simp (discharger := decide) only [up_row]; omega⟩
theorem si_reader {S : MM} {k v : Int} (hv : 0 ≤ v ∧ v ≤ 1000) (hw : k % 2 = 0 → 1 ≤ v ∧ v ≤ 100) (hI : SInv S) : SInv (up S 78 k v) := by
  simp (discharger := decide) only [SInv, isPg, isPc, up_row]
  refine ⟨hI.pg, hI.pc, hI.oc, hI.wd, hI.wn, hI.pp, hI.dy, hI.sd, hI.po, hI.ed, hI.fl, hI.sn, hI.zb, hI.nm, hI.sg, hI.sm, hI.fd, ?_, ?_, hI.sl, hI.nw, hI.ct, hI.cl, hI.pa, hI.ft, hI.ms, hI.oe, hI.mm⟩
  · intro j; by_cases e : j = k
    · rw [e, up_eq]; exact hv
    · rw [up_ni e]; exact hI.mi j
  · intro r r0 r1; by_cases e : 2 * r = k
    · rw [e, up_eq]; exact hw (by omega)
    · rw [up_ni e]; exact hI.mr r r0 r1
theorem ji_reader {n : Int} {S : MM} {k v : Int} (hv : 0 ≤ v ∧ v ≤ 1000) (hw : k % 2 = 0 → 1 ≤ v ∧ v ≤ 100) (h : JJ n S) : JJ (n + 1) (up S 78 k v) := ⟨si_reader hv hw h.1, rinv_cg (fun _ => by simp (discharger := decide) only [up_row]) (fun _ => by simp (discharger := decide) only [up_row]) (by simp (discharger := decide) only [up_row]) h.2.1 h.1, fun c => by have := h.2.2 c; simp (discharger := decide) only [up_row]; omega⟩
theorem si_find {S : MM} {k v : Int} (hv : 0 ≤ v ∧ v < 2 ^ (S 41 12).toNat) (hI : SInv S) : SInv (up S 77 k v) := by
  simp (discharger := decide) only [SInv, isPg, isPc, up_row]
  refine ⟨hI.pg, hI.pc, hI.oc, hI.wd, hI.wn, hI.pp, hI.dy, hI.sd, hI.po, hI.ed, hI.fl, hI.sn, hI.zb, hI.nm, hI.sg, hI.sm, ?_, hI.mi, hI.mr, hI.sl, hI.nw, hI.ct, hI.cl, hI.pa, hI.ft, hI.ms, hI.oe, hI.mm⟩
  · intro j; by_cases e : j = k
    · rw [e, up_eq]; exact hv
    · rw [up_ni e]; exact hI.fd j
theorem ji_find {n : Int} {S : MM} {k v : Int} (hv : 0 ≤ v ∧ v < 2 ^ (S 41 12).toNat) (h : JJ n S) : JJ (n + 1) (up S 77 k v) := ⟨si_find hv h.1, rinv_cg (fun _ => by simp (discharger := decide) only [up_row]) (fun _ => by simp (discharger := decide) only [up_row]) (by simp (discharger := decide) only [up_row]) h.2.1 h.1, fun c => by have := h.2.2 c; simp (discharger := decide) only [up_row]; omega⟩
theorem si_file {S : MM} {k v : Int} (hv : 0 ≤ v ∧ v ≤ 15) (hk : k < S 41 12) (hI : SInv S) : SInv (up S 51 k v) := by
  simp (discharger := decide) only [SInv, isPg, isPc, up_row]
  refine ⟨hI.pg, hI.pc, hI.oc, hI.wd, hI.wn, hI.pp, hI.dy, hI.sd, hI.po, hI.ed, ?_, hI.sn, ?_, hI.nm, hI.sg, hI.sm, hI.fd, hI.mi, hI.mr, hI.sl, hI.nw, hI.ct, hI.cl, hI.pa, hI.ft, hI.ms, hI.oe, hI.mm⟩
  · intro j; by_cases e : j = k
    · rw [e, up_eq]; exact hv
    · rw [up_ni e]; exact hI.fl j
  · intro j hj; rw [up_ni (by omega)]; exact hI.zb j hj
theorem ji_file {n : Int} {S : MM} {k v : Int} (hv : 0 ≤ v ∧ v ≤ 15) (hk : k < S 41 12) (h : JJ n S) : JJ (n + 1) (up S 51 k v) := ⟨si_file hv hk h.1, rinv_cg (fun _ => by simp (discharger := decide) only [up_row]) (fun _ => by simp (discharger := decide) only [up_row]) (by simp (discharger := decide) only [up_row]) h.2.1 h.1, fun c => by have := h.2.2 c; simp (discharger := decide) only [up_row]; omega⟩
theorem si_send {S : MM} {k v : Int} (hv : 0 ≤ v ∧ v < 2 ^ (S 41 26).toNat) (hk : k < S 41 12) (hI : SInv S) : SInv (up S 52 k v) := by
  simp (discharger := decide) only [SInv, isPg, isPc, up_row]
  refine ⟨hI.pg, hI.pc, hI.oc, hI.wd, hI.wn, hI.pp, hI.dy, hI.sd, hI.po, hI.ed, hI.fl, ?_, ?_, hI.nm, hI.sg, hI.sm, hI.fd, hI.mi, hI.mr, hI.sl, hI.nw, hI.ct, hI.cl, hI.pa, hI.ft, hI.ms, hI.oe, hI.mm⟩
  · intro j; by_cases e : j = k
    · rw [e, up_eq]; exact hv
    · rw [up_ni e]; exact hI.sn j
  · intro j hj; rw [up_ni (by omega)]; exact hI.zb j hj
theorem ji_send {n : Int} {S : MM} {k v : Int} (hv : 0 ≤ v ∧ v < 2 ^ (S 41 26).toNat) (hk : k < S 41 12) (h : JJ n S) : JJ (n + 1) (up S 52 k v) := ⟨si_send hv hk h.1, rinv_cg (fun _ => by simp (discharger := decide) only [up_row]) (fun _ => by simp (discharger := decide) only [up_row]) (by simp (discharger := decide) only [up_row]) h.2.1 h.1, fun c => by have := h.2.2 c; simp (discharger := decide) only [up_row]; omega⟩
theorem si_write {S : MM} {p i v : Int} (hv : v = -6 ∨ (0 ≤ v ∧ v ≤ 99)) (hp : p < S 41 4) (hi : i < 60) (hI : SInv S) : SInv (up S 42 (60 * p + i) v) := by
  simp (discharger := decide) only [SInv, isPg, isPc, up_row]
  refine ⟨hI.pg, hI.pc, hI.oc, ?_, ?_, hI.pp, hI.dy, hI.sd, hI.po, hI.ed, hI.fl, hI.sn, hI.zb, hI.nm, hI.sg, hI.sm, hI.fd, hI.mi, hI.mr, hI.sl, hI.nw, hI.ct, hI.cl, hI.pa, hI.ft, hI.ms, hI.oe, hI.mm⟩
  · intro j; by_cases e : j = 60 * p + i
    · rw [e, up_eq]; exact hv
    · rw [up_ni e]; exact hI.wd j
  · intro p j h1 h2 h3 h4; rw [up_ni (by omega)]; exact hI.wn p j h1 h2 h3 h4
theorem ji_write {n : Int} {S : MM} {p i v : Int} (hv : v = -6 ∨ (0 ≤ v ∧ v ≤ 99)) (hp : p < S 41 4) (hi : i < 60) (h : JJ n S) : JJ (n + 1) (up S 42 (60 * p + i) v) := ⟨si_write hv hp hi h.1, rinv_cg (fun _ => by simp (discharger := decide) only [up_row]) (fun _ => by simp (discharger := decide) only [up_row]) (by simp (discharger := decide) only [up_row]) h.2.1 h.1, fun c => by have := h.2.2 c; simp (discharger := decide) only [up_row]; omega⟩
theorem si_miss {S : MM} {k v : Int} (hv : 0 ≤ v ∧ v ≤ 512) (hI : SInv S) : SInv (up S 83 k v) := by
  simp (discharger := decide) only [SInv, isPg, isPc, up_row]
  refine ⟨hI.pg, hI.pc, hI.oc, hI.wd, hI.wn, hI.pp, hI.dy, hI.sd, hI.po, hI.ed, hI.fl, hI.sn, hI.zb, hI.nm, hI.sg, hI.sm, hI.fd, hI.mi, hI.mr, hI.sl, hI.nw, hI.ct, hI.cl, hI.pa, hI.ft, hI.ms, hI.oe, ?_⟩
  · intro j; by_cases e : j = k
    · rw [e, up_eq]; exact hv
    · rw [up_ni e]; exact hI.mm j
theorem si_wipe {S : MM} {k v : Int} (hv : 0 ≤ v ∧ v ≤ 40) (hI : SInv S) : SInv (up S 57 k v) := by
  simp (discharger := decide) only [SInv, isPg, isPc, up_row]
  refine ⟨hI.pg, hI.pc, hI.oc, hI.wd, hI.wn, hI.pp, hI.dy, hI.sd, hI.po, hI.ed, hI.fl, hI.sn, hI.zb, hI.nm, hI.sg, ?_, hI.fd, hI.mi, hI.mr, hI.sl, hI.nw, hI.ct, hI.cl, hI.pa, hI.ft, hI.ms, hI.oe, hI.mm⟩
  · intro j; by_cases e : j = k
    · rw [e, up_eq]; exact hv
    · rw [up_ni e]; exact hI.sm j
theorem si_sign {S : MM} {k v : Int} (hv : v = 0 ∨ (33 ≤ v ∧ v ≤ 126)) (hI : SInv S) : SInv (up S 56 k v) := by
  simp (discharger := decide) only [SInv, isPg, isPc, up_row]
  refine ⟨hI.pg, hI.pc, hI.oc, hI.wd, hI.wn, hI.pp, hI.dy, hI.sd, hI.po, hI.ed, hI.fl, hI.sn, hI.zb, hI.nm, ?_, hI.sm, hI.fd, hI.mi, hI.mr, hI.sl, hI.nw, hI.ct, hI.cl, hI.pa, hI.ft, hI.ms, hI.oe, hI.mm⟩
  · intro j; by_cases e : j = k
    · rw [e, up_eq]; exact hv
    · rw [up_ni e]; exact hI.sg j
theorem si_sides {S : MM} {a b : Int} (ha : isPg S a) (hb : isPg S b) (hn : a ≠ b) (h1 : S 43 a = S 43 b ∧ S 44 a = S 44 b) (h2 : S 45 a < 0 ∧ S 45 b < 0) (hI : SInv S) : SInv (up (up S 45 a b) 45 b a) := by
  simp (discharger := decide) only [SInv, isPg, isPc, up_row]
  refine ⟨hI.pg, hI.pc, hI.oc, hI.wd, hI.wn, hI.pp, hI.dy, ?_, hI.po, hI.ed, hI.fl, hI.sn, hI.zb, hI.nm, hI.sg, hI.sm, hI.fd, hI.mi, hI.mr, hI.sl, hI.nw, hI.ct, hI.cl, hI.pa, hI.ft, hI.ms, hI.oe, hI.mm⟩
  · intro p hp
    by_cases ea : p = a
    · subst ea
      right; rw [up_ni hn, up_eq, up_eq]; exact ⟨hb, Ne.symm hn, rfl, h1.1.symm, h1.2.symm⟩
    · by_cases eb : p = b
      · subst eb
        right; rw [up_eq, up_ni hn, up_eq]; exact ⟨ha, hn, rfl, h1.1, h1.2⟩
      · rw [up_ni eb, up_ni ea]
        rcases hI.sd p hp with g | ⟨g1, g2, g3, g4, g5⟩
        · exact Or.inl g
        · have n1 : S 45 p ≠ a := fun q => by rw [q] at g3; have := hp.1; omega
          have n2 : S 45 p ≠ b := fun q => by rw [q] at g3; have := hp.1; omega
          right; rw [up_ni n2, up_ni n1]; exact ⟨g1, g2, g3, g4, g5⟩
theorem ji_sides {n : Int} {S : MM} {a b : Int} (ha : isPg S a) (hb : isPg S b) (hn : a ≠ b) (h1 : S 43 a = S 43 b ∧ S 44 a = S 44 b) (h2 : S 45 a < 0 ∧ S 45 b < 0) (h : JJ n S) : JJ (n + 1) (up (up S 45 a b) 45 b a) := ⟨si_sides ha hb hn h1 h2 h.1, rinv_cg (fun _ => by simp (discharger := decide) only [up_row]) (fun _ => by simp (discharger := decide) only [up_row]) (by simp (discharger := decide) only [up_row]) h.2.1 h.1, fun c => by have := h.2.2 c; simp (discharger := decide) only [up_row]; omega⟩
theorem pow_le2 {a b : Nat} (h : a ≤ b) : (2 : Int) ^ a ≤ 2 ^ b := by
  have := Nat.pow_le_pow_right (n := 2) (by decide) h
  exact_mod_cast this
theorem si_page {S : MM} {a b : Int} (ha : 0 ≤ a ∧ a ≤ 9) (hb : 0 ≤ b ∧ b ≤ 99) (hn : S 41 4 ≠ 8) (hI : SInv S) : SInv (up (up (up (up S 43 (S 41 4) a) 44 (S 41 4) b) 45 (S 41 4) (-6)) 41 4 (S 41 4 + 1)) := by
  have hpg := hI.pg
  simp (discharger := decide) only [SInv, isPg, isPc, up_row, up_eq, up_ni]
  refine ⟨by omega, hI.pc, hI.oc, hI.wd, fun p i h1 h2 h3 h4 => hI.wn p i (by omega) h2 h3 h4, fun j => ?_, fun j => ?_, fun p hp => ?_, fun k hk => ?_, hI.ed, hI.fl, hI.sn, hI.zb, hI.nm, hI.sg, hI.sm, hI.fd, hI.mi, hI.mr, hI.sl, hI.nw, hI.ct, hI.cl, hI.pa, hI.ft, hI.ms, hI.oe, hI.mm⟩
  · by_cases e : j = S 41 4
    · rw [e, up_eq]; exact ha
    · rw [up_ni e]; exact hI.pp j
  · by_cases e : j = S 41 4
    · rw [e, up_eq]; exact hb
    · rw [up_ni e]; exact hI.dy j
  · by_cases e : p = S 41 4
    · left; rw [e, up_eq]
    · rw [up_ni e]
      rcases hI.sd p ⟨hp.1, by omega⟩ with g | ⟨g1, g2, g3, g4, g5⟩
      · exact Or.inl g
      · right
        have n : S 45 p ≠ S 41 4 := by have := g1.2; omega
        simp (discharger := decide) only [up_row, up_ni n, up_ni e]
        exact ⟨⟨g1.1, by have := g1.2; omega⟩, g2, g3, g4, g5⟩
  · have := hI.po k hk; exact ⟨this.1, by have := this.2; omega⟩
theorem si_piece {S : MM} {p t b l r : Int} (hp : isPg S p) (h1 : 0 ≤ t ∧ t ≤ b ∧ b ≤ 5) (h2 : 0 ≤ l ∧ l ≤ r ∧ r ≤ 9) (hn : S 41 12 ≠ 24) (hI : SInv S) : SInv (up (up (up (up (up (up S 46 (S 41 12) p) 47 (S 41 12) t) 48 (S 41 12) b) 49 (S 41 12) l) 50 (S 41 12) r) 41 12 (S 41 12 + 1)) := by
  have hpc := hI.pc
  simp (discharger := decide) only [SInv, isPg, isPc, up_row, up_eq, up_ni]
  refine ⟨hI.pg, by omega, hI.oc, hI.wd, hI.wn, hI.pp, hI.dy, hI.sd, fun k hk => ?_, fun k => ?_, hI.fl, hI.sn, fun k hk => hI.zb k (by omega), hI.nm, hI.sg, hI.sm, fun k => ?_, hI.mi, hI.mr, hI.sl, hI.nw, hI.ct, hI.cl, hI.pa, hI.ft, hI.ms, hI.oe, hI.mm⟩
  · by_cases e : k = S 41 12
    · rw [e, up_eq]; exact hp
    · rw [up_ni e]; exact hI.po k ⟨hk.1, by omega⟩
  · by_cases e : k = S 41 12
    · rw [e]; simp only [up_eq]; omega
    · simp only [up_ni e]; exact hI.ed k
  · have g := hI.fd k
    have := pow_le2 (a := (S 41 12).toNat) (b := (S 41 12 + 1).toNat) (by omega)
    exact ⟨g.1, by omega⟩
theorem ji_page {n : Int} {S : MM} {a b : Int} (ha : 0 ≤ a ∧ a ≤ 9) (hb : 0 ≤ b ∧ b ≤ 99) (hn : S 41 4 ≠ 8) (h : JJ n S) : JJ (n + 1) (up (up (up (up S 43 (S 41 4) a) 44 (S 41 4) b) 45 (S 41 4) (-6)) 41 4 (S 41 4 + 1)) :=
  ⟨si_page ha hb hn h.1, rinv_cg (fun _ => by simp (discharger := decide) only [up_row]) (fun _ => by simp (discharger := decide) only [up_row]) (by simp (discharger := decide) only [up_row, up_ni]) h.2.1 h.1, fun c => by have := h.2.2 c; simp (discharger := decide) only [up_row]; omega⟩
theorem ji_piece {n : Int} {S : MM} {p t b l r : Int} (hp : isPg S p) (h1 : 0 ≤ t ∧ t ≤ b ∧ b ≤ 5) (h2 : 0 ≤ l ∧ l ≤ r ∧ r ≤ 9) (hn : S 41 12 ≠ 24) (h : JJ n S) : JJ (n + 1) (up (up (up (up (up (up S 46 (S 41 12) p) 47 (S 41 12) t) 48 (S 41 12) b) 49 (S 41 12) l) 50 (S 41 12) r) 41 12 (S 41 12 + 1)) :=
  ⟨si_piece hp h1 h2 hn h.1, rinv_cg (fun _ => by simp (discharger := decide) only [up_row]) (fun _ => by simp (discharger := decide) only [up_row]) (by simp (discharger := decide) only [up_row, up_ni]) h.2.1 h.1, fun c => by have := h.2.2 c; simp (discharger := decide) only [up_row]; omega⟩
theorem ji_miss {n : Int} {S : MM} {c : Int} (hn : n < 512) (h : JJ n S) : JJ (n + 1) (up S 83 c (S 83 c + 1)) := by
  have h1 := h.1.mm c
  have h2 := h.2.2 c
  refine ⟨si_miss (by omega) h.1, rinv_cg (fun _ => by simp (discharger := decide) only [up_row]) (fun _ => by simp (discharger := decide) only [up_row]) (by simp (discharger := decide) only [up_row]) h.2.1 h.1, fun j => ?_⟩
  by_cases e : j = c
  · rw [e, up_eq]; omega
  · rw [up_ni e]; have := h.2.2 j; omega
theorem ji_wipe {n : Int} {S : MM} (h : JJ n S) : JJ (n + 1) (up S 57 10 0) := by
  refine ⟨si_wipe (by decide) h.1, fun o ho => ?_, fun j => ?_⟩
  · simp (discharger := decide) only [isOr, up_row] at ho
    have hoc := h.1.oc
    rw [fltS_cg (S := S) (o := o) (h.1.sm o).1 (up_ni (by omega)) (fun i _ _ => up_na (by decide))]
    exact h.2.1 o ho
  · rw [up_na (by decide)]; have := h.2.2 j; omega
theorem ji_say {n : Int} {S : MM} {c : Int} (hc : 33 ≤ c ∧ c ≤ 126) (hn : S 57 10 ≠ 40) (h : JJ n S) : JJ (n + 1) (up (up S 56 (400 + S 57 10) c) 57 10 (S 57 10 + 1)) := by
  have hm := h.1.sm 10
  refine ⟨si_wipe (by omega) (si_sign (Or.inr hc) h.1), fun o ho => ?_, fun j => ?_⟩
  · simp (discharger := decide) only [isOr, up_row] at ho
    have hoc := h.1.oc
    have ho2 := h.1.sm o
    rw [fltS_cg (S := S) (o := o) ho2.1 (by rw [up_ni (by omega), up_na (by decide)]) (fun i _ _ => by rw [up_na (by decide), up_ni (by omega)])]
    exact h.2.1 o ho
  · rw [up_na (by decide), up_na (by decide)]; have := h.2.2 j; omega
theorem flt_or {S : MM} (hI : SInv S) (o : Int) : fltS S o = -6 ∨ 0 ≤ fltS S o := by
  have key : ∀ (sg : Int → Int) (n : Int), 0 ≤ n → ∀ (k : Nat) (t d i : Int), 0 ≤ i → fltF sg n k t d i = -6 ∨ 0 ≤ fltF sg n k t d i := fun sg n hn k => by
    induction k with
    | zero => intro t d i hi; unfold fltF; split <;> omega
    | succ k ih => intro t d i hi; unfold fltF; split; omega; exact ih _ _ _ (by omega)
  exact key _ _ (hI.sm o).1 _ _ _ _ (by omega)
theorem cpy_row {S : MM} {n k x : Int} (h : x ≠ 56) : cpyS S n k x = S x := funext (fun i => by unfold cpyS; rw [if_neg (fun q => h q.1)])
theorem si_order {S : MM} {c p f u m o : Int} (h1 : 0 ≤ c ∧ c ≤ 5) (h2 : 0 ≤ p ∧ p ≤ 1023) (h3 : 0 ≤ f ∧ f ≤ u ∧ u ≤ 99) (h4 : 0 ≤ m ∧ m ≤ 20) (ho : o = 0 ∨ o = 1) (hn : S 41 26 ≠ 10) (hI : SInv S) : SInv (ordS S c p f u m o) := by
  have hoc := hI.oc
  have hm := hI.sm 10
  unfold ordS
  simp (discharger := decide) only [SInv, isPg, isPc, up_row, cpy_row, up_eq, up_ni]
  refine ⟨hI.pg, hI.pc, by omega, hI.wd, hI.wn, hI.pp, hI.dy, hI.sd, hI.po, hI.ed, hI.fl, fun k => ?_, hI.zb, hI.nm, fun k => ?_, fun k => ?_, hI.fd, hI.mi, hI.mr, hI.sl, hI.nw, hI.ct, fun k => ?_, fun k => ?_, fun k => ?_, fun k => ?_, fun k => ?_, hI.mm⟩
  · have g := hI.sn k
    have := pow_le2 (a := (S 41 26).toNat) (b := (S 41 26 + 1).toNat) (by omega)
    exact ⟨g.1, by omega⟩
  · unfold cpyS; split
    · exact hI.sg _
    · exact hI.sg _
  · by_cases e : k = 10
    · rw [e, up_eq]; decide
    · rw [up_ni e]
      by_cases e : k = S 41 26
      · rw [e, up_eq]; exact hm
      · rw [up_ni e]; exact hI.sm k
  · by_cases e : k = S 41 26
    · rw [e, up_eq]; exact h1
    · rw [up_ni e]; exact hI.cl k
  · by_cases e : k = S 41 26
    · rw [e, up_eq]; exact h2
    · rw [up_ni e]; exact hI.pa k
  · by_cases e : k = S 41 26
    · simp only [e, up_eq]; omega
    · simp only [up_ni e]; exact hI.ft k
  · by_cases e : k = S 41 26
    · rw [e, up_eq]; exact h4
    · rw [up_ni e]; exact hI.ms k
  · by_cases e : k = S 41 26
    · rw [e, up_eq]; exact ho
    · rw [up_ni e]; exact hI.oe k
theorem ji_order {n : Int} {S : MM} {c p f u m o : Int} (h1 : 0 ≤ c ∧ c ≤ 5) (h2 : 0 ≤ p ∧ p ≤ 1023) (h3 : 0 ≤ f ∧ f ≤ u ∧ u ≤ 99) (h4 : 0 ≤ m ∧ m ≤ 20) (ho : o = 0 ∨ o = 1) (hn : S 41 26 ≠ 10) (hf : ¬ 0 ≤ fltS S 10) (h : JJ n S) : JJ (n + 1) (ordS S c p f u m o) := by
  have hoc := h.1.oc
  have hm := h.1.sm 10
  refine ⟨si_order h1 h2 h3 h4 ho hn h.1, fun q hq => ?_, fun j => ?_⟩
  · have hq2 : 0 ≤ q ∧ q < S 41 26 + 1 := by
      unfold ordS isOr at hq
      simp (discharger := decide) only [up_row, up_eq] at hq
      exact hq
    have e7 : ∀ j, j ≠ 10 → ordS S c p f u m o 57 j = if j = S 41 26 then S 57 10 else S 57 j := fun j hj => by
      unfold ordS
      simp (discharger := decide) only [up_row, cpy_row]
      rw [up_ni hj]
      split
      · rename_i e; rw [e, up_eq]
      · rename_i e; rw [up_ni e, cpy_row (by decide)]
    have e6 : ∀ j, ordS S c p f u m o 56 j = cpyS S (S 41 26) (S 57 10) 56 j := fun j => by
      unfold ordS
      simp (discharger := decide) only [up_row]
    by_cases e : q = S 41 26
    · rw [fltS_cg (S := S) (o := 10) hm.1 (by rw [e7 q (by omega), if_pos e]) (fun i i0 i1 => by rw [e6]; unfold cpyS; rw [if_pos (by omega), show 400 + (40 * q + i - 40 * S 41 26) = 40 * 10 + i by omega])]
      rcases flt_or h.1 10 with g | g
      · exact g
      · exact absurd g hf
    · have hq3 := h.1.sm q
      rw [fltS_cg (S := S) (o := q) hq3.1 (by rw [e7 q (by omega), if_neg e]) (fun i i0 i1 => by rw [e6]; unfold cpyS; rw [if_neg (by omega)])]
      exact h.2.1 q ⟨hq2.1, by omega⟩
  · have := h.2.2 j
    unfold ordS
    simp (discharger := decide) only [up_row, cpy_row]
    omega
theorem jo_page {n : Int} {S : MM} {a b : Int} (h : JJ n S) : JJ (n + 1) (op_page S a b).2 := by
  unfold op_page; split
  · rename_i h1; split
    · exact h.wk
    · rename_i h2; exact ji_page h1.1 h1.2 h2 h
  · exact h.wk
theorem jo_write {n : Int} {S : MM} {p i x : Int} (h : JJ n S) : JJ (n + 1) (op_write S p i x).2 := by
  unfold op_write; split
  · rename_i h1; split
    · rename_i h2; split
      · exact h.wk
      · exact ji_write (by split <;> omega) h1.2 (by omega) h
    · exact h.wk
  · exact h.wk
theorem jo_sides {n : Int} {S : MM} {a b : Int} (h : JJ n S) : JJ (n + 1) (op_sides S a b).2 := by
  unfold op_sides; split
  · rename_i h1; split
    · rename_i h2; split
      · rename_i h3; exact ji_sides h1.1 h1.2.1 h1.2.2 h2 h3 h
      · exact h.wk
    · exact h.wk
  · exact h.wk
theorem jo_piece {n : Int} {S : MM} {p t b l r : Int} (h : JJ n S) : JJ (n + 1) (op_piece S p t b l r).2 := by
  unfold op_piece; split
  · rename_i h1; split
    · rename_i h2; split
      · exact h.wk
      · rename_i h3; exact ji_piece h1 h2.1 h2.2 h3 h
    · exact h.wk
  · exact h.wk
theorem jo_say {n : Int} {S : MM} {c : Int} (h : JJ n S) : JJ (n + 1) (op_say S c).2 := by
  unfold op_say; split
  · rename_i h1; split
    · exact h.wk
    · rename_i h2; exact ji_say h1 h2 h
  · exact h.wk
theorem jo_wipe {n : Int} {S : MM} (h : JJ n S) : JJ (n + 1) (op_wipe S).2 := ji_wipe h
theorem jo_set {n : Int} {S : MM} {k v : Int} (h : JJ n S) : JJ (n + 1) (op_set S k v).2 := by
  unfold op_set; split
  · rename_i h1; exact ji_set h1.2 h
  · exact h.wk
theorem jo_name {n : Int} {S : MM} {k v : Int} (h : JJ n S) : JJ (n + 1) (op_name S k v).2 := by
  unfold op_name; split
  · split
    · rename_i h1; exact ji_name (by split <;> omega) h
    · exact h.wk
  · exact h.wk
theorem jo_counts {n : Int} {S : MM} {k x v : Int} (h : JJ n S) : JJ (n + 1) (op_counts S k x v).2 := by
  unfold op_counts; split
  · split
    · rename_i h1; exact ji_counts h1.2 h
    · exact h.wk
  · exact h.wk
theorem jo_find {n : Int} {S : MM} {r p b : Int} (h : JJ n S) : JJ (n + 1) (op_find S r p b).2 := by
  have hpc := h.1.pc
  have hf := h.1.fd r
  unfold op_find; split
  · rename_i h1; refine ji_find ?_ h
    have := h1.2.2
    split
    · exact (z_set hf.1 hf.2 (by omega) h1.2.1 (by omega) (by omega)).1
    · exact (z_clr hf.1 hf.2 (by omega) h1.2.1 (by omega)).1
  · exact h.wk
theorem jo_reader {n : Int} {S : MM} {r k v : Int} (h : JJ n S) : JJ (n + 1) (op_reader S r k v).2 := by
  unfold op_reader; split
  · rename_i h0
    by_cases e : k = 0
    · rw [e]; simp only [if_pos]
      split
      · rename_i h1; exact ji_reader (by omega) (fun _ => by omega) h
      · exact h.wk
    · rw [if_neg e, if_neg e]; split
      · rename_i h1; exact ji_reader (by omega) (fun q => by omega) h
      · exact h.wk
  · exact h.wk
theorem jo_slips {n : Int} {S : MM} {r p v : Int} (h : JJ n S) : JJ (n + 1) (op_slips S r p v).2 := by
  unfold op_slips; split
  · split
    · rename_i h1; exact ji_slips h1.2 h
    · exact h.wk
  · exact h.wk
theorem jo_miss {n : Int} {S : MM} {c : Int} (hn : n < 512) (h : JJ n S) : JJ (n + 1) (op_miss S c).2 := by
  unfold op_miss; split
  · exact ji_miss hn h
  · exact h.wk
theorem jo_file {n : Int} {S : MM} {p m : Int} (h : JJ n S) : JJ (n + 1) (op_file S p m).2 := by
  unfold op_file; split
  · rename_i h0; split
    · rename_i h1; exact ji_file h1 h0.2 h
    · exact h.wk
  · exact h.wk
theorem jo_order {n : Int} {S : MM} {c p f u m o : Int} (ho : o = 0 ∨ o = 1) (h : JJ n S) : JJ (n + 1) (op_order S c p f u m o).2 := by
  unfold op_order; split
  · rename_i h1; split
    · exact h.wk
    · rename_i h2; split
      · exact h.wk
      · rename_i h3; exact ji_order h1.1 h1.2.1 h1.2.2.1 h1.2.2.2 ho h2 h3 h
  · exact h.wk
theorem jo_send {n : Int} {S : MM} {p o : Int} (h : JJ n S) : JJ (n + 1) (op_send S p o).2 := by
  have hs := h.1.sn p
  have hoc := h.1.oc
  unfold op_send; split
  · rename_i h1; split
    · split
      · exact h.wk
      · have := h1.2.2
        exact ji_send (z_set hs.1 hs.2 (by omega) h1.2.1 (by omega) (by omega)).1 h1.1.2 h
    · exact h.wk
  · exact h.wk
