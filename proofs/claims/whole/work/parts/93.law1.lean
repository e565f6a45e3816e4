/-! THE CLAIM OUT OF ONE WALK OF THE LAW'S BODY. Your part is whole_start (and what it stands on); all else here is the same for every law, but numbers. -/
def R_law : String := "CutBureauLaw"
def lw_P (b : Addr) (xs : List Int32) (args : Array Value) (s : State) : Prop := args = #[.ref b] ∧ s.IntsAt b xs ∧ xs.length ≤ 3584 ∧ (Jvm.Cond.and given_1 narrow_1).before args s = true
def lw_Q (_ : Array Value) (s : State) (o : Outcome) (t : State) : Prop := o = .returned (some (.int 1)) ∧ Framed s o t [] 600000 7302249
def lw_Z (below : List Frame) (a : Array Value) (s : State) : State → Prop := fun t => ∃ o, t.status = .running ∧ Ended t below o ∧ lw_Q a s o t
/-- the law's own end, with 1 on the stack, nothing written that was there before, its room as the claim has it -/
theorem lw_ret {p : Program} {l : Launch} {e : Env} {s : State} {m : MethodId} {below : List Frame} {meth : Method} {c : Code} {b : Nat} (hx : p.tables.exec = Jvm.exec) (hb : c.code = code) (hr : meth.sig.returnType = ret) (hlocks : meth.locks = false) {pc : Nat} {H : Heap} {ls : Array Slot} (hdg : decode code pc = .ok (.ireturn, 1)) : W p l e room_1 s m #[Value.ref b] below meth c H [] 600000 7302249 (lw_Z below #[Value.ref b] s) (F0 m pc ls [.int 1]) := by
  intro T hT X
  obtain ⟨fs, hret, hrun, hended, hW, hframe⟩ := X.leave (v := some (.int 1)) (hlocks := hlocks) (fun h => by rw [hr] at h; cases h)
  have hmeth' : T.vm.method? m = some meth := X.method'
  refine ⟨T.setFrames fs, ?_, .returned (some (.int 1)), hrun, hended, rfl, ⟨_, rfl⟩, hW, hframe⟩
  jvm_step X.here [X.here.top, hx, hb, hdg, hmeth', hr, ret, narrow_b1]
  (try refine ⟨rfl, ?_⟩); (try refine ⟨rfl, ?_⟩)
  first | (intro acts; rw [hret _ acts rfl rfl rfl]) | rw [hret _ _ rfl rfl rfl]
  exact Steps.refl _
/-- what holds at the law's entry: the machine, the code, the tables' words (any of lw_tbl by 'hts w (by decide +kernel)'), the script of L ints xs at the cell b, what the Statement gives of the start (any of its parts by flat_of_before) -/
def lw_At (p : Program) (s : State) (m : MethodId) (meth : Method) (c : Code) (b L : Nat) (xs : Nat → Int32) : Prop :=
  p.tables.exec = Jvm.exec ∧ c.code = code ∧ meth.sig.returnType = ret ∧ c.maxLocals = 4 ∧ s.vm.findClass R_law = some m.cls ∧ (∀ w ∈ lw_tbl, w.before #[Value.ref b] s = true) ∧ va_X b L xs s s.heap ∧ b < s.heap.size ∧ meth.locks = false ∧ (Jvm.Cond.and given_1 narrow_1).before #[Value.ref b] s = true
/-! rows of the law's own body -/
theorem WA.less {fx : Bool} {G : GP} {X : BX} {Q : State → Prop} {nL pc : Nat} {ls st : List LV} {rc rs rc' rs' : Nat} {w : NS} {M : MM} (h : WA fx G X Q nL pc ls st rc rs w M) (h1 : rc ≤ rc') (h2 : rs ≤ rs') : WA fx G X Q nL pc ls st rc' rs' w M :=
  fun H locs cells slots lc hR hF hS q1 q2 hL hst => h H locs cells slots lc hR hF hS (by omega) (by omega) hL hst
theorem s_tlen {fx : Bool} {G : GP} {X : BX} {Q : State → Prop} {cc : ByteArray} {own nm : String} {rt : Option FieldType} {rf rl nL pc rc rs : Nat} {ls st : List LV} {w : NS} {M : MM} (C : CX G X cc own nm nL rt rf rl) {e N : Nat} {g : Nat → Int} (he : 0 < e) (hT : va_T .int (G.2.2.2 e) N (fun j => .int (Int32.ofInt (g j))) (AA G) X.2.2.2.2.1 X.2.2.2.2.1.heap) (hb : inR (N : Int)) (d : decode cc pc = .ok (.arraylength, 1)) (k : WA fx G X Q nL (pc + 1) ls ((0, (N : Int)) :: st) rc rs w M) : WA fx G X Q nL pc ls ((2, -(e : Int)) :: st) rc rs w M := by
  intro H locs cells slots lc hR hF hS h1 h2 hL hst
  have kk := k H locs cells slots lc hR hF hS h1 h2 hL (okc (v := (0, (N : Int))) hb (ok_tl hst))
  have hcv : cv G (2, -(e : Int)) = .ref (G.2.2.2 e) := by
    rw [cv2]; unfold rfv
    rw [if_neg (by omega), if_neg (by omega)]
    rw [show (- -(e : Int)).toNat = e by omega]; rfl
  rw [List.map_cons, hcv]
  exact va_tlen C.1 C.2.1 hT hS rfl d kk
def SCR (G : GP) (X : BX) (L : Nat) (xs : Nat → Int32) : Prop := va_T .int (G.2.2.2 4) L (fun j => .int (Int32.ofInt ((xs j).toInt))) (AA G) X.2.2.2.2.1 X.2.2.2.2.1.heap
theorem xs_r (xs : Nat → Int32) (j : Nat) : inR ((xs j).toInt) := i3_rng _
abbrev CL (G : GP) (X : BX) (nm : String) : Prop := CX G X code RL nm 4 ret 12 496
/-- the law's end, with 1 on the stack -/
def LQ (G : GP) (X : BX) (Q : State → Prop) : Prop := ∀ (pc : Nat) (ls : List LV) (rc rs : Nat) (w : NS) (M : MM), decode code pc = .ok (.ireturn, 1) → WA true G X Q 4 pc ls [(0, 1)] rc rs w M
theorem lq_of {p : Program} {l : Launch} {e : Env} {s : State} {m : MethodId} {below : List Frame} {meth : Method} {c : Code} {b : Nat} {G : GP} {nm : String} (C : CL G (p, l, e, room_1, s, m, #[Value.ref b], below, meth, c) nm) (hG : G.1 + 1 = s.heap.size) : LQ G (p, l, e, room_1, s, m, #[Value.ref b], below, meth, c) (lw_Z below #[Value.ref b] s) := by
  intro pc ls rc rs w M d H locs cells slots lc hR hF hS h1 h2 hL hst
  refine va_forget (fun q hq => by have := hS.2.2 q hq; unfold AA at this; show s.heap.size ≤ q.base; omega) ?_
  refine W.widen (k := 600000) (n := 7302249) (Nat.le_trans (Nat.le_add_right _ _) h1) (Nat.le_trans (Nat.le_add_right _ _) h2) ?_
  exact lw_ret C.1 C.2.1 C.2.2.2.2.2.2.2.2.2.1 C.2.2.2.2.2.2.2.2.1 d
