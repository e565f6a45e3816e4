/-! THE ABSTRACT STATE S: numbers at the model's own places (41 4 pages, 41 12 pieces, 41 26 orders; 42 words, 43 paper, 44 day, 45 side, 46 page of a piece, 47 to 50 its edges, 51 filed, 52 sent, 53 the settings, 56 signs and 57 how many (10: the spoken ones), 58 to 63 the orders, 72 and 73 names, 77 found, 78 minutes, 79 slips, 83 misses). Each call: its answer and the next state. -/
abbrev isPg (S : MM) (p : Int) : Prop := 0 ≤ p ∧ p < S 41 4
abbrev isPc (S : MM) (p : Int) : Prop := 0 ≤ p ∧ p < S 41 12
abbrev isOr (S : MM) (p : Int) : Prop := 0 ≤ p ∧ p < S 41 26
def op_page (S : MM) (a b : Int) : Int × MM :=
  if (0 ≤ a ∧ a ≤ 9) ∧ 0 ≤ b ∧ b ≤ 99 then
    if S 41 4 = 8 then (-4, S) else (S 41 4, up (up (up (up S 43 (S 41 4) a) 44 (S 41 4) b) 45 (S 41 4) (-6)) 41 4 (S 41 4 + 1))
  else (-2, S)
def keptS (S : MM) (p : Int) : Bool := exN (fun k => decide (S 46 k = p) && (decide (S 52 k ≠ 0) || decide (S 51 k ≠ 0))) (S 41 12).toNat
def op_write (S : MM) (p i x : Int) : Int × MM :=
  if isPg S p then
    if (0 ≤ i ∧ i ≤ 59) ∧ -1 ≤ x ∧ x ≤ 99 then
      if keptS S p = true then (-3, S) else (S 42 (60 * p + i), up S 42 (60 * p + i) (if x < 0 then -6 else x))
    else (-2, S)
  else (-1, S)
def op_sides (S : MM) (a b : Int) : Int × MM :=
  if isPg S a ∧ isPg S b ∧ a ≠ b then
    if S 43 a = S 43 b ∧ S 44 a = S 44 b then
      if S 45 a < 0 ∧ S 45 b < 0 then (1, up (up S 45 a b) 45 b a) else (-5, S)
    else (-3, S)
  else (-1, S)
def pcsOf (S : MM) (p : Int) : Int := cnN (fun k => decide (S 46 k = p)) (S 41 12).toNat
def op_ofPage (S : MM) (p x : Int) : Int × MM :=
  (if isPg S p then
    if 100 ≤ x ∧ x ≤ 159 then S 42 (60 * p + x - 100)
    else if x = 0 then S 43 p else if x = 1 then S 44 p else if x = 2 then S 45 p else if x = 3 then pcsOf S p else -2
  else -1, S)
def op_piece (S : MM) (p t b l r : Int) : Int × MM :=
  if isPg S p then
    if (0 ≤ t ∧ t ≤ b ∧ b ≤ 5) ∧ 0 ≤ l ∧ l ≤ r ∧ r ≤ 9 then
      if S 41 12 = 24 then (-4, S)
      else (S 41 12, up (up (up (up (up (up S 46 (S 41 12) p) 47 (S 41 12) t) 48 (S 41 12) b) 49 (S 41 12) l) 50 (S 41 12) r) 41 12 (S 41 12 + 1))
    else (-2, S)
  else (-1, S)
def op_say (S : MM) (c : Int) : Int × MM :=
  if 33 ≤ c ∧ c ≤ 126 then
    if S 57 10 = 40 then (-4, S) else (S 57 10 + 1, up (up S 56 (400 + S 57 10) c) 57 10 (S 57 10 + 1))
  else (-2, S)
def op_wipe (S : MM) : Int × MM := (S 57 10, up S 57 10 0)
def op_set (S : MM) (k v : Int) : Int × MM :=
  if (0 ≤ k ∧ k ≤ 8) ∧ lstO k ≤ v ∧ v ≤ grtO k then (S 53 k, up S 53 k v) else (-2, S)
def op_name (S : MM) (n x : Int) : Int × MM :=
  if 0 ≤ n ∧ n ≤ 3 then if -1 ≤ x ∧ x ≤ 99 then (S 72 n, up S 72 n (if x < 0 then -6 else x)) else (-2, S) else (-1, S)
def op_counts (S : MM) (n x v : Int) : Int × MM :=
  if 0 ≤ n ∧ n ≤ 3 then if (0 ≤ x ∧ x ≤ 99) ∧ -100 ≤ v ∧ v ≤ 100 then (S 73 (100 * n + x), up S 73 (100 * n + x) v) else (-2, S) else (-1, S)
def op_find (S : MM) (r p b : Int) : Int × MM :=
  if (0 ≤ r ∧ r ≤ 3) ∧ isPc S p then (zand (zshr (S 77 r) p) 1, up S 77 r (if b ≠ 0 then zor (S 77 r) (zshl 1 p) else zand (S 77 r) (zxor (zshl 1 p) (-1)))) else (-1, S)
def op_reader (S : MM) (r k v : Int) : Int × MM :=
  if 0 ≤ r ∧ r ≤ 3 then
    if (0 ≤ k ∧ k ≤ 1) ∧ (if k = 0 then 1 else 0) ≤ v ∧ v ≤ (if k = 0 then 100 else 1000) then (S 78 (2 * r + k), up S 78 (2 * r + k) v) else (-2, S)
  else (-1, S)
def op_slips (S : MM) (r p v : Int) : Int × MM :=
  if 0 ≤ r ∧ r ≤ 3 then if (0 ≤ p ∧ p ≤ 9) ∧ 0 ≤ v ∧ v ≤ 100 then (S 79 (10 * r + p), up S 79 (10 * r + p) v) else (-2, S) else (-1, S)
def op_miss (S : MM) (c : Int) : Int × MM :=
  if 0 ≤ c ∧ c ≤ 5 then (S 83 c + 1, up S 83 c (S 83 c + 1)) else (-1, S)
def op_file (S : MM) (p n : Int) : Int × MM :=
  if isPc S p then if 0 ≤ n ∧ n ≤ 15 then (S 51 p, up S 51 p n) else (-2, S) else (-1, S)
def clashS (S : MM) (a b : Int) : Bool :=
  decide (S 47 a ≤ S 48 b) && decide (S 47 b ≤ S 48 a) && (if S 46 a = S 46 b then decide (S 49 a ≤ S 50 b) && decide (S 49 b ≤ S 50 a) else decide (S 45 (S 46 a) = S 46 b) && decide (S 49 a ≤ 9 - S 49 b) && decide (9 - S 50 b ≤ S 50 a))
def op_clash (S : MM) (a b : Int) : Int × MM := (if isPc S a ∧ isPc S b then bi (clashS S a b) else -1, S)
/-! bounds of the abstract state that every run keeps -/
def SInv (S : MM) : Prop :=
  (0 ≤ S 41 4 ∧ S 41 4 ≤ 8) ∧
  (0 ≤ S 41 12 ∧ S 41 12 ≤ 24) ∧
  (0 ≤ S 41 26 ∧ S 41 26 ≤ 10) ∧
  (∀ i, S 42 i = -6 ∨ (0 ≤ S 42 i ∧ S 42 i ≤ 99)) ∧
  (∀ p i, S 41 4 ≤ p → p < 8 → 0 ≤ i → i < 60 → S 42 (60 * p + i) = -6) ∧
  (∀ p, 0 ≤ S 43 p ∧ S 43 p ≤ 9) ∧
  (∀ p, 0 ≤ S 44 p ∧ S 44 p ≤ 99) ∧
  (∀ p, isPg S p → S 45 p = -6 ∨ (isPg S (S 45 p) ∧ S 45 p ≠ p ∧ S 45 (S 45 p) = p ∧ S 43 (S 45 p) = S 43 p ∧ S 44 (S 45 p) = S 44 p)) ∧
  (∀ k, isPc S k → isPg S (S 46 k)) ∧
  (∀ k, 0 ≤ S 47 k ∧ S 47 k ≤ S 48 k ∧ S 48 k ≤ 5 ∧ 0 ≤ S 49 k ∧ S 49 k ≤ S 50 k ∧ S 50 k ≤ 9) ∧
  (∀ k, 0 ≤ S 51 k ∧ S 51 k ≤ 15) ∧
  (∀ k, 0 ≤ S 52 k ∧ S 52 k < 2 ^ (S 41 26).toNat) ∧
  (∀ k, S 41 12 ≤ k → S 51 k = 0 ∧ S 52 k = 0) ∧
  (∀ k, 0 ≤ k → k ≤ 8 → lstO k ≤ S 53 k ∧ S 53 k ≤ grtO k) ∧
  (∀ i, S 56 i = 0 ∨ (33 ≤ S 56 i ∧ S 56 i ≤ 126)) ∧
  (∀ o, 0 ≤ S 57 o ∧ S 57 o ≤ 40) ∧
  (∀ r, 0 ≤ S 77 r ∧ S 77 r < 2 ^ (S 41 12).toNat) ∧
  (∀ i, 0 ≤ S 78 i ∧ S 78 i ≤ 1000) ∧
  (∀ r, 0 ≤ r → r ≤ 3 → 1 ≤ S 78 (2 * r) ∧ S 78 (2 * r) ≤ 100) ∧
  (∀ i, 0 ≤ S 79 i ∧ S 79 i ≤ 100) ∧
  (∀ n, S 72 n = -6 ∨ (0 ≤ S 72 n ∧ S 72 n ≤ 99)) ∧
  (∀ i, -100 ≤ S 73 i ∧ S 73 i ≤ 100) ∧
  (∀ o, 0 ≤ S 58 o ∧ S 58 o ≤ 5) ∧
  (∀ o, 0 ≤ S 59 o ∧ S 59 o ≤ 1023) ∧
  (∀ o, 0 ≤ S 60 o ∧ S 60 o ≤ 99 ∧ 0 ≤ S 61 o ∧ S 61 o ≤ 99) ∧
  (∀ o, 0 ≤ S 62 o ∧ S 62 o ≤ 20) ∧
  (∀ o, S 63 o = 0 ∨ S 63 o = 1) ∧
  (∀ c, 0 ≤ S 83 c ∧ S 83 c ≤ 512)
theorem SInv.pg {S : MM} (h : SInv S) : (0 ≤ S 41 4 ∧ S 41 4 ≤ 8) := h.1
theorem SInv.pc {S : MM} (h : SInv S) : (0 ≤ S 41 12 ∧ S 41 12 ≤ 24) := h.2.1
theorem SInv.oc {S : MM} (h : SInv S) : (0 ≤ S 41 26 ∧ S 41 26 ≤ 10) := h.2.2.1
theorem SInv.wd {S : MM} (h : SInv S) : (∀ i, S 42 i = -6 ∨ (0 ≤ S 42 i ∧ S 42 i ≤ 99)) := h.2.2.2.1
theorem SInv.wn {S : MM} (h : SInv S) : (∀ p i, S 41 4 ≤ p → p < 8 → 0 ≤ i → i < 60 → S 42 (60 * p + i) = -6) := h.2.2.2.2.1
theorem SInv.pp {S : MM} (h : SInv S) : (∀ p, 0 ≤ S 43 p ∧ S 43 p ≤ 9) := h.2.2.2.2.2.1
theorem SInv.dy {S : MM} (h : SInv S) : (∀ p, 0 ≤ S 44 p ∧ S 44 p ≤ 99) := h.2.2.2.2.2.2.1
theorem SInv.sd {S : MM} (h : SInv S) : (∀ p, isPg S p → S 45 p = -6 ∨ (isPg S (S 45 p) ∧ S 45 p ≠ p ∧ S 45 (S 45 p) = p ∧ S 43 (S 45 p) = S 43 p ∧ S 44 (S 45 p) = S 44 p)) := h.2.2.2.2.2.2.2.1
theorem SInv.po {S : MM} (h : SInv S) : (∀ k, isPc S k → isPg S (S 46 k)) := h.2.2.2.2.2.2.2.2.1
theorem SInv.ed {S : MM} (h : SInv S) : (∀ k, 0 ≤ S 47 k ∧ S 47 k ≤ S 48 k ∧ S 48 k ≤ 5 ∧ 0 ≤ S 49 k ∧ S 49 k ≤ S 50 k ∧ S 50 k ≤ 9) := h.2.2.2.2.2.2.2.2.2.1
theorem SInv.fl {S : MM} (h : SInv S) : (∀ k, 0 ≤ S 51 k ∧ S 51 k ≤ 15) := h.2.2.2.2.2.2.2.2.2.2.1
theorem SInv.sn {S : MM} (h : SInv S) : (∀ k, 0 ≤ S 52 k ∧ S 52 k < 2 ^ (S 41 26).toNat) := h.2.2.2.2.2.2.2.2.2.2.2.1
theorem SInv.zb {S : MM} (h : SInv S) : (∀ k, S 41 12 ≤ k → S 51 k = 0 ∧ S 52 k = 0) := h.2.2.2.2.2.2.2.2.2.2.2.2.1
theorem SInv.nm {S : MM} (h : SInv S) : (∀ k, 0 ≤ k → k ≤ 8 → lstO k ≤ S 53 k ∧ S 53 k ≤ grtO k) := h.2.2.2.2.2.2.2.2.2.2.2.2.2.1
theorem SInv.sg {S : MM} (h : SInv S) : (∀ i, S 56 i = 0 ∨ (33 ≤ S 56 i ∧ S 56 i ≤ 126)) := h.2.2.2.2.2.2.2.2.2.2.2.2.2.2.1
theorem SInv.sm {S : MM} (h : SInv S) : (∀ o, 0 ≤ S 57 o ∧ S 57 o ≤ 40) := h.2.2.2.2.2.2.2.2.2.2.2.2.2.2.2.1
theorem SInv.fd {S : MM} (h : SInv S) : (∀ r, 0 ≤ S 77 r ∧ S 77 r < 2 ^ (S 41 12).toNat) := h.2.2.2.2.2.2.2.2.2.2.2.2.2.2.2.2.1
theorem SInv.mi {S : MM} (h : SInv S) : (∀ i, 0 ≤ S 78 i ∧ S 78 i ≤ 1000) := h.2.2.2.2.2.2.2.2.2.2.2.2.2.2.2.2.2.1
theorem SInv.mr {S : MM} (h : SInv S) : (∀ r, 0 ≤ r → r ≤ 3 → 1 ≤ S 78 (2 * r) ∧ S 78 (2 * r) ≤ 100) := h.2.2.2.2.2.2.2.2.2.2.2.2.2.2.2.2.2.2.1
theorem SInv.sl {S : MM} (h : SInv S) : (∀ i, 0 ≤ S 79 i ∧ S 79 i ≤ 100) := h.2.2.2.2.2.2.2.2.2.2.2.2.2.2.2.2.2.2.2.1
theorem SInv.nw {S : MM} (h : SInv S) : (∀ n, S 72 n = -6 ∨ (0 ≤ S 72 n ∧ S 72 n ≤ 99)) := h.2.2.2.2.2.2.2.2.2.2.2.2.2.2.2.2.2.2.2.2.1
theorem SInv.ct {S : MM} (h : SInv S) : (∀ i, -100 ≤ S 73 i ∧ S 73 i ≤ 100) := h.2.2.2.2.2.2.2.2.2.2.2.2.2.2.2.2.2.2.2.2.2.1
theorem SInv.cl {S : MM} (h : SInv S) : (∀ o, 0 ≤ S 58 o ∧ S 58 o ≤ 5) := h.2.2.2.2.2.2.2.2.2.2.2.2.2.2.2.2.2.2.2.2.2.2.1
theorem SInv.pa {S : MM} (h : SInv S) : (∀ o, 0 ≤ S 59 o ∧ S 59 o ≤ 1023) := h.2.2.2.2.2.2.2.2.2.2.2.2.2.2.2.2.2.2.2.2.2.2.2.1
theorem SInv.ft {S : MM} (h : SInv S) : (∀ o, 0 ≤ S 60 o ∧ S 60 o ≤ 99 ∧ 0 ≤ S 61 o ∧ S 61 o ≤ 99) := h.2.2.2.2.2.2.2.2.2.2.2.2.2.2.2.2.2.2.2.2.2.2.2.2.1
theorem SInv.ms {S : MM} (h : SInv S) : (∀ o, 0 ≤ S 62 o ∧ S 62 o ≤ 20) := h.2.2.2.2.2.2.2.2.2.2.2.2.2.2.2.2.2.2.2.2.2.2.2.2.2.1
theorem SInv.oe {S : MM} (h : SInv S) : (∀ o, S 63 o = 0 ∨ S 63 o = 1) := h.2.2.2.2.2.2.2.2.2.2.2.2.2.2.2.2.2.2.2.2.2.2.2.2.2.2.1
theorem SInv.mm {S : MM} (h : SInv S) : (∀ c, 0 ≤ S 83 c ∧ S 83 c ≤ 512) := h.2.2.2.2.2.2.2.2.2.2.2.2.2.2.2.2.2.2.2.2.2.2.2.2.2.2.2
