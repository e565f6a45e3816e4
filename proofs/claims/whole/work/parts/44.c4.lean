/-! THE CLASS: sides, file, say, wipe -/
theorem CInv.mk3 {S S' : MM} {w w' : NS} {M M' : MM} (hC : CInv S w M) (hI : SInv S) (low : ∀ x, x ≤ 83 → x ≠ 7 → x ≠ 8 → x ≠ 9 → M' x = M x) (s41 : ∀ i, S' 41 i = S 41 i) (sn : ∀ x, x = 53 ∨ x = 72 ∨ x = 73 ∨ x = 77 ∨ x = 78 ∨ x = 79 ∨ x = 83 → S' x = S x) (sv : SV S S') (hp : ∀ p, isPg S p → CPage S' w' M' p) (hk : ∀ k, isPc S k → CPiece S' w' M' k) (ho : ∀ o, isOr S o → COrder S' w' M' o) (hs : CRule S' w' M' (M' 1 8) 10) (hf : CFam S' M') : CInv S' w' M' := by
  refine ⟨⟨?_, ?_, ?_⟩, ⟨fun k p q => ?_, fun k p q => ?_⟩, fun p q => hp p ?_, fun k q => hk k (sv.pc.mp q), fun o q => ho o ?_, hs, fun n p q => ?_, fun r p q => ?_, fun j hj => ?_, hf⟩
  · rw [low 1 (by omega) (by omega) (by omega) (by omega), s41]; exact hC.top.1
  · rw [low 1 (by omega) (by omega) (by omega) (by omega), s41]; exact hC.top.2.1
  · rw [low 1 (by omega) (by omega) (by omega) (by omega), s41]; exact hC.top.2.2
  · rw [low 2 (by omega) (by omega) (by omega) (by omega), sn 53 (by omega)]; exact hC.num.1 k p q
  · rw [low 24 (by omega) (by omega) (by omega) (by omega), sn 83 (by omega)]; exact hC.num.2 k p q
  · unfold isPg at q ⊢; rw [s41] at q; exact q
  · unfold isOr at q ⊢; rw [s41] at q; exact q
  · have hn := hC.nm n p q
    exact ⟨by rw [low _ (by omega) (by omega) (by omega) (by omega), sn 72 (by omega)]; exact hn.1, fun x p2 q2 => by rw [low _ (by omega) (by omega) (by omega) (by omega), sn 73 (by omega)]; exact hn.2 x p2 q2⟩
  · have hr := hC.rd r p q
    refine ⟨?_, ?_, ?_, fun x p2 q2 => ?_⟩
    · rw [low _ (by omega) (by omega) (by omega) (by omega), sn 78 (by omega)]; exact hr.1
    · rw [low _ (by omega) (by omega) (by omega) (by omega), sn 78 (by omega)]; exact hr.2.1
    · rw [low _ (by omega) (by omega) (by omega) (by omega), sn 77 (by omega)]; exact hr.2.2.1
    · rw [low _ (by omega) (by omega) (by omega) (by omega), sn 79 (by omega)]; exact hr.2.2.2 x p2 q2
  · rw [sv.ord hI.pc.1] at hj ⊢
    rw [low 5 (by omega) (by omega) (by omega) (by omega), low 4 (by omega) (by omega) (by omega) (by omega)]; exact hC.ln j hj
theorem CFam.mv {S S' : MM} {w : NS} {M M' : MM} (hC : CInv S w M) (hI : SInv S) (sv : SV S S') (h5 : S' 53 0 = S 53 0 ∧ ∀ k, isPc S k → wl S' k = wl S k) (e9 : M' 9 0 = M 9 0) (e4 : M' 4 = M 4) (e : ∀ k, isPc S k → M' (M 4 k) 8 = M (M 4 k) 8 ∧ M' (M 4 k) 9 = M (M 4 k) 9) : CFam S' M' := by
  rcases hC.fm with hf | ⟨hf, hk⟩
  · left; rw [e9]; exact hf
  · right
    refine ⟨by rw [e9]; exact hf, fun k q => ?_⟩
    have hk2 := sv.pc.mp q
    rw [e4, (e k hk2).1, (e k hk2).2, sv.first h5 hI.pc.1 hk2, sv.size h5 hk2]
    exact hk k hk2
theorem cc_file {G : GP} {l : Launch} {w : NS} {S M : MM} {a b : Int} (hI : SInv S) (hC : CInv S w M) : CT_X9_file G l [(2, 1), (0, a), (0, b)] w M (PC M (op_file S a b)) := by
  refine E_X9_file (fun _ _ X hX C => ?_)
  refine B_X9_file_0 C ?_
  have hpc := hI.pc
  rw [hC.top.2.1]
  refine ⟨by omega, by omega, fun h => ?_, fun h => ?_⟩
  · have ha : isPc S a := Decidable.not_not.mp (fun q => h ((pcO_ne hC).mpr q))
    have hP := hC.pc a ha
    rw [pcO_in hC ha, hP.2.2.2.2.2.2.1.1]
    refine ⟨fun h2 => ⟨hP.2.1, ?_⟩, fun h2 => pc_s hC (by unfold op_file; grind)⟩
    have h83 := hP.1
    have tg : ∀ x t, w.2 x = t → t ≠ (7, 12) → up M (M 4 a) 10 b x = M x := fun x t hx ht => up_fn (ne_sh hx hP.2.1 ht)
    have sv : SV S (up S 51 a b) := ⟨up_na (by decide), trivial, fun k _ => ⟨trivial, up_na (by decide), up_na (by decide), up_na (by decide)⟩⟩
    have swl : ∀ k, wl (up S 51 a b) k = wl S k := fun k => wl_c (up_fn (by decide)) (up_na (by decide)) (up_na (by decide)) (up_na (by decide)) (up_na (by decide)) (up_na (by decide))
    refine pc_u (S1 := up S 51 a b) (by unfold op_file; grind) (hC.mk3 hI (fun x hx _ _ _ => up_fn (by omega)) (fun i => up_na (by decide)) (fun x hx => up_fn (by omega)) sv (fun p hp => ?_) (fun k hk => ?_) (fun o ho => ?_) ?_ (CFam.mv hC hI sv ⟨up_na (by decide), fun k _ => swl k⟩ (up_na (by omega)) (up_fn (by omega)) (fun k hk => ⟨up_ni (by decide), up_ni (by decide)⟩))) (frc_up (FrC.rfl' M) _ (by omega))
    · have hQ := hC.pg p hp
      exact hQ.mv (up_fn (by omega)) (tg _ _ hQ.2.1 (by decide)) (tg _ _ hQ.2.2.1 (by decide)) (up_na (by decide)) (up_na (by decide)) (up_na (by decide)) (fun i _ _ => up_na (by decide)) rfl rfl
    · have hK := hC.pc k hk
      obtain ⟨c1, c2, c3, c4, c5, ⟨c6, c7, c8, c9⟩, ⟨c10, c11⟩, c12, c13⟩ := id hK
      have e4 : up M (M 4 a) 10 b 4 k = M 4 k := up_na (by omega)
      have e3 : ∀ i, up M (M 4 a) 10 b 3 i = M 3 i := fun i => up_na (by omega)
      have s : ∀ x i, x ≠ 51 → up S 51 a b x i = S x i := fun x i hx => up_na hx
      unfold CPiece
      rw [e4, swl k, s 46 k (by decide), s 47 k (by decide), s 48 k (by decide), s 49 k (by decide), s 50 k (by decide), s 52 k (by decide), e3]
      refine ⟨c1, c2, c3, (up_ni (by decide)).trans c4, (up_ni (by decide)).trans c5, ⟨(up_ni (by decide)).trans c6, (up_ni (by decide)).trans c7, (up_ni (by decide)).trans c8, (up_ni (by decide)).trans c9⟩, ⟨?_, (up_ni (by decide)).trans c11⟩, (up_ni (by decide)).trans c12, al_fr c13 (fun i => up_na (ne_sh c3 hP.2.1 (by decide)))⟩
      by_cases e : k = a
      · rw [e, up_eq, up_eq]
      · rw [up_na (fun q => e ((pc_inj hC hk ha).mp q)), up_ni e]; exact c10
    · have hO := hC.od o ho
      obtain ⟨r1, r2, r3, -⟩ := hO.2.2.2.1
      exact hO.mv (up_na (by omega)) (tg _ _ hO.2.1 (by decide)) (tg _ _ r2 (by decide)) (tg _ _ r3 (by decide)) (Or.inl (up_na (by omega))) (fun x _ _ => up_na (by omega)) (fun i _ _ => up_na (by decide)) (hI.sm o).2 rfl rfl rfl
    · rw [show up M (M 4 a) 10 b 1 8 = M 1 8 from up_na (by omega)]
      obtain ⟨r1, r2, r3, -⟩ := hC.sp
      exact hC.sp.mv (tg _ _ r2 (by decide)) (tg _ _ r3 (by decide)) (up_na (by decide)) (fun i _ _ => up_na (by decide)) (hI.sm 10).2 rfl rfl
  · exact pc_s hC (by unfold op_file; rw [if_neg ((pcO_ne hC).mp (Decidable.not_not.mp h))])
theorem cc_sides {G : GP} {l : Launch} {w : NS} {S M : MM} {a b : Int} (hI : SInv S) (hC : CInv S w M) : CT_X9_sides G l [(2, 1), (0, a), (0, b)] w M (PC M (op_sides S a b)) := by
  refine E_X9_sides (fun _ _ X hX C => ?_)
  refine B_X9_sides_0 C ?_
  have hpg := hI.pg
  rw [hC.top.1]
  by_cases ha : isPg S a
  · by_cases hb : isPg S b
    · have hA := hC.pg a ha
      have hB := hC.pg b hb
      rw [pgO_in hC ha, pgO_in hC hb, hA.2.2.2.2.1, hA.2.2.2.2.2.1, hB.2.2.2.2.1, hB.2.2.2.2.2.1, hA.2.2.2.2.2.2.1, hB.2.2.2.2.2.2.1]
      have a83 := hA.1
      have b83 := hB.1
      have zs : ∀ p, isPg S p → ((if S 45 p < 0 then 0 else M 3 (S 45 p)) = 0 ↔ S 45 p < 0) := fun p hp => by
        by_cases q : S 45 p < 0
        · rw [if_pos q]; exact ⟨fun _ => q, fun _ => rfl⟩
        · rw [if_neg q]
          have hg : isPg S (S 45 p) := by rcases hI.sd p hp with r | r; omega; exact r.1
          have := (hC.pg _ hg).1
          exact ⟨fun _ => by omega, fun r => absurd r q⟩
      simp only [ne_eq, pg_inj hC ha hb, zs a ha, zs b hb]
      have key : a ≠ b → S 45 a < 0 → S 45 b < 0 → CInv (up (up S 45 a b) 45 b a) w (up (up M (M 3 a) 4 (M 3 b)) (M 3 b) 4 (M 3 a)) := fun hab h1 h2 => by
        have hne : M 3 a ≠ M 3 b := fun q => hab ((pg_inj hC ha hb).mp q)
        have tg : ∀ x t, w.2 x = t → t ≠ (5, 5) → up (up M (M 3 a) 4 (M 3 b)) (M 3 b) 4 (M 3 a) x = M x := fun x t hx ht => (up_fn (ne_sh hx hB.2.1 ht)).trans (up_fn (ne_sh hx hA.2.1 ht))
        have lowf : ∀ x, x ≤ 83 → up (up M (M 3 a) 4 (M 3 b)) (M 3 b) 4 (M 3 a) x = M x := fun x hx => (up_fn (by omega)).trans (up_fn (by omega))
        have s : ∀ x i, x ≠ 45 → up (up S 45 a b) 45 b a x i = S x i := fun x i hx => (up_na hx).trans (up_na hx)
        have sv : SV S (up (up S 45 a b) 45 b a) := ⟨s _ _ (by decide), trivial, fun k _ => ⟨trivial, s _ _ (by decide), s _ _ (by decide), s _ _ (by decide)⟩⟩
        have swl : ∀ k, wl (up (up S 45 a b) 45 b a) k = wl S k := fun k => wl_c (funext fun i => s _ _ (by decide)) (s _ _ (by decide)) (s _ _ (by decide)) (s _ _ (by decide)) (s _ _ (by decide)) (s _ _ (by decide))
        refine hC.mk3 hI (fun x hx _ _ _ => lowf x hx) (fun i => s _ _ (by decide)) (fun x hx => funext fun i => s _ _ (by omega)) sv (fun p hp => ?_) (fun k hk => ?_) (fun o ho => ?_) ?_ (CFam.mv hC hI sv ⟨s _ _ (by decide), fun k _ => swl k⟩ (by rw [lowf 9 (by omega)]) (lowf 4 (by omega)) (fun k hk => by rw [tg _ _ (hC.pc k hk).2.1 (by decide)]; exact ⟨rfl, rfl⟩))
        · obtain ⟨q1, q2, q3, q4, q5, q6, q7, q8⟩ := hC.pg p hp
          unfold CPage
          rw [lowf 3 (by omega), s 43 p (by decide), s 44 p (by decide), tg _ _ q3 (by decide)]
          refine ⟨q1, q2, q3, ((up_ni (by decide)).trans (up_ni (by decide))).trans q4, ((up_ni (by decide)).trans (up_ni (by decide))).trans q5, ((up_ni (by decide)).trans (up_ni (by decide))).trans q6, ?_, fun i i0 i1 => by rw [s 42 _ (by decide)]; exact q8 i i0 i1⟩
          by_cases eb : p = b
          · rw [eb, up_eq, up_eq, if_neg (by have := ha.1; omega)]
          · rw [up_na (fun q => eb ((pg_inj hC hp hb).mp q)), up_ni eb]
            by_cases ea : p = a
            · rw [ea, up_eq, up_eq, if_neg (by have := hb.1; omega)]
            · rw [up_na (fun q => ea ((pg_inj hC hp ha).mp q)), up_ni ea]; exact q7
        · have hK := hC.pc k hk
          exact hK.mv (by rw [lowf 4 (by omega)]) (by rw [lowf 3 (by omega)]) (fun i _ _ => by rw [tg _ _ hK.2.1 (by decide)]) (tg _ _ hK.2.2.1 (by decide)) (s _ _ (by decide)) (s _ _ (by decide)) (s _ _ (by decide)) (s _ _ (by decide)) (s _ _ (by decide)) (s _ _ (by decide)) (s _ _ (by decide)) (swl k) rfl rfl
        · have hO := hC.od o ho
          obtain ⟨r1, r2, r3, -⟩ := hO.2.2.2.1
          exact hO.mv (by rw [lowf 6 (by omega)]) (tg _ _ hO.2.1 (by decide)) (tg _ _ r2 (by decide)) (tg _ _ r3 (by decide)) (Or.inl (by rw [lowf 1 (by omega)])) (fun x _ _ => s _ _ (by omega)) (fun i _ _ => s _ _ (by decide)) (hI.sm o).2 rfl rfl rfl
        · rw [lowf 1 (by omega)]
          obtain ⟨r1, r2, r3, -⟩ := hC.sp
          exact hC.sp.mv (tg _ _ r2 (by decide)) (tg _ _ r3 (by decide)) (s _ _ (by decide)) (fun i _ _ => s _ _ (by decide)) (hI.sm 10).2 rfl rfl
      repeat' (first | with_reducible refine And.intro ?_ ?_ | with_reducible intro _)
      all_goals (first | omega | exact hA.2.1 | exact hB.2.1 | (exact pc_s hC (by unfold op_sides; grind)) | (refine pc_u (S1 := up (up S 45 a b) 45 b a) (by unfold op_sides; grind) (key (by omega) (by omega) (by omega)) (frc_up (frc_up (FrC.rfl' M) _ (by omega)) _ (by omega))))
    · rw [pgO_in hC ha, pgO_out hC hb]
      have := (hC.pg a ha).1
      refine ⟨by omega, by omega, fun h => by omega, fun h => ⟨fun _ => pc_s hC (by unfold op_sides; rw [if_neg (fun q => hb q.2.1)]), fun h2 => absurd rfl h2⟩⟩
  · rw [pgO_out hC ha]
    refine ⟨by omega, by omega, fun h => pc_s hC (by unfold op_sides; rw [if_neg (fun q => ha q.1)]), fun h => absurd rfl h⟩
