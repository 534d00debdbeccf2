/-! ===== the class takes a piece ===== -/
section TAKEX
variable {pg zn : Nat} {ow : Nat → Int} {ln kd cl : Nat → Nat} {hd : Nat → Int} {th : Nat → Bool} {sz zo pl : Nat → Nat} {bw : Nat → Int64} {σ : SS}
theorem afterJoin {l1 : Nat → Nat} {z : Nat} (hkz : 2 ≤ kd z) (hT1 : Tiled pg zn ow l1 kd cl) (oz1 : ∀ j, j < 64 * pg → ¬ ow (j / 64) = z → l1 j = ln j) (jd1 : Joined pg ow l1 hd z (64 * pg)) (hJ : OkJq (fun j _ => ¬ ow (j / 64) = z) pg ow ln hd kd) (hSet : OkSetq (fun k => ¬ ow k = z) pg ow ln hd kd) : OkJ pg ow l1 hd kd ∧ OkSetq (fun k => ¬ ow k = z) pg ow l1 hd kd := by
  have kzz : kz kd (z : Int) = kd z := by unfold kz; rw [Int.toNat_natCast]
  refine ⟨⟨fun j hj hl hf hk hn ho => ?_, fun j hj hl hf hk h64 => ?_⟩, ⟨fun k hk hP h0 hkz => ?_, fun k hk hP h0 hkz => ?_, fun j hj hl hf hkz k hP h1 h2 => ?_⟩⟩
  · by_cases u : ow (j / 64) = z
    · exact jd1 j hj hl hf u hn (ho.trans u)
    · rw [oz1 j hj u] at hl hn ho ⊢
      exact hJ.1 j hj hl hf hk hn ho u
  · have u : ¬ ow (j / 64) = z := fun w => by rw [w, kzz] at hk; omega
    have hpp := pair_page hT1.2.2.2.1 hj hl (hT1.2.1 j hj hl).1 hk h64
    rw [oz1 j hj u] at hl h64 hpp ⊢
    rw [oz1 (pair j (ln j)) (by omega) (by rw [hpp]; exact u)]
    exact hJ.2 j hj hl hf hk h64 u
  · obtain ⟨i, i1, i2, i3⟩ := hSet.1 k hk hP h0 hkz
    exact ⟨i, i1, by rw [oz1 _ (by omega) (by rw [show (64 * k + i) / 64 = k by omega]; exact hP)]; exact i2, i3⟩
  · rw [oz1 _ (by omega) (by rw [show 64 * k / 64 = k by omega]; exact hP)]
    exact hSet.2.1 k hk hP h0 hkz
  · obtain ⟨t1, t2, t3⟩ := hT1.2.1 j hj hl
    have hok : ow k = ow (j / 64) := by
      rcases Nat.lt_or_ge j (64 * k) with u | u
      · have := (t3 (64 * k) u (by omega)).2
        rw [show 64 * k / 64 = k by omega] at this
        exact this
      · rw [show j / 64 = k by omega]
    have u : ¬ ow (j / 64) = z := fun w => hP (hok.trans w)
    rw [oz1 j hj u] at hl h2
    exact hSet.2.2 j hj hl hf hkz k hP h1 h2
theorem x_split {z n p : Nat} (h : Tiled pg zn ow ln kd cl) (hK : OkK pg zn ow ln hd th zo pl) (hJ : OkJ pg ow ln hd kd) (hSet : OkSetq (fun k => ¬ ow k = z) pg ow ln hd kd) (xg : XG pg ow ln hd σ) (hzn : z < zn) (hkz : 2 ≤ kd z) (hn : n ≤ 2000) (hp : p < 64 * pg) (hfr : 0 < fr ow ln hd z p) (hd2 : due (kd z) n ≤ fr ow ln hd z p) {Q : Int32 → SS → Prop} (k : ∀ σ' ln' hd', Tkn z n p pg zn ow ln' hd' kd cl th zo pl → OkSetq (fun k => ¬ ow k = z) pg ow ln' hd' kd → XG pg ow ln' hd' σ' → AgP σ σ' → (∀ s, s < 100 → th s = true → ln' (pl s) = ln (pl s)) → Q (nI p) σ') : wX4_takePiece_b48 (nI z) (nI (due (kd z) n)) (nI p) σ Q := by
  have hp40 := h.1.1
  have hz8 := h.1.2.1
  have kzz : kz kd (z : Int) = kd z := by unfold kz; rw [Int.toNat_natCast]
  obtain ⟨f1, f2, f3, f4⟩ := fr_pos hfr
  rw [f3] at hd2
  obtain ⟨t1, t2, t3⟩ := h.2.1 p hp f4
  have hdue : 1 ≤ due (kd z) n := by unfold due; rw [if_neg (show ¬ kd z = 0 by omega), if_neg (show ¬ kd z = 1 by omega)]; split <;> omega
  unfold wX4_takePiece_b48
  refine x_freeAt xg h.1 h.2.1 hK hp (by omega) ?_
  rw [f3, nI_leI (by omega) (by omega)]
  have hkn : ¬ kd z = 0 := by omega
  refine ⟨fun c => k σ ln hd ⟨h, hK, ⟨fun j a b c d e f _ => hJ.1 j a b c d e f, fun j a b c d e _ => hJ.2 j a b c d e⟩, ⟨hp, f4, f2, f1⟩, by rw [if_neg hkn]; omega⟩ hSet xg (AgP.rf σ) (fun _ _ _ => rfl), fun c => ?_⟩
  rw [nI_add, pk_sub (by omega)]
  generalize hdd : due (kd z) n = d at hd2 hdue c
  refine x_mark (by omega) (x_mark (by omega) ?_)
  obtain ⟨l', hl'⟩ : ∃ l' : Nat → Nat, l' = fun i => if i = p then d else if i = p + d then ln p - d else ln i := ⟨_, rfl⟩
  obtain ⟨d', hd'⟩ : ∃ d' : Nat → Int, d' = fun i => if i = p + d then -1 else hd i := ⟨_, rfl⟩
  have e1 : l' p = d := by rw [hl']; show (if p = p then _ else _) = _; rw [if_pos rfl]
  have e2 : l' (p + d) = ln p - d := by rw [hl']; show (if p + d = p then _ else _) = _; rw [if_neg (by omega), if_pos rfl]
  have e3 : ∀ i, i ≠ p → i ≠ p + d → l' i = ln i := by intro i i1 i2; rw [hl']; show (if i = p then _ else _) = _; rw [if_neg i1, if_neg i2]
  have d1 : d' (p + d) = -1 := by rw [hd']; exact if_pos rfl
  have d2 : ∀ i, i ≠ p + d → d' i = hd i := fun i hi => by rw [hd']; exact if_neg hi
  have hkp : 2 ≤ kz kd (ow (p / 64)) := by rw [f1, kzz]; exact hkz
  obtain ⟨hK', bl'⟩ := cutOk (ln1 := l') (hd1 := d') h.2.1 hK hp (by omega) (by omega) e1 e3 d1 d2
  refine k _ l' d' ⟨cutRow h hp (by omega) (by omega) hkp e1 e2 e3, hK', cutJ h hp (by omega) (by omega) (Or.inl f2) hkp e1 e2 e3 d2 hJ, ⟨hp, by omega, by rw [d2 p (by omega)]; exact f2, f1⟩, by rw [if_neg hkn, hdd]; exact e1⟩ (cutSet h hp (by omega) (by omega) (fun k hk w => hk (by rw [w]; exact f1)) e1 e2 e3 d2 hSet) ?_ ((AgP.m1 _ _ _).tr (AgP.m1 _ _ _)) (fun s hs ht => bl' s hs ht (fun w => ?_))
  · obtain ⟨x1, x2, x3⟩ := xg
    refine ⟨x1, x2, fun i hi => ?_⟩
    show upd (upd (gA σ 1) (p + d) (nI (ln p - d))) p (nI d) i = _
    unfold upd
    by_cases u : i = p
    · rw [if_pos u, u, e1, d2 p (by omega)]
      unfold mkI
      rw [if_neg (by omega), if_pos f2, nI_iI]
    · rw [if_neg u]
      by_cases v : i = p + d
      · rw [if_pos v, v, e2, d1]
        unfold mkI
        rw [if_neg (by omega), if_pos (by omega), nI_iI]
      · rw [if_neg v, e3 i u v, d2 i v]
        exact x3 i hi
  · have := (hK.1 s hs ht).2.2.2.1
    rw [w] at this
    omega
theorem x_takeRow (hg : Gh pg zn ow ln hd kd cl th sz zo pl) (xg : XG pg ow ln hd σ) (xz : XZ zn kd cl bw σ) (xb : XB ln th sz zo pl σ) {z n : Nat} (hzn : z < zn) (hkz : 2 ≤ kd z) (hn : n ≤ 2000) {Q : Int32 → SS → Prop} (k0 : TK pg zn ow ln hd kd cl th sz zo pl z n (-1) → Q (iI (-1)) σ) (k1 : ∀ (p : Nat) σ' ow' ln' hd', TK pg zn ow ln hd kd cl th sz zo pl z n p → Tkn z n p pg zn ow' ln' hd' kd cl th zo pl → OkSetq (fun k => ¬ ow' k = z) pg ow' ln' hd' kd → XG pg ow' ln' hd' σ' → AgP σ σ' → (∀ s, s < 100 → th s = true → ln' (pl s) = ln (pl s)) → (∀ k, k < pg → (ow' k = -2 ↔ ow k = -2)) → Q (nI p) σ') : wX4_takePiece (nI z) (nI n) σ Q := by
  obtain ⟨h, hK, hSz, hSet, hJ⟩ := id hg
  have hp40 := h.1.1
  have hz8 := h.1.2.1
  have hk5 := (h.1.2.2.2 z hzn).1
  have kzz : kz kd (z : Int) = kd z := by unfold kz; rw [Int.toNat_natCast]
  have edue : n + (if kd z = 5 then 3 else 1) = due (kd z) n := by unfold due; rw [if_neg (show ¬ kd z = 0 by omega), if_neg (show ¬ kd z = 1 by omega)]
  have hdue : 1 ≤ due (kd z) n ∧ due (kd z) n ≤ 2003 := by rw [← edue]; split <;> omega
  have emny : mny (kd z) n = (due (kd z) n + 63) / 64 := by unfold mny; rw [if_neg (by omega)]
  unfold wX4_takePiece
  refine x_aside xz hz8 hzn hk5 ?_
  rw [nI_add, edue]
  have hbr := bst_rng (kd z) (fr ow ln hd z) (due (kd z) n) (64 * pg)
  refine x_choose h hK xg xz xb hzn hkz hdue.1 (by omega) ⟨fun c => ?_, fun c => ?_⟩
  · rw [l_0, iI_le (by omega) (by omega) (by omega) (by omega)] at c
    obtain ⟨b1, b2⟩ := bst_some c
    obtain ⟨p, hp⟩ := Int.eq_ofNat_of_zero_le c
    have htk : TK pg zn ow ln hd kd cl th sz zo pl z n p := Or.inl ⟨c, hp.symm⟩
    rw [hp] at b1 b2 hbr ⊢
    rw [Int.toNat_natCast] at b1 b2
    rw [iI_nat]
    exact x_split h hK hJ ⟨fun k a b => hSet.1 k a, fun k a b => hSet.2.1 k a, fun j a b c d e f => hSet.2.2 j a b c d e⟩ xg hzn hkz hn (by omega) b1 b2 (fun σ' l' d' a b c d e => k1 p σ' ow l' d' htk a b c d e (fun _ _ => Iff.rfl))
  · rw [l_0, iI_le (by omega) (by omega) (by omega) (by omega)] at c
    have em : (nI (due (kd z) n) + 64 - 1) / 64 = nI (mny (kd z) n) := by
      rw [emny, show (64 : Int32) = nI 64 from rfl, show (1 : Int32) = nI 1 from rfl, nI_add, pk_sub (by omega), pk_div (by omega) (by omega) (by omega), show due (kd z) n + 64 - 1 = due (kd z) n + 63 by omega]
    rw [em]
    generalize hm : mny (kd z) n = m at emny
    have hm0 : 0 < m ∧ m < 100 ∧ due (kd z) n ≤ 64 * m := by omega
    unfold wX4_bringPages
    refine x_freeRun hp40 (owR h) xg hm0.1 (by omega) (fun r hr r1 r2 => ⟨fun c2 => ?_, fun c2 => ⟨fun w => absurd rfl w, fun _ => ?_⟩⟩)
    · rw [l_0, iI_le (by omega) (by omega) (by omega) (by omega)] at c2
      obtain ⟨a, ha⟩ := Int.eq_ofNat_of_zero_le c2
      subst ha
      have hfp : FP ow pg m a := by
        rcases hr with ⟨w, -⟩ | ⟨b, w1, w2, -⟩
        · omega
        · rw [show a = b by omega]; exact w2
      have hfp1 := hfp.1
      rw [iI_nat]
      unfold wX4_bringPages_b18
      obtain ⟨ow1, how1⟩ : ∃ ow1 : Nat → Int, ow1 = fun k => if a ≤ k ∧ k < a + m then (z : Int) else ow k := ⟨_, rfl⟩
      obtain ⟨lA, hlA⟩ : ∃ lA : Nat → Nat, lA = fun j => if j = 64 * a then 64 * m else ln j := ⟨_, rfl⟩
      obtain ⟨dA, hdA⟩ : ∃ dA : Nat → Int, dA = fun j => if j = 64 * a then -1 else hd j := ⟨_, rfl⟩
      have o1 : ∀ k, a ≤ k → k < a + m → ow1 k = z := fun k w1 w2 => by rw [how1]; exact if_pos ⟨w1, w2⟩
      have o2 : ∀ k, ¬ (a ≤ k ∧ k < a + m) → ow1 k = ow k := fun k w => by rw [how1]; exact if_neg w
      have e1 : lA (64 * a) = 64 * m := by rw [hlA]; exact if_pos rfl
      have e2 : ∀ j, j ≠ 64 * a → lA j = ln j := fun j hj => by rw [hlA]; exact if_neg hj
      have f1 : dA (64 * a) = -1 := by rw [hdA]; exact if_pos rfl
      have f2 : ∀ j, j ≠ 64 * a → dA j = hd j := fun j hj => by rw [hdA]; exact if_neg hj
      have empty : ∀ j, a ≤ j / 64 → j / 64 < a + m → ln j = 0 := by
        intro j w1 w2
        rcases Nat.eq_zero_or_pos (ln j) with q | q
        · exact q
        · have := (h.2.1 j (by omega) q).1
          rw [hfp.2 _ w1 w2] at this
          omega
      have gA0 : Add pg ow ln hd ow1 lA dA z a m := by
        refine ⟨⟨hm0.1, hfp⟩, o1, o2, fun j hj => ⟨e2 j (by omega), f2 j (by omega)⟩, fun j w1 w2 w3 => ?_⟩
        by_cases w : j = 64 * a
        · rw [w]; exact f1
        · rw [e2 j w, empty j w1 w2] at w3; omega
      have hTA : Tiled pg zn ow1 lA kd cl := addRow h hm0.1 hfp.1 hfp.2 hzn hkz o1 o2 e1 e2
      obtain ⟨hKA, blA⟩ := gA0.ok hK
      have hJA := gA0.jn h (fun _ j w1 w2 w3 => by
        by_cases w : j = 64 * a
        · exact w
        · rw [e2 j w, empty j w1 w2] at w3; omega) (fun w => by omega) hJ
      have hSA := gA0.set hTA.2.1 hSet
      have oa : ow1 (64 * a / 64) = z := by rw [show 64 * a / 64 = a by omega]; exact o1 a (by omega) (by omega)
      have hJA' : OkJq (fun j _ => ¬ ow1 (j / 64) = z) pg ow1 lA dA kd := ⟨fun j a' b c d e f g => hJA.1 j a' b c d e f ⟨fun w => g (by rw [w]; exact oa), fun w => by rw [w, oa] at f; exact g f.symm⟩, fun j a' b c d e g => hJA.2 j a' b c d e ⟨fun w => g (by rw [w]; exact oa), fun w => by
        have hpp := pair_page hTA.2.2.2.1 a' b (hTA.2.1 j a' b).1 d e
        rw [w] at hpp
        exact g (by rw [← hpp]; exact oa)⟩⟩
      have fin : ∀ σ1, OwnR σ σ1 a (a + m) (nI z) → wX3_mark (nI a * 64) (nI m * 64) σ1 (fun σ55 => wX4_joinTouching (nI z) σ55 (fun σ60 => (¬ (1 : Int32) = 0 → wX4_choose (nI z) (nI (due (kd z) n)) σ60 (fun r43 => wX4_takePiece_b48 (nI z) (nI (due (kd z) n)) r43 σ60 Q)) ∧ ((1 : Int32) = 0 → Q (-1) σ60))) := by
        intro σ1 O
        obtain ⟨q1, q2, q3, q4, q5⟩ := id O
        rw [show nI a * 64 = nI (64 * a) from by rw [show (64 : Int32) = nI 64 from rfl, pk_mul, Nat.mul_comm], show nI m * 64 = nI (64 * m) from by rw [show (64 : Int32) = nI 64 from rfl, pk_mul, Nat.mul_comm]]
        refine x_mark (by omega) ?_
        have xg2 : XG pg ow1 lA dA (sA σ1 1 (64 * a) (nI (64 * m))) := by
          refine ⟨(q1 0).trans xg.1, fun k hk => ?_, fun j hj => ?_⟩
          · show gA σ1 0 k = _
            rw [q5 k]
            by_cases w : a ≤ k ∧ k < a + m
            · rw [if_pos w, o1 k w.1 w.2, iI_nat]
            · rw [if_neg w, o2 k w]; exact xg.2.1 k hk
          · show upd (gA σ1 1) (64 * a) (nI (64 * m)) j = _
            rw [q2 1 (by omega)]
            unfold upd
            by_cases w : j = 64 * a
            · rw [if_pos w, w, e1, f1]
              unfold mkI
              rw [if_neg (by omega), if_pos (by omega), nI_iI]
            · rw [if_neg w, e2 j w, f2 j w]; exact xg.2.2 j hj
        have ag2 : AgP σ (sA σ1 1 (64 * a) (nI (64 * m))) := O.agp.tr (AgP.m1 _ _ _)
        refine x_joinT hTA hKA xg2 (xb.agp ag2 blA) hzn hkz (fun σ3 l3 hT3 hK3 xg3 ag3 bl3 oz3 jd3 => ⟨fun _ => ?_, fun w => absurd w (by decide)⟩)
        obtain ⟨hJ3, hS3⟩ := afterJoin hkz hT3 oz3 jd3 hJA' hSA
        have bl4 : ∀ s, s < 100 → th s = true → l3 (pl s) = ln (pl s) := fun s hs ht => (bl3 s hs ht).trans (blA s hs ht)
        have ag4 := ag2.tr ag3
        obtain ⟨pc, pc1, pc2⟩ := bigPiece (th := th) (zo := zo) (pl := pl) hT3 hK3 hJ3 hzn hkz hm0.1 hfp.1 o1 (fun s hs ht x x1 x2 w => by
          rw [bl4 s hs ht] at x2
          obtain ⟨k1', k2', k3', k4', k5'⟩ := hK.1 s hs ht
          have hox : ow (x / 64) = zo s := by
            rcases Nat.lt_or_ge (pl s) x with u | u
            · rw [((h.2.1 _ k2' k3').2.2 x u x2).2]; exact k5'
            · rw [show x = pl s by omega]; exact k5'
          rw [hfp.2 _ w.1 w.2] at hox
          omega)
        have hb3 : 0 ≤ bst (kd z) (fr ow1 l3 dA z) (due (kd z) n) (64 * pg) := can_bst.mpr ⟨pc, pc1, by omega, by omega⟩
        have hbr3 := bst_rng (kd z) (fr ow1 l3 dA z) (due (kd z) n) (64 * pg)
        obtain ⟨s1, s2⟩ := bst_some hb3
        refine x_choose hT3 hK3 xg3 (xz.agp ag4) (xb.agp ag4 bl4) hzn hkz hdue.1 (by omega) ?_
        obtain ⟨p, hp⟩ := Int.eq_ofNat_of_zero_le hb3
        have htk : TK pg zn ow ln hd kd cl th sz zo pl z n p := Or.inr (Or.inr ⟨by omega, a, ow1, l3, dA, by rw [hm]; exact hr, fun i hi => by rw [hm, how1], ⟨hT3, hK3, hSz.same bl4, hJ3⟩, by omega, hp.symm⟩)
        rw [hp] at s1 s2 hbr3 ⊢
        rw [Int.toNat_natCast] at s1 s2
        rw [iI_nat]
        refine x_split hT3 hK3 hJ3 hS3 xg3 hzn hkz hn (by omega) s1 s2 (fun σ' l' d' a' b' c' d'' e' => k1 p σ' ow1 l' d' htk a' b' c' (ag4.tr d'') (fun s hs ht => (e' s hs ht).trans (bl4 s hs ht)) (fun k hk => ?_))
        by_cases w : a ≤ k ∧ k < a + m
        · rw [o1 k w.1 w.2, hfp.2 k w.1 w.2]; omega
        · rw [o2 k w]
      refine lfp_inv (fun t => ∃ i : Nat, a ≤ i ∧ i ≤ a + m ∧ t.1 = nI i ∧ OwnR σ t.2 a i (nI z)) (fun t => a + m - t.1.toNatClampNeg) ⟨a, by omega, by omega, rfl, OwnR.z σ a _⟩ ?_
      rintro ⟨t1', t2'⟩ X ⟨i, i1, i2, e1', O'⟩ hX
      have e1'' : t1' = nI i := e1'
      subst e1''
      have O : OwnR σ t2' a i (nI z) := O'
      rw [nI_add]
      refine ⟨fun c3 => ?_, fun c3 => ⟨(show vp_in (nI i) 40 from vp_in_nI ?_ (by omega)), ?_⟩⟩
      · have : i = a + m := by
          rcases Nat.lt_or_ge i (a + m) with w | w
          · exact absurd c3 (nI_ge w (by omega))
          · omega
        subst this
        exact fin t2' O
      · rcases Nat.lt_or_ge i (a + m) with w | w
        · omega
        · exact absurd (nI_le w (by omega)) c3
      · have hib : i < a + m := by
          rcases Nat.lt_or_ge i (a + m) with w | w
          · exact w
          · exact absurd (nI_le w (by omega)) c3
        refine hX _ ⟨i + 1, by omega, by omega, ?_, ?_⟩ ?_
        · show nI i + 1 = _
          rw [nI_1]
        · rw [show ((nI i, t2') : Int32 × SS).1 = nI i from rfl, nI_clamp (by omega)]
          exact O.s i1
        · show a + m - (nI i + 1).toNatClampNeg < a + m - (nI i).toNatClampNeg
          rw [nI_1, nI_clamp (by omega), nI_clamp (by omega)]
          omega
    · rw [l_0, iI_le (by omega) (by omega) (by omega) (by omega)] at c2
      rw [l_m1]
      exact k0 (Or.inr (Or.inl ⟨by omega, by rw [hm, show (-1 : Int) = r by omega]; exact hr, rfl⟩))
end TAKEX
