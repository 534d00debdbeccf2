/-! ===== grow by a copy: class and reference ===== -/
section GROWC
variable {pg zn : Nat} {ow : Nat → Int} {ln kd cl : Nat → Nat} {hd : Nat → Int} {th : Nat → Bool} {sz zo pl : Nat → Nat} {bw : Nat → Int64} {σ τ : SS}
/-- how the numbers lie when a block moves from p to q -/
theorem mvNum {ow1 : Nat → Int} {ln1 : Nat → Nat} {hd1 : Nat → Int} {n q s : Nat} (hg : Gh pg zn ow ln hd kd cl th sz zo pl) (T : Tkn (zo s) n q pg zn ow1 ln1 hd1 kd cl th zo pl) (bl : ∀ i, i < 100 → th i = true → ln1 (pl i) = ln (pl i)) (hs : s < 100) (ht : th s = true) (hn : sz s < n) (hnM : n ≤ mst (kd (zo s)) (cl (zo s))) : (kd (zo s) = 5 → q + ahd (kd (zo s)) = q + 2 ∧ q + ahd (kd (zo s)) + sz s ≤ q + ln1 q - 1) ∧ (kd (zo s) = 5 → ∀ x, pl s + ahd (kd (zo s)) ≤ x → x < pl s + ahd (kd (zo s)) + sz s → x ≠ q + 1 ∧ x ≠ q + ln1 q - 1) ∧ pl s + ahd (kd (zo s)) + sz s ≤ 2560 ∧ q + ahd (kd (zo s)) + sz s ≤ 2560 ∧ (∀ i j, i < sz s → j < sz s → pl s + ahd (kd (zo s)) + i ≠ q + ahd (kd (zo s)) + j) ∧ (2 ≤ ln1 q ∨ ¬ kd (zo s) = 5) := by
  obtain ⟨z1, z2, z3, z4, z5, z6, z7, z8, z9⟩ := blk hg hs ht
  obtain ⟨w1, w2, w3⟩ := apart T hs ht
  rw [bl s hs ht] at w1 w3
  have hlen := T.2.2.2.2
  have hZ := (hg.1.1.2.2.2 _ z1).2
  obtain ⟨o1, o2, o3, o4⟩ := okSz1 hZ hlen hnM
  have hL : ahd (kd (zo s)) + n ≤ ln1 q ∧ ahd (kd (zo s)) + sz s ≤ ln (pl s) ∧ (kd (zo s) = 5 → ahd (kd (zo s)) = 2 ∧ ln1 q = n + 3 ∧ ln (pl s) = sz s + 3) := by
    unfold ahd
    by_cases c5 : kd (zo s) = 5
    · have l1 := o4 (by omega)
      have l2 := z9 (by omega)
      rw [if_pos c5] at l1 l2 ⊢
      exact ⟨by omega, by omega, fun _ => ⟨rfl, l1, l2⟩⟩
    · rw [if_neg c5]
      by_cases c2 : 2 ≤ kd (zo s)
      · have l1 := o4 c2
        have l2 := z9 c2
        rw [if_neg c5] at l1 l2
        rw [if_pos c2]
        exact ⟨by omega, by omega, fun c => absurd c c5⟩
      · rw [if_neg c2]
        refine ⟨?_, by omega, fun c => absurd c c5⟩
        by_cases c0 : kd (zo s) = 0
        · have := o2 c0
          rw [if_pos c0] at hlen
          omega
        · have := (o3 (by omega)).1
          omega
  obtain ⟨h1, h2, h3⟩ := hL
  refine ⟨fun c => ?_, fun c x x1 x2 => ?_, by omega, by omega, fun i j hi hj => by omega, ?_⟩
  · obtain ⟨g1, g2, g3⟩ := h3 c
    omega
  · obtain ⟨g1, g2, g3⟩ := h3 c
    omega
  · by_cases c : kd (zo s) = 5
    · have := h3 c
      left; omega
    · exact Or.inr c
theorem x_move {σ1 : SS} {ow1 : Nat → Int} {ln1 : Nat → Nat} {hd1 : Nat → Int} {n q s : Nat} (hg : Gh pg zn ow ln hd kd cl th sz zo pl) (xz : XZ zn kd cl bw σ) (xb : XB ln th sz zo pl σ) (hs : s < 100) (ht : th s = true) (hn : sz s < n) (hnM : n ≤ mst (kd (zo s)) (cl (zo s))) (T : Tkn (zo s) n q pg zn ow1 ln1 hd1 kd cl th zo pl) (hS1 : OkSetq (fun k => ¬ ow1 k = zo s) pg ow1 ln1 hd1 kd) (xg1 : XG pg ow1 ln1 hd1 σ1) (ag1 : AgP σ σ1) (bl1 : ∀ i, i < 100 → th i = true → ln1 (pl i) = ln (pl i)) (mi1 : ∀ k, k < pg → (ow1 k = -2 ↔ ow k = -2)) {Q : SS → Prop} (k : ∀ σ' ow' ln' hd', Gh pg zn ow' ln' hd' kd cl th (fup sz s n) zo (fup pl s q) → XG pg ow' ln' hd' σ' → XZ zn kd cl bw σ' → XB ln' th (fup sz s n) zo (fup pl s q) σ' → (∀ k, k ≠ 0 → k ≠ 1 → k ≠ 4 → k ≠ 5 → k ≠ 6 → k ≠ 7 → gA σ' k = gA σ k) → gB σ' 0 = mvX (kd (zo s)) (gB σ 0) q (ndl (kd (zo s)) (cl (zo s)) n) (bw (zo s)) (pl s + ahd (kd (zo s))) (q + ahd (kd (zo s))) (sz s) (pl s) (ln (pl s)) → gL σ' 0 = gL σ 0 → (∀ k, k < pg → (ow' k = -2 ↔ ow k = -2)) → Q σ') : wX3_moveBlock (nI s) (nI q) (nI n) σ1 (fun σ151 => wK_tidy (kp (kd (zo s))) (nI (zo s)) σ151 Q) := by
  obtain ⟨hT, hK, hSz, hSet, hJ⟩ := id hg
  obtain ⟨z1, z2, z3, z4, z5, z6, z7, z8, z9⟩ := blk hg hs ht
  obtain ⟨a1, a2, a3, a4, a5⟩ := hK.1 s hs ht
  obtain ⟨n1, n2, n3, n4, n5, n6⟩ := mvNum hg T bl1 hs ht hn hnM
  obtain ⟨tT, tK, tJ, ⟨tp, tl, tf, to⟩, tlen⟩ := id T
  have htb := (tT.2.1 q tp tl).2.1
  have hv : vp_in (nI s) 100 := vp_in_nI hs (by omega)
  have xz1 : XZ zn kd cl bw σ1 := xz.agp ag1
  have xbo : XB ln th sz zo pl σ1 := xb.agp ag1 (fun _ _ _ => rfl)
  obtain ⟨x4, x5, x6, x7⟩ := (xbo s hs).1 ht
  unfold wX3_moveBlock
  refine x_firstNumber xbo xz1 hg hs ht ?_
  rw [nI_clamp (by omega), x4, x5, x6, x7]
  refine ⟨hv, hv, hv, hv, x_putBlock z4 xg1 xz1 z2 hs z1 z3 tp tl tf htb n6 ?_⟩
  obtain ⟨σ2, hσ2⟩ : ∃ σ2, σ2 = putX σ1 s (zo s) q (ln1 q) n (kd (zo s)) (bw (zo s)) := ⟨_, rfl⟩
  rw [← hσ2]
  have xz2 : XZ zn kd cl bw σ2 := by subst hσ2; exact xz1
  have bx2 : BX σ2 s (zo s) q (ln1 q) n := by
    subst hσ2
    refine ⟨?_, ?_, ?_, ?_⟩
    · show upd (gA σ1 4) s (nI (zo s)) s = _
      unfold upd; rw [if_pos rfl]
    · show upd (gA σ1 5) s (nI q) s = _
      unfold upd; rw [if_pos rfl]
    · show upd (gA σ1 6) s (nI (ln1 q)) s = _
      unfold upd; rw [if_pos rfl]
    · show upd (gA σ1 7) s (nI n) s = _
      unfold upd; rw [if_pos rfl]
  have eB2 : gB σ2 0 = gw (kd (zo s)) (gB σ 0) q (ln1 q) (bw (zo s)) := by
    subst hσ2
    unfold putX
    rw [gB_sBB_self, ag1.2.2.1 0]
  refine x_firstNumberM xz2 z2 hs bx2 z1 z3 (x_copyNumbers n3 n4 ?_)
  unfold wX3_vacate
  refine x_setNumbers (by omega) (x_mark (by omega) ?_)
  obtain ⟨σ3, hσ3⟩ : ∃ σ3, σ3 = sBB σ2 0 (va_cpy (gB σ2 0) (gB σ2 0) (pl s + ahd (kd (zo s))) (q + ahd (kd (zo s))) (sz s)) := ⟨_, rfl⟩
  rw [← hσ3]
  obtain ⟨σ4, hσ4⟩ : ∃ σ4, σ4 = sA (sBB σ3 0 (rng (gB σ3 0) (pl s) (ln (pl s)) 0)) 1 (pl s) (nI (ln (pl s))) := ⟨_, rfl⟩
  rw [← hσ4]
  obtain ⟨hd2, hhd2⟩ : ∃ hd2 : Nat → Int, hd2 = fun j => if j = q then (s : Int) else if j = pl s then -1 else hd1 j := ⟨_, rfl⟩
  have d1 : hd2 q = s := by rw [hhd2]; exact if_pos rfl
  have d2 : ∀ j, j ≠ q → j ≠ pl s → hd2 j = hd1 j := fun j u v => by rw [hhd2]; show (if j = q then _ else _) = _; rw [if_neg u, if_neg v]
  have hpq0 : pl s ≠ q := fun w => by
    have := (tK.1 s hs ht).2.2.2.1
    rw [w] at this
    omega
  have d0 : hd2 (pl s) = -1 := by rw [hhd2]; show (if pl s = q then _ else _) = _; rw [if_neg hpq0, if_pos rfl]
  obtain ⟨hpq, mK, mS, mJ, mJz, mSet⟩ := mvG (sz := sz) (hd2 := hd2) T hs ht rfl (hSz.same bl1) hnM d1 d0 d2
  have hRest : Rest (zo s) pg zn ow1 ln1 hd2 kd cl th (fup sz s n) zo (fup pl s q) := ⟨tT, mK, mS, mJz, mSet hS1⟩
  have xg4 : XG pg ow1 ln1 hd2 σ4 := by
    subst hσ4 hσ3 hσ2
    refine ⟨xg1.1, xg1.2.1, fun j hj => ?_⟩
    show upd (upd (gA σ1 1) q (iI (-1 - (s : Int)))) (pl s) (nI (ln (pl s))) j = _
    unfold upd
    by_cases w : j = pl s
    · rw [if_pos w, w, d0, bl1 s hs ht]
      unfold mkI
      rw [if_neg (by omega), if_pos (by omega), nI_iI]
    · rw [if_neg w]
      by_cases w2 : j = q
      · rw [if_pos w2, w2, d1]
        unfold mkI
        rw [if_neg (by omega), if_neg (by omega)]
      · rw [if_neg w2, d2 j w2 w]; exact xg1.2.2 j hj
  have xz4 : XZ zn kd cl bw σ4 := by subst hσ4 hσ3; exact xz2
  have xb4 : XB ln1 th (fup sz s n) zo (fup pl s q) σ4 := by
    subst hσ4 hσ3 hσ2
    intro i hi
    show (_ → upd (gA σ1 4) s (nI (zo s)) i = _ ∧ upd (gA σ1 5) s (nI q) i = _ ∧ upd (gA σ1 6) s (nI (ln1 q)) i = _ ∧ upd (gA σ1 7) s (nI n) i = _) ∧ (_ → upd (gA σ1 4) s (nI (zo s)) i = _)
    unfold upd
    by_cases w : i = s
    · rw [if_pos w, if_pos w, if_pos w, if_pos w, w, fup_s, fup_s]
      exact ⟨fun _ => ⟨rfl, rfl, rfl, rfl⟩, fun v => by rw [ht] at v; exact absurd v (by decide)⟩
    · rw [if_neg w, if_neg w, if_neg w, if_neg w, fup_n _ _ w, fup_n _ _ w]
      obtain ⟨v1, v2⟩ := xbo i hi
      refine ⟨fun hti => ?_, v2⟩
      rw [bl1 i hi hti]
      exact v1 hti
  refine x_tidyK hRest xg4 xz4 xb4 z1 (fun σ5 o5 l5 d5 hG5 xg5 ag5 bl5 mi5 => ?_)
  refine k σ5 o5 l5 d5 hG5 xg5 (xz4.agp ag5) (xb4.agp ag5 bl5) (fun k k0 k1 k4 k5 k6 k7 => ?_) ?_ ?_ (fun k hk => (mi5 k hk).trans (mi1 k hk))
  · rw [ag5.2.1 k k0 k1]
    subst hσ4 hσ3 hσ2
    show gA (sA (sA (sA (sA (sA (sA σ1 4 s (nI (zo s))) 5 s (nI q)) 6 s (nI (ln1 q))) 7 s (nI n)) 1 q (iI (-1 - (s : Int)))) 1 (pl s) (nI (ln (pl s)))) k = _
    rw [gA_sA_ne _ _ _ k1, gA_sA_ne _ _ _ k1, gA_sA_ne _ _ _ k7, gA_sA_ne _ _ _ k6, gA_sA_ne _ _ _ k5, gA_sA_ne _ _ _ k4]
    exact ag1.2.1 k k0 k1
  · rw [ag5.2.2.1 0]
    have e4 : gB σ4 0 = rng (gB σ3 0) (pl s) (ln (pl s)) 0 := by
      subst hσ4
      exact gB_sBB_self σ3 0 _
    have e3 : gB σ3 0 = va_cpy (gB σ2 0) (gB σ2 0) (pl s + ahd (kd (zo s))) (q + ahd (kd (zo s))) (sz s) := by subst hσ3; rw [gB_sBB_self]
    rw [e4, e3, eB2, tlen]
    rfl
  · rw [ag5.2.2.2 0]
    subst hσ4 hσ3 hσ2
    show gL σ1 0 = _
    exact ag1.2.2.2 0
theorem m_move {τ1 : SS} {ow1 : Nat → Int} {ln1 : Nat → Nat} {hd1 : Nat → Int} {n q s : Nat} (hg : Gh pg zn ow ln hd kd cl th sz zo pl) (mz : MZ zn kd cl bw τ) (mb : MB th sz zo pl τ) (hs : s < 100) (ht : th s = true) (hn : sz s < n) (hnM : n ≤ mst (kd (zo s)) (cl (zo s))) (T : Tkn (zo s) n q pg zn ow1 ln1 hd1 kd cl th zo pl) (mg1 : MG pg ow1 ln1 hd1 τ1) (ag1 : AgQ τ τ1) (bl1 : ∀ i, i < 100 → th i = true → ln1 (pl i) = ln (pl i)) (mi1 : ∀ k, k < pg → (ow1 k = -2 ↔ ow k = -2)) {Q : Int32 → SS → Prop} (k : ∀ τ' ow' ln' hd', Gh pg zn ow' ln' hd' kd cl th (fup sz s n) zo (fup pl s q) → MG pg ow' ln' hd' τ' → MZ zn kd cl bw τ' → MB th (fup sz s n) zo (fup pl s q) τ' → (∀ k, gI τ' k = gI τ k) → (∀ k, k ≠ 0 → k ≠ 1 → k ≠ 2 → k ≠ 6 → k ≠ 7 → k ≠ 8 → gA τ' k = gA τ k) → (∀ k, k ≠ 0 → gB τ' k = gB τ k) → gB τ' 0 = mvM (kd (zo s)) (gB τ 0) q (ndl (kd (zo s)) (cl (zo s)) n) (bw (zo s)) (pl s + ahd (kd (zo s))) (q + ahd (kd (zo s))) (sz s) (pl s) (ln (pl s)) → (∀ k, gL τ' k = gL τ k) → (∀ k, k < pg → (ow' k = -2 ↔ ow k = -2)) → Q 2 τ') : wX7_grow_b185 (nI n) (nI s) (nI (zo s)) (nI (pl s)) (nI q) 0 τ1 Q := by
  obtain ⟨hT, hK, hSz, hSet, hJ⟩ := id hg
  obtain ⟨z1, z2, z3, z4, z5, z6, z7, z8, z9⟩ := blk hg hs ht
  obtain ⟨a1, a2, a3, a4, a5⟩ := hK.1 s hs ht
  obtain ⟨n1, n2, n3, n4, n5, n6⟩ := mvNum hg T bl1 hs ht hn hnM
  obtain ⟨tT, tK, tJ, ⟨tp, tl, tf, to⟩, tlen⟩ := id T
  have htb := (tT.2.1 q tp tl).2.1
  have hv : vp_in (nI s) 100 := vp_in_nI hs (by omega)
  have hM : mst (kd (zo s)) (cl (zo s)) ≤ 2000 := by
    unfold mst
    by_cases c0 : kd (zo s) = 0
    · rw [if_pos c0]; have := (hT.1.2.2.2 _ z1).2 c0; omega
    · rw [if_neg c0]; split <;> omega
  have mz1 : MZ zn kd cl bw τ1 := mz.agq ag1
  have mb1 : MB th sz zo pl τ1 := mb.agq ag1
  unfold wX7_grow_b185
  refine lfp_inv (fun t => ∃ i : Nat, i ≤ sz s ∧ t = (nI i, sBB τ1 0 (va_cpy (gB τ1 0) (gB τ1 0) (pl s + ahd (kd (zo s))) (q + ahd (kd (zo s))) i))) (fun t => sz s - t.1.toNatClampNeg) ⟨0, by omega, by rw [cpy_0, sBB_self]; rfl⟩ ?_
  rintro t X ⟨i, hi, rfl⟩ hX
  obtain ⟨τi, hτi⟩ : ∃ τi, τi = sBB τ1 0 (va_cpy (gB τ1 0) (gB τ1 0) (pl s + ahd (kd (zo s))) (q + ahd (kd (zo s))) i) := ⟨_, rfl⟩
  rw [show ((nI i, sBB τ1 0 (va_cpy (gB τ1 0) (gB τ1 0) (pl s + ahd (kd (zo s))) (q + ahd (kd (zo s))) i)) : Int32 × SS).2 = sBB τ1 0 (va_cpy (gB τ1 0) (gB τ1 0) (pl s + ahd (kd (zo s))) (q + ahd (kd (zo s))) i) from rfl, show ((nI i, sBB τ1 0 (va_cpy (gB τ1 0) (gB τ1 0) (pl s + ahd (kd (zo s))) (q + ahd (kd (zo s))) i)) : Int32 × SS).1 = nI i from rfl, ← hτi]
  have mg2 : MG pg ow1 ln1 hd1 τi := by subst hτi; exact mg1
  have mz2 : MZ zn kd cl bw τi := by subst hτi; exact mz1
  have mb2 : MB th sz zo pl τi := by subst hτi; exact mb1
  obtain ⟨e5, e6, e7, e8⟩ := (mb2.2 s hs).1 ht
  have eB : gB τi 0 = va_cpy (gB τ1 0) (gB τ1 0) (pl s + ahd (kd (zo s))) (q + ahd (kd (zo s))) i := by subst hτi; rw [gB_sBB_self]
  rw [nI_clamp (show s < 2 ^ 31 by omega), e6, nI_leI (by omega) (by omega)]
  refine ⟨hv, fun c => ?_, fun c => ?_⟩
  · have hin : i = sz s := by omega
    subst hin
    obtain ⟨hd2, hhd2⟩ : ∃ hd2 : Nat → Int, hd2 = fun j => if j = q then (s : Int) else if j = pl s then -1 else hd1 j := ⟨_, rfl⟩
    have d1 : hd2 q = s := by rw [hhd2]; exact if_pos rfl
    have d2 : ∀ j, j ≠ q → j ≠ pl s → hd2 j = hd1 j := fun j u v => by rw [hhd2]; show (if j = q then _ else _) = _; rw [if_neg u, if_neg v]
    have hpq0 : pl s ≠ q := fun w => by
      have := (tK.1 s hs ht).2.2.2.1
      rw [w] at this
      omega
    have d0 : hd2 (pl s) = -1 := by rw [hhd2]; show (if pl s = q then _ else _) = _; rw [if_neg hpq0, if_pos rfl]
    obtain ⟨hpq, mK, mS, mJ, mJz, mSet⟩ := mvG (sz := sz) (hd2 := hd2) T hs ht rfl (hSz.same bl1) hnM d1 d0 d2
    unfold wX7_have
    rw [nI_clamp (show q < 2 ^ 31 by omega), nI_clamp (show s < 2 ^ 31 by omega)]
    refine ⟨vp_in_nI (by omega) (by omega), hv, hv, hv, ?_⟩
    obtain ⟨τ2, hτ2⟩ : ∃ τ2, τ2 = sA (sA (sA (sA τi 2 q (nI s)) 7 s (nI (zo s))) 8 s (nI q)) 6 s (nI n) := ⟨_, rfl⟩
    rw [← hτ2]
    have mz3 : MZ zn kd cl bw τ2 := by subst hτ2; exact mz2
    have b6 : gA τ2 6 s = nI n := by subst hτ2; exact gA_same _ _ _ _
    have b7 : gA τ2 7 s = nI (zo s) := by
      subst hτ2
      show upd (gA τi 7) s (nI (zo s)) s = _
      unfold upd; rw [if_pos rfl]
    have b8 : gA τ2 8 s = nI q := by
      subst hτ2
      show upd (gA τi 8) s (nI q) s = _
      unfold upd; rw [if_pos rfl]
    have eB2 : gB τ2 0 = gB τi 0 := by subst hτ2; rfl
    have hl5 : kd (zo s) = 5 → ln1 q = n + 3 := fun c => by
      rw [tlen, if_neg (by omega)]
      unfold due
      rw [if_neg (by omega), if_neg (by omega), if_pos c]
    have mgx : MGx (pl s) pg ow1 ln1 hd2 τ2 := by
      subst hτ2
      refine ⟨mg2.1, mg2.2.1, fun j hj => ⟨(mg2.2.2 j hj).1, fun hlj hne => ?_⟩⟩
      show upd (gA τi 2) q (nI s) j = _
      unfold upd
      by_cases w : j = q
      · rw [if_pos w, w, d1, nI_iI]
      · rw [if_neg w, d2 j w hne]; exact (mg2.2.2 j hj).2 hlj
    have mb3 : MB th (fup sz s n) zo (fup pl s q) τ2 := by
      subst hτ2
      refine ⟨mb2.1, fun i hi => ?_⟩
      show (_ → gA τi 5 i = 1 ∧ upd (gA τi 6) s (nI n) i = _ ∧ upd (gA τi 7) s (nI (zo s)) i = _ ∧ upd (gA τi 8) s (nI q) i = _) ∧ (_ → gA τi 5 i = 0)
      unfold upd
      by_cases w : i = s
      · rw [if_pos w, if_pos w, if_pos w, w, fup_s, fup_s]
        exact ⟨fun _ => ⟨e5, rfl, rfl, rfl⟩, fun v => by rw [ht] at v; exact absurd v (by decide)⟩
      · rw [if_neg w, if_neg w, if_neg w, fup_n _ _ w, fup_n _ _ w]
        exact mb2.2 i hi
    refine m_guardM mz3 z2 hs b6 b7 b8 z1 z3 hl5 (by omega) ?_
    rw [eB2, eB]
    obtain ⟨τ3, hτ3⟩ : ∃ τ3, τ3 = sBB τ2 0 (gw (kd (zo s)) (va_cpy (gB τ1 0) (gB τ1 0) (pl s + ahd (kd (zo s))) (q + ahd (kd (zo s))) (sz s)) q (ln1 q) (bw (zo s))) := ⟨_, rfl⟩
    rw [← hτ3]
    have eB3 : gB τ3 0 = gw (kd (zo s)) (va_cpy (gB τ1 0) (gB τ1 0) (pl s + ahd (kd (zo s))) (q + ahd (kd (zo s))) (sz s)) q (ln1 q) (bw (zo s)) := by subst hτ3; rw [gB_sBB_self]
    have mgx3 : MGx (pl s) pg ow1 ln1 hd2 τ3 := by subst hτ3; exact mgx
    have mz4 : MZ zn kd cl bw τ3 := by subst hτ3; exact mz3
    have mb4 : MB th (fup sz s n) zo (fup pl s q) τ3 := by subst hτ3; exact mb3
    have kp1 := tK.1 s hs ht
    refine m_release tT mK mgx3 mz4 kp1.2.1 kp1.2.2.1 (by omega) kp1.2.2.2.2 z1 mJ (fun τ4 l4 hT4 hK4 mg4 ag4 bl4 hJ4 => ?_)
    rw [eB3] at ag4
    refine m_settle hT4 hK4 (mS.same bl4) hJ4 mg4 ((show MZ zn kd cl bw (sBB τ3 0 _) from mz4).agq ag4) (fun τ5 o5 l5 d5 hG5 mg5 ag5 bl5 mi5 => ?_)
    have ag6 := ag4.tr ag5
    refine k τ5 o5 l5 d5 hG5 mg5 ((show MZ zn kd cl bw (sBB τ3 0 _) from mz4).agq ag6) ((show MB th (fup sz s n) zo (fup pl s q) (sBB τ3 0 _) from mb4).agq ag6) (fun k => ?_) (fun k k0 k1 k2 k6 k7 k8 => ?_) (fun k k0 => ?_) ?_ (fun k => ?_) (fun k hk => (mi5 k hk).trans (mi1 k hk))
    · rw [ag6.1 k]
      subst hτ3 hτ2 hτi
      show gI τ1 k = _
      exact ag1.1 k
    · rw [ag6.2.1 k k0 k1 k2]
      subst hτ3 hτ2 hτi
      show gA (sA (sA (sA (sA τ1 2 q (nI s)) 7 s (nI (zo s))) 8 s (nI q)) 6 s (nI n)) k = _
      rw [gA_sA_ne _ _ _ k6, gA_sA_ne _ _ _ k8, gA_sA_ne _ _ _ k7, gA_sA_ne _ _ _ k2]
      exact ag1.2.1 k k0 k1 k2
    · rw [ag6.2.2.1 k, gB_sBB, if_neg k0]
      subst hτ3
      rw [gB_sBB, if_neg k0]
      subst hτ2 hτi
      show gB (sBB τ1 0 _) k = _
      rw [gB_sBB, if_neg k0]
      exact ag1.2.2.1 k
    · rw [ag6.2.2.1 0, gB_sBB_self, tlen, ag1.2.2.1 0, bl1 s hs ht]
      rfl
    · rw [ag6.2.2.2 k]
      subst hτ3 hτ2 hτi
      show gL τ1 k = _
      exact ag1.2.2.2 k
  · have hlt : i < sz s := by omega
    have fo : ∀ (x : Nat) (R : Int32 → Prop), x < 100000 → R (nI (x + ahd (kd (zo s)))) → wX7_firstOf (nI (zo s)) (nI x) τi R := by
      intro x R hx hR
      unfold wX7_firstOf
      have hvz : vp_in (nI (zo s)) 8 := vp_in_nI (by omega) (by omega)
      have q1' : (1 : Int32) < nI (kd (zo s)) ↔ 1 < kd (zo s) := nI_ltI (a := 1) (by omega) (by omega)
      have q5 : nI (kd (zo s)) = 5 ↔ kd (zo s) = 5 := nI_eq (b := 5) (by omega) (by omega)
      rw [nI_clamp (show zo s < 2 ^ 31 by omega), (mz2.2 _ z1).1, q1', q5]
      unfold ahd at hR
      refine ⟨hvz, fun c1 => ⟨hvz, fun c5 => ?_, fun c5 => ?_⟩, fun c1 => ?_⟩
      · rw [if_neg c5, if_pos (by omega)] at hR
        rw [nI_1]; exact hR
      · rw [if_pos c5] at hR
        rw [show nI x + 2 = nI (x + 2) from nI_add x 2]; exact hR
      · rw [if_neg (by omega), if_neg (by omega)] at hR
        exact hR
    refine fo q _ (by omega) (fo (pl s) _ (by omega) ?_)
    rw [nI_add, nI_add, nI_clamp (show pl s + ahd (kd (zo s)) + i < 2 ^ 31 by omega), nI_clamp (show q + ahd (kd (zo s)) + i < 2 ^ 31 by omega), nI_1]
    refine ⟨vp_in_nI (by omega) (by omega), vp_in_nI (by omega) (by omega), hX _ ⟨i + 1, by omega, ?_⟩ ?_⟩
    · have ev : gB τi 0 (pl s + ahd (kd (zo s)) + i) = gB τ1 0 (pl s + ahd (kd (zo s)) + i) := by
        rw [eB]
        refine pk_cpy_out ?_
        rcases Nat.lt_or_ge (pl s + ahd (kd (zo s)) + i) (q + ahd (kd (zo s))) with w | w
        · exact Or.inl w
        · right
          rcases Nat.lt_or_ge (pl s + ahd (kd (zo s)) + i) (q + ahd (kd (zo s)) + i) with w2 | w2
          · exact absurd (show pl s + ahd (kd (zo s)) + i = q + ahd (kd (zo s)) + (pl s + i - q) by omega) (n5 i (pl s + i - q) hlt (by omega))
          · exact w2
      rw [ev]
      subst hτi
      rw [sB_sBB, cpy_s]
    · show sz s - (nI (i + 1)).toNatClampNeg < sz s - (nI i).toNatClampNeg
      rw [nI_clamp (by omega), nI_clamp (by omega)]
      omega
end GROWC
