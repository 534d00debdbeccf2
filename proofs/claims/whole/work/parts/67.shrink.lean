/-! ===== shrink ===== -/
section SHRM
variable {pg zn : Nat} {ow : Nat → Int} {ln kd cl : Nat → Nat} {hd : Nat → Int} {th : Nat → Bool} {sz zo pl : Nat → Nat} {bw : Nat → Int64} {τ : SS}
/-- a block's piece is as long as it must be; nothing free touches: the end of shrink and of grow in place -/
theorem m_resEnd {τ0 : SS} {ow' : Nat → Int} {l' : Nat → Nat} {d' : Nat → Int} {s n : Nat} (hg : Gh pg zn ow ln hd kd cl th sz zo pl) (hs : s < 100) (ht : th s = true) (hn : n ≤ mst (kd (zo s)) (cl (zo s))) (hT' : Tiled pg zn ow l' kd cl) (hK' : OkK pg zn ow l' d' th zo pl) (hJ' : OkJ pg ow l' d' kd) (hl' : l' (pl s) = ndl (kd (zo s)) (cl (zo s)) n) (bl' : ∀ i, i < 100 → th i = true → i ≠ s → l' (pl i) = ln (pl i)) (mg : MG pg ow l' d' τ) (mz : MZ zn kd cl bw τ) (mb : MB th (fup sz s n) zo pl τ) {Q : SS → Prop} (k : ∀ τ' ow' ln' hd', Gh pg zn ow' ln' hd' kd cl th (fup sz s n) zo pl → MG pg ow' ln' hd' τ' → MZ zn kd cl bw τ' → MB th (fup sz s n) zo pl τ' → AgQ (sBB τ 0 (gw (kd (zo s)) (gB τ 0) (pl s) (ndl (kd (zo s)) (cl (zo s)) n) (bw (zo s)))) τ' → (∀ k, k < pg → (ow' k = -2 ↔ ow k = -2)) → Q τ') : wX7_guard (nI s) τ (fun σ => wX7_settle σ Q) := by
  obtain ⟨hT, hK, hSz, hSet, hJ⟩ := id hg
  obtain ⟨z1, z2, z3, z4, z5, z6, z7, z8, z9⟩ := blk hg hs ht
  obtain ⟨-, e6, e7, e8⟩ := (mb.2 s hs).1 ht
  rw [fup_s] at e6
  have hplt := (hK'.1 s hs ht)
  have hbnd := (hT'.2.1 (pl s) hplt.2.1 hplt.2.2.1).2.1
  have hl5 : kd (zo s) = 5 → l' (pl s) = n + 3 := fun c => by
    rw [hl']
    unfold ndl due
    rw [if_neg (by omega), if_neg (by omega), if_neg (by omega), if_pos c]
  refine m_guardM mz z2 hs e6 e7 e8 z1 z3 hl5 (by omega) ?_
  rw [hl']
  refine m_settle hT' hK' (okSzNew hT.1.2.2.2 z1 hSz hl' hn bl') hJ' (show MG pg ow l' d' (sBB τ 0 _) from mg) (show MZ zn kd cl bw (sBB τ 0 _) from mz) (fun τ3 o3 l3 d3 hG3 mg3 ag3 bl3 mi3 => ?_)
  exact k τ3 o3 l3 d3 hG3 mg3 ((show MZ zn kd cl bw (sBB τ 0 (gw (kd (zo s)) (gB τ 0) (pl s) (ndl (kd (zo s)) (cl (zo s)) n) (bw (zo s)))) from mz).agq ag3) ((show MB th (fup sz s n) zo pl (sBB τ 0 (gw (kd (zo s)) (gB τ 0) (pl s) (ndl (kd (zo s)) (cl (zo s)) n) (bw (zo s)))) from mb).agq ag3) ag3 mi3
/-- a block's piece is no free one: what the search for touching ones leaves out needs no look -/
theorem okJblk {l' : Nat → Nat} {d' : Nat → Int} {p : Nat} (hp : 0 ≤ d' p) (hJ : OkJq (fun j q => j ≠ p ∧ q ≠ p) pg ow l' d' kd) : OkJ pg ow l' d' kd := by
  refine ⟨fun j hj hl hf hk hn ho => ?_, fun j hj hl hf hk h64 => ?_⟩
  · by_cases w : j + l' j = p
    · rw [w]; exact hp
    · exact hJ.1 j hj hl hf hk hn ho ⟨fun v => by rw [v] at hf; omega, w⟩
  · by_cases w : pair j (l' j) = p
    · rintro ⟨-, v⟩
      rw [w] at v
      omega
    · exact hJ.2 j hj hl hf hk h64 ⟨fun v => by rw [v] at hf; omega, w⟩
/-- the state after block s's size was set -/
theorem MB.size {s n : Nat} (mb : MB th sz zo pl τ) (hs : s < 100) : MB th (fup sz s n) zo pl (sA τ 6 s (nI n)) := by
  refine ⟨mb.1, fun i hi => ?_⟩
  show (_ → gA τ 5 i = 1 ∧ upd (gA τ 6) s (nI n) i = _ ∧ gA τ 7 i = _ ∧ gA τ 8 i = _) ∧ (_ → gA τ 5 i = 0)
  obtain ⟨m1, m2⟩ := mb.2 i hi
  refine ⟨fun hti => ?_, m2⟩
  obtain ⟨v5, v6, v7, v8⟩ := m1 hti
  refine ⟨v5, ?_, v7, v8⟩
  unfold upd
  by_cases w : i = s
  · rw [if_pos w, w, fup_s]
  · rw [if_neg w, fup_n _ _ w]; exact v6
theorem m_shrink174 (hg : Gh pg zn ow ln hd kd cl th sz zo pl) (mg : MG pg ow ln hd τ) (mz : MZ zn kd cl bw τ) (mb : MB th sz zo pl τ) {s n : Nat} (hs : s < 100) (ht : th s = true) (hn : n ≤ sz s) {Q : Int32 → SS → Prop} (k : ∀ τ' ow' ln' hd', Gh pg zn ow' ln' hd' kd cl th (fup sz s n) zo pl → MG pg ow' ln' hd' τ' → MZ zn kd cl bw τ' → MB th (fup sz s n) zo pl τ' → (∀ k, gI τ' k = gI τ k) → (∀ k, k ≠ 0 → k ≠ 1 → k ≠ 2 → k ≠ 6 → gA τ' k = gA τ k) → (∀ k, k ≠ 0 → gB τ' k = gB τ k) → gB τ' 0 = gw (kd (zo s)) (gB τ 0) (pl s) (ndl (kd (zo s)) (cl (zo s)) n) (bw (zo s)) → (∀ k, gL τ' k = gL τ k) → (∀ k, k < pg → (ow' k = -2 ↔ ow k = -2)) → Q (nI (sz s - n)) τ') : wX7_shrink_b174 (nI n) (nI s) (nI (zo s)) (nI (pl s)) (nI (sz s - n)) τ Q := by
  obtain ⟨hT, hK, hSz, hSet, hJ⟩ := id hg
  obtain ⟨z1, z2, z3, z4, z5, z6, z7, z8, z9⟩ := blk hg hs ht
  obtain ⟨a1, a2, a3, a4, a5⟩ := hK.1 s hs ht
  obtain ⟨y1, y2, y3, y4⟩ := hSz s hs ht
  have hv : vp_in (nI s) 100 := vp_in_nI hs (by omega)
  have hvz : vp_in (nI (zo s)) 8 := vp_in_nI (by omega) (by omega)
  have hvp : vp_in (nI (pl s)) 2560 := vp_in_nI (by omega) (by omega)
  have kzz : kz kd ((zo s : Nat) : Int) = kd (zo s) := by unfold kz; rw [Int.toNat_natCast]
  have q0 : nI (kd (zo s)) = 0 ↔ kd (zo s) = 0 := nI_eq (b := 0) (by omega) (by omega)
  have q1 : nI (kd (zo s)) = 1 ↔ kd (zo s) = 1 := nI_eq (b := 1) (by omega) (by omega)
  have hne : ∀ i, i < 100 → th i = true → i ≠ s → pl i ≠ pl s := by
    intro i hi hti his w
    have := (hK.1 i hi hti).2.2.2.1
    rw [w, a4] at this
    omega
  have hkl : (kd (zo s) = 0 → sz s ≤ cl (zo s)) ∧ (kd (zo s) = 1 → sz s ≤ 64) := by
    refine ⟨y2, fun c => ?_⟩
    have := (y3 c).1
    have := (blkLen1 hg.geo hs ht).2 c
    omega
  have hnM : n ≤ mst (kd (zo s)) (cl (zo s)) := by
    unfold mst
    by_cases c0 : kd (zo s) = 0
    · rw [if_pos c0]; have := hkl.1 c0; omega
    · rw [if_neg c0]
      by_cases c1 : kd (zo s) = 1
      · rw [if_pos c1]; have := hkl.2 c1; omega
      · rw [if_neg c1]; omega
  obtain ⟨τ1, hτ1⟩ : ∃ τ1, τ1 = sA τ 6 s (nI n) := ⟨_, rfl⟩
  have mg1 : MG pg ow ln hd τ1 := by subst hτ1; exact mg
  have mz1 : MZ zn kd cl bw τ1 := by subst hτ1; exact mz
  have mb1 : MB th (fup sz s n) zo pl τ1 := by subst hτ1; exact mb.size hs
  have fin : ∀ (τ2 : SS) (l' : Nat → Nat) (d' : Nat → Int), AgQ τ1 τ2 → Tiled pg zn ow l' kd cl → OkK pg zn ow l' d' th zo pl → OkJ pg ow l' d' kd → l' (pl s) = ndl (kd (zo s)) (cl (zo s)) n → (∀ i, i < 100 → th i = true → i ≠ s → l' (pl i) = ln (pl i)) → MG pg ow l' d' τ2 → wX7_shrink_b308 (nI s) (nI (sz s - n)) τ2 Q := by
    intro τ2 l' d' ag2 hT' hK' hJ' hl' bl' mg2
    unfold wX7_shrink_b308
    refine m_resEnd (τ0 := τ) (ow' := ow) hg hs ht hnM hT' hK' hJ' hl' bl' mg2 (mz1.agq ag2) (mb1.agq ag2) (fun τ3 o3 l3 d3 hG3 mg3 mz3 mb3 ag3 mi3 => ?_)
    refine k τ3 o3 l3 d3 hG3 mg3 mz3 mb3 (fun k => ?_) (fun k k0 k1 k2 k6 => ?_) (fun k k0 => ?_) ?_ (fun k => ?_) mi3
    · rw [ag3.1 k]
      show gI τ2 k = _
      rw [ag2.1 k, hτ1]
      rfl
    · rw [ag3.2.1 k k0 k1 k2]
      show gA τ2 k = _
      rw [ag2.2.1 k k0 k1 k2, hτ1]
      exact gA_sA_ne _ _ _ k6
    · rw [ag3.2.2.1 k, gB_sBB, if_neg k0, ag2.2.2.1 k, hτ1]
      rfl
    · rw [ag3.2.2.1 0, gB_sBB_self, ag2.2.2.1 0, hτ1]
      rfl
    · rw [ag3.2.2.2 k]
      show gL τ2 k = _
      rw [ag2.2.2.2 k, hτ1]
      rfl
  have cs : (nI s).toNatClampNeg = s := nI_clamp (by omega)
  have cp : (nI (pl s)).toNatClampNeg = pl s := nI_clamp (by omega)
  have cz : (nI (zo s)).toNatClampNeg = zo s := nI_clamp (by omega)
  unfold wX7_shrink_b174
  rw [cs, cz, ← hτ1, (mz1.2 _ z1).1, q0, q1]
  refine ⟨hv, hvz, fun c1 => ⟨hvz, fun c0 => ?_, fun c0 => ⟨fun c => ?_, fun c => ⟨hvp, ?_⟩⟩⟩, fun c1 => ?_⟩
  · exact fin τ1 ln hd (AgQ.rf τ1) hT hK hJ (by unfold ndl; rw [if_pos c0]; exact (blkLen1 hg.geo hs ht).1 c0) (fun _ _ _ _ => rfl) mg1
  · have hn' : n = sz s := by
      rcases Nat.lt_or_ge n (sz s) with w | w
      · exact absurd c (nI_nle (show 0 < sz s - n by omega) (by omega))
      · omega
    refine fin τ1 ln hd (AgQ.rf τ1) hT hK hJ ?_ (fun _ _ _ _ => rfl) mg1
    unfold ndl due
    rw [if_neg c0, if_neg c0, if_neg c1, hn']
    exact y4 (by omega)
  · have hlt : n < sz s := by
      rcases Nat.lt_or_ge n (sz s) with w | w
      · exact w
      · rw [show sz s - n = 0 by omega] at c; exact absurd (by decide) c
    have hkz : 2 ≤ kd (zo s) := by omega
    have hkp : 2 ≤ kz kd (ow (pl s / 64)) := by rw [a5, kzz]; exact hkz
    have hlen := y4 hkz
    have has : 1 ≤ (if kd (zo s) = 5 then 3 else 1) := by split <;> omega
    have eL : ndl (kd (zo s)) (cl (zo s)) n = ln (pl s) - (sz s - n) := by
      unfold ndl due
      rw [if_neg c0, if_neg c0, if_neg c1, hlen]
      omega
    rw [cp, (mg1.2.2 _ a2).1, pk_sub (by omega)]
    generalize hL : ln (pl s) - (sz s - n) = L at eL
    refine m_cut mg1 a2 (by omega) (by omega) (by omega) (fun τ2 l2 d2 hc mg2 ag2 => ⟨hvp, ?_⟩)
    rcases hc with ⟨w1, -⟩ | ⟨w1, e1, e2, e3, d1, d2'⟩
    · omega
    · rw [(mg2.2.2 _ a2).1, e1, nI_add]
      obtain ⟨hK2, bl2⟩ := cutOk (ln1 := l2) (hd1 := d2) hT.2.1 hK a2 (by omega) w1 e1 e3 d1 d2'
      have hT2 : Tiled pg zn ow l2 kd cl := cutRow hT a2 (by omega) w1 hkp e1 e2 e3
      have oq := ((hT.2.1 _ a2 a3).2.2 (pl s + L) (by omega) (by omega)).2
      have dp : d2 (pl s) = s := by rw [d2' _ (by omega)]; exact a4
      have hJ2 : OkJq (fun j q => j ≠ pl s + L ∧ q ≠ pl s + L) pg ow l2 d2 kd := by
        refine ⟨fun j hj hl hf hk hn' ho hP => ?_, fun j hj hl hf hk h64 hP => ?_⟩
        · have u : j ≠ pl s := fun w => by rw [w, dp] at hf; omega
          rw [e3 j u hP.1] at hl hn' ho hP ⊢
          rw [d2' j hP.1] at hf
          rw [d2' _ hP.2]
          exact hJ.1 j hj hl hf hk hn' ho
        · have u : j ≠ pl s := fun w => by rw [w, dp] at hf; omega
          rw [e3 j u hP.1] at hl h64 hP ⊢
          rw [d2' j hP.1] at hf
          rintro ⟨v1, v2⟩
          have u2 : pair j (ln j) ≠ pl s := fun w => by rw [w, dp] at v2; omega
          rw [e3 _ u2 hP.2] at v1
          rw [d2' _ hP.2] at v2
          exact hJ.2 j hj hl hf hk h64 ⟨v1, v2⟩
      refine m_join hT2 hK2 mg2 (p := pl s + L) (z := zo s) (by omega) (by omega) (by omega) (by rw [oq]; exact a5) z1 hkz hJ2 (fun τ3 l3 hT3 hK3 mg3 ag3 bl3 hJ3 => ?_)
      refine fin τ3 l3 d2 (ag2.tr ag3) hT3 hK3 hJ3 ?_ (fun i hi hti his => (bl3 i hi hti).trans (bl2 i hi hti (hne i hi hti his))) mg3
      rw [bl3 s hs ht, e1, eL]
  · unfold wX7_shrink_b193
    have hlp := y3 c1
    have hl7 := (blkLen1 hg.geo hs ht).2 c1
    have hpw := pw_cases n
    refine m_part hT hK mg1 a2 a3 a5 c1 (by omega) (by omega) ⟨fun j a b c d e f _ => hJ.1 j a b c d e f, fun j a b c d e _ => hJ.2 j a b c d e⟩ (fun τ2 l2 d2 hT2 hK2 mg2 ag2 lp2 dp2 bl2 hJ2 => ?_)
    refine fin τ2 l2 d2 ag2 hT2 hK2 (okJblk (by rw [dp2, a4]; omega) hJ2) ?_ (fun i hi hti his => bl2 i hi hti (hne i hi hti his)) mg2
    unfold ndl due
    rw [if_neg (by omega), if_neg (by omega), if_pos c1]
    exact lp2
theorem m_shrinkB (hg : Gh pg zn ow ln hd kd cl th sz zo pl) (mg : MG pg ow ln hd τ) (mz : MZ zn kd cl bw τ) (mb : MB th sz zo pl τ) {s n : Nat} (hs : s < 100) (ht : th s = true) (hn : n ≤ sz s) {Q : Int32 → SS → Prop} (k : ∀ τ' ow' ln' hd', Gh pg zn ow' ln' hd' kd cl th (fup sz s n) zo pl → MG pg ow' ln' hd' τ' → MZ zn kd cl bw τ' → MB th (fup sz s n) zo pl τ' → (∀ k, gI τ' k = gI τ k) → (∀ k, k ≠ 0 → k ≠ 1 → k ≠ 2 → k ≠ 6 → gA τ' k = gA τ k) → (∀ k, k ≠ 0 → gB τ' k = gB τ k) → gB τ' 0 = nmM (kd (zo s)) (gB τ 0) (pl s) (ln (pl s)) (ndl (kd (zo s)) (cl (zo s)) n) (pl s + ahd (kd (zo s)) + n) (sz s - n) (bw (zo s)) → (∀ k, gL τ' k = gL τ k) → (∀ k, k < pg → (ow' k = -2 ↔ ow k = -2)) → Q (nI (sz s - n)) τ') : wX7_shrink_b110 (nI n) (nI s) (nI (zo s)) (nI (pl s)) (nI (sz s - n)) (nI n) τ Q := by
  obtain ⟨z1, z2, z3, z4, z5, z6, z7, z8, z9⟩ := blk hg hs ht
  have hend := numEnd hg hs ht
  have hv : vp_in (nI s) 100 := vp_in_nI hs (by omega)
  have hvz : vp_in (nI (zo s)) 8 := vp_in_nI (by omega) (by omega)
  have q5 : nI (kd (zo s)) = 5 ↔ kd (zo s) = 5 := nI_eq (b := 5) (by omega) (by omega)
  unfold wX7_shrink_b110
  refine lfp_inv (fun t => ∃ i : Nat, n + i ≤ sz s ∧ t = (nI (n + i), sBB τ 0 (rng (gB τ 0) (pl s + ahd (kd (zo s)) + n) i 0))) (fun t => sz s - t.1.toNatClampNeg) ⟨0, by omega, by rw [rng_0, sBB_self]; rfl⟩ ?_
  rintro t X ⟨i, hi, rfl⟩ hX
  obtain ⟨τi, hτi⟩ : ∃ τi, τi = sBB τ 0 (rng (gB τ 0) (pl s + ahd (kd (zo s)) + n) i 0) := ⟨_, rfl⟩
  rw [show ((nI (n + i), sBB τ 0 (rng (gB τ 0) (pl s + ahd (kd (zo s)) + n) i 0)) : Int32 × SS).2 = sBB τ 0 (rng (gB τ 0) (pl s + ahd (kd (zo s)) + n) i 0) from rfl, show ((nI (n + i), sBB τ 0 (rng (gB τ 0) (pl s + ahd (kd (zo s)) + n) i 0)) : Int32 × SS).1 = nI (n + i) from rfl, ← hτi]
  have mg2 : MG pg ow ln hd τi := by subst hτi; exact mg
  have mz2 : MZ zn kd cl bw τi := by subst hτi; exact mz
  have mb2 : MB th sz zo pl τi := by subst hτi; exact mb
  obtain ⟨-, e6, e7, e8⟩ := (mb2.2 s hs).1 ht
  have cz : (nI (zo s)).toNatClampNeg = zo s := nI_clamp (by omega)
  rw [nI_clamp (show s < 2 ^ 31 by omega), e6, nI_leI (by omega) (by omega), cz, (mz2.2 _ z1).1, q5]
  refine ⟨hv, fun c => ⟨hvz, fun c5 => ?_, fun c5 => ⟨hv, ?_⟩⟩, fun c => ?_⟩
  · have hin : i = sz s - n := by omega
    subst hin
    refine m_shrink174 hg mg2 mz2 mb2 hs ht hn (fun τ' o l d a1 a2 a3 a4 a5 a6 a7 a8 a9 a10 => k τ' o l d a1 a2 a3 a4 (fun k => ?_) (fun k k0 k1 k2 k6 => ?_) (fun k k0 => ?_) ?_ (fun k => ?_) a10)
    · rw [a5 k]; subst hτi; rfl
    · rw [a6 k k0 k1 k2 k6]; subst hτi; rfl
    · rw [a7 k k0, hτi, gB_sBB, if_neg k0]
    · rw [a8, hτi, gB_sBB_self]
      unfold nmM
      rw [if_neg c5]
    · rw [a9 k]; subst hτi; rfl
  · have hin : i = sz s - n := by omega
    subst hin
    have hlen := z9 (by omega)
    rw [if_pos c5] at hlen
    have el : nI (pl s) + 2 + nI (sz s) = nI (pl s + ln (pl s) - 1) := by
      rw [show (2 : Int32) = nI 2 from rfl, nI_add, nI_add]
      congr 1
      omega
    rw [el, nI_clamp (by omega)]
    refine ⟨vp_in_nI (by omega) (by omega), ?_⟩
    refine m_shrink174 (τ := sB τi 0 (pl s + ln (pl s) - 1) 0) hg mg2 mz2 mb2 hs ht hn (fun τ' o l d a1 a2 a3 a4 a5 a6 a7 a8 a9 a10 => k τ' o l d a1 a2 a3 a4 (fun k => ?_) (fun k k0 k1 k2 k6 => ?_) (fun k k0 => ?_) ?_ (fun k => ?_) a10)
    · rw [a5 k]; subst hτi; rfl
    · rw [a6 k k0 k1 k2 k6]; subst hτi; rfl
    · rw [a7 k k0, gB_sB_ne _ _ _ k0, hτi, gB_sBB, if_neg k0]
    · rw [a8, gB_sB, hτi, gB_sBB_self]
      unfold nmM
      rw [if_pos c5]
    · rw [a9 k]; subst hτi; rfl
  · have hlt : n + i < sz s := by omega
    obtain ⟨g1, g2, g3⟩ : vp_in (nI s) 100 ∧ True ∧ True := ⟨hv, trivial, trivial⟩
    have fo : ∀ R : Int32 → Prop, R (nI (pl s + ahd (kd (zo s)))) → wX7_firstOf (nI (zo s)) (nI (pl s)) τi R := by
      intro R hR
      have h1 := m_firstNumber mb2 mz2 hg hs ht (Q := R) hR
      unfold wX7_firstNumber at h1
      rw [nI_clamp (show s < 2 ^ 31 by omega), e7, e8] at h1
      exact h1.2.2
    refine fo _ ⟨?_, ?_⟩
    · rw [nI_add]
      exact vp_in_nI (by omega) (by omega)
    · rw [nI_add, nI_clamp (by omega), nI_1]
      refine hX _ ⟨i + 1, by omega, ?_⟩ ?_
      · subst hτi
        rw [sB_sBB, show pl s + ahd (kd (zo s)) + (n + i) = pl s + ahd (kd (zo s)) + n + i by omega, rng_s]
        rfl
      · show sz s - (nI (n + i + 1)).toNatClampNeg < sz s - (nI (n + i)).toNatClampNeg
        rw [nI_clamp (by omega), nI_clamp (by omega)]
        omega
end SHRM
