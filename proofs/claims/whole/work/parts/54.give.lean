/-! ===== give ===== -/
/-- the keeper of a kind -/
def kp (k : Nat) : Nat := if k = 0 then 0 else if k = 1 then 1 else 2
section GIVE
variable {pg zn : Nat} {ow ow' : Nat → Int} {ln ln' kd cl : Nat → Nat} {hd hd' : Nat → Int} {th th' : Nat → Bool} {sz zo pl : Nat → Nat} {bw : Nat → Int64} {σ τ : SS}
theorem x_keeperOf (xz : XZ zn kd cl bw σ) (hz8 : zn ≤ 8) {z : Nat} (hz : z < zn) (hk5 : kd z ≤ 5) {Q : Nat → Prop} (k : Q (kp (kd z))) : wX6_keeperOf (nI z) σ Q := by
  unfold wX6_keeperOf
  refine x_kindOf xz hz8 hz ⟨fun c => ?_, fun c => ?_, fun c => ?_⟩
  · have : kd z = 0 := (nI_eq (b := 0) (by omega) (by omega)).mp c
    unfold kp at k
    rw [if_pos this] at k
    exact k
  · have : kd z = 1 := (nI_eq (b := 1) (by omega) (by omega)).mp c
    unfold kp at k
    rw [if_neg (by omega), if_pos this] at k
    exact k
  · have h0 : ¬ kd z = 0 := fun w => c.1 (by rw [w]; rfl)
    have h1 : ¬ kd z = 1 := fun w => c.2 (by rw [w]; rfl)
    unfold kp at k
    rw [if_neg h0, if_neg h1] at k
    exact k
theorem x_tidyK {z : Nat} (hR : Rest z pg zn ow ln hd kd cl th sz zo pl) (xg : XG pg ow ln hd σ) (xz : XZ zn kd cl bw σ) (xb : XB ln th sz zo pl σ) (hzn : z < zn) {Q : SS → Prop} (k : ∀ σ' ow' ln' hd', Gh pg zn ow' ln' hd' kd cl th sz zo pl → XG pg ow' ln' hd' σ' → AgP σ σ' → (∀ s, s < 100 → th s = true → ln' (pl s) = ln (pl s)) → (∀ k, k < pg → (ow' k = -2 ↔ ow k = -2)) → Q σ') : wK_tidy (kp (kd z)) (nI z) σ Q := by
  unfold kp
  by_cases h0 : kd z = 0
  · rw [if_pos h0]
    exact x_tidySlab hR xg xz hzn h0 k
  · rw [if_neg h0]
    by_cases h1 : kd z = 1
    · rw [if_pos h1]
      exact x_tidyBud hR xg hzn h1 k
    · rw [if_neg h1]
      exact x_tidyRow hR xg xb hzn (by omega) k
/-- class and reference came to states of the same blocks -/
theorem RS.fin {ow1 ow2 : Nat → Int} {ln1 ln2 : Nat → Nat} {hd1 hd2 : Nat → Int} (h1 : Gh pg zn ow1 ln1 hd1 kd cl th sz zo pl) (xg : XG pg ow1 ln1 hd1 σ) (xz : XZ zn kd cl bw σ) (xb : XB ln1 th sz zo pl σ) (h2 : Gh pg zn ow2 ln2 hd2 kd cl th sz zo pl) (mg : MG pg ow2 ln2 hd2 τ) (mz : MZ zn kd cl bw τ) (mb : MB th sz zo pl τ) (hm : ∀ k, k < pg → (ow1 k = -2 ↔ ow2 k = -2)) (raw : Raw σ τ) : RS σ τ := by
  have u2 := uni2 h1 h2 (fun k hk => (hm k hk).symm)
  have u1 := uni1 h1.geo h2.geo u2
  refine ⟨pg, zn, ow1, ln1, hd1, kd, cl, bw, th, sz, zo, pl, h1, ⟨xg, xz, xb⟩, ⟨⟨mg.1, fun k hk => ?_, fun j hj => ⟨?_, fun hl => ?_⟩⟩, mz, mb⟩, raw⟩
  · rw [← u2 k hk]; exact mg.2.1 k hk
  · rw [← (u1 j hj).1]; exact (mg.2.2 j hj).1
  · rw [← (u1 j hj).2 hl]
    exact (mg.2.2 j hj).2 (by rw [(u1 j hj).1]; exact hl)
/-- a block's piece is free -/
theorem flipRest (hg : Gh pg zn ow ln hd kd cl th sz zo pl) {s : Nat} (hs : s < 100) (ht : th s = true) (d1 : hd' (pl s) = -1) (d2 : ∀ j, j ≠ pl s → hd' j = hd j) (t1 : th' s = false) (t2 : ∀ i, i ≠ s → th' i = th i) : Rest (zo s) pg zn ow ln hd' kd cl th' sz zo pl ∧ OkJq (fun j q => j ≠ pl s ∧ q ≠ pl s) pg ow ln hd' kd := by
  obtain ⟨hT, hK, hSz, hSet, hJ⟩ := hg
  obtain ⟨a1, a2, a3, a4, a5⟩ := hK.1 s hs ht
  have hlt : ∀ i, th' i = true → i ≠ s ∧ th i = true := by
    intro i hi
    by_cases w : i = s
    · rw [w, t1] at hi; exact absurd hi (by decide)
    · exact ⟨w, by rw [← t2 i w]; exact hi⟩
  have hne : ∀ i, i < 100 → i ≠ s → th i = true → pl i ≠ pl s := by
    intro i hi his hti w
    have := (hK.1 i hi hti).2.2.2.1
    rw [w, a4] at this
    omega
  have hK' : OkK pg zn ow ln hd' th' zo pl := by
    refine ⟨fun i hi hti => ?_, fun j hj hl => ?_⟩
    · obtain ⟨w1, w2⟩ := hlt i hti
      rw [d2 _ (hne i hi w1 w2)]
      exact hK.1 i hi w2
    · by_cases w : j = pl s
      · rw [w]; exact Or.inl d1
      · rw [d2 j w]
        rcases hK.2 j hj hl with u | ⟨u1, u2, u3, u4⟩
        · exact Or.inl u
        · right
          refine ⟨u1, u2, ?_, u4⟩
          rw [t2 _ (fun v => by rw [v] at u4; exact w u4.symm)]
          exact u3
  have hneg : ∀ j, j ≠ pl s → hd' j < 0 → hd j < 0 := fun j w h => by rw [d2 j w] at h; exact h
  refine ⟨⟨hT, hK', fun i hi hti => hSz i hi (hlt i hti).2, ⟨fun j hj hl hf hk hn ho hP => ?_, fun j hj hl hf hk h64 hP => ?_⟩, ⟨fun k hk hP h0 hz => ?_, fun k hk hP h0 hz => ?_, fun j hj hl hf hz k hP h1 h2 => ?_⟩⟩, ⟨fun j hj hl hf hk hn ho hP => ?_, fun j hj hl hf hk h64 hP => ?_⟩⟩
  · have w1 : j ≠ pl s := fun w => hP (by rw [w]; exact a5)
    have w2 : j + ln j ≠ pl s := fun w => by rw [w, a5] at ho; exact hP ho.symm
    rw [d2 _ w2]
    exact hJ.1 j hj hl (hneg j w1 hf) hk hn ho
  · have w1 : j ≠ pl s := fun w => hP (by rw [w]; exact a5)
    have hpp := pair_page hT.2.2.2.1 hj hl (hT.2.1 j hj hl).1 hk h64
    have w2 : pair j (ln j) ≠ pl s := fun w => by rw [w] at hpp; exact hP (by rw [← hpp]; exact a5)
    rw [d2 _ w2]
    exact hJ.2 j hj hl (hneg j w1 hf) hk h64
  · obtain ⟨i, i1, i2, i3⟩ := hSet.1 k hk h0 hz
    exact ⟨i, i1, i2, by rw [d2 _ (fun w => hP (by rw [← a5, ← w, show (64 * k + i) / 64 = k by omega]))]; exact i3⟩
  · rw [d2 _ (fun w => hP (by rw [← a5, ← w, show 64 * k / 64 = k by omega]))]
    exact hSet.2.1 k hk h0 hz
  · obtain ⟨t1, t2, t3⟩ := hT.2.1 j hj hl
    have hok : ow k = ow (j / 64) := by
      rcases Nat.lt_or_ge j (64 * k) with u | u
      · have := (t3 (64 * k) u (by omega)).2
        rw [show 64 * k / 64 = k by omega] at this
        exact this
      · rw [show j / 64 = k by omega]
    have w1 : j ≠ pl s := fun w => hP (by rw [hok, w]; exact a5)
    exact hSet.2.2 j hj hl (hneg j w1 hf) hz k h1 h2
  · rw [d2 _ hP.2]
    exact hJ.1 j hj hl (hneg j hP.1 hf) hk hn ho
  · rw [d2 _ hP.2]
    exact hJ.2 j hj hl (hneg j hP.1 hf) hk h64
theorem cnt_congr {P P' : Nat → Bool} {n : Nat} (h : ∀ i, i < n → P' i = P i) : cnt P' n = cnt P n := by
  induction n with
  | zero => rfl
  | succ n ih => rw [cnt_step, cnt_step, ih (fun i hi => h i (by omega)), h n (by omega)]
theorem cnt_off {P P' : Nat → Bool} {n s : Nat} (hs : s < n) (h1 : P s = true) (h2 : P' s = false) (h3 : ∀ i, i ≠ s → P' i = P i) : cnt P n = cnt P' n + 1 := by
  induction n with
  | zero => omega
  | succ n ih =>
    rw [cnt_step, cnt_step]
    by_cases e : s = n
    · subst e
      rw [h1, h2, if_pos rfl, if_neg (by decide), cnt_congr (P := P) (P' := P') (fun i hi => h3 i (by omega))]
    · rw [ih (by omega), h3 n (fun w => e w.symm)]
      omega
end GIVE
theorem s_give : stp_give II := by
  intro κ σx σm x1 h
  obtain ⟨a, ha, rfl⟩ := ex_iI x1
  obtain ⟨⟨pg, zn, ow, ln, hd, kd, cl, bw, th, sz, zo, pl, hg⟩, h2, h4⟩ := id h
  obtain ⟨g1, ⟨xg, xz, xb⟩, ⟨mg, mz, mb⟩, hraw⟩ := id hg
  have ef := fnd_congr (gv := gA σx 3) (gv' := gA σm 4) th a hraw.1
  unfold wX6_give
  refine x_ask g1 xb ha (fun n e n1 n2 => ?_) (fun s e s1 s2 => ?_)
  · rw [ef] at e ⊢
    unfold wX7_give wX7_give_b18 wX7_give_b31 wX7_give_b42
    refine m_look mb ha ?_
    rw [if_pos (by omega)]
    refine ⟨fun c => absurd c (by rw [l_0, e, iI_le (by omega) (by omega) (by omega) (by omega)]; omega), fun _ => ⟨fun _ => ⟨fun c => absurd c (by rw [l_0, e, iI_le (by omega) (by omega) (by omega) (by omega)]; omega), fun _ => ?_⟩, fun c => absurd (by rw [l_0, e, iI_lt (by omega) (by omega) (by omega) (by omega)]; omega) c⟩⟩
    rw [e]
    exact m_answer n1 n2 ⟨rfl, h.ans n⟩
  · rw [ef] at e
    obtain ⟨z1, z2, z3, z4, z5, z6, z7, z8, z9⟩ := blk g1 s1 s2
    obtain ⟨a1, a2, a3, a4, a5⟩ := g1.2.1.1 s s1 s2
    have hv : vp_in (nI s) 100 := vp_in_nI s1 (by omega)
    have er := handleRem ha e
    have hsp : spw (kd (zo s)) (gB σx 0) (bw (zo s)) (pl s) (ln (pl s)) = spw (kd (zo s)) (gB σm 0) (bw (zo s)) (pl s) (ln (pl s)) := by
      by_cases h5 : kd (zo s) = 5
      · have h9 := z9 (by omega)
        rw [if_pos h5] at h9
        exact spw_congr (by omega) (by omega) hraw.2.1
      · unfold spw; rw [if_neg h5, if_neg h5]
    have hsl := spw_le (kd (zo s)) (gB σm 0) (bw (zo s)) (pl s) (ln (pl s))
    obtain ⟨hd', hhd⟩ : ∃ hd' : Nat → Int, hd' = fun j => if j = pl s then -1 else hd j := ⟨_, rfl⟩
    obtain ⟨th', hth⟩ : ∃ th' : Nat → Bool, th' = fun i => if i = s then false else th i := ⟨_, rfl⟩
    have d1 : hd' (pl s) = -1 := by rw [hhd]; exact if_pos rfl
    have d2 : ∀ j, j ≠ pl s → hd' j = hd j := fun j hj => by rw [hhd]; exact if_neg hj
    have t1 : th' s = false := by rw [hth]; exact if_pos rfl
    have t2 : ∀ i, i ≠ s → th' i = th i := fun i hi => by rw [hth]; exact if_neg hi
    obtain ⟨hRest, hJe⟩ := flipRest g1 s1 s2 d1 d2 t1 t2
    have hcnt := cnt_off (P := th) (P' := th') s1 s2 t1 t2
    -- the reference
    have mk : ∀ (r : Int32) (σ' : SS), (¬ spw (kd (zo s)) (gB σm 0) (bw (zo s)) (pl s) (ln (pl s)) = 0 → r = iI (-8) ∧ II κ σ' (ansM σm 8)) → (spw (kd (zo s)) (gB σm 0) (bw (zo s)) (pl s) (ln (pl s)) = 0 → ∀ τ' ow' ln' hd'', Gh pg zn ow' ln' hd'' kd cl th' sz zo pl → MG pg ow' ln' hd'' τ' → AgQ (sBB (sI (sA σm 5 s 0) 2 (nI (cnt th' 100))) 0 (rng (gB σm 0) (pl s) (ln (pl s)) 0)) τ' → (∀ k, k < pg → (ow' k = -2 ↔ ow k = -2)) → r = nI (sz s) ∧ II κ σ' τ') → wX7_give (iI a) σm (fun r' τ' => r = r' ∧ II κ σ' τ') := by
      intro r σ' k1 k2
      unfold wX7_give wX7_give_b18 wX7_give_b31 wX7_give_b42
      refine m_look mb ha ?_
      rw [if_neg (by omega), er]
      refine ⟨fun _ => ⟨fun c => absurd c (by decide), fun _ => m_spoilt mb mz g1 s1 s2 ⟨fun c => ?_, fun c => ⟨fun _ => ?_, fun c2 => absurd (by decide) c2⟩⟩⟩, fun c => absurd (by decide) c⟩
      · have hs0 : spw (kd (zo s)) (gB σm 0) (bw (zo s)) (pl s) (ln (pl s)) = 0 := (nI_eq (b := 0) (by omega) (by omega)).mp c
        have e5 : vp_nar .boolean (0 : Int32) = 0 := nar_bool (Or.inl rfl)
        rw [nI_clamp (by omega), e5]
        have eg : gI (sA σm 5 s 0) 2 - 1 = nI (cnt th' 100) := by
          show gI σm 2 - 1 = _
          rw [mb.1, hcnt]
          exact nI_pred _
        rw [eg]
        obtain ⟨τ1, hτ1⟩ : ∃ τ1, τ1 = sI (sA σm 5 s 0) 2 (nI (cnt th' 100)) := ⟨_, rfl⟩
        have hB1 : gB τ1 0 = gB σm 0 := by subst hτ1; rfl
        rw [← hτ1] at k2 ⊢
        have e7 : gA τ1 7 s = nI (zo s) := by subst hτ1; exact ((mb.2 s s1).1 s2).2.2.1
        have e8 : gA τ1 8 s = nI (pl s) := by subst hτ1; exact ((mb.2 s s1).1 s2).2.2.2
        have e6 : gA τ1 6 s = nI (sz s) := by subst hτ1; exact ((mb.2 s s1).1 s2).2.1
        have mgx : MGx (pl s) pg ow ln hd' τ1 := by
          subst hτ1
          exact ⟨mg.1, mg.2.1, fun j hj => ⟨(mg.2.2 j hj).1, fun hl hne => by rw [d2 j hne]; exact (mg.2.2 j hj).2 hl⟩⟩
        have mz1 : MZ zn kd cl bw τ1 := by subst hτ1; exact mz
        rw [e7, e8]
        refine ⟨hv, hv, hv, m_release hRest.1 hRest.2.1 mgx mz1 a2 a3 (by omega) a5 a1 hJe (fun τ2 l2 hT2 hK2 mg2 ag2 bl2 hJ2 => ?_)⟩
        rw [hB1] at ag2
        have mz2 : MZ zn kd cl bw τ2 := (show MZ zn kd cl bw (sBB τ1 0 (rng (gB σm 0) (pl s) (ln (pl s)) 0)) from mz1).agq ag2
        refine m_settle hT2 hK2 (hRest.2.2.1.same bl2) hJ2 mg2 mz2 (fun τ3 o3 l3 d3 hG3 mg3 ag3 bl3 mi3 => ⟨hv, ?_⟩)
        have e63 : gA τ3 6 s = nI (sz s) := by
          rw [ag3.2.1 6 (by omega) (by omega) (by omega), ag2.2.1 6 (by omega) (by omega) (by omega)]
          exact e6
        rw [e63]
        exact k2 hs0 τ3 o3 l3 d3 hG3 mg3 (ag2.tr ag3) mi3
      · rw [l_m8]
        exact m_answer (n := 8) (by omega) (by omega) (k1 (fun w => c (by rw [w]; rfl)))
    refine x_spoiledWords xb xz g1 s1 s2 ⟨fun c => ?_, fun c => ?_⟩
    · rw [hsp] at c
      have hs0 : spw (kd (zo s)) (gB σm 0) (bw (zo s)) (pl s) (ln (pl s)) = 0 := (nI_eq (b := 0) (by omega) (by omega)).mp c
      obtain ⟨x4, x5, x6, x7⟩ := (xb s s1).1 s2
      rw [nI_clamp (by omega), x4, x5, x6]
      refine ⟨hv, hv, hv, ?_⟩
      unfold wX3_vacate
      refine x_setNumbers (by omega) (x_mark (by omega) ⟨hv, ?_⟩)
      obtain ⟨σ1, hσ1⟩ : ∃ σ1, σ1 = sA (sA (sBB σx 0 (rng (gB σx 0) (pl s) (ln (pl s)) 0)) 1 (pl s) (nI (ln (pl s)))) 4 s (-1) := ⟨_, rfl⟩
      rw [← hσ1]
      have xg1 : XG pg ow ln hd' σ1 := by
        subst hσ1
        refine ⟨xg.1, xg.2.1, fun j hj => ?_⟩
        show upd (gA σx 1) (pl s) (nI (ln (pl s))) j = _
        unfold upd
        by_cases w : j = pl s
        · rw [if_pos w, w, d1]
          unfold mkI
          rw [if_neg (by omega), if_pos (by omega), nI_iI]
        · rw [if_neg w, d2 j w]; exact xg.2.2 j hj
      have xz1 : XZ zn kd cl bw σ1 := by subst hσ1; exact xz
      have xb1 : XB ln th' sz zo pl σ1 := by
        subst hσ1
        intro i hi
        show (_ → upd (gA σx 4) s (-1) i = _ ∧ gA σx 5 i = _ ∧ gA σx 6 i = _ ∧ gA σx 7 i = _) ∧ (_ → upd (gA σx 4) s (-1) i = _)
        unfold upd
        by_cases w : i = s
        · rw [if_pos w]
          refine ⟨fun hti => ?_, fun _ => rfl⟩
          rw [w, t1] at hti
          exact absurd hti (by decide)
        · rw [if_neg w, t2 i w]
          exact xb i hi
      refine x_keeperOf xz1 z2 z1 z3 (x_tidyK hRest xg1 xz1 xb1 z1 (fun σ2 o2 l2 d2' hG2 xg2 ag2 bl2 mi2 => ⟨hv, ?_⟩))
      have e7 : gA σ2 7 s = nI (sz s) := by
        rw [ag2.2.1 7 (by omega) (by omega), hσ1]
        exact x7
      rw [e7]
      refine mk _ _ (fun w => absurd hs0 w) (fun _ τ' o3 l3 d3 hG3 mg3 ag3 mi3 => ⟨rfl, ?_, ⟨fun k hk => ?_, ?_⟩, h4.ag ⟨ag3.1 3, ?_⟩⟩)
      · have ez : ∀ i, gI (sBB (sI (sA σm 5 s 0) 2 (nI (cnt th' 100))) 0 (rng (gB σm 0) (pl s) (ln (pl s)) 0)) i = if i = 2 then nI (cnt th' 100) else gI σm i := fun i => rfl
        refine RS.fin hG2 xg2 (xz1.agp ag2) (xb1.agp ag2 bl2) hG3 mg3 ?_ ?_ (fun k hk => (mi2 k hk).trans (mi3 k hk).symm) ⟨fun i hi => ?_, fun j hj => ?_, fun k hk => ?_⟩
        · exact (show MZ zn kd cl bw (sBB (sI (sA σm 5 s 0) 2 (nI (cnt th' 100))) 0 (rng (gB σm 0) (pl s) (ln (pl s)) 0)) from mz).agq ag3
        · refine MB.agq ?_ ag3
          refine ⟨rfl, fun i hi => ?_⟩
          show (_ → upd (gA σm 5) s 0 i = 1 ∧ gA σm 6 i = _ ∧ gA σm 7 i = _ ∧ gA σm 8 i = _) ∧ (_ → upd (gA σm 5) s 0 i = 0)
          unfold upd
          by_cases w : i = s
          · rw [if_pos w]
            refine ⟨fun hti => ?_, fun _ => rfl⟩
            rw [w, t1] at hti
            exact absurd hti (by decide)
          · rw [if_neg w, t2 i w]
            exact mb.2 i hi
        · rw [ag2.2.1 3 (by omega) (by omega), ag3.2.1 4 (by omega) (by omega) (by omega), hσ1]
          exact hraw.1 i hi
        · rw [ag2.2.2.1 0, ag3.2.2.1 0, hσ1]
          exact rng_congr hraw.2.1 j hj
        · rw [ag2.2.1 8 (by omega) (by omega), ag3.2.1 9 (by omega) (by omega) (by omega), hσ1]
          exact hraw.2.2 k hk
      · rw [ag2.2.1 11 (by omega) (by omega), ag3.2.1 10 (by omega) (by omega) (by omega), hσ1]
        exact h2.1 k hk
      · rw [ag2.2.2.2 0, ag3.2.2.2 0, hσ1]
        exact h2.2
      · unfold kview
        rw [ag3.1 4, ag3.1 5, ag3.1 6, ag3.2.1 11 (by omega) (by omega) (by omega), ag3.2.1 12 (by omega) (by omega) (by omega), ag3.2.1 13 (by omega) (by omega) (by omega), ag3.2.1 14 (by omega) (by omega) (by omega), ag3.2.1 15 (by omega) (by omega) (by omega), ag3.2.1 16 (by omega) (by omega) (by omega), ag3.2.1 17 (by omega) (by omega) (by omega), ag3.2.1 18 (by omega) (by omega) (by omega), ag3.2.1 19 (by omega) (by omega) (by omega), ag3.2.1 20 (by omega) (by omega) (by omega), ag3.2.2.1 2, ag3.2.2.1 3]
        rfl
    · rw [hsp] at c
      rw [l_m8]
      exact x_tell (n := 8) (by omega) (by omega) (mk _ _ (fun _ => ⟨rfl, h.ans 8⟩) (fun w => absurd (by rw [w]; rfl) c))
