/-! ===== the class tidies a BUDDY, a SLAB ===== -/
section BTIDY
variable {pg zn : Nat} {ow : Nat → Int} {ln kd cl : Nat → Nat} {hd : Nat → Int} {th : Nat → Bool} {sz zo pl : Nat → Nat} {bw : Nat → Int64} {σ : SS}
/-- the end of a walk over the pages of zone z -/
theorem tidyEnd {z : Nat} (hkz : kd z < 2) {o : Nat → Int} {l : Nat → Nat} (hT0 : Tiled pg zn o l kd cl) (hK0 : OkK pg zn o l hd th zo pl) (hSz : OkSz kd cl l th sz zo pl) (hJ0 : OkJq (fun j _ => ¬ ow (j / 64) = z ∨ j / 64 < pg) pg o l hd kd) (hS0 : OkSetq (fun k => ¬ ow k = z ∨ k < pg) pg o l hd kd) : Gh pg zn o l hd kd cl th sz zo pl := by
  refine ⟨hT0, hK0, hSz, ⟨fun k hk h0 hkz => hS0.1 k hk (Or.inr hk) h0 hkz, fun k hk h0 hkz => hS0.2.1 k hk (Or.inr hk) h0 hkz, fun j hj hl hf hkz k h1 h2 => hS0.2.2 j hj hl hf hkz k (Or.inr ?_) h1 h2⟩, fun j hj hl hf hk hn ho => hJ0.1 j hj hl hf hk hn ho (Or.inr (by omega)), fun j hj hl hf hk h64 => hJ0.2 j hj hl hf hk h64 (Or.inr (by omega))⟩
  have := (hT0.2.1 j hj hl).2.1
  omega
theorem x_tidyBud {z : Nat} (hR : Rest z pg zn ow ln hd kd cl th sz zo pl) (xg : XG pg ow ln hd σ) (hzn : z < zn) (hkz : kd z = 1) {Q : SS → Prop} (k : ∀ σ' ow' ln' hd', Gh pg zn ow' ln' hd' kd cl th sz zo pl → XG pg ow' ln' hd' σ' → AgP σ σ' → (∀ s, s < 100 → th s = true → ln' (pl s) = ln (pl s)) → (∀ k, k < pg → (ow' k = -2 ↔ ow k = -2)) → Q σ') : wX0_tidy (nI z) σ Q := by
  obtain ⟨hT, hK, hSz, hJ, hSet⟩ := hR
  have hp40 := hT.1.1
  have hz8 := hT.1.2.1
  have kzz : kz kd (z : Int) = kd z := by unfold kz; rw [Int.toNat_natCast]
  unfold wX0_tidy wX0_tidy_b2 wX0_tidy_b72
  refine lfp_inv (fun t => ∃ (k : Nat) (o : Nat → Int) (l : Nat → Nat), k ≤ pg ∧ Tiled pg zn o l kd cl ∧ OkK pg zn o l hd th zo pl ∧ XG pg o l hd t.2 ∧ AgP σ t.2 ∧ (∀ s, s < 100 → th s = true → l (pl s) = ln (pl s)) ∧ OkJq (fun j _ => ¬ ow (j / 64) = z ∨ j / 64 < k) pg o l hd kd ∧ OkSetq (fun i => ¬ ow i = z ∨ i < k) pg o l hd kd ∧ (∀ i, o i = ow i ∨ (o i = -1 ∧ ow i = z)) ∧ t.1 = nI k) (fun t => pg - t.1.toNatClampNeg) ⟨0, ow, ln, by omega, hT, hK, xg, AgP.rf σ, fun _ _ _ => rfl, ⟨fun j a b c d e f g => hJ.1 j a b c d e f (g.resolve_right (by omega)), fun j a b c d e g => hJ.2 j a b c d e (g.resolve_right (by omega))⟩, ⟨fun j a b => hSet.1 j a (b.resolve_right (by omega)), fun j a b => hSet.2.1 j a (b.resolve_right (by omega)), fun j a b c d e f => hSet.2.2 j a b c d e (f.resolve_right (by omega))⟩, fun _ => Or.inl rfl, rfl⟩ ?_
  rintro ⟨t1, t2⟩ X ⟨i, o, l, hi, hT0, hK0, xg0', ag', bl, hJ0, hS0, oo, e1⟩ hX
  have e1' : t1 = nI i := e1
  subst e1'
  have xg0 : XG pg o l hd t2 := xg0'
  have ag : AgP σ t2 := ag'
  rw [show ((nI i, t2) : Int32 × SS).2 = t2 from rfl, show ((nI i, t2) : Int32 × SS).1 = nI i from rfl, xg0.1]
  refine ⟨fun c => ?_, fun c => ?_⟩
  · have : i = pg := by
      rcases Nat.lt_or_ge i pg with w | w
      · exact absurd c (nI_ge w (by omega))
      · omega
    subst this
    refine k t2 o l hd (tidyEnd (z := z) (by omega) hT0 hK0 (hSz.same bl) hJ0 hS0) xg0 ag bl (fun k hk => ?_)
    rcases oo k with v | ⟨v1, v2⟩
    · rw [v]
    · omega
  · have hlt : i < pg := by
      rcases Nat.lt_or_ge i pg with w | w
      · exact w
      · exact absurd (nI_le w (by omega)) c
    have ho := hT0.1.2.2.1 i hlt
    have hm : ∀ s : SS, pg - ((nI i + 1, s) : Int32 × SS).1.toNatClampNeg < pg - ((nI i, t2) : Int32 × SS).1.toNatClampNeg := by
      intro s
      show pg - (nI i + 1).toNatClampNeg < pg - (nI i).toNatClampNeg
      rw [nI_1, nI_clamp (by omega), nI_clamp (by omega)]
      omega
    -- one page more
    have nextJ : ∀ {o2 : Nat → Int} {l2 : Nat → Nat}, Tiled pg zn o2 l2 kd cl → (∀ i, o2 i = ow i ∨ (o2 i = -1 ∧ ow i = z)) → OkJq (fun j _ => ¬ ow (j / 64) = z ∨ j / 64 < i) pg o2 l2 hd kd → (ow i = z → 0 ≤ o2 i → NoPair l2 hd i 64) → OkJq (fun j _ => ¬ ow (j / 64) = z ∨ j / 64 < i + 1) pg o2 l2 hd kd := by
      intro o2 l2 hT2 oo2 hJ2 hno
      refine ⟨fun j hj hl hf hk hn ho hP => hJ2.1 j hj hl hf hk hn ho ?_, fun j hj hl hf hk h64 hP => ?_⟩
      · by_cases w : ow (j / 64) = z
        · exfalso
          rcases oo2 (j / 64) with v | ⟨v1, v2⟩
          · rw [v, w, kzz] at hk; omega
          · have := (hT2.2.1 j hj hl).1; omega
        · exact Or.inl w
      · by_cases w : ow (j / 64) = z
        · rcases Nat.lt_or_ge (j / 64) i with u | u
          · exact hJ2.2 j hj hl hf hk h64 (Or.inr u)
          · have hji : j / 64 = i := by omega
            rw [hji] at w
            have h0 := (hT2.2.1 j hj hl).1
            rw [hji] at h0
            exact hno w h0 j hji hl hf h64
        · exact hJ2.2 j hj hl hf hk h64 (Or.inl w)
    have nextS : ∀ {o2 : Nat → Int} {l2 : Nat → Nat}, Tiled pg zn o2 l2 kd cl → (∀ i, o2 i = ow i ∨ (o2 i = -1 ∧ ow i = z)) → OkSetq (fun j => ¬ ow j = z ∨ j < i) pg o2 l2 hd kd → (ow i = z → 0 ≤ o2 i → ¬ (l2 (64 * i) = 64 ∧ hd (64 * i) < 0)) → OkSetq (fun j => ¬ ow j = z ∨ j < i + 1) pg o2 l2 hd kd := by
      intro o2 l2 hT2 oo2 hS2 hno
      have kill : ∀ j, 0 ≤ o2 j → ow j = z → ¬ kz kd (o2 j) = 1 → False := by
        intro j h0 w hk
        rcases oo2 j with v | ⟨v1, v2⟩
        · rw [v, w, kzz] at hk; exact hk hkz
        · omega
      refine ⟨fun j hj hP h0 hk => hS2.1 j hj (Or.inl (fun w => kill j h0 w (by omega))) h0 hk, fun j hj hP h0 hk => ?_, fun j hj hl hf hk a hP h1 h2 => hS2.2.2 j hj hl hf hk a (Or.inl (fun w => ?_)) h1 h2⟩
      · by_cases w : ow j = z
        · rcases Nat.lt_or_ge j i with u | u
          · exact hS2.2.1 j hj (Or.inr u) h0 hk
          · have hji : j = i := by omega
            subst hji
            exact hno w h0
        · exact hS2.2.1 j hj (Or.inl w) h0 hk
      · obtain ⟨t1, t2, t3⟩ := hT2.2.1 j hj hl
        have hoa : o2 a = o2 (j / 64) := by
          rcases Nat.lt_or_ge j (64 * a) with u | u
          · have := (t3 (64 * a) u (by omega)).2
            rw [show 64 * a / 64 = a by omega] at this
            exact this
          · rw [show j / 64 = a by omega]
        exact kill a (by omega) w (by rw [hoa]; omega)
    refine ⟨vp_in_nI (by omega) (by omega), ?_⟩
    rw [nI_clamp (by omega), xg0.2.1 i hlt]
    refine ⟨fun c2 => ?_, fun c2 => ?_⟩
    · have hne : ¬ o i = z := fun w => c2 (by rw [w, iI_nat])
      refine hX _ ⟨i + 1, o, l, by omega, hT0, hK0, xg0, ag, bl, nextJ hT0 oo hJ0 (fun w h0 => ?_), nextS hT0 oo hS0 (fun w h0 => ?_), oo, ?_⟩ (hm _)
      · exfalso
        rcases oo i with v | ⟨v1, v2⟩
        · exact hne (v.trans w)
        · omega
      · exfalso
        rcases oo i with v | ⟨v1, v2⟩
        · exact hne (v.trans w)
        · omega
      · show nI i + 1 = _
        rw [nI_1]
    · have hoz : o i = z := by
        rw [nI_iI z, iI_eq (by omega) (by omega) (by omega) (by omega)] at c2
        exact c2
      have hk1 : kz kd (o i) = 1 := by rw [hoz, kzz]; exact hkz
      rw [show nI i * 64 = nI (64 * i) from by rw [show (64 : Int32) = nI 64 from rfl, pk_mul, Nat.mul_comm]]
      refine x_joinPairs hT0 hK0 xg0 hlt (by omega) hk1 (fun σ3 l3 hT3 hK3 xg3 ag3 bl3 oz3 np3 => x_pieceAt xg3 hp40 (by omega) ?_)
      have hJ3 : OkJq (fun j _ => ¬ ow (j / 64) = z ∨ j / 64 < i) pg o l3 hd kd := by
        refine ⟨fun j hj hl hf hk hn ho hP => ?_, fun j hj hl hf hk h64 hP => ?_⟩
        · have hji : j / 64 ≠ i := fun w => by rw [w] at hk; omega
          rw [oz3 j hji] at hl hn ho ⊢
          exact hJ0.1 j hj hl hf hk hn ho hP
        · by_cases hji : j / 64 = i
          · exact np3 j hji hl hf h64
          · have hpp := pair_page hT3.2.2.2.1 hj hl (hT3.2.1 j hj hl).1 hk h64
            rw [oz3 j hji] at hl h64 hpp ⊢
            rw [oz3 _ (by rw [hpp]; exact hji)]
            exact hJ0.2 j hj hl hf hk h64 hP
      have hS3 : OkSetq (fun j => ¬ ow j = z ∨ j < i) pg o l3 hd kd := by
        have hiz : ow i = z := by
          rcases oo i with v | ⟨v1, v2⟩
          · rw [← v]; exact hoz
          · omega
        refine ⟨fun j hj hP h0 hk => ?_, fun j hj hP h0 hk => ?_, fun j hj hl hf hk a hP h1 h2 => ?_⟩
        · obtain ⟨x, x1, x2, x3⟩ := hS0.1 j hj hP h0 hk
          exact ⟨x, x1, by rw [oz3 _ (fun w => by rw [show (64 * j + x) / 64 = j by omega] at w; rw [w] at hk; omega)]; exact x2, x3⟩
        · rw [oz3 _ (fun w => by
            rw [show 64 * j / 64 = j by omega] at w
            subst w
            rcases hP with v | v
            · exact v hiz
            · omega)]
          exact hS0.2.1 j hj hP h0 hk
        · have hji : j / 64 ≠ i := fun w => by rw [w] at hk; omega
          rw [oz3 j hji] at hl h2
          exact hS0.2.2 j hj hl hf hk a hP h1 h2
      have bl4 : ∀ s, s < 100 → th s = true → l3 (pl s) = ln (pl s) := fun s hs ht => (bl3 s hs ht).trans (bl s hs ht)
      refine ⟨fun c3 => ?_, fun c3 => ?_⟩
      · have hne : ¬ (l3 (64 * i) = 64 ∧ hd (64 * i) < 0) := fun w => c3 ((mk_eq (n := 64) hp40 hT3.2.1 hK3 (by omega) (by omega) (by omega)).mpr w)
        refine hX _ ⟨i + 1, o, l3, by omega, hT3, hK3, xg3, ag.tr ag3, bl4, nextJ hT3 oo hJ3 (fun _ _ => np3), nextS hT3 oo hS3 (fun _ _ => hne), oo, ?_⟩ (hm _)
        show nI i + 1 = _
        rw [nI_1]
      · have q := (mk_eq (n := 64) hp40 hT3.2.1 hK3 (by omega) (by omega) (by omega)).mp c3
        refine x_mark (by omega) ⟨vp_in_nI (by omega) (by omega), ?_⟩
        obtain ⟨t1, t2', t3⟩ := hT3.2.1 (64 * i) (by omega) (by omega)
        obtain ⟨o4, ho4⟩ : ∃ o4 : Nat → Int, o4 = fun j => if j = i then -1 else o j := ⟨_, rfl⟩
        obtain ⟨l4, hl4⟩ : ∃ l4 : Nat → Nat, l4 = fun j => if j / 64 = i then 0 else l3 j := ⟨_, rfl⟩
        have g : Drop pg o l3 hd kd o4 l4 i := by
          refine ⟨⟨hlt, by omega, by omega, fun j hj hl => ?_⟩, ?_, fun j hj => ?_, fun j hj => ?_, fun j hj => ?_⟩
          · by_cases w : j = 64 * i
            · rw [w]; exact q.2
            · have := (t3 j (by omega) (by omega)).1; omega
          · rw [ho4]; exact if_pos rfl
          · rw [ho4]; exact if_neg hj
          · rw [hl4]; exact if_pos hj
          · rw [hl4]; exact if_neg hj
        obtain ⟨hK4, bl5⟩ := g.ok hK3
        have oo4 : ∀ j, o4 j = ow j ∨ (o4 j = -1 ∧ ow j = z) := by
          intro j
          by_cases w : j = i
          · right
            refine ⟨by rw [w]; exact g.2.1, ?_⟩
            rw [w]
            rcases oo i with v | ⟨v1, v2⟩
            · rw [← v]; exact hoz
            · omega
          · rw [g.2.2.1 j w]; exact oo j
        have hT4 := g.til hT3
        have hS4 := g.set hT3.2.1 hS3
        refine hX _ ⟨i + 1, o4, l4, by omega, hT4, hK4, ?_, ((ag.tr ag3).tr (AgP.m1 _ _ _)).tr (AgP.m0 _ _ _), fun s hs ht => (bl5 s hs ht).trans (bl4 s hs ht), nextJ hT4 oo4 (g.jn hT3 hJ3) (fun _ h0 => by rw [g.2.1] at h0; omega), nextS hT4 oo4 ⟨fun j a b => hS4.1 j a (Or.inl b), fun j a b => hS4.2.1 j a (Or.inl b), fun j a b c d e f => hS4.2.2 j a b c d e (Or.inl f)⟩ (fun _ h0 => by rw [g.2.1] at h0; omega), oo4, ?_⟩ (hm _)
        · obtain ⟨x1, x2, x3⟩ := xg3
          refine ⟨x1, fun j hj => ?_, fun j hj => ?_⟩
          · show upd (gA σ3 0) i (-1) j = _
            unfold upd
            by_cases w : j = i
            · rw [if_pos w, w, g.2.1]; rfl
            · rw [if_neg w, g.2.2.1 j w]; exact x2 j hj
          · show upd (gA σ3 1) (64 * i) 0 j = _
            unfold upd
            by_cases w : j = 64 * i
            · rw [if_pos w, g.2.2.2.1 j (by omega)]
              rfl
            · rw [if_neg w, x3 j hj]
              by_cases w2 : j / 64 = i
              · rw [g.2.2.2.1 j w2, (t3 j (by omega) (by omega)).1]
              · rw [g.2.2.2.2 j w2]
        · show nI i + 1 = _
          rw [nI_1]
end BTIDY
