/-! ===== a page of a SLAB or a BUDDY goes; the class tidies a BUDDY ===== -/
section DROP
variable {pg zn : Nat} {ow ow' : Nat → Int} {ln ln' kd cl : Nat → Nat} {hd : Nat → Int} {th : Nat → Bool} {sz zo pl : Nat → Nat} {bw : Nat → Int64} {σ : SS}
theorem inPage (h : Tiled pg zn ow ln kd cl) {j : Nat} (hj : j < 64 * pg) (hl : 0 < ln j) (hkz : kz kd (ow (j / 64)) < 2) : j % 64 + ln j ≤ 64 := by
  obtain ⟨hZ, hT, hS, hB, hR⟩ := h
  have h0 := (hT j hj hl).1
  by_cases k0 : kz kd (ow (j / 64)) = 0
  · have hs := hS (j / 64) (by omega) h0 k0 (j % 64) (by omega)
    rw [show 64 * (j / 64) + j % 64 = j by omega] at hs
    by_cases c : 1 ≤ j % 64 ∧ (j % 64 - 1) % cl (ow (j / 64)).toNat = 0 ∧ j % 64 + cl (ow (j / 64)).toNat ≤ 64
    · rw [if_pos c] at hs; omega
    · rw [if_neg c] at hs; omega
  · exact (bud hB hj hl h0 (by omega)).2.2.1
/-- page k goes: it was all free -/
def Drop (pg : Nat) (ow : Nat → Int) (ln : Nat → Nat) (hd : Nat → Int) (kd : Nat → Nat) (ow' : Nat → Int) (ln' : Nat → Nat) (k : Nat) : Prop := (k < pg ∧ 0 ≤ ow k ∧ kz kd (ow k) < 2 ∧ ∀ j, j / 64 = k → 0 < ln j → hd j < 0) ∧ ow' k = -1 ∧ (∀ i, i ≠ k → ow' i = ow i) ∧ (∀ j, j / 64 = k → ln' j = 0) ∧ ∀ j, j / 64 ≠ k → ln' j = ln j
theorem Drop.til {k : Nat} (g : Drop pg ow ln hd kd ow' ln' k) (h : Tiled pg zn ow ln kd cl) : Tiled pg zn ow' ln' kd cl := by
  obtain ⟨⟨g1, g2, g3, g4⟩, o1, o2, e1, e2⟩ := g
  refine dropPages h (a := k) (b := k + 1) (by omega) (by omega) (fun j hj hl j1 j2 => ?_) (fun j hj hl => ?_) (fun i i1 i2 => by rw [show i = k by omega]; exact o1) (fun i hi => o2 i (by omega)) (fun j j1 j2 => e1 j (by omega)) (fun j hj => e2 j (by omega))
  · have := inPage h hj hl (by rw [show j / 64 = k by omega]; exact g3)
    omega
  · rcases Nat.lt_or_ge (64 * k) (j + ln j) with u | u
    · exfalso
      have := ((h.2.1 j (by omega) hl).2.2 (64 * k) hj u).2
      rw [show 64 * k / 64 = k by omega] at this
      have := inPage h (by omega) hl (by rw [← this]; exact g3)
      omega
    · exact u
theorem Drop.ok {k : Nat} (g : Drop pg ow ln hd kd ow' ln' k) (hK : OkK pg zn ow ln hd th zo pl) : OkK pg zn ow' ln' hd th zo pl ∧ ∀ s, s < 100 → th s = true → ln' (pl s) = ln (pl s) := by
  obtain ⟨⟨g1, g2, g3, g4⟩, o1, o2, e1, e2⟩ := g
  have key : ∀ s, s < 100 → th s = true → pl s / 64 ≠ k := by
    intro s hs ht w
    obtain ⟨k1, k2, k3, k4, k5⟩ := hK.1 s hs ht
    have := g4 (pl s) w k3
    omega
  refine ⟨⟨fun s hs ht => ?_, fun j hj hl => ?_⟩, fun s hs ht => e2 _ (key s hs ht)⟩
  · rw [e2 _ (key s hs ht), o2 _ (key s hs ht)]
    exact hK.1 s hs ht
  · by_cases u : j / 64 = k
    · rw [e1 j u] at hl; omega
    · rw [e2 j u] at hl; exact hK.2 j hj hl
theorem Drop.jn {k : Nat} {P : Nat → Nat → Prop} (g : Drop pg ow ln hd kd ow' ln' k) (h : Tiled pg zn ow ln kd cl) (hJ : OkJq P pg ow ln hd kd) : OkJq P pg ow' ln' hd kd := by
  obtain ⟨⟨g1, g2, g3, g4⟩, o1, o2, e1, e2⟩ := g
  have hne : ∀ j, 0 < ln' j → j / 64 ≠ k := fun j hl w => by rw [e1 j w] at hl; omega
  refine ⟨fun j hj hl hf hk hn ho hP => ?_, fun j hj hl hf hk h64 hP => ?_⟩
  · have hj2 := hne j hl
    rw [e2 j hj2] at hl hn ho hP ⊢
    rw [o2 _ hj2] at hk ho
    by_cases u : (j + ln j) / 64 = k
    · have h0 := (h.2.1 j hj hl).1
      rw [u, o1] at ho
      omega
    · rw [o2 _ u] at ho
      exact hJ.1 j hj hl hf hk hn ho hP
  · have hj2 := hne j hl
    rw [e2 j hj2] at hl h64 hP ⊢
    rw [o2 _ hj2] at hk
    have hpp := pair_page h.2.2.2.1 hj hl (h.2.1 j hj hl).1 hk h64
    rw [e2 _ (by rw [hpp]; exact hj2)]
    exact hJ.2 j hj hl hf hk h64 hP
theorem Drop.set {k : Nat} {P : Nat → Prop} (g : Drop pg ow ln hd kd ow' ln' k) (hT : OkT pg ow ln) (hS : OkSetq P pg ow ln hd kd) : OkSetq (fun i => P i ∨ i = k) pg ow' ln' hd kd := by
  obtain ⟨⟨g1, g2, g3, g4⟩, o1, o2, e1, e2⟩ := g
  refine ⟨fun i hi hP h0 hkz => ?_, fun i hi hP h0 hkz => ?_, fun j hj hl hf hkz i hP h1 h2 => ?_⟩
  · have hik : i ≠ k := fun w => by rw [w, o1] at h0; omega
    rw [o2 i hik] at h0 hkz
    obtain ⟨x, x1, x2, x3⟩ := hS.1 i hi (hP.resolve_right hik) h0 hkz
    exact ⟨x, x1, by rw [e2 _ (by omega)]; exact x2, x3⟩
  · have hik : i ≠ k := fun w => by rw [w, o1] at h0; omega
    rw [o2 i hik] at h0 hkz
    rw [e2 _ (by omega)]
    exact hS.2.1 i hi (hP.resolve_right hik) h0 hkz
  · have hj2 : j / 64 ≠ k := fun w => by rw [e1 j w] at hl; omega
    rw [e2 j hj2] at hl h2
    rw [o2 _ hj2] at hkz
    rcases hP with hP | hP
    · exact hS.2.2 j hj hl hf hkz i hP h1 h2
    · subst hP
      have := ((hT j hj hl).2.2 (64 * i) (by omega) (by omega)).2
      rw [show 64 * i / 64 = i by omega] at this
      rw [this] at g3
      omega
theorem mk_eq (hp40 : pg ≤ 40) (hT : OkT pg ow ln) (hK : OkK pg zn ow ln hd th zo pl) {p n : Nat} (hp : p < 64 * pg) (hn : 0 < n) (hn2 : n < 100000) : iI (mkI (ln p) (hd p)) = nI n ↔ ln p = n ∧ hd p < 0 := by
  unfold mkI
  rw [nI_iI n]
  rcases Nat.eq_zero_or_pos (ln p) with u | u
  · rw [if_pos u, iI_eq (by omega) (by omega) (by omega) (by omega)]
    omega
  · have := (hT p hp u).2.1
    rw [if_neg (by omega)]
    rcases hK.2 p hp u with w | ⟨w1, w2, -⟩
    · rw [if_pos (by omega), iI_eq (by omega) (by omega) (by omega) (by omega)]
      omega
    · rw [if_neg (by omega), iI_eq (by omega) (by omega) (by omega) (by omega)]
      omega
/-- no free pair of less than m in page k -/
def NoPair (ln : Nat → Nat) (hd : Nat → Int) (k m : Nat) : Prop := ∀ j, j / 64 = k → 0 < ln j → hd j < 0 → ln j < m → ¬ (ln (pair j (ln j)) = ln j ∧ hd (pair j (ln j)) < 0)
theorem x_joinPairs (h : Tiled pg zn ow ln kd cl) (hK : OkK pg zn ow ln hd th zo pl) (xg : XG pg ow ln hd σ) {k : Nat} (hk : k < pg) (h0 : 0 ≤ ow k) (h1 : kz kd (ow k) = 1) {Q : SS → Prop} (kk : ∀ σ' ln', Tiled pg zn ow ln' kd cl → OkK pg zn ow ln' hd th zo pl → XG pg ow ln' hd σ' → AgP σ σ' → (∀ s, s < 100 → th s = true → ln' (pl s) = ln (pl s)) → (∀ j, j / 64 ≠ k → ln' j = ln j) → NoPair ln' hd k 64 → Q σ') : wX0_joinPairs (nI (64 * k)) σ Q := by
  have hp40 := h.1.1
  unfold wX0_joinPairs wX0_joinPairs_b2 wX0_joinPairs_b10 wX0_joinPairs_b66
  refine lfp_inv (fun t => ∃ (m : Nat) (l : Nat → Nat), (m = 1 ∨ m = 2 ∨ m = 4 ∨ m = 8 ∨ m = 16 ∨ m = 32 ∨ m = 64) ∧ Tiled pg zn ow l kd cl ∧ OkK pg zn ow l hd th zo pl ∧ XG pg ow l hd t.2 ∧ AgP σ t.2 ∧ (∀ s, s < 100 → th s = true → l (pl s) = ln (pl s)) ∧ (∀ j, j / 64 ≠ k → l j = ln j) ∧ NoPair l hd k m ∧ t.1 = nI m) (fun t => 64 - t.1.toNatClampNeg) ⟨1, ln, by omega, h, hK, xg, AgP.rf σ, fun _ _ _ => rfl, fun _ _ => rfl, fun j _ _ _ w => by omega, rfl⟩ ?_
  rintro ⟨t1, t2⟩ X ⟨m, l, hm, hT0, hK0, xg0', ag', bl, oz, np, e1⟩ hX
  have e1' : t1 = nI m := e1
  subst e1'
  have xg0 : XG pg ow l hd t2 := xg0'
  have ag : AgP σ t2 := ag'
  refine ⟨fun c => ?_, fun c => ?_⟩
  · have : m = 64 := by
      rcases Nat.lt_or_ge m 64 with w | w
      · exact absurd c (nI_ge w (by decide))
      · omega
    subst this
    exact kk t2 l hT0 hK0 xg0 ag bl oz np
  · have hm32 : m = 1 ∨ m = 2 ∨ m = 4 ∨ m = 8 ∨ m = 16 ∨ m = 32 := by
      rcases Nat.lt_or_ge m 64 with w | w
      · omega
      · exact absurd (nI_le w (by omega)) c
    show lfp _ (nI (64 * k), t2)
    refine lfp_inv (fun t => ∃ (p : Nat) (l : Nat → Nat), 64 * k ≤ p ∧ p ≤ 64 * k + 64 ∧ p % (2 * m) = 0 ∧ Tiled pg zn ow l kd cl ∧ OkK pg zn ow l hd th zo pl ∧ XG pg ow l hd t.2 ∧ AgP σ t.2 ∧ (∀ s, s < 100 → th s = true → l (pl s) = ln (pl s)) ∧ (∀ j, j / 64 ≠ k → l j = ln j) ∧ NoPair l hd k m ∧ (∀ j, j / 64 = k → j < p → hd j < 0 → l j = m → ¬ (l (pair j m) = m ∧ hd (pair j m) < 0)) ∧ t.1 = nI p) (fun t => 64 * k + 64 - t.1.toNatClampNeg) ⟨64 * k, l, by omega, by omega, by rcases hm32 with rfl | rfl | rfl | rfl | rfl | rfl <;> omega, hT0, hK0, xg0, ag, bl, oz, np, fun j _ w => by omega, rfl⟩ ?_
    clear hT0 hK0 xg0 ag bl oz np xg0' ag' l
    rintro ⟨u1, u2⟩ Y ⟨p, l, hp1, hp2, hpm, hT0, hK0, xg0', ag', bl, oz, np, np2, f1⟩ hY
    have f1' : u1 = nI p := f1
    subst f1'
    have xg0 : XG pg ow l hd u2 := xg0'
    have ag : AgP σ u2 := ag'
    have hbud : ∀ j, j / 64 = k → 0 < l j → (l j = 1 ∨ l j = 2 ∨ l j = 4 ∨ l j = 8 ∨ l j = 16 ∨ l j = 32 ∨ l j = 64) ∧ j % l j = 0 := fun j hj hl => by
      have := bud hT0.2.2.2.1 (show j < 64 * pg by omega) hl (by rw [hj]; exact h0) (by rw [hj]; exact h1)
      exact ⟨this.1, this.2.1⟩
    rw [show (64 : Int32) = nI 64 from rfl, nI_add]
    refine ⟨fun c2 => ?_, fun c2 => ?_⟩
    · have : p = 64 * k + 64 := by
        rcases Nat.lt_or_ge p (64 * k + 64) with w | w
        · exact absurd c2 (nI_ge w (by omega))
        · omega
      refine hX _ ⟨m * 2, l, by omega, hT0, hK0, xg0, ag, bl, oz, fun j hj hl hf hlm => ?_, ?_⟩ ?_
      · have := (hbud j hj hl).1
        rcases Nat.lt_or_ge (l j) m with w | w
        · exact np j hj hl hf w
        · have hjm : l j = m := by omega
          have := np2 j hj (by omega) hf hjm
          rw [hjm]
          exact this
      · show nI m * nI 2 = _
        rw [pk_mul]
      · show 64 - (nI m * nI 2).toNatClampNeg < 64 - (nI m).toNatClampNeg
        rw [pk_mul, nI_clamp (by omega), nI_clamp (by omega)]
        omega
    · have hlt : p < 64 * k + 64 := by
        rcases Nat.lt_or_ge p (64 * k + 64) with w | w
        · exact w
        · exact absurd (nI_le w (by omega)) c2
      have hpq : p + 2 * m ≤ 64 * k + 64 ∧ p % m = 0 := by
        rcases hm32 with rfl | rfl | rfl | rfl | rfl | rfl <;> omega
      have pp : pair p m = p + m := by
        unfold pair
        rw [if_pos (by rcases hm32 with rfl | rfl | rfl | rfl | rfl | rfl <;> omega)]
      have pq : pair (p + m) m = p := by
        unfold pair
        rw [if_neg (by rcases hm32 with rfl | rfl | rfl | rfl | rfl | rfl <;> omega)]
        omega
      have hmeas : 64 * k + 64 - (nI (p + 2 * m)).toNatClampNeg < 64 * k + 64 - (nI p).toNatClampNeg := by
        rw [nI_clamp (by omega), nI_clamp (by omega)]
        omega
      have e2m : (2 : Int32) * nI m = nI (2 * m) := pk_mul 2 m
      have hpm2 : (p + 2 * m) % (2 * m) = 0 := by
        rcases hm32 with rfl | rfl | rfl | rfl | rfl | rfl <;> omega
      have skip : ¬ ((l p = m ∧ hd p < 0) ∧ (l (p + m) = m ∧ hd (p + m) < 0)) → Y (nI p + 2 * nI m, u2) := by
        intro hno
        rw [e2m, nI_add]
        refine hY _ ⟨p + 2 * m, l, by omega, by omega, hpm2, hT0, hK0, xg0, ag, bl, oz, np, fun j hj hj2 hf hl => ?_, rfl⟩ hmeas
        rcases Nat.lt_or_ge j p with w | w
        · exact np2 j hj w hf hl
        · have hal := (hbud j hj (by omega)).2
          rw [hl] at hal
          have hjpq : j = p ∨ j = p + m := by
            rcases hm32 with rfl | rfl | rfl | rfl | rfl | rfl <;> omega
          rcases hjpq with w2 | w2
          · rw [w2, pp]
            intro w3
            rw [w2] at hl hf
            exact hno ⟨⟨hl, hf⟩, w3⟩
          · rw [w2, pq]
            intro w3
            rw [w2] at hl hf
            exact hno ⟨w3, ⟨hl, hf⟩⟩
      refine x_pieceAt xg0 hp40 (by omega) ⟨fun c3 => ?_, fun c3 => ?_⟩
      · exact skip (fun w => c3 ((mk_eq hp40 hT0.2.1 hK0 (by omega) (by omega) (by omega)).mpr w.1))
      · have q1 := (mk_eq hp40 hT0.2.1 hK0 (by omega) (by omega) (by omega)).mp c3
        rw [show ((nI p, u2) : Int32 × SS).1 + ((nI m, t2) : Int32 × SS).1 = nI (p + m) from nI_add p m]
        refine x_pieceAt xg0 hp40 (by omega) ⟨fun c4 => ?_, fun c4 => ?_⟩
        · exact skip (fun w => c4 ((mk_eq hp40 hT0.2.1 hK0 (by omega) (by omega) (by omega)).mpr w.2))
        · have q2 := (mk_eq hp40 hT0.2.1 hK0 (by omega) (by omega) (by omega)).mp c4
          show wX3_mark (nI p) (2 * nI m) u2 (fun σ52 => wX3_mark (nI (p + m)) 0 σ52 (fun σ63 => Y (nI p + 2 * nI m, σ63)))
          rw [e2m, nI_add]
          refine x_mark (by omega) (x_mark (by omega) ?_)
          obtain ⟨l', hl'⟩ : ∃ l' : Nat → Nat, l' = fun i => if i = p then 2 * m else if i = p + m then 0 else l i := ⟨_, rfl⟩
          have r1 : l' p = 2 * m := by rw [hl']; show (if p = p then _ else _) = _; rw [if_pos rfl]
          have r2 : l' (p + m) = 0 := by rw [hl']; show (if p + m = p then _ else _) = _; rw [if_neg (by omega), if_pos rfl]
          have r3 : ∀ i, i ≠ p → i ≠ p + m → l' i = l i := by intro i i1 i2; rw [hl']; show (if i = p then _ else _) = _; rw [if_neg i1, if_neg i2]
          have hT1 : Tiled pg zn ow l' kd cl := mergeBud hT0 (j := p) (q := p + m) (by omega) (by omega) (by omega) (by omega) (by rw [show p / 64 = k by omega]; exact h1) (by rw [q1.1]; exact hpm) (by omega) (by omega) r2 r3
          obtain ⟨hK1, bl1⟩ := mergeOk (ln' := l') hK0 (j := p) (q := p + m) (by omega) (by omega) q2.2 (by omega) q1.2 (by omega) r2 r3
          refine hY _ ⟨p + 2 * m, l', by omega, by omega, hpm2, hT1, hK1, ?_, (ag.tr (AgP.m1 _ _ _)).tr (AgP.m1 _ _ _), fun s hs ht => (bl1 s hs ht).trans (bl s hs ht), fun j hj => ?_, fun j hj hl hf hlm => ?_, fun j hj hj2 hf hl => ?_, rfl⟩ hmeas
          · obtain ⟨x1, x2, x3⟩ := xg0
            refine ⟨x1, x2, fun i hi => ?_⟩
            show upd (upd (gA u2 1) p (nI (2 * m))) (p + m) 0 i = _
            unfold upd
            by_cases u : i = p + m
            · rw [if_pos u, u, r2]
              rfl
            · rw [if_neg u]
              by_cases v : i = p
              · rw [if_pos v, v, r1]
                unfold mkI
                rw [if_neg (by omega), if_pos q1.2, nI_iI]
              · rw [if_neg v, r3 i v u]
                exact x3 i hi
          · rw [r3 j (by omega) (by omega)]
            exact oz j hj
          · have j1 : j ≠ p := fun w => by rw [w, r1] at hlm; omega
            have j2 : j ≠ p + m := fun w => by rw [w, r2] at hl; omega
            rw [r3 j j1 j2] at hl hlm ⊢
            rintro ⟨w1, w2⟩
            by_cases v1 : pair j (l j) = p
            · rw [v1, r1] at w1; omega
            · by_cases v2 : pair j (l j) = p + m
              · rw [v2, r2] at w1; omega
              · rw [r3 _ v1 v2] at w1
                exact np j hj hl hf hlm ⟨w1, w2⟩
          · have j1 : j ≠ p := fun w => by rw [w, r1] at hl; omega
            have j2 : j ≠ p + m := fun w => by rw [w, r2] at hl; omega
            rw [r3 j j1 j2] at hl
            have hjp : j < p := by
              rcases Nat.lt_or_ge j p with w | w
              · exact w
              · exfalso
                have hal := (hbud j hj (by omega)).2
                rw [hl] at hal
                rcases hm32 with rfl | rfl | rfl | rfl | rfl | rfl <;> omega
            rintro ⟨w1, w2⟩
            by_cases v1 : pair j m = p
            · rw [v1, r1] at w1; omega
            · by_cases v2 : pair j m = p + m
              · rw [v2, r2] at w1; omega
              · rw [r3 _ v1 v2] at w1
                exact np2 j hj hjp hf hl ⟨w1, w2⟩
end DROP
