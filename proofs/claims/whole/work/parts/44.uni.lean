/-! ===== the pieces are what the blocks and the pages' owners say ===== -/
def Geo (pg zn : Nat) (ow : Nat → Int) (ln : Nat → Nat) (hd : Nat → Int) (kd cl : Nat → Nat) (th : Nat → Bool) (sz zo pl : Nat → Nat) : Prop := Tiled pg zn ow ln kd cl ∧ OkK pg zn ow ln hd th zo pl ∧ OkSz kd cl ln th sz zo pl ∧ OkJ pg ow ln hd kd
section UNI
variable {pg zn : Nat} {ow ow' : Nat → Int} {ln ln' kd cl : Nat → Nat} {hd hd' : Nat → Int} {th : Nat → Bool} {sz zo pl : Nat → Nat}
theorem Gh.geo (h : Gh pg zn ow ln hd kd cl th sz zo pl) : Geo pg zn ow ln hd kd cl th sz zo pl := ⟨h.1, h.2.1, h.2.2.1, h.2.2.2.2⟩
theorem blkKz (h : Geo pg zn ow ln hd kd cl th sz zo pl) {s : Nat} (hs : s < 100) (ht : th s = true) : kz kd (ow (pl s / 64)) = kd (zo s) ∧ 0 ≤ ow (pl s / 64) := by
  obtain ⟨a1, a2, a3, a4, a5⟩ := h.2.1.1 s hs ht
  unfold kz
  rw [a5, Int.toNat_natCast]
  exact ⟨rfl, by omega⟩
theorem blkLen1 (h : Geo pg zn ow ln hd kd cl th sz zo pl) {s : Nat} (hs : s < 100) (ht : th s = true) : (kd (zo s) = 0 → ln (pl s) = cl (zo s)) ∧ (kd (zo s) = 1 → (ln (pl s) = 1 ∨ ln (pl s) = 2 ∨ ln (pl s) = 4 ∨ ln (pl s) = 8 ∨ ln (pl s) = 16 ∨ ln (pl s) = 32 ∨ ln (pl s) = 64)) := by
  obtain ⟨k1, k2⟩ := blkKz h hs ht
  obtain ⟨⟨hZ, hT, hS, hB, hR⟩, hK, hSz, hJ⟩ := h
  obtain ⟨a1, a2, a3, a4, a5⟩ := hK.1 s hs ht
  refine ⟨fun c => ?_, fun c => (bud hB a2 a3 k2 (by rw [k1]; exact c)).1⟩
  have hs2 := hS (pl s / 64) (by omega) k2 (by rw [k1]; exact c) (pl s % 64) (by omega)
  rw [show 64 * (pl s / 64) + pl s % 64 = pl s by omega, a5, Int.toNat_natCast] at hs2
  split at hs2 <;> omega
theorem blkLen (h : Geo pg zn ow ln hd kd cl th sz zo pl) (h' : Geo pg zn ow' ln' hd' kd cl th sz zo pl) {s : Nat} (hs : s < 100) (ht : th s = true) : ln' (pl s) = ln (pl s) := by
  obtain ⟨b0, b1⟩ := blkLen1 h hs ht
  obtain ⟨c0, c1⟩ := blkLen1 h' hs ht
  obtain ⟨s1, s2, s3, s4⟩ := h.2.2.1 s hs ht
  obtain ⟨t1, t2, t3, t4⟩ := h'.2.2.1 s hs ht
  by_cases k0 : kd (zo s) = 0
  · rw [b0 k0, c0 k0]
  · by_cases k1 : kd (zo s) = 1
    · have := b1 k1; have := c1 k1; have := s3 k1; have := t3 k1
      omega
    · rw [s4 (by omega), t4 (by omega)]
theorem hdU (h : Geo pg zn ow ln hd kd cl th sz zo pl) (h' : Geo pg zn ow' ln' hd' kd cl th sz zo pl) {j : Nat} (hj : j < 64 * pg) (hl : 0 < ln j) (hl' : 0 < ln' j) : hd j = hd' j := by
  rcases h.2.1.2 j hj hl with w | ⟨w1, w2, w3, w4⟩
  · rcases h'.2.1.2 j hj hl' with v | ⟨v1, v2, v3, v4⟩
    · rw [w, v]
    · have := (h.2.1.1 _ (by omega) v3).2.2.2.1
      rw [v4] at this
      omega
  · have := (h'.2.1.1 _ (by omega) w3).2.2.2.1
    rw [w4] at this
    omega
/-- a block's piece of the one is one of the other -/
theorem blkOf (h : Geo pg zn ow ln hd kd cl th sz zo pl) (h' : Geo pg zn ow' ln' hd' kd cl th sz zo pl) {j : Nat} (hj : j < 64 * pg) (hl : 0 < ln j) (hb : ¬ hd j < 0) : ln' j = ln j ∧ ¬ hd' j < 0 := by
  rcases h.2.1.2 j hj hl with w | ⟨w1, w2, w3, w4⟩
  · omega
  · have e := blkLen h h' (s := (hd j).toNat) (by omega) w3
    have := (h'.2.1.1 (hd j).toNat (by omega) w3).2.2.2.1
    rw [w4] at e this
    exact ⟨e, by omega⟩
theorem freeRow_le (h : Geo pg zn ow ln hd kd cl th sz zo pl) (h' : Geo pg zn ow' ln' hd' kd cl th sz zo pl) (ho : ∀ k, k < pg → ow' k = ow k) {j : Nat} (hj : j < 64 * pg) (hl : 0 < ln j) (hf : hd j < 0) (hz : 2 ≤ kz kd (ow (j / 64))) : ln j ≤ ln' j := by
  obtain ⟨⟨hZ, hT, hS, hB, hR⟩, hK, hSz, hJ⟩ := id h
  obtain ⟨⟨hZ', hT', hS', hB', hR'⟩, hK', hSz', hJ'⟩ := id h'
  obtain ⟨t1, t2, t3⟩ := hT j hj hl
  obtain ⟨a, a1, a2, a3, a4⟩ := coverR hT' hR' j hj (by rw [ho _ (by omega)]; exact t1) (by rw [ho _ (by omega)]; exact hz)
  have haf : hd' a < 0 := by
    rcases Int.lt_or_le (hd' a) 0 with w | w
    · exact w
    · exfalso
      obtain ⟨b1, b2⟩ := blkOf h' h (by omega) a2 (by omega)
      rcases Nat.lt_or_ge a j with v | v
      · have := hT.dj (by omega) (by omega) hl v; omega
      · rw [show a = j by omega] at b2; exact b2 hf
  have haj : a = j := by
    rcases Nat.lt_or_ge a j with v | v
    · exfalso
      have hsame : ow' ((j - 1) / 64) = ow' (j / 64) := by
        rcases Nat.lt_or_ge a (j - 1) with u | u
        · exact ((hT' a (by omega) a2).2.2 (j - 1) u (by omega)).2.trans a4
        · rw [show j - 1 = a by omega]; exact a4
      rw [ho _ (by omega), ho _ (by omega)] at hsame
      obtain ⟨b, b1, b2, b3, b4⟩ := coverR hT hR (j - 1) (by omega) (by rw [hsame]; exact t1) (by rw [hsame]; exact hz)
      have hbj : b + ln b = j := by
        have := hT.dj (by omega) b2 hl (show b < j by omega); omega
      have hbf : hd b < 0 := by
        rcases Int.lt_or_le (hd b) 0 with w | w
        · exact w
        · exfalso
          obtain ⟨c1, c2⟩ := blkOf h h' (by omega) b2 (by omega)
          rcases Nat.lt_trichotomy b a with u | u | u
          · have := hT'.dj (by omega) (by omega) a2 u; omega
          · subst u; omega
          · have := hT'.dj (by omega) a2 (show 0 < ln' b by omega) u; omega
      have := hJ.1 b (by omega) b2 hbf (by rw [b4, hsame]; exact hz) (by omega) (by rw [hbj, b4, hsame])
      rw [hbj] at this
      omega
    · omega
  subst haj
  rcases Nat.lt_or_ge (ln' a) (ln a) with v | v
  · exfalso
    obtain ⟨u1, u2⟩ := t3 (a + ln' a) (by omega) (by omega)
    rcases hR'.2 a hj a2 (by rw [ho _ (by omega)]; exact hz) with ⟨r1, r2, r3⟩ | ⟨r1, r2⟩
    · have := hJ'.1 a hj a2 haf (by rw [ho _ (by omega)]; exact hz) r1 r2
      have := (blkOf h' h r1 r3 (by omega)).1
      omega
    · refine r2 (by omega) ?_
      rw [ho _ (by omega), ho _ (by omega)]
      exact u2
  · exact v
/-- a part of a BUDDY's page in which no block's piece lies is in one free piece -/
theorem dyad (h : Geo pg zn ow ln hd kd cl th sz zo pl) {k : Nat} (hk : k < pg) (h0 : 0 ≤ ow k) (h1 : kz kd (ow k) = 1) : ∀ e, e ≤ 6 → ∀ i, i % 2 ^ e = 0 → i + 2 ^ e ≤ 64 → (∀ j, j < 64 * pg → 0 < ln j → ¬ hd j < 0 → j + ln j ≤ 64 * k + i ∨ 64 * k + i + 2 ^ e ≤ j) → ∃ a, a ≤ i ∧ 0 < ln (64 * k + a) ∧ hd (64 * k + a) < 0 ∧ i + 2 ^ e ≤ a + ln (64 * k + a) := by
  obtain ⟨⟨hZ, hT, hS, hB, hR⟩, hK, hSz, hJ⟩ := id h
  intro e
  induction e with
  | zero =>
    intro _ i _ hi hb
    obtain ⟨a, a1, a2, a3⟩ := coverB hT hB hk h0 h1 i (by omega)
    refine ⟨a, a1, a2, ?_, by omega⟩
    rcases Int.lt_or_le (hd (64 * k + a)) 0 with w | w
    · exact w
    · have := hb (64 * k + a) (by omega) a2 (by omega)
      omega
  | succ e ih =>
    intro he i hi1 hi2 hb
    rw [Nat.pow_succ] at hi1 hi2 hb ⊢
    have p2 : 2 ^ e = 1 ∨ 2 ^ e = 2 ∨ 2 ^ e = 4 ∨ 2 ^ e = 8 ∨ 2 ^ e = 16 ∨ 2 ^ e = 32 := by
      rcases (show e = 0 ∨ e = 1 ∨ e = 2 ∨ e = 3 ∨ e = 4 ∨ e = 5 by omega) with rfl | rfl | rfl | rfl | rfl | rfl <;> decide
    have ih' := ih (by omega)
    generalize 2 ^ e = m at p2 hi1 hi2 hb ih' ⊢
    have al : i % m = 0 ∧ (i + m) % m = 0 := by
      rcases p2 with rfl | rfl | rfl | rfl | rfl | rfl <;> omega
    obtain ⟨a, a1, a2, a3, a4⟩ := ih' i al.1 (by omega) (fun j hj hl hf => by have := hb j hj hl hf; omega)
    obtain ⟨b, b1, b2, b3, b4⟩ := ih' (i + m) al.2 (by omega) (fun j hj hl hf => by have := hb j hj hl hf; omega)
    have ba := bud hB (j := 64 * k + a) (by omega) a2 (by rw [show (64 * k + a) / 64 = k by omega]; exact h0) (by rw [show (64 * k + a) / 64 = k by omega]; exact h1)
    have bb := bud hB (j := 64 * k + b) (by omega) b2 (by rw [show (64 * k + b) / 64 = k by omega]; exact h0) (by rw [show (64 * k + b) / 64 = k by omega]; exact h1)
    have hpair := hJ.2 (64 * k + a) (by omega) a2 a3 (by rw [show (64 * k + a) / 64 = k by omega]; exact h1)
    generalize hA' : ln (64 * k + a) = A at ba a4 a2 hpair
    generalize hB' : ln (64 * k + b) = B at bb b4 b2
    obtain ⟨q1, q2, q3, -⟩ := ba
    obtain ⟨r1, r2, r3, -⟩ := bb
    by_cases hA : 2 * m ≤ A
    · refine ⟨a, a1, by rw [hA']; exact a2, a3, ?_⟩
      rw [hA']
      clear hpair hB hJ hK hT hS hR hSz
      rcases p2 with rfl | rfl | rfl | rfl | rfl | rfl <;> rcases q1 with rfl | rfl | rfl | rfl | rfl | rfl | rfl <;> omega
    · by_cases hBm : 2 * m ≤ B
      · refine ⟨b, ?_, by rw [hB']; exact b2, b3, ?_⟩
        · clear hpair hB hJ hK hT hS hR hSz
          rcases p2 with rfl | rfl | rfl | rfl | rfl | rfl <;> rcases r1 with rfl | rfl | rfl | rfl | rfl | rfl | rfl <;> omega
        · rw [hB']
          omega
      · exfalso
        have e1 : A = m ∧ B = m := by omega
        have e2 : a = i ∧ b = i + m := by omega
        obtain ⟨rfl, rfl⟩ := e2
        obtain ⟨e3, e4⟩ := e1
        rw [e3] at hpair
        refine hpair (by omega) ?_
        have hp : pair (64 * k + a) m = 64 * k + (a + m) := by
          unfold pair
          rw [if_pos (by rcases p2 with rfl | rfl | rfl | rfl | rfl | rfl <;> omega)]
          omega
        rw [hp]
        exact ⟨by omega, b3⟩
/-- places of block's pieces are the same ones -/
theorem blkAway (h : Geo pg zn ow ln hd kd cl th sz zo pl) (h' : Geo pg zn ow' ln' hd' kd cl th sz zo pl) {x y : Nat} (hb : ∀ j, j < 64 * pg → 0 < ln j → ¬ hd j < 0 → j + ln j ≤ x ∨ y ≤ j) : ∀ j, j < 64 * pg → 0 < ln' j → ¬ hd' j < 0 → j + ln' j ≤ x ∨ y ≤ j := by
  intro j hj hl hf
  obtain ⟨e, f⟩ := blkOf h' h hj hl hf
  rw [← e]
  exact hb j hj (by omega) f
theorem freeBud (h : Geo pg zn ow ln hd kd cl th sz zo pl) (h' : Geo pg zn ow' ln' hd' kd cl th sz zo pl) (ho : ∀ k, k < pg → ow' k = ow k) {j : Nat} (hj : j < 64 * pg) (hl : 0 < ln j) (hf : hd j < 0) (hz : kz kd (ow (j / 64)) = 1) : ln' j = ln j := by
  have key : ∀ {o o' : Nat → Int} {l l' : Nat → Nat} {d d' : Nat → Int}, Geo pg zn o l d kd cl th sz zo pl → Geo pg zn o' l' d' kd cl th sz zo pl → (∀ k, k < pg → o' k = o k) → ∀ j, j < 64 * pg → 0 < l j → d j < 0 → kz kd (o (j / 64)) = 1 → ∃ a, a ≤ j ∧ a / 64 = j / 64 ∧ 0 < l' a ∧ d' a < 0 ∧ j + l j ≤ a + l' a := by
    intro o o' l l' d d' g g' ho j hj hl hf hz
    obtain ⟨⟨hZ, hT, hS, hB, hR⟩, hK, hSz, hJ⟩ := id g
    have h0 := (hT j hj hl).1
    obtain ⟨p1, p2, p3, -⟩ := bud hB hj hl h0 hz
    obtain ⟨e, he, hle⟩ := p2_of p1
    have hi : j % 64 % 2 ^ e = 0 := by
      rw [← hle]
      rcases p1 with q | q | q | q | q | q | q <;> (rw [q] at p2 ⊢; omega)
    have := dyad g' (k := j / 64) (by omega) (by rw [ho _ (by omega)]; exact h0) (by rw [ho _ (by omega)]; exact hz) e he (j % 64) hi (by omega) (blkAway g g' (fun i hi hli hfi => by
      rw [← hle, show 64 * (j / 64) + j % 64 = j by omega]
      rcases Nat.lt_trichotomy i j with u | u | u
      · exact Or.inl (hT.dj hi hli hl u)
      · subst u; omega
      · exact Or.inr (hT.dj hj hl hli u)))
    obtain ⟨a, a1, a2, a3, a4⟩ := this
    exact ⟨64 * (j / 64) + a, by omega, by omega, a2, a3, by omega⟩
  obtain ⟨a, a1, a2, a3, a4, a5⟩ := key h h' ho j hj hl hf hz
  obtain ⟨b, b1, b2, b3, b4, b5⟩ := key h' h (fun k hk => (ho k hk).symm) a (by omega) a3 a4 (by rw [a2, ho _ (by omega)]; exact hz)
  have hT := h.1.2.1
  have hbj : b = j := by
    rcases Nat.lt_or_ge b j with u | u
    · have := hT.dj (by omega) b3 hl u; omega
    · omega
  subst hbj
  have : a = b := by omega
  subst this
  omega
/-- the pieces are the same where the owners are -/
theorem uni1 (h : Geo pg zn ow ln hd kd cl th sz zo pl) (h' : Geo pg zn ow' ln' hd' kd cl th sz zo pl) (ho : ∀ k, k < pg → ow' k = ow k) : ∀ j, j < 64 * pg → ln' j = ln j ∧ (0 < ln j → hd' j = hd j) := by
  have pos : ∀ {o o' : Nat → Int} {l l' : Nat → Nat} {d d' : Nat → Int}, Geo pg zn o l d kd cl th sz zo pl → Geo pg zn o' l' d' kd cl th sz zo pl → (∀ k, k < pg → o' k = o k) → ∀ j, j < 64 * pg → 0 < l j → l j ≤ l' j := by
    intro o o' l l' d d' g g' ho j hj hl
    by_cases hf : d j < 0
    · have h0 := (g.1.2.1 j hj hl).1
      by_cases k0 : kz kd (o (j / 64)) = 0
      · have s1 := g.1.2.2.1 (j / 64) (by omega) h0 k0 (j % 64) (by omega)
        have s2 := g'.1.2.2.1 (j / 64) (by omega) (by rw [ho _ (by omega)]; exact h0) (by rw [ho _ (by omega)]; exact k0) (j % 64) (by omega)
        rw [ho _ (by omega)] at s2
        rw [← s2] at s1
        rw [show 64 * (j / 64) + j % 64 = j by omega] at s1
        omega
      · by_cases k1 : kz kd (o (j / 64)) = 1
        · have := freeBud g g' ho hj hl hf k1; omega
        · exact freeRow_le g g' ho hj hl hf (by omega)
    · have := (blkOf g g' hj hl hf).1; omega
  intro j hj
  have e : ln' j = ln j := by
    rcases Nat.eq_zero_or_pos (ln j) with u | u
    · rcases Nat.eq_zero_or_pos (ln' j) with v | v
      · omega
      · have := pos h' h (fun k hk => (ho k hk).symm) j hj v; omega
    · have v := pos h h' ho j hj u
      have := pos h' h (fun k hk => (ho k hk).symm) j hj (by omega)
      omega
  exact ⟨e, fun hl => (hdU h h' hj hl (by omega)).symm⟩
/-- a page of a zone has a place of a block -/
theorem pageHas (h : Gh pg zn ow ln hd kd cl th sz zo pl) {k : Nat} (hk : k < pg) (h0 : 0 ≤ ow k) : ∃ s x, s < 100 ∧ th s = true ∧ x / 64 = k ∧ pl s ≤ x ∧ x < pl s + ln (pl s) := by
  obtain ⟨hT0, hK, hSz, hSet, hJ⟩ := id h
  obtain ⟨hZ, hT, hS, hB, hR⟩ := id hT0
  have hg := h.geo
  have fin : ∀ j x, j < 64 * pg → 0 < ln j → ¬ hd j < 0 → x / 64 = k → j ≤ x → x < j + ln j → ∃ s x, s < 100 ∧ th s = true ∧ x / 64 = k ∧ pl s ≤ x ∧ x < pl s + ln (pl s) := by
    intro j x hj hl hf hx h1 h2
    rcases hK.2 j hj hl with w | ⟨w1, w2, w3, w4⟩
    · omega
    · exact ⟨(hd j).toNat, x, by omega, w3, hx, by rw [w4]; exact h1, by rw [w4]; exact h2⟩
  by_cases k0 : kz kd (ow k) = 0
  · obtain ⟨i, hi, hl, hb⟩ := hSet.1 k hk h0 k0
    exact fin (64 * k + i) (64 * k + i) (by omega) hl (by omega) (by omega) (Nat.le_refl _) (by omega)
  · by_cases k1 : kz kd (ow k) = 1
    · by_cases hall : ∀ j, j < 64 * pg → 0 < ln j → ¬ hd j < 0 → j + ln j ≤ 64 * k + 0 ∨ 64 * k + 0 + 2 ^ 6 ≤ j
      · exfalso
        obtain ⟨a, a1, a2, a3, a4⟩ := dyad hg hk h0 k1 6 (Nat.le_refl _) 0 rfl (by decide) hall
        have ha : a = 0 := by omega
        subst ha
        rw [Nat.add_zero] at a2 a3 a4
        have := (bud hB (j := 64 * k) (by omega) a2 (by rw [show 64 * k / 64 = k by omega]; exact h0) (by rw [show 64 * k / 64 = k by omega]; exact k1)).1
        have e0 : ln (64 * k + 0) = ln (64 * k) := rfl
        exact hSet.2.1 k hk h0 k1 ⟨by omega, a3⟩
      · have : ∃ j, j < 64 * pg ∧ 0 < ln j ∧ ¬ hd j < 0 ∧ ¬ (j + ln j ≤ 64 * k + 0 ∨ 64 * k + 0 + 2 ^ 6 ≤ j) := by
          apply Classical.byContradiction
          intro hn
          exact hall (fun j hj hl hf => Classical.byContradiction (fun hc => hn ⟨j, hj, hl, hf, hc⟩))
        obtain ⟨j, hj, hl, hf, hc⟩ := this
        rcases Nat.lt_or_ge j (64 * k) with u | u
        · exact fin j (64 * k) hj hl hf (by omega) (by omega) (by omega)
        · exact fin j j hj hl hf (by omega) (Nat.le_refl _) (by omega)
    · obtain ⟨a, a1, a2, a3, a4⟩ := coverR hT hR (64 * k) (by omega) (by rw [show 64 * k / 64 = k by omega]; exact h0) (by rw [show 64 * k / 64 = k by omega]; omega)
      rw [show 64 * k / 64 = k by omega] at a4
      by_cases hf : hd a < 0
      · have hnot := hSet.2.2 a (by omega) a2 hf (by rw [a4]; omega) k a1
        rcases hR.2 a (by omega) a2 (by rw [a4]; omega) with ⟨r1, r2, r3⟩ | ⟨r1, r2⟩
        · have := hJ.1 a (by omega) a2 hf (by rw [a4]; omega) r1 r2
          exact fin (a + ln a) (a + ln a) r1 r3 (by omega) (by omega) (Nat.le_refl _) (by omega)
        · omega
      · exact fin a (64 * k) (by omega) a2 hf (by omega) a1 a3
theorem uni2 (h : Gh pg zn ow ln hd kd cl th sz zo pl) (h' : Gh pg zn ow' ln' hd' kd cl th sz zo pl) (hm : ∀ k, k < pg → (ow' k = -2 ↔ ow k = -2)) : ∀ k, k < pg → ow' k = ow k := by
  have key : ∀ {o o' : Nat → Int} {l l' : Nat → Nat} {d d' : Nat → Int}, Gh pg zn o l d kd cl th sz zo pl → Gh pg zn o' l' d' kd cl th sz zo pl → ∀ k, k < pg → 0 ≤ o k → o' k = o k := by
    intro o o' l l' d d' g g' k hk h0
    obtain ⟨s, x, hs, ht, hx, x1, x2⟩ := pageHas g hk h0
    have own : ∀ {o : Nat → Int} {l : Nat → Nat} {d : Nat → Int}, Gh pg zn o l d kd cl th sz zo pl → x < pl s + l (pl s) → o k = zo s := by
      intro o l d g x2
      obtain ⟨a1, a2, a3, a4, a5⟩ := g.2.1.1 s hs ht
      rw [← a5, ← hx]
      rcases Nat.lt_or_ge (pl s) x with u | u
      · exact ((g.1.2.1 _ a2 a3).2.2 x u x2).2
      · rw [show x = pl s by omega]
    rw [own g x2, own g' (by rw [blkLen g.geo g'.geo hs ht]; exact x2)]
  intro k hk
  rcases Int.lt_or_le (ow k) 0 with u | u
  · rcases Int.lt_or_le (ow' k) 0 with v | v
    · have z1 := h.1.1.2.2.1 k hk
      have z2 := h'.1.1.2.2.1 k hk
      have := hm k hk
      omega
    · exact (key h' h k hk v).symm
  · exact key h h' k hk u
end UNI
