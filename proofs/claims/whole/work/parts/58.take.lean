/-! ===== pages come, a piece is cut: the ghosts ===== -/
section TAKE
variable {pg zn : Nat} {ow ow1 : Nat → Int} {ln ln1 kd cl : Nat → Nat} {hd hd1 : Nat → Int} {th : Nat → Bool} {sz zo pl : Nat → Nat}
/-- pages [a, a + m) have come to zone z -/
def Add (pg : Nat) (ow : Nat → Int) (ln : Nat → Nat) (hd : Nat → Int) (ow1 : Nat → Int) (ln1 : Nat → Nat) (hd1 : Nat → Int) (z a m : Nat) : Prop := (0 < m ∧ FP ow pg m a) ∧ (∀ k, a ≤ k → k < a + m → ow1 k = z) ∧ (∀ k, ¬ (a ≤ k ∧ k < a + m) → ow1 k = ow k) ∧ (∀ j, ¬ (a ≤ j / 64 ∧ j / 64 < a + m) → ln1 j = ln j ∧ hd1 j = hd j) ∧ ∀ j, a ≤ j / 64 → j / 64 < a + m → 0 < ln1 j → hd1 j = -1
theorem Add.ok {z a m : Nat} (g : Add pg ow ln hd ow1 ln1 hd1 z a m) (hK : OkK pg zn ow ln hd th zo pl) : OkK pg zn ow1 ln1 hd1 th zo pl ∧ ∀ s, s < 100 → th s = true → ln1 (pl s) = ln (pl s) := by
  obtain ⟨⟨g0, g1⟩, o1, o2, e1, e2⟩ := g
  have key : ∀ s, s < 100 → th s = true → ¬ (a ≤ pl s / 64 ∧ pl s / 64 < a + m) := by
    intro s hs ht w
    have := (hK.1 s hs ht).2.2.2.2
    rw [g1.2 _ w.1 w.2] at this
    omega
  refine ⟨⟨fun s hs ht => ?_, fun j hj hl => ?_⟩, fun s hs ht => (e1 _ (key s hs ht)).1⟩
  · have k := key s hs ht
    rw [(e1 _ k).1, (e1 _ k).2, o2 _ k]
    exact hK.1 s hs ht
  · by_cases w : a ≤ j / 64 ∧ j / 64 < a + m
    · exact Or.inl (e2 j w.1 w.2 hl)
    · rw [(e1 j w).1] at hl
      rw [(e1 j w).2]
      exact hK.2 j hj hl
theorem Add.set {z a m : Nat} (g : Add pg ow ln hd ow1 ln1 hd1 z a m) (hT1 : OkT pg ow1 ln1) (hS : OkSet pg ow ln hd kd) : OkSetq (fun k => ¬ ow1 k = z) pg ow1 ln1 hd1 kd := by
  obtain ⟨⟨g0, g1⟩, o1, o2, e1, e2⟩ := g
  have out : ∀ k, ¬ ow1 k = z → ¬ (a ≤ k ∧ k < a + m) := fun k hk w => hk (o1 k w.1 w.2)
  refine ⟨fun k hk hP h0 hz => ?_, fun k hk hP h0 hz => ?_, fun j hj hl hf hz k hP h1 h2 => ?_⟩
  · have u := out k hP
    rw [o2 k u] at h0 hz
    obtain ⟨i, i1, i2, i3⟩ := hS.1 k hk h0 hz
    have := e1 (64 * k + i) (by rw [show (64 * k + i) / 64 = k by omega]; exact u)
    exact ⟨i, i1, by rw [this.1]; exact i2, by rw [this.2]; exact i3⟩
  · have u := out k hP
    rw [o2 k u] at h0 hz
    have := e1 (64 * k) (by rw [show 64 * k / 64 = k by omega]; exact u)
    rw [this.1, this.2]
    exact hS.2.1 k hk h0 hz
  · obtain ⟨t1, t2, t3⟩ := hT1 j hj hl
    have hok : ow1 k = ow1 (j / 64) := by
      rcases Nat.lt_or_ge j (64 * k) with u | u
      · have := (t3 (64 * k) u (by omega)).2
        rw [show 64 * k / 64 = k by omega] at this
        exact this
      · rw [show j / 64 = k by omega]
    have u := out (j / 64) (by rw [← hok]; exact hP)
    rw [(e1 j u).1] at hl h2
    rw [(e1 j u).2] at hf
    rw [o2 _ u] at hz
    exact hS.2.2 j hj hl hf hz k h1 h2
theorem Add.jn {z a m : Nat} (g : Add pg ow ln hd ow1 ln1 hd1 z a m) (h : Tiled pg zn ow ln kd cl) (hone : ¬ kd z = 0 → ∀ j, a ≤ j / 64 → j / 64 < a + m → 0 < ln1 j → j = 64 * a) (hb : kd z = 1 → ln1 (64 * a) = 64) (hJ : OkJ pg ow ln hd kd) : OkJq (fun j q => j ≠ 64 * a ∧ q ≠ 64 * a) pg ow1 ln1 hd1 kd := by
  obtain ⟨⟨g0, g1⟩, o1, o2, e1, e2⟩ := g
  have kzz : kz kd (z : Int) = kd z := by unfold kz; rw [Int.toNat_natCast]
  refine ⟨fun j hj hl hf hk hn ho hP => ?_, fun j hj hl hf hk h64 hP => ?_⟩
  · by_cases w : a ≤ j / 64 ∧ j / 64 < a + m
    · rw [o1 _ w.1 w.2, kzz] at hk
      exact absurd (hone (by omega) j w.1 w.2 hl) hP.1
    · rw [(e1 j w).1] at hl hn ho hP ⊢
      rw [(e1 j w).2] at hf
      rw [o2 _ w] at hk ho
      obtain ⟨t1, t2, t3⟩ := h.2.1 j hj hl
      have u : ¬ (a ≤ (j + ln j) / 64 ∧ (j + ln j) / 64 < a + m) := by
        intro u
        have hlast : ow ((j + ln j - 1) / 64) = ow (j / 64) := by
          rcases Nat.lt_or_ge j (j + ln j - 1) with v | v
          · exact (t3 _ v (by omega)).2
          · rw [show j + ln j - 1 = j by omega]
        have hnot : ¬ (a ≤ (j + ln j - 1) / 64 ∧ (j + ln j - 1) / 64 < a + m) := fun v => by
          rw [g1.2 _ v.1 v.2] at hlast; omega
        exact hP.2 (by omega)
      rw [(e1 _ u).2]
      rw [o2 _ u] at ho
      exact hJ.1 j hj hl hf hk hn ho
  · by_cases w : a ≤ j / 64 ∧ j / 64 < a + m
    · rw [o1 _ w.1 w.2, kzz] at hk
      exact absurd (hone (by omega) j w.1 w.2 hl) hP.1
    · rw [(e1 j w).1] at hl h64 hP ⊢
      rw [(e1 j w).2] at hf
      rw [o2 _ w] at hk
      have hpp := pair_page h.2.2.2.1 hj hl (h.2.1 j hj hl).1 hk h64
      have u : ¬ (a ≤ pair j (ln j) / 64 ∧ pair j (ln j) / 64 < a + m) := by rw [hpp]; exact w
      rw [(e1 _ u).1, (e1 _ u).2]
      exact hJ.2 j hj hl hf hk h64
theorem Add.jn2 {z a m : Nat} (g : Add pg ow ln hd ow1 ln1 hd1 z a m) (h : Tiled pg zn ow ln kd cl) (h1 : Tiled pg zn ow1 ln1 kd cl) (hkz : kd z < 2) (hm : m = 1) (hone : ¬ kd z = 0 → ∀ j, a ≤ j / 64 → j / 64 < a + m → 0 < ln1 j → j = 64 * a) (hb : kd z = 1 → ln1 (64 * a) = 64) (hJ : OkJ pg ow ln hd kd) : OkJ pg ow1 ln1 hd1 kd := by
  have J := g.jn h hone hb hJ
  obtain ⟨⟨g0, g1⟩, o1, o2, e1, e2⟩ := g
  have kzz : kz kd (z : Int) = kd z := by unfold kz; rw [Int.toNat_natCast]
  have oa : ow1 (64 * a / 64) = z := by rw [show 64 * a / 64 = a by omega]; exact o1 a (by omega) (by omega)
  refine ⟨fun j hj hl hf hk hn ho => J.1 j hj hl hf hk hn ho ⟨fun w => ?_, fun w => ?_⟩, fun j hj hl hf hk h64 => J.2 j hj hl hf hk h64 ⟨fun w => ?_, fun w => ?_⟩⟩
  · rw [w, oa, kzz] at hk; omega
  · rw [w, oa] at ho; rw [← ho, kzz] at hk; omega
  · rw [w] at h64 hk
    rw [oa, kzz] at hk
    have := hb hk
    omega
  · have hpp := pair_page h1.2.2.2.1 hj hl (h1.2.1 j hj hl).1 hk h64
    rw [w] at hpp
    have hja : j / 64 = a := by omega
    rw [← hpp, oa, kzz] at hk
    have := hone (by omega) j (by omega) (by omega) hl
    rw [this] at h64
    have := hb hk
    omega
/-- what takePiece answers -/
def TK (pg zn : Nat) (ow : Nat → Int) (ln : Nat → Nat) (hd : Nat → Int) (kd cl : Nat → Nat) (th : Nat → Bool) (sz zo pl : Nat → Nat) (z n : Nat) (r : Int) : Prop := (0 ≤ bst (kd z) (fr ow ln hd z) (due (kd z) n) (64 * pg) ∧ r = bst (kd z) (fr ow ln hd z) (due (kd z) n) (64 * pg)) ∨ (bst (kd z) (fr ow ln hd z) (due (kd z) n) (64 * pg) < 0 ∧ IsFP ow pg (mny (kd z) n) (-1) ∧ r = -1) ∨ (bst (kd z) (fr ow ln hd z) (due (kd z) n) (64 * pg) < 0 ∧ ∃ (a : Nat) (ow1 : Nat → Int) (ln1 : Nat → Nat) (hd1 : Nat → Int), IsFP ow pg (mny (kd z) n) a ∧ (∀ i, i < pg → ow1 i = if a ≤ i ∧ i < a + mny (kd z) n then (z : Int) else ow i) ∧ Geo pg zn ow1 ln1 hd1 kd cl th sz zo pl ∧ 0 ≤ r ∧ r = bst (kd z) (fr ow1 ln1 hd1 z) (due (kd z) n) (64 * pg))
theorem TK.uni {z n : Nat} {r r' : Int} (h : TK pg zn ow ln hd kd cl th sz zo pl z n r) (h' : TK pg zn ow ln hd kd cl th sz zo pl z n r') : r = r' := by
  rcases h with ⟨h1, h2⟩ | ⟨h1, h2, h3⟩ | ⟨h1, a, o1, l1, d1, h2, h3, h4, h5, h6⟩
  · rcases h' with ⟨g1, g2⟩ | ⟨g1, -⟩ | ⟨g1, -⟩
    · rw [h2, g2]
    · omega
    · omega
  · rcases h' with ⟨g1, -⟩ | ⟨g1, g2, g3⟩ | ⟨g1, b, -, -, -, g2, -⟩
    · omega
    · rw [h3, g3]
    · have := h2.uni g2; omega
  · rcases h' with ⟨g1, -⟩ | ⟨g1, g2, g3⟩ | ⟨g1, b, o2, l2, d2, g2, g3, g4, g5, g6⟩
    · omega
    · have := h2.uni g2; omega
    · have hab : a = b := by have := h2.uni g2; omega
      subst hab
      have hoo : ∀ k, k < pg → o2 k = o1 k := fun k hk => by rw [h3 k hk, g3 k hk]
      have u := uni1 h4 g4 hoo
      rw [h6, g6]
      refine bst_congr (fun p hp => ⟨?_, Iff.rfl⟩)
      unfold fr
      obtain ⟨u1, u2⟩ := u p hp
      rw [hoo _ (by omega), u1]
      rcases Nat.eq_zero_or_pos (l1 p) with w | w
      · rw [w]; split <;> split <;> rfl
      · rw [u2 w]
/-- the piece at p of zone z is just long enough for a block of size n -/
def Tkn (z n p : Nat) (pg zn : Nat) (ow : Nat → Int) (ln : Nat → Nat) (hd : Nat → Int) (kd cl : Nat → Nat) (th : Nat → Bool) (zo pl : Nat → Nat) : Prop := Tiled pg zn ow ln kd cl ∧ OkK pg zn ow ln hd th zo pl ∧ OkJq (fun j q => j ≠ p ∧ q ≠ p) pg ow ln hd kd ∧ (p < 64 * pg ∧ 0 < ln p ∧ hd p < 0 ∧ ow (p / 64) = z) ∧ ln p = if kd z = 0 then cl z else due (kd z) n
/-- a piece of a row is cut: blocks -/
theorem cutOk {j n : Nat} (hT : OkT pg ow ln) (hK : OkK pg zn ow ln hd th zo pl) (hj : j < 64 * pg) (hn : 0 < n) (hn2 : n < ln j) (e1 : ln1 j = n) (e3 : ∀ i, i ≠ j → i ≠ j + n → ln1 i = ln i) (d1 : hd1 (j + n) = -1) (d2 : ∀ i, i ≠ j + n → hd1 i = hd i) : OkK pg zn ow ln1 hd1 th zo pl ∧ ∀ s, s < 100 → th s = true → pl s ≠ j → ln1 (pl s) = ln (pl s) := by
  obtain ⟨t1, t2, t3⟩ := hT j hj (by omega)
  have hne : ∀ s, s < 100 → th s = true → pl s ≠ j + n := by
    intro s hs ht w
    have k3 := (hK.1 s hs ht).2.2.1
    rw [w, (t3 (j + n) (by omega) (by omega)).1] at k3
    omega
  refine ⟨⟨fun s hs ht => ?_, fun i hi hl => ?_⟩, fun s hs ht hsj => e3 _ hsj (hne s hs ht)⟩
  · obtain ⟨k1, k2, k3, k4, k5⟩ := hK.1 s hs ht
    rw [d2 _ (hne s hs ht)]
    refine ⟨k1, k2, ?_, k4, k5⟩
    by_cases w : pl s = j
    · rw [w, e1]; exact hn
    · rw [e3 _ w (hne s hs ht)]; exact k3
  · by_cases w : i = j + n
    · rw [w]; exact Or.inl d1
    · rw [d2 i w]
      by_cases v : i = j
      · rw [v]; exact hK.2 j hj (by omega)
      · rw [e3 i v w] at hl; exact hK.2 i hi hl
theorem cutJ {j n : Nat} (h : Tiled pg zn ow ln kd cl) (hj : j < 64 * pg) (hn : 0 < n) (hn2 : n < ln j) (hf : hd j < 0 ∨ j + ln j = 64 * pg ∨ ¬ ow ((j + ln j) / 64) = ow (j / 64) ∨ 0 ≤ hd (j + ln j)) (hz : 2 ≤ kz kd (ow (j / 64))) (e1 : ln1 j = n) (e2 : ln1 (j + n) = ln j - n) (e3 : ∀ i, i ≠ j → i ≠ j + n → ln1 i = ln i) (d2 : ∀ i, i ≠ j + n → hd1 i = hd i) (hJ : OkJ pg ow ln hd kd) : OkJq (fun i q => i ≠ j ∧ q ≠ j) pg ow ln1 hd1 kd := by
  obtain ⟨t1, t2, t3⟩ := h.2.1 j hj (by omega)
  have oj := (t3 (j + n) (by omega) (by omega)).2
  refine ⟨fun i hi hl hfi hk hn' ho hP => ?_, fun i hi hl hfi hk h64 hP => ?_⟩
  · by_cases w : i = j + n
    · subst w
      rw [e2, show j + n + (ln j - n) = j + ln j by omega] at hn' ho ⊢
      rw [oj] at ho
      rw [d2 _ (by omega)]
      rcases hf with v | v | v | v
      · exact hJ.1 j hj (by omega) v hz hn' ho
      · omega
      · exact absurd ho v
      · exact v
    · rw [e3 i hP.1 w] at hl hn' ho hP ⊢
      rw [d2 i w] at hfi
      have hq : i + ln i ≠ j + n := by
        rcases Nat.lt_or_ge i j with v | v
        · have := h.2.1.dj hi hl (show 0 < ln j by omega) v; omega
        · have := h.2.1.dj hj (by omega) hl (by omega); omega
      rw [d2 _ hq]
      exact hJ.1 i hi hl hfi hk hn' ho
  · have w : i ≠ j + n := fun w => by rw [w, oj] at hk; omega
    rw [e3 i hP.1 w] at hl h64 hP ⊢
    rw [d2 i w] at hfi
    have hpp := pair_page h.2.2.2.1 hi hl (h.2.1 i hi hl).1 hk h64
    have w2 : pair i (ln i) ≠ j + n := fun w2 => by rw [w2] at hpp; rw [← hpp, oj] at hk; omega
    rw [e3 _ hP.2 w2, d2 _ w2]
    exact hJ.2 i hi hl hfi hk h64
theorem cutSet {P : Nat → Prop} {j n : Nat} (h : Tiled pg zn ow ln kd cl) (hj : j < 64 * pg) (hn : 0 < n) (hn2 : n < ln j) (hPk : ∀ k, P k → ¬ ow k = ow (j / 64)) (e1 : ln1 j = n) (e2 : ln1 (j + n) = ln j - n) (e3 : ∀ i, i ≠ j → i ≠ j + n → ln1 i = ln i) (d2 : ∀ i, i ≠ j + n → hd1 i = hd i) (hS : OkSetq P pg ow ln hd kd) : OkSetq P pg ow ln1 hd1 kd := by
  obtain ⟨t1, t2, t3⟩ := h.2.1 j hj (by omega)
  have oj := (t3 (j + n) (by omega) (by omega)).2
  have ne : ∀ k i, P k → i / 64 = k → i ≠ j ∧ i ≠ j + n := fun k i hP hi => ⟨fun w => hPk k hP (by rw [← hi, w]), fun w => hPk k hP (by rw [← hi, w]; exact oj)⟩
  refine ⟨fun k hk hP h0 hz => ?_, fun k hk hP h0 hz => ?_, fun i hi hl hf hz k hP h1 h2 => ?_⟩
  · obtain ⟨x, x1, x2, x3⟩ := hS.1 k hk hP h0 hz
    obtain ⟨n1, n2⟩ := ne k (64 * k + x) hP (by omega)
    exact ⟨x, x1, by rw [e3 _ n1 n2]; exact x2, by rw [d2 _ n2]; exact x3⟩
  · obtain ⟨n1, n2⟩ := ne k (64 * k) hP (by omega)
    rw [e3 _ n1 n2, d2 _ n2]
    exact hS.2.1 k hk hP h0 hz
  · by_cases w1 : i = j
    · subst w1
      rw [e1] at h2
      have : ow k = ow (i / 64) := by
        rcases Nat.lt_or_ge i (64 * k) with u | u
        · have := (t3 (64 * k) u (by omega)).2
          rw [show 64 * k / 64 = k by omega] at this
          exact this
        · rw [show i / 64 = k by omega]
      exact hPk k hP this
    · by_cases w2 : i = j + n
      · subst w2
        rw [e2] at h2
        have := (t3 (64 * k) (by omega) (by omega)).2
        rw [show 64 * k / 64 = k by omega] at this
        exact hPk k hP this
      · rw [e3 i w1 w2] at hl h2
        rw [d2 i w2] at hf
        exact hS.2.2 i hi hl hf hz k hP h1 h2
/-- after pages came to a row there is a piece long enough -/
theorem bigPiece {z a m : Nat} (h : Tiled pg zn ow1 ln1 kd cl) (hK : OkK pg zn ow1 ln1 hd1 th zo pl) (hJ : OkJ pg ow1 ln1 hd1 kd) (hzn : z < zn) (hkz : 2 ≤ kd z) (hm : 0 < m) (ham : a + m ≤ pg) (o1 : ∀ k, a ≤ k → k < a + m → ow1 k = z) (hno : ∀ s, s < 100 → th s = true → ∀ x, pl s ≤ x → x < pl s + ln1 (pl s) → ¬ (a ≤ x / 64 ∧ x / 64 < a + m)) : ∃ p, p < 64 * pg ∧ 64 * m ≤ fr ow1 ln1 hd1 z p := by
  have kzz : kz kd (z : Int) = kd z := by unfold kz; rw [Int.toNat_natCast]
  have oa := o1 a (by omega) (by omega)
  obtain ⟨p, p1, p2, p3, p4⟩ := coverR h.2.1 h.2.2.2.2 (64 * a) (by omega) (by rw [show 64 * a / 64 = a by omega, oa]; omega) (by rw [show 64 * a / 64 = a by omega, oa, kzz]; exact hkz)
  rw [show 64 * a / 64 = a by omega, oa] at p4
  have free : ∀ q x, q < 64 * pg → 0 < ln1 q → q ≤ x → x < q + ln1 q → a ≤ x / 64 → x / 64 < a + m → hd1 q < 0 := by
    intro q x q1 q2 q3 q4 q5 q6
    rcases hK.2 q q1 q2 with w | ⟨w1, w2, w3, w4⟩
    · omega
    · exact absurd ⟨q5, q6⟩ (hno _ (by omega) w3 x (by rw [w4]; exact q3) (by rw [w4]; exact q4))
  have hfp := free p (64 * a) (by omega) p2 p1 p3 (by omega) (by omega)
  refine ⟨p, by omega, ?_⟩
  unfold fr
  rw [if_pos ⟨p4, hfp⟩]
  rcases Nat.lt_or_ge (p + ln1 p) (64 * (a + m)) with u | u
  · exfalso
    have oe := o1 ((p + ln1 p) / 64) (by omega) (by omega)
    rcases h.2.2.2.2.2 p (by omega) p2 (by rw [p4, kzz]; exact hkz) with ⟨r1, r2, r3⟩ | ⟨r1, r2⟩
    · have := hJ.1 p (by omega) p2 hfp (by rw [p4, kzz]; exact hkz) r1 r2
      have := free (p + ln1 p) (p + ln1 p) r1 r3 (Nat.le_refl _) (by omega) (by omega) (by omega)
      omega
    · exact r2 (by omega) (by rw [oe, p4])
  · omega
end TAKE
