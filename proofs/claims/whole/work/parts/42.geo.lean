/-! ===== the pieces change: joined, cut, pages that go and come ===== -/
theorem OkT.dj {pg : Nat} {ow : Nat → Int} {ln : Nat → Nat} (hT : OkT pg ow ln) {i j : Nat} (hi : i < 64 * pg) (hli : 0 < ln i) (hlj : 0 < ln j) (h : i < j) : i + ln i ≤ j := by
  rcases Nat.lt_or_ge j (i + ln i) with q | q
  · have := ((hT i hi hli).2.2 j h q).1
    omega
  · exact q
section GEO
variable {pg zn : Nat} {ow : Nat → Int} {ln kd cl : Nat → Nat} {hd : Nat → Int} {th : Nat → Bool} {sz zo pl : Nat → Nat} {ln' : Nat → Nat}
/-- every place of a row is in a piece -/
theorem coverR (hT : OkT pg ow ln) (hR : OkR pg ow ln kd) : ∀ x, x < 64 * pg → 0 ≤ ow (x / 64) → 2 ≤ kz kd (ow (x / 64)) → ∃ a, a ≤ x ∧ 0 < ln a ∧ x < a + ln a ∧ ow (a / 64) = ow (x / 64) := by
  intro x
  induction x with
  | zero =>
    intro h1 h2 h3
    have : 0 < ln 0 := hR.1 0 (by omega) h2 h3 (Or.inl rfl)
    exact ⟨0, Nat.le_refl _, this, by omega, rfl⟩
  | succ x ih =>
    intro h1 h2 h3
    rcases Nat.eq_zero_or_pos (ln (x + 1)) with q | q
    · have hsame : ow (x / 64) = ow ((x + 1) / 64) := by
        by_cases hm : (x + 1) % 64 = 0
        · by_cases he : ow ((x + 1) / 64 - 1) = ow ((x + 1) / 64)
          · rw [← he, show (x + 1) / 64 - 1 = x / 64 by omega]
          · have := hR.1 ((x + 1) / 64) (by omega) h2 h3 (Or.inr he)
            rw [show 64 * ((x + 1) / 64) = x + 1 by omega] at this
            omega
        · rw [show (x + 1) / 64 = x / 64 by omega]
      rw [← hsame] at h2 h3
      obtain ⟨a, a1, a2, a3, a4⟩ := ih (by omega) h2 h3
      rcases Nat.lt_or_ge (x + 1) (a + ln a) with w | w
      · exact ⟨a, by omega, a2, w, a4.trans hsame⟩
      · exfalso
        have he : a + ln a = x + 1 := by omega
        rcases hR.2 a (by omega) a2 (by rw [a4]; exact h3) with ⟨r1, r2, r3⟩ | ⟨r1, r2⟩
        · rw [he] at r3; omega
        · rw [he] at r2
          exact r2 h1 (hsame.symm.trans a4.symm)
    · exact ⟨x + 1, Nat.le_refl _, q, by omega, rfl⟩
/-- and every place of a BUDDY's page -/
theorem coverB (hT : OkT pg ow ln) (hB : OkB pg ow ln kd) {k : Nat} (hk : k < pg) (h0 : 0 ≤ ow k) (h1 : kz kd (ow k) = 1) : ∀ i, i < 64 → ∃ a, a ≤ i ∧ 0 < ln (64 * k + a) ∧ i < a + ln (64 * k + a) := by
  obtain ⟨b0, b1⟩ := hB k hk h0 h1
  intro i
  induction i with
  | zero => intro _; exact ⟨0, Nat.le_refl _, b0, by rw [Nat.add_zero]; omega⟩
  | succ i ih =>
    intro hi
    obtain ⟨a, a1, a2, a3⟩ := ih (by omega)
    rcases Nat.lt_or_ge (i + 1) (a + ln (64 * k + a)) with w | w
    · exact ⟨a, by omega, a2, w⟩
    · obtain ⟨-, -, c1, c2⟩ := b1 a (by omega) a2
      have := c2 (by omega)
      rw [show 64 * k + a + ln (64 * k + a) = 64 * k + (i + 1) by omega] at this
      exact ⟨i + 1, Nat.le_refl _, this, by omega⟩
/-- two pieces that touch are joined -/
theorem merge_T (hT : OkT pg ow ln) {j q : Nat} (hj : j < 64 * pg) (hlj : 0 < ln j) (hq : q = j + ln j) (hq2 : q < 64 * pg) (hlq : 0 < ln q) (ho : ow (q / 64) = ow (j / 64)) (e1 : ln' j = ln j + ln q) (e2 : ln' q = 0) (e3 : ∀ i, i ≠ j → i ≠ q → ln' i = ln i) : OkT pg ow ln' := by
  intro i hi hl
  obtain ⟨j1, j2, j3⟩ := hT j hj hlj
  obtain ⟨q1, q2, q3⟩ := hT q hq2 hlq
  by_cases hij : i = j
  · subst hij
    rw [e1] at hl ⊢
    refine ⟨j1, by omega, fun x x1 x2 => ?_⟩
    by_cases hx : x = q
    · subst hx; exact ⟨e2, ho⟩
    · rw [e3 x (by omega) hx]
      rcases Nat.lt_or_ge x q with w | w
      · exact j3 x x1 (by omega)
      · obtain ⟨y1, y2⟩ := q3 x (by omega) (by omega)
        exact ⟨y1, y2.trans ho⟩
  · by_cases hiq : i = q
    · subst hiq; omega
    · rw [e3 i hij hiq] at hl ⊢
      obtain ⟨i1, i2, i3⟩ := hT i hi hl
      refine ⟨i1, i2, fun x x1 x2 => ?_⟩
      obtain ⟨y1, y2⟩ := i3 x x1 x2
      rw [e3 x (fun w => by subst w; omega) (fun w => by subst w; omega)]
      exact ⟨y1, y2⟩
theorem merge_S (hS : OkS pg ow ln kd cl) {j q : Nat} (h1 : ¬ kz kd (ow (j / 64)) = 0) (ho : ow (q / 64) = ow (j / 64)) (e3 : ∀ i, i ≠ j → i ≠ q → ln' i = ln i) : OkS pg ow ln' kd cl := by
  intro k hk h0 hz i hi
  rw [e3 _ (fun w => by subst w; rw [show (64 * k + i) / 64 = k by omega] at h1; exact h1 hz) (fun w => by subst w; rw [show (64 * k + i) / 64 = k by omega] at ho; rw [← ho] at h1; exact h1 hz)]
  exact hS k hk h0 hz i hi
theorem merge_Brow (hB : OkB pg ow ln kd) {j q : Nat} (h1 : 2 ≤ kz kd (ow (j / 64))) (ho : ow (q / 64) = ow (j / 64)) (e3 : ∀ i, i ≠ j → i ≠ q → ln' i = ln i) : OkB pg ow ln' kd := by
  intro k hk h0 hz
  have key : ∀ i, i < 64 → ln' (64 * k + i) = ln (64 * k + i) := fun i hi => e3 _ (fun w => by subst w; rw [show (64 * k + i) / 64 = k by omega] at h1; omega) (fun w => by subst w; rw [show (64 * k + i) / 64 = k by omega] at ho; rw [← ho] at h1; omega)
  obtain ⟨b0, b1⟩ := hB k hk h0 hz
  have k0 := key 0 (by omega)
  rw [Nat.add_zero] at k0
  refine ⟨by rw [k0]; exact b0, fun i hi hl => ?_⟩
  rw [key i hi] at hl ⊢
  obtain ⟨c1, c2, c3, c4⟩ := b1 i hi hl
  refine ⟨c1, c2, c3, fun c => ?_⟩
  rw [show 64 * k + i + ln (64 * k + i) = 64 * k + (i + ln (64 * k + i)) by omega, key _ c]
  have := c4 c
  rw [show 64 * k + i + ln (64 * k + i) = 64 * k + (i + ln (64 * k + i)) by omega] at this
  exact this
theorem merge_Rrow (hT : OkT pg ow ln) (hR : OkR pg ow ln kd) {j q : Nat} (hj : j < 64 * pg) (hlj : 0 < ln j) (hq : q = j + ln j) (hq2 : q < 64 * pg) (hlq : 0 < ln q) (ho : ow (q / 64) = ow (j / 64)) (e1 : ln' j = ln j + ln q) (e2 : ln' q = 0) (e3 : ∀ i, i ≠ j → i ≠ q → ln' i = ln i) : OkR pg ow ln' kd := by
  obtain ⟨j1, j2, j3⟩ := hT j hj hlj
  obtain ⟨q1, q2, q3⟩ := hT q hq2 hlq
  refine ⟨fun k hk h0 hz hb => ?_, fun i hi hl hz => ?_⟩
  · have := hR.1 k hk h0 hz hb
    by_cases w1 : 64 * k = j
    · rw [w1, e1]; omega
    · by_cases w2 : 64 * k = q
      · exfalso
        have hlast : ow ((q - 1) / 64) = ow (j / 64) := by
          rcases Nat.lt_or_ge j (q - 1) with v | v
          · exact (j3 (q - 1) v (by omega)).2
          · rw [show q - 1 = j by omega]
        rw [show (q - 1) / 64 = k - 1 by omega] at hlast
        rw [show q / 64 = k by omega] at ho
        rcases hb with v | v
        · omega
        · exact v (hlast.trans ho.symm)
      · rw [e3 _ w1 w2]; exact this
  · by_cases hij : i = j
    · subst hij
      rw [e1]
      rw [show i + (ln i + ln q) = q + ln q by omega]
      rcases hR.2 q hq2 hlq (by rw [ho]; exact hz) with ⟨r1, r2, r3⟩ | ⟨r1, r2⟩
      · left
        rw [e3 _ (by omega) (by omega)]
        exact ⟨r1, r2.trans ho, r3⟩
      · right
        exact ⟨r1, fun w => by rw [← ho]; exact r2 w⟩
    · by_cases hiq : i = q
      · subst hiq; omega
      · rw [e3 i hij hiq] at hl ⊢
        rcases hR.2 i hi hl hz with ⟨r1, r2, r3⟩ | r
        · left
          refine ⟨r1, r2, ?_⟩
          by_cases w1 : i + ln i = j
          · rw [w1, e1]; omega
          · by_cases w2 : i + ln i = q
            · exfalso
              rcases Nat.lt_or_ge i j with v | v
              · have := hT.dj hi hl hlj v; omega
              · have := hT.dj hj hlj hl (by omega); omega
            · rw [e3 _ w1 w2]; exact r3
        · exact Or.inr r
theorem mergeRow (h : Tiled pg zn ow ln kd cl) {j q : Nat} (hj : j < 64 * pg) (hlj : 0 < ln j) (hq : q = j + ln j) (hq2 : q < 64 * pg) (hlq : 0 < ln q) (ho : ow (q / 64) = ow (j / 64)) (hz : 2 ≤ kz kd (ow (j / 64))) (e1 : ln' j = ln j + ln q) (e2 : ln' q = 0) (e3 : ∀ i, i ≠ j → i ≠ q → ln' i = ln i) : Tiled pg zn ow ln' kd cl := by
  obtain ⟨hZ, hT, hS, hB, hR⟩ := h
  exact ⟨hZ, merge_T hT hj hlj hq hq2 hlq ho e1 e2 e3, merge_S hS (by omega) ho e3, merge_Brow hB hz ho e3, merge_Rrow hT hR hj hlj hq hq2 hlq ho e1 e2 e3⟩
/-- a piece is cut -/
theorem cut_T (hT : OkT pg ow ln) {j n : Nat} (hj : j < 64 * pg) (hn : 0 < n) (hn2 : n < ln j) (e1 : ln' j = n) (e2 : ln' (j + n) = ln j - n) (e3 : ∀ i, i ≠ j → i ≠ j + n → ln' i = ln i) : OkT pg ow ln' := by
  intro i hi hl
  obtain ⟨j1, j2, j3⟩ := hT j hj (by omega)
  by_cases hij : i = j
  · subst hij
    rw [e1]
    refine ⟨j1, by omega, fun x x1 x2 => ?_⟩
    rw [e3 x (by omega) (by omega)]
    exact j3 x x1 (by omega)
  · by_cases hiq : i = j + n
    · subst hiq
      rw [e2]
      have := j3 (j + n) (by omega) (by omega)
      refine ⟨by rw [this.2]; exact j1, by omega, fun x x1 x2 => ?_⟩
      rw [e3 x (by omega) (by omega), this.2]
      exact j3 x (by omega) (by omega)
    · rw [e3 i hij hiq] at hl ⊢
      obtain ⟨i1, i2, i3⟩ := hT i hi hl
      refine ⟨i1, i2, fun x x1 x2 => ?_⟩
      obtain ⟨y1, y2⟩ := i3 x x1 x2
      rw [e3 x (fun w => by subst w; omega) (fun w => by
        subst w
        rcases Nat.lt_or_ge i j with v | v
        · have := hT.dj hi hl (show 0 < ln j by omega) v; omega
        · have := hT.dj hj (by omega) hl (by omega); omega)]
      exact ⟨y1, y2⟩
theorem cut_Rrow (hT : OkT pg ow ln) (hR : OkR pg ow ln kd) {j n : Nat} (hj : j < 64 * pg) (hn : 0 < n) (hn2 : n < ln j) (e1 : ln' j = n) (e2 : ln' (j + n) = ln j - n) (e3 : ∀ i, i ≠ j → i ≠ j + n → ln' i = ln i) : OkR pg ow ln' kd := by
  obtain ⟨j1, j2, j3⟩ := hT j hj (by omega)
  have pos : ∀ i, 0 < ln i → 0 < ln' i := by
    intro i hi
    by_cases w1 : i = j
    · rw [w1, e1]; exact hn
    · by_cases w2 : i = j + n
      · rw [w2, e2]; omega
      · rw [e3 i w1 w2]; exact hi
  have hjn := j3 (j + n) (by omega) (by omega)
  refine ⟨fun k hk h0 hz hb => pos _ (hR.1 k hk h0 hz hb), fun i hi hl hz => ?_⟩
  by_cases hij : i = j
  · subst hij
    rw [e1]
    exact Or.inl ⟨by omega, hjn.2, by rw [e2]; omega⟩
  · by_cases hiq : i = j + n
    · subst hiq
      rw [e2, hjn.2, show j + n + (ln j - n) = j + ln j by omega]
      rw [hjn.2] at hz
      rcases hR.2 j hj (by omega) hz with ⟨r1, r2, r3⟩ | r
      · exact Or.inl ⟨r1, r2, pos _ r3⟩
      · exact Or.inr r
    · rw [e3 i hij hiq] at hl ⊢
      rcases hR.2 i hi hl hz with ⟨r1, r2, r3⟩ | r
      · exact Or.inl ⟨r1, r2, pos _ r3⟩
      · exact Or.inr r
theorem cutRow (h : Tiled pg zn ow ln kd cl) {j n : Nat} (hj : j < 64 * pg) (hn : 0 < n) (hn2 : n < ln j) (hz : 2 ≤ kz kd (ow (j / 64))) (e1 : ln' j = n) (e2 : ln' (j + n) = ln j - n) (e3 : ∀ i, i ≠ j → i ≠ j + n → ln' i = ln i) : Tiled pg zn ow ln' kd cl := by
  obtain ⟨hZ, hT, hS, hB, hR⟩ := h
  have ho := ((hT j hj (by omega)).2.2 (j + n) (by omega) (by omega)).2
  exact ⟨hZ, cut_T hT hj hn hn2 e1 e2 e3, merge_S hS (by omega) ho e3, merge_Brow hB hz ho e3, cut_Rrow hT hR hj hn hn2 e1 e2 e3⟩
/-- pages [a, b) go, with all that lies in them -/
theorem dropPages (h : Tiled pg zn ow ln kd cl) {ow' : Nat → Int} {a b : Nat} (hab : a ≤ b) (hb : b ≤ pg) (hin : ∀ j, j < 64 * pg → 0 < ln j → 64 * a ≤ j → j < 64 * b → j + ln j ≤ 64 * b) (hout : ∀ j, j < 64 * a → 0 < ln j → j + ln j ≤ 64 * a) (o1 : ∀ k, a ≤ k → k < b → ow' k = -1) (o2 : ∀ k, ¬ (a ≤ k ∧ k < b) → ow' k = ow k) (e1 : ∀ j, 64 * a ≤ j → j < 64 * b → ln' j = 0) (e2 : ∀ j, ¬ (64 * a ≤ j ∧ j < 64 * b) → ln' j = ln j) : Tiled pg zn ow' ln' kd cl := by
  obtain ⟨hZ, hT, hS, hB, hR⟩ := h
  obtain ⟨z1, z2, z3, z4⟩ := hZ
  have hown : ∀ k, 0 ≤ ow' k → ¬ (a ≤ k ∧ k < b) ∧ ow' k = ow k := by
    intro k hk
    by_cases w : a ≤ k ∧ k < b
    · have := o1 k w.1 w.2; omega
    · exact ⟨w, o2 k w⟩
  have hlen : ∀ j, 0 < ln' j → ¬ (64 * a ≤ j ∧ j < 64 * b) ∧ ln' j = ln j := by
    intro j hj
    by_cases w : 64 * a ≤ j ∧ j < 64 * b
    · have := e1 j w.1 w.2; omega
    · exact ⟨w, e2 j w⟩
  refine ⟨⟨z1, z2, fun k hk => ?_, z4⟩, fun j hj hl => ?_, fun k hk h0 hz i hi => ?_, fun k hk h0 hz => ?_, fun k hk h0 hz hbb => ?_, fun j hj hl hz => ?_⟩
  · by_cases w : a ≤ k ∧ k < b
    · exact Or.inl (o1 k w.1 w.2)
    · rw [o2 k w]; exact z3 k hk
  · obtain ⟨w, e⟩ := hlen j hl
    rw [e] at hl ⊢
    obtain ⟨t1, t2, t3⟩ := hT j hj hl
    have hj2 : ¬ (a ≤ j / 64 ∧ j / 64 < b) := by omega
    rw [o2 _ hj2]
    refine ⟨t1, t2, fun x x1 x2 => ?_⟩
    have hx : ¬ (64 * a ≤ x ∧ x < 64 * b) := by
      rcases Nat.lt_or_ge j (64 * a) with v | v
      · have := hout j v hl; omega
      · omega
    rw [e2 x hx, o2 (x / 64) (by omega)]
    exact t3 x x1 x2
  · obtain ⟨w, e⟩ := hown k h0
    rw [e] at h0 hz ⊢
    rw [e2 _ (by omega)]
    exact hS k hk h0 hz i hi
  · obtain ⟨w, e⟩ := hown k h0
    rw [e] at h0 hz
    obtain ⟨b0, b1⟩ := hB k hk h0 hz
    refine ⟨by rw [e2 _ (by omega)]; exact b0, fun i hi hl => ?_⟩
    rw [e2 _ (by omega)] at hl ⊢
    obtain ⟨c1, c2, c3, c4⟩ := b1 i hi hl
    exact ⟨c1, c2, c3, fun c => by rw [e2 _ (by omega)]; exact c4 c⟩
  · obtain ⟨w, e⟩ := hown k h0
    rw [e] at h0 hz hbb
    rw [e2 _ (by omega)]
    rcases hbb with v | v
    · exact hR.1 k hk h0 hz (Or.inl v)
    · by_cases u : a ≤ k - 1 ∧ k - 1 < b
      · by_cases hs : ow (k - 1) = ow k
        · have hkb : k = b ∧ 0 < k := by
            by_cases hk0 : k = 0
            · subst hk0; omega
            · omega
          obtain ⟨x, x1, x2, x3, x4⟩ := coverR hT hR (64 * k - 1) (by omega) (by rw [show (64 * k - 1) / 64 = k - 1 by omega, hs]; exact h0) (by rw [show (64 * k - 1) / 64 = k - 1 by omega, hs]; exact hz)
          rw [show (64 * k - 1) / 64 = k - 1 by omega] at x4
          have hend : x + ln x = 64 * k := by
            rcases Nat.lt_or_ge x (64 * a) with y | y
            · have := hout x y x2; omega
            · have := hin x (by omega) x2 y (by omega); omega
          rcases hR.2 x (by omega) x2 (by rw [x4, hs]; exact hz) with ⟨r1, r2, r3⟩ | ⟨r1, r2⟩
          · rw [hend] at r3; exact r3
          · exfalso
            rw [hend, show 64 * k / 64 = k by omega, x4] at r2
            exact r2 (by omega) hs.symm
        · exact hR.1 k hk h0 hz (Or.inr hs)
      · rw [o2 _ u] at v
        exact hR.1 k hk h0 hz (Or.inr v)
  · obtain ⟨w, e⟩ := hlen j hl
    rw [e] at hl ⊢
    have hj2 : ¬ (a ≤ j / 64 ∧ j / 64 < b) := by omega
    rw [o2 _ hj2] at hz ⊢
    have t1 := (hT j hj hl).1
    by_cases v : a ≤ (j + ln j) / 64 ∧ (j + ln j) / 64 < b
    · right
      have hja : j < 64 * a := by omega
      have := hout j hja hl
      refine ⟨by omega, fun _ => ?_⟩
      rw [o1 _ v.1 v.2]
      omega
    · rw [o2 _ v]
      rcases hR.2 j hj hl hz with ⟨r1, r2, r3⟩ | r
      · exact Or.inl ⟨r1, r2, by rw [e2 _ (by omega)]; exact r3⟩
      · exact Or.inr r
/-- free pages [a, a + n) come to a row's zone -/
theorem addRow (h : Tiled pg zn ow ln kd cl) {ow' : Nat → Int} {a n z : Nat} (hn : 0 < n) (ha : a + n ≤ pg) (hf : ∀ k, a ≤ k → k < a + n → ow k = -1) (hzn : z < zn) (hkz : 2 ≤ kd z) (o1 : ∀ k, a ≤ k → k < a + n → ow' k = z) (o2 : ∀ k, ¬ (a ≤ k ∧ k < a + n) → ow' k = ow k) (e1 : ln' (64 * a) = 64 * n) (e2 : ∀ j, j ≠ 64 * a → ln' j = ln j) : Tiled pg zn ow' ln' kd cl := by
  obtain ⟨hZ, hT, hS, hB, hR⟩ := h
  obtain ⟨z1, z2, z3, z4⟩ := hZ
  have kzz : kz kd (z : Int) = kd z := by unfold kz; rw [Int.toNat_natCast]
  have empty : ∀ j, 64 * a ≤ j → j < 64 * (a + n) → ln j = 0 := by
    intro j h1 h2
    rcases Nat.eq_zero_or_pos (ln j) with q | q
    · exact q
    · have := (hT j (by omega) q).1
      rw [hf (j / 64) (by omega) (by omega)] at this
      omega
  have inside : ∀ j, j < 64 * pg → 0 < ln j → (¬ (a ≤ j / 64 ∧ j / 64 < a + n)) ∧ ∀ x, j < x → x < j + ln j → ¬ (a ≤ x / 64 ∧ x / 64 < a + n) := by
    intro j hj hl
    obtain ⟨t1, t2, t3⟩ := hT j hj hl
    refine ⟨fun w => by rw [hf _ w.1 w.2] at t1; omega, fun x x1 x2 w => ?_⟩
    have := (t3 x x1 x2).2
    rw [hf _ w.1 w.2] at this
    omega
  refine ⟨⟨z1, z2, fun k hk => ?_, z4⟩, fun j hj hl => ?_, fun k hk h0 hz i hi => ?_, fun k hk h0 hz => ?_, fun k hk h0 hz hbb => ?_, fun j hj hl hz => ?_⟩
  · by_cases w : a ≤ k ∧ k < a + n
    · rw [o1 k w.1 w.2]; omega
    · rw [o2 k w]; exact z3 k hk
  · by_cases hj0 : j = 64 * a
    · subst hj0
      rw [e1, o1 _ (by omega) (by omega)]
      refine ⟨by omega, by omega, fun x x1 x2 => ?_⟩
      rw [e2 x (by omega), o1 _ (by omega) (by omega)]
      exact ⟨empty x (by omega) (by omega), rfl⟩
    · rw [e2 j hj0] at hl ⊢
      obtain ⟨t1, t2, t3⟩ := hT j hj hl
      obtain ⟨i1, i2⟩ := inside j hj hl
      rw [o2 _ i1]
      refine ⟨t1, t2, fun x x1 x2 => ?_⟩
      have i3 := i2 x x1 x2
      rw [o2 _ i3, e2 x (by omega)]
      exact t3 x x1 x2
  · by_cases w : a ≤ k ∧ k < a + n
    · rw [o1 k w.1 w.2, kzz] at hz; omega
    · rw [o2 k w] at h0 hz ⊢
      rw [e2 _ (by omega)]
      exact hS k hk h0 hz i hi
  · by_cases w : a ≤ k ∧ k < a + n
    · rw [o1 k w.1 w.2, kzz] at hz; omega
    · rw [o2 k w] at h0 hz
      obtain ⟨b0, b1⟩ := hB k hk h0 hz
      refine ⟨by rw [e2 _ (by omega)]; exact b0, fun i hi hl => ?_⟩
      rw [e2 _ (by omega)] at hl ⊢
      obtain ⟨c1, c2, c3, c4⟩ := b1 i hi hl
      exact ⟨c1, c2, c3, fun c => by rw [e2 _ (by omega)]; exact c4 c⟩
  · by_cases hk0 : k = a
    · subst hk0; rw [e1]; omega
    · rw [e2 _ (by omega)]
      by_cases w : a ≤ k ∧ k < a + n
      · exfalso
        rcases hbb with v | v
        · omega
        · rw [o1 k w.1 w.2, o1 (k - 1) (by omega) (by omega)] at v
          exact v rfl
      · rw [o2 k w] at h0 hz hbb
        rcases hbb with v | v
        · exact hR.1 k hk h0 hz (Or.inl v)
        · by_cases u : a ≤ k - 1 ∧ k - 1 < a + n
          · refine hR.1 k hk h0 hz (Or.inr ?_)
            rw [hf _ u.1 u.2]
            omega
          · rw [o2 _ u] at v
            exact hR.1 k hk h0 hz (Or.inr v)
  · by_cases hj0 : j = 64 * a
    · subst hj0
      rw [e1, show 64 * a / 64 = a by omega, o1 a (by omega) (by omega), show 64 * a + 64 * n = 64 * (a + n) by omega, show 64 * (a + n) / 64 = a + n by omega]
      by_cases w : 64 * (a + n) < 64 * pg ∧ ow' (a + n) = z
      · left
        refine ⟨w.1, w.2, ?_⟩
        rw [e2 _ (by omega)]
        have w2 := w.2
        rw [o2 _ (by omega)] at w2
        refine hR.1 (a + n) (by omega) (by omega) (by rw [w2, kzz]; exact hkz) (Or.inr ?_)
        rw [hf (a + n - 1) (by omega) (by omega)]
        omega
      · right
        exact ⟨by omega, fun v u => w ⟨v, u⟩⟩
    · rw [e2 j hj0] at hl ⊢
      obtain ⟨t1, t2, t3⟩ := hT j hj hl
      obtain ⟨i1, i2⟩ := inside j hj hl
      rw [o2 _ i1] at hz ⊢
      rcases hR.2 j hj hl hz with ⟨r1, r2, r3⟩ | ⟨r1, r2⟩
      · left
        have : ¬ (a ≤ (j + ln j) / 64 ∧ (j + ln j) / 64 < a + n) := fun w => by
          rw [hf _ w.1 w.2] at r2; omega
        rw [o2 _ this, e2 _ (by omega)]
        exact ⟨r1, r2, r3⟩
      · by_cases w : a ≤ (j + ln j) / 64 ∧ (j + ln j) / 64 < a + n
        · rw [o1 _ w.1 w.2]
          by_cases u : (z : Int) = ow (j / 64)
          · left
            refine ⟨by omega, u, ?_⟩
            have hlast : ¬ (a ≤ (j + ln j - 1) / 64 ∧ (j + ln j - 1) / 64 < a + n) := by
              rcases Nat.lt_or_ge j (j + ln j - 1) with v | v
              · exact i2 _ v (by omega)
              · rw [show j + ln j - 1 = j by omega]; exact i1
            have : j + ln j = 64 * a := by omega
            rw [this, e1]
            omega
          · right
            exact ⟨r1, fun _ => u⟩
        · rw [o2 _ w]
          exact Or.inr ⟨r1, r2⟩
end GEO
