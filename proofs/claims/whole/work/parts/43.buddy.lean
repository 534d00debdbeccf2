/-! ===== BUDDY's pieces; pages that come to a BUDDY, to a SLAB; blocks and pieces ===== -/
theorem p2_cases {n : Nat} (h : ∃ e, e ≤ 6 ∧ n = 2 ^ e) : n = 1 ∨ n = 2 ∨ n = 4 ∨ n = 8 ∨ n = 16 ∨ n = 32 ∨ n = 64 := by
  obtain ⟨e, he, rfl⟩ := h
  rcases (show e = 0 ∨ e = 1 ∨ e = 2 ∨ e = 3 ∨ e = 4 ∨ e = 5 ∨ e = 6 by omega) with rfl | rfl | rfl | rfl | rfl | rfl | rfl <;> decide
theorem p2_of {n : Nat} (h : n = 1 ∨ n = 2 ∨ n = 4 ∨ n = 8 ∨ n = 16 ∨ n = 32 ∨ n = 64) : ∃ e, e ≤ 6 ∧ n = 2 ^ e := by
  rcases h with rfl | rfl | rfl | rfl | rfl | rfl | rfl
  · exact ⟨0, by omega, rfl⟩
  · exact ⟨1, by omega, rfl⟩
  · exact ⟨2, by omega, rfl⟩
  · exact ⟨3, by omega, rfl⟩
  · exact ⟨4, by omega, rfl⟩
  · exact ⟨5, by omega, rfl⟩
  · exact ⟨6, by omega, rfl⟩
section BUD
variable {pg zn : Nat} {ow : Nat → Int} {ln kd cl : Nat → Nat} {hd : Nat → Int} {th : Nat → Bool} {sz zo pl : Nat → Nat} {ln' : Nat → Nat}
/-- what is known of a BUDDY's piece -/
theorem bud (hB : OkB pg ow ln kd) {j : Nat} (hj : j < 64 * pg) (hl : 0 < ln j) (h0 : 0 ≤ ow (j / 64)) (h1 : kz kd (ow (j / 64)) = 1) : (ln j = 1 ∨ ln j = 2 ∨ ln j = 4 ∨ ln j = 8 ∨ ln j = 16 ∨ ln j = 32 ∨ ln j = 64) ∧ j % ln j = 0 ∧ j % 64 + ln j ≤ 64 ∧ (j % 64 + ln j < 64 → 0 < ln (j + ln j)) := by
  obtain ⟨-, b1⟩ := hB (j / 64) (by omega) h0 h1
  have := b1 (j % 64) (by omega)
  rw [show 64 * (j / 64) + j % 64 = j by omega] at this
  obtain ⟨c1, c2, c3, c4⟩ := this hl
  have p := p2_cases c1
  refine ⟨p, ?_, c3, c4⟩
  rcases p with e | e | e | e | e | e | e <;> (rw [e] at c2 ⊢; omega)
theorem merge_R1 (hR : OkR pg ow ln kd) {j q : Nat} (h1 : kz kd (ow (j / 64)) < 2) (ho : ow (q / 64) = ow (j / 64)) (e3 : ∀ i, i ≠ j → i ≠ q → ln' i = ln i) : OkR pg ow ln' kd := by
  have key : ∀ i, 2 ≤ kz kd (ow (i / 64)) → ln' i = ln i := fun i hi => e3 i (fun w => by subst w; omega) (fun w => by subst w; rw [ho] at hi; omega)
  refine ⟨fun k hk h0 hz hb => ?_, fun i hi hl hz => ?_⟩
  · rw [key _ (by rw [show 64 * k / 64 = k by omega]; exact hz)]
    exact hR.1 k hk h0 hz hb
  · rw [key i hz] at hl ⊢
    rcases hR.2 i hi hl hz with ⟨r1, r2, r3⟩ | r
    · exact Or.inl ⟨r1, r2, by rw [key _ (by rw [r2]; exact hz)]; exact r3⟩
    · exact Or.inr r
theorem mergeBud (h : Tiled pg zn ow ln kd cl) {j q : Nat} (hj : j < 64 * pg) (hlj : 0 < ln j) (hq : q = j + ln j) (hlq : ln q = ln j) (hz : kz kd (ow (j / 64)) = 1) (hal : j % (2 * ln j) = 0) (hl64 : ln j < 64) (e1 : ln' j = ln j + ln q) (e2 : ln' q = 0) (e3 : ∀ i, i ≠ j → i ≠ q → ln' i = ln i) : Tiled pg zn ow ln' kd cl := by
  obtain ⟨hZ, hT, hS, hB, hR⟩ := h
  have h0 := (hT j hj hlj).1
  obtain ⟨p1, p2, p3, p4⟩ := bud hB hj hlj h0 hz
  have hq64 : q / 64 = j / 64 ∧ j % 64 + 2 * ln j ≤ 64 := by
    rcases p1 with e | e | e | e | e | e | e <;> rw [e] at hal hq ⊢ <;> omega
  have ho : ow (q / 64) = ow (j / 64) := by rw [hq64.1]
  have hq2 : q < 64 * pg := by omega
  refine ⟨hZ, merge_T hT hj hlj hq hq2 (by omega) ho e1 e2 e3, merge_S hS (by omega) ho e3, fun k hk h0 hkz => ?_, merge_R1 hR (by omega) ho e3⟩
  obtain ⟨b0, b1⟩ := hB k hk h0 hkz
  have pos : ∀ i, i ≠ q → 0 < ln i → 0 < ln' i := by
    intro i hi hl
    by_cases w : i = j
    · rw [w, e1]; omega
    · rw [e3 i w hi]; exact hl
  refine ⟨pos _ (by omega) b0, fun i hi hl => ?_⟩
  by_cases hij : 64 * k + i = j
  · rw [hij, e1, hlq]
    have hnx : 64 * k + i + (ln j + ln j) = q + ln q := by omega
    have hjk : j / 64 = k ∧ j % 64 = i := by omega
    obtain ⟨c1, c2, c3, c4⟩ := b1 (q % 64) (by omega) (by rw [show 64 * k + q % 64 = q by omega]; omega)
    rw [show 64 * k + q % 64 = q by omega, hlq] at c3 c4
    refine ⟨p2_of ?_, ?_, ?_, fun c => ?_⟩
    · rcases p1 with e | e | e | e | e | e | e <;> omega
    · rcases p1 with e | e | e | e | e | e | e <;> (rw [e] at hal ⊢; omega)
    · omega
    · have := c4 (by omega)
      refine pos _ (by omega) ?_
      rw [show j + (ln j + ln j) = q + ln j by omega]
      exact this
  · by_cases hiq : 64 * k + i = q
    · rw [hiq, e2] at hl; omega
    · rw [e3 _ hij hiq] at hl ⊢
      obtain ⟨c1, c2, c3, c4⟩ := b1 i hi hl
      refine ⟨c1, c2, c3, fun c => pos _ (fun w => ?_) (c4 c)⟩
      have hjk : j / 64 = k := by omega
      rcases Nat.lt_or_ge (64 * k + i) j with v | v
      · have := hT.dj (by omega) hl hlj v; omega
      · have := hT.dj hj hlj hl (by omega); omega
theorem cutBud (h : Tiled pg zn ow ln kd cl) {j n : Nat} (hj : j < 64 * pg) (hn : 0 < n) (hn2 : ln j = 2 * n) (hz : kz kd (ow (j / 64)) = 1) (e1 : ln' j = n) (e2 : ln' (j + n) = n) (e3 : ∀ i, i ≠ j → i ≠ j + n → ln' i = ln i) : Tiled pg zn ow ln' kd cl := by
  obtain ⟨hZ, hT, hS, hB, hR⟩ := h
  obtain ⟨h0, t2, t3⟩ := hT j hj (by omega)
  have ho := (t3 (j + n) (by omega) (by omega)).2
  obtain ⟨p1, p2, p3, p4⟩ := bud hB hj (by omega) h0 hz
  refine ⟨hZ, cut_T hT hj hn (by omega) e1 (by omega) e3, merge_S hS (by omega) ho e3, fun k hk h0 hkz => ?_, merge_R1 hR (by omega) ho e3⟩
  obtain ⟨b0, b1⟩ := hB k hk h0 hkz
  have pos : ∀ i, 0 < ln i → 0 < ln' i := by
    intro i hl
    by_cases w : i = j
    · rw [w, e1]; omega
    · by_cases w2 : i = j + n
      · rw [w2, e2]; omega
      · rw [e3 i w w2]; exact hl
  rw [hn2] at p1 p2 p3 p4
  refine ⟨pos _ b0, fun i hi hl => ?_⟩
  by_cases hij : 64 * k + i = j
  · rw [hij, e1]
    have hjk : j / 64 = k ∧ j % 64 = i := by omega
    refine ⟨p2_of (by omega), ?_, by omega, fun c => by rw [e2]; omega⟩
    rcases (show n = 1 ∨ n = 2 ∨ n = 4 ∨ n = 8 ∨ n = 16 ∨ n = 32 by omega) with e | e | e | e | e | e <;> (subst e; omega)
  · by_cases hiq : 64 * k + i = j + n
    · rw [hiq, e2]
      have hjk : j / 64 = k := by omega
      refine ⟨p2_of (by omega), ?_, by omega, fun c => pos _ ?_⟩
      · rcases (show n = 1 ∨ n = 2 ∨ n = 4 ∨ n = 8 ∨ n = 16 ∨ n = 32 by omega) with e | e | e | e | e | e <;> (subst e; omega)
      · rw [show j + n + n = j + 2 * n by omega]
        exact p4 (by omega)
    · rw [e3 _ hij hiq] at hl ⊢
      obtain ⟨c1, c2, c3, c4⟩ := b1 i hi hl
      exact ⟨c1, c2, c3, fun c => pos _ (c4 c)⟩
/-- a free page comes to a BUDDY or a SLAB, as the pieces that it then has -/
theorem addPage (h : Tiled pg zn ow ln kd cl) {ow' : Nat → Int} {a z : Nat} (ha : a < pg) (hf : ow a = -1) (hzn : z < zn) (hkz : kd z < 2) (o1 : ow' a = z) (o2 : ∀ k, k ≠ a → ow' k = ow k) (e1 : kd z = 1 → ln' (64 * a) = 64 ∧ ∀ i, 0 < i → i < 64 → ln' (64 * a + i) = 0) (e0 : kd z = 0 → ∀ i, i < 64 → ln' (64 * a + i) = if 1 ≤ i ∧ (i - 1) % cl z = 0 ∧ i + cl z ≤ 64 then cl z else 0) (e2 : ∀ j, j / 64 ≠ a → ln' j = ln j) : Tiled pg zn ow' ln' kd cl := by
  obtain ⟨hZ, hT, hS, hB, hR⟩ := h
  obtain ⟨z1, z2, z3, z4⟩ := hZ
  have kzz : kz kd (z : Int) = kd z := by unfold kz; rw [Int.toNat_natCast]
  have inside : ∀ j, j < 64 * pg → 0 < ln j → j / 64 ≠ a ∧ ∀ x, j < x → x < j + ln j → x / 64 ≠ a := by
    intro j hj hl
    obtain ⟨t1, t2, t3⟩ := hT j hj hl
    refine ⟨fun w => by rw [w, hf] at t1; omega, fun x x1 x2 w => ?_⟩
    have := (t3 x x1 x2).2
    rw [w, hf] at this
    omega
  obtain ⟨-, zc⟩ := z4 z hzn
  refine ⟨⟨z1, z2, fun k hk => ?_, z4⟩, fun j hj hl => ?_, fun k hk h0 hz i hi => ?_, fun k hk h0 hz => ?_, fun k hk h0 hz hbb => ?_, fun j hj hl hz => ?_⟩
  · by_cases w : k = a
    · rw [w, o1]; omega
    · rw [o2 k w]; exact z3 k hk
  · by_cases hja : j / 64 = a
    · rw [hja, o1]
      have hj2 : j = 64 * a + j % 64 := by omega
      rcases (show kd z = 0 ∨ kd z = 1 by omega) with k0 | k1
      · obtain ⟨c1, c2⟩ := zc k0
        have ej := e0 k0 (j % 64) (by omega)
        rw [← hj2] at ej
        by_cases hcond : 1 ≤ j % 64 ∧ (j % 64 - 1) % cl z = 0 ∧ j % 64 + cl z ≤ 64
        · rw [if_pos hcond] at ej
          rw [ej]
          refine ⟨by omega, by omega, fun x x1 x2 => ?_⟩
          have hxa : x / 64 = a := by omega
          rw [hxa, o1]
          refine ⟨?_, rfl⟩
          have ex := e0 k0 (x % 64) (by omega)
          rw [show 64 * a + x % 64 = x by omega] at ex
          rw [ex, if_neg]
          rintro ⟨-, y2, -⟩
          obtain ⟨u, hu⟩ := Nat.dvd_of_mod_eq_zero hcond.2.1
          obtain ⟨v, hv⟩ := Nat.dvd_of_mod_eq_zero y2
          have huv : u < v := by
            rcases Nat.lt_or_ge u v with w | w
            · exact w
            · have := Nat.mul_le_mul_left (cl z) w; omega
          have := Nat.mul_le_mul_left (cl z) (show u + 1 ≤ v by omega)
          rw [Nat.mul_add, Nat.mul_one] at this
          omega
        · rw [if_neg hcond] at ej; omega
      · obtain ⟨f1, f2⟩ := e1 k1
        have hm : j % 64 = 0 := by
          rcases Nat.eq_zero_or_pos (j % 64) with q | q
          · exact q
          · have := f2 (j % 64) q (by omega)
            rw [← hj2] at this; omega
        have hj3 : j = 64 * a := by omega
        subst hj3
        rw [f1]
        refine ⟨by omega, by omega, fun x x1 x2 => ?_⟩
        rw [show x / 64 = a by omega, o1]
        have := f2 (x % 64) (by omega) (by omega)
        rw [show 64 * a + x % 64 = x by omega] at this
        exact ⟨this, rfl⟩
    · rw [e2 j hja] at hl ⊢
      obtain ⟨t1, t2, t3⟩ := hT j hj hl
      obtain ⟨i1, i2⟩ := inside j hj hl
      rw [o2 _ i1]
      refine ⟨t1, t2, fun x x1 x2 => ?_⟩
      have i3 := i2 x x1 x2
      rw [o2 _ i3, e2 x i3]
      exact t3 x x1 x2
  · by_cases w : k = a
    · subst w
      rw [o1, kzz] at hz
      rw [o1, Int.toNat_natCast]
      exact e0 hz i hi
    · rw [o2 k w] at h0 hz ⊢
      rw [e2 _ (by omega)]
      exact hS k hk h0 hz i hi
  · by_cases w : k = a
    · subst w
      rw [o1, kzz] at hz
      obtain ⟨f1, f2⟩ := e1 hz
      refine ⟨by omega, fun i hi hl => ?_⟩
      have hi0 : i = 0 := by
        rcases Nat.eq_zero_or_pos i with q | q
        · exact q
        · have := f2 i q hi; omega
      subst hi0
      rw [Nat.add_zero, f1]
      exact ⟨⟨6, by omega, rfl⟩, rfl, by omega, fun c => by omega⟩
    · rw [o2 k w] at h0 hz
      obtain ⟨b0, b1⟩ := hB k hk h0 hz
      refine ⟨by rw [e2 _ (by omega)]; exact b0, fun i hi hl => ?_⟩
      rw [e2 _ (by omega)] at hl ⊢
      obtain ⟨c1, c2, c3, c4⟩ := b1 i hi hl
      exact ⟨c1, c2, c3, fun c => by rw [e2 _ (by omega)]; exact c4 c⟩
  · by_cases w : k = a
    · subst w; rw [o1, kzz] at hz; omega
    · rw [o2 k w] at h0 hz hbb
      rw [e2 _ (by omega)]
      rcases hbb with v | v
      · exact hR.1 k hk h0 hz (Or.inl v)
      · by_cases u : k - 1 = a
        · refine hR.1 k hk h0 hz (Or.inr ?_)
          rw [u, hf]; omega
        · rw [o2 _ u] at v
          exact hR.1 k hk h0 hz (Or.inr v)
  · have hja : j / 64 ≠ a := fun w => by rw [w, o1, kzz] at hz; omega
    rw [e2 j hja] at hl ⊢
    rw [o2 _ hja] at hz ⊢
    have t1 := (hT j hj hl).1
    rcases hR.2 j hj hl hz with ⟨r1, r2, r3⟩ | ⟨r1, r2⟩
    · left
      have : (j + ln j) / 64 ≠ a := fun w => by rw [w, hf] at r2; omega
      rw [o2 _ this, e2 _ this]
      exact ⟨r1, r2, r3⟩
    · right
      refine ⟨r1, fun w => ?_⟩
      by_cases u : (j + ln j) / 64 = a
      · rw [u, o1]
        intro v
        rw [← v, kzz] at hz
        omega
      · rw [o2 _ u]; exact r2 w
end BUD
