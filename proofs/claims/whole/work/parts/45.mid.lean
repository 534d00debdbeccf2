/-! ===== within an act ===== -/
def OkJq (P : Nat → Nat → Prop) (pg : Nat) (ow : Nat → Int) (ln : Nat → Nat) (hd : Nat → Int) (kd : Nat → Nat) : Prop := (∀ j, j < 64 * pg → 0 < ln j → hd j < 0 → 2 ≤ kz kd (ow (j / 64)) → j + ln j < 64 * pg → ow ((j + ln j) / 64) = ow (j / 64) → P j (j + ln j) → 0 ≤ hd (j + ln j)) ∧ ∀ j, j < 64 * pg → 0 < ln j → hd j < 0 → kz kd (ow (j / 64)) = 1 → ln j < 64 → P j (pair j (ln j)) → ¬ (ln (pair j (ln j)) = ln j ∧ hd (pair j (ln j)) < 0)
def OkSetq (P : Nat → Prop) (pg : Nat) (ow : Nat → Int) (ln : Nat → Nat) (hd : Nat → Int) (kd : Nat → Nat) : Prop := (∀ k, k < pg → P k → 0 ≤ ow k → kz kd (ow k) = 0 → ∃ i, i < 64 ∧ 0 < ln (64 * k + i) ∧ 0 ≤ hd (64 * k + i)) ∧ (∀ k, k < pg → P k → 0 ≤ ow k → kz kd (ow k) = 1 → ¬ (ln (64 * k) = 64 ∧ hd (64 * k) < 0)) ∧ ∀ j, j < 64 * pg → 0 < ln j → hd j < 0 → 2 ≤ kz kd (ow (j / 64)) → ∀ k, P k → j ≤ 64 * k → ¬ 64 * k + 64 ≤ j + ln j
/-- nothing but owners and pieces has changed -/
def AgP (σ σ' : SS) : Prop := (∀ k, gI σ' k = gI σ k) ∧ (∀ k, k ≠ 0 → k ≠ 1 → gA σ' k = gA σ k) ∧ (∀ k, gB σ' k = gB σ k) ∧ ∀ k, gL σ' k = gL σ k
theorem AgP.rf (σ : SS) : AgP σ σ := ⟨fun _ => rfl, fun _ _ _ => rfl, fun _ => rfl, fun _ => rfl⟩
theorem AgP.tr {a b c : SS} (h1 : AgP a b) (h2 : AgP b c) : AgP a c := ⟨fun k => (h2.1 k).trans (h1.1 k), fun k h0 h1' => (h2.2.1 k h0 h1').trans (h1.2.1 k h0 h1'), fun k => (h2.2.2.1 k).trans (h1.2.2.1 k), fun k => (h2.2.2.2 k).trans (h1.2.2.2 k)⟩
theorem AgP.m1 (σ : SS) (p : Nat) (v : Int32) : AgP σ (sA σ 1 p v) := ⟨fun _ => rfl, fun k _ h1 => gA_sA_ne _ _ _ h1, fun _ => rfl, fun _ => rfl⟩
theorem AgP.m0 (σ : SS) (p : Nat) (v : Int32) : AgP σ (sA σ 0 p v) := ⟨fun _ => rfl, fun k h0 _ => gA_sA_ne _ _ _ h0, fun _ => rfl, fun _ => rfl⟩
theorem x_mark {σ : SS} {p : Nat} {v : Int32} (h : p < 2560) {Q : SS → Prop} (k : Q (sA σ 1 p v)) : wX3_mark (nI p) v σ Q := by
  unfold wX3_mark
  refine ⟨fun c => absurd c (nI_pos (by omega)), fun _ => ⟨fun c => absurd c (nI_ge (b := 2560) h (by omega)), fun _ => ⟨vp_in_nI h (by omega), ?_⟩⟩⟩
  rw [nI_clamp (by omega)]
  exact k
section MID
variable {pg zn : Nat} {ow ow' : Nat → Int} {ln ln' kd cl : Nat → Nat} {hd hd' : Nat → Int} {th : Nat → Bool} {sz zo pl : Nat → Nat} {bw : Nat → Int64} {σ σ' : SS}
theorem XZ.agp (h : XZ zn kd cl bw σ) (a : AgP σ σ') : XZ zn kd cl bw σ' := by
  unfold XZ at h ⊢
  rw [a.1 1, a.2.1 2 (by omega) (by omega), a.2.2.1 1]
  exact h
theorem XB.agp (h : XB ln th sz zo pl σ) (a : AgP σ σ') (hl : ∀ s, s < 100 → th s = true → ln' (pl s) = ln (pl s)) : XB ln' th sz zo pl σ' := by
  unfold XB at h ⊢
  rw [a.2.1 4 (by omega) (by omega), a.2.1 5 (by omega) (by omega), a.2.1 6 (by omega) (by omega), a.2.1 7 (by omega) (by omega)]
  intro s hs
  obtain ⟨h1, h2⟩ := h s hs
  exact ⟨fun ht => by rw [hl s hs ht]; exact h1 ht, h2⟩
/-- a piece of a BUDDY or a row lies ahead of a walk's point, begins there, or lies behind -/
theorem bdCut (h : Tiled pg zn ow ln kd cl) {p j : Nat} (hb : Bd pg ow ln kd cl p) (hp : p < 64 * pg) (hj : j < 64 * pg) (hl : 0 < ln j) (hkz : ¬ kz kd (ow (j / 64)) = 0) : j + ln j ≤ p ∨ j = p ∨ eo ow ln p ≤ j := by
  obtain ⟨b1, b2, b3, b4⟩ := eoBd h hb hp
  rcases Nat.lt_trichotomy j p with u | u | u
  · left
    rcases Nat.lt_or_ge p (j + ln j) with v | v
    · exfalso
      obtain ⟨t1, t2, t3⟩ := h.2.1 j hj hl
      obtain ⟨w1, w2⟩ := t3 p u v
      rcases hb with y | ⟨-, ⟨y, -⟩ | ⟨-, y | ⟨y, -⟩⟩⟩
      · omega
      · omega
      · omega
      · rw [w2] at y; exact hkz y
    · exact v
  · exact Or.inr (Or.inl u)
  · right; right
    rcases Nat.lt_or_ge j (eo ow ln p) with v | v
    · have := (b4 j u v).1; omega
    · exact v
theorem pair_page (hB : OkB pg ow ln kd) {j : Nat} (hj : j < 64 * pg) (hl : 0 < ln j) (h0 : 0 ≤ ow (j / 64)) (h1 : kz kd (ow (j / 64)) = 1) (h64 : ln j < 64) : pair j (ln j) / 64 = j / 64 := by
  obtain ⟨p1, p2, -⟩ := bud hB hj hl h0 h1
  unfold pair
  rcases p1 with e | e | e | e | e | e | e <;> (rw [e] at p2 h64 ⊢; split <;> omega)
/-- pages [a, b) of a free piece at p go -/
def LetGo (pg : Nat) (ow : Nat → Int) (ln : Nat → Nat) (hd : Nat → Int) (ow' : Nat → Int) (ln' : Nat → Nat) (hd' : Nat → Int) (p a b : Nat) : Prop := (p < 64 * pg ∧ 0 < ln p ∧ hd p < 0 ∧ p ≤ 64 * a ∧ a < b ∧ 64 * b ≤ p + ln p) ∧ (∀ k, a ≤ k → k < b → ow' k = -1) ∧ (∀ k, ¬ (a ≤ k ∧ k < b) → ow' k = ow k) ∧ ln' p = 64 * a - p ∧ (∀ j, 64 * a ≤ j → j < 64 * b → ln' j = 0) ∧ (64 * b < p + ln p → ln' (64 * b) = p + ln p - 64 * b ∧ hd' (64 * b) = -1) ∧ (∀ j, j ≠ p → ¬ (64 * a ≤ j ∧ j < 64 * b) → (j = 64 * b → ¬ 64 * b < p + ln p) → ln' j = ln j) ∧ ∀ j, (j = 64 * b → ¬ 64 * b < p + ln p) → hd' j = hd j
theorem LetGo.out {p a b : Nat} (g : LetGo pg ow ln hd ow' ln' hd' p a b) (hT : OkT pg ow ln) {j : Nat} (hl : 0 < ln j) (hjp : j ≠ p) : (j < p ∨ p + ln p ≤ j) ∧ ln' j = ln j ∧ hd' j = hd j := by
  obtain ⟨⟨g1, g2, g3, g4, g5, g6⟩, o1, o2, e1, e2, e3, e4, e5⟩ := g
  have hout : j < p ∨ p + ln p ≤ j := by
    rcases Nat.lt_or_ge j p with u | u
    · exact Or.inl u
    · exact Or.inr (hT.dj g1 g2 hl (by omega))
  exact ⟨hout, e4 j hjp (by omega) (by omega), e5 j (by omega)⟩
theorem LetGo.til {p a b : Nat} (g : LetGo pg ow ln hd ow' ln' hd' p a b) (h : Tiled pg zn ow ln kd cl) (hz : 2 ≤ kz kd (ow (p / 64))) : Tiled pg zn ow' ln' kd cl := by
  obtain ⟨⟨g1, g2, g3, g4, g5, g6⟩, o1, o2, e1, e2, e3, e4, e5⟩ := id g
  obtain ⟨t1, t2, t3⟩ := h.2.1 p g1 g2
  -- cut at 64 a
  obtain ⟨l1, h1, p1, q1, r1, s1⟩ : ∃ l1 : Nat → Nat, Tiled pg zn ow l1 kd cl ∧ l1 (64 * a) = p + ln p - 64 * a ∧ (∀ j, p < j → j < p + ln p → j ≠ 64 * a → l1 j = 0) ∧ (∀ j, (j < p ∨ p + ln p ≤ j) → l1 j = ln j) ∧ (p < 64 * a → l1 p = 64 * a - p) := by
    rcases Nat.lt_or_ge p (64 * a) with u | u
    · refine ⟨fun j => if j = p then 64 * a - p else if j = 64 * a then p + ln p - 64 * a else ln j, cutRow h (j := p) (n := 64 * a - p) g1 (by omega) (by omega) hz ?_ ?_ ?_, ?_, ?_, ?_, ?_⟩
      · show (if p = p then _ else _) = _
        rw [if_pos rfl]
      · show (if p + (64 * a - p) = p then _ else _) = _
        rw [if_neg (by omega), if_pos (by omega)]
        omega
      · intro i i1 i2
        show (if i = p then _ else _) = _
        rw [if_neg i1, if_neg (by omega)]
      · show (if 64 * a = p then _ else _) = _
        rw [if_neg (by omega), if_pos rfl]
      · intro j j1 j2 j3
        show (if j = p then _ else _) = _
        rw [if_neg (by omega), if_neg j3]
        exact (t3 j j1 j2).1
      · intro j hj
        show (if j = p then _ else _) = _
        rw [if_neg (by omega), if_neg (by omega)]
      · intro _
        show (if p = p then _ else _) = _
        rw [if_pos rfl]
    · have : p = 64 * a := by omega
      refine ⟨ln, h, by rw [← this]; omega, fun j j1 j2 _ => (t3 j j1 j2).1, fun _ _ => rfl, fun u2 => by omega⟩
  have oa : ow (64 * a / 64) = ow (p / 64) := by
    rcases Nat.lt_or_ge p (64 * a) with u | u
    · exact (t3 (64 * a) u (by omega)).2
    · rw [show 64 * a = p by omega]
  -- cut at 64 b
  obtain ⟨l2, h2, p2, q2, r2, s2, w2⟩ : ∃ l2 : Nat → Nat, Tiled pg zn ow l2 kd cl ∧ l2 (64 * a) = 64 * b - 64 * a ∧ (∀ j, p < j → j < p + ln p → j ≠ 64 * a → j ≠ 64 * b → l2 j = 0) ∧ (∀ j, (j < p ∨ p + ln p ≤ j) → l2 j = ln j) ∧ (p < 64 * a → l2 p = 64 * a - p) ∧ (64 * b < p + ln p → l2 (64 * b) = p + ln p - 64 * b) := by
    rcases Nat.lt_or_ge (64 * b) (p + ln p) with u | u
    · refine ⟨fun j => if j = 64 * a then 64 * b - 64 * a else if j = 64 * b then p + ln p - 64 * b else l1 j, cutRow h1 (j := 64 * a) (n := 64 * b - 64 * a) (by omega) (by omega) (by omega) (by rw [oa]; exact hz) ?_ ?_ ?_, ?_, ?_, ?_, ?_, ?_⟩
      · show (if 64 * a = 64 * a then _ else _) = _
        rw [if_pos rfl]
      · show (if 64 * a + (64 * b - 64 * a) = 64 * a then _ else _) = _
        rw [if_neg (by omega), if_pos (by omega)]
        omega
      · intro i i1 i2
        show (if i = 64 * a then _ else _) = _
        rw [if_neg i1, if_neg (by omega)]
      · show (if 64 * a = 64 * a then _ else _) = _
        rw [if_pos rfl]
      · intro j j1 j2 j3 j4
        show (if j = 64 * a then _ else _) = _
        rw [if_neg j3, if_neg j4]
        exact q1 j j1 j2 j3
      · intro j hj
        show (if j = 64 * a then _ else _) = _
        rw [if_neg (by omega), if_neg (by omega)]
        exact r1 j hj
      · intro hpa
        show (if p = 64 * a then _ else _) = _
        rw [if_neg (by omega), if_neg (by omega)]
        exact s1 hpa
      · intro _
        show (if 64 * b = 64 * a then _ else _) = _
        rw [if_neg (by omega), if_pos rfl]
    · exact ⟨l1, h1, by omega, fun j j1 j2 j3 _ => q1 j j1 j2 j3, r1, s1, fun w => by omega⟩
  refine dropPages h2 (a := a) (b := b) (by omega) (by omega) (fun j hj hl j1 j2 => ?_) (fun j j1 hl => ?_) o1 o2 e2 (fun j hj => ?_)
  · by_cases u : j = 64 * a
    · subst u; omega
    · have := q2 j (by omega) (by omega) u (by omega); omega
  · by_cases u : j = p
    · subst u; rw [s2 (by omega)]; omega
    · rcases Nat.lt_or_ge j p with v | v
      · rw [r2 j (Or.inl v)] at hl ⊢
        have := h.2.1.dj (by omega) hl g2 v
        omega
      · have := q2 j (by omega) (by omega) (by omega) (by omega); omega
  · by_cases u : j = p
    · subst u
      rw [e1]
      rcases Nat.lt_or_ge j (64 * a) with v | v
      · rw [s2 v]
      · omega
    · by_cases v : j = 64 * b ∧ 64 * b < p + ln p
      · obtain ⟨v1, v2⟩ := v
        subst v1
        rw [(e3 v2).1, w2 v2]
      · rw [e4 j u hj (fun w1 w2 => v ⟨w1, w2⟩)]
        by_cases w : j < p ∨ p + ln p ≤ j
        · rw [r2 j w]
        · rw [q2 j (by omega) (by omega) (by omega) (fun x => v ⟨x, by omega⟩)]
          exact (t3 j (by omega) (by omega)).1
theorem LetGo.ok {p a b : Nat} (g : LetGo pg ow ln hd ow' ln' hd' p a b) (hT : OkT pg ow ln) (hK : OkK pg zn ow ln hd th zo pl) : OkK pg zn ow' ln' hd' th zo pl ∧ ∀ s, s < 100 → th s = true → ln' (pl s) = ln (pl s) := by
  obtain ⟨⟨g1, g2, g3, g4, g5, g6⟩, o1, o2, e1, e2, e3, e4, e5⟩ := id g
  have key : ∀ s, s < 100 → th s = true → ln' (pl s) = ln (pl s) ∧ hd' (pl s) = hd (pl s) ∧ ow' (pl s / 64) = ow (pl s / 64) := by
    intro s hs ht
    obtain ⟨k1, k2, k3, k4, k5⟩ := hK.1 s hs ht
    obtain ⟨f1, f2, f3⟩ := g.out hT k3 (fun w => by rw [w] at k4; omega)
    exact ⟨f2, f3, o2 _ (by omega)⟩
  refine ⟨⟨fun s hs ht => ?_, fun j hj hl => ?_⟩, fun s hs ht => (key s hs ht).1⟩
  · obtain ⟨f1, f2, f3⟩ := key s hs ht
    rw [f1, f2, f3]
    exact hK.1 s hs ht
  · by_cases u : j = p
    · subst u
      rw [e5 j (by omega)]
      exact hK.2 j hj g2
    · by_cases v : j = 64 * b ∧ 64 * b < p + ln p
      · obtain ⟨v1, v2⟩ := v
        subst v1
        exact Or.inl (e3 v2).2
      · have hj2 : ¬ (64 * a ≤ j ∧ j < 64 * b) := fun w => by have := e2 j w.1 w.2; omega
        rw [e4 j u hj2 (fun w1 w2 => v ⟨w1, w2⟩)] at hl
        rw [e5 j (fun w1 w2 => v ⟨w1, w2⟩)]
        exact hK.2 j hj hl
/-- what begins after pages went, by what there was -/
theorem LetGo.cases {p a b : Nat} (g : LetGo pg ow ln hd ow' ln' hd' p a b) (hT : OkT pg ow ln) {j : Nat} (hl : 0 < ln' j) : (j = p ∧ ln' j = 64 * a - p ∧ p < 64 * a ∧ hd' j = hd j ∧ ow' (j / 64) = ow (j / 64)) ∨ (j = 64 * b ∧ 64 * b < p + ln p ∧ ln' j = p + ln p - 64 * b ∧ hd' j = -1 ∧ ow' (j / 64) = ow (p / 64)) ∨ (j ≠ p ∧ (j < p ∨ p + ln p ≤ j) ∧ ln' j = ln j ∧ hd' j = hd j ∧ ow' (j / 64) = ow (j / 64)) := by
  obtain ⟨⟨g1, g2, g3, g4, g5, g6⟩, o1, o2, e1, e2, e3, e4, e5⟩ := id g
  obtain ⟨t1, t2, t3⟩ := hT p g1 g2
  by_cases u : j = p
  · left
    subst u
    rw [e1] at hl
    exact ⟨rfl, e1, by omega, e5 j (by omega), o2 _ (by omega)⟩
  · by_cases v : j = 64 * b ∧ 64 * b < p + ln p
    · right; left
      obtain ⟨v1, v2⟩ := v
      subst v1
      refine ⟨rfl, v2, (e3 v2).1, (e3 v2).2, ?_⟩
      rw [o2 _ (by omega)]
      exact (t3 (64 * b) (by omega) v2).2
    · right; right
      have hj2 : ¬ (64 * a ≤ j ∧ j < 64 * b) := fun w => by have := e2 j w.1 w.2; omega
      have hlj := e4 j u hj2 (fun w1 w2 => v ⟨w1, w2⟩)
      rw [hlj] at hl
      obtain ⟨f1, f2, f3⟩ := g.out hT hl u
      exact ⟨u, f1, f2, f3, o2 _ (by omega)⟩
theorem LetGo.jn {p a b : Nat} (g : LetGo pg ow ln hd ow' ln' hd' p a b) (h : Tiled pg zn ow ln kd cl) (hz : 2 ≤ kz kd (ow (p / 64))) (hJ : OkJ pg ow ln hd kd) : OkJ pg ow' ln' hd' kd := by
  have hT := h.2.1
  obtain ⟨⟨g1, g2, g3, g4, g5, g6⟩, o1, o2, e1, e2, e3, e4, e5⟩ := id g
  obtain ⟨t1, t2, t3⟩ := hT p g1 g2
  refine ⟨fun j hj hl hf hk hn ho => ?_, fun j hj hl hf hk h64 => ?_⟩
  · rcases g.cases hT hl with ⟨c1, c2, c3, c4, c5⟩ | ⟨c1, c2, c3, c4, c5⟩ | ⟨c1, c2, c3, c4, c5⟩
    · subst c1
      rw [c2] at hn ho ⊢
      rw [show j + (64 * a - j) = 64 * a by omega, show 64 * a / 64 = a by omega, o1 a (by omega) (by omega), c5] at ho
      omega
    · rw [c3] at hn ho ⊢
      rw [c1] at hn ho ⊢
      rw [show 64 * b + (p + ln p - 64 * b) = p + ln p by omega] at hn ho ⊢
      rw [o2 _ (by omega)] at ho
      rw [e5 _ (by omega)]
      have : ow' (64 * b / 64) = ow (p / 64) := by rw [← c1]; exact c5
      exact hJ.1 p g1 g2 g3 hz hn (ho.trans this)
    · rw [c3] at hl hn ho ⊢
      rw [c4] at hf
      rw [c5] at hk ho
      have hnx : j + ln j < p ∨ j + ln j = p ∨ p + ln p ≤ j + ln j := by
        rcases c2 with u | u
        · have := hT.dj hj hl g2 u; omega
        · omega
      rw [e5 _ (by omega)]
      rcases hnx with u | u | u
      · rw [o2 _ (by omega)] at ho
        exact hJ.1 j hj hl hf hk hn ho
      · rw [u] at ho ⊢
        by_cases hpa : p < 64 * a
        · rw [o2 _ (by omega)] at ho
          have := hJ.1 j hj hl hf hk hn (by rw [u]; exact ho)
          rw [u] at this
          exact this
        · have hj0 := (hT j hj hl).1
          rw [show p / 64 = a by omega, o1 a (by omega) (by omega)] at ho
          omega
      · rw [o2 _ (by omega)] at ho
        exact hJ.1 j hj hl hf hk hn ho
  · rcases g.cases hT hl with ⟨c1, c2, c3, c4, c5⟩ | ⟨c1, c2, c3, c4, c5⟩ | ⟨c1, c2, c3, c4, c5⟩
    · subst c1; rw [c5] at hk; omega
    · rw [c5] at hk; omega
    · rw [c3] at hl h64 ⊢
      rw [c4] at hf
      rw [c5] at hk
      rintro ⟨w1, w2⟩
      have hpl : 0 < ln' (pair j (ln j)) := by omega
      have hpp := pair_page h.2.2.2.1 hj hl (hT j hj hl).1 hk h64
      rcases g.cases hT hpl with ⟨d1, d2, d3, d4, d5⟩ | ⟨d1, d2, d3, d4, d5⟩ | ⟨d1, d2, d3, d4, d5⟩
      · rw [d1] at hpp
        rw [← hpp] at hk
        omega
      · rw [hpp, c5] at d5
        rw [d5] at hk
        omega
      · rw [d3] at w1
        rw [d4] at w2
        exact hJ.2 j hj hl hf hk h64 ⟨w1, w2⟩
theorem LetGo.set {P : Nat → Prop} {p a b : Nat} (g : LetGo pg ow ln hd ow' ln' hd' p a b) (hT : OkT pg ow ln) (hz : 2 ≤ kz kd (ow (p / 64))) (hS : OkSetq P pg ow ln hd kd) : OkSetq P pg ow' ln' hd' kd := by
  obtain ⟨⟨g1, g2, g3, g4, g5, g6⟩, o1, o2, e1, e2, e3, e4, e5⟩ := id g
  obtain ⟨t1, t2, t3⟩ := hT p g1 g2
  have hown : ∀ k, 0 ≤ ow' k → ¬ (a ≤ k ∧ k < b) ∧ ow' k = ow k := by
    intro k hk
    by_cases w : a ≤ k ∧ k < b
    · have := o1 k w.1 w.2; omega
    · exact ⟨w, o2 k w⟩
  refine ⟨fun k hk hP h0 hkz => ?_, fun k hk hP h0 hkz => ?_, fun j hj hl hf hkz k hP h1 h2 => ?_⟩
  · obtain ⟨w1, w2⟩ := hown k h0
    rw [w2] at h0 hkz
    obtain ⟨i, i1, i2, i3⟩ := hS.1 k hk hP h0 hkz
    obtain ⟨f1, f2, f3⟩ := g.out hT i2 (fun w => by rw [← w, show (64 * k + i) / 64 = k by omega] at hz; omega)
    exact ⟨i, i1, by rw [f2]; exact i2, by rw [f3]; exact i3⟩
  · obtain ⟨w1, w2⟩ := hown k h0
    rw [w2] at h0 hkz
    rintro ⟨v1, v2⟩
    rcases g.cases hT (show 0 < ln' (64 * k) by omega) with ⟨c1, c2, c3, c4, c5⟩ | ⟨c1, c2, c3, c4, c5⟩ | ⟨c1, c2, c3, c4, c5⟩
    · rw [← c1, show 64 * k / 64 = k by omega] at hz; omega
    · rw [show 64 * k / 64 = k by omega, w2] at c5; rw [c5] at hkz; omega
    · rw [c3] at v1; rw [c4] at v2
      exact hS.2.1 k hk hP h0 hkz ⟨v1, v2⟩
  · rcases g.cases hT hl with ⟨c1, c2, c3, c4, c5⟩ | ⟨c1, c2, c3, c4, c5⟩ | ⟨c1, c2, c3, c4, c5⟩
    · exact hS.2.2 p g1 g2 g3 hz k hP (by omega) (by omega)
    · exact hS.2.2 p g1 g2 g3 hz k hP (by omega) (by omega)
    · rw [c3] at hl h2; rw [c4] at hf; rw [c5] at hkz
      exact hS.2.2 j hj hl hf hkz k hP h1 h2
end MID
