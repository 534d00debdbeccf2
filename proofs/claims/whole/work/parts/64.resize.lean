/-! ===== a block's piece changes its length: the ghosts ===== -/
section RESG
variable {pg zn : Nat} {ow : Nat → Int} {ln l' kd cl : Nat → Nat} {hd d' : Nat → Int} {th : Nat → Bool} {sz zo pl : Nat → Nat}
/-- what was so in other zones is so -/
theorem restOf {z : Nat} (hT : Tiled pg zn ow ln kd cl) (hT' : Tiled pg zn ow l' kd cl) (hJ : OkJ pg ow ln hd kd) (hS : OkSet pg ow ln hd kd) (same : ∀ i, i < 64 * pg → ¬ ow (i / 64) = z → l' i = ln i ∧ d' i = hd i) : OkJq (fun j _ => ¬ ow (j / 64) = z) pg ow l' d' kd ∧ OkSetq (fun k => ¬ ow k = z) pg ow l' d' kd := by
  refine ⟨⟨fun j hj hl hf hk hn ho hP => ?_, fun j hj hl hf hk h64 hP => ?_⟩, ⟨fun k hk hP h0 hz => ?_, fun k hk hP h0 hz => ?_, fun j hj hl hf hz k hP h1 h2 => ?_⟩⟩
  · obtain ⟨s1, s2⟩ := same j hj hP
    rw [s1] at hl hn ho ⊢
    rw [s2] at hf
    rw [(same _ hn (by rw [ho]; exact hP)).2]
    exact hJ.1 j hj hl hf hk hn ho
  · obtain ⟨s1, s2⟩ := same j hj hP
    have hpp := pair_page hT'.2.2.2.1 hj hl (hT'.2.1 j hj hl).1 hk h64
    rw [s1] at hl h64 hpp ⊢
    rw [s2] at hf
    obtain ⟨u1, u2⟩ := same (pair j (ln j)) (by omega) (by rw [hpp]; exact hP)
    rw [u1, u2]
    exact hJ.2 j hj hl hf hk h64
  · obtain ⟨i, i1, i2, i3⟩ := hS.1 k hk h0 hz
    obtain ⟨u1, u2⟩ := same (64 * k + i) (by omega) (by rw [show (64 * k + i) / 64 = k by omega]; exact hP)
    exact ⟨i, i1, by rw [u1]; exact i2, by rw [u2]; exact i3⟩
  · obtain ⟨u1, u2⟩ := same (64 * k) (by omega) (by rw [show 64 * k / 64 = k by omega]; exact hP)
    rw [u1, u2]
    exact hS.2.1 k hk h0 hz
  · obtain ⟨t1, t2, t3⟩ := hT'.2.1 j hj hl
    have hok : ow k = ow (j / 64) := by
      rcases Nat.lt_or_ge j (64 * k) with u | u
      · have := (t3 (64 * k) u (by omega)).2
        rw [show 64 * k / 64 = k by omega] at this
        exact this
      · rw [show j / 64 = k by omega]
    obtain ⟨u1, u2⟩ := same j hj (by rw [← hok]; exact hP)
    rw [u1] at hl h2
    rw [u2] at hf
    exact hS.2.2 j hj hl hf hz k h1 h2
theorem mergeOk2 {j q : Nat} (hK : OkK pg zn ow ln hd th zo pl) (hj : j < 64 * pg) (hlj : 0 < ln j) (hfq : hd q < 0) (e1 : l' j = ln j + ln q) (e2 : l' q = 0) (e3 : ∀ i, i ≠ j → i ≠ q → l' i = ln i) : OkK pg zn ow l' hd th zo pl ∧ ∀ s, s < 100 → th s = true → pl s ≠ j → l' (pl s) = ln (pl s) := by
  have key : ∀ s, s < 100 → th s = true → pl s ≠ q := by
    intro s hs ht w
    have k4 := (hK.1 s hs ht).2.2.2.1
    rw [w] at k4; omega
  refine ⟨⟨fun s hs ht => ?_, fun i hi hl => ?_⟩, fun s hs ht w => e3 _ w (key s hs ht)⟩
  · obtain ⟨k1, k2, k3, k4, k5⟩ := hK.1 s hs ht
    refine ⟨k1, k2, ?_, k4, k5⟩
    by_cases w : pl s = j
    · rw [w, e1]; omega
    · rw [e3 _ w (key s hs ht)]; exact k3
  · by_cases u : i = j
    · subst u; exact hK.2 i hi hlj
    · by_cases v : i = q
      · rw [v, e2] at hl; omega
      · rw [e3 i u v] at hl; exact hK.2 i hi hl
/-- the piece at p of a row, and B free numbers behind it: now L numbers, the rest free -/
def rsL (ln : Nat → Nat) (p l B L : Nat) : Nat → Nat := fun i => if i = p then L else if i = p + L ∧ L < l + B then l + B - L else if i = p + l ∧ 0 < B then 0 else ln i
def rsD (hd : Nat → Int) (p l B L : Nat) : Nat → Int := fun i => if i = p + L ∧ L < l + B then -1 else hd i
theorem rsRow {p l B L z : Nat} (hT : Tiled pg zn ow ln kd cl) (hK : OkK pg zn ow ln hd th zo pl) (hp : p < 64 * pg) (hl : ln p = l) (hl0 : 0 < l) (hoz : ow (p / 64) = z) (hzn : z < zn) (hkz : 2 ≤ kd z) (hB : 0 < B → p + l < 64 * pg ∧ ow ((p + l) / 64) = z ∧ hd (p + l) < 0 ∧ ln (p + l) = B) (hL0 : 0 < L) (hL : L ≤ l + B) : Tiled pg zn ow (rsL ln p l B L) kd cl ∧ OkK pg zn ow (rsL ln p l B L) (rsD hd p l B L) th zo pl ∧ (∀ s, s < 100 → th s = true → pl s ≠ p → rsL ln p l B L (pl s) = ln (pl s)) ∧ rsL ln p l B L p = L ∧ ∀ i, i < 64 * pg → ¬ ow (i / 64) = z → rsL ln p l B L i = ln i ∧ rsD hd p l B L i = hd i := by
  have kzz : kz kd (z : Int) = kd z := by unfold kz; rw [Int.toNat_natCast]
  have hkp : 2 ≤ kz kd (ow (p / 64)) := by rw [hoz, kzz]; exact hkz
  have vp : rsL ln p l B L p = L := by unfold rsL; rw [if_pos rfl]
  -- joined
  obtain ⟨l1, h1, k1, b1, e1, e2, e3⟩ : ∃ l1 : Nat → Nat, Tiled pg zn ow l1 kd cl ∧ OkK pg zn ow l1 hd th zo pl ∧ (∀ s, s < 100 → th s = true → pl s ≠ p → l1 (pl s) = ln (pl s)) ∧ l1 p = l + B ∧ (0 < B → l1 (p + l) = 0) ∧ ∀ i, i ≠ p → (i = p + l → ¬ 0 < B) → l1 i = ln i := by
    rcases Nat.eq_zero_or_pos B with w | w
    · exact ⟨ln, hT, hK, fun _ _ _ _ => rfl, by omega, fun v => by omega, fun _ _ _ => rfl⟩
    · obtain ⟨q1, q2, q3, q4⟩ := hB w
      refine ⟨fun i => if i = p then l + B else if i = p + l then 0 else ln i, ?_, ?_, ?_, ?_, ?_, ?_⟩
      · refine mergeRow hT (j := p) (q := p + l) hp (by omega) (by omega) q1 (by omega) (by rw [q2, hoz]) hkp ?_ ?_ ?_
        · show (if p = p then _ else _) = _
          rw [if_pos rfl]; omega
        · show (if p + l = p then _ else _) = _
          rw [if_neg (by omega), if_pos rfl]
        · intro i i1 i2
          show (if i = p then _ else _) = _
          rw [if_neg i1, if_neg i2]
      · refine (mergeOk2 hK (j := p) (q := p + l) hp (by omega) q3 ?_ ?_ ?_).1
        · show (if p = p then _ else _) = _
          rw [if_pos rfl]; omega
        · show (if p + l = p then _ else _) = _
          rw [if_neg (by omega), if_pos rfl]
        · intro i i1 i2
          show (if i = p then _ else _) = _
          rw [if_neg i1, if_neg i2]
      · intro s hs ht hsp
        show (if pl s = p then _ else _) = _
        rw [if_neg hsp, if_neg (fun v => by
          have k4 := (hK.1 s hs ht).2.2.2.1
          rw [v] at k4; omega)]
      · show (if p = p then _ else _) = _
        rw [if_pos rfl]
      · intro _
        show (if p + l = p then _ else _) = _
        rw [if_neg (by omega), if_pos rfl]
      · intro i i1 i2
        show (if i = p then _ else _) = _
        rw [if_neg i1, if_neg (fun v => i2 v w)]
  obtain ⟨t1, t2, t3⟩ := h1.2.1 p hp (by omega)
  rw [e1] at t2 t3
  have inz : ∀ i, p ≤ i → i < p + (l + B) → ow (i / 64) = z := by
    intro i w1 w2
    rcases Nat.lt_or_ge p i with u | u
    · rw [(t3 i u w2).2]; exact hoz
    · rw [show i = p by omega]; exact hoz
  have out : ∀ i, i < 64 * pg → ¬ ow (i / 64) = z → rsL ln p l B L i = ln i ∧ rsD hd p l B L i = hd i := by
    intro i hi hiz
    have n1 : i ≠ p := fun w => hiz (by rw [w]; exact hoz)
    have n2 : ¬ (i = p + L ∧ L < l + B) := fun w => hiz (inz i (by omega) (by omega))
    have n3 : ¬ (i = p + l ∧ 0 < B) := fun w => hiz (inz i (by omega) (by omega))
    unfold rsL rsD
    rw [if_neg n1, if_neg n2, if_neg n3, if_neg n2]
    exact ⟨rfl, rfl⟩
  rcases Nat.lt_or_ge L (l + B) with w | w
  · have r2 : rsL ln p l B L (p + L) = l1 p - L := by
      unfold rsL
      rw [if_neg (by omega), if_pos ⟨rfl, w⟩, e1]
    have r3 : ∀ i, i ≠ p → i ≠ p + L → rsL ln p l B L i = l1 i := by
      intro i i1 i2
      unfold rsL
      rw [if_neg i1, if_neg (fun v => i2 v.1)]
      by_cases v : i = p + l ∧ 0 < B
      · rw [if_pos v, v.1, e2 v.2]
      · rw [if_neg v, e3 i i1 (fun v1 v2 => v ⟨v1, v2⟩)]
    have q1 : rsD hd p l B L (p + L) = -1 := by unfold rsD; rw [if_pos ⟨rfl, w⟩]
    have q2 : ∀ i, i ≠ p + L → rsD hd p l B L i = hd i := fun i hi => by unfold rsD; rw [if_neg (fun v => hi v.1)]
    obtain ⟨k2, b2⟩ := cutOk (ln1 := rsL ln p l B L) (hd1 := rsD hd p l B L) h1.2.1 k1 hp hL0 (by omega) vp r3 q1 q2
    exact ⟨cutRow h1 hp hL0 (by omega) hkp vp r2 r3, k2, fun s hs ht hsp => (b2 s hs ht hsp).trans (b1 s hs ht hsp), vp, out⟩
  · have eL : L = l + B := by omega
    have ef : rsL ln p l B L = l1 := by
      funext i
      unfold rsL
      by_cases i1 : i = p
      · rw [if_pos i1, i1, e1]; exact eL
      · rw [if_neg i1, if_neg (by omega)]
        by_cases v : i = p + l ∧ 0 < B
        · rw [if_pos v, v.1, e2 v.2]
        · rw [if_neg v, e3 i i1 (fun v1 v2 => v ⟨v1, v2⟩)]
    have eD : rsD hd p l B L = hd := by
      funext i
      unfold rsD
      rw [if_neg (by omega)]
    refine ⟨by rw [ef]; exact h1, by rw [ef, eD]; exact k1, fun s hs ht hsp => by rw [ef]; exact b1 s hs ht hsp, vp, out⟩
end RESG
