/-! ===== grow: a block moves ===== -/
theorem okSz1 {k c n l : Nat} (hc : k = 0 → 1 ≤ c ∧ c ≤ 32) (hl : l = if k = 0 then c else due k n) (hn : n ≤ mst k c) : n ≤ 2000 ∧ (k = 0 → n ≤ c) ∧ (k = 1 → n ≤ l ∧ (l = 1 ∨ l < 2 * n)) ∧ (2 ≤ k → l = n + (if k = 5 then 3 else 1)) := by
  unfold mst at hn
  have hpw := pw_cases n
  rw [hl]
  by_cases c0 : k = 0
  · rw [if_pos c0] at hn ⊢
    have := hc c0
    exact ⟨by omega, fun _ => hn, fun c => by omega, fun c => by omega⟩
  · rw [if_neg c0] at hn ⊢
    unfold due
    rw [if_neg c0]
    by_cases c1 : k = 1
    · rw [if_pos c1] at hn ⊢
      exact ⟨by omega, fun c => absurd c c0, fun _ => by omega, fun c => by omega⟩
    · rw [if_neg c1] at hn ⊢
      exact ⟨by omega, fun c => absurd c c0, fun c => absurd c c1, fun _ => rfl⟩
section MOVE
variable {pg zn : Nat} {ow : Nat → Int} {ln kd cl : Nat → Nat} {hd hd2 : Nat → Int} {th : Nat → Bool} {sz zo pl : Nat → Nat} {bw : Nat → Int64} {σ τ : SS}
/-- block s moves from its piece to the one at q -/
theorem mvG {z n q s : Nat} (T : Tkn z n q pg zn ow ln hd kd cl th zo pl) (hs : s < 100) (hts : th s = true) (hzs : zo s = z) (hSz : OkSz kd cl ln th sz zo pl) (hn : n ≤ mst (kd z) (cl z)) (d1 : hd2 q = s) (d0 : hd2 (pl s) = -1) (d2 : ∀ j, j ≠ q → j ≠ pl s → hd2 j = hd j) : pl s ≠ q ∧ OkK pg zn ow ln hd2 th zo (fup pl s q) ∧ OkSz kd cl ln th (fup sz s n) zo (fup pl s q) ∧ OkJq (fun j q => j ≠ pl s ∧ q ≠ pl s) pg ow ln hd2 kd ∧ OkJq (fun j _ => ¬ ow (j / 64) = z) pg ow ln hd2 kd ∧ (OkSetq (fun k => ¬ ow k = z) pg ow ln hd kd → OkSetq (fun k => ¬ ow k = z) pg ow ln hd2 kd) := by
  obtain ⟨hT, hK, hJ, ⟨q1, q2, q3, q4⟩, hlen⟩ := T
  obtain ⟨a1, a2, a3, a4, a5⟩ := hK.1 s hs hts
  have hpq : pl s ≠ q := fun w => by rw [w] at a4; omega
  have hne : ∀ i, i < 100 → th i = true → i ≠ s → pl i ≠ q ∧ pl i ≠ pl s := by
    intro i hi hti his
    have := (hK.1 i hi hti).2.2.2.1
    exact ⟨fun w => by rw [w] at this; omega, fun w => by rw [w, a4] at this; omega⟩
  have a5' : ow (pl s / 64) = z := by rw [a5, hzs]
  have outz : ∀ j, ¬ ow (j / 64) = z → j ≠ q ∧ j ≠ pl s := fun j hj => ⟨fun w => hj (by rw [w]; exact q4), fun w => hj (by rw [w]; exact a5')⟩
  refine ⟨hpq, ⟨fun i hi hti => ?_, fun j hj hl => ?_⟩, ?_, ⟨fun j hj hl hf hk hn' ho hP => ?_, fun j hj hl hf hk h64 hP => ?_⟩, ⟨fun j hj hl hf hk hn' ho hP => ?_, fun j hj hl hf hk h64 hP => ?_⟩, fun hS => ⟨fun k hk hP h0 hz => ?_, fun k hk hP h0 hz => ?_, fun j hj hl hf hz k hP h1 h2 => ?_⟩⟩
  · by_cases w : i = s
    · rw [w, fup_s, d1]
      exact ⟨a1, q1, q2, rfl, by rw [q4, hzs]⟩
    · obtain ⟨n1, n2⟩ := hne i hi hti w
      rw [fup_n _ _ w, d2 _ n1 n2]
      exact hK.1 i hi hti
  · by_cases w : j = q
    · right
      rw [w, d1, Int.toNat_natCast]
      exact ⟨by omega, by omega, hts, fup_s _ _ _⟩
    · by_cases w2 : j = pl s
      · rw [w2]; exact Or.inl d0
      · rw [d2 j w w2]
        rcases hK.2 j hj hl with u | ⟨u1, u2, u3, u4⟩
        · exact Or.inl u
        · right
          have hns : (hd j).toNat ≠ s := fun v => by rw [v] at u4; exact w2 u4.symm
          exact ⟨u1, u2, u3, by rw [fup_n _ _ hns]; exact u4⟩
  · intro i hi hti
    by_cases w : i = s
    · rw [w, fup_s, fup_s, hzs]
      exact okSz1 (hT.1.2.2.2 z (by rw [← hzs]; exact a1)).2 hlen hn
    · rw [fup_n _ _ w, fup_n _ _ w]
      exact hSz i hi hti
  · have u : j ≠ q := fun w => by rw [w, d1] at hf; omega
    rw [d2 j u hP.1] at hf
    by_cases v : j + ln j = q
    · rw [v, d1]; omega
    · rw [d2 _ v hP.2]
      exact hJ.1 j hj hl hf hk hn' ho ⟨u, v⟩
  · have u : j ≠ q := fun w => by rw [w, d1] at hf; omega
    rw [d2 j u hP.1] at hf
    rintro ⟨v1, v2⟩
    have v : pair j (ln j) ≠ q := fun w => by rw [w, d1] at v2; omega
    rw [d2 _ v hP.2] at v2
    exact hJ.2 j hj hl hf hk h64 ⟨u, v⟩ ⟨v1, v2⟩
  · obtain ⟨n1, n2⟩ := outz j hP
    obtain ⟨m1, m2⟩ := outz (j + ln j) (by rw [ho]; exact hP)
    rw [d2 j n1 n2] at hf
    rw [d2 _ m1 m2]
    exact hJ.1 j hj hl hf hk hn' ho ⟨n1, m1⟩
  · obtain ⟨n1, n2⟩ := outz j hP
    have hpp := pair_page hT.2.2.2.1 hj hl (hT.2.1 j hj hl).1 hk h64
    obtain ⟨m1, m2⟩ := outz (pair j (ln j)) (by rw [hpp]; exact hP)
    rw [d2 j n1 n2] at hf
    rw [d2 _ m1 m2]
    exact hJ.2 j hj hl hf hk h64 ⟨n1, m1⟩
  · obtain ⟨i, i1, i2, i3⟩ := hS.1 k hk hP h0 hz
    obtain ⟨n1, n2⟩ := outz (64 * k + i) (by rw [show (64 * k + i) / 64 = k by omega]; exact hP)
    exact ⟨i, i1, i2, by rw [d2 _ n1 n2]; exact i3⟩
  · obtain ⟨n1, n2⟩ := outz (64 * k) (by rw [show 64 * k / 64 = k by omega]; exact hP)
    rw [d2 _ n1 n2]
    exact hS.2.1 k hk hP h0 hz
  · obtain ⟨t1, t2, t3⟩ := hT.2.1 j hj hl
    have hok : ow k = ow (j / 64) := by
      rcases Nat.lt_or_ge j (64 * k) with u | u
      · have := (t3 (64 * k) u (by omega)).2
        rw [show 64 * k / 64 = k by omega] at this
        exact this
      · rw [show j / 64 = k by omega]
    obtain ⟨n1, n2⟩ := outz j (by rw [← hok]; exact hP)
    rw [d2 j n1 n2] at hf
    exact hS.2.2 j hj hl hf hz k hP h1 h2
/-- the numbers after a block moved: the class's way, the reference's -/
def mvX (k : Nat) (f : Nat → Int64) (q L : Nat) (w : Int64) (a b c p l : Nat) : Nat → Int64 := rng (va_cpy (gw k f q L w) (gw k f q L w) a b c) p l 0
def mvM (k : Nat) (f : Nat → Int64) (q L : Nat) (w : Int64) (a b c p l : Nat) : Nat → Int64 := rng (gw k (va_cpy f f a b c) q L w) p l 0
theorem mv_eq {k : Nat} {f g : Nat → Int64} {q L : Nat} {w : Int64} {a b c p l : Nat} (h : ∀ j, j < 2560 → f j = g j) (hb : k = 5 → b = q + 2 ∧ b + c ≤ q + L - 1) (ha : k = 5 → ∀ x, a ≤ x → x < a + c → x ≠ q + 1 ∧ x ≠ q + L - 1) (hac : a + c ≤ 2560) : ∀ j, j < 2560 → mvX k f q L w a b c p l j = mvM k g q L w a b c p l j := by
  intro j hj
  unfold mvX mvM
  by_cases e0 : p ≤ j ∧ j < p + l
  · unfold rng
    rw [if_pos e0, if_pos e0]
  · unfold rng
    rw [if_neg e0, if_neg e0]
    by_cases c5 : k = 5
    · obtain ⟨hb1, hb2⟩ := hb c5
      unfold gw
      rw [if_pos c5, if_pos c5]
      by_cases e1 : b ≤ j ∧ j < b + c
      · rw [pk_cpy_in e1.1 e1.2]
        obtain ⟨n1, n2⟩ := ha c5 (a + (j - b)) (by omega) (by omega)
        unfold vp_updL
        rw [if_neg n2, if_neg n1, if_neg (show ¬ j = q + L - 1 by omega), if_neg (show ¬ j = q + 1 by omega)]
        rw [pk_cpy_in e1.1 e1.2]
        exact h _ (by omega)
      · rw [pk_cpy_out (by omega)]
        unfold vp_updL
        by_cases e2 : j = q + L - 1
        · rw [if_pos e2, if_pos e2]
        · rw [if_neg e2, if_neg e2]
          by_cases e3 : j = q + 1
          · rw [if_pos e3, if_pos e3]
          · rw [if_neg e3, if_neg e3, pk_cpy_out (by omega)]
            exact h j hj
    · unfold gw
      rw [if_neg c5, if_neg c5]
      by_cases e1 : b ≤ j ∧ j < b + c
      · rw [pk_cpy_in e1.1 e1.2, pk_cpy_in e1.1 e1.2]
        exact h _ (by omega)
      · rw [pk_cpy_out (by omega), pk_cpy_out (by omega)]
        exact h j hj
theorem x_firstNumberM (xz : XZ zn kd cl bw σ) (hz8 : zn ≤ 8) {s z p l n : Nat} (hs : s < 100) (b : BX σ s z p l n) (hz : z < zn) (hk5 : kd z ≤ 5) {Q : Int32 → Prop} (k : Q (nI (p + ahd (kd z)))) : wX3_firstNumber (nI s) σ Q := by
  have hv : vp_in (nI s) 100 := vp_in_nI hs (by omega)
  unfold wX3_firstNumber wX3_firstNumber_b30
  rw [nI_clamp (by omega), b.1, b.2.1]
  unfold ahd at k
  refine x_isGuardedM xz hz8 hs b hz hk5 (fun c => ⟨fun _ => ⟨hv, x_isRowZone xz hz8 hz hk5 (fun c2 => ⟨fun _ => ⟨hv, ?_⟩, fun z => absurd rfl z⟩) (fun c2 => ⟨fun z => absurd z (by decide), fun _ => ⟨hv, ?_⟩⟩)⟩, fun z => absurd rfl z⟩) (fun c => ⟨fun z => absurd z (by decide), fun _ => ⟨hv, ?_⟩⟩)
  · rw [if_neg c, if_neg (by omega)] at k
    rw [show (0 : Int32) = nI 0 from rfl, nI_add]; exact k
  · rw [if_neg c, if_pos c2] at k
    rw [show (1 : Int32) = nI 1 from rfl, nI_add]; exact k
  · rw [if_pos c] at k
    rw [show (2 : Int32) = nI 2 from rfl, nI_add]; exact k
/-- the new piece and the old one lie apart -/
theorem apart {z n q s : Nat} (T : Tkn z n q pg zn ow ln hd kd cl th zo pl) (hs : s < 100) (hts : th s = true) : (pl s + ln (pl s) ≤ q ∨ q + ln q ≤ pl s) ∧ q + ln q ≤ 64 * pg ∧ pl s + ln (pl s) ≤ 64 * pg := by
  obtain ⟨hT, hK, hJ, ⟨q1, q2, q3, q4⟩, hlen⟩ := T
  obtain ⟨a1, a2, a3, a4, a5⟩ := hK.1 s hs hts
  refine ⟨?_, (hT.2.1 q q1 q2).2.1, (hT.2.1 _ a2 a3).2.1⟩
  rcases Nat.lt_trichotomy (pl s) q with w | w | w
  · exact Or.inl (hT.2.1.dj a2 a3 q2 w)
  · rw [w] at a4; omega
  · exact Or.inr (hT.2.1.dj q1 q2 a3 w)
end MOVE
