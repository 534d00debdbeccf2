/-! ===== a block is put; guard words within an act ===== -/
def fup {α : Type} (f : Nat → α) (a : Nat) (v : α) : Nat → α := fun i => if i = a then v else f i
theorem fup_s {α : Type} (f : Nat → α) (a : Nat) (v : α) : fup f a v a = v := if_pos rfl
theorem fup_n {α : Type} (f : Nat → α) {a i : Nat} (v : α) (h : i ≠ a) : fup f a v i = f i := if_neg h
/-- the numbers after guard words were set -/
def gw (k : Nat) (f : Nat → Int64) (p n : Nat) (w : Int64) : Nat → Int64 := if k = 5 then vp_updL (vp_updL f (p + 1) w) (p + n - 1) w else f
theorem gw_congr {k : Nat} {f g : Nat → Int64} {p n : Nat} {w : Int64} (h : ∀ j, j < 2560 → f j = g j) : ∀ j, j < 2560 → gw k f p n w j = gw k g p n w j := by
  intro j hj
  unfold gw
  by_cases c : k = 5
  · rw [if_pos c, if_pos c]
    unfold vp_updL
    by_cases e : j = p + n - 1
    · rw [if_pos e, if_pos e]
    · rw [if_neg e, if_neg e]
      by_cases e2 : j = p + 1
      · rw [if_pos e2, if_pos e2]
      · rw [if_neg e2, if_neg e2]; exact h j hj
  · rw [if_neg c, if_neg c]; exact h j hj
section PUT
variable {pg zn : Nat} {ow : Nat → Int} {ln kd cl : Nat → Nat} {hd : Nat → Int} {th : Nat → Bool} {sz zo pl : Nat → Nat} {bw : Nat → Int64} {σ τ : SS}
/-- what the class's record of block s says -/
def BX (σ : SS) (s z p l n : Nat) : Prop := gA σ 4 s = nI z ∧ gA σ 5 s = nI p ∧ gA σ 6 s = nI l ∧ gA σ 7 s = nI n
theorem x_isGuardedM (xz : XZ zn kd cl bw σ) (hz8 : zn ≤ 8) {s z p l n : Nat} (hs : s < 100) (b : BX σ s z p l n) (hz : z < zn) (hk5 : kd z ≤ 5) {Q : Int32 → Prop} (k0 : ¬ kd z = 5 → Q 0) (k1 : kd z = 5 → Q 1) : wX3_isGuarded (nI s) σ Q := by
  unfold wX3_isGuarded
  refine ⟨vp_in_nI hs (by omega), ?_⟩
  rw [nI_clamp (by omega), b.1]
  refine x_kindOf xz hz8 hz ?_
  rw [nI_iI, l_5]
  exact br_ne (by unfold R32; omega) ⟨fun c => k0 (by omega), fun c => k1 (by omega)⟩
theorem x_wordOfM (xz : XZ zn kd cl bw σ) (hz8 : zn ≤ 8) {s z p l n : Nat} (hs : s < 100) (b : BX σ s z p l n) (hz : z < zn) {Q : Int64 → Prop} (k : Q (bw z)) : wX3_wordOf (nI s) σ Q := by
  have hv : vp_in (nI s) 100 := vp_in_nI hs (by omega)
  unfold wX3_wordOf
  rw [nI_clamp (by omega), b.1]
  refine ⟨hv, x_hasZone xz hz8 hz ⟨fun c => absurd c (by decide), fun _ => ⟨hv, vp_in_nI (by omega) (by omega), ?_⟩⟩⟩
  rw [nI_clamp (by omega), (xz.2 z hz).2.1]
  exact k
theorem x_setWordsM (xz : XZ zn kd cl bw σ) (hz8 : zn ≤ 8) {s z p l n : Nat} (hs : s < 100) (b : BX σ s z p l n) (hz : z < zn) (hk5 : kd z ≤ 5) (hl : 2 ≤ l ∨ ¬ kd z = 5) (hp : p + l ≤ 2560) {w : Int64} {Q : SS → Prop} (k : Q (sBB σ 0 (gw (kd z) (gB σ 0) p l w))) : wX3_setWords (nI s) w σ Q := by
  have hv : vp_in (nI s) 100 := vp_in_nI hs (by omega)
  unfold wX3_setWords
  refine x_isGuardedM xz hz8 hs b hz hk5 (fun c => ⟨fun _ => ?_, fun z => absurd rfl z⟩) (fun c => ⟨fun z => absurd z (by decide), fun _ => ?_⟩)
  · unfold gw at k
    rw [if_neg c, sBB_self] at k
    exact k
  · unfold gw at k
    rw [if_pos c] at k
    unfold wX3_firstWord wX3_lastWord
    rw [nI_clamp (by omega), b.2.1, nI_1]
    refine ⟨hv, x_setNumber (by omega) ?_⟩
    have e5 : gA (sB σ 0 (p + 1) w) 5 = gA σ 5 := rfl
    have e6 : gA (sB σ 0 (p + 1) w) 6 = gA σ 6 := rfl
    rw [e5, e6, b.2.1, b.2.2.1, nI_add, show (1 : Int32) = nI 1 from rfl, pk_sub (by omega)]
    refine ⟨hv, hv, x_setNumber (by omega) ?_⟩
    show Q (sB (sBB σ 0 (vp_updL (gB σ 0) (p + 1) w)) 0 (p + l - 1) w)
    rw [sB_sBB]
    exact k
theorem m_guardM (mz : MZ zn kd cl bw τ) (hz8 : zn ≤ 8) {s z p n l : Nat} (hs : s < 100) (b6 : gA τ 6 s = nI n) (b7 : gA τ 7 s = nI z) (b8 : gA τ 8 s = nI p) (hz : z < zn) (hk5 : kd z ≤ 5) (hl : kd z = 5 → l = n + 3) (hp : p + l ≤ 2560) {Q : SS → Prop} (k : Q (sBB τ 0 (gw (kd z) (gB τ 0) p l (bw z)))) : wX7_guard (nI s) τ Q := by
  have hv : vp_in (nI s) 100 := vp_in_nI hs (by omega)
  have hvz : vp_in (nI z) 8 := vp_in_nI (by omega) (by omega)
  have q5 : nI (kd z) = 5 ↔ kd z = 5 := nI_eq (b := 5) (by omega) (by omega)
  unfold wX7_guard
  rw [nI_clamp (by omega), b7, nI_clamp (by omega), (mz.2 z hz).1, q5, (mz.2 z hz).2.1, b8]
  unfold gw at k
  refine ⟨hv, hvz, fun c => ?_, fun c => ⟨hv, hv, hvz, ?_⟩⟩
  · rw [if_neg c, sBB_self] at k
    exact k
  · rw [if_pos c] at k
    have hl' := hl c
    rw [nI_1, nI_clamp (show p + 1 < 2 ^ 31 by omega)]
    have e7 : gA (sB τ 0 (p + 1) (bw z)) 7 s = nI z := b7
    have e8 : gA (sB τ 0 (p + 1) (bw z)) 8 s = nI p := b8
    have e6 : gA (sB τ 0 (p + 1) (bw z)) 6 s = nI n := b6
    have e1 : gB (sB τ 0 (p + 1) (bw z)) 1 = gB τ 1 := gB_sB_ne _ _ _ (by omega)
    rw [e7, e8, e6, e1, nI_clamp (show z < 2 ^ 31 by omega), (mz.2 z hz).2.1]
    have el : nI p + 2 + nI n = nI (p + l - 1) := by
      rw [show (2 : Int32) = nI 2 from rfl, nI_add, nI_add]
      congr 1
      omega
    rw [el, nI_clamp (by omega)]
    refine ⟨vp_in_nI (by omega) (by omega), hv, hv, hv, hvz, vp_in_nI (by omega) (by omega), fun σ69 e69 => ?_⟩
    subst e69
    show Q (sB (sBB τ 0 (vp_updL (gB τ 0) (p + 1) (bw z))) 0 (p + l - 1) (bw z))
    rw [sB_sBB]
    exact k
theorem x_mostOf (hz8 : zn ≤ 8) (xz : XZ zn kd cl bw σ) {z : Nat} (hz : z < zn) (hc : kd z = 0 → 1 ≤ cl z ∧ cl z ≤ 32) {Q : Int32 → Prop} (k : Q (nI (mst (kd z) (cl z)))) : wK_mostOf (kp (kd z)) (nI z) σ Q := by
  unfold mst at k
  unfold kp
  by_cases h0 : kd z = 0
  · rw [if_pos h0] at k ⊢
    obtain ⟨c1, c2⟩ := hc h0
    show wX5_mostOf (nI z) σ Q
    unfold wX5_mostOf
    exact x_classOf xz hz8 hz h0 c1 c2 k
  · rw [if_neg h0] at k ⊢
    by_cases h1 : kd z = 1
    · rw [if_pos h1] at k ⊢
      exact k
    · rw [if_neg h1] at k ⊢
      exact k
theorem x_lowest (xb : XB ln th sz zo pl σ) (hz : ∀ s, s < 100 → th s = true → zo s < 8) {Q : Int32 → Prop} (k0 : (∀ i, i < 100 → th i = true) → Q (iI (-1))) (k1 : ∀ s, s < 100 → th s = false → (∀ i, i < s → th i = true) → Q (nI s)) : wX3_lowestUnused σ Q := by
  unfold wX3_lowestUnused wX3_lowestUnused_b2
  refine lfp_inv (fun t => ∃ i : Nat, i ≤ 100 ∧ (∀ j, j < i → th j = true) ∧ t = nI i) (fun t => 100 - t.toNatClampNeg) ⟨0, by omega, fun j w => by omega, rfl⟩ ?_
  rintro t X ⟨i, hi, hall, rfl⟩ hX
  refine ⟨fun c => ?_, fun c => ?_⟩
  · have : i = 100 := by
      rcases Nat.lt_or_ge i 100 with q | q
      · exact absurd c (nI_ge (b := 100) q (by decide))
      · omega
    subst this
    rw [l_m1]
    exact k0 hall
  · have hlt : i < 100 := by
      rcases Nat.lt_or_ge i 100 with q | q
      · exact q
      · exact absurd (nI_le (a := 100) q (by omega)) c
    rw [nI_clamp (by omega), nI_1]
    refine ⟨vp_in_nI (by omega) (by omega), fun c2 => ?_, fun c2 => ?_⟩
    · refine hX _ ⟨i + 1, by omega, fun j hj => ?_, rfl⟩ ?_
      · by_cases e : j = i
        · cases e2 : th j with
          | true => rfl
          | false =>
            rw [e] at e2
            rw [(xb i hlt).2 e2] at c2
            exact absurd c2 (by decide)
        · exact hall j (by omega)
      · rw [nI_clamp (by omega), nI_clamp (by omega)]; omega
    · refine k1 i hlt ?_ hall
      cases e2 : th i with
      | false => rfl
      | true =>
        rw [((xb i hlt).1 e2).1] at c2
        exact absurd (nI_pos' (by have := hz i hlt e2; omega)) c2
theorem cnt_all {P : Nat → Bool} {n : Nat} : cnt P n = n ↔ ∀ i, i < n → P i = true := by
  induction n with
  | zero => exact ⟨fun _ i hi => by omega, fun _ => rfl⟩
  | succ n ih =>
    have hle := cnt_le P n
    rw [cnt_step]
    constructor
    · intro h i hi
      have hn : P n = true := by
        cases e : P n with
        | true => rfl
        | false => rw [e, if_neg (by decide)] at h; omega
      rw [hn, if_pos rfl] at h
      by_cases e : i = n
      · rw [e]; exact hn
      · exact ih.mp (by omega) i (by omega)
    · intro h
      rw [h n (by omega), if_pos rfl, ih.mpr (fun i hi => h i (by omega))]
/-- block s has the piece at p: the ghosts -/
theorem asg {z n p s : Nat} {sz' zo' pl' : Nat → Nat} {hd' : Nat → Int} {th' : Nat → Bool} (T : Tkn z n p pg zn ow ln hd kd cl th zo pl) (hs : s < 100) (hts : th s = false) (hSz : OkSz kd cl ln th sz zo pl) (hn : n ≤ mst (kd z) (cl z)) (hzn : z < zn) (d1 : hd' p = s) (d2 : ∀ j, j ≠ p → hd' j = hd j) (t1 : th' s = true) (t2 : ∀ i, i ≠ s → th' i = th i) (s1 : sz' s = n) (s2 : ∀ i, i ≠ s → sz' i = sz i) (z1 : zo' s = z) (z2 : ∀ i, i ≠ s → zo' i = zo i) (p1 : pl' s = p) (p2 : ∀ i, i ≠ s → pl' i = pl i) : OkK pg zn ow ln hd' th' zo' pl' ∧ OkSz kd cl ln th' sz' zo' pl' ∧ OkJ pg ow ln hd' kd ∧ ∀ P : Nat → Prop, OkSetq P pg ow ln hd kd → OkSetq P pg ow ln hd' kd := by
  obtain ⟨hT, hK, hJ, ⟨q1, q2, q3, q4⟩, hlen⟩ := T
  have hne : ∀ i, i < 100 → th i = true → pl i ≠ p := fun i hi hti w => by
    have := (hK.1 i hi hti).2.2.2.1
    rw [w] at this
    omega
  have old : ∀ i, th' i = true → i ≠ s → th i = true := fun i h w => by rw [t2 i w] at h; exact h
  have neg : ∀ j, hd' j < 0 → j ≠ p ∧ hd j < 0 := fun j hj => by
    have : j ≠ p := fun w => by rw [w, d1] at hj; omega
    rw [d2 j this] at hj
    exact ⟨this, hj⟩
  have pos : ∀ j, 0 ≤ hd j → 0 ≤ hd' j := fun j hj => by
    by_cases w : j = p
    · rw [w, d1]; omega
    · rw [d2 j w]; exact hj
  refine ⟨⟨fun i hi hti => ?_, fun j hj hl => ?_⟩, fun i hi hti => ?_, ⟨fun j hj hl hf hk hn' ho => ?_, fun j hj hl hf hk h64 => ?_⟩, fun P hS => ⟨fun k hk hP h0 hz => ?_, fun k hk hP h0 hz => ?_, fun j hj hl hf hz k hP h1 h2 => ?_⟩⟩
  · by_cases w : i = s
    · rw [w, z1, p1, d1]
      exact ⟨hzn, q1, q2, rfl, q4⟩
    · have hti' := old i hti w
      rw [z2 i w, p2 i w, d2 _ (hne i hi hti')]
      exact hK.1 i hi hti'
  · by_cases w : j = p
    · right
      rw [w, d1, Int.toNat_natCast]
      exact ⟨by omega, by omega, t1, p1⟩
    · rw [d2 j w]
      rcases hK.2 j hj hl with u | ⟨u1, u2, u3, u4⟩
      · exact Or.inl u
      · right
        have hns : (hd j).toNat ≠ s := fun v => by rw [v, hts] at u3; exact absurd u3 (by decide)
        exact ⟨u1, u2, by rw [t2 _ hns]; exact u3, by rw [p2 _ hns]; exact u4⟩
  · by_cases w : i = s
    · rw [w, s1, z1, p1, hlen]
      unfold mst at hn
      have hpw := pw_cases n
      by_cases c0 : kd z = 0
      · rw [if_pos c0] at hn ⊢
        have := (hT.1.2.2.2 z hzn).2 c0
        exact ⟨by omega, fun _ => hn, fun c => by omega, fun c => by omega⟩
      · rw [if_neg c0] at hn ⊢
        unfold due
        rw [if_neg c0]
        by_cases c1 : kd z = 1
        · rw [if_pos c1] at hn ⊢
          exact ⟨by omega, fun c => absurd c c0, fun _ => by omega, fun c => by omega⟩
        · rw [if_neg c1] at hn ⊢
          exact ⟨by omega, fun c => absurd c c0, fun c => absurd c c1, fun _ => rfl⟩
    · rw [s2 i w, z2 i w, p2 i w]
      exact hSz i hi (old i hti w)
  · obtain ⟨w1, w2⟩ := neg j hf
    by_cases u : j + ln j = p
    · rw [u, d1]; omega
    · exact pos _ (hJ.1 j hj hl w2 hk hn' ho ⟨w1, u⟩)
  · obtain ⟨w1, w2⟩ := neg j hf
    rintro ⟨v1, v2⟩
    obtain ⟨u1, u2⟩ := neg _ v2
    exact hJ.2 j hj hl w2 hk h64 ⟨w1, u1⟩ ⟨v1, u2⟩
  · obtain ⟨i, i1, i2, i3⟩ := hS.1 k hk hP h0 hz
    exact ⟨i, i1, i2, pos _ i3⟩
  · rintro ⟨v1, v2⟩
    exact hS.2.1 k hk hP h0 hz ⟨v1, (neg _ v2).2⟩
  · exact hS.2.2 j hj hl (neg j hf).2 hz k hP h1 h2
end PUT
