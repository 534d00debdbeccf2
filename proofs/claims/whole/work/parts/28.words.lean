/-! ===== guard words; spoil, block, fill ===== -/
/-- which guard words of a block aren't its zone's word -/
def spw (k : Nat) (f : Nat → Int64) (w : Int64) (p n : Nat) : Nat := if k = 5 then (if f (p + 1) = w then 0 else 1) + (if f (p + n - 1) = w then 0 else 2) else 0
theorem spw_congr {k : Nat} {f g : Nat → Int64} {w : Int64} {p n : Nat} (h1 : p + 1 < 2560) (h2 : p + n - 1 < 2560) (h : ∀ j, j < 2560 → f j = g j) : spw k f w p n = spw k g w p n := by
  unfold spw
  rw [h _ h1, h _ h2]
theorem spw_le (k : Nat) (f : Nat → Int64) (w : Int64) (p n : Nat) : spw k f w p n ≤ 3 := by
  unfold spw
  split
  · split <;> split <;> omega
  · omega
section WORDS
variable {pg zn : Nat} {ow : Nat → Int} {ln kd cl : Nat → Nat} {hd : Nat → Int} {th : Nat → Bool} {sz zo pl : Nat → Nat} {bw : Nat → Int64} {σ τ : SS}
theorem x_wordOf (xb : XB ln th sz zo pl σ) (xz : XZ zn kd cl bw σ) (hg : Gh pg zn ow ln hd kd cl th sz zo pl) {s : Nat} (hs : s < 100) (ht : th s = true) {Q : Int64 → Prop} (k : Q (bw (zo s))) : wX3_wordOf (nI s) σ Q := by
  obtain ⟨z1, z2, z3, -⟩ := blk hg hs ht
  have hv : vp_in (nI s) 100 := vp_in_nI hs (by omega)
  unfold wX3_wordOf
  refine ⟨hv, ?_⟩
  rw [nI_clamp (by omega), ((xb s hs).1 ht).1]
  refine x_hasZone xz z2 z1 ⟨fun c => absurd c (by decide), fun _ => ⟨hv, vp_in_nI (by omega) (by omega), ?_⟩⟩
  rw [nI_clamp (by omega), (xz.2 _ z1).2.1]
  exact k
theorem x_firstWord (xb : XB ln th sz zo pl σ) {s : Nat} (hs : s < 100) (ht : th s = true) {Q : Int32 → Prop} (k : Q (nI (pl s + 1))) : wX3_firstWord (nI s) σ Q := by
  unfold wX3_firstWord
  refine ⟨vp_in_nI hs (by omega), ?_⟩
  rw [nI_clamp (by omega), ((xb s hs).1 ht).2.1, nI_1]
  exact k
theorem x_lastWord (xb : XB ln th sz zo pl σ) (hg : Gh pg zn ow ln hd kd cl th sz zo pl) {s : Nat} (hs : s < 100) (ht : th s = true) {Q : Int32 → Prop} (k : Q (nI (pl s + ln (pl s) - 1))) : wX3_lastWord (nI s) σ Q := by
  obtain ⟨z1, z2, z3, z4, z5, z6, -⟩ := blk hg hs ht
  unfold wX3_lastWord
  refine ⟨vp_in_nI hs (by omega), vp_in_nI hs (by omega), ?_⟩
  rw [nI_clamp (by omega), ((xb s hs).1 ht).2.1, ((xb s hs).1 ht).2.2.1, nI_add, show (1 : Int32) = nI 1 from rfl, pk_sub (by omega)]
  exact k
theorem x_spoiledWords (xb : XB ln th sz zo pl σ) (xz : XZ zn kd cl bw σ) (hg : Gh pg zn ow ln hd kd cl th sz zo pl) {s : Nat} (hs : s < 100) (ht : th s = true) {Q : Int32 → Prop} (k : Q (nI (spw (kd (zo s)) (gB σ 0) (bw (zo s)) (pl s) (ln (pl s))))) : wX3_spoiledWords (nI s) σ Q := by
  obtain ⟨z1, z2, z3, z4, z5, z6, z7, z8, z9⟩ := blk hg hs ht
  unfold wX3_spoiledWords wX3_spoiledWords_b33
  unfold spw at k
  refine x_isGuarded xb xz hg hs ht (fun c => ⟨fun z => absurd rfl z, fun _ => ?_⟩) (fun c => ⟨fun _ => ?_, fun z => absurd z (by decide)⟩)
  · rw [if_neg c] at k; exact k
  · rw [if_pos c] at k
    have h9 := z9 (by omega)
    rw [if_pos c] at h9
    refine x_firstWord xb hs ht (x_numberAt (by omega) (x_wordOf xb xz hg hs ht ⟨fun c2 => ?_, fun c2 => ?_⟩))
    · rw [lg_cmp_eq] at c2
      rw [if_neg c2] at k
      refine x_lastWord xb hg hs ht (x_numberAt (by omega) (x_wordOf xb xz hg hs ht ⟨fun c3 => ?_, fun c3 => ?_⟩))
      · rw [lg_cmp_eq] at c3; rw [if_neg c3] at k; exact k
      · rw [lg_cmp_eq] at c3; rw [if_pos c3] at k; exact k
    · rw [lg_cmp_eq] at c2
      rw [if_pos c2] at k
      refine x_lastWord xb hg hs ht (x_numberAt (by omega) (x_wordOf xb xz hg hs ht ⟨fun c3 => ?_, fun c3 => ?_⟩))
      · rw [lg_cmp_eq] at c3; rw [if_neg c3] at k; exact k
      · rw [lg_cmp_eq] at c3; rw [if_pos c3] at k; exact k
theorem m_spoilt (mb : MB th sz zo pl τ) (mz : MZ zn kd cl bw τ) (hg : Gh pg zn ow ln hd kd cl th sz zo pl) {s : Nat} (hs : s < 100) (ht : th s = true) {Q : Int32 → Prop} (k : Q (nI (spw (kd (zo s)) (gB τ 0) (bw (zo s)) (pl s) (ln (pl s))))) : wX7_spoilt (nI s) τ Q := by
  obtain ⟨z1, z2, z3, z4, z5, z6, z7, z8, z9⟩ := blk hg hs ht
  obtain ⟨-, e0, e1, e2⟩ := (mb.2 s hs).1 ht
  have hv : vp_in (nI s) 100 := vp_in_nI hs (by omega)
  have hz8 : vp_in (nI (zo s)) 8 := vp_in_nI (by omega) (by omega)
  unfold wX7_spoilt wX7_spoilt_b47
  rw [nI_clamp (by omega), e0, e1, e2, nI_clamp (by omega), (mz.2 _ z1).1, (mz.2 _ z1).2.1]
  unfold spw at k
  refine ⟨hv, hz8, fun c => ?_, fun c => ?_⟩
  · have h5 : kd (zo s) = 5 := (nI_eq (b := 5) (by omega) (by omega)).mp c
    rw [if_pos h5] at k
    have h9 := z9 (by omega)
    rw [if_pos h5] at h9
    have el : nI (pl s) + 2 + nI (sz s) = nI (pl s + ln (pl s) - 1) := by rw [show (2 : Int32) = nI 2 from rfl, nI_add, nI_add]; congr 1; omega
    rw [el, nI_1, nI_clamp (by omega), nI_clamp (by omega)]
    have v1 : vp_in (nI (pl s + 1)) 2560 := vp_in_nI (by omega) (by omega)
    have v2 : vp_in (nI (pl s + ln (pl s) - 1)) 2560 := vp_in_nI (by omega) (by omega)
    refine ⟨hv, v1, hz8, fun c2 => ⟨hv, hv, v2, hz8, fun c3 => ?_, fun c3 => ?_⟩, fun c2 => ⟨hv, hv, v2, hz8, fun c3 => ?_, fun c3 => ?_⟩⟩
    · rw [lg_cmp_eq] at c2 c3; rw [if_neg c2, if_neg c3] at k; exact k
    · rw [lg_cmp_eq] at c2 c3; rw [if_neg c2, if_pos c3] at k; exact k
    · rw [lg_cmp_eq] at c2 c3; rw [if_pos c2, if_neg c3] at k; exact k
    · rw [lg_cmp_eq] at c2 c3; rw [if_pos c2, if_pos c3] at k; exact k
  · rw [if_neg (fun z => c (by rw [z]; rfl))] at k
    exact k
/-- a handle that is asked of: findings told, or a block that is there (class) -/
theorem x_ask (hg : Gh pg zn ow ln hd kd cl th sz zo pl) (xb : XB ln th sz zo pl σ) {a : Int} (ha : R32 a) {T : Int32 → Prop} {Q : Int32 → SS → Prop} (h1 : ∀ n : Nat, fnd (gA σ 3) th a = -(n : Int) → 1 ≤ n → n ≤ 9 → Q (iI (fnd (gA σ 3) th a)) (ansX σ n)) (h2 : ∀ s : Nat, fnd (gA σ 3) th a = s → s < 100 → th s = true → T (nI s)) : wX3_find (iI a) σ (fun r => (0 ≤ r → T r) ∧ (¬ 0 ≤ r → wX6_tell r σ (fun r σ => Q r σ))) := by
  refine x_find xb (zo8 hg) ha ?_
  rw [l_0]
  rcases fnd_cases (gA σ 3) th a with e | e | ⟨e0, e1, e2, e3, e4⟩
  · exact br_le (by unfold R32; omega) ⟨fun c => by omega, fun _ => x_tellF (Or.inl e) h1⟩
  · exact br_le (by unfold R32; omega) ⟨fun c => by omega, fun _ => x_tellF (Or.inr e) h1⟩
  · obtain ⟨s, hs⟩ := Int.eq_ofNat_of_zero_le e2
    rw [hs] at e3 e4 ⊢
    rw [Int.toNat_natCast] at e4
    refine br_le (by unfold R32; omega) ⟨fun _ => ?_, fun c => by omega⟩
    rw [iI_nat]
    exact h2 s hs (by omega) e4
theorem handleRem {gv : Nat → Int32} {a : Int} (ha : R32 a) {s : Nat} (hf : fnd gv th a = s) : iI a - iI a / 100 * 100 = nI s := by
  unfold R32 at ha
  rcases fnd_cases gv th a with e | e | ⟨e0, e1, e2, e3, e4⟩
  · omega
  · omega
  · rw [l_100, rem_iI e0 (by omega), ← e1, hf, iI_nat]
end WORDS
theorem s_block : stp_block II := by
  intro κ σx σm x1 x2 h
  obtain ⟨a, ha, rfl⟩ := ex_iI x1
  obtain ⟨b, hb, rfl⟩ := ex_iI x2
  obtain ⟨⟨pg, zn, ow, ln, hd, kd, cl, bw, th, sz, zo, pl, hg⟩, h2, h4⟩ := id h
  obtain ⟨g1, ⟨xg, xz, xb⟩, ⟨mg, mz, mb⟩, hraw⟩ := id hg
  have ef := fnd_congr (gv := gA σx 3) (gv' := gA σm 4) th a hraw.1
  unfold R32 at hb
  unfold wX6_block
  refine x_ask g1 xb ha (fun n e n1 n2 => ?_) (fun s e s1 s2 => ?_)
  · rw [ef] at e ⊢
    unfold wX7_block wX7_block_b19 wX7_block_b29
    refine m_look mb ha ?_
    rw [if_pos (by omega)]
    refine ⟨fun _ => ⟨fun c => absurd c (by rw [l_0, e, iI_le (by omega) (by omega) (by omega) (by omega)]; omega), fun _ => ?_⟩, fun c => absurd (by rw [l_0, e, iI_lt (by omega) (by omega) (by omega) (by omega)]; omega) c⟩
    rw [e]
    exact m_answer n1 n2 ⟨rfl, h.ans n⟩
  · rw [ef] at e
    obtain ⟨z1, z2, z3, z4, z5, z6, z7, z8, z9⟩ := blk g1 s1 s2
    have hv : vp_in (nI s) 100 := vp_in_nI s1 (by omega)
    have er := handleRem ha e
    have mk : ∀ (r : Int32) (σ' : SS), (b < 0 ∨ 3 < b → r = iI (-1) ∧ II κ σ' (ansM σm 1)) → (b = 0 → r = nI (sz s) ∧ II κ σ' σm) → (b = 1 → r = nI (zo s) ∧ II κ σ' σm) → (b = 2 → r = nI (pl s + ahd (kd (zo s))) ∧ II κ σ' σm) → (b = 3 → r = nI (spw (kd (zo s)) (gB σm 0) (bw (zo s)) (pl s) (ln (pl s))) ∧ II κ σ' σm) → wX7_block (iI a) (iI b) σm (fun r' τ' => r = r' ∧ II κ σ' τ') := by
      intro r σ' k1 k2 k3 k4 k5
      unfold wX7_block wX7_block_b19 wX7_block_b29
      refine m_look mb ha ?_
      rw [if_neg (by omega), er, nI_clamp (by omega), ((mb.2 s s1).1 s2).2.1, ((mb.2 s s1).1 s2).2.2.1]
      have bad : (b < 0 ∨ 3 < b) → ((0 : Int32) ≤ iI 0 → wX7_answer (-1) σm fun r29 σ29 => r = r29 ∧ II κ σ' σ29) ∧ (¬ (0 : Int32) ≤ iI 0 → wX7_answer (iI 0) σm fun r29 σ29 => r = r29 ∧ II κ σ' σ29) := fun hc => ⟨fun _ => by rw [l_m1]; exact m_answer (n := 1) (by omega) (by omega) (k1 hc), fun z => absurd (by decide) z⟩
      refine ⟨fun c => absurd c (by decide), fun _ => ⟨fun c => ?_, fun c => ⟨fun c2 => ⟨fun c3 => ⟨fun c4 => ⟨fun c5 => ?_, fun c5 => ?_⟩, fun c4 => ⟨hv, ?_⟩⟩, fun c3 => ⟨hv, ?_⟩⟩, fun c2 => ?_⟩⟩⟩
      · rw [l_0, iI_lt (by omega) (by omega) (by omega) (by omega)] at c; exact bad (Or.inl c)
      · rw [l_0, iI_lt (by omega) (by omega) (by omega) (by omega)] at c
        rw [l_3, iI_le (by omega) (by omega) (by omega) (by omega)] at c2
        rw [l_0, iI_eq (by omega) (by omega) (by omega) (by omega)] at c3
        rw [l_1, iI_eq (by omega) (by omega) (by omega) (by omega)] at c4
        rw [l_2, iI_eq (by omega) (by omega) (by omega) (by omega)] at c5
        exact m_spoilt mb mz g1 s1 s2 (k5 (by omega))
      · rw [l_2, iI_eq (by omega) (by omega) (by omega) (by omega)] at c5
        exact m_firstNumber mb mz g1 s1 s2 (k4 c5)
      · rw [l_1, iI_eq (by omega) (by omega) (by omega) (by omega)] at c4; exact k3 c4
      · rw [l_0, iI_eq (by omega) (by omega) (by omega) (by omega)] at c3; exact k2 c3
      · rw [l_3, iI_le (by omega) (by omega) (by omega) (by omega)] at c2; exact bad (Or.inr (by omega))
    rw [nI_clamp (by omega), ((xb s s1).1 s2).1, ((xb s s1).1 s2).2.2.2]
    simp only [l_0, l_1, l_2, l_3]
    refine ⟨fun c => ⟨hv, ?_⟩, fun c => ⟨hv, ?_⟩, fun c => x_firstNumber xb xz g1 s1 s2 ?_, fun c => x_spoiledWords xb xz g1 s1 s2 ?_, fun c => ?_⟩
    · rw [iI_eq (by omega) (by omega) (by omega) (by omega)] at c
      exact mk _ _ (fun z => by omega) (fun _ => ⟨rfl, h⟩) (fun z => by omega) (fun z => by omega) (fun z => by omega)
    · rw [iI_eq (by omega) (by omega) (by omega) (by omega)] at c
      exact mk _ _ (fun z => by omega) (fun z => by omega) (fun _ => ⟨rfl, h⟩) (fun z => by omega) (fun z => by omega)
    · rw [iI_eq (by omega) (by omega) (by omega) (by omega)] at c
      exact mk _ _ (fun z => by omega) (fun z => by omega) (fun z => by omega) (fun _ => ⟨rfl, h⟩) (fun z => by omega)
    · rw [iI_eq (by omega) (by omega) (by omega) (by omega)] at c
      refine mk _ _ (fun z => by omega) (fun z => by omega) (fun z => by omega) (fun z => by omega) (fun _ => ⟨?_, h⟩)
      by_cases h5 : kd (zo s) = 5
      · have h9 := z9 (by omega)
        rw [if_pos h5] at h9
        rw [spw_congr (by omega) (by omega) hraw.2.1]
      · unfold spw; rw [if_neg h5, if_neg h5]
    · rw [iI_eq (by omega) (by omega) (by omega) (by omega), iI_eq (by omega) (by omega) (by omega) (by omega), iI_eq (by omega) (by omega) (by omega) (by omega), iI_eq (by omega) (by omega) (by omega) (by omega)] at c
      rw [neg_iI]
      exact x_tell (n := 1) (by omega) (by omega) (mk _ _ (fun _ => ⟨rfl, h.ans 1⟩) (fun z => by omega) (fun z => by omega) (fun z => by omega) (fun z => by omega))
theorem s_spoil : stp_spoil II := by
  intro κ σx σm x1 x2 v h hb
  obtain ⟨a, ha, rfl⟩ := ex_iI x1
  obtain ⟨⟨pg, zn, ow, ln, hd, kd, cl, bw, th, sz, zo, pl, hg⟩, h2, h4⟩ := id h
  obtain ⟨g1, ⟨xg, xz, xb⟩, ⟨mg, mz, mb⟩, hraw⟩ := id hg
  have ef := fnd_congr (gv := gA σx 3) (gv' := gA σm 4) th a hraw.1
  unfold wX6_spoil wX6_spoil_b70
  refine x_ask g1 xb ha (fun n e n1 n2 => ?_) (fun s e s1 s2 => ?_)
  · rw [ef] at e ⊢
    unfold wX7_spoil wX7_spoil_b30 wX7_spoil_b43
    refine m_look mb ha ?_
    rw [if_pos (by omega)]
    refine ⟨fun _ => ⟨fun c => absurd c (by rw [l_0, e, iI_le (by omega) (by omega) (by omega) (by omega)]; omega), fun _ => ?_⟩, fun c => absurd (by rw [l_0, e, iI_lt (by omega) (by omega) (by omega) (by omega)]; omega) c⟩
    rw [e]
    exact m_answer n1 n2 ⟨rfl, h.ans n⟩
  · rw [ef] at e
    obtain ⟨z1, z2, z3, z4, z5, z6, z7, z8, z9⟩ := blk g1 s1 s2
    have hv : vp_in (nI s) 100 := vp_in_nI s1 (by omega)
    have hz8 : vp_in (nI (zo s)) 8 := vp_in_nI (by omega) (by omega)
    have er := handleRem ha e
    have mk : ∀ (r : Int32) (σ' : SS), (¬ kd (zo s) = 5 → r = iI (-9) ∧ II κ σ' (ansM σm 9)) → (kd (zo s) = 5 → x2 = 0 → r = 0 ∧ II κ σ' (sB σm 0 (pl s + 1) v)) → (kd (zo s) = 5 → ¬ x2 = 0 → r = 0 ∧ II κ σ' (sB σm 0 (pl s + ln (pl s) - 1) v)) → wX7_spoil (iI a) x2 v σm (fun r' τ' => r = r' ∧ II κ σ' τ') := by
      intro r σ' k1 k2 k3
      unfold wX7_spoil wX7_spoil_b30 wX7_spoil_b43 wX7_spoil_b90
      refine m_look mb ha ?_
      rw [if_neg (by omega), er, nI_clamp (by omega), ((mb.2 s s1).1 s2).2.1, ((mb.2 s s1).1 s2).2.2.1, ((mb.2 s s1).1 s2).2.2.2, nI_clamp (by omega), (mz.2 _ z1).1]
      refine ⟨fun c => absurd c (by decide), fun _ => ⟨hv, hz8, fun c => ?_, fun c => ⟨fun _ => ?_, fun z => absurd (by decide) z⟩⟩⟩
      · have h5 : kd (zo s) = 5 := (nI_eq (b := 5) (by omega) (by omega)).mp c
        have h9 := z9 (by omega)
        rw [if_pos h5] at h9
        have el : nI (pl s) + 2 + nI (sz s) = nI (pl s + ln (pl s) - 1) := by rw [show (2 : Int32) = nI 2 from rfl, nI_add, nI_add]; congr 1; omega
        rw [el, nI_1, nI_clamp (by omega), nI_clamp (by omega)]
        exact ⟨fun c2 => ⟨hv, vp_in_nI (by omega) (by omega), k2 h5 c2⟩, fun c2 => ⟨hv, hv, vp_in_nI (by omega) (by omega), k3 h5 c2⟩⟩
      · rw [l_m9]
        exact m_answer (n := 9) (by omega) (by omega) (k1 (fun z => c (by rw [z]; rfl)))
    refine x_isGuarded xb xz g1 s1 s2 (fun c => ⟨fun z => absurd rfl z, fun _ => ?_⟩) (fun c => ⟨fun _ => ⟨fun c2 => ?_, fun c2 => ?_⟩, fun z => absurd z (by decide)⟩)
    · rw [l_m9]
      exact x_tell (n := 9) (by omega) (by omega) (mk _ _ (fun _ => ⟨rfl, h.ans 9⟩) (fun z => absurd z c) (fun z => absurd z c))
    · have h9 := z9 (by omega)
      rw [if_pos c] at h9
      exact x_firstWord xb s1 s2 (x_setNumber (by omega) (mk _ _ (fun z => absurd c z) (fun _ _ => ⟨rfl, h.num v⟩) (fun _ z => absurd c2 z)))
    · have h9 := z9 (by omega)
      rw [if_pos c] at h9
      exact x_lastWord xb g1 s1 s2 (x_setNumber (by omega) (mk _ _ (fun z => absurd c z) (fun _ z => absurd z c2) (fun _ _ => ⟨rfl, h.num v⟩)))
/-- n numbers from p on become v -/
def rng (f : Nat → Int64) (p n : Nat) (v : Int64) : Nat → Int64 := fun j => if p ≤ j ∧ j < p + n then v else f j
theorem rng_0 (f : Nat → Int64) (p : Nat) (v : Int64) : rng f p 0 v = f := by
  funext j; unfold rng; rw [if_neg (by omega)]
theorem rng_s (f : Nat → Int64) (p n : Nat) (v : Int64) : vp_updL (rng f p n v) (p + n) v = rng f p (n + 1) v := by
  funext j
  unfold vp_updL rng
  by_cases e : j = p + n
  · rw [if_pos e, if_pos (by omega)]
  · rw [if_neg e]
    by_cases e2 : p ≤ j ∧ j < p + n
    · rw [if_pos e2, if_pos (by omega)]
    · rw [if_neg e2, if_neg (by omega)]
theorem x_areThere {σ : SS} {p n : Nat} (hp : p < 100000) (hn : n < 100000) {Q : Int32 → Prop} (k0 : ¬ (0 < n ∧ p + n ≤ 2560) → Q 0) (k1 : 0 < n → p + n ≤ 2560 → Q 1) : wX3_areThere (nI p) (nI n) σ Q := by
  unfold wX3_areThere
  simp only [nI_iI, l_2560, iI_sub]
  rw [l_0]
  refine br_lt (by unfold R32; omega) ⟨fun c => by omega, fun _ => br_le (by unfold R32; omega) ⟨fun c => ?_, fun c => br_lt (by unfold R32; omega) ⟨fun c2 => ?_, fun c2 => br_lt (by unfold R32; omega) ⟨fun c3 => ?_, fun c3 => ?_⟩⟩⟩⟩
  · rw [← l_0]; exact k0 (by omega)
  · rw [← l_0]; exact k0 (by omega)
  · rw [← l_0]; exact k0 (by omega)
  · exact k1 (by omega) (by omega)
theorem x_setNumbers {σ : SS} {p n : Nat} (h : p + n ≤ 2560) {v : Int64} {Q : SS → Prop} (k : Q (sBB σ 0 (rng (gB σ 0) p n v))) : wX3_setNumbers (nI p) (nI n) v σ Q := by
  unfold wX3_setNumbers
  refine x_areThere (by omega) (by omega) (fun c => ⟨fun _ => ?_, fun z => absurd rfl z⟩) (fun c c2 => ⟨fun z => absurd z (by decide), fun _ => ?_⟩)
  · rw [show n = 0 by omega, rng_0, sBB_self] at k; exact k
  · unfold wX3_setNumbers_b12
    refine lfp_inv (fun t => ∃ i : Nat, i ≤ n ∧ t = (nI (p + i), sBB σ 0 (rng (gB σ 0) p i v))) (fun t => p + n - t.1.toNatClampNeg) ⟨0, by omega, by rw [rng_0, sBB_self]; rfl⟩ ?_
    rintro t X ⟨i, hi, rfl⟩ hX
    rw [nI_add]
    refine ⟨fun c => ?_, fun c => ?_⟩
    · have : i = n := by
        rcases Nat.lt_or_ge i n with q | q
        · exact absurd c (nI_ge (show p + i < p + n by omega) (by omega))
        · omega
      subst this
      exact k
    · have hlt : i < n := by
        rcases Nat.lt_or_ge i n with q | q
        · exact q
        · exact absurd (nI_le (show p + n ≤ p + i by omega) (by omega)) c
      refine ⟨vp_in_nI (by omega) (by omega), hX _ ⟨i + 1, by omega, ?_⟩ ?_⟩
      · show (nI (p + i) + 1, sB (sBB σ 0 (rng (gB σ 0) p i v)) 0 (nI (p + i)).toNatClampNeg v) = _
        rw [nI_clamp (by omega), sB_sBB, rng_s, nI_1]
        rfl
      · show p + n - (nI (p + i) + 1).toNatClampNeg < p + n - (nI (p + i)).toNatClampNeg
        rw [nI_1, nI_clamp (by omega), nI_clamp (by omega)]
        omega
