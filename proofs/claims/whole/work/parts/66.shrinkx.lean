/-! ===== resize of the class; the reference shrinks ===== -/
theorem fup_self {α : Type} (f : Nat → α) (a : Nat) : fup f a (f a) = f := by
  funext i
  unfold fup
  by_cases w : i = a
  · rw [if_pos w, w]
  · rw [if_neg w]
theorem x_setNumbersI {σ : SS} {q c d : Nat} (h : q + (c - d) ≤ 2560) (hc : c < 100000) (hd : d < 100000) {v : Int64} {Q : SS → Prop} (k : Q (sBB σ 0 (rng (gB σ 0) q (c - d) v))) : wX3_setNumbers (nI q) (nI c - nI d) v σ Q := by
  rcases Nat.lt_or_ge c d with w | w
  · rw [show c - d = 0 by omega, rng_0, sBB_self] at k
    unfold wX3_setNumbers wX3_areThere
    rw [nI_iI c, nI_iI d, iI_sub]
    refine ⟨fun c1 => absurd c1 (nI_pos (by omega)), fun _ => ⟨fun _ => ⟨fun _ => k, fun z => absurd rfl z⟩, fun c2 => absurd (by rw [l_0, iI_le (by omega) (by omega) (by omega) (by omega)]; omega) c2⟩⟩
  · rw [pk_sub w]
    exact x_setNumbers h k
section RESZ
variable {pg zn : Nat} {ow : Nat → Int} {ln kd cl : Nat → Nat} {hd : Nat → Int} {th : Nat → Bool} {sz zo pl : Nat → Nat} {bw : Nat → Int64} {σ τ : SS}
/-- how long the piece of a block of size n is -/
def ndl (k c n : Nat) : Nat := if k = 0 then c else due k n
theorem okSzNew {l' : Nat → Nat} {s n : Nat} (hZ : ∀ z, z < zn → kd z ≤ 5 ∧ (kd z = 0 → 1 ≤ cl z ∧ cl z ≤ 32)) (hz : zo s < zn) (hSz : OkSz kd cl ln th sz zo pl) (hl : l' (pl s) = ndl (kd (zo s)) (cl (zo s)) n) (hn : n ≤ mst (kd (zo s)) (cl (zo s))) (bl : ∀ i, i < 100 → th i = true → i ≠ s → l' (pl i) = ln (pl i)) : OkSz kd cl l' th (fup sz s n) zo pl := by
  intro i hi hti
  by_cases w : i = s
  · rw [w, fup_s, hl]
    unfold ndl
    unfold mst at hn
    have hpw := pw_cases n
    by_cases c0 : kd (zo s) = 0
    · rw [if_pos c0] at hn ⊢
      have := (hZ _ hz).2 c0
      exact ⟨by omega, fun _ => hn, fun c => by omega, fun c => by omega⟩
    · rw [if_neg c0] at hn ⊢
      unfold due
      rw [if_neg c0]
      by_cases c1 : kd (zo s) = 1
      · rw [if_pos c1] at hn ⊢
        exact ⟨by omega, fun c => absurd c c0, fun _ => by omega, fun c => by omega⟩
      · rw [if_neg c1] at hn ⊢
        exact ⟨by omega, fun c => absurd c c0, fun c => absurd c c1, fun _ => rfl⟩
  · rw [fup_n _ _ w, bl i hi hti w]
    exact hSz i hi hti
/-- the numbers after a block changed its size where it is: the class's way, the reference's -/
def nmX (k : Nat) (f : Nat → Int64) (p l L a c : Nat) (w : Int64) : Nat → Int64 := gw k (rng (gw k f p l 0) a c 0) p L w
def nmM (k : Nat) (f : Nat → Int64) (p l L a c : Nat) (w : Int64) : Nat → Int64 := gw k (if k = 5 then vp_updL (rng f a c 0) (p + l - 1) 0 else rng f a c 0) p L w
theorem nm_eq {k : Nat} {f g : Nat → Int64} {p l L a c : Nat} {w : Int64} (h : ∀ j, j < 2560 → f j = g j) : ∀ j, j < 2560 → nmX k f p l L a c w j = nmM k g p l L a c w j := by
  intro j hj
  unfold nmX nmM gw
  by_cases c5 : k = 5
  · rw [if_pos c5, if_pos c5, if_pos c5, if_pos c5]
    unfold vp_updL rng
    by_cases e1 : j = p + L - 1
    · rw [if_pos e1, if_pos e1]
    · rw [if_neg e1, if_neg e1]
      by_cases e2 : j = p + 1
      · rw [if_pos e2, if_pos e2]
      · rw [if_neg e2, if_neg e2]
        by_cases e3 : a ≤ j ∧ j < a + c
        · rw [if_pos e3]
          by_cases e4 : j = p + l - 1
          · rw [if_pos e4]
          · rw [if_neg e4, if_pos e3]
        · rw [if_neg e3]
          by_cases e4 : j = p + l - 1
          · rw [if_pos e4]
            show (if j = p + l - 1 then (0 : Int64) else if j = p + 1 then 0 else f j) = _
            rw [if_pos e4]
          · rw [if_neg e4]
            show (if j = p + l - 1 then (0 : Int64) else if j = p + 1 then 0 else f j) = _
            rw [if_neg e4, if_neg e2, if_neg e3]
            exact h j hj
  · rw [if_neg c5, if_neg c5, if_neg c5, if_neg c5]
    unfold rng
    by_cases e3 : a ≤ j ∧ j < a + c
    · rw [if_pos e3, if_pos e3]
    · rw [if_neg e3, if_neg e3]
      exact h j hj
theorem x_resize (hg : Gh pg zn ow ln hd kd cl th sz zo pl) (xg : XG pg ow ln hd σ) (xz : XZ zn kd cl bw σ) (xb : XB ln th sz zo pl σ) {s n : Nat} (hs : s < 100) (ht : th s = true) (hn : n ≤ mst (kd (zo s)) (cl (zo s))) (hb1 : kd (zo s) = 1 → n ≤ ln (pl s)) (hb2 : 2 ≤ kd (zo s) → due (kd (zo s)) n ≤ ln (pl s) + bhd pg ow ln hd (zo s) (pl s + ln (pl s))) {Q : SS → Prop} (k : ∀ σ' ow' ln' hd', Gh pg zn ow' ln' hd' kd cl th (fup sz s n) zo pl → XG pg ow' ln' hd' σ' → XZ zn kd cl bw σ' → XB ln' th (fup sz s n) zo pl σ' → (∀ k, k ≠ 0 → k ≠ 1 → k ≠ 6 → k ≠ 7 → gA σ' k = gA σ k) → gB σ' 0 = nmX (kd (zo s)) (gB σ 0) (pl s) (ln (pl s)) (ndl (kd (zo s)) (cl (zo s)) n) (pl s + ahd (kd (zo s)) + n) (sz s - n) (bw (zo s)) → gL σ' 0 = gL σ 0 → (∀ k, k < pg → (ow' k = -2 ↔ ow k = -2)) → Q σ') : wX6_resize (kp (kd (zo s))) (nI s) (nI n) σ Q := by
  obtain ⟨hT, hK, hSz, hSet, hJ⟩ := id hg
  obtain ⟨z1, z2, z3, z4, z5, z6, z7, z8, z9⟩ := blk hg hs ht
  obtain ⟨x4, x5, x6, x7⟩ := (xb s hs).1 ht
  have hv : vp_in (nI s) 100 := vp_in_nI hs (by omega)
  have hne := numEnd hg hs ht
  have hM : mst (kd (zo s)) (cl (zo s)) ≤ 2000 := by
    unfold mst
    by_cases c0 : kd (zo s) = 0
    · rw [if_pos c0]; have := (hT.1.2.2.2 _ z1).2 c0; omega
    · rw [if_neg c0]; split <;> omega
  have hl2 : 2 ≤ ln (pl s) ∨ ¬ kd (zo s) = 5 := by
    by_cases c5 : kd (zo s) = 5
    · left
      have := z9 (by omega)
      rw [if_pos c5] at this
      omega
    · exact Or.inr c5
  unfold wX6_resize
  refine x_setWordsM xz z2 hs ⟨x4, x5, x6, x7⟩ z1 z3 hl2 (by omega) ?_
  obtain ⟨σ6, hσ6⟩ : ∃ σ6, σ6 = sBB σ 0 (gw (kd (zo s)) (gB σ 0) (pl s) (ln (pl s)) 0) := ⟨_, rfl⟩
  rw [← hσ6]
  have xz6 : XZ zn kd cl bw σ6 := by subst hσ6; exact xz
  have xb6 : XB ln th sz zo pl σ6 := by subst hσ6; exact xb
  have xg6 : XG pg ow ln hd σ6 := by subst hσ6; exact xg
  have eB6 : gB σ6 0 = gw (kd (zo s)) (gB σ 0) (pl s) (ln (pl s)) 0 := by subst hσ6; exact gB_sBB_self _ _ _
  refine x_firstNumber xb6 xz6 hg hs ht ⟨hv, ?_⟩
  rw [nI_clamp (by omega), ((xb6 s hs).1 ht).2.2.2, nI_add]
  have hend : pl s + ahd (kd (zo s)) + n + (sz s - n) ≤ 2560 ∨ sz s < n := by omega
  have hrange : pl s + ahd (kd (zo s)) + n + (sz s - n) ≤ 2560 ∨ sz s - n = 0 := by omega
  have setN : ∀ R : SS → Prop, R (sBB σ6 0 (rng (gB σ6 0) (pl s + ahd (kd (zo s)) + n) (sz s - n) 0)) → wX3_setNumbers (nI (pl s + ahd (kd (zo s)) + n)) (nI (sz s) - nI n) 0 σ6 R := by
    intro R hR
    rcases hend with w | w
    · exact x_setNumbersI w (by omega) (by omega) hR
    · rw [show sz s - n = 0 by omega, rng_0, sBB_self] at hR
      have ha2 : ahd (kd (zo s)) ≤ 2 := by unfold ahd; split <;> (try split) <;> omega
      unfold wX3_setNumbers wX3_areThere
      rw [nI_iI (sz s), nI_iI n, iI_sub]
      exact ⟨fun c1 => absurd c1 (nI_pos (by omega)), fun _ => ⟨fun _ => ⟨fun _ => hR, fun z => absurd rfl z⟩, fun c2 => absurd (by rw [l_0, iI_le (by omega) (by omega) (by omega) (by omega)]; omega) c2⟩⟩
  refine setN _ ?_
  obtain ⟨σ35, hσ35⟩ : ∃ σ35, σ35 = sBB σ6 0 (rng (gB σ6 0) (pl s + ahd (kd (zo s)) + n) (sz s - n) 0) := ⟨_, rfl⟩
  rw [← hσ35]
  have xz35 : XZ zn kd cl bw σ35 := by subst hσ35; exact xz6
  have xb35 : XB ln th sz zo pl σ35 := by subst hσ35; exact xb6
  have xg35 : XG pg ow ln hd σ35 := by subst hσ35; exact xg6
  have eB35 : gB σ35 0 = rng (gw (kd (zo s)) (gB σ 0) (pl s) (ln (pl s)) 0) (pl s + ahd (kd (zo s)) + n) (sz s - n) 0 := by subst hσ35; rw [gB_sBB_self, eB6]
  have eA35 : ∀ i, gA σ35 i = gA σ i := fun i => by subst hσ35 hσ6; rfl
  have eL35 : gL σ35 0 = gL σ 0 := by subst hσ35 hσ6; rfl
  refine x_reshapeK hg xg35 xz35 xb35 hs ht hn hb1 hb2 (fun σ41 l' d' hT' hK' xg' ag' lp' bl' hJ' hS' e6' => ⟨hv, ?_⟩)
  have hl' : l' (pl s) = ndl (kd (zo s)) (cl (zo s)) n := lp'
  obtain ⟨σ42, hσ42⟩ : ∃ σ42, σ42 = sA σ41 7 s (nI n) := ⟨_, rfl⟩
  rw [← hσ42]
  have xz42 : XZ zn kd cl bw σ42 := by
    have q : XZ zn kd cl bw σ41 := by
      unfold XZ at xz35 ⊢
      rw [ag'.1 1, ag'.2.1 2 (by omega) (by omega) (by omega), ag'.2.2.2.1 1]
      exact xz35
    subst hσ42
    exact q
  have xg42 : XG pg ow l' d' σ42 := by subst hσ42; exact xg'
  have bx42 : BX σ42 s (zo s) (pl s) (l' (pl s)) n := by
    subst hσ42
    refine ⟨?_, ?_, ?_, gA_same _ _ _ _⟩
    · show gA σ41 4 s = _
      rw [ag'.2.1 4 (by omega) (by omega) (by omega), eA35]
      exact x4
    · show gA σ41 5 s = _
      rw [ag'.2.1 5 (by omega) (by omega) (by omega), eA35]
      exact x5
    · show gA σ41 6 s = _
      exact e6'
  have xb42 : XB l' th (fup sz s n) zo pl σ42 := by
    subst hσ42
    intro i hi
    show (_ → gA σ41 4 i = _ ∧ gA σ41 5 i = _ ∧ gA σ41 6 i = _ ∧ upd (gA σ41 7) s (nI n) i = _) ∧ (_ → gA σ41 4 i = _)
    rw [ag'.2.1 4 (by omega) (by omega) (by omega), ag'.2.1 5 (by omega) (by omega) (by omega), ag'.2.1 7 (by omega) (by omega) (by omega)]
    obtain ⟨w1, w2⟩ := xb35 i hi
    refine ⟨fun hti => ?_, w2⟩
    obtain ⟨v4, v5, v6, v7⟩ := w1 hti
    refine ⟨v4, v5, ?_, ?_⟩
    · by_cases w : i = s
      · rw [w]; exact e6'
      · rw [ag'.2.2.1 i w, bl' i hi hti w]; exact v6
    · unfold upd
      by_cases w : i = s
      · rw [if_pos w, w, fup_s]
      · rw [if_neg w, fup_n _ _ w]; exact v7
  have hplt := (hK'.1 s hs ht)
  have hbnd := (hT'.2.1 (pl s) hplt.2.1 hplt.2.2.1).2.1
  have hl2' : 2 ≤ l' (pl s) ∨ ¬ kd (zo s) = 5 := by
    by_cases c5 : kd (zo s) = 5
    · left
      rw [hl']
      unfold ndl due
      rw [if_neg (by omega), if_neg (by omega), if_neg (by omega), if_pos c5]
      omega
    · exact Or.inr c5
  refine x_wordOfM xz42 z2 hs bx42 z1 (x_setWordsM xz42 z2 hs bx42 z1 z3 hl2' (by omega) ⟨hv, ?_⟩)
  obtain ⟨σ67, hσ67⟩ : ∃ σ67, σ67 = sBB σ42 0 (gw (kd (zo s)) (gB σ42 0) (pl s) (l' (pl s)) (bw (zo s))) := ⟨_, rfl⟩
  rw [← hσ67]
  have e67 : gA σ67 4 s = nI (zo s) := by subst hσ67; exact bx42.1
  rw [e67]
  have hRest : Rest (zo s) pg zn ow l' d' kd cl th (fup sz s n) zo pl := ⟨hT', hK', okSzNew hT.1.2.2.2 z1 hSz hl' hn bl', hJ', hS'⟩
  refine x_tidyK hRest (by subst hσ67; exact xg42) (by subst hσ67; exact xz42) (by subst hσ67; exact xb42) z1 (fun σ4 o4 l4 d4 hG4 xg4 ag4 bl4 mi4 => ?_)
  refine k σ4 o4 l4 d4 hG4 xg4 ((show XZ zn kd cl bw σ67 by subst hσ67; exact xz42).agp ag4) ((show XB l' th (fup sz s n) zo pl σ67 by subst hσ67; exact xb42).agp ag4 bl4) (fun k k0 k1 k6 k7 => ?_) ?_ ?_ mi4
  · rw [ag4.2.1 k k0 k1]
    subst hσ67 hσ42
    show gA (sA σ41 7 s (nI n)) k = _
    rw [gA_sA_ne _ _ _ k7, ag'.2.1 k k0 k1 k6, eA35]
  · rw [ag4.2.2.1 0]
    subst hσ67 hσ42
    rw [gB_sBB_self]
    show gw (kd (zo s)) (gB σ41 0) (pl s) (l' (pl s)) (bw (zo s)) = _
    rw [ag'.2.2.2.1 0, eB35, hl']
    rfl
  · rw [ag4.2.2.2 0]
    subst hσ67 hσ42
    show gL σ41 0 = _
    rw [ag'.2.2.2.2 0, eL35]
end RESZ
