/-! ===== the reference takes a piece ===== -/
theorem gA_same (τ : SS) (k i : Nat) (v : Int32) : gA (sA τ k i v) k i = v := by
  rw [gA_sA]
  unfold upd
  rw [if_pos rfl]
section TAKEN
variable {pg zn : Nat} {ow : Nat → Int} {ln kd cl : Nat → Nat} {hd : Nat → Int} {th : Nat → Bool} {sz zo pl : Nat → Nat} {bw : Nat → Int64} {τ : SS}
/-- the piece at p cut to d, or as it was -/
def Cut (ln : Nat → Nat) (hd : Nat → Int) (l' : Nat → Nat) (d' : Nat → Int) (p d : Nat) : Prop := (d = ln p ∧ l' = ln ∧ d' = hd) ∨ (d < ln p ∧ l' p = d ∧ l' (p + d) = ln p - d ∧ (∀ i, i ≠ p → i ≠ p + d → l' i = ln i) ∧ d' (p + d) = -1 ∧ ∀ i, i ≠ p + d → d' i = hd i)
theorem m_cut (mg : MG pg ow ln hd τ) {p d : Nat} (hp : p < 64 * pg) (hd0 : 0 < d) (hdl : d ≤ ln p) (hb : p + ln p ≤ 2560) {Q : SS → Prop} (k : ∀ τ' l' d', Cut ln hd l' d' p d → MG pg ow l' d' τ' → AgQ τ τ' → Q τ') : wX7_cut (nI p) (nI d) τ Q := by
  have hvp : vp_in (nI p) 2560 := vp_in_nI (by omega) (by omega)
  unfold wX7_cut
  rw [nI_clamp (by omega), (mg.2.2 p hp).1, pk_sub hdl, nI_add]
  refine ⟨hvp, hvp, fun c => ?_, fun c => ?_⟩
  · have : d = ln p := by
      rcases Nat.lt_or_ge d (ln p) with w | w
      · exact absurd c (nI_nle (by omega) (by omega))
      · omega
    refine k _ ln hd (Or.inl ⟨this, rfl, rfl⟩) ⟨mg.1, mg.2.1, fun j hj => ⟨?_, (mg.2.2 j hj).2⟩⟩ (AgQ.m _ _ _ _ (by omega))
    show upd (gA τ 1) p (nI d) j = _
    unfold upd
    by_cases e : j = p
    · rw [if_pos e, e, this]
    · rw [if_neg e]; exact (mg.2.2 j hj).1
  · have hlt : d < ln p := by
      rcases Nat.lt_or_ge d (ln p) with w | w
      · exact w
      · rw [show ln p - d = 0 by omega] at c; exact absurd (by decide) c
    have hvq : vp_in (nI (p + d)) 2560 := vp_in_nI (by omega) (by omega)
    rw [nI_clamp (by omega)]
    refine ⟨hvq, hvq, ?_⟩
    obtain ⟨l', hl'⟩ : ∃ l' : Nat → Nat, l' = fun i => if i = p then d else if i = p + d then ln p - d else ln i := ⟨_, rfl⟩
    obtain ⟨d', hd'⟩ : ∃ d' : Nat → Int, d' = fun i => if i = p + d then -1 else hd i := ⟨_, rfl⟩
    have e1 : l' p = d := by rw [hl']; show (if p = p then _ else _) = _; rw [if_pos rfl]
    have e2 : l' (p + d) = ln p - d := by rw [hl']; show (if p + d = p then _ else _) = _; rw [if_neg (by omega), if_pos rfl]
    have e3 : ∀ i, i ≠ p → i ≠ p + d → l' i = ln i := by intro i i1 i2; rw [hl']; show (if i = p then _ else _) = _; rw [if_neg i1, if_neg i2]
    have d1 : d' (p + d) = -1 := by rw [hd']; exact if_pos rfl
    have d2 : ∀ i, i ≠ p + d → d' i = hd i := fun i hi => by rw [hd']; exact if_neg hi
    refine k _ l' d' (Or.inr ⟨hlt, e1, e2, e3, d1, d2⟩) ⟨mg.1, mg.2.1, fun j hj => ⟨?_, fun hl => ?_⟩⟩ (((AgQ.m _ _ _ _ (by omega)).tr (AgQ.m _ _ _ _ (by omega))).tr (AgQ.m _ _ _ _ (by omega)))
    · show upd (upd (gA τ 1) p (nI d)) (p + d) (nI (ln p - d)) j = _
      unfold upd
      by_cases e : j = p + d
      · rw [if_pos e, e, e2]
      · rw [if_neg e]
        by_cases e' : j = p
        · rw [if_pos e', e', e1]
        · rw [if_neg e', e3 j e' e]; exact (mg.2.2 j hj).1
    · show upd (gA τ 2) (p + d) (-1) j = _
      unfold upd
      by_cases e : j = p + d
      · rw [if_pos e, e, d1]; rfl
      · rw [if_neg e, d2 j e]
        by_cases e' : j = p
        · rw [e'] at hj ⊢; exact (mg.2.2 p hj).2 (by omega)
        · rw [e3 j e' e] at hl; exact (mg.2.2 j hj).2 hl
theorem m_part {p n z : Nat} (h : Tiled pg zn ow ln kd cl) (hK : OkK pg zn ow ln hd th zo pl) (mg : MG pg ow ln hd τ) (hp : p < 64 * pg) (hl : 0 < ln p) (hoz : ow (p / 64) = z) (hkz : kd z = 1) (hn : n ≤ 64) (hnl : pw n ≤ ln p) (hJ : OkJq (fun j q => j ≠ p ∧ q ≠ p) pg ow ln hd kd) {C : SS → Prop} (k : ∀ τ' l' d', Tiled pg zn ow l' kd cl → OkK pg zn ow l' d' th zo pl → MG pg ow l' d' τ' → AgQ τ τ' → l' p = pw n → d' p = hd p → (∀ s, s < 100 → th s = true → pl s ≠ p → l' (pl s) = ln (pl s)) → OkJq (fun j q => j ≠ p ∧ q ≠ p) pg ow l' d' kd → C τ') : lfp (fun (X84 : SS → Prop) (t : SS) => vp_in (nI p) 2560 ∧ (wX7_power (nI n) t (fun r93 => (((gA t 1 (nI p).toNatClampNeg) / 2) < r93 → C t) ∧ (¬ ((gA t 1 (nI p).toNatClampNeg) / 2) < r93 → vp_in (nI p) 2560 ∧ (vp_in (nI p) 2560 ∧ (vp_in (nI p) 2560 ∧ (vp_in (nI p) 2560 ∧ (vp_in ((nI p) + (gA (sA t 1 (nI p).toNatClampNeg ((gA t 1 (nI p).toNatClampNeg) / 2)) 1 (nI p).toNatClampNeg)) 2560 ∧ (∀ σ127 : SS, σ127 = sA (sA t 1 (nI p).toNatClampNeg ((gA t 1 (nI p).toNatClampNeg) / 2)) 1 ((nI p) + (gA (sA t 1 (nI p).toNatClampNeg ((gA t 1 (nI p).toNatClampNeg) / 2)) 1 (nI p).toNatClampNeg)).toNatClampNeg (gA (sA t 1 (nI p).toNatClampNeg ((gA t 1 (nI p).toNatClampNeg) / 2)) 1 (nI p).toNatClampNeg) → (vp_in (nI p) 2560 ∧ (vp_in ((nI p) + (gA σ127 1 (nI p).toNatClampNeg)) 2560 ∧ (X84 (sA σ127 2 ((nI p) + (gA σ127 1 (nI p).toNatClampNeg)).toNatClampNeg ((-1))))))))))))))) τ := by
  have hp40 := h.1.1
  have kzz : kz kd (z : Int) = kd z := by unfold kz; rw [Int.toNat_natCast]
  have hkp : kz kd (ow (p / 64)) = 1 := by rw [hoz, kzz]; exact hkz
  have hvp : vp_in (nI p) 2560 := vp_in_nI (by omega) (by omega)
  have cp : (nI p).toNatClampNeg = p := nI_clamp (by omega)
  rw [cp]
  refine lfp_inv (fun t => ∃ (l : Nat → Nat) (d : Nat → Int), pw n ≤ l p ∧ Tiled pg zn ow l kd cl ∧ OkK pg zn ow l d th zo pl ∧ MG pg ow l d t ∧ AgQ τ t ∧ d p = hd p ∧ (∀ s, s < 100 → th s = true → pl s ≠ p → l (pl s) = ln (pl s)) ∧ OkJq (fun j q => j ≠ p ∧ q ≠ p) pg ow l d kd) (fun t => (gA t 1 p).toNatClampNeg) ⟨ln, hd, hnl, h, hK, mg, AgQ.rf τ, rfl, fun _ _ _ _ => rfl, hJ⟩ ?_
  rintro t X ⟨l, d, hnm, hT0, hK0, mg0, ag, dp, bl, hJ0⟩ hX
  have hpw := pw_cases n
  obtain ⟨b1, b2, b3, b4⟩ := bud hT0.2.2.2.1 hp (by omega) (hT0.2.1 p hp (by omega)).1 hkp
  have el : gA t 1 p = nI (l p) := (mg0.2.2 p hp).1
  have e2 : nI (l p) / 2 = nI (l p / 2) := pk_div (d := 2) (by omega) (by omega) (by omega)
  rw [el, e2]
  refine ⟨hvp, m_power hn ⟨fun c => ?_, fun c => ⟨hvp, hvp, hvp, hvp, ?_⟩⟩⟩
  · rw [nI_ltI (by omega) (by omega)] at c
    exact k t l d hT0 hK0 mg0 ag (by omega) dp bl hJ0
  · rw [nI_ltI (by omega) (by omega)] at c
    obtain ⟨x, hx, hx32⟩ : ∃ x, l p = 2 * x ∧ (x = 1 ∨ x = 2 ∨ x = 4 ∨ x = 8 ∨ x = 16 ∨ x = 32) := ⟨l p / 2, by omega, by omega⟩
    have hmx : l p / 2 = x := by omega
    rw [hx] at b2 b3
    have hpx : (p + x) / 64 = p / 64 ∧ p % x = 0 ∧ (p + x) % x = 0 ∧ pair (p + x) x = p := by
      unfold pair
      rcases hx32 with rfl | rfl | rfl | rfl | rfl | rfl <;> (refine ⟨by omega, by omega, by omega, ?_⟩; rw [if_neg (by omega)]; omega)
    have hvq : vp_in (nI (p + x)) 2560 := vp_in_nI (by omega) (by omega)
    rw [hmx, gA_same, nI_add]
    refine ⟨hvq, fun σ127 e127 => ?_⟩
    rw [nI_clamp (by omega)] at e127
    have e5 : gA σ127 1 p = nI x := by
      rw [e127]
      show upd (upd (gA t 1) p (nI x)) (p + x) (nI x) p = _
      unfold upd
      rw [if_neg (by omega), if_pos rfl]
    rw [e5, nI_add, nI_clamp (by omega)]
    refine ⟨hvp, hvq, ?_⟩
    obtain ⟨l', hl'⟩ : ∃ l' : Nat → Nat, l' = fun i => if i = p then x else if i = p + x then x else l i := ⟨_, rfl⟩
    obtain ⟨d', hd'⟩ : ∃ d' : Nat → Int, d' = fun i => if i = p + x then -1 else d i := ⟨_, rfl⟩
    have r1 : l' p = x := by rw [hl']; show (if p = p then _ else _) = _; rw [if_pos rfl]
    have r2 : l' (p + x) = x := by rw [hl']; show (if p + x = p then _ else _) = _; rw [if_neg (by omega), if_pos rfl]
    have r3 : ∀ i, i ≠ p → i ≠ p + x → l' i = l i := by intro i i1 i2; rw [hl']; show (if i = p then _ else _) = _; rw [if_neg i1, if_neg i2]
    have d1 : d' (p + x) = -1 := by rw [hd']; exact if_pos rfl
    have d2 : ∀ i, i ≠ p + x → d' i = d i := fun i hi => by rw [hd']; exact if_neg hi
    have hT1 : Tiled pg zn ow l' kd cl := cutBud hT0 hp (n := x) (by omega) (by omega) hkp r1 r2 r3
    obtain ⟨hK1, bl1⟩ := cutOk (ln1 := l') (hd1 := d') hT0.2.1 hK0 hp (n := x) (by omega) (by omega) r1 r3 d1 d2
    have opx : ow ((p + x) / 64) = ow (p / 64) := by rw [hpx.1]
    have mg1 : MG pg ow l' d' (sA σ127 2 (p + x) (-1)) := by
      subst e127
      refine ⟨mg0.1, mg0.2.1, fun j hj => ⟨?_, fun hl' => ?_⟩⟩
      · show upd (upd (gA t 1) p (nI x)) (p + x) (nI x) j = _
        unfold upd
        by_cases e : j = p + x
        · rw [if_pos e, e, r2]
        · rw [if_neg e]
          by_cases e' : j = p
          · rw [if_pos e', e', r1]
          · rw [if_neg e', r3 j e' e]; exact (mg0.2.2 j hj).1
      · show upd (gA t 2) (p + x) (-1) j = _
        unfold upd
        by_cases e : j = p + x
        · rw [if_pos e, e, d1]; rfl
        · rw [if_neg e, d2 j e]
          by_cases e' : j = p
          · rw [e'] at hj ⊢; exact (mg0.2.2 p hj).2 (by omega)
          · rw [r3 j e' e] at hl'; exact (mg0.2.2 j hj).2 hl'
    refine hX _ ⟨l', d', by omega, hT1, hK1, mg1, ?_, by rw [d2 p (by omega)]; exact dp, fun s hs ht hsp => (bl1 s hs ht hsp).trans (bl s hs ht hsp), ⟨fun i hi hli hf hk hn' ho hP => ?_, fun i hi hli hf hk h64 hP => ?_⟩⟩ ?_
    · subst e127
      exact ((ag.tr (AgQ.m _ _ _ _ (by omega))).tr (AgQ.m _ _ _ _ (by omega))).tr (AgQ.m _ _ _ _ (by omega))
    · have u : i ≠ p + x := fun w => by rw [w, opx] at hk; omega
      rw [r3 i hP.1 u] at hli hn' ho hP ⊢
      rw [d2 i u] at hf
      have v : i + l i ≠ p + x := fun w => by rw [w, opx] at ho; rw [← ho] at hk; omega
      rw [d2 _ v]
      exact hJ0.1 i hi hli hf hk hn' ho hP
    · by_cases u : i = p + x
      · rw [u, r2] at hP
        exact absurd hpx.2.2.2 hP.2
      · rw [r3 i hP.1 u] at hli h64 hP ⊢
        rw [d2 i u] at hf
        rintro ⟨w1, w2⟩
        by_cases v : pair i (l i) = p + x
        · rw [v, r2] at w1
          obtain ⟨c1, c2, c3, -⟩ := bud hT0.2.2.2.1 hi hli (hT0.2.1 i hi hli).1 hk
          have := (pair_inv (j := i) (n := l i) (by omega) c2).1
          rw [v, ← w1, hpx.2.2.2] at this
          exact hP.1 this.symm
        · rw [r3 _ hP.2 v] at w1
          rw [d2 _ v] at w2
          exact hJ0.2 i hi hli hf hk h64 hP ⟨w1, w2⟩
    · rw [(mg1.2.2 p hp).1, r1, el, nI_clamp (by omega), nI_clamp (by omega)]
      omega
/-- the piece at p is made just long enough -/
theorem m_taken74 {z n p : Nat} (h : Tiled pg zn ow ln kd cl) (hK : OkK pg zn ow ln hd th zo pl) (hJ : OkJ pg ow ln hd kd) (mg : MG pg ow ln hd τ) (mz : MZ zn kd cl bw τ) (hzn : z < zn) (hn : n ≤ 2000) (hn1 : kd z = 1 → n ≤ 64) (hp : p < 64 * pg) (hfr : 0 < fr ow ln hd z p) (hd2 : due (kd z) n ≤ fr ow ln hd z p) {Q : Int32 → SS → Prop} (k : ∀ τ' ln' hd', Tkn z n p pg zn ow ln' hd' kd cl th zo pl → MG pg ow ln' hd' τ' → AgQ τ τ' → (∀ s, s < 100 → th s = true → ln' (pl s) = ln (pl s)) → Q (nI p) τ') : wX7_taken_b74 (nI z) (nI n) (nI p) τ Q := by
  have hp40 := h.1.1
  have hz8 := h.1.2.1
  have hk5 := (h.1.2.2.2 z hzn).1
  have kzz : kz kd (z : Int) = kd z := by unfold kz; rw [Int.toNat_natCast]
  obtain ⟨f1, f2, f3, f4⟩ := fr_pos hfr
  rw [f3] at hd2
  obtain ⟨t1, t2, t3⟩ := h.2.1 p hp f4
  have hvz : vp_in (nI z) 8 := vp_in_nI (by omega) (by omega)
  have q0 : nI (kd z) = 0 ↔ kd z = 0 := nI_eq (b := 0) (by omega) (by omega)
  have q1 : nI (kd z) = 1 ↔ kd z = 1 := nI_eq (b := 1) (by omega) (by omega)
  have q5 : nI (kd z) = 5 ↔ kd z = 5 := nI_eq (b := 5) (by omega) (by omega)
  have hJq : OkJq (fun j q => j ≠ p ∧ q ≠ p) pg ow ln hd kd := ⟨fun j a b c d e f _ => hJ.1 j a b c d e f, fun j a b c d e _ => hJ.2 j a b c d e⟩
  have noblk : ∀ s, s < 100 → th s = true → pl s ≠ p := fun s hs ht w => by
    have := (hK.1 s hs ht).2.2.2.1
    rw [w] at this
    omega
  unfold wX7_taken_b74 wX7_need
  rw [nI_clamp (show z < 2 ^ 31 by omega), (mz.2 z hzn).1, q0, q1, q5]
  refine ⟨hvz, fun c1 => ⟨hvz, fun c0 => ?_, fun c0 => ?_⟩, fun c1 => ?_⟩
  · refine k τ ln hd ⟨h, hK, hJq, ⟨hp, f4, f2, f1⟩, ?_⟩ mg (AgQ.rf τ) (fun _ _ _ => rfl)
    rw [if_pos c0]
    have := slotAt h.2.2.1 (k := p / 64) (by omega) f1 c0 (p % 64) (by omega)
    rw [show 64 * (p / 64) + p % 64 = p by omega] at this
    by_cases s : Sl (cl z) (p % 64)
    · exact this.1 s
    · have := this.2 s; omega
  · have hkz : 2 ≤ kd z := by omega
    have hkp : 2 ≤ kz kd (ow (p / 64)) := by rw [f1, kzz]; exact hkz
    have row : ∀ d, due (kd z) n = d → 0 < d → wX7_cut (nI p) (nI d) τ (fun σ164 => Q (nI p) σ164) := by
      intro d hde hd0
      rw [hde] at hd2
      refine m_cut mg hp hd0 hd2 (by omega) (fun τ' l' d' hc mg' ag' => ?_)
      rcases hc with ⟨w1, w2, w3⟩ | ⟨w1, e1, e2, e3, d1, d2⟩
      · rw [w2, w3] at mg'
        exact k τ' ln hd ⟨h, hK, hJq, ⟨hp, f4, f2, f1⟩, by rw [if_neg c0, hde]; exact w1.symm⟩ mg' ag' (fun _ _ _ => rfl)
      · obtain ⟨hK', bl'⟩ := cutOk (ln1 := l') (hd1 := d') h.2.1 hK hp hd0 w1 e1 e3 d1 d2
        exact k τ' l' d' ⟨cutRow h hp hd0 w1 hkp e1 e2 e3, hK', cutJ h hp hd0 w1 (Or.inl f2) hkp e1 e2 e3 d2 hJ, ⟨hp, by omega, by rw [d2 p (by omega)]; exact f2, f1⟩, by rw [if_neg c0, hde]; exact e1⟩ mg' ag' (fun s hs ht => bl' s hs ht (noblk s hs ht))
    refine ⟨hvz, fun c5 => ?_, fun c5 => ?_⟩
    · show wX7_cut (nI p) (nI n + 1) τ _
      rw [nI_1]
      exact row (n + 1) (by unfold due; rw [if_neg c0, if_neg c1, if_neg c5]) (by omega)
    · show wX7_cut (nI p) (nI n + 2 + 1) τ _
      rw [show nI n + 2 = nI (n + 2) from nI_add n 2, nI_1]
      exact row (n + 2 + 1) (by unfold due; rw [if_neg c0, if_neg c1, if_pos c5]) (by omega)
  · have edue : due (kd z) n = pw n := by unfold due; rw [if_neg (show ¬ kd z = 0 by omega), if_pos c1]
    rw [edue] at hd2
    unfold wX7_taken_b84
    refine m_part h hK mg hp f4 f1 c1 (hn1 c1) hd2 hJq (fun τ' l' d' a b c d e f g i => k τ' l' d' ⟨a, b, i, ⟨hp, ?_, by rw [f]; exact f2, f1⟩, ?_⟩ c d (fun s hs ht => g s hs ht (noblk s hs ht)))
    · have := pw_cases n; omega
    · rw [if_neg (show ¬ kd z = 0 by omega), edue]; exact e
theorem m_come (hg : Gh pg zn ow ln hd kd cl th sz zo pl) (mg : MG pg ow ln hd τ) (mz : MZ zn kd cl bw τ) {z a m : Nat} (hzn : z < zn) (hm : 0 < m) (hm1 : kd z < 2 → m = 1) (hfp : FP ow pg m a) {Q : SS → Prop} (k : ∀ τ' ow1 l1 d1, (∀ i, i < pg → ow1 i = if a ≤ i ∧ i < a + m then (z : Int) else ow i) → Geo pg zn ow1 l1 d1 kd cl th sz zo pl → MG pg ow1 l1 d1 τ' → AgQ τ τ' → (∀ s, s < 100 → th s = true → l1 (pl s) = ln (pl s)) → Q τ') : wX7_comePages (nI z) (nI a) (nI m) τ Q := by
  obtain ⟨h, hK, hSz, hSet, hJ⟩ := id hg
  have hp40 := h.1.1
  have hz8 := h.1.2.1
  obtain ⟨hk5, hcc⟩ := h.1.2.2.2 z hzn
  have hfp1 := hfp.1
  have hvz : vp_in (nI z) 8 := vp_in_nI (by omega) (by omega)
  have q0 : nI (kd z) = 0 ↔ kd z = 0 := nI_eq (b := 0) (by omega) (by omega)
  have q1 : nI (kd z) = 1 ↔ kd z = 1 := nI_eq (b := 1) (by omega) (by omega)
  obtain ⟨ow1, how1⟩ : ∃ ow1 : Nat → Int, ow1 = fun k => if a ≤ k ∧ k < a + m then (z : Int) else ow k := ⟨_, rfl⟩
  have o1 : ∀ k, a ≤ k → k < a + m → ow1 k = z := fun k w1 w2 => by rw [how1]; exact if_pos ⟨w1, w2⟩
  have o2 : ∀ k, ¬ (a ≤ k ∧ k < a + m) → ow1 k = ow k := fun k w => by rw [how1]; exact if_neg w
  have oo : ∀ i, i < pg → ow1 i = if a ≤ i ∧ i < a + m then (z : Int) else ow i := fun i _ => by rw [how1]
  have empty : ∀ j, a ≤ j / 64 → j / 64 < a + m → ln j = 0 := by
    intro j w1 w2
    rcases Nat.eq_zero_or_pos (ln j) with q | q
    · exact q
    · have := (h.2.1 j (by omega) q).1
      rw [hfp.2 _ w1 w2] at this
      omega
  unfold wX7_comePages wX7_comePages_b3
  refine lfp_inv (fun t => ∃ i : Nat, a ≤ i ∧ i ≤ a + m ∧ t.1 = nI i ∧ OwnR τ t.2 a i (nI z)) (fun t => a + m - t.1.toNatClampNeg) ⟨a, by omega, by omega, rfl, OwnR.z τ a _⟩ ?_
  rintro ⟨t1, t2⟩ X ⟨i, i1, i2, e1', O'⟩ hX
  have e1'' : t1 = nI i := e1'
  subst e1''
  have O : OwnR τ t2 a i (nI z) := O'
  rw [nI_add, nI_clamp (show z < 2 ^ 31 by omega)]
  refine ⟨fun c => ?_, fun c => ?_⟩
  · have hia : i = a + m := by
      rcases Nat.lt_or_ge i (a + m) with w | w
      · exact absurd c (nI_ge w (by omega))
      · omega
    subst hia
    obtain ⟨p1, p2, p3, p4, p5⟩ := id O
    have mz2 : MZ zn kd cl bw t2 := by
      unfold MZ at mz ⊢
      rw [p1 1, p2 3 (by omega), p3 1]
      exact mz
    have own2 : ∀ k, k < pg → gA t2 0 k = iI (ow1 k) := by
      intro k hk
      rw [p5 k]
      by_cases w : a ≤ k ∧ k < a + m
      · rw [if_pos w, o1 k w.1 w.2, iI_nat]
      · rw [if_neg w, o2 k w]; exact mg.2.1 k hk
    have ag2 : AgQ τ t2 := ⟨p1, fun k w0 _ _ => p2 k w0, p3, p4⟩
    have e64 : (64 : Int32) * nI a = nI (64 * a) := pk_mul 64 a
    have e64m : (64 : Int32) * nI m = nI (64 * m) := pk_mul 64 m
    rw [show ((nI (a + m), t2) : Int32 × SS).2 = t2 from rfl, e64, e64m, nI_clamp (show 64 * a < 2 ^ 31 by omega)]
    have hva : vp_in (nI (64 * a)) 2560 := vp_in_nI (by omega) (by omega)
    refine ⟨hvz, ?_⟩
    have e3 : gA (sA (sA t2 1 (64 * a) (nI (64 * m))) 2 (64 * a) (-1)) 3 = gA t2 3 := rfl
    rw [e3, (mz2.2 z hzn).1, q0, q1]
    refine ⟨fun c0 => ⟨hva, hva, hvz, ?_⟩, fun c0 => ⟨hvz, ?_⟩⟩
    · -- a BUDDY's or a row's
      obtain ⟨lA, hlA⟩ : ∃ lA : Nat → Nat, lA = fun j => if j = 64 * a then 64 * m else ln j := ⟨_, rfl⟩
      obtain ⟨dA, hdA⟩ : ∃ dA : Nat → Int, dA = fun j => if j = 64 * a then -1 else hd j := ⟨_, rfl⟩
      have e1 : lA (64 * a) = 64 * m := by rw [hlA]; exact if_pos rfl
      have e2 : ∀ j, j ≠ 64 * a → lA j = ln j := fun j hj => by rw [hlA]; exact if_neg hj
      have f1 : dA (64 * a) = -1 := by rw [hdA]; exact if_pos rfl
      have f2 : ∀ j, j ≠ 64 * a → dA j = hd j := fun j hj => by rw [hdA]; exact if_neg hj
      have only : ∀ j, a ≤ j / 64 → j / 64 < a + m → 0 < lA j → j = 64 * a := by
        intro j w1 w2 w3
        by_cases w : j = 64 * a
        · exact w
        · rw [e2 j w, empty j w1 w2] at w3; omega
      have gA0 : Add pg ow ln hd ow1 lA dA z a m := ⟨⟨hm, hfp⟩, o1, o2, fun j hj => ⟨e2 j (by omega), f2 j (by omega)⟩, fun j w1 w2 w3 => by rw [only j w1 w2 w3]; exact f1⟩
      obtain ⟨hKA, blA⟩ := gA0.ok hK
      have mgA : MG pg ow1 lA dA (sA (sA t2 1 (64 * a) (nI (64 * m))) 2 (64 * a) (-1)) := by
        refine ⟨(p1 0).trans mg.1, own2, fun j hj => ⟨?_, fun hl => ?_⟩⟩
        · show upd (gA t2 1) (64 * a) (nI (64 * m)) j = _
          rw [p2 1 (by omega)]
          unfold upd
          by_cases w : j = 64 * a
          · rw [if_pos w, w, e1]
          · rw [if_neg w, e2 j w]; exact (mg.2.2 j hj).1
        · show upd (gA t2 2) (64 * a) (-1) j = _
          rw [p2 2 (by omega)]
          unfold upd
          by_cases w : j = 64 * a
          · rw [if_pos w, w, f1]; rfl
          · rw [if_neg w, f2 j w]
            rw [e2 j w] at hl
            exact (mg.2.2 j hj).2 hl
      have agA : AgQ τ (sA (sA t2 1 (64 * a) (nI (64 * m))) 2 (64 * a) (-1)) := (ag2.tr (AgQ.m _ _ _ _ (by omega))).tr (AgQ.m _ _ _ _ (by omega))
      refine ⟨fun c1 => ?_, fun c1 => ?_⟩
      · have hm1' := hm1 (by omega)
        subst hm1'
        have hTA : Tiled pg zn ow1 lA kd cl := addPage h (a := a) (by omega) (hfp.2 a (by omega) (by omega)) hzn (by omega) (o1 a (by omega) (by omega)) (fun k w => o2 k (by omega)) (fun _ => ⟨e1, fun x x1 x2 => by rw [e2 _ (by omega)]; exact empty _ (by omega) (by omega)⟩) (fun w => absurd w c0) (fun j hj => e2 j (by omega))
        have hJA := gA0.jn2 h hTA (by omega) rfl (fun _ => only) (fun _ => e1) hJ
        exact k _ ow1 lA dA oo ⟨hTA, hKA, hSz.same blA, hJA⟩ mgA agA blA
      · have hkz : 2 ≤ kd z := by omega
        have hTA : Tiled pg zn ow1 lA kd cl := addRow h hm hfp.1 hfp.2 hzn hkz o1 o2 e1 e2
        have hJA := gA0.jn h (fun _ => only) (fun w => by omega) hJ
        exact m_join hTA hKA mgA (p := 64 * a) (z := z) (by omega) (by omega) (by omega) (by rw [show 64 * a / 64 = a by omega]; exact o1 a (by omega) (by omega)) hzn hkz hJA (fun τ3 l3 hT3 hK3 mg3 ag3 bl3 hJ3 => k τ3 ow1 l3 dA oo ⟨hT3, hK3, hSz.same (fun s hs ht => (bl3 s hs ht).trans (blA s hs ht)), hJ3⟩ mg3 (agA.tr ag3) (fun s hs ht => (bl3 s hs ht).trans (blA s hs ht)))
    · -- a SLAB's
      obtain ⟨hc1, hc2⟩ := hcc c0
      have hm1' := hm1 (by omega)
      subst hm1'
      obtain ⟨lA, hlA⟩ : ∃ lA : Nat → Nat, lA = fun j => if j / 64 = a then (if 1 ≤ j % 64 ∧ (j % 64 - 1) % cl z = 0 ∧ j % 64 + cl z ≤ 64 then cl z else 0) else ln j := ⟨_, rfl⟩
      obtain ⟨dA, hdA⟩ : ∃ dA : Nat → Int, dA = fun j => if j / 64 = a then -1 else hd j := ⟨_, rfl⟩
      have e1 : ∀ j, j / 64 = a → lA j = if 1 ≤ j % 64 ∧ (j % 64 - 1) % cl z = 0 ∧ j % 64 + cl z ≤ 64 then cl z else 0 := fun j hj => by rw [hlA]; exact if_pos hj
      have e2 : ∀ j, j / 64 ≠ a → lA j = ln j := fun j hj => by rw [hlA]; exact if_neg hj
      have f1 : ∀ j, j / 64 = a → dA j = -1 := fun j hj => by rw [hdA]; exact if_pos hj
      have f2 : ∀ j, j / 64 ≠ a → dA j = hd j := fun j hj => by rw [hdA]; exact if_neg hj
      have gA0 : Add pg ow ln hd ow1 lA dA z a 1 := ⟨⟨by omega, hfp⟩, o1, o2, fun j hj => ⟨e2 j (by omega), f2 j (by omega)⟩, fun j w1 w2 w3 => f1 j (by omega)⟩
      have hTA : Tiled pg zn ow1 lA kd cl := addPage h (a := a) (by omega) (hfp.2 a (by omega) (by omega)) hzn (by omega) (o1 a (by omega) (by omega)) (fun k w => o2 k (by omega)) (fun w => by omega) (fun _ x hx => by
        rw [e1 _ (by omega), show (64 * a + x) % 64 = x by omega]) (fun j hj => e2 j hj)
      obtain ⟨hKA, blA⟩ := gA0.ok hK
      have hJA := gA0.jn2 h hTA (by omega) rfl (fun w => absurd c0 w) (fun w => by omega) hJ
      have ecl : (gB t2 1 z).toInt32 = nI (cl z) := by
        rw [(mz2.2 z hzn).2.1, (mz2.2 z hzn).2.2 c0, lN_i]
      rw [ecl]
      unfold wX7_comePages_b52
      have kk : ∀ τ' : SS, AgQ t2 τ' → gA τ' 0 = gA t2 0 → (∀ j, j / 64 = a → Sl (cl z) (j % 64) → gA τ' 1 j = nI (cl z) ∧ gA τ' 2 j = iI (-1)) → (∀ j, ¬ (j / 64 = a ∧ Sl (cl z) (j % 64)) → gA τ' 1 j = gA t2 1 j ∧ gA τ' 2 j = gA t2 2 j) → Q τ' := by
        intro τ' ag' g0 m1 m2
        refine k τ' ow1 lA dA oo ⟨hTA, hKA, hSz.same blA, hJA⟩ ⟨(ag'.1 0).trans ((p1 0).trans mg.1), fun k hk => by rw [g0]; exact own2 k hk, fun j hj => ⟨?_, fun hl => ?_⟩⟩ (ag2.tr ag') blA
        · by_cases w : j / 64 = a
          · rw [e1 j w]
            by_cases s : Sl (cl z) (j % 64)
            · rw [(m1 j w s).1, if_pos (show 1 ≤ j % 64 ∧ (j % 64 - 1) % cl z = 0 ∧ j % 64 + cl z ≤ 64 from s)]
            · rw [(m2 j (fun v => s v.2)).1, if_neg (show ¬ (1 ≤ j % 64 ∧ (j % 64 - 1) % cl z = 0 ∧ j % 64 + cl z ≤ 64) from s), p2 1 (by omega), (mg.2.2 j hj).1, empty j (by omega) (by omega)]
          · rw [e2 j w, (m2 j (fun v => w v.1)).1, p2 1 (by omega)]
            exact (mg.2.2 j hj).1
        · by_cases w : j / 64 = a
          · by_cases s : Sl (cl z) (j % 64)
            · rw [(m1 j w s).2, f1 j w]
            · rw [e1 j w, if_neg (show ¬ (1 ≤ j % 64 ∧ (j % 64 - 1) % cl z = 0 ∧ j % 64 + cl z ≤ 64) from s)] at hl
              omega
          · rw [e2 j w] at hl
            rw [f2 j w, (m2 j (fun v => w v.1)).2, p2 2 (by omega)]
            exact (mg.2.2 j hj).2 hl
      generalize cl z = cc at hc1 hc2 kk
      refine lfp_inv (fun t => ∃ u : Nat, cc * u ≤ 63 ∧ AgQ t2 t.2 ∧ gA t.2 0 = gA t2 0 ∧ (∀ j, j / 64 = a → Sl cc (j % 64) → j < 64 * a + 1 + cc * u → gA t.2 1 j = nI cc ∧ gA t.2 2 j = iI (-1)) ∧ (∀ j, ¬ (j / 64 = a ∧ Sl cc (j % 64) ∧ j < 64 * a + 1 + cc * u) → gA t.2 1 j = gA t2 1 j ∧ gA t.2 2 j = gA t2 2 j) ∧ t.1 = nI (1 + cc * u)) (fun t => 65 - t.1.toNatClampNeg) ⟨0, by omega, AgQ.rf t2, rfl, fun j w1 w2 w3 => by have := w2.1; omega, fun _ _ => ⟨rfl, rfl⟩, by rw [Nat.mul_zero]; rfl⟩ ?_
      rintro ⟨s1, s2⟩ Y ⟨u, hu, ag', g0', w1', w2', e1u⟩ hY
      have e1u' : s1 = nI (1 + cc * u) := e1u
      subst e1u'
      have ag3 : AgQ t2 s2 := ag'
      have g0 : gA s2 0 = gA t2 0 := g0'
      have w1 : ∀ j, j / 64 = a → Sl cc (j % 64) → j < 64 * a + 1 + cc * u → gA s2 1 j = nI cc ∧ gA s2 2 j = iI (-1) := w1'
      have w2 : ∀ j, ¬ (j / 64 = a ∧ Sl cc (j % 64) ∧ j < 64 * a + 1 + cc * u) → gA s2 1 j = gA t2 1 j ∧ gA s2 2 j = gA t2 2 j := w2'
      rw [show ((nI (1 + cc * u), s2) : Int32 × SS).1 = nI (1 + cc * u) from rfl, show ((nI (1 + cc * u), s2) : Int32 × SS).2 = s2 from rfl, nI_add, nI_add]
      refine ⟨fun c2 => ?_, fun c2 => ?_⟩
      · have hend : 64 < 1 + cc * u + cc := (nI_ltI (a := 64) (by omega) (by omega)).mp c2
        refine kk s2 ag3 g0 (fun j hj hs => w1 j hj hs ?_) (fun j hj => w2 j (fun w => hj ⟨w.1, w.2.1⟩))
        rcases Nat.lt_or_ge j (64 * a + 1 + cc * u) with w | w
        · exact w
        · have := hs.2.2; omega
      · have hin : 1 + cc * u + cc ≤ 64 := by
          rcases Nat.lt_or_ge 64 (1 + cc * u + cc) with w | w
          · exact absurd (nI_lt (a := 64) w (by omega)) c2
          · exact w
        have hs : Sl cc (1 + cc * u) := ⟨by omega, by rw [Nat.add_sub_cancel_left]; exact Nat.mul_mod_right cc u, by omega⟩
        have hvq : vp_in (nI (64 * a + (1 + cc * u))) 2560 := vp_in_nI (by omega) (by omega)
        rw [nI_clamp (by omega)]
        refine ⟨hvq, hvq, hY _ ⟨u + 1, by rw [Nat.mul_add, Nat.mul_one]; omega, (ag3.tr (AgQ.m _ _ _ _ (by omega))).tr (AgQ.m _ _ _ _ (by omega)), g0, fun j hj hsj hj2 => ?_, fun j hj => ?_, by rw [Nat.mul_add, Nat.mul_one]; show nI (1 + cc * u + cc) = _; rw [Nat.add_assoc]⟩ ?_⟩
        · rw [Nat.mul_add, Nat.mul_one] at hj2
          show upd (gA s2 1) (64 * a + (1 + cc * u)) (nI cc) j = _ ∧ upd (gA s2 2) (64 * a + (1 + cc * u)) (-1) j = _
          unfold upd
          by_cases e : j = 64 * a + (1 + cc * u)
          · rw [if_pos e, if_pos e]
            exact ⟨rfl, rfl⟩
          · rw [if_neg e, if_neg e]
            refine w1 j hj hsj ?_
            rcases Nat.lt_or_ge j (64 * a + 1 + cc * u) with w | w
            · exact w
            · have := sl_one hc1 hsj (u := u) (by omega) (by omega)
              omega
        · rw [Nat.mul_add, Nat.mul_one] at hj
          show upd (gA s2 1) (64 * a + (1 + cc * u)) (nI cc) j = _ ∧ upd (gA s2 2) (64 * a + (1 + cc * u)) (-1) j = _
          unfold upd
          by_cases e : j = 64 * a + (1 + cc * u)
          · exfalso
            refine hj ⟨by omega, ?_, by omega⟩
            rw [show j % 64 = 1 + cc * u by omega]
            exact hs
          · rw [if_neg e, if_neg e]
            exact w2 j (fun w => hj ⟨w.1, w.2.1, by omega⟩)
        · show 65 - (nI (1 + cc * u + cc)).toNatClampNeg < 65 - (nI (1 + cc * u)).toNatClampNeg
          rw [nI_clamp (by omega), nI_clamp (by omega)]
          omega
  · have hib : i < a + m := by
      rcases Nat.lt_or_ge i (a + m) with w | w
      · exact w
      · exact absurd (nI_le w (by omega)) c
    refine ⟨(show vp_in (nI i) 40 from vp_in_nI (by omega) (by omega)), hX _ ⟨i + 1, by omega, by omega, ?_, ?_⟩ ?_⟩
    · show nI i + 1 = _
      rw [nI_1]
    · rw [show ((nI i, t2) : Int32 × SS).1 = nI i from rfl, nI_clamp (by omega)]
      exact O.s i1
    · show a + m - (nI i + 1).toNatClampNeg < a + m - (nI i).toNatClampNeg
      rw [nI_1, nI_clamp (by omega), nI_clamp (by omega)]
      omega
theorem m_taken (hg : Gh pg zn ow ln hd kd cl th sz zo pl) (mg : MG pg ow ln hd τ) (mz : MZ zn kd cl bw τ) {z n : Nat} (hzn : z < zn) (hn : n ≤ mst (kd z) (cl z)) {Q : Int32 → SS → Prop} (k0 : TK pg zn ow ln hd kd cl th sz zo pl z n (-1) → Q (iI (-1)) τ) (k1 : ∀ (p : Nat) τ' ow' ln' hd', TK pg zn ow ln hd kd cl th sz zo pl z n p → Tkn z n p pg zn ow' ln' hd' kd cl th zo pl → MG pg ow' ln' hd' τ' → AgQ τ τ' → (∀ s, s < 100 → th s = true → ln' (pl s) = ln (pl s)) → (∀ k, k < pg → (ow' k = -2 ↔ ow k = -2)) → Q (nI p) τ') : wX7_taken (nI z) (nI n) τ Q := by
  obtain ⟨h, hK, hSz, hSet, hJ⟩ := id hg
  have hp40 := h.1.1
  have hz8 := h.1.2.1
  obtain ⟨hk5, hcc⟩ := h.1.2.2.2 z hzn
  have hn' : n ≤ 2000 ∧ (kd z = 1 → n ≤ 64) := by
    unfold mst at hn
    by_cases c0 : kd z = 0
    · rw [if_pos c0] at hn; have := hcc c0; omega
    · rw [if_neg c0] at hn
      by_cases c1 : kd z = 1
      · rw [if_pos c1] at hn; omega
      · rw [if_neg c1] at hn; omega
  have kzz : kz kd (z : Int) = kd z := by unfold kz; rw [Int.toNat_natCast]
  have hvz : vp_in (nI z) 8 := vp_in_nI (by omega) (by omega)
  have hbr := bst_rng (kd z) (fr ow ln hd z) (due (kd z) n) (64 * pg)
  unfold wX7_taken
  refine m_named h hK mg mz hzn hn'.1 hn'.2 ⟨fun c => ?_, fun c => ⟨hvz, ?_⟩⟩
  · rw [l_0, iI_le (by omega) (by omega) (by omega) (by omega)] at c
    obtain ⟨b1, b2⟩ := bst_some c
    obtain ⟨p, hp⟩ := Int.eq_ofNat_of_zero_le c
    have htk : TK pg zn ow ln hd kd cl th sz zo pl z n p := Or.inl ⟨c, hp.symm⟩
    rw [hp] at b1 b2 hbr ⊢
    rw [Int.toNat_natCast] at b1 b2
    rw [iI_nat]
    exact m_taken74 h hK hJ mg mz hzn hn'.1 hn'.2 (by omega) b1 b2 (fun τ' l' d' a b c d => k1 p τ' ow l' d' htk a b c d (fun _ _ => Iff.rfl))
  · rw [l_0, iI_le (by omega) (by omega) (by omega) (by omega)] at c
    have body : ∀ m, mny (kd z) n = m → 0 < m → m < 100 → (kd z < 2 → m = 1) → due (kd z) n ≤ 64 * m → wX7_taken_b41 (nI z) (nI n) (nI m) τ Q := by
      intro m hm hm0 hm2 hm1 hdm
      unfold wX7_taken_b41
      refine m_freePages hp40 (owR h) mg hm0 (by omega) (fun r hr r1 r2 => ⟨fun c2 => ?_, fun c2 => ?_⟩)
      · rw [l_0, iI_le (by omega) (by omega) (by omega) (by omega)] at c2
        obtain ⟨a, ha⟩ := Int.eq_ofNat_of_zero_le c2
        subst ha
        have hfp : FP ow pg m a := by
          rcases hr with ⟨w, -⟩ | ⟨b, w1, w2, -⟩
          · omega
          · rw [show a = b by omega]; exact w2
        have hfp1 := hfp.1
        rw [iI_nat]
        refine m_come hg mg mz hzn hm0 hm1 hfp (fun τ1 ow1 l1 d1 oo hgeo mg1 ag1 bl1 => ?_)
        have o1 : ∀ k, a ≤ k → k < a + m → ow1 k = z := fun k w1 w2 => by rw [oo k (by omega), if_pos ⟨w1, w2⟩]
        have mz1 := mz.agq ag1
        have nob : ∀ s, s < 100 → th s = true → ∀ x, pl s ≤ x → x < pl s + l1 (pl s) → ¬ (a ≤ x / 64 ∧ x / 64 < a + m) := by
          intro s hs ht x x1 x2 w
          rw [bl1 s hs ht] at x2
          obtain ⟨k1', k2', k3', k4', k5'⟩ := hK.1 s hs ht
          have hox : ow (x / 64) = zo s := by
            rcases Nat.lt_or_ge (pl s) x with u | u
            · rw [((h.2.1 _ k2' k3').2.2 x u x2).2]; exact k5'
            · rw [show x = pl s by omega]; exact k5'
          rw [hfp.2 _ w.1 w.2] at hox
          omega
        have hcand : ∃ p, p < 64 * pg ∧ 0 < fr ow1 l1 d1 z p ∧ due (kd z) n ≤ fr ow1 l1 d1 z p := by
          have oa := o1 a (by omega) (by omega)
          have freeIn : ∀ q, q < 64 * pg → 0 < l1 q → q / 64 = a → d1 q < 0 := by
            intro q w1 w2 w3
            rcases hgeo.2.1.2 q w1 w2 with w | ⟨v1, v2, v3, v4⟩
            · omega
            · exact absurd (by omega) (nob _ (by omega) v3 q (by rw [v4]; omega) (by rw [v4]; omega))
          by_cases c0 : kd z = 0
          · obtain ⟨hc1, hc2⟩ := hcc c0
            have := (slotAt hgeo.1.2.2.1 (k := a) (by omega) oa c0 1 (by omega)).1 ⟨by omega, by simp, by omega⟩
            have hf := freeIn (64 * a + 1) (by omega) (by omega) (by omega)
            refine ⟨64 * a + 1, by omega, ?_, by unfold due; rw [if_pos c0]; omega⟩
            unfold fr
            rw [if_pos ⟨by rw [show (64 * a + 1) / 64 = a by omega]; exact oa, hf⟩]
            omega
          · by_cases c1 : kd z = 1
            · have hm1' := hm1 (by omega)
              subst hm1'
              have hkz : kz kd (ow1 a) = 1 := by rw [oa, kzz]; exact c1
              obtain ⟨x, x1, x2, x3, x4⟩ := dyad hgeo (k := a) (by omega) (by omega) hkz 6 (Nat.le_refl _) 0 rfl (by decide) (fun j hj hl hf => by
                rcases hgeo.2.1.2 j hj hl with w | ⟨v1, v2, v3, v4⟩
                · omega
                · rcases Nat.lt_or_ge (64 * a + 0) (j + l1 j) with w1 | w1
                  · rcases Nat.lt_or_ge j (64 * a + 0 + 2 ^ 6) with w2 | w2
                    · exfalso
                      rcases Nat.lt_or_ge j (64 * a) with w3 | w3
                      · exact nob _ (by omega) v3 (64 * a) (by rw [v4]; omega) (by rw [v4]; omega) ⟨by omega, by omega⟩
                      · exact nob _ (by omega) v3 j (by rw [v4]; omega) (by rw [v4]; omega) ⟨by omega, by omega⟩
                    · exact Or.inr w2
                  · exact Or.inl w1)
              have hx0 : x = 0 := by omega
              subst hx0
              have hpw := pw_cases n
              have e0 : l1 (64 * a + 0) = l1 (64 * a) := rfl
              have efr : fr ow1 l1 d1 z (64 * a) = l1 (64 * a) := by
                unfold fr
                rw [if_pos ⟨by rw [show 64 * a / 64 = a by omega]; exact oa, x3⟩]
              have edu : due (kd z) n = pw n := by unfold due; rw [if_neg c0, if_pos c1]
              refine ⟨64 * a, by omega, by omega, by omega⟩
            · obtain ⟨p, w1, w2⟩ := bigPiece hgeo.1 hgeo.2.1 hgeo.2.2.2 hzn (by omega) hm0 hfp.1 o1 nob
              exact ⟨p, w1, by omega, by omega⟩
        have hb1 : 0 ≤ bst (kd z) (fr ow1 l1 d1 z) (due (kd z) n) (64 * pg) := can_bst.mpr hcand
        have hbr1 := bst_rng (kd z) (fr ow1 l1 d1 z) (due (kd z) n) (64 * pg)
        obtain ⟨s1, s2⟩ := bst_some hb1
        refine m_named hgeo.1 hgeo.2.1 mg1 mz1 hzn hn'.1 hn'.2 ?_
        obtain ⟨p, hp⟩ := Int.eq_ofNat_of_zero_le hb1
        have htk : TK pg zn ow ln hd kd cl th sz zo pl z n p := Or.inr (Or.inr ⟨by omega, a, ow1, l1, d1, by rw [hm]; exact hr, fun i hi => by rw [hm]; exact oo i hi, hgeo, by omega, hp.symm⟩)
        rw [hp] at s1 s2 hbr1 ⊢
        rw [Int.toNat_natCast] at s1 s2
        rw [iI_nat]
        refine m_taken74 hgeo.1 hgeo.2.1 hgeo.2.2.2 mg1 mz1 hzn hn'.1 hn'.2 (by omega) s1 s2 (fun τ' l' d' a' b' c' d'' => k1 p τ' ow1 l' d' htk a' b' (ag1.tr c') (fun s hs ht => (d'' s hs ht).trans (bl1 s hs ht)) (fun k hk => ?_))
        by_cases w : a ≤ k ∧ k < a + m
        · rw [o1 k w.1 w.2, hfp.2 k w.1 w.2]; omega
        · rw [oo k hk, if_neg w]
      · rw [l_0, iI_le (by omega) (by omega) (by omega) (by omega)] at c2
        rw [l_m1]
        exact k0 (Or.inr (Or.inl ⟨by omega, by rw [hm, show (-1 : Int) = r by omega]; exact hr, rfl⟩))
    have q1 : (1 : Int32) < nI (kd z) ↔ 1 < kd z := nI_ltI (a := 1) (by omega) (by omega)
    have q5 : nI (kd z) = 5 ↔ kd z = 5 := nI_eq (b := 5) (by omega) (by omega)
    rw [nI_clamp (by omega), (mz.2 z hzn).1, q1]
    unfold wX7_need
    rw [nI_clamp (by omega), (mz.2 z hzn).1, q5]
    refine ⟨fun c1 => ⟨hvz, fun c5 => ?_, fun c5 => ?_⟩, fun c1 => ?_⟩
    · show wX7_taken_b41 (nI z) (nI n) ((nI n + 1 + 64 - 1) / 64) τ Q
      have e : (nI n + 1 + 64 - 1) / 64 = nI ((n + 1 + 63) / 64) := by
        rw [nI_iI, l_1, l_64, iI_add, iI_add, iI_sub, iI_div (by omega) (by omega) (by omega) (by omega), nI_iI]
        congr 1
        omega
      have ed : due (kd z) n = n + 1 := by unfold due; rw [if_neg (show ¬ kd z = 0 by omega), if_neg (show ¬ kd z = 1 by omega), if_neg c5]
      rw [e]
      exact body _ (by unfold mny; rw [if_neg (by omega), ed]) (by omega) (by omega) (fun w => by omega) (by omega)
    · show wX7_taken_b41 (nI z) (nI n) ((nI n + 2 + 1 + 64 - 1) / 64) τ Q
      have e : (nI n + 2 + 1 + 64 - 1) / 64 = nI ((n + 3 + 63) / 64) := by
        rw [nI_iI, l_1, l_2, l_64, iI_add, iI_add, iI_add, iI_sub, iI_div (by omega) (by omega) (by omega) (by omega), nI_iI]
        congr 1
        omega
      have ed : due (kd z) n = n + 3 := by unfold due; rw [if_neg (show ¬ kd z = 0 by omega), if_neg (show ¬ kd z = 1 by omega), if_pos c5]
      rw [e]
      exact body _ (by unfold mny; rw [if_neg (by omega), ed]) (by omega) (by omega) (fun w => by omega) (by omega)
    · have hpw := pw_cases n
      have ed : due (kd z) n ≤ 64 := by
        unfold due
        by_cases c0 : kd z = 0
        · rw [if_pos c0]; omega
        · rw [if_neg c0, if_pos (by omega)]; omega
      exact body 1 (by unfold mny; rw [if_pos (by omega)]) (by omega) (by omega) (fun _ => rfl) (by omega)
end TAKEN
