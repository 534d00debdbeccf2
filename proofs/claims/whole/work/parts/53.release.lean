/-! ===== the reference joins pairs, releases ===== -/
theorem pair_inv {j n : Nat} (hn : n = 1 ∨ n = 2 ∨ n = 4 ∨ n = 8 ∨ n = 16 ∨ n = 32) (h : j % n = 0) : pair (pair j n) n = j ∧ pair j n % n = 0 ∧ pair j n ≠ j := by
  unfold pair
  rcases hn with rfl | rfl | rfl | rfl | rfl | rfl <;> (split <;> split <;> omega)
section REL
variable {pg zn : Nat} {ow : Nat → Int} {ln ln' kd cl : Nat → Nat} {hd : Nat → Int} {th : Nat → Bool} {sz zo pl : Nat → Nat} {bw : Nat → Int64} {τ τ' : SS}
theorem m_joinPairs (h : Tiled pg zn ow ln kd cl) (hK : OkK pg zn ow ln hd th zo pl) (mg : MG pg ow ln hd τ) {p z : Nat} (hp : p < 64 * pg) (hl : 0 < ln p) (hf : hd p < 0) (hoz : ow (p / 64) = z) (hzn : z < zn) (hkz : kd z = 1) (hJ : OkJq (fun j q => j ≠ p ∧ q ≠ p) pg ow ln hd kd) {Q : SS → Prop} (k : ∀ τ' ln', Tiled pg zn ow ln' kd cl → OkK pg zn ow ln' hd th zo pl → MG pg ow ln' hd τ' → AgQ τ τ' → (∀ s, s < 100 → th s = true → ln' (pl s) = ln (pl s)) → OkJ pg ow ln' hd kd → Q τ') : wX7_joinPairs (nI z) (nI p) τ Q := by
  have hp40 := h.1.1
  have hz8 := h.1.2.1
  have kzz : kz kd (z : Int) = kd z := by unfold kz; rw [Int.toNat_natCast]
  unfold wX7_joinPairs wX7_joinPairs_b2 wX7_joinPairs_b47
  refine lfp_inv (fun t => ∃ (a : Nat) (l : Nat → Nat), a < 64 * pg ∧ a / 64 = p / 64 ∧ 0 < l a ∧ hd a < 0 ∧ Tiled pg zn ow l kd cl ∧ OkK pg zn ow l hd th zo pl ∧ MG pg ow l hd t.2 ∧ AgQ τ t.2 ∧ (∀ s, s < 100 → th s = true → l (pl s) = ln (pl s)) ∧ OkJq (fun j q => j ≠ a ∧ q ≠ a) pg ow l hd kd ∧ t.1 = nI a) (fun t => 64 - (gA t.2 1 t.1.toNatClampNeg).toNatClampNeg) ⟨p, ln, hp, rfl, hl, hf, h, hK, mg, AgQ.rf τ, fun _ _ _ => rfl, hJ, rfl⟩ ?_
  rintro ⟨t1, t2⟩ X ⟨a, l, ha, hap, hla, hfa, hT0, hK0, mg0', ag', bl, hJ0, e1⟩ hX
  have e1' : t1 = nI a := e1
  subst e1'
  have mg0 : MG pg ow l hd t2 := mg0'
  have ag : AgQ τ t2 := ag'
  have hva : vp_in (nI a) 2560 := vp_in_nI (by omega) (by omega)
  have hoa : ow (a / 64) = z := by rw [hap]; exact hoz
  have hka : kz kd (ow (a / 64)) = 1 := by rw [hoa, kzz]; exact hkz
  have h0a := (hT0.2.1 a ha hla).1
  obtain ⟨p1, p2, p3, p4⟩ := bud hT0.2.2.2.1 ha hla h0a hka
  rw [show ((nI a, t2) : Int32 × SS).2 = t2 from rfl, show ((nI a, t2) : Int32 × SS).1 = nI a from rfl, nI_clamp (by omega), (mg0.2.2 a ha).1]
  refine ⟨hva, fun c => ?_, fun c => ⟨hva, ?_⟩⟩
  · have h64 : l a = 64 := by
      rcases Nat.lt_or_ge (l a) 64 with w | w
      · exact absurd c (nI_ge (b := 64) w (by decide))
      · omega
    refine k t2 l hT0 hK0 mg0 ag bl ⟨fun j hj hlj hfj hk hn ho => hJ0.1 j hj hlj hfj hk hn ho ⟨fun w => by rw [w] at hk; omega, fun w => ?_⟩, fun j hj hlj hfj hk hj64 => ?_⟩
    · rw [w] at ho; rw [← ho] at hk; omega
    · by_cases w : j = a
      · rw [w] at hj64; omega
      · by_cases w2 : pair j (l j) = a
        · rw [w2]; omega
        · exact hJ0.2 j hj hlj hfj hk hj64 ⟨w, w2⟩
  · have hn32 : l a = 1 ∨ l a = 2 ∨ l a = 4 ∨ l a = 8 ∨ l a = 16 ∨ l a = 32 := by
      rcases Nat.lt_or_ge (l a) 64 with w | w
      · omega
      · exact absurd (nI_le (a := 64) w (by omega)) c
    have hpp := pair_page hT0.2.2.2.1 ha hla h0a hka (by omega)
    obtain ⟨v1, v2, v3⟩ := pair_inv hn32 p2
    -- nothing more is joined
    have stop : ¬ (l (pair a (l a)) = l a ∧ hd (pair a (l a)) < 0) → Q t2 := by
      intro hno
      refine k t2 l hT0 hK0 mg0 ag bl ⟨fun j hj hlj hfj hk hn ho => hJ0.1 j hj hlj hfj hk hn ho ⟨fun w => by rw [w] at hk; omega, fun w => ?_⟩, fun j hj hlj hfj hk hj64 => ?_⟩
      · rw [w] at ho; rw [← ho] at hk; omega
      · by_cases w : j = a
        · subst w; exact hno
        · by_cases w2 : pair j (l j) = a
          · rintro ⟨w3, w4⟩
            obtain ⟨b1, b2, b3, -⟩ := bud hT0.2.2.2.1 hj hlj (hT0.2.1 j hj hlj).1 hk
            have := (pair_inv (j := j) (n := l j) (by omega) b2).1
            rw [w2] at w3 this
            refine hno ?_
            rw [w3, this]
            exact ⟨rfl, hfj⟩
          · exact hJ0.2 j hj hlj hfj hk hj64 ⟨w, w2⟩
    have go : ∀ q : Nat, q = pair a (l a) → wX7_isFreeAt (nI q) (nI z) t2 (fun r53 => (r53 = 0 → Q t2) ∧ (¬ r53 = 0 → vp_in (nI q) 2560 ∧ ((gA t2 1 (nI q).toNatClampNeg = nI (l a) → vp_in (nI a) 2560 ∧ (vp_in (nI q) 2560 ∧ (vp_in (if nI q < nI a then nI q else nI a) 2560 ∧ (vp_in (if nI q < nI a then nI q else nI a) 2560 ∧ (∀ σ113 : SS, σ113 = sA (sA (sA (sA t2 1 a 0) 1 (nI q).toNatClampNeg 0) 1 (if nI q < nI a then nI q else nI a).toNatClampNeg (nI (2 * l a))) 2 (if nI q < nI a then nI q else nI a).toNatClampNeg (-1) → X ((if nI q < nI a then nI q else nI a), σ113)))))) ∧ (¬ gA t2 1 (nI q).toNatClampNeg = nI (l a) → Q t2)))) := by
      intro q hq
      rw [← hq] at hpp v1 v2 v3 stop
      have hq2 : q < 64 * pg := by omega
      have hvq : vp_in (nI q) 2560 := vp_in_nI (by omega) (by omega)
      have hoq : ow (q / 64) = z := by rw [hpp]; exact hoa
      refine m_isFreeM hT0 hK0 mg0 (by omega) (by omega) (fun c2 => ⟨fun _ => stop (fun w => c2 ⟨hq2, hoq, by omega, w.2⟩), fun w => absurd rfl w⟩) (fun _ _ c3 c4 => ⟨fun w => absurd w (by decide), fun _ => ⟨hvq, ?_⟩⟩)
      have hqb := (hT0.2.1 q hq2 c3).2.1
      rw [nI_clamp (by omega), (mg0.2.2 q hq2).1, nI_eq (by omega) (by omega)]
      refine ⟨fun c5 => ?_, fun c5 => stop (fun w => c5 w.1)⟩
      -- joined
      have hmin : (if nI q < nI a then nI q else nI a) = nI (min q a) := by
        rcases Nat.lt_or_ge q a with w | w
        · rw [if_pos (nI_lt w (by omega)), Nat.min_eq_left (by omega)]
        · rw [if_neg (nI_nlt w (by omega)), Nat.min_eq_right w]
      rw [hmin]
      have hvm : vp_in (nI (min q a)) 2560 := vp_in_nI (by omega) (by omega)
      refine ⟨hva, hvq, hvm, hvm, fun σ113 e113 => ?_⟩
      rw [nI_clamp (by omega)] at e113
      have hadj : max q a = min q a + l a ∧ min q a % (2 * l a) = 0 := by
        unfold pair at hq
        rcases hn32 with e | e | e | e | e | e <;> (rw [e] at hq p2 ⊢; split at hq <;> omega)
      have hlo : l (min q a) = l a ∧ l (max q a) = l a ∧ hd (min q a) < 0 ∧ hd (max q a) < 0 := by
        rcases Nat.lt_or_ge q a with w | w
        · rw [Nat.min_eq_left (by omega), Nat.max_eq_right (by omega)]; exact ⟨c5, rfl, c4, hfa⟩
        · rw [Nat.min_eq_right w, Nat.max_eq_left w]; exact ⟨rfl, c5, hfa, c4⟩
      obtain ⟨lo, hlo0⟩ : ∃ lo, lo = min q a := ⟨_, rfl⟩
      obtain ⟨hi, hhi0⟩ : ∃ hi, hi = max q a := ⟨_, rfl⟩
      rw [← hlo0, ← hhi0] at hadj hlo
      rw [← hlo0] at e113 ⊢
      have hset : (a = lo ∧ q = hi) ∨ (a = hi ∧ q = lo) := by omega
      have hlo64 : lo / 64 = p / 64 := by omega
      obtain ⟨w1, w2, w3, w4⟩ := hlo
      obtain ⟨l', hl'⟩ : ∃ l' : Nat → Nat, l' = fun i => if i = lo then 2 * l a else if i = hi then 0 else l i := ⟨_, rfl⟩
      have r1 : l' lo = 2 * l a := by rw [hl']; show (if lo = lo then _ else _) = _; rw [if_pos rfl]
      have r2 : l' hi = 0 := by rw [hl']; show (if hi = lo then _ else _) = _; rw [if_neg (by omega), if_pos rfl]
      have r3 : ∀ i, i ≠ lo → i ≠ hi → l' i = l i := by intro i i1 i2; rw [hl']; show (if i = lo then _ else _) = _; rw [if_neg i1, if_neg i2]
      have hklo : kz kd (ow (lo / 64)) = 1 := by rw [hlo64, ← hap]; exact hka
      have hT1 : Tiled pg zn ow l' kd cl := mergeBud hT0 (j := lo) (q := hi) (by omega) (by omega) (by omega) (by omega) hklo (by rw [w1]; exact hadj.2) (by omega) (by omega) r2 r3
      obtain ⟨hK1, bl1⟩ := mergeOk (ln' := l') hK0 (j := lo) (q := hi) (by omega) (by omega) w4 (by omega) w3 (by omega) r2 r3
      have hne : a ≠ q := by omega
      have mg1 : MG pg ow l' hd σ113 := by
        obtain ⟨m1, m2, m3⟩ := mg0
        subst e113
        refine ⟨m1, m2, fun i hi' => ?_⟩
        have key : upd (upd (upd (gA t2 1) a 0) q 0) lo (nI (2 * l a)) i = nI (l' i) := by
          unfold upd
          by_cases u : i = lo
          · rw [if_pos u, u, r1]
          · rw [if_neg u]
            by_cases v : i = hi
            · rw [v, r2]
              rcases hset with ⟨x1, x2⟩ | ⟨x1, x2⟩
              · rw [if_pos x2.symm]; rfl
              · by_cases y : hi = q
                · rw [if_pos y]; rfl
                · rw [if_neg y, if_pos x1.symm]; rfl
            · rw [if_neg (by omega), if_neg (by omega), r3 i u v]; exact (m3 i hi').1
        refine ⟨key, fun hl => ?_⟩
        show upd (gA t2 2) lo (-1) i = _
        unfold upd
        by_cases u : i = lo
        · rw [if_pos u, u]
          rcases hK1.2 lo (by omega) (by omega) with y | ⟨y, -⟩
          · rw [y]; rfl
          · omega
        · rw [if_neg u]
          have v : i ≠ hi := fun w => by rw [w, r2] at hl; omega
          rw [r3 i u v] at hl
          exact (m3 i hi').2 hl
      have ag1 : AgQ t2 σ113 := by
        subst e113
        exact (((AgQ.m _ _ _ _ (by omega)).tr (AgQ.m _ _ _ _ (by omega))).tr (AgQ.m _ _ _ _ (by omega))).tr (AgQ.m _ _ _ _ (by omega))
      refine hX _ ⟨lo, l', by omega, hlo64, by omega, w3, hT1, hK1, mg1, ag.tr ag1, fun s hs ht => (bl1 s hs ht).trans (bl s hs ht), ⟨fun j hj hlj hfj hk hn ho hP => ?_, fun j hj hlj hfj hk h64 hP => ?_⟩, rfl⟩ ?_
      · have u : j ≠ hi := fun w => by rw [w, r2] at hlj; omega
        rw [r3 j hP.1 u] at hlj hn ho hP ⊢
        refine hJ0.1 j hj hlj hfj hk hn ho ⟨by omega, fun w => ?_⟩
        rw [w] at ho
        rw [← ho] at hk
        omega
      · have u : j ≠ hi := fun w => by rw [w, r2] at hlj; omega
        rw [r3 j hP.1 u] at hlj h64 hP ⊢
        by_cases v : pair j (l j) = hi
        · rw [v, r2]; omega
        · rw [r3 _ hP.2 v]
          exact hJ0.2 j hj hlj hfj hk h64 ⟨by omega, by omega⟩
      · show 64 - (gA σ113 1 (nI lo).toNatClampNeg).toNatClampNeg < 64 - (gA t2 1 (nI a).toNatClampNeg).toNatClampNeg
        rw [nI_clamp (show lo < 2 ^ 31 by omega), nI_clamp (show a < 2 ^ 31 by omega), (mg1.2.2 lo (by omega)).1, (mg0.2.2 a ha).1, r1, nI_clamp (by omega), nI_clamp (by omega)]
        omega
    have e2n : (2 : Int32) * nI (l a) = nI (2 * l a) := pk_mul 2 _
    have e2 : ∀ x, nI x * 2 = nI (x * 2) := fun x => pk_mul x 2
    rw [e2n, pk_div (by omega) (by omega) (by omega), e2, pk_mul]
    refine ⟨nI_ne0 (by omega) (by omega), fun c2 => ?_, fun c2 => ?_⟩
    · have hc2 : ¬ a / (2 * l a) * 2 * l a = a := fun w => c2 (by rw [w])
      have hq : a - l a = pair a (l a) := by
        unfold pair
        rcases hn32 with e | e | e | e | e | e <;> (rw [e] at hc2 p2 ⊢; rw [if_neg (by omega)])
      rw [pk_sub (by rcases hn32 with e | e | e | e | e | e <;> (rw [e] at hc2 p2 ⊢; omega))]
      rw [hq]
      exact go _ rfl
    · have hc2 : a / (2 * l a) * 2 * l a = a := by
        have hb : a / (2 * l a) * 2 * l a ≤ a := by
          rcases hn32 with e | e | e | e | e | e <;> (rw [e]; omega)
        rw [nI_eq (by omega) (by omega)] at c2
        exact c2
      have hq : a + l a = pair a (l a) := by
        unfold pair
        rcases hn32 with e | e | e | e | e | e <;> (rw [e] at hc2 p2 ⊢; rw [if_pos (by omega)])
      rw [nI_add, hq]
      exact go _ rfl
/-- the reference's state but for the holder at p -/
def MGx (p : Nat) (pg : Nat) (ow : Nat → Int) (ln : Nat → Nat) (hd : Nat → Int) (τ : SS) : Prop := gI τ 0 = nI pg ∧ (∀ k, k < pg → gA τ 0 k = iI (ow k)) ∧ ∀ j, j < 64 * pg → gA τ 1 j = nI (ln j) ∧ (0 < ln j → j ≠ p → gA τ 2 j = iI (hd j))
theorem MGx.put {p : Nat} (h : MGx p pg ow ln hd τ) {v : Int32} (hv : v = iI (hd p)) : MG pg ow ln hd (sA τ 2 p v) := by
  obtain ⟨h1, h2, h3⟩ := h
  refine ⟨h1, h2, fun j hj => ⟨(h3 j hj).1, fun hl => ?_⟩⟩
  show upd (gA τ 2) p v j = _
  unfold upd
  by_cases e : j = p
  · rw [if_pos e, e]; exact hv
  · rw [if_neg e]; exact (h3 j hj).2 hl e
theorem m_release (h : Tiled pg zn ow ln kd cl) (hK : OkK pg zn ow ln hd th zo pl) {p z : Nat} (mgx : MGx p pg ow ln hd τ) (mz : MZ zn kd cl bw τ) (hp : p < 64 * pg) (hl : 0 < ln p) (hf : hd p < 0) (hoz : ow (p / 64) = z) (hzn : z < zn) (hJ : OkJq (fun j q => j ≠ p ∧ q ≠ p) pg ow ln hd kd) {Q : SS → Prop} (k : ∀ τ' ln', Tiled pg zn ow ln' kd cl → OkK pg zn ow ln' hd th zo pl → MG pg ow ln' hd τ' → AgQ (sBB τ 0 (rng (gB τ 0) p (ln p) 0)) τ' → (∀ s, s < 100 → th s = true → ln' (pl s) = ln (pl s)) → OkJ pg ow ln' hd kd → Q τ') : wX7_release (nI z) (nI p) τ Q := by
  have hp40 := h.1.1
  have hz8 := h.1.2.1
  have hk5 := (h.1.2.2.2 z hzn).1
  have kzz : kz kd (z : Int) = kd z := by unfold kz; rw [Int.toNat_natCast]
  have hb := (h.2.1 p hp hl).2.1
  have hvp : vp_in (nI p) 2560 := vp_in_nI (by omega) (by omega)
  have hvz : vp_in (nI z) 8 := vp_in_nI (by omega) (by omega)
  have hhp : hd p = -1 := by
    rcases hK.2 p hp hl with w | ⟨w, -⟩
    · exact w
    · omega
  unfold wX7_release wX7_release_b2
  refine lfp_inv (fun t => ∃ i : Nat, i ≤ ln p ∧ t = (nI (p + i), sBB τ 0 (rng (gB τ 0) p i 0))) (fun t => p + ln p - t.1.toNatClampNeg) ⟨0, by omega, by rw [rng_0, sBB_self]; rfl⟩ ?_
  rintro t X ⟨i, hi, rfl⟩ hX
  have eA : ∀ n, gA (sBB τ 0 (rng (gB τ 0) p i 0)) n = gA τ n := fun _ => rfl
  rw [show ((nI (p + i), sBB τ 0 (rng (gB τ 0) p i 0)) : Int32 × SS).2 = sBB τ 0 (rng (gB τ 0) p i 0) from rfl, show ((nI (p + i), sBB τ 0 (rng (gB τ 0) p i 0)) : Int32 × SS).1 = nI (p + i) from rfl, nI_clamp (by omega), nI_clamp (by omega), eA 1, (mgx.2.2 p hp).1, nI_add]
  refine ⟨hvp, fun c => ⟨hvp, hvz, ?_⟩, fun c => ?_⟩
  · have : i = ln p := by
      rcases Nat.lt_or_ge i (ln p) with q | q
      · exact absurd c (nI_ge (show p + i < p + ln p by omega) (by omega))
      · omega
    subst this
    obtain ⟨τ1, hτ1⟩ : ∃ τ1, τ1 = sBB τ 0 (rng (gB τ 0) p (ln p) 0) := ⟨_, rfl⟩
    rw [← hτ1] at k ⊢
    have mgx1 : MGx p pg ow ln hd τ1 := by subst hτ1; exact mgx
    have mz1 : MZ zn kd cl bw τ1 := by subst hτ1; exact mz
    have mg1 : MG pg ow ln hd (sA τ1 2 p (-1)) := mgx1.put (by rw [hhp]; rfl)
    have ag1 : AgQ τ1 (sA τ1 2 p (-1)) := AgQ.m _ _ _ _ (by omega)
    have e3 : gA (sA τ1 2 p (-1)) 3 = gA τ1 3 := gA_sA_ne _ _ _ (by omega)
    rw [e3, (mz1.2 z hzn).1]
    refine ⟨fun c2 => ⟨hvz, fun c3 => ?_, fun c3 => ?_⟩, fun c2 => ?_⟩
    · have h0 : kd z = 0 := (nI_eq (b := 0) (by omega) (by omega)).mp c3
      refine k _ ln h hK mg1 ag1 (fun _ _ _ => rfl) ⟨fun j hj hlj hfj hk hn ho => hJ.1 j hj hlj hfj hk hn ho ⟨fun w => by rw [w, hoz, kzz] at hk; omega, fun w => by rw [w, hoz] at ho; rw [← ho, kzz] at hk; omega⟩, fun j hj hlj hfj hk h64 => hJ.2 j hj hlj hfj hk h64 ⟨fun w => by rw [w, hoz, kzz] at hk; omega, fun w => ?_⟩⟩
      have hpp := pair_page h.2.2.2.1 hj hlj (h.2.1 j hj hlj).1 hk h64
      rw [w] at hpp
      rw [← hpp, hoz, kzz] at hk
      omega
    · have h0 : ¬ kd z = 0 := fun w => c3 (by rw [w]; rfl)
      have h1 : ¬ kd z = 1 := fun w => c2 (by rw [w]; rfl)
      exact m_join h hK mg1 hp hl hf hoz hzn (by omega) hJ (fun τ3 l3 a b c d e f => k τ3 l3 a b c (ag1.tr d) e f)
    · have h1 : kd z = 1 := (nI_eq (b := 1) (by omega) (by omega)).mp c2
      exact m_joinPairs h hK mg1 hp hl hf hoz hzn h1 hJ (fun τ3 l3 a b c d e f => k τ3 l3 a b c (ag1.tr d) e f)
  · have hlt : i < ln p := by
      rcases Nat.lt_or_ge i (ln p) with q | q
      · exact q
      · exact absurd (nI_le (show p + ln p ≤ p + i by omega) (by omega)) c
    refine ⟨vp_in_nI (by omega) (by omega), hX _ ⟨i + 1, by omega, ?_⟩ ?_⟩
    · rw [nI_clamp (by omega), sB_sBB, rng_s, nI_1]
      rfl
    · show p + ln p - (nI (p + i) + 1).toNatClampNeg < p + ln p - (nI (p + i)).toNatClampNeg
      rw [nI_1, nI_clamp (by omega), nI_clamp (by omega)]
      omega
end REL
