/-! ===== the class's SLAB: class, slots, tidy ===== -/
/-- the i-th number of a page begins a slot of class c -/
def Sl (c i : Nat) : Prop := 1 ≤ i ∧ (i - 1) % c = 0 ∧ i + c ≤ 64
theorem sl_one {c u v : Nat} (hc : 1 ≤ c) (h : Sl c v) (h1 : 1 + c * u ≤ v) (h2 : v < 1 + c * u + c) : v = 1 + c * u := by
  obtain ⟨a, b, d⟩ := h
  obtain ⟨w, hw⟩ := Nat.dvd_of_mod_eq_zero b
  have h3 : c * w < c * (u + 1) := by rw [Nat.mul_add, Nat.mul_one]; omega
  have h4 := Nat.lt_of_mul_lt_mul_left h3
  have h5 : u ≤ w := by
    rcases Nat.lt_or_ge w u with q | q
    · have := Nat.mul_le_mul_left c (show w + 1 ≤ u by omega)
      rw [Nat.mul_add, Nat.mul_one] at this
      omega
    · exact q
  have : w = u := by omega
  subst this
  omega
section STIDY
variable {pg zn : Nat} {ow : Nat → Int} {ln kd cl : Nat → Nat} {hd : Nat → Int} {th : Nat → Bool} {sz zo pl : Nat → Nat} {bw : Nat → Int64} {σ : SS}
theorem x_classOf (xz : XZ zn kd cl bw σ) (hz8 : zn ≤ 8) {z : Nat} (hz : z < zn) (h0 : kd z = 0) (hc1 : 1 ≤ cl z) (hc2 : cl z ≤ 32) {Q : Int32 → Prop} (k : Q (nI (cl z))) : wX3_classOf (nI z) σ Q := by
  unfold wX3_classOf
  refine x_hasZone xz hz8 hz ⟨fun c => absurd c (by decide), fun _ => ⟨vp_in_nI (by omega) (by omega), ?_⟩⟩
  obtain ⟨-, b, e⟩ := xz.2 z hz
  rw [nI_clamp (by omega), b, e h0]
  have h1 : (if (32 : Int64) < lN (cl z) then (32 : Int64) else lN (cl z)) = lN (cl z) := by
    rw [if_neg]
    intro w
    have : lN 32 < lN (cl z) := w
    rw [lN_lt (by omega) (by omega)] at this
    omega
  rw [h1, if_neg, lN_i]
  · exact k
  · intro w
    have : lN (cl z) < lN 1 := w
    rw [lN_lt (by omega) (by omega)] at this
    omega
theorem slotAt (hS : OkS pg ow ln kd cl) {k z : Nat} (hk : k < pg) (hoz : ow k = z) (h0 : kd z = 0) (i : Nat) (hi : i < 64) : (Sl (cl z) i → ln (64 * k + i) = cl z) ∧ (¬ Sl (cl z) i → ln (64 * k + i) = 0) := by
  have kzz : kz kd (ow k) = 0 := by unfold kz; rw [hoz, Int.toNat_natCast]; exact h0
  have := hS k hk (by omega) kzz i hi
  rw [hoz, Int.toNat_natCast] at this
  unfold Sl
  exact ⟨fun w => by rw [if_pos w] at this; exact this, fun w => by rw [if_neg w] at this; exact this⟩
theorem slab_step1 {c : Nat} (h1 : 1 ≤ c) (h2 : c ≤ 32) : (if (1 : Int32) < nI c then nI c else 1) = nI c := by
  by_cases w : (1 : Int32) < nI c
  · rw [if_pos w]
  · rw [if_neg w]
    rcases Nat.lt_or_ge 1 c with u | u
    · rw [show (1 : Int32) = nI 1 from rfl] at w
      exact absurd (nI_lt u (by omega)) w
    · rw [show c = 1 by omega]; rfl
theorem x_isWholly (h : Tiled pg zn ow ln kd cl) (hK : OkK pg zn ow ln hd th zo pl) (xg : XG pg ow ln hd σ) (xz : XZ zn kd cl bw σ) {k z : Nat} (hk : k < pg) (hoz : ow k = z) (hz : z < zn) (h0 : kd z = 0) {Q : Int32 → Prop} (k1 : (∀ j, j / 64 = k → 0 < ln j → hd j < 0) → Q 1) (k0 : (∃ i, i < 64 ∧ 0 < ln (64 * k + i) ∧ 0 ≤ hd (64 * k + i)) → Q 0) : wX5_isWhollyFree (nI k) (nI z) σ Q := by
  have hp40 := h.1.1
  have hz8 := h.1.2.1
  obtain ⟨hc1, hc2⟩ := (h.1.2.2.2 z hz).2 h0
  have hsl := slotAt h.2.2.1 hk hoz h0
  unfold wX5_isWhollyFree wX5_isWhollyFree_b29
  refine x_classOf xz hz8 hz h0 hc1 hc2 ?_
  generalize cl z = c at hc1 hc2 hsl
  rw [slab_step1 hc1 hc2]
  rw [show (64 : Int32) = nI 64 from rfl, nI_1, pk_mul, pk_mul, nI_1]
  refine lfp_inv (fun t => ∃ u : Nat, c * u ≤ 63 ∧ (∀ j, j / 64 = k → 0 < ln j → j < 64 * k + 1 + c * u → hd j < 0) ∧ t = nI (64 * k + 1 + c * u)) (fun t => 64 * k + 65 - t.toNatClampNeg) ⟨0, by omega, fun j h1 h2 h3 => ?_, by rw [Nat.mul_zero, Nat.mul_comm]⟩ ?_
  · have hj : j = 64 * k + 0 := by omega
    have := (hsl 0 (by omega)).2 (fun w => by have := w.1; omega)
    rw [← hj] at this
    omega
  · rintro t X ⟨u, hu, hfr, rfl⟩ hX
    rw [nI_add]
    refine ⟨fun c2 => k1 (fun j hj hl => ?_), fun c2 => ?_⟩
    · have hend : (k + 1) * 64 < 64 * k + 1 + c * u + c := (nI_ltI (by omega) (by omega)).mp c2
      refine hfr j hj hl ?_
      rcases Nat.lt_or_ge j (64 * k + 1 + c * u) with w | w
      · exact w
      · exfalso
        by_cases s : Sl c (j % 64)
        · have := s.2.2; omega
        · have := (hsl (j % 64) (by omega)).2 s
          rw [show 64 * k + j % 64 = j by omega] at this
          omega
    · have hin : 64 * k + 1 + c * u + c ≤ 64 * k + 64 := by
        rcases Nat.lt_or_ge ((k + 1) * 64) (64 * k + 1 + c * u + c) with w | w
        · exact absurd (nI_lt w (by omega)) c2
        · omega
      have hs : Sl c (1 + c * u) := ⟨by omega, by rw [Nat.add_sub_cancel_left]; exact Nat.mul_mod_right c u, by omega⟩
      have hl := (hsl (1 + c * u) (by omega)).1 hs
      rw [show 64 * k + (1 + c * u) = 64 * k + 1 + c * u by omega] at hl
      refine x_blockAt xg h.1 h.2.1 hK (by omega) ⟨fun c3 => ?_, fun c3 => ?_⟩
      · have hf : hd (64 * k + 1 + c * u) < 0 := by
          rcases hK.2 (64 * k + 1 + c * u) (by omega) (by omega) with w | ⟨w1, w2, -⟩
          · omega
          · unfold bk at c3
            rw [if_neg (by omega), if_neg (by omega), l_0, iI_lt (by omega) (by omega) (by omega) (by omega)] at c3
            omega
        refine hX _ ⟨u + 1, by rw [Nat.mul_add, Nat.mul_one]; omega, fun j hj hlj hj2 => ?_, by rw [Nat.mul_add, Nat.mul_one]; congr 1; omega⟩ ?_
        · rw [Nat.mul_add, Nat.mul_one] at hj2
          rcases Nat.lt_or_ge j (64 * k + 1 + c * u) with w | w
          · exact hfr j hj hlj w
          · by_cases s : Sl c (j % 64)
            · have := sl_one hc1 s (u := u) (by omega) (by omega)
              rw [show j = 64 * k + 1 + c * u by omega]
              exact hf
            · have := (hsl (j % 64) (by omega)).2 s
              rw [show 64 * k + j % 64 = j by omega] at this
              omega
        · rw [nI_clamp (by omega), nI_clamp (by omega)]
          omega
      · refine k0 ⟨1 + c * u, by omega, ?_, ?_⟩
        · rw [show 64 * k + (1 + c * u) = 64 * k + 1 + c * u by omega]; omega
        · rw [show 64 * k + (1 + c * u) = 64 * k + 1 + c * u by omega]
          rcases hK.2 (64 * k + 1 + c * u) (by omega) (by omega) with w | ⟨w1, w2, -⟩
          · unfold bk at c3
            rw [if_neg (by omega), if_pos (by omega)] at c3
            exact absurd (by decide) c3
          · exact w1
theorem x_markSlots (xz : XZ zn kd cl bw σ) (hz8 : zn ≤ 8) {k z : Nat} (hk : k < 40) (hz : z < zn) (h0 : kd z = 0) (hc1 : 1 ≤ cl z) (hc2 : cl z ≤ 32) {v : Int32} {Q : SS → Prop} (kk : ∀ σ' : SS, AgP σ σ' → gA σ' 0 = gA σ 0 → (∀ j, j / 64 = k → Sl (cl z) (j % 64) → gA σ' 1 j = v) → (∀ j, ¬ (j / 64 = k ∧ Sl (cl z) (j % 64)) → gA σ' 1 j = gA σ 1 j) → Q σ') : wX5_markSlots (nI k) (nI z) v σ Q := by
  unfold wX5_markSlots wX5_markSlots_b30
  refine x_classOf xz hz8 hz h0 hc1 hc2 ?_
  generalize cl z = c at hc1 hc2 kk
  rw [slab_step1 hc1 hc2]
  rw [show (64 : Int32) = nI 64 from rfl, nI_1, pk_mul, pk_mul, nI_1]
  refine lfp_inv (fun t => ∃ u : Nat, c * u ≤ 63 ∧ AgP σ t.2 ∧ gA t.2 0 = gA σ 0 ∧ (∀ j, j / 64 = k → Sl c (j % 64) → j < 64 * k + 1 + c * u → gA t.2 1 j = v) ∧ (∀ j, ¬ (j / 64 = k ∧ Sl c (j % 64) ∧ j < 64 * k + 1 + c * u) → gA t.2 1 j = gA σ 1 j) ∧ t.1 = nI (64 * k + 1 + c * u)) (fun t => 64 * k + 65 - t.1.toNatClampNeg) ⟨0, by omega, AgP.rf σ, rfl, fun j h1 h2 h3 => by have := h2.1; omega, fun _ _ => rfl, by rw [Nat.mul_zero, Nat.mul_comm]⟩ ?_
  rintro ⟨t1, t2⟩ X ⟨u, hu, ag', g0', w1', w2', e1⟩ hX
  have e1' : t1 = nI (64 * k + 1 + c * u) := e1
  subst e1'
  have ag : AgP σ t2 := ag'
  have g0 : gA t2 0 = gA σ 0 := g0'
  have w1 : ∀ j, j / 64 = k → Sl c (j % 64) → j < 64 * k + 1 + c * u → gA t2 1 j = v := w1'
  have w2 : ∀ j, ¬ (j / 64 = k ∧ Sl c (j % 64) ∧ j < 64 * k + 1 + c * u) → gA t2 1 j = gA σ 1 j := w2'
  rw [show ((nI (64 * k + 1 + c * u), t2) : Int32 × SS).1 = nI (64 * k + 1 + c * u) from rfl, nI_add]
  refine ⟨fun c2 => ?_, fun c2 => ?_⟩
  · have hend : (k + 1) * 64 < 64 * k + 1 + c * u + c := (nI_ltI (by omega) (by omega)).mp c2
    refine kk t2 ag g0 (fun j hj hs => w1 j hj hs ?_) (fun j hj => w2 j (fun w => hj ⟨w.1, w.2.1⟩))
    rcases Nat.lt_or_ge j (64 * k + 1 + c * u) with w | w
    · exact w
    · have := hs.2.2; omega
  · have hin : 64 * k + 1 + c * u + c ≤ 64 * k + 64 := by
      rcases Nat.lt_or_ge ((k + 1) * 64) (64 * k + 1 + c * u + c) with w | w
      · exact absurd (nI_lt w (by omega)) c2
      · omega
    have hs : Sl c (1 + c * u) := ⟨by omega, by rw [Nat.add_sub_cancel_left]; exact Nat.mul_mod_right c u, by omega⟩
    refine x_mark (by omega) (hX _ ⟨u + 1, by rw [Nat.mul_add, Nat.mul_one]; omega, ag.tr (AgP.m1 _ _ _), (gA_sA_ne _ _ _ (by omega)).trans g0, fun j hj hsj hj2 => ?_, fun j hj => ?_, by rw [Nat.mul_add, Nat.mul_one, ← Nat.add_assoc]⟩ ?_)
    · rw [Nat.mul_add, Nat.mul_one] at hj2
      show upd (gA t2 1) (64 * k + 1 + c * u) v j = v
      unfold upd
      by_cases e : j = 64 * k + 1 + c * u
      · rw [if_pos e]
      · rw [if_neg e]
        refine w1 j hj hsj ?_
        rcases Nat.lt_or_ge j (64 * k + 1 + c * u) with w | w
        · exact w
        · have := sl_one hc1 hsj (u := u) (by omega) (by omega)
          omega
    · rw [Nat.mul_add, Nat.mul_one] at hj
      show upd (gA t2 1) (64 * k + 1 + c * u) v j = _
      unfold upd
      by_cases e : j = 64 * k + 1 + c * u
      · exfalso
        refine hj ⟨by omega, ?_, by omega⟩
        rw [show j % 64 = 1 + c * u by omega]
        exact hs
      · rw [if_neg e]
        exact w2 j (fun w => hj ⟨w.1, w.2.1, by omega⟩)
    · show 64 * k + 65 - (nI (64 * k + 1 + c * u + c)).toNatClampNeg < 64 * k + 65 - (nI (64 * k + 1 + c * u)).toNatClampNeg
      rw [nI_clamp (by omega), nI_clamp (by omega)]
      omega
theorem x_tidySlab {z : Nat} (hR : Rest z pg zn ow ln hd kd cl th sz zo pl) (xg : XG pg ow ln hd σ) (xz : XZ zn kd cl bw σ) (hzn : z < zn) (hkz : kd z = 0) {Q : SS → Prop} (k : ∀ σ' ow' ln' hd', Gh pg zn ow' ln' hd' kd cl th sz zo pl → XG pg ow' ln' hd' σ' → AgP σ σ' → (∀ s, s < 100 → th s = true → ln' (pl s) = ln (pl s)) → (∀ k, k < pg → (ow' k = -2 ↔ ow k = -2)) → Q σ') : wX5_tidy (nI z) σ Q := by
  obtain ⟨hT, hK, hSz, hJ, hSet⟩ := hR
  have hp40 := hT.1.1
  have hz8 := hT.1.2.1
  have kzz : kz kd (z : Int) = kd z := by unfold kz; rw [Int.toNat_natCast]
  obtain ⟨hc1, hc2⟩ := (hT.1.2.2.2 z hzn).2 hkz
  unfold wX5_tidy wX5_tidy_b2 wX5_tidy_b52
  refine lfp_inv (fun t => ∃ (k : Nat) (o : Nat → Int) (l : Nat → Nat), k ≤ pg ∧ Tiled pg zn o l kd cl ∧ OkK pg zn o l hd th zo pl ∧ XG pg o l hd t.2 ∧ AgP σ t.2 ∧ (∀ s, s < 100 → th s = true → l (pl s) = ln (pl s)) ∧ OkJq (fun j _ => ¬ ow (j / 64) = z) pg o l hd kd ∧ OkSetq (fun i => ¬ ow i = z ∨ i < k) pg o l hd kd ∧ (∀ i, o i = ow i ∨ (o i = -1 ∧ ow i = z)) ∧ t.1 = nI k) (fun t => pg - t.1.toNatClampNeg) ⟨0, ow, ln, by omega, hT, hK, xg, AgP.rf σ, fun _ _ _ => rfl, hJ, ⟨fun j a b => hSet.1 j a (b.resolve_right (by omega)), fun j a b => hSet.2.1 j a (b.resolve_right (by omega)), fun j a b c d e f => hSet.2.2 j a b c d e (f.resolve_right (by omega))⟩, fun _ => Or.inl rfl, rfl⟩ ?_
  rintro ⟨t1, t2⟩ X ⟨i, o, l, hi, hT0, hK0, xg0', ag', bl, hJ0, hS0, oo, e1⟩ hX
  have e1' : t1 = nI i := e1
  subst e1'
  have xg0 : XG pg o l hd t2 := xg0'
  have ag : AgP σ t2 := ag'
  have xz0 : XZ zn kd cl bw t2 := xz.agp ag
  rw [show ((nI i, t2) : Int32 × SS).2 = t2 from rfl, show ((nI i, t2) : Int32 × SS).1 = nI i from rfl, xg0.1]
  refine ⟨fun c => ?_, fun c => ?_⟩
  · have : i = pg := by
      rcases Nat.lt_or_ge i pg with w | w
      · exact absurd c (nI_ge w (by omega))
      · omega
    subst this
    have noz : ∀ j, 0 ≤ o j → ow j = z → kz kd (o j) = 0 := by
      intro j h0 w
      rcases oo j with v | ⟨v1, v2⟩
      · rw [v, w, kzz]; exact hkz
      · omega
    refine k t2 o l hd (tidyEnd (z := z) (ow := ow) (by omega) hT0 hK0 (hSz.same bl) ⟨fun j a b c d e f g => hJ0.1 j a b c d e f (fun w => ?_), fun j a b c d e g => hJ0.2 j a b c d e (fun w => ?_)⟩ hS0) xg0 ag bl (fun k hk => ?_)
    · have := noz _ (hT0.2.1 j a b).1 w; omega
    · have := noz _ (hT0.2.1 j a b).1 w; omega
    · rcases oo k with v | ⟨v1, v2⟩
      · rw [v]
      · omega
  · have hlt : i < pg := by
      rcases Nat.lt_or_ge i pg with w | w
      · exact w
      · exact absurd (nI_le w (by omega)) c
    have ho := hT0.1.2.2.1 i hlt
    have hm : ∀ s : SS, pg - ((nI i + 1, s) : Int32 × SS).1.toNatClampNeg < pg - ((nI i, t2) : Int32 × SS).1.toNatClampNeg := by
      intro s
      show pg - (nI i + 1).toNatClampNeg < pg - (nI i).toNatClampNeg
      rw [nI_1, nI_clamp (by omega), nI_clamp (by omega)]
      omega
    have nextS : ∀ {o2 : Nat → Int} {l2 : Nat → Nat}, Tiled pg zn o2 l2 kd cl → (∀ i, o2 i = ow i ∨ (o2 i = -1 ∧ ow i = z)) → OkSetq (fun j => ¬ ow j = z ∨ j < i) pg o2 l2 hd kd → (ow i = z → 0 ≤ o2 i → ∃ x, x < 64 ∧ 0 < l2 (64 * i + x) ∧ 0 ≤ hd (64 * i + x)) → OkSetq (fun j => ¬ ow j = z ∨ j < i + 1) pg o2 l2 hd kd := by
      intro o2 l2 hT2 oo2 hS2 hno
      have kill : ∀ j, 0 ≤ o2 j → ow j = z → ¬ kz kd (o2 j) = 0 → False := by
        intro j h0 w hk
        rcases oo2 j with v | ⟨v1, v2⟩
        · rw [v, w, kzz] at hk; exact hk hkz
        · omega
      refine ⟨fun j hj hP h0 hk => ?_, fun j hj hP h0 hk => hS2.2.1 j hj (Or.inl (fun w => kill j h0 w (by omega))) h0 hk, fun j hj hl hf hk a hP h1 h2 => hS2.2.2 j hj hl hf hk a (Or.inl (fun w => ?_)) h1 h2⟩
      · by_cases w : ow j = z
        · rcases Nat.lt_or_ge j i with u | u
          · exact hS2.1 j hj (Or.inr u) h0 hk
          · have hji : j = i := by omega
            subst hji
            exact hno w h0
        · exact hS2.1 j hj (Or.inl w) h0 hk
      · obtain ⟨t1, t2, t3⟩ := hT2.2.1 j hj hl
        have hoa : o2 a = o2 (j / 64) := by
          rcases Nat.lt_or_ge j (64 * a) with u | u
          · have := (t3 (64 * a) u (by omega)).2
            rw [show 64 * a / 64 = a by omega] at this
            exact this
          · rw [show j / 64 = a by omega]
        exact kill a (by omega) w (by rw [hoa]; omega)
    refine ⟨vp_in_nI (by omega) (by omega), ?_⟩
    rw [nI_clamp (by omega), xg0.2.1 i hlt]
    refine ⟨fun c2 => ?_, fun c2 => ?_⟩
    · have hne : ¬ o i = z := fun w => c2 (by rw [w, iI_nat])
      refine hX _ ⟨i + 1, o, l, by omega, hT0, hK0, xg0, ag, bl, hJ0, nextS hT0 oo hS0 (fun w h0 => ?_), oo, ?_⟩ (hm _)
      · exfalso
        rcases oo i with v | ⟨v1, v2⟩
        · exact hne (v.trans w)
        · omega
      · show nI i + 1 = _
        rw [nI_1]
    · have hoz : o i = z := by
        rw [nI_iI z, iI_eq (by omega) (by omega) (by omega) (by omega)] at c2
        exact c2
      have hk0 : kz kd (o i) = 0 := by rw [hoz, kzz]; exact hkz
      refine x_isWholly hT0 hK0 xg0 xz0 hlt hoz hzn hkz (fun hall => ⟨fun w => absurd w (by decide), fun _ => ?_⟩) (fun hex => ⟨fun _ => ?_, fun w => absurd rfl w⟩)
      · refine x_markSlots xz0 hz8 (by omega) hzn hkz hc1 hc2 (fun σ3 ag3 a0 m1 m2 => ⟨vp_in_nI (by omega) (by omega), ?_⟩)
        obtain ⟨o4, ho4⟩ : ∃ o4 : Nat → Int, o4 = fun j => if j = i then -1 else o j := ⟨_, rfl⟩
        obtain ⟨l4, hl4⟩ : ∃ l4 : Nat → Nat, l4 = fun j => if j / 64 = i then 0 else l j := ⟨_, rfl⟩
        have g : Drop pg o l hd kd o4 l4 i := by
          refine ⟨⟨hlt, by omega, by omega, hall⟩, ?_, fun j hj => ?_, fun j hj => ?_, fun j hj => ?_⟩
          · rw [ho4]; exact if_pos rfl
          · rw [ho4]; exact if_neg hj
          · rw [hl4]; exact if_pos hj
          · rw [hl4]; exact if_neg hj
        obtain ⟨hK4, bl5⟩ := g.ok hK0
        have oo4 : ∀ j, o4 j = ow j ∨ (o4 j = -1 ∧ ow j = z) := by
          intro j
          by_cases w : j = i
          · right
            refine ⟨by rw [w]; exact g.2.1, ?_⟩
            rw [w]
            rcases oo i with v | ⟨v1, v2⟩
            · rw [← v]; exact hoz
            · omega
          · rw [g.2.2.1 j w]; exact oo j
        have hT4 := g.til hT0
        have hS4 := g.set hT0.2.1 hS0
        refine hX _ ⟨i + 1, o4, l4, by omega, hT4, hK4, ?_, (ag.tr ag3).tr (AgP.m0 _ _ _), fun s hs ht => (bl5 s hs ht).trans (bl s hs ht), g.jn hT0 hJ0, nextS hT4 oo4 ⟨fun j a b => hS4.1 j a (Or.inl b), fun j a b => hS4.2.1 j a (Or.inl b), fun j a b c d e f => hS4.2.2 j a b c d e (Or.inl f)⟩ (fun _ h0 => by rw [g.2.1] at h0; omega), oo4, ?_⟩ (hm _)
        · obtain ⟨x1, x2, x3⟩ := xg0
          refine ⟨(ag3.1 0).trans x1, fun j hj => ?_, fun j hj => ?_⟩
          · show upd (gA σ3 0) i (-1) j = _
            rw [a0]
            unfold upd
            by_cases w : j = i
            · rw [if_pos w, w, g.2.1]; rfl
            · rw [if_neg w, g.2.2.1 j w]; exact x2 j hj
          · show gA σ3 1 j = _
            by_cases w2 : j / 64 = i
            · rw [g.2.2.2.1 j w2]
              by_cases s : Sl (cl z) (j % 64)
              · rw [m1 j w2 s]
                rfl
              · rw [m2 j (fun w => s w.2), x3 j hj]
                have := (slotAt hT0.2.2.1 hlt hoz hkz (j % 64) (by omega)).2 s
                rw [show 64 * i + j % 64 = j by omega] at this
                rw [this]
            · rw [g.2.2.2.2 j w2, m2 j (fun w => w2 w.1)]
              exact x3 j hj
        · show nI i + 1 = _
          rw [nI_1]
      · refine hX _ ⟨i + 1, o, l, by omega, hT0, hK0, xg0, ag, bl, hJ0, nextS hT0 oo hS0 (fun _ _ => hex), oo, ?_⟩ (hm _)
        show nI i + 1 = _
        rw [nI_1]
end STIDY
