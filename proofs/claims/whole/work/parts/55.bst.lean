/-! ===== the search for a free piece ===== -/
def bst (md : Nat) (f : Nat → Nat) (d : Nat) : Nat → Int
  | 0 => -1
  | n + 1 => if (0 < f n ∧ d ≤ f n) ∧ (bst md f d n < 0 ∨ (md = 2 ∧ f (bst md f d n).toNat < f n) ∨ ((md = 1 ∨ md = 3) ∧ f n < f (bst md f d n).toNat)) then (n : Int) else bst md f d n
theorem bst_step (md : Nat) (f : Nat → Nat) (d n : Nat) : bst md f d (n + 1) = if (0 < f n ∧ d ≤ f n) ∧ (bst md f d n < 0 ∨ (md = 2 ∧ f (bst md f d n).toNat < f n) ∨ ((md = 1 ∨ md = 3) ∧ f n < f (bst md f d n).toNat)) then (n : Int) else bst md f d n := rfl
theorem bst_rng (md : Nat) (f : Nat → Nat) (d n : Nat) : -1 ≤ bst md f d n ∧ bst md f d n < n := by
  induction n with
  | zero => show (-1 : Int) ≤ -1 ∧ (-1 : Int) < 0; decide
  | succ n ih => rw [bst_step]; split <;> omega
theorem bst_some {md : Nat} {f : Nat → Nat} {d n : Nat} (h : 0 ≤ bst md f d n) : 0 < f (bst md f d n).toNat ∧ d ≤ f (bst md f d n).toNat := by
  induction n with
  | zero => exact absurd h (by show ¬ (0 : Int) ≤ -1; decide)
  | succ n ih =>
    rw [bst_step] at h ⊢
    split
    · next c => rw [Int.toNat_natCast]; exact c.1
    · next c => rw [if_neg c] at h; exact ih h
theorem bst_none {md : Nat} {f : Nat → Nat} {d n : Nat} (h : bst md f d n < 0) : ∀ p, p < n → ¬ (0 < f p ∧ d ≤ f p) := by
  induction n with
  | zero => intro p hp; omega
  | succ n ih =>
    intro p hp hc
    rw [bst_step] at h
    split at h
    · omega
    · next c =>
      rcases Nat.lt_or_ge p n with u | u
      · exact ih h p u hc
      · rw [show p = n by omega] at hc
        exact c ⟨hc, Or.inl h⟩
theorem bst_gap {md : Nat} {f : Nat → Nat} {d a b : Nat} (h : a ≤ b) (hz : ∀ i, a ≤ i → i < b → f i = 0) : bst md f d b = bst md f d a := by
  induction b with
  | zero => rw [show a = 0 by omega]
  | succ b ih =>
    rcases Nat.lt_or_ge a (b + 1) with u | u
    · rw [bst_step, if_neg (by rw [hz b (by omega) (by omega)]; omega), ih (by omega) (fun i h1 h2 => hz i h1 (by omega))]
    · rw [show a = b + 1 by omega]
theorem bst_congr {md : Nat} {f g : Nat → Nat} {d e n : Nat} (h : ∀ p, p < n → f p = g p ∧ ((0 < f p ∧ d ≤ f p) ↔ (0 < f p ∧ e ≤ f p))) : bst md f d n = bst md g e n := by
  induction n with
  | zero => rfl
  | succ n ih =>
    have ih' := ih (fun p hp => h p (by omega))
    rw [bst_step, bst_step, ih']
    obtain ⟨h1, h2⟩ := h n (by omega)
    have hr := bst_rng md g e n
    have this : ((0 < f n ∧ d ≤ f n) ∧ (bst md g e n < 0 ∨ (md = 2 ∧ f (bst md g e n).toNat < f n) ∨ ((md = 1 ∨ md = 3) ∧ f n < f (bst md g e n).toNat))) ↔ ((0 < g n ∧ e ≤ g n) ∧ (bst md g e n < 0 ∨ (md = 2 ∧ g (bst md g e n).toNat < g n) ∨ ((md = 1 ∨ md = 3) ∧ g n < g (bst md g e n).toNat))) := by
      by_cases hb : bst md g e n < 0
      · rw [h2, h1]
        exact ⟨fun w => ⟨w.1, Or.inl hb⟩, fun w => ⟨w.1, Or.inl hb⟩⟩
      · rw [h2, h1, (h (bst md g e n).toNat (by omega)).1]
    by_cases c : (0 < g n ∧ e ≤ g n) ∧ (bst md g e n < 0 ∨ (md = 2 ∧ g (bst md g e n).toNat < g n) ∨ ((md = 1 ∨ md = 3) ∧ g n < g (bst md g e n).toNat))
    · rw [if_pos (this.mpr c), if_pos c]
    · rw [if_neg (fun w => c (this.mp w)), if_neg c]
theorem bst_first {f : Nat → Nat} {d n p : Nat} (h : bst 0 f d n = p) : ∀ m, n ≤ m → bst 0 f d m = p := by
  intro m
  induction m with
  | zero => intro hm; rw [show n = 0 by omega] at h; exact h
  | succ m ih =>
    intro hm
    rcases Nat.lt_or_ge m n with u | u
    · rw [show m + 1 = n by omega]; exact h
    · rw [bst_step, ih u, if_neg (by omega)]
section BST
variable {pg zn : Nat} {ow : Nat → Int} {ln kd cl : Nat → Nat} {hd : Nat → Int} {th : Nat → Bool} {sz zo pl : Nat → Nat} {bw : Nat → Int64} {σ τ : SS}
theorem fr_pos {z p : Nat} (h : 0 < fr ow ln hd z p) : ow (p / 64) = z ∧ hd p < 0 ∧ fr ow ln hd z p = ln p ∧ 0 < ln p := by
  unfold fr at h ⊢
  split at h
  · next c => rw [if_pos c]; exact ⟨c.1, c.2, rfl, h⟩
  · omega
theorem fr_gap (h : Tiled pg zn ow ln kd cl) {p : Nat} (hb : Bd pg ow ln kd cl p) (hp : p < 64 * pg) (z i : Nat) (h1 : p + 1 ≤ i) (h2 : i < eo ow ln p) : fr ow ln hd z i = 0 := by
  have := ((eoBd h hb hp).2.2.2 i (by omega) h2).1
  unfold fr
  rw [this]
  split <;> rfl
theorem x_choose (h : Tiled pg zn ow ln kd cl) (hK : OkK pg zn ow ln hd th zo pl) (xg : XG pg ow ln hd σ) (xz : XZ zn kd cl bw σ) (xb : XB ln th sz zo pl σ) {z d : Nat} (hz : z < zn) (hkz : 2 ≤ kd z) (hd1 : 1 ≤ d) (hd2 : d < 100000) {Q : Int32 → Prop} (k : Q (iI (bst (kd z) (fr ow ln hd z) d (64 * pg)))) : wX4_choose (nI z) (nI d) σ Q := by
  have hp40 := h.1.1
  have hz8 := h.1.2.1
  have hk5 := (h.1.2.2.2 z hz).1
  unfold wX4_choose
  refine x_kindOf xz hz8 hz ?_
  unfold wX4_choose_b18 wX4_choose_b73 wX4_choose_b65 wX4_choose_b73
  refine lfp_inv (fun t => ∃ p : Nat, p ≤ 64 * pg ∧ Bd pg ow ln kd cl p ∧ t.1 = iI (bst (kd z) (fr ow ln hd z) d p) ∧ (0 ≤ bst (kd z) (fr ow ln hd z) d p → t.2.1 = nI (fr ow ln hd z (bst (kd z) (fr ow ln hd z) d p).toNat)) ∧ t.2.2 = nI p) (fun t => 64 * pg - t.2.2.toNatClampNeg) ⟨0, by omega, Bd_0 h, rfl, fun w => absurd w (by show ¬ (0 : Int) ≤ -1; decide), rfl⟩ ?_
  rintro ⟨t1, t2, t3⟩ X ⟨p, hpp, hb, e1, e2, e3⟩ hX
  have e1' : t1 = iI (bst (kd z) (fr ow ln hd z) d p) := e1
  have e2' : 0 ≤ bst (kd z) (fr ow ln hd z) d p → t2 = nI (fr ow ln hd z (bst (kd z) (fr ow ln hd z) d p).toNat) := e2
  have e3' : t3 = nI p := e3
  subst e1' e3'
  have hbr := bst_rng (kd z) (fr ow ln hd z) d p
  refine x_places xg ⟨fun c => ?_, fun c => ?_⟩
  · have : p = 64 * pg := by
      rcases Nat.lt_or_ge p (64 * pg) with w | w
      · exact absurd c (nI_ge w (by omega))
      · omega
    subst this
    exact k
  · have hlt : p < 64 * pg := by
      rcases Nat.lt_or_ge p (64 * pg) with w | w
      · exact w
      · exact absurd (nI_le w (by omega)) c
    obtain ⟨b1, b2, b3, b4⟩ := eoBd h hb hlt
    have hfl := fr_le (hd := hd) (z := z) h.2.1 hlt
    have hgap : bst (kd z) (fr ow ln hd z) d (eo ow ln p) = bst (kd z) (fr ow ln hd z) d (p + 1) := bst_gap (by omega) (fun i h1 h2 => fr_gap h hb hlt z i h1 h2)
    have hm : ∀ (x y : Int32), 64 * pg - ((x, y, nI (eo ow ln p)) : Int32 × Int32 × Int32).2.2.toNatClampNeg < 64 * pg - ((iI (bst (kd z) (fr ow ln hd z) d p), t2, nI p) : Int32 × Int32 × Int32).2.2.toNatClampNeg := by
      intro x y
      show 64 * pg - (nI (eo ow ln p)).toNatClampNeg < 64 * pg - (nI p).toNatClampNeg
      rw [nI_clamp (by omega), nI_clamp (by omega)]
      omega
    have stay : ¬ ((0 < fr ow ln hd z p ∧ d ≤ fr ow ln hd z p) ∧ (bst (kd z) (fr ow ln hd z) d p < 0 ∨ (kd z = 2 ∧ fr ow ln hd z (bst (kd z) (fr ow ln hd z) d p).toNat < fr ow ln hd z p) ∨ ((kd z = 1 ∨ kd z = 3) ∧ fr ow ln hd z p < fr ow ln hd z (bst (kd z) (fr ow ln hd z) d p).toNat))) → wX3_endOf (nI p) σ (fun r83 => X (iI (bst (kd z) (fr ow ln hd z) d p), t2, (if nI p + 1 < r83 then r83 else nI p + 1))) := by
      intro hno
      refine x_endOf xg h.1 h.2.1 hK xb hlt ?_
      rw [x_max b1 (by omega)]
      have es : bst (kd z) (fr ow ln hd z) d (eo ow ln p) = bst (kd z) (fr ow ln hd z) d p := by rw [hgap, bst_step, if_neg hno]
      exact hX _ ⟨eo ow ln p, b2, b3, by rw [es], by rw [es]; exact e2', rfl⟩ (hm _ _)
    have take : ((0 < fr ow ln hd z p ∧ d ≤ fr ow ln hd z p) ∧ (bst (kd z) (fr ow ln hd z) d p < 0 ∨ (kd z = 2 ∧ fr ow ln hd z (bst (kd z) (fr ow ln hd z) d p).toNat < fr ow ln hd z p) ∨ ((kd z = 1 ∨ kd z = 3) ∧ fr ow ln hd z p < fr ow ln hd z (bst (kd z) (fr ow ln hd z) d p).toNat))) → wX3_endOf (nI p) σ (fun r83 => X (nI p, nI (fr ow ln hd z p), (if nI p + 1 < r83 then r83 else nI p + 1))) := by
      intro hyes
      refine x_endOf xg h.1 h.2.1 hK xb hlt ?_
      rw [x_max b1 (by omega)]
      have es : bst (kd z) (fr ow ln hd z) d (eo ow ln p) = p := by rw [hgap, bst_step, if_pos hyes]
      exact hX _ ⟨eo ow ln p, b2, b3, by rw [es, iI_nat], by rw [es]; intro _; rw [Int.toNat_natCast], rfl⟩ (hm _ _)
    refine x_freeAt xg h.1 h.2.1 hK hlt (by omega) ⟨fun c2 => stay ?_, fun c2 => ?_⟩
    · have : fr ow ln hd z p < d := (nI_ltI (by omega) (by omega)).mp c2
      omega
    · have hfd : d ≤ fr ow ln hd z p := by
        rcases Nat.lt_or_ge (fr ow ln hd z p) d with w | w
        · exact absurd (nI_lt w (by omega)) c2
        · exact w
      refine ⟨fun c3 => take ⟨⟨by omega, hfd⟩, Or.inl ?_⟩, fun c3 => ?_⟩
      · have c3' : iI (bst (kd z) (fr ow ln hd z) d p) < 0 := c3
        rw [l_0, iI_lt (by omega) (by omega) (by omega) (by omega)] at c3'
        exact c3'
      · have c3' : ¬ iI (bst (kd z) (fr ow ln hd z) d p) < 0 := c3
        rw [l_0, iI_lt (by omega) (by omega) (by omega) (by omega)] at c3'
        have hbf := fr_le (hd := hd) (z := z) h.2.1 (p := (bst (kd z) (fr ow ln hd z) d p).toNat) (by omega)
        have et := e2' (by omega)
        subst et
        have k2 : nI (kd z) = 2 ↔ kd z = 2 := nI_eq (b := 2) (by omega) (by omega)
        have k3 : nI (kd z) = 3 ↔ kd z = 3 := nI_eq (b := 3) (by omega) (by omega)
        unfold wX4_isBetter
        rw [k2, k3, nI_leI (by omega) (by omega), nI_leI (by omega) (by omega)]
        refine ⟨fun q2 => ⟨fun q3 => ⟨fun _ => stay ?_, fun w => absurd rfl w⟩, fun q3 => ⟨fun q4 => ⟨fun _ => stay ?_, fun w => absurd rfl w⟩, fun q4 => ⟨fun w => absurd w (by decide), fun _ => take ?_⟩⟩⟩, fun q2 => ⟨fun q4 => ⟨fun _ => stay ?_, fun w => absurd rfl w⟩, fun q4 => ⟨fun w => absurd w (by decide), fun _ => take ?_⟩⟩⟩ <;> omega
theorem x_lowestFree (h : Tiled pg zn ow ln kd cl) (hK : OkK pg zn ow ln hd th zo pl) (xg : XG pg ow ln hd σ) (xb : XB ln th sz zo pl σ) {z : Nat} (hz : z < zn) {Q : Int32 → Prop} (k : Q (iI (bst 0 (fr ow ln hd z) 0 (64 * pg)))) : wX5_lowestFree (nI z) σ Q := by
  have hp40 := h.1.1
  have hz8 := h.1.2.1
  unfold wX5_lowestFree wX5_lowestFree_b2
  refine lfp_inv (fun t => ∃ p : Nat, p ≤ 64 * pg ∧ Bd pg ow ln kd cl p ∧ bst 0 (fr ow ln hd z) 0 p = -1 ∧ t = nI p) (fun t => 64 * pg - t.toNatClampNeg) ⟨0, by omega, Bd_0 h, rfl, rfl⟩ ?_
  rintro t X ⟨p, hpp, hb, e1, rfl⟩ hX
  refine x_places xg ⟨fun c => ?_, fun c => ?_⟩
  · have : p = 64 * pg := by
      rcases Nat.lt_or_ge p (64 * pg) with w | w
      · exact absurd c (nI_ge w (by omega))
      · omega
    subst this
    rw [e1] at k
    exact k
  · have hlt : p < 64 * pg := by
      rcases Nat.lt_or_ge p (64 * pg) with w | w
      · exact w
      · exact absurd (nI_le w (by omega)) c
    obtain ⟨b1, b2, b3, b4⟩ := eoBd h hb hlt
    have hfl := fr_le (hd := hd) (z := z) h.2.1 hlt
    refine x_freeAt xg h.1 h.2.1 hK hlt (by omega) ⟨fun c2 => x_endOf xg h.1 h.2.1 hK xb hlt ?_, fun c2 => ?_⟩
    · have hf : fr ow ln hd z p = 0 := by
        rcases Nat.eq_zero_or_pos (fr ow ln hd z p) with w | w
        · exact w
        · exact absurd c2 (nI_nle w (by omega))
      rw [x_max b1 (by omega)]
      refine hX _ ⟨eo ow ln p, b2, b3, ?_, rfl⟩ ?_
      · rw [bst_gap (a := p) (by omega) (fun i h1 h2 => ?_)]
        · exact e1
        · rcases Nat.lt_or_ge p i with w | w
          · exact fr_gap h hb hlt z i w h2
          · rw [show i = p by omega]; exact hf
      · rw [nI_clamp (by omega), nI_clamp (by omega)]
        omega
    · have hf : 0 < fr ow ln hd z p := by
        rcases Nat.eq_zero_or_pos (fr ow ln hd z p) with w | w
        · rw [w] at c2; exact absurd (by decide) c2
        · exact w
      have : bst 0 (fr ow ln hd z) 0 (p + 1) = p := by
        rw [bst_step, if_pos ⟨⟨hf, by omega⟩, Or.inl (by omega)⟩]
      rw [bst_first this (64 * pg) (by omega), iI_nat] at k
      exact k
theorem x_leastFree (h : Tiled pg zn ow ln kd cl) (hK : OkK pg zn ow ln hd th zo pl) (xg : XG pg ow ln hd σ) (xb : XB ln th sz zo pl σ) {z d : Nat} (hz : z < zn) (hkz : kd z = 1) (hd2 : d < 100000) {Q : Int32 → Prop} (k : Q (iI (bst 1 (fr ow ln hd z) d (64 * pg)))) : wX0_leastFree (nI z) (nI d) σ Q := by
  have hp40 := h.1.1
  have hz8 := h.1.2.1
  have kzz : kz kd (z : Int) = kd z := by unfold kz; rw [Int.toNat_natCast]
  have f64 : ∀ p, p < 64 * pg → fr ow ln hd z p ≤ 64 := by
    intro p hp
    rcases Nat.eq_zero_or_pos (fr ow ln hd z p) with w | w
    · omega
    · obtain ⟨q1, q2, q3, q4⟩ := fr_pos w
      have := (bud h.2.2.2.1 hp q4 (by omega) (by rw [q1, kzz]; exact hkz)).1
      omega
  unfold wX0_leastFree wX0_leastFree_b9 wX0_leastFree_b58
  refine lfp_inv (fun t => ∃ p : Nat, p ≤ 64 * pg ∧ Bd pg ow ln kd cl p ∧ t.1 = iI (bst 1 (fr ow ln hd z) d p) ∧ t.2.1 = nI (if bst 1 (fr ow ln hd z) d p < 0 then 65 else fr ow ln hd z (bst 1 (fr ow ln hd z) d p).toNat) ∧ t.2.2 = nI p) (fun t => 64 * pg - t.2.2.toNatClampNeg) ⟨0, by omega, Bd_0 h, rfl, rfl, rfl⟩ ?_
  rintro ⟨t1, t2, t3⟩ X ⟨p, hpp, hb, e1, e2, e3⟩ hX
  have e1' : t1 = iI (bst 1 (fr ow ln hd z) d p) := e1
  have e2' : t2 = nI (if bst 1 (fr ow ln hd z) d p < 0 then 65 else fr ow ln hd z (bst 1 (fr ow ln hd z) d p).toNat) := e2
  have e3' : t3 = nI p := e3
  subst e1' e2' e3'
  have hbr := bst_rng 1 (fr ow ln hd z) d p
  refine x_places xg ⟨fun c => ?_, fun c => ?_⟩
  · have : p = 64 * pg := by
      rcases Nat.lt_or_ge p (64 * pg) with w | w
      · exact absurd c (nI_ge w (by omega))
      · omega
    subst this
    exact k
  · have hlt : p < 64 * pg := by
      rcases Nat.lt_or_ge p (64 * pg) with w | w
      · exact w
      · exact absurd (nI_le w (by omega)) c
    obtain ⟨b1, b2, b3, b4⟩ := eoBd h hb hlt
    have hfl := fr_le (hd := hd) (z := z) h.2.1 hlt
    have hf64 := f64 p hlt
    have hcl : (if bst 1 (fr ow ln hd z) d p < 0 then 65 else fr ow ln hd z (bst 1 (fr ow ln hd z) d p).toNat) ≤ 65 := by
      split
      · omega
      · have := f64 (bst 1 (fr ow ln hd z) d p).toNat (by omega); omega
    have hgap : bst 1 (fr ow ln hd z) d (eo ow ln p) = bst 1 (fr ow ln hd z) d (p + 1) := bst_gap (by omega) (fun i h1 h2 => fr_gap h hb hlt z i h1 h2)
    have hm : 64 * pg - (nI (eo ow ln p)).toNatClampNeg < 64 * pg - (nI p).toNatClampNeg := by
      rw [nI_clamp (by omega), nI_clamp (by omega)]
      omega
    have stay : ¬ ((0 < fr ow ln hd z p ∧ d ≤ fr ow ln hd z p) ∧ (bst 1 (fr ow ln hd z) d p < 0 ∨ (1 = 2 ∧ fr ow ln hd z (bst 1 (fr ow ln hd z) d p).toNat < fr ow ln hd z p) ∨ ((1 = 1 ∨ 1 = 3) ∧ fr ow ln hd z p < fr ow ln hd z (bst 1 (fr ow ln hd z) d p).toNat))) → wX3_endOf (nI p) σ (fun r68 => X (iI (bst 1 (fr ow ln hd z) d p), nI (if bst 1 (fr ow ln hd z) d p < 0 then 65 else fr ow ln hd z (bst 1 (fr ow ln hd z) d p).toNat), (if nI p + 1 < r68 then r68 else nI p + 1))) := by
      intro hno
      refine x_endOf xg h.1 h.2.1 hK xb hlt ?_
      rw [x_max b1 (by omega)]
      have es : bst 1 (fr ow ln hd z) d (eo ow ln p) = bst 1 (fr ow ln hd z) d p := by rw [hgap, bst_step, if_neg hno]
      exact hX _ ⟨eo ow ln p, b2, b3, by rw [es], by rw [es], rfl⟩ hm
    refine x_freeAt xg h.1 h.2.1 hK hlt (by omega) ⟨fun c2 => stay ?_, fun c2 => ⟨fun c3 => stay ?_, fun c3 => ⟨fun c4 => stay ?_, fun c4 => ?_⟩⟩⟩
    · have : fr ow ln hd z p = 0 := by
        rcases Nat.eq_zero_or_pos (fr ow ln hd z p) with w | w
        · exact w
        · exact absurd c2 (nI_nle w (by omega))
      omega
    · have : fr ow ln hd z p < d := (nI_ltI (by omega) (by omega)).mp c3
      omega
    · have c4' : nI (if bst 1 (fr ow ln hd z) d p < 0 then 65 else fr ow ln hd z (bst 1 (fr ow ln hd z) d p).toNat) ≤ nI (fr ow ln hd z p) := c4
      rw [nI_leI (by omega) (by omega)] at c4'
      split at c4'
      · omega
      · omega
    · have c4' : ¬ nI (if bst 1 (fr ow ln hd z) d p < 0 then 65 else fr ow ln hd z (bst 1 (fr ow ln hd z) d p).toNat) ≤ nI (fr ow ln hd z p) := c4
      rw [nI_leI (by omega) (by omega)] at c4'
      have hf : 0 < fr ow ln hd z p := by
        rcases Nat.eq_zero_or_pos (fr ow ln hd z p) with w | w
        · rw [w] at c2; exact absurd (by decide) c2
        · exact w
      have hfd : d ≤ fr ow ln hd z p := by
        rcases Nat.lt_or_ge (fr ow ln hd z p) d with w | w
        · exact absurd (nI_lt w (by omega)) c3
        · exact w
      refine x_endOf xg h.1 h.2.1 hK xb hlt ?_
      show X (nI p, nI (fr ow ln hd z p), (if nI p + 1 < nI (eo ow ln p) then nI (eo ow ln p) else nI p + 1))
      rw [x_max b1 (by omega)]
      have es : bst 1 (fr ow ln hd z) d (eo ow ln p) = p := by
        have hy : bst 1 (fr ow ln hd z) d p < 0 ∨ (1 = 2 ∧ fr ow ln hd z (bst 1 (fr ow ln hd z) d p).toNat < fr ow ln hd z p) ∨ ((1 = 1 ∨ 1 = 3) ∧ fr ow ln hd z p < fr ow ln hd z (bst 1 (fr ow ln hd z) d p).toNat) := by
          split at c4'
          · next w => exact Or.inl w
          · exact Or.inr (Or.inr ⟨Or.inl rfl, by omega⟩)
        rw [hgap, bst_step, if_pos ⟨⟨hf, hfd⟩, hy⟩]
      exact hX _ ⟨eo ow ln p, b2, b3, by rw [es, iI_nat], by rw [es, if_neg (by omega), Int.toNat_natCast], rfl⟩ hm
end BST
