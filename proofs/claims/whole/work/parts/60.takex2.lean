/-! ===== the class: a BUDDY's piece is parted, a SLAB's slot is taken ===== -/
theorem bst_only {md : Nat} {f : Nat → Nat} {d m p : Nat} (hp : p < m) (h1 : 0 < f p) (h2 : d ≤ f p) (hu : ∀ q, q < m → 0 < f q → d ≤ f q → q = p) : bst md f d m = p := by
  have hr := bst_rng md f d m
  have h0 : 0 ≤ bst md f d m := by
    rcases Int.lt_or_le (bst md f d m) 0 with w | w
    · exact absurd ⟨h1, h2⟩ (bst_none w p hp)
    · exact w
  obtain ⟨s1, s2⟩ := bst_some h0
  have := hu (bst md f d m).toNat (by omega) s1 s2
  omega
section TAKEB
variable {pg zn : Nat} {ow : Nat → Int} {ln kd cl : Nat → Nat} {hd : Nat → Int} {th : Nat → Bool} {sz zo pl : Nat → Nat} {bw : Nat → Int64} {σ : SS}
/-- the class's state but for the mark at p -/
def XGe (p pg : Nat) (ow : Nat → Int) (ln : Nat → Nat) (hd : Nat → Int) (σ : SS) : Prop := gI σ 0 = nI pg ∧ (∀ k, k < pg → gA σ 0 k = iI (ow k)) ∧ ∀ j, j < 64 * pg → j ≠ p → gA σ 1 j = iI (mkI (ln j) (hd j))
theorem XG.e (h : XG pg ow ln hd σ) (p : Nat) : XGe p pg ow ln hd σ := ⟨h.1, h.2.1, fun j hj _ => h.2.2 j hj⟩
theorem XGe.put {p : Nat} (h : XGe p pg ow ln hd σ) {v : Int32} (hv : v = iI (mkI (ln p) (hd p))) : XG pg ow ln hd (sA σ 1 p v) := by
  obtain ⟨h1, h2, h3⟩ := h
  refine ⟨h1, h2, fun j hj => ?_⟩
  show upd (gA σ 1) p v j = _
  unfold upd
  by_cases e : j = p
  · rw [if_pos e, e]; exact hv
  · rw [if_neg e]; exact h3 j hj e
theorem x_partOff {P : Nat → Prop} {p n z : Nat} (h : Tiled pg zn ow ln kd cl) (hK : OkK pg zn ow ln hd th zo pl) (xg : XGe p pg ow ln hd σ) (hp : p < 64 * pg) (hl : 0 < ln p) (hoz : ow (p / 64) = z) (hkz : kd z = 1) (hn : n ≤ ln p) (hJ : OkJq (fun j q => j ≠ p ∧ q ≠ p) pg ow ln hd kd) (hPk : ∀ k, P k → ¬ ow k = z) (hS : OkSetq P pg ow ln hd kd) {Q : Int32 → SS → Prop} (k : ∀ σ' l' d', Tiled pg zn ow l' kd cl → OkK pg zn ow l' d' th zo pl → XGe p pg ow l' d' σ' → AgP σ σ' → gA σ' 1 p = gA σ 1 p → l' p = pw n → d' p = hd p → (∀ s, s < 100 → th s = true → pl s ≠ p → l' (pl s) = ln (pl s)) → OkJq (fun j q => j ≠ p ∧ q ≠ p) pg ow l' d' kd → OkSetq P pg ow l' d' kd → Q (nI (pw n)) σ') : wX0_partOff (nI p) (nI (ln p)) (nI n) σ Q := by
  have hp40 := h.1.1
  have kzz : kz kd (z : Int) = kd z := by unfold kz; rw [Int.toNat_natCast]
  have hkp : kz kd (ow (p / 64)) = 1 := by rw [hoz, kzz]; exact hkz
  have hb0 := bud h.2.2.2.1 hp hl (h.2.1 p hp hl).1 hkp
  unfold wX0_partOff wX0_partOff_b8
  have e2 : nI (ln p) / 2 = nI (ln p / 2) := pk_div (d := 2) (by omega) (by omega) (by omega)
  rw [e2]
  refine lfp_inv (fun t => ∃ (m : Nat) (l : Nat → Nat) (d : Nat → Int), (m = 1 ∨ m = 2 ∨ m = 4 ∨ m = 8 ∨ m = 16 ∨ m = 32 ∨ m = 64) ∧ n ≤ m ∧ l p = m ∧ Tiled pg zn ow l kd cl ∧ OkK pg zn ow l d th zo pl ∧ XGe p pg ow l d t.2.2 ∧ AgP σ t.2.2 ∧ gA t.2.2 1 p = gA σ 1 p ∧ d p = hd p ∧ (∀ s, s < 100 → th s = true → pl s ≠ p → l (pl s) = ln (pl s)) ∧ OkJq (fun j q => j ≠ p ∧ q ≠ p) pg ow l d kd ∧ OkSetq P pg ow l d kd ∧ t.1 = nI m ∧ t.2.1 = nI (m / 2)) (fun t => t.1.toNatClampNeg) ⟨ln p, ln, hd, hb0.1, hn, rfl, h, hK, xg, AgP.rf σ, rfl, rfl, fun _ _ _ _ => rfl, hJ, hS, rfl, rfl⟩ ?_
  rintro ⟨t1, t2, t3⟩ X ⟨m, l, d, hm, hnm, hlp, hT0, hK0, xg0', ag', mp', dp, bl, hJ0, hS0, e1, e3⟩ hX
  have e1' : t1 = nI m := e1
  have e3' : t2 = nI (m / 2) := e3
  subst e1' e3'
  have xg0 : XGe p pg ow l d t3 := xg0'
  have ag : AgP σ t3 := ag'
  have mp : gA t3 1 p = gA σ 1 p := mp'
  have done : (m / 2 < 1 ∨ m / 2 < n) → Q (nI m) t3 := by
    intro hc
    have hpw : pw n = m := by
      have := pw_cases n
      omega
    have := k t3 l d hT0 hK0 xg0 ag mp (by rw [hpw]; exact hlp) dp bl hJ0 hS0
    rw [hpw] at this
    exact this
  refine ⟨fun c => done (Or.inl ?_), fun c => ⟨fun c2 => done (Or.inr ?_), fun c2 => ?_⟩⟩
  · exact (nI_ltI (b := 1) (by omega) (by omega)).mp c
  · exact (nI_ltI (by omega) (by omega)).mp c2
  · have c' : ¬ m / 2 < 1 := fun w => c (nI_lt (b := 1) w (by omega))
    have c2' : ¬ m / 2 < n := fun w => c2 (nI_lt w (by omega))
    have hm2 : ∃ x, m = 2 * x ∧ (x = 1 ∨ x = 2 ∨ x = 4 ∨ x = 8 ∨ x = 16 ∨ x = 32) := ⟨m / 2, by omega, by omega⟩
    obtain ⟨x, hx, hx32⟩ := hm2
    have hmx : m / 2 = x := by omega
    obtain ⟨b1, b2, b3, b4⟩ := bud hT0.2.2.2.1 hp (by omega) (hT0.2.1 p hp (by omega)).1 hkp
    rw [hlp, hx] at b2 b3
    have hpx : (p + x) / 64 = p / 64 ∧ p % x = 0 ∧ (p + x) % x = 0 ∧ pair (p + x) x = p := by
      unfold pair
      rcases hx32 with rfl | rfl | rfl | rfl | rfl | rfl <;> (refine ⟨by omega, by omega, by omega, ?_⟩; rw [if_neg (by omega)]; omega)
    show wX3_mark (nI p + nI (m / 2)) (nI (m / 2)) t3 (fun σ30 => X (nI (m / 2), nI (m / 2) / 2, σ30))
    rw [hmx, nI_add]
    have e2x : nI x / 2 = nI (x / 2) := pk_div (d := 2) (by omega) (by omega) (by omega)
    rw [e2x]
    refine x_mark (by omega) ?_
    obtain ⟨l', hl'⟩ : ∃ l' : Nat → Nat, l' = fun i => if i = p then x else if i = p + x then x else l i := ⟨_, rfl⟩
    obtain ⟨d', hd'⟩ : ∃ d' : Nat → Int, d' = fun i => if i = p + x then -1 else d i := ⟨_, rfl⟩
    have r1 : l' p = x := by rw [hl']; show (if p = p then _ else _) = _; rw [if_pos rfl]
    have r2 : l' (p + x) = x := by rw [hl']; show (if p + x = p then _ else _) = _; rw [if_neg (by omega), if_pos rfl]
    have r3 : ∀ i, i ≠ p → i ≠ p + x → l' i = l i := by intro i i1 i2; rw [hl']; show (if i = p then _ else _) = _; rw [if_neg i1, if_neg i2]
    have d1 : d' (p + x) = -1 := by rw [hd']; exact if_pos rfl
    have d2 : ∀ i, i ≠ p + x → d' i = d i := fun i hi => by rw [hd']; exact if_neg hi
    have hT1 : Tiled pg zn ow l' kd cl := cutBud hT0 hp (n := x) (by omega) (by omega) hkp r1 r2 r3
    obtain ⟨hK1, bl1⟩ := cutOk (ln1 := l') (hd1 := d') hT0.2.1 hK0 hp (n := x) (by omega) (by omega) r1 r3 d1 d2
    have opx : ow ((p + x) / 64) = ow (p / 64) := by rw [hpx.1]
    refine hX _ ⟨x, l', d', by omega, by omega, r1, hT1, hK1, ?_, ag.tr (AgP.m1 _ _ _), ?_, by rw [d2 p (by omega)]; exact dp, fun s hs ht hsp => (bl1 s hs ht hsp).trans (bl s hs ht hsp), ⟨fun i hi hli hf hk hn' ho hP => ?_, fun i hi hli hf hk h64 hP => ?_⟩, cutSet hT0 hp (n := x) (by omega) (by omega) (fun k hk => by rw [hoz]; exact hPk k hk) r1 (by omega) r3 d2 hS0, rfl, rfl⟩ ?_
    · obtain ⟨x1, x2, x3⟩ := xg0
      refine ⟨x1, x2, fun i hi hne => ?_⟩
      show upd (gA t3 1) (p + x) (nI x) i = _
      unfold upd
      by_cases u : i = p + x
      · rw [if_pos u, u, r2, d1]
        unfold mkI
        rw [if_neg (by omega), if_pos (by omega), nI_iI]
      · rw [if_neg u, r3 i hne u, d2 i u]
        exact x3 i hi hne
    · show upd (gA t3 1) (p + x) (nI x) p = _
      unfold upd
      rw [if_neg (by omega)]
      exact mp
    · have u : i ≠ p + x := fun w => by rw [w, opx] at hk; omega
      rw [r3 i hP.1 u] at hli hn' ho hP ⊢
      rw [d2 i u] at hf
      have v : i + l i ≠ p + x := fun w => by rw [w, opx] at ho; rw [← ho] at hk; omega
      rw [d2 _ v]
      exact hJ0.1 i hi hli hf hk hn' ho hP
    · by_cases u : i = p + x
      · rw [u, r2] at hP
        exact absurd hpx.2.2.2 hP.2
      · rw [r3 i hP.1 u] at hli h64 hP ⊢
        rw [d2 i u] at hf
        rintro ⟨w1, w2⟩
        by_cases v : pair i (l i) = p + x
        · rw [v, r2] at w1
          obtain ⟨c1, c2, c3, -⟩ := bud hT0.2.2.2.1 hi hli (hT0.2.1 i hi hli).1 hk
          have := (pair_inv (j := i) (n := l i) (by omega) c2).1
          rw [v, ← w1, hpx.2.2.2] at this
          exact hP.1 this.symm
        · rw [r3 _ hP.2 v] at w1
          rw [d2 _ v] at w2
          exact hJ0.2 i hi hli hf hk h64 hP ⟨w1, w2⟩
    · show (nI x).toNatClampNeg < (nI m).toNatClampNeg
      rw [nI_clamp (by omega), nI_clamp (by omega)]
      omega
theorem x_takeBud (hg : Gh pg zn ow ln hd kd cl th sz zo pl) (xg : XG pg ow ln hd σ) (xb : XB ln th sz zo pl σ) {z n : Nat} (hzn : z < zn) (hkz : kd z = 1) (hn : n ≤ 64) {Q : Int32 → SS → Prop} (k0 : TK pg zn ow ln hd kd cl th sz zo pl z n (-1) → Q (iI (-1)) σ) (k1 : ∀ (p : Nat) σ' ow' ln' hd', TK pg zn ow ln hd kd cl th sz zo pl z n p → Tkn z n p pg zn ow' ln' hd' kd cl th zo pl → OkSetq (fun k => ¬ ow' k = z) pg ow' ln' hd' kd → XG pg ow' ln' hd' σ' → AgP σ σ' → (∀ s, s < 100 → th s = true → ln' (pl s) = ln (pl s)) → (∀ k, k < pg → (ow' k = -2 ↔ ow k = -2)) → Q (nI p) σ') : wX0_takePiece (nI z) (nI n) σ Q := by
  obtain ⟨h, hK, hSz, hSet, hJ⟩ := id hg
  have hp40 := h.1.1
  have hz8 := h.1.2.1
  have kzz : kz kd (z : Int) = kd z := by unfold kz; rw [Int.toNat_natCast]
  have edue : due (kd z) n = pw n := by unfold due; rw [if_neg (show ¬ kd z = 0 by omega), if_pos hkz]
  have emny : mny (kd z) n = 1 := by unfold mny; rw [if_pos (by omega)]
  have hpw := pw_cases n
  have f64 : ∀ {o : Nat → Int} {l : Nat → Nat} {d : Nat → Int}, Tiled pg zn o l kd cl → ∀ p, p < 64 * pg → 0 < fr o l d z p → (fr o l d z p = 1 ∨ fr o l d z p = 2 ∨ fr o l d z p = 4 ∨ fr o l d z p = 8 ∨ fr o l d z p = 16 ∨ fr o l d z p = 32 ∨ fr o l d z p = 64) := by
    intro o l d hT p hp w
    obtain ⟨q1, q2, q3, q4⟩ := fr_pos w
    rw [q3]
    exact (bud hT.2.2.2.1 hp q4 (by omega) (by rw [q1, kzz]; exact hkz)).1
  -- parting
  have part : ∀ {o : Nat → Int} {l : Nat → Nat} {d : Nat → Int} {σ1 : SS} {p : Nat}, Tiled pg zn o l kd cl → OkK pg zn o l d th zo pl → OkJ pg o l d kd → OkSetq (fun k => ¬ o k = z) pg o l d kd → XG pg o l d σ1 → AgP σ σ1 → (∀ s, s < 100 → th s = true → l (pl s) = ln (pl s)) → (∀ k, k < pg → (o k = -2 ↔ ow k = -2)) → p < 64 * pg → 0 < fr o l d z p → pw n ≤ fr o l d z p → TK pg zn ow ln hd kd cl th sz zo pl z n p → wX0_takePiece_b55 (nI z) (nI n) (nI p) σ1 Q := by
    intro o l d σ1 p hT1 hK1 hJ1 hS1 xg1 ag1 bl1 mi1 hp hf1 hf2 htk
    obtain ⟨q1, q2, q3, q4⟩ := fr_pos hf1
    unfold wX0_takePiece_b55
    refine x_freeAt xg1 hT1.1 hT1.2.1 hK1 hp (by omega) ?_
    rw [q3]
    refine x_partOff (P := fun k => ¬ o k = z) hT1 hK1 (xg1.e p) hp q4 q1 hkz (by omega) ⟨fun j a b c d e f _ => hJ1.1 j a b c d e f, fun j a b c d e _ => hJ1.2 j a b c d e⟩ (fun _ w => w) hS1 (fun σ2 l2 d2 hT2 hK2 xg2 ag2 _ lp2 dp2 bl2 hJ2 hS2 => ?_)
    have hd2 : d2 p < 0 := by rw [dp2]; exact q2
    refine x_mark (by omega) (k1 p _ o l2 d2 htk ⟨hT2, hK2, hJ2, ⟨hp, by omega, hd2, q1⟩, ?_⟩ hS2 (xg2.put ?_) ((ag1.tr ag2).tr (AgP.m1 _ _ _)) (fun s hs ht => (bl2 s hs ht (fun w => ?_)).trans (bl1 s hs ht)) mi1)
    · rw [if_neg (show ¬ kd z = 0 by omega), edue]; exact lp2
    · unfold mkI
      rw [lp2, if_neg (by omega), if_pos hd2, nI_iI]
    · have := (hK1.1 s hs ht).2.2.2.1
      rw [w] at this
      omega
  unfold wX0_takePiece
  have ebst : bst 1 (fr ow ln hd z) n (64 * pg) = bst (kd z) (fr ow ln hd z) (due (kd z) n) (64 * pg) := by
    rw [edue, hkz]
    refine bst_congr (fun p hp => ⟨rfl, ?_⟩)
    constructor
    · rintro ⟨w1, w2⟩
      have := f64 h p hp w1
      omega
    · rintro ⟨w1, w2⟩
      omega
  have hbr := bst_rng (kd z) (fr ow ln hd z) (due (kd z) n) (64 * pg)
  refine x_leastFree h hK xg xb hzn hkz (by omega) ?_
  rw [ebst]
  refine ⟨fun c => ?_, fun c => ?_⟩
  · rw [l_0, iI_le (by omega) (by omega) (by omega) (by omega)] at c
    obtain ⟨b1, b2⟩ := bst_some c
    obtain ⟨p, hp⟩ := Int.eq_ofNat_of_zero_le c
    have htk : TK pg zn ow ln hd kd cl th sz zo pl z n p := Or.inl ⟨c, hp.symm⟩
    rw [hp] at b1 b2 hbr ⊢
    rw [Int.toNat_natCast] at b1 b2
    rw [edue] at b2
    rw [iI_nat]
    exact part h hK hJ ⟨fun k a b => hSet.1 k a, fun k a b => hSet.2.1 k a, fun j a b c d e f => hSet.2.2 j a b c d e⟩ xg (AgP.rf σ) (fun _ _ _ => rfl) (fun _ _ => Iff.rfl) (by omega) b1 b2 htk
  · rw [l_0, iI_le (by omega) (by omega) (by omega) (by omega)] at c
    refine x_freeRun (n := 1) hp40 (owR h) xg (by omega) (by omega) (fun r hr r1 r2 => ⟨fun c2 => ?_, fun c2 => ?_⟩)
    · rw [l_0, iI_le (by omega) (by omega) (by omega) (by omega)] at c2
      obtain ⟨a, ha⟩ := Int.eq_ofNat_of_zero_le c2
      subst ha
      have hfp : FP ow pg 1 a := by
        rcases hr with ⟨w, -⟩ | ⟨b, w1, w2, -⟩
        · omega
        · rw [show a = b by omega]; exact w2
      have hfp1 := hfp.1
      have hoa := hfp.2 a (by omega) (by omega)
      rw [iI_nat, nI_clamp (by omega), show nI a * 64 = nI (64 * a) from by rw [show (64 : Int32) = nI 64 from rfl, pk_mul, Nat.mul_comm]]
      refine ⟨vp_in_nI (by omega) (by omega), x_mark (by omega) ?_⟩
      obtain ⟨ow1, how1⟩ : ∃ ow1 : Nat → Int, ow1 = fun k => if k = a then (z : Int) else ow k := ⟨_, rfl⟩
      obtain ⟨lA, hlA⟩ : ∃ lA : Nat → Nat, lA = fun j => if j = 64 * a then 64 else ln j := ⟨_, rfl⟩
      obtain ⟨dA, hdA⟩ : ∃ dA : Nat → Int, dA = fun j => if j = 64 * a then -1 else hd j := ⟨_, rfl⟩
      have o1 : ow1 a = z := by rw [how1]; exact if_pos rfl
      have o2 : ∀ k, k ≠ a → ow1 k = ow k := fun k w => by rw [how1]; exact if_neg w
      have e1 : lA (64 * a) = 64 := by rw [hlA]; exact if_pos rfl
      have e2 : ∀ j, j ≠ 64 * a → lA j = ln j := fun j hj => by rw [hlA]; exact if_neg hj
      have f1 : dA (64 * a) = -1 := by rw [hdA]; exact if_pos rfl
      have f2 : ∀ j, j ≠ 64 * a → dA j = hd j := fun j hj => by rw [hdA]; exact if_neg hj
      have empty : ∀ j, j / 64 = a → ln j = 0 := by
        intro j w1
        rcases Nat.eq_zero_or_pos (ln j) with q | q
        · exact q
        · have := (h.2.1 j (by omega) q).1
          rw [w1, hoa] at this
          omega
      have only : ∀ j, j / 64 = a → 0 < lA j → j = 64 * a := by
        intro j w1 w3
        by_cases w : j = 64 * a
        · exact w
        · rw [e2 j w, empty j w1] at w3; omega
      have gA0 : Add pg ow ln hd ow1 lA dA z a 1 := by
        refine ⟨⟨by omega, hfp⟩, fun k w1 w2 => by rw [show k = a by omega]; exact o1, fun k w => o2 k (by omega), fun j hj => ⟨e2 j (by omega), f2 j (by omega)⟩, fun j w1 w2 w3 => ?_⟩
        rw [only j (by omega) w3]; exact f1
      have hTA : Tiled pg zn ow1 lA kd cl := addPage h (by omega) hoa hzn (by omega) o1 o2 (fun _ => ⟨e1, fun i i1 i2 => by rw [e2 _ (by omega)]; exact empty _ (by omega)⟩) (fun w => by omega) (fun j hj => e2 j (by omega))
      obtain ⟨hKA, blA⟩ := gA0.ok hK
      have hJA := gA0.jn2 h hTA (by omega) rfl (fun _ j w1 w2 w3 => only j (by omega) w3) (fun _ => e1) hJ
      have hSA := gA0.set hTA.2.1 hSet
      have hfa : fr ow1 lA dA z (64 * a) = 64 := by
        unfold fr
        rw [if_pos ⟨by rw [show 64 * a / 64 = a by omega]; exact o1, by omega⟩]
        exact e1
      have hbst : bst (kd z) (fr ow1 lA dA z) (due (kd z) n) (64 * pg) = ((64 * a : Nat) : Int) := by
        refine bst_only (by omega) (by omega) (by rw [edue]; omega) (fun q hq w1 w2 => ?_)
        obtain ⟨q1, q2, q3, q4⟩ := fr_pos w1
        by_cases w : q / 64 = a
        · exact only q w q4
        · exfalso
          have hqe : q ≠ 64 * a := fun v => by omega
          refine bst_none (show bst (kd z) (fr ow ln hd z) (due (kd z) n) (64 * pg) < 0 by omega) q hq ?_
          have : fr ow ln hd z q = fr ow1 lA dA z q := by
            unfold fr
            rw [o2 _ w, e2 q hqe, f2 q hqe]
          rw [this]
          exact ⟨w1, w2⟩
      have htk : TK pg zn ow ln hd kd cl th sz zo pl z n ((64 * a : Nat) : Int) := Or.inr (Or.inr ⟨by omega, a, ow1, lA, dA, by rw [emny]; exact hr, fun i hi => by
        rw [emny, how1]
        by_cases w : i = a
        · show (if i = a then _ else _) = _
          rw [if_pos w, if_pos (by omega)]
        · show (if i = a then _ else _) = _
          rw [if_neg w, if_neg (by omega)], ⟨hTA, hKA, hSz.same blA, hJA⟩, by omega, hbst.symm⟩)
      have xg2 : XG pg ow1 lA dA (sA (sA σ 0 a (nI z)) 1 (64 * a) 64) := by
        refine ⟨xg.1, fun k hk => ?_, fun j hj => ?_⟩
        · show upd (gA σ 0) a (nI z) k = _
          unfold upd
          by_cases w : k = a
          · rw [if_pos w, w, o1, iI_nat]
          · rw [if_neg w, o2 k w]; exact xg.2.1 k hk
        · show upd (gA σ 1) (64 * a) 64 j = _
          unfold upd
          by_cases w : j = 64 * a
          · rw [if_pos w, w, e1, f1]
            rfl
          · rw [if_neg w, e2 j w, f2 j w]; exact xg.2.2 j hj
      refine part hTA hKA hJA hSA xg2 ((AgP.m0 _ _ _).tr (AgP.m1 _ _ _)) blA (fun k hk => ?_) (by omega) (by omega) (by omega) htk
      by_cases w : k = a
      · rw [w, o1, hoa]; omega
      · rw [o2 k w]
    · rw [l_0, iI_le (by omega) (by omega) (by omega) (by omega)] at c2
      rw [l_m1]
      exact k0 (Or.inr (Or.inl ⟨by omega, by rw [emny, show (-1 : Int) = r by omega]; exact hr, rfl⟩))
theorem x_takeSlab (hg : Gh pg zn ow ln hd kd cl th sz zo pl) (xg : XG pg ow ln hd σ) (xz : XZ zn kd cl bw σ) (xb : XB ln th sz zo pl σ) {z n : Nat} (hzn : z < zn) (hkz : kd z = 0) {Q : Int32 → SS → Prop} (k0 : TK pg zn ow ln hd kd cl th sz zo pl z n (-1) → Q (iI (-1)) σ) (k1 : ∀ (p : Nat) σ' ow' ln' hd', TK pg zn ow ln hd kd cl th sz zo pl z n p → Tkn z n p pg zn ow' ln' hd' kd cl th zo pl → OkSetq (fun k => ¬ ow' k = z) pg ow' ln' hd' kd → XG pg ow' ln' hd' σ' → AgP σ σ' → (∀ s, s < 100 → th s = true → ln' (pl s) = ln (pl s)) → (∀ k, k < pg → (ow' k = -2 ↔ ow k = -2)) → Q (nI p) σ') {x2 : Int32} : wX5_takePiece (nI z) x2 σ Q := by
  obtain ⟨h, hK, hSz, hSet, hJ⟩ := id hg
  have hp40 := h.1.1
  have hz8 := h.1.2.1
  have kzz : kz kd (z : Int) = kd z := by unfold kz; rw [Int.toNat_natCast]
  obtain ⟨hc1, hc2⟩ := (h.1.2.2.2 z hzn).2 hkz
  have edue : due (kd z) n = 0 := by unfold due; rw [if_pos hkz]
  have emny : mny (kd z) n = 1 := by unfold mny; rw [if_pos (by omega)]
  have ebst : bst 0 (fr ow ln hd z) 0 (64 * pg) = bst (kd z) (fr ow ln hd z) (due (kd z) n) (64 * pg) := by rw [edue, hkz]
  have lenS : ∀ {o : Nat → Int} {l : Nat → Nat}, Tiled pg zn o l kd cl → ∀ p, p < 64 * pg → 0 < l p → o (p / 64) = z → l p = cl z := by
    intro o l hT p hp hl ho
    have := slotAt hT.2.2.1 (k := p / 64) (by omega) ho hkz (p % 64) (by omega)
    rw [show 64 * (p / 64) + p % 64 = p by omega] at this
    by_cases s : Sl (cl z) (p % 64)
    · exact this.1 s
    · have := this.2 s; omega
  unfold wX5_takePiece
  have hbr := bst_rng (kd z) (fr ow ln hd z) (due (kd z) n) (64 * pg)
  refine x_lowestFree h hK xg xb hzn ?_
  rw [ebst]
  refine ⟨fun c => ?_, fun c => ?_⟩
  · rw [l_0, iI_lt (by omega) (by omega) (by omega) (by omega)] at c
    refine x_freeRun (n := 1) hp40 (owR h) xg (by omega) (by omega) (fun r hr r1 r2 => ⟨fun c2 => ?_, fun c2 => ?_⟩)
    · rw [l_0, iI_le (by omega) (by omega) (by omega) (by omega)] at c2
      obtain ⟨a, ha⟩ := Int.eq_ofNat_of_zero_le c2
      subst ha
      have hfp : FP ow pg 1 a := by
        rcases hr with ⟨w, -⟩ | ⟨b, w1, w2, -⟩
        · omega
        · rw [show a = b by omega]; exact w2
      have hfp1 := hfp.1
      have hoa := hfp.2 a (by omega) (by omega)
      rw [iI_nat, nI_clamp (by omega)]
      have xz1 : XZ zn kd cl bw (sA σ 0 a (nI z)) := xz
      refine ⟨vp_in_nI (by omega) (by omega), x_classOf xz1 hz8 hzn hkz hc1 hc2 (x_markSlots xz1 hz8 (by omega) hzn hkz hc1 hc2 (fun σ3 ag3 a0 m1 m2 => ?_))⟩
      rw [show nI a * 64 + 1 = nI (64 * a + 1) from by rw [show (64 : Int32) = nI 64 from rfl, pk_mul, nI_1, Nat.mul_comm]]
      obtain ⟨ow1, how1⟩ : ∃ ow1 : Nat → Int, ow1 = fun k => if k = a then (z : Int) else ow k := ⟨_, rfl⟩
      obtain ⟨lA, hlA⟩ : ∃ lA : Nat → Nat, lA = fun j => if j / 64 = a then (if 1 ≤ j % 64 ∧ (j % 64 - 1) % cl z = 0 ∧ j % 64 + cl z ≤ 64 then cl z else 0) else ln j := ⟨_, rfl⟩
      obtain ⟨dA, hdA⟩ : ∃ dA : Nat → Int, dA = fun j => if j / 64 = a then -1 else hd j := ⟨_, rfl⟩
      have o1 : ow1 a = z := by rw [how1]; exact if_pos rfl
      have o2 : ∀ k, k ≠ a → ow1 k = ow k := fun k w => by rw [how1]; exact if_neg w
      have e1 : ∀ j, j / 64 = a → lA j = if 1 ≤ j % 64 ∧ (j % 64 - 1) % cl z = 0 ∧ j % 64 + cl z ≤ 64 then cl z else 0 := fun j hj => by rw [hlA]; exact if_pos hj
      have e2 : ∀ j, j / 64 ≠ a → lA j = ln j := fun j hj => by rw [hlA]; exact if_neg hj
      have f1 : ∀ j, j / 64 = a → dA j = -1 := fun j hj => by rw [hdA]; exact if_pos hj
      have f2 : ∀ j, j / 64 ≠ a → dA j = hd j := fun j hj => by rw [hdA]; exact if_neg hj
      have gA0 : Add pg ow ln hd ow1 lA dA z a 1 := ⟨⟨by omega, hfp⟩, fun k w1 w2 => by rw [show k = a by omega]; exact o1, fun k w => o2 k (by omega), fun j hj => ⟨e2 j (by omega), f2 j (by omega)⟩, fun j w1 w2 w3 => f1 j (by omega)⟩
      have hTA : Tiled pg zn ow1 lA kd cl := addPage h (by omega) hoa hzn (by omega) o1 o2 (fun w => by omega) (fun _ i hi => by
        rw [e1 _ (by omega), show (64 * a + i) % 64 = i by omega]) (fun j hj => e2 j hj)
      obtain ⟨hKA, blA⟩ := gA0.ok hK
      have hJA := gA0.jn2 h hTA (by omega) rfl (fun w => absurd hkz w) (fun w => by omega) hJ
      have hSA := gA0.set hTA.2.1 hSet
      have hl1 : lA (64 * a + 1) = cl z := by
        rw [e1 _ (by omega), show (64 * a + 1) % 64 = 1 by omega, if_pos ⟨by omega, by simp, by omega⟩]
      have hfa : fr ow1 lA dA z (64 * a + 1) = cl z := by
        unfold fr
        rw [if_pos ⟨by rw [show (64 * a + 1) / 64 = a by omega]; exact o1, by rw [f1 _ (by omega)]; omega⟩]
        exact hl1
      have hbst : bst (kd z) (fr ow1 lA dA z) (due (kd z) n) (64 * pg) = ((64 * a + 1 : Nat) : Int) := by
        rw [hkz]
        have hlow : bst 0 (fr ow1 lA dA z) (due 0 n) (64 * a + 1) < 0 := by
          rcases Int.lt_or_le (bst 0 (fr ow1 lA dA z) (due 0 n) (64 * a + 1)) 0 with w | w
          · exact w
          · exfalso
            have hr' := bst_rng 0 (fr ow1 lA dA z) (due 0 n) (64 * a + 1)
            obtain ⟨s1, s2⟩ := bst_some w
            have hq : (bst 0 (fr ow1 lA dA z) (due 0 n) (64 * a + 1)).toNat < 64 * a + 1 := by omega
            generalize (bst 0 (fr ow1 lA dA z) (due 0 n) (64 * a + 1)).toNat = q at s1 s2 hq
            obtain ⟨q1, q2, q3, q4⟩ := fr_pos s1
            by_cases v : q / 64 = a
            · have hq0 : q = 64 * a := by omega
              rw [hq0, e1 _ (by omega), if_neg (by omega)] at q4
              omega
            · refine bst_none (show bst (kd z) (fr ow ln hd z) (due (kd z) n) (64 * pg) < 0 by omega) q (by omega) ?_
              have : fr ow ln hd z q = fr ow1 lA dA z q := by
                unfold fr
                rw [o2 _ v, e2 q v, f2 q v]
              rw [this, edue]
              exact ⟨s1, by omega⟩
        refine bst_first (n := 64 * a + 1 + 1) ?_ (64 * pg) (by omega)
        rw [bst_step, if_pos ⟨⟨by omega, by unfold due; rw [if_pos rfl]; omega⟩, Or.inl hlow⟩]
      have htk : TK pg zn ow ln hd kd cl th sz zo pl z n ((64 * a + 1 : Nat) : Int) := Or.inr (Or.inr ⟨by omega, a, ow1, lA, dA, by rw [emny]; exact hr, fun i hi => by
        rw [emny, how1]
        by_cases w : i = a
        · show (if i = a then _ else _) = _
          rw [if_pos w, if_pos (by omega)]
        · show (if i = a then _ else _) = _
          rw [if_neg w, if_neg (by omega)], ⟨hTA, hKA, hSz.same blA, hJA⟩, by omega, hbst.symm⟩)
      refine k1 (64 * a + 1) σ3 ow1 lA dA htk ⟨hTA, hKA, ⟨fun j a b c d e f _ => hJA.1 j a b c d e f, fun j a b c d e _ => hJA.2 j a b c d e⟩, ⟨by omega, by omega, by rw [f1 _ (by omega)]; omega, by rw [show (64 * a + 1) / 64 = a by omega]; exact o1⟩, by rw [if_pos hkz]; exact hl1⟩ hSA ?_ ((AgP.m0 _ _ _).tr ag3) blA (fun k hk => ?_)
      · refine ⟨(ag3.1 0).trans xg.1, fun k hk => ?_, fun j hj => ?_⟩
        · rw [a0]
          show upd (gA σ 0) a (nI z) k = _
          unfold upd
          by_cases w : k = a
          · rw [if_pos w, w, o1, iI_nat]
          · rw [if_neg w, o2 k w]; exact xg.2.1 k hk
        · by_cases w : j / 64 = a
          · rw [e1 j w, f1 j w]
            by_cases s : Sl (cl z) (j % 64)
            · rw [m1 j w s, if_pos (show 1 ≤ j % 64 ∧ (j % 64 - 1) % cl z = 0 ∧ j % 64 + cl z ≤ 64 from s)]
              unfold mkI
              rw [if_neg (by omega), if_pos (by omega), nI_iI]
            · rw [m2 j (fun v => s v.2), if_neg (show ¬ (1 ≤ j % 64 ∧ (j % 64 - 1) % cl z = 0 ∧ j % 64 + cl z ≤ 64) from s)]
              show gA σ 1 j = _
              rw [xg.2.2 j hj]
              have hl0 : ln j = 0 := by
                rcases Nat.eq_zero_or_pos (ln j) with q | q
                · exact q
                · have := (h.2.1 j hj q).1
                  rw [w, hoa] at this
                  omega
              rw [hl0]
              rfl
          · rw [e2 j w, f2 j w, m2 j (fun v => w v.1)]
            exact xg.2.2 j hj
      · by_cases w : k = a
        · rw [w, o1, hoa]; omega
        · rw [o2 k w]
    · rw [l_0, iI_le (by omega) (by omega) (by omega) (by omega)] at c2
      rw [l_m1]
      exact k0 (Or.inr (Or.inl ⟨c, by rw [emny, show (-1 : Int) = r by omega]; exact hr, rfl⟩))
  · rw [l_0, iI_lt (by omega) (by omega) (by omega) (by omega)] at c
    have c' : 0 ≤ bst (kd z) (fr ow ln hd z) (due (kd z) n) (64 * pg) := by omega
    obtain ⟨b1, b2⟩ := bst_some c'
    obtain ⟨p, hp⟩ := Int.eq_ofNat_of_zero_le c'
    have htk : TK pg zn ow ln hd kd cl th sz zo pl z n p := Or.inl ⟨c', hp.symm⟩
    rw [hp] at b1 b2 hbr ⊢
    rw [Int.toNat_natCast] at b1 b2
    rw [iI_nat]
    obtain ⟨q1, q2, q3, q4⟩ := fr_pos b1
    exact k1 p σ ow ln hd htk ⟨h, hK, ⟨fun j a b c d e f _ => hJ.1 j a b c d e f, fun j a b c d e _ => hJ.2 j a b c d e⟩, ⟨by omega, q4, q2, q1⟩, by rw [if_pos hkz]; exact lenS h p (by omega) q4 q1⟩ ⟨fun k a b => hSet.1 k a, fun k a b => hSet.2.1 k a, fun j a b c d e f => hSet.2.2 j a b c d e⟩ xg (AgP.rf σ) (fun _ _ _ => rfl) (fun _ _ => Iff.rfl)
theorem x_takeK (hg : Gh pg zn ow ln hd kd cl th sz zo pl) (xg : XG pg ow ln hd σ) (xz : XZ zn kd cl bw σ) (xb : XB ln th sz zo pl σ) {z n : Nat} (hzn : z < zn) (hn : n ≤ mst (kd z) (cl z)) {Q : Int32 → SS → Prop} (k0 : TK pg zn ow ln hd kd cl th sz zo pl z n (-1) → Q (iI (-1)) σ) (k1 : ∀ (p : Nat) σ' ow' ln' hd', TK pg zn ow ln hd kd cl th sz zo pl z n p → Tkn z n p pg zn ow' ln' hd' kd cl th zo pl → OkSetq (fun k => ¬ ow' k = z) pg ow' ln' hd' kd → XG pg ow' ln' hd' σ' → AgP σ σ' → (∀ s, s < 100 → th s = true → ln' (pl s) = ln (pl s)) → (∀ k, k < pg → (ow' k = -2 ↔ ow k = -2)) → Q (nI p) σ') : wK_takePiece (kp (kd z)) (nI z) (nI n) σ Q := by
  unfold mst at hn
  unfold kp
  by_cases h0 : kd z = 0
  · rw [if_pos h0]
    exact x_takeSlab (x2 := nI n) hg xg xz xb hzn h0 k0 k1
  · rw [if_neg h0] at hn ⊢
    by_cases h1 : kd z = 1
    · rw [if_pos h1] at hn ⊢
      exact x_takeBud hg xg xb hzn h1 hn k0 k1
    · rw [if_neg h1] at hn ⊢
      exact x_takeRow hg xg xz xb hzn (by omega) hn k0 k1
end TAKEB
