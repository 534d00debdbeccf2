theorem add64 {b c : Int} (hb : R32 b) (hc : R32 c) : ((iI b).toInt64 + (iI c).toInt64).toInt = b + c := by
  unfold R32 at hb hc
  rw [Int64.toInt_add, Int32.toInt_toInt64, Int32.toInt_toInt64, iI_toInt hb.1 hb.2, iI_toInt hc.1 hc.2]
  exact Int.bmod_eq_of_le (by simp; omega) (by simp; omega)
theorem nI64 {n : Nat} (h : n < 2147483648) : (nI n).toInt64.toInt = n := by
  rw [Int32.toInt_toInt64, nI_toInt (by omega)]
section COPY
variable {pg zn : Nat} {ow : Nat → Int} {ln kd cl : Nat → Nat} {hd : Nat → Int} {th : Nat → Bool} {sz zo pl : Nat → Nat} {bw : Nat → Int64} {τ : SS} {Q : Int32 → SS → Prop}
theorem m_copy157 (hg : Gh pg zn ow ln hd kd cl th sz zo pl) (mz : MZ zn kd cl bw τ) (mb : MB th sz zo pl τ) {s j n : Nat} (hs : s < 100) (ht : th s = true) (hj : j + n ≤ sz s) {u : Nat → Int64} (k : Q (nI n) (sBB (sBB τ 4 u) 0 (va_cpy u (gB τ 0) 0 (pl s + ahd (kd (zo s)) + j) n))) : wX7_copy_b157 (nI j) (nI n) (nI s) 0 (sBB τ 4 u) Q := by
  obtain ⟨z1, z2, z3, z4, z5, z6, z7, z8, z9⟩ := blk hg hs ht
  have he := numEnd hg hs ht
  unfold wX7_copy_b157
  refine lfp_inv (fun t => ∃ i : Nat, i ≤ n ∧ t = (nI i, sBB (sBB τ 4 u) 0 (va_cpy u (gB τ 0) 0 (pl s + ahd (kd (zo s)) + j) i))) (fun t => n - t.1.toNatClampNeg) ⟨0, by omega, by rw [cpy_0]; exact congrArg (fun z => ((0 : Int32), z)) (sBB_self (sBB τ 4 u) 0).symm⟩ ?_
  rintro t X ⟨i, hi, rfl⟩ hX
  refine ⟨fun c => ?_, fun c => ?_⟩
  · have hin : i = n := by
      rcases Nat.lt_or_ge i n with q | q
      · exact absurd c (nI_ge q (by omega))
      · omega
    subst hin
    exact k
  · have hlt : i < n := by
      rcases Nat.lt_or_ge i n with q | q
      · exact q
      · exact absurd (nI_le q (by omega)) c
    refine m_firstNumber (τ := sBB (sBB τ 4 u) 0 (va_cpy u (gB τ 0) 0 (pl s + ahd (kd (zo s)) + j) i)) mb ⟨mz.1, mz.2⟩ hg hs ht ?_
    rw [show ((nI i, sBB (sBB τ 4 u) 0 (va_cpy u (gB τ 0) 0 (pl s + ahd (kd (zo s)) + j) i)) : Int32 × SS).1 = nI i from rfl, nI_add, nI_add, nI_clamp (by omega), nI_clamp (by omega), nI_1]
    refine ⟨vp_in_nI (by omega) (by omega), vp_in_nI (by omega) (by omega), hX _ ⟨i + 1, by omega, ?_⟩ ?_⟩
    · show (nI (i + 1), sB (sBB (sBB τ 4 u) 0 (va_cpy u (gB τ 0) 0 (pl s + ahd (kd (zo s)) + j) i)) 0 (pl s + ahd (kd (zo s)) + j + i) (u i)) = _
      rw [sB_sBB, ← cpy_s, Nat.zero_add]
    · show n - (nI (i + 1)).toNatClampNeg < n - (nI i).toNatClampNeg
      rw [nI_clamp (by omega), nI_clamp (by omega)]
      omega
theorem m_copy118 (hg : Gh pg zn ow ln hd kd cl th sz zo pl) (mz : MZ zn kd cl bw τ) (mb : MB th sz zo pl τ) {s1 s2 i1 j n : Nat} (hs1 : s1 < 100) (ht1 : th s1 = true) (hs2 : s2 < 100) (ht2 : th s2 = true) (hi1 : i1 + n ≤ sz s1) (hj : j + n ≤ sz s2) (k : ∀ u g, (∀ q, q < 2560 → va_cpy (gB τ 0) (gB τ 0) (pl s1 + ahd (kd (zo s1)) + i1) (pl s2 + ahd (kd (zo s2)) + j) n q = g q) → Q (nI n) (sBB (sBB τ 4 u) 0 g)) : wX7_copy_b118 (nI i1) (nI j) (nI n) (nI s1) (nI s2) 0 τ Q := by
  obtain ⟨z1, z2, z3, z4, z5, z6, z7, z8, z9⟩ := blk hg hs1 ht1
  have he := numEnd hg hs1 ht1
  unfold wX7_copy_b118
  refine lfp_inv (fun t => ∃ i : Nat, i ≤ n ∧ t = (nI i, sBB τ 4 (va_cpy (gB τ 0) (gB τ 4) (pl s1 + ahd (kd (zo s1)) + i1) 0 i))) (fun t => n - t.1.toNatClampNeg) ⟨0, by omega, by rw [cpy_0, sBB_self]; rfl⟩ ?_
  rintro t X ⟨i, hi, rfl⟩ hX
  refine ⟨fun c => ?_, fun c => ?_⟩
  · have hin : i = n := by
      rcases Nat.lt_or_ge i n with q | q
      · exact absurd c (nI_ge q (by omega))
      · omega
    subst hin
    refine m_copy157 hg mz mb hs2 ht2 hj (k _ _ (fun q hq => ?_))
    unfold va_cpy
    by_cases e : pl s2 + ahd (kd (zo s2)) + j ≤ q ∧ q < pl s2 + ahd (kd (zo s2)) + j + i
    · rw [if_pos e, if_pos e, if_pos (by omega)]
      congr 1
      omega
    · rw [if_neg e, if_neg e]
  · have hlt : i < n := by
      rcases Nat.lt_or_ge i n with q | q
      · exact q
      · exact absurd (nI_le q (by omega)) c
    refine m_firstNumber (τ := sBB τ 4 (va_cpy (gB τ 0) (gB τ 4) (pl s1 + ahd (kd (zo s1)) + i1) 0 i)) mb ⟨mz.1, mz.2⟩ hg hs1 ht1 ?_
    rw [show ((nI i, sBB τ 4 (va_cpy (gB τ 0) (gB τ 4) (pl s1 + ahd (kd (zo s1)) + i1) 0 i)) : Int32 × SS).1 = nI i from rfl, nI_add, nI_add, nI_clamp (by omega), nI_clamp (by omega), nI_1]
    refine ⟨vp_in_nI (by omega) (by omega), vp_in_nI (by omega) (by omega), hX _ ⟨i + 1, by omega, ?_⟩ ?_⟩
    · show (nI (i + 1), sB (sBB τ 4 (va_cpy (gB τ 0) (gB τ 4) (pl s1 + ahd (kd (zo s1)) + i1) 0 i)) 4 i (gB τ 0 (pl s1 + ahd (kd (zo s1)) + i1 + i))) = _
      rw [sB_sBB, ← cpy_s, Nat.zero_add]
    · show n - (nI (i + 1)).toNatClampNeg < n - (nI i).toNatClampNeg
      rw [nI_clamp (by omega), nI_clamp (by omega)]
      omega
/-- copy of the reference: findings, then the numbers -/
theorem m_copy (hg : Gh pg zn ow ln hd kd cl th sz zo pl) (mz : MZ zn kd cl bw τ) (mb : MB th sz zo pl τ) {a b c d n : Int} (ha : R32 a) (hb : R32 b) (hc : R32 c) (hd' : R32 d) (hn : R32 n) (h1 : ∀ m : Nat, fnd (gA τ 4) th a = -(m : Int) → 1 ≤ m → m ≤ 9 → Q (iI (fnd (gA τ 4) th a)) (ansM τ m)) (h2 : ∀ m : Nat, 0 ≤ fnd (gA τ 4) th a → fnd (gA τ 4) th c = -(m : Int) → 1 ≤ m → m ≤ 9 → Q (iI (fnd (gA τ 4) th c)) (ansM τ m)) (h3 : 0 ≤ fnd (gA τ 4) th a → 0 ≤ fnd (gA τ 4) th c → n < 0 → Q (iI (-3)) (ansM τ 3)) (h4 : ∀ s t : Nat, fnd (gA τ 4) th a = s → fnd (gA τ 4) th c = t → 0 ≤ n → (b < 0 ∨ d < 0 ∨ sz s < b + n ∨ sz t < d + n) → Q (iI (-1)) (ansM τ 1)) (h5 : ∀ s t i j k : Nat, fnd (gA τ 4) th a = s → fnd (gA τ 4) th c = t → s < 100 → th s = true → t < 100 → th t = true → n = k → b = i → d = j → i + k ≤ sz s → j + k ≤ sz t → ∀ u g, (∀ q, q < 2560 → va_cpy (gB τ 0) (gB τ 0) (pl s + ahd (kd (zo s)) + i) (pl t + ahd (kd (zo t)) + j) k q = g q) → Q (nI k) (sBB (sBB τ 4 u) 0 g)) : wX7_copy (iI a) (iI b) (iI c) (iI d) (iI n) τ Q := by
  have k34 : ∀ f : Int, (f = -4 ∨ f = -5) → (∀ m : Nat, f = -(m : Int) → 1 ≤ m → m ≤ 9 → Q (iI f) (ansM τ m)) → wX7_copy_b22 (iI a) (iI b) (iI c) (iI d) (iI n) (iI f) τ Q := by
    intro f hf kf
    unfold wX7_copy_b22 wX7_copy_b34 wX7_copy_b47
    refine ⟨fun _ => ⟨fun e => absurd e (by rcases hf with rfl | rfl <;> decide), fun _ => m_ansF hf kf⟩, fun e => absurd (by rcases hf with rfl | rfl <;> decide) e⟩
  unfold wX7_copy
  refine m_look mb ha ?_
  rcases fnd_cases (gA τ 4) th a with e | e | ⟨e0, e1, e2, e3, e4⟩
  · rw [if_pos (by omega)]
    exact ⟨fun z => absurd z (by rw [e]; decide), fun _ => k34 _ (Or.inl e) h1⟩
  · rw [if_pos (by omega)]
    exact ⟨fun z => absurd z (by rw [e]; decide), fun _ => k34 _ (Or.inr e) h1⟩
  rw [if_neg (by omega)]
  refine ⟨fun _ => m_look mb hc ?_, fun z => absurd (by decide) z⟩
  rcases fnd_cases (gA τ 4) th c with f | f | ⟨f0, f1, f2, f3, f4⟩
  · rw [if_pos (by omega)]; exact k34 _ (Or.inl f) (fun m p q r => h2 m e2 p q r)
  · rw [if_pos (by omega)]; exact k34 _ (Or.inr f) (fun m p q r => h2 m e2 p q r)
  rw [if_neg (by omega)]
  obtain ⟨s, hs⟩ := Int.eq_ofNat_of_zero_le e2
  obtain ⟨t, ht⟩ := Int.eq_ofNat_of_zero_le f2
  rw [hs] at e3 e4
  rw [ht] at f3 f4
  rw [Int.toNat_natCast] at e4 f4
  have hs100 : s < 100 := by omega
  have ht100 : t < 100 := by omega
  obtain ⟨z1, z2, z3, z4, z5, z6, z7, z8, z9⟩ := blk hg hs100 e4
  obtain ⟨y1, y2, y3, y4, y5, y6, y7, y8, y9⟩ := blk hg ht100 f4
  have vs : vp_in (nI s) 100 := vp_in_nI hs100 (by omega)
  have vt : vp_in (nI t) 100 := vp_in_nI ht100 (by omega)
  unfold wX7_copy_b22 wX7_copy_b34 wX7_copy_b47 wX7_copy_b109
  rw [handleRem ha hs, handleRem hc ht, nI_clamp (by omega), nI_clamp (by omega), ((mb.2 s hs100).1 e4).2.1, ((mb.2 t ht100).1 f4).2.1]
  have hb0 := hb; have hd0 := hd'; have hn0 := hn
  unfold R32 at hb0 hd0 hn0
  have bad : (0 ≤ n → (b < 0 ∨ d < 0 ∨ sz s < b + n ∨ sz t < d + n) → wX7_answer (-1) τ fun r111 σ111 => Q r111 σ111) := fun q1 q2 => by rw [l_m1]; exact m_answer (n := 1) (by omega) (by omega) (h4 s t hs ht q1 q2)
  refine ⟨fun z => absurd z (by decide), fun _ => ⟨fun c1 => ⟨fun c2 => ?_, fun c2 => ⟨fun c3 => ?_, fun c3 => ⟨vs, fun c4 => ?_, fun c4 => ⟨vt, fun c5 => ?_, fun c5 => ?_⟩⟩⟩⟩, fun c1 => ⟨fun _ => ?_, fun z => absurd (by decide) z⟩⟩⟩
  · rw [l_0, iI_le (by omega) (by omega) (by omega) (by omega)] at c1
    rw [l_0, iI_lt (by omega) (by omega) (by omega) (by omega)] at c2
    exact bad c1 (Or.inl c2)
  · rw [l_0, iI_le (by omega) (by omega) (by omega) (by omega)] at c1
    rw [l_0, iI_lt (by omega) (by omega) (by omega) (by omega)] at c3
    exact bad c1 (Or.inr (Or.inl c3))
  · rw [l_0, iI_le (by omega) (by omega) (by omega) (by omega)] at c1
    rw [lg_cmp_gt, Int64.lt_iff_toInt_lt, add64 hb hn, nI64 (by omega)] at c4
    exact bad c1 (by omega)
  · rw [l_0, iI_le (by omega) (by omega) (by omega) (by omega)] at c1
    rw [l_0, iI_lt (by omega) (by omega) (by omega) (by omega)] at c2 c3
    rw [lg_cmp_gt, Int64.lt_iff_toInt_lt, add64 hb hn, nI64 (by omega)] at c4
    rw [lg_cmp_le, Int64.le_iff_toInt_le, add64 hd' hn, nI64 (by omega)] at c5
    obtain ⟨k, hk⟩ := Int.eq_ofNat_of_zero_le c1
    obtain ⟨i, hi⟩ := Int.eq_ofNat_of_zero_le (show 0 ≤ b by omega)
    obtain ⟨j, hj⟩ := Int.eq_ofNat_of_zero_le (show 0 ≤ d by omega)
    have q1 : i + k ≤ sz s := by omega
    have q2 : j + k ≤ sz t := by omega
    rw [hi, hj, hk, iI_nat, iI_nat, iI_nat]
    exact m_copy118 hg mz mb hs100 e4 ht100 f4 q1 q2 (h5 s t i j k hs ht hs100 e4 ht100 f4 hk hi hj q1 q2)
  · rw [l_0, iI_le (by omega) (by omega) (by omega) (by omega)] at c1
    rw [lg_cmp_le, Int64.le_iff_toInt_le, add64 hd' hn, nI64 (by omega)] at c5
    exact bad c1 (by omega)
  · rw [l_0, iI_le (by omega) (by omega) (by omega) (by omega)] at c1
    rw [l_m3]
    exact m_answer (n := 3) (by omega) (by omega) (h3 (by omega) (by omega) (by omega))
end COPY
theorem s_copy : stp_copy II := by
  intro κ σx σm x1 x2 x3 x4 x5 h
  obtain ⟨a, ha, rfl⟩ := ex_iI x1
  obtain ⟨b, hb, rfl⟩ := ex_iI x2
  obtain ⟨c, hc, rfl⟩ := ex_iI x3
  obtain ⟨d, hd', rfl⟩ := ex_iI x4
  obtain ⟨n, hn, rfl⟩ := ex_iI x5
  obtain ⟨⟨pg, zn, ow, ln, hd, kd, cl, bw, th, sz, zo, pl, hg⟩, h2, h4⟩ := id h
  obtain ⟨g1, ⟨xg, xz, xb⟩, ⟨mg, mz, mb⟩, hraw⟩ := id hg
  have ea := fnd_congr (gv := gA σx 3) (gv' := gA σm 4) th a hraw.1
  have ec := fnd_congr (gv := gA σx 3) (gv' := gA σm 4) th c hraw.1
  have hb0 := hb; have hd0 := hd'; have hn0 := hn
  unfold R32 at hb0 hd0 hn0
  unfold wX6_copy wX6_copy_b87
  refine x_ask g1 xb ha (fun m e n1 n2 => ?_) (fun s e s1 s2 => ?_)
  · rw [ea] at e ⊢
    exact m_copy g1 mz mb ha hb hc hd' hn (fun m' e' _ _ => ⟨rfl, by rw [show m' = m by omega]; exact h.ans m⟩) (fun m' e' _ _ _ => by omega) (fun e' _ _ => by omega) (fun s t e' _ _ _ => by omega) (fun s t i j k e' _ _ _ _ _ _ _ _ _ _ => by omega)
  refine x_ask g1 xb hc (fun m e' n1 n2 => ?_) (fun t e' t1 t2 => ?_)
  · rw [ea] at e
    rw [ec] at e' ⊢
    exact m_copy g1 mz mb ha hb hc hd' hn (fun m' e2 _ _ => by omega) (fun m' _ e2 _ _ => ⟨rfl, by rw [show m' = m by omega]; exact h.ans m⟩) (fun _ e2 _ => by omega) (fun s' t' _ e2 _ _ => by omega) (fun s' t' i j k _ e2 _ _ _ _ _ _ _ _ _ => by omega)
  rw [ea] at e
  rw [ec] at e'
  have bad : ∀ z : Int, z = -1 → 0 ≤ n → (b < 0 ∨ d < 0 ∨ sz s < b + n ∨ sz t < d + n) → wX6_tell (-1) σx fun r89 σ89 => wX7_copy (iI a) (iI b) (iI c) (iI d) (iI n) σm fun r' σm' => r89 = r' ∧ II κ σ89 σm' := by
    intro z _ q1 q2
    rw [l_m1]
    refine x_tell (n := 1) (by omega) (by omega) ?_
    exact m_copy g1 mz mb ha hb hc hd' hn (fun m' e2 _ _ => by omega) (fun m' _ e2 _ _ => by omega) (fun _ _ e2 => by omega) (fun s' t' _ _ _ _ => ⟨rfl, h.ans 1⟩) (fun s' t' i j k w1 w2 _ _ _ _ w3 w4 w5 w6 w7 => by
      have q3 : s' = s := by omega
      have q4 : t' = t := by omega
      subst q3; subst q4; omega)
  refine ⟨fun c1 => ?_, fun c1 => ?_⟩
  · rw [l_0, iI_le (by omega) (by omega) (by omega) (by omega)] at c1
    refine x_hasNumbers xb g1 s1 s2 hb hn c1 (fun q => ⟨fun _ => bad _ rfl c1 (by omega), fun z => absurd rfl z⟩) (fun q1 q2 => ⟨fun z => absurd z (by decide), fun _ => x_hasNumbers xb g1 t1 t2 hd' hn c1 (fun q => ⟨fun z => absurd rfl z, fun _ => bad _ rfl c1 (by omega)⟩) (fun q3 q4 => ⟨fun _ => ?_, fun z => absurd z (by decide)⟩)⟩)
    obtain ⟨k, hk⟩ := Int.eq_ofNat_of_zero_le c1
    obtain ⟨i, hi⟩ := Int.eq_ofNat_of_zero_le q1
    obtain ⟨j, hj⟩ := Int.eq_ofNat_of_zero_le q3
    have hs2 := numEnd g1 s1 s2
    have ht2 := numEnd g1 t1 t2
    refine x_firstNumber xb xz g1 s1 s2 (x_firstNumber xb xz g1 t1 t2 ?_)
    have e3 : iI b = nI i := by rw [hi, iI_nat]
    have e4 : iI d = nI j := by rw [hj, iI_nat]
    have e5 : iI n = nI k := by rw [hk, iI_nat]
    rw [e3, e4, e5, nI_add, nI_add]
    refine x_copyNumbers (by omega) (by omega) ?_
    rw [← e3, ← e4, ← e5]
    refine m_copy g1 mz mb ha hb hc hd' hn (fun m' e2 _ _ => by omega) (fun m' _ e2 _ _ => by omega) (fun _ _ e2 => by omega) (fun s' t' w1 w2 _ w3 => by
      have q5 : s' = s := by omega
      have q6 : t' = t := by omega
      subst q5; subst q6; omega) (fun s' t' i' j' k' w1 w2 _ _ _ _ w3 w4 w5 w6 w7 u g hgq => ?_)
    have q5 : s' = s := by omega
    have q6 : t' = t := by omega
    have q7 : i' = i := by omega
    have q8 : j' = j := by omega
    have q9 : k' = k := by omega
    subst q5; subst q6; subst q7; subst q8; subst q9
    refine ⟨e5, h.nums (fun q hq => ?_)⟩
    rw [← hgq q hq]
    unfold va_cpy
    by_cases e : pl t' + ahd (kd (zo t')) + j' ≤ q ∧ q < pl t' + ahd (kd (zo t')) + j' + k'
    · rw [if_pos e, if_pos e]; exact hraw.2.1 _ (by omega)
    · rw [if_neg e, if_neg e]; exact hraw.2.1 _ hq
  · rw [l_0, iI_le (by omega) (by omega) (by omega) (by omega)] at c1
    rw [l_m3]
    refine x_tell (n := 3) (by omega) (by omega) ?_
    exact m_copy g1 mz mb ha hb hc hd' hn (fun m' e2 _ _ => by omega) (fun m' _ e2 _ _ => by omega) (fun _ _ e2 => ⟨rfl, h.ans 3⟩) (fun s' t' _ _ w _ => by omega) (fun s' t' i j k w1 w2 _ _ _ _ w3 w4 w5 w6 w7 => by omega)
