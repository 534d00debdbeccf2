/-! ===== numbers of blocks ===== -/
section NUM
variable {σ : SS}
theorem x_numberAt {p : Nat} (h : p < 2560) {Q : Int64 → Prop} (k : Q (gB σ 0 p)) : wX3_numberAt (nI p) σ Q := by
  unfold wX3_numberAt
  refine ⟨fun c => absurd c (nI_pos (by omega)), fun _ => ⟨fun c => absurd c (nI_ge h (by decide)), fun _ => ⟨vp_in_nI h (by omega), ?_⟩⟩⟩
  rw [nI_clamp (by omega)]; exact k
theorem x_setNumber {p : Nat} (h : p < 2560) {v : Int64} {Q : SS → Prop} (k : Q (sB σ 0 p v)) : wX3_setNumber (nI p) v σ Q := by
  unfold wX3_setNumber
  refine ⟨fun c => absurd c (nI_pos (by omega)), fun _ => ⟨fun c => absurd c (nI_ge h (by decide)), fun _ => ⟨vp_in_nI h (by omega), ?_⟩⟩⟩
  rw [nI_clamp (by omega)]; exact k
end NUM
/-- the same number is written on both sides -/
theorem II.num {κ : Option SS} {σ τ : SS} (h : II κ σ τ) {p : Nat} (v : Int64) : II κ (sB σ 0 p v) (sB τ 0 p v) := by
  obtain ⟨⟨pg, zn, ow, ln, hd, kd, cl, bw, th, sz, zo, pl, g1, ⟨xg, xz, xb⟩, ⟨mg, mz, mb⟩, r1, r2, r3⟩, h2, h4⟩ := h
  refine ⟨⟨pg, zn, ow, ln, hd, kd, cl, bw, th, sz, zo, pl, g1, ⟨xg, ⟨xz.1, xz.2⟩, xb⟩, ⟨mg, ⟨mz.1, mz.2⟩, mb⟩, r1, fun j hj => ?_, r3⟩, ⟨h2.1, h2.2⟩, h4.ag ⟨rfl, rfl⟩⟩
  rw [gB_sB, gB_sB]
  unfold vp_updL
  by_cases e : j = p
  · rw [if_pos e, if_pos e]
  · rw [if_neg e, if_neg e]; exact r2 j hj
theorem II.val {κ : Option SS} {σ τ : SS} (h : II κ σ τ) (v : Int64) : II κ (sL σ 0 v) (sL τ 0 v) := by
  obtain ⟨h1, ⟨h2, h3⟩, h4⟩ := h
  exact ⟨h1.ag ⟨⟨rfl, rfl⟩, fun _ _ => rfl, rfl, rfl⟩ ⟨⟨rfl, rfl, rfl⟩, fun _ _ => rfl, rfl, rfl⟩, ⟨h2, rfl⟩, h4.ag ⟨rfl, rfl⟩⟩
/-- the place of a block's number i -/
theorem numPlace {pg zn : Nat} {ow : Nat → Int} {ln kd cl : Nat → Nat} {hd : Nat → Int} {th : Nat → Bool} {sz zo pl : Nat → Nat} (hg : Gh pg zn ow ln hd kd cl th sz zo pl) {s i : Nat} (hs : s < 100) (ht : th s = true) (hi : i < sz s) : pl s + ahd (kd (zo s)) + i < 2560 := by
  obtain ⟨z1, z2, z3, z4, z5, z6, z7, z8, z9⟩ := blk hg hs ht
  unfold ahd
  by_cases h5 : kd (zo s) = 5
  · have := z9 (by omega); rw [if_pos h5] at this ⊢; omega
  · rw [if_neg h5] at z9 ⊢
    by_cases h2 : 2 ≤ kd (zo s)
    · have := z9 h2; rw [if_pos h2]; omega
    · rw [if_neg h2]; omega
section WR
variable {pg zn : Nat} {ow : Nat → Int} {ln kd cl : Nat → Nat} {hd : Nat → Int} {th : Nat → Bool} {sz zo pl : Nat → Nat} {bw : Nat → Int64} {σ τ : SS}
theorem zo8 (hg : Gh pg zn ow ln hd kd cl th sz zo pl) : ∀ s, s < 100 → th s = true → zo s < 8 := fun s hs ht => by
  obtain ⟨z1, z2, -⟩ := blk hg hs ht
  omega
/-- a finding of a handle is told -/
theorem x_tellF {f : Int} (hf : f = -4 ∨ f = -5) {Q : Int32 → SS → Prop} (k : ∀ n : Nat, f = -(n : Int) → 1 ≤ n → n ≤ 9 → Q (iI f) (ansX σ n)) : wX6_tell (iI f) σ Q := by
  rcases hf with rfl | rfl
  · exact x_tell (n := 4) (by omega) (by omega) (k 4 rfl (by omega) (by omega))
  · exact x_tell (n := 5) (by omega) (by omega) (k 5 rfl (by omega) (by omega))
theorem m_ansF {f : Int} (hf : f = -4 ∨ f = -5) {Q : Int32 → SS → Prop} (k : ∀ n : Nat, f = -(n : Int) → 1 ≤ n → n ≤ 9 → Q (iI f) (ansM τ n)) : wX7_answer (iI f) τ Q := by
  rcases hf with rfl | rfl
  · exact m_answer (n := 4) (by omega) (by omega) (k 4 rfl (by omega) (by omega))
  · exact m_answer (n := 5) (by omega) (by omega) (k 5 rfl (by omega) (by omega))
theorem x_write (hg : Gh pg zn ow ln hd kd cl th sz zo pl) (xz : XZ zn kd cl bw σ) (xb : XB ln th sz zo pl σ) {a b : Int} {v : Int64} (ha : R32 a) (hb : R32 b) {Q : Int32 → SS → Prop} (h1 : ∀ n : Nat, fnd (gA σ 3) th a = -(n : Int) → 1 ≤ n → n ≤ 9 → Q (iI (fnd (gA σ 3) th a)) (ansX σ n)) (h2 : ∀ s : Nat, fnd (gA σ 3) th a = s → s < 100 → th s = true → (b < 0 ∨ sz s ≤ b) → Q (iI (-1)) (ansX σ 1)) (h3 : ∀ s i : Nat, fnd (gA σ 3) th a = s → s < 100 → th s = true → b = i → i < sz s → Q 0 (sB σ 0 (pl s + ahd (kd (zo s)) + i) v)) : wX6_write (iI a) (iI b) v σ Q := by
  unfold R32 at hb
  unfold wX6_write
  refine x_find xb (zo8 hg) ha ?_
  rw [l_0]
  rcases fnd_cases (gA σ 3) th a with e | e | ⟨e0, e1, e2, e3, e4⟩
  · refine br_le (by unfold R32; omega) ⟨fun c => by omega, fun _ => x_tellF (Or.inl e) h1⟩
  · refine br_le (by unfold R32; omega) ⟨fun c => by omega, fun _ => x_tellF (Or.inr e) h1⟩
  · obtain ⟨s, hs⟩ := Int.eq_ofNat_of_zero_le e2
    rw [hs] at e3 e4 ⊢
    have hs100 : s < 100 := by omega
    rw [Int.toNat_natCast] at e4
    obtain ⟨z1, z2, z3, z4, z5, z6, z7, z8, z9⟩ := blk hg hs100 e4
    refine br_le (by unfold R32; omega) ⟨fun _ => ?_, fun c => by omega⟩
    rw [iI_nat, nI_clamp (by omega), ((xb s hs100).1 e4).2.2.2]
    unfold wX6_write_b40
    refine br_lt (by unfold R32; omega) ⟨fun c => by rw [l_m1]; exact x_tell (n := 1) (by omega) (by omega) (h2 s hs hs100 e4 (Or.inl c)), fun c => ⟨vp_in_nI hs100 (by omega), ?_⟩⟩
    rw [nI_iI (sz s)]
    refine br_lt (by unfold R32; omega) ⟨fun c2 => x_firstNumber xb xz hg hs100 e4 ?_, fun c2 => by rw [l_m1]; exact x_tell (n := 1) (by omega) (by omega) (h2 s hs hs100 e4 (Or.inr (by omega)))⟩
    obtain ⟨i, hi⟩ := Int.eq_ofNat_of_zero_le (show 0 ≤ b by omega)
    rw [hi, iI_nat, nI_add]
    exact x_setNumber (numPlace hg hs100 e4 (by omega)) (by rw [← l_0]; exact h3 s i hs hs100 e4 hi (by omega))
theorem m_write (hg : Gh pg zn ow ln hd kd cl th sz zo pl) (mz : MZ zn kd cl bw τ) (mb : MB th sz zo pl τ) {a b : Int} {v : Int64} (ha : R32 a) (hb : R32 b) {Q : Int32 → SS → Prop} (h1 : ∀ n : Nat, fnd (gA τ 4) th a = -(n : Int) → 1 ≤ n → n ≤ 9 → Q (iI (fnd (gA τ 4) th a)) (ansM τ n)) (h2 : ∀ s : Nat, fnd (gA τ 4) th a = s → s < 100 → th s = true → (b < 0 ∨ sz s ≤ b) → Q (iI (-1)) (ansM τ 1)) (h3 : ∀ s i : Nat, fnd (gA τ 4) th a = s → s < 100 → th s = true → b = i → i < sz s → Q 0 (sB τ 0 (pl s + ahd (kd (zo s)) + i) v)) : wX7_write (iI a) (iI b) v τ Q := by
  unfold R32 at hb
  unfold wX7_write wX7_lookAt wX7_write_b29
  refine m_look mb ha ?_
  rcases fnd_cases (gA τ 4) th a with e | e | ⟨e0, e1, e2, e3, e4⟩
  · rw [if_pos (by omega)]
    refine ⟨fun c => absurd c (by rw [e]; decide), fun _ => ⟨fun _ => m_ansF (Or.inl e) h1, fun c => absurd c (by rw [e]; decide)⟩⟩
  · rw [if_pos (by omega)]
    refine ⟨fun c => absurd c (by rw [e]; decide), fun _ => ⟨fun _ => m_ansF (Or.inr e) h1, fun c => absurd c (by rw [e]; decide)⟩⟩
  · rw [if_neg (by omega)]
    obtain ⟨s, hs⟩ := Int.eq_ofNat_of_zero_le e2
    rw [hs] at e3 e4
    have hs100 : s < 100 := by omega
    rw [Int.toNat_natCast] at e4
    unfold R32 at ha
    have er : iI a - iI a / 100 * 100 = nI s := by rw [l_100, rem_iI e0 (by omega), ← e1, hs, iI_nat]
    obtain ⟨z1, z2, z3, z4, z5, z6, z7, z8, z9⟩ := blk hg hs100 e4
    rw [er, nI_clamp (by omega), ((mb.2 s hs100).1 e4).2.1]
    have bad : (b < 0 ∨ sz s ≤ b) → (¬ (-1 : Int32) = 0 → wX7_answer (-1) τ fun r32 σ32 => Q r32 σ32) ∧ ((-1 : Int32) = 0 → wX7_firstNumber (nI s) τ fun r22 => vp_in (r22 + iI b) 2560 ∧ wX7_answer (-1) (sB τ 0 (r22 + iI b).toNatClampNeg v) fun r32 σ32 => Q r32 σ32) := fun hc => ⟨fun _ => by rw [l_m1]; exact m_answer (n := 1) (by omega) (by omega) (h2 s hs hs100 e4 hc), fun c => absurd c (by decide)⟩
    refine ⟨fun _ => ⟨fun c => ?_, fun c => ⟨vp_in_nI hs100 (by omega), fun c2 => ?_, fun c2 => ?_⟩⟩, fun c => absurd (by decide) c⟩
    · rw [l_0, iI_lt (by omega) (by omega) (by omega) (by omega)] at c
      exact bad (Or.inl c)
    · rw [l_0, iI_lt (by omega) (by omega) (by omega) (by omega)] at c
      rw [nI_iI, iI_lt (by omega) (by omega) (by omega) (by omega)] at c2
      refine ⟨fun z => absurd rfl z, fun _ => m_firstNumber mb mz hg hs100 e4 ?_⟩
      obtain ⟨i, hi⟩ := Int.eq_ofNat_of_zero_le (show 0 ≤ b by omega)
      have hp := numPlace hg hs100 e4 (show i < sz s by omega)
      rw [hi, iI_nat, nI_add, nI_clamp (by omega)]
      refine ⟨vp_in_nI hp (by omega), ?_⟩
      rw [l_0]
      exact m_answer0 (by omega) (by unfold R32; omega) (by rw [← l_0]; exact h3 s i hs hs100 e4 hi (by omega))
    · rw [l_0, iI_lt (by omega) (by omega) (by omega) (by omega)] at c
      rw [nI_iI, iI_lt (by omega) (by omega) (by omega) (by omega)] at c2
      exact bad (Or.inr (by omega))
end WR
theorem s_write : stp_write II := by
  intro κ σx σm x1 x2 v h
  obtain ⟨a, ha, rfl⟩ := ex_iI x1
  obtain ⟨b, hb, rfl⟩ := ex_iI x2
  obtain ⟨⟨pg, zn, ow, ln, hd, kd, cl, bw, th, sz, zo, pl, hg⟩, h2, h4⟩ := id h
  obtain ⟨g1, ⟨xg, xz, xb⟩, ⟨mg, mz, mb⟩, hraw⟩ := id hg
  have ef := fnd_congr (gv := gA σx 3) (gv' := gA σm 4) th a hraw.1
  refine x_write g1 xz xb ha hb (fun n e n1 n2 => ?_) (fun s e s1 s2 c => ?_) (fun s i e s1 s2 c c2 => ?_)
  · rw [ef] at e ⊢
    exact m_write g1 mz mb ha hb (fun n' e' _ _ => ⟨rfl, by rw [show n' = n by omega]; exact h.ans n⟩) (fun s e' _ _ _ => by omega) (fun s i e' _ _ _ _ => by omega)
  · rw [ef] at e
    exact m_write g1 mz mb ha hb (fun n' e' _ _ => by omega) (fun s' e' _ _ _ => ⟨rfl, h.ans 1⟩) (fun s' i' e' _ _ c' c2' => by (have e9 : s' = s := (by omega)); subst e9; omega)
  · rw [ef] at e
    exact m_write g1 mz mb ha hb (fun n' e' _ _ => by omega) (fun s' e' _ _ c' => by (have e9 : s' = s := (by omega)); subst e9; omega) (fun s' i' e' _ _ c' c2' => by
      have e1 : s' = s := by omega
      have e2 : i' = i := by omega
      subst e1; subst e2
      exact ⟨rfl, h.num v⟩)
theorem x_read {pg zn : Nat} {ow : Nat → Int} {ln kd cl : Nat → Nat} {hd : Nat → Int} {th : Nat → Bool} {sz zo pl : Nat → Nat} {bw : Nat → Int64} {σ : SS} (hg : Gh pg zn ow ln hd kd cl th sz zo pl) (xz : XZ zn kd cl bw σ) (xb : XB ln th sz zo pl σ) {a b : Int} (ha : R32 a) (hb : R32 b) {Q : Int32 → SS → Prop} (h1 : ∀ n : Nat, fnd (gA σ 3) th a = -(n : Int) → 1 ≤ n → n ≤ 9 → Q (iI (fnd (gA σ 3) th a)) (ansX σ n)) (h2 : ∀ s : Nat, fnd (gA σ 3) th a = s → s < 100 → th s = true → (b < 0 ∨ sz s ≤ b) → Q (iI (-1)) (ansX σ 1)) (h3 : ∀ s i : Nat, fnd (gA σ 3) th a = s → s < 100 → th s = true → b = i → i < sz s → Q 0 (sL σ 0 (gB σ 0 (pl s + ahd (kd (zo s)) + i)))) : wX6_read (iI a) (iI b) σ Q := by
  unfold R32 at hb
  unfold wX6_read
  refine x_find xb (zo8 hg) ha ?_
  rw [l_0]
  rcases fnd_cases (gA σ 3) th a with e | e | ⟨e0, e1, e2, e3, e4⟩
  · refine br_le (by unfold R32; omega) ⟨fun c => by omega, fun _ => x_tellF (Or.inl e) h1⟩
  · refine br_le (by unfold R32; omega) ⟨fun c => by omega, fun _ => x_tellF (Or.inr e) h1⟩
  · obtain ⟨s, hs⟩ := Int.eq_ofNat_of_zero_le e2
    rw [hs] at e3 e4 ⊢
    have hs100 : s < 100 := by omega
    rw [Int.toNat_natCast] at e4
    obtain ⟨z1, z2, z3, z4, z5, z6, z7, z8, z9⟩ := blk hg hs100 e4
    refine br_le (by unfold R32; omega) ⟨fun _ => ?_, fun c => by omega⟩
    rw [iI_nat, nI_clamp (by omega), ((xb s hs100).1 e4).2.2.2]
    unfold wX6_read_b36
    refine br_lt (by unfold R32; omega) ⟨fun c => by rw [l_m1]; exact x_tell (n := 1) (by omega) (by omega) (h2 s hs hs100 e4 (Or.inl c)), fun c => ⟨vp_in_nI hs100 (by omega), ?_⟩⟩
    rw [nI_iI (sz s)]
    refine br_lt (by unfold R32; omega) ⟨fun c2 => x_firstNumber xb xz hg hs100 e4 ?_, fun c2 => by rw [l_m1]; exact x_tell (n := 1) (by omega) (by omega) (h2 s hs hs100 e4 (Or.inr (by omega)))⟩
    obtain ⟨i, hi⟩ := Int.eq_ofNat_of_zero_le (show 0 ≤ b by omega)
    rw [hi, iI_nat, nI_add]
    exact x_numberAt (numPlace hg hs100 e4 (by omega)) (by rw [← l_0]; exact h3 s i hs hs100 e4 hi (by omega))
theorem m_read {pg zn : Nat} {ow : Nat → Int} {ln kd cl : Nat → Nat} {hd : Nat → Int} {th : Nat → Bool} {sz zo pl : Nat → Nat} {bw : Nat → Int64} {τ : SS} (hg : Gh pg zn ow ln hd kd cl th sz zo pl) (mz : MZ zn kd cl bw τ) (mb : MB th sz zo pl τ) {a b : Int} (ha : R32 a) (hb : R32 b) {Q : Int32 → SS → Prop} (h1 : ∀ n : Nat, fnd (gA τ 4) th a = -(n : Int) → 1 ≤ n → n ≤ 9 → Q (iI (fnd (gA τ 4) th a)) (ansM τ n)) (h2 : ∀ s : Nat, fnd (gA τ 4) th a = s → s < 100 → th s = true → (b < 0 ∨ sz s ≤ b) → Q (iI (-1)) (ansM τ 1)) (h3 : ∀ s i : Nat, fnd (gA τ 4) th a = s → s < 100 → th s = true → b = i → i < sz s → Q 0 (sL τ 0 (gB τ 0 (pl s + ahd (kd (zo s)) + i)))) : wX7_read (iI a) (iI b) τ Q := by
  unfold R32 at hb
  unfold wX7_read wX7_lookAt wX7_read_b30
  refine m_look mb ha ?_
  rcases fnd_cases (gA τ 4) th a with e | e | ⟨e0, e1, e2, e3, e4⟩
  · rw [if_pos (by omega)]
    refine ⟨fun c => absurd c (by rw [e]; decide), fun _ => ⟨fun _ => m_ansF (Or.inl e) h1, fun c => absurd c (by rw [e]; decide)⟩⟩
  · rw [if_pos (by omega)]
    refine ⟨fun c => absurd c (by rw [e]; decide), fun _ => ⟨fun _ => m_ansF (Or.inr e) h1, fun c => absurd c (by rw [e]; decide)⟩⟩
  · rw [if_neg (by omega)]
    obtain ⟨s, hs⟩ := Int.eq_ofNat_of_zero_le e2
    rw [hs] at e3 e4
    have hs100 : s < 100 := by omega
    rw [Int.toNat_natCast] at e4
    unfold R32 at ha
    have er : iI a - iI a / 100 * 100 = nI s := by rw [l_100, rem_iI e0 (by omega), ← e1, hs, iI_nat]
    obtain ⟨z1, z2, z3, z4, z5, z6, z7, z8, z9⟩ := blk hg hs100 e4
    rw [er, nI_clamp (by omega), ((mb.2 s hs100).1 e4).2.1]
    have bad : (b < 0 ∨ sz s ≤ b) → (¬ (-1 : Int32) = 0 → wX7_answer (-1) τ fun r32 σ32 => Q r32 σ32) ∧ ((-1 : Int32) = 0 → wX7_firstNumber (nI s) τ fun r21 => vp_in (r21 + iI b) 2560 ∧ wX7_answer (-1) (sL τ 0 (gB τ 0 (r21 + iI b).toNatClampNeg)) fun r32 σ32 => Q r32 σ32) := fun hc => ⟨fun _ => by rw [l_m1]; exact m_answer (n := 1) (by omega) (by omega) (h2 s hs hs100 e4 hc), fun c => absurd c (by decide)⟩
    refine ⟨fun _ => ⟨fun c => ?_, fun c => ⟨vp_in_nI hs100 (by omega), fun c2 => ?_, fun c2 => ?_⟩⟩, fun c => absurd (by decide) c⟩
    · rw [l_0, iI_lt (by omega) (by omega) (by omega) (by omega)] at c
      exact bad (Or.inl c)
    · rw [l_0, iI_lt (by omega) (by omega) (by omega) (by omega)] at c
      rw [nI_iI, iI_lt (by omega) (by omega) (by omega) (by omega)] at c2
      refine ⟨fun z => absurd rfl z, fun _ => m_firstNumber mb mz hg hs100 e4 ?_⟩
      obtain ⟨i, hi⟩ := Int.eq_ofNat_of_zero_le (show 0 ≤ b by omega)
      have hp := numPlace hg hs100 e4 (show i < sz s by omega)
      rw [hi, iI_nat, nI_add, nI_clamp (by omega)]
      refine ⟨vp_in_nI hp (by omega), ?_⟩
      rw [l_0]
      exact m_answer0 (by omega) (by unfold R32; omega) (by rw [← l_0]; exact h3 s i hs hs100 e4 hi (by omega))
    · rw [l_0, iI_lt (by omega) (by omega) (by omega) (by omega)] at c
      rw [nI_iI, iI_lt (by omega) (by omega) (by omega) (by omega)] at c2
      exact bad (Or.inr (by omega))
theorem s_read : stp_read II := by
  intro κ σx σm x1 x2 h
  obtain ⟨a, ha, rfl⟩ := ex_iI x1
  obtain ⟨b, hb, rfl⟩ := ex_iI x2
  obtain ⟨⟨pg, zn, ow, ln, hd, kd, cl, bw, th, sz, zo, pl, hg⟩, h2, h4⟩ := id h
  obtain ⟨g1, ⟨xg, xz, xb⟩, ⟨mg, mz, mb⟩, hraw⟩ := id hg
  have ef := fnd_congr (gv := gA σx 3) (gv' := gA σm 4) th a hraw.1
  refine x_read g1 xz xb ha hb (fun n e n1 n2 => ?_) (fun s e s1 s2 c => ?_) (fun s i e s1 s2 c c2 => ?_)
  · rw [ef] at e ⊢
    exact m_read g1 mz mb ha hb (fun n' e' _ _ => ⟨rfl, by rw [show n' = n by omega]; exact h.ans n⟩) (fun s e' _ _ _ => by omega) (fun s i e' _ _ _ _ => by omega)
  · rw [ef] at e
    exact m_read g1 mz mb ha hb (fun n' e' _ _ => by omega) (fun s' e' _ _ _ => ⟨rfl, h.ans 1⟩) (fun s' i' e' _ _ c' c2' => by (have e9 : s' = s := (by omega)); subst e9; omega)
  · rw [ef] at e
    exact m_read g1 mz mb ha hb (fun n' e' _ _ => by omega) (fun s' e' _ _ c' => by (have e9 : s' = s := (by omega)); subst e9; omega) (fun s' i' e' _ _ c' c2' => by
      have e1 : s' = s := by omega
      have e2 : i' = i := by omega
      subst e1; subst e2
      rw [hraw.2.1 _ (numPlace g1 s1 s2 c2)]
      exact ⟨rfl, h.val _⟩)
