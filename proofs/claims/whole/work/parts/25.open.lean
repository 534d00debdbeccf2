theorem sAA_comm (σ : SS) {a b : Nat} (f g : Nat → Int32) (h : a ≠ b) : sAA (sAA σ a f) b g = sAA (sAA σ b g) a f := by
  unfold sAA
  refine congrArg (fun z => (σ.1, σ.2.1, z, σ.2.2.2)) ?_
  funext j
  unfold va_up
  dsimp only
  by_cases h1 : j = a
  · by_cases h2 : j = b
    · exact absurd (h1.symm.trans h2) h
    · rw [if_neg h2, if_pos h1, if_pos h1]
  · by_cases h2 : j = b
    · rw [if_pos h2, if_neg h1, if_pos h2]
    · rw [if_neg h2, if_neg h1, if_neg h1, if_neg h2]
theorem sA_sAA (σ : SS) (k i : Nat) (f : Nat → Int32) (x : Int32) : sA (sAA σ k f) k i x = sAA σ k (upd f i x) := by
  show sAA (sAA σ k f) k (upd (gA (sAA σ k f) k) i x) = _
  rw [gA_sAA_self, sAA_sAA]
theorem sA_sAA_ne (σ : SS) {k j : Nat} (i : Nat) (f : Nat → Int32) (x : Int32) (h : k ≠ j) : sA (sAA σ j f) k i x = sAA (sA σ k i x) j f := by
  show sAA (sAA σ j f) k (upd (gA (sAA σ j f) k) i x) = sAA (sAA σ k (upd (gA σ k) i x)) j f
  rw [gA_sAA, if_neg h, sAA_comm _ _ _ (Ne.symm h)]
theorem sB_sBB (σ : SS) (k i : Nat) (f : Nat → Int64) (x : Int64) : sB (sBB σ k f) k i x = sBB σ k (vp_updL f i x) := by
  show sBB (sBB σ k f) k (vp_updL (gB (sBB σ k f) k) i x) = _
  rw [gB_sBB_self, sBB_sBB]
theorem sB_sAA (σ : SS) (k i j : Nat) (f : Nat → Int32) (x : Int64) : sB (sAA σ j f) k i x = sAA (sB σ k i x) j f := rfl
theorem sA_sBB (σ : SS) (k i j : Nat) (f : Nat → Int64) (x : Int32) : sA (sBB σ j f) k i x = sBB (sA σ k i x) j f := rfl
theorem upd_lt {f : Nat → Int32} {n : Nat} {x : Int32} (h : ∀ j, j < n → f j = x) : ∀ j, j < n + 1 → upd f n x j = x := by
  intro j hj
  unfold upd
  by_cases e : j = n
  · rw [if_pos e]
  · rw [if_neg e]; exact h j (by omega)
theorem updL_lt {f : Nat → Int64} {n : Nat} {x : Int64} (h : ∀ j, j < n → f j = x) : ∀ j, j < n + 1 → vp_updL f n x j = x := by
  intro j hj
  unfold vp_updL
  by_cases e : j = n
  · rw [if_pos e]
  · rw [if_neg e]; exact h j (by omega)
section OPEN
variable {τ : SS} {Q : Int32 → SS → Prop} {x : Int32}
theorem m_open127 (k : ∀ f : Nat → Int32, (∀ j, j < 4 → f j = 0) → Q x (sL (sAA τ 9 f) 0 0)) : wX7_open_b127 x 0 τ Q := by
  unfold wX7_open_b127
  refine lfp_inv (fun t => ∃ (n : Nat) (f : Nat → Int32), n ≤ 4 ∧ t = (nI n, sAA τ 9 f) ∧ ∀ j, j < n → f j = 0) (fun t => 4 - t.1.toNatClampNeg) ⟨0, gA τ 9, by omega, by rw [sAA_self]; rfl, fun j h => by omega⟩ ?_
  rintro t X ⟨n, f, hn, rfl, hf⟩ hX
  refine ⟨fun c => ?_, fun c => ?_⟩
  · have : n = 4 := by
      rcases Nat.lt_or_ge n 4 with q | q
      · exact absurd c (nI_ge q (by decide))
      · omega
    subst this
    exact k f hf
  · have hlt : n < 4 := by
      rcases Nat.lt_or_ge n 4 with q | q
      · exact q
      · exact absurd (nI_le q (by omega)) c
    refine ⟨vp_in_nI hlt (by omega), ?_⟩
    refine hX _ ⟨n + 1, upd f n 0, by omega, ?_, upd_lt hf⟩ ?_
    · show (nI n + 1, sA (sAA τ 9 f) 9 (nI n).toNatClampNeg 0) = _
      rw [nI_clamp (by omega), sA_sAA, nI_1]
    · show 4 - (nI n + 1).toNatClampNeg < 4 - (nI n).toNatClampNeg
      rw [nI_1, nI_clamp (by omega), nI_clamp (by omega)]
      omega
theorem m_open94 (k : ∀ f g h : Nat → Int32, (∀ j, j < 100 → f j = 0 ∧ g j = 0) → (∀ j, j < 4 → h j = 0) → Q x (sL (sAA (sI (sAA (sAA τ 4 f) 5 g) 2 0) 9 h) 0 0)) : wX7_open_b94 x 0 τ Q := by
  unfold wX7_open_b94
  refine lfp_inv (fun t => ∃ (n : Nat) (f g : Nat → Int32), n ≤ 100 ∧ t = (nI n, sAA (sAA τ 4 f) 5 g) ∧ (∀ j, j < n → f j = 0) ∧ ∀ j, j < n → g j = 0) (fun t => 100 - t.1.toNatClampNeg) ⟨0, gA τ 4, gA τ 5, by omega, by rw [sAA_self, sAA_self]; rfl, fun j h => by omega, fun j h => by omega⟩ ?_
  rintro t X ⟨n, f, g, hn, rfl, hf, hg⟩ hX
  refine ⟨fun c => ?_, fun c => ?_⟩
  · have : n = 100 := by
      rcases Nat.lt_or_ge n 100 with q | q
      · exact absurd c (nI_ge q (by decide))
      · omega
    subst this
    exact m_open127 (fun h hh => k f g h (fun j hj => ⟨hf j hj, hg j hj⟩) hh)
  · have hlt : n < 100 := by
      rcases Nat.lt_or_ge n 100 with q | q
      · exact q
      · exact absurd (nI_le q (by omega)) c
    refine ⟨vp_in_nI hlt (by omega), vp_in_nI hlt (by omega), ?_⟩
    refine hX _ ⟨n + 1, upd f n 0, upd g n 0, by omega, ?_, upd_lt hf, upd_lt hg⟩ ?_
    · show (nI n + 1, sA (sA (sAA (sAA τ 4 f) 5 g) 4 (nI n).toNatClampNeg 0) 5 (nI n).toNatClampNeg (vp_nar .boolean 0)) = _
      rw [nI_clamp (by omega), sA_sAA_ne _ _ _ _ (by decide), sA_sAA, sA_sAA, nI_1]
      rfl
    · show 100 - (nI n + 1).toNatClampNeg < 100 - (nI n).toNatClampNeg
      rw [nI_1, nI_clamp (by omega), nI_clamp (by omega)]
      omega
/-- the reference behind open -/
def OpM (x : Int32) (τ τ' : SS) : Prop := gI τ' 0 = x ∧ gI τ' 1 = 0 ∧ gI τ' 2 = 0 ∧ (∀ k, k < 40 → gA τ' 0 k = iI (-1)) ∧ (∀ j, j < 2560 → gB τ' 0 j = 0 ∧ gA τ' 1 j = 0) ∧ (∀ s, s < 100 → gA τ' 4 s = 0 ∧ gA τ' 5 s = 0) ∧ (∀ k, k < 4 → gA τ' 9 k = 0) ∧ gL τ' 0 = 0 ∧ gA τ' 10 = gA τ 10 ∧ AgK τ τ'
def OpX (x : Int32) (σ σ' : SS) : Prop := gI σ' 0 = x ∧ gI σ' 1 = 0 ∧ (∀ k, k < 40 → gA σ' 0 k = iI (-1)) ∧ (∀ j, j < 2560 → gB σ' 0 j = 0 ∧ gA σ' 1 j = 0) ∧ (∀ s, s < 100 → gA σ' 3 s = 0 ∧ gA σ' 4 s = iI (-1)) ∧ (∀ k, k < 4 → gA σ' 8 k = 0) ∧ gL σ' 0 = 0 ∧ gA σ' 11 = gA σ 11
theorem m_open53 {τ0 : SS} {f0 : Nat → Int32} (hf0 : ∀ j, j < 40 → f0 j = -1) (hτ : τ = sAA (sI τ0 0 x) 0 f0) (k : ∀ τ', OpM x τ0 τ' → Q x τ') : wX7_open_b53 x 0 τ Q := by
  unfold wX7_open_b53
  refine lfp_inv (fun t => ∃ (n : Nat) (u : Nat → Int64) (f g : Nat → Int32), n ≤ 2560 ∧ t = (nI n, sAA (sAA (sBB τ 0 u) 1 f) 2 g) ∧ (∀ j, j < n → u j = 0) ∧ ∀ j, j < n → f j = 0) (fun t => 2560 - t.1.toNatClampNeg) ⟨0, gB τ 0, gA τ 1, gA τ 2, by omega, by rw [sBB_self, sAA_self, sAA_self]; rfl, fun j h => by omega, fun j h => by omega⟩ ?_
  rintro t X ⟨n, u, f, g, hn, rfl, hu, hf⟩ hX
  refine ⟨fun c => ?_, fun c => ?_⟩
  · have : n = 2560 := by
      rcases Nat.lt_or_ge n 2560 with q | q
      · exact absurd c (nI_ge q (by decide))
      · omega
    subst this
    subst hτ
    exact m_open94 (fun f4 f5 f9 h45 h9 => k _ ⟨rfl, rfl, rfl, fun j hj => (hf0 j hj).trans l_m1, fun j hj => ⟨hu j hj, hf j hj⟩, fun s hs => h45 s hs, h9, rfl, rfl, rfl, rfl⟩)
  · have hlt : n < 2560 := by
      rcases Nat.lt_or_ge n 2560 with q | q
      · exact q
      · exact absurd (nI_le q (by omega)) c
    refine ⟨vp_in_nI hlt (by omega), vp_in_nI hlt (by omega), vp_in_nI hlt (by omega), ?_⟩
    refine hX _ ⟨n + 1, vp_updL u n 0, upd f n 0, upd g n (-1), by omega, ?_, updL_lt hu, upd_lt hf⟩ ?_
    · show (nI n + 1, sA (sA (sB (sAA (sAA (sBB τ 0 u) 1 f) 2 g) 0 (nI n).toNatClampNeg 0) 1 (nI n).toNatClampNeg 0) 2 (nI n).toNatClampNeg (-1)) = _
      rw [nI_clamp (by omega), sB_sAA, sB_sAA, sB_sBB, sA_sAA_ne _ _ _ _ (by decide), sA_sAA, sA_sAA, nI_1]
    · show 2560 - (nI n + 1).toNatClampNeg < 2560 - (nI n).toNatClampNeg
      rw [nI_1, nI_clamp (by omega), nI_clamp (by omega)]
      omega
theorem m_open32 (k : ∀ τ', OpM x τ τ' → Q x τ') : wX7_open_b32 x 0 (sI τ 0 x) Q := by
  unfold wX7_open_b32
  refine lfp_inv (fun t => ∃ (n : Nat) (f : Nat → Int32), n ≤ 40 ∧ t = (nI n, sAA (sI τ 0 x) 0 f) ∧ ∀ j, j < n → f j = -1) (fun t => 40 - t.1.toNatClampNeg) ⟨0, gA (sI τ 0 x) 0, by omega, by rw [sAA_self]; rfl, fun j h => by omega⟩ ?_
  rintro t X ⟨n, f, hn, rfl, hf⟩ hX
  refine ⟨fun c => ?_, fun c => ?_⟩
  · have : n = 40 := by
      rcases Nat.lt_or_ge n 40 with q | q
      · exact absurd c (nI_ge q (by decide))
      · omega
    subst this
    exact m_open53 hf rfl k
  · have hlt : n < 40 := by
      rcases Nat.lt_or_ge n 40 with q | q
      · exact q
      · exact absurd (nI_le q (by omega)) c
    refine ⟨vp_in_nI hlt (by omega), ?_⟩
    refine hX _ ⟨n + 1, upd f n (-1), by omega, ?_, upd_lt hf⟩ ?_
    · show (nI n + 1, sA (sAA (sI τ 0 x) 0 f) 0 (nI n).toNatClampNeg (-1)) = _
      rw [nI_clamp (by omega), sA_sAA, nI_1]
    · show 40 - (nI n + 1).toNatClampNeg < 40 - (nI n).toNatClampNeg
      rw [nI_1, nI_clamp (by omega), nI_clamp (by omega)]
      omega
end OPEN
theorem Gh.fresh (n : Nat) (hn : n ≤ 40) (kd cl : Nat → Nat) (sz zo pl : Nat → Nat) : Gh n 0 (fun _ => -1) (fun _ => 0) (fun _ => -1) kd cl (fun _ => false) sz zo pl := by
  refine ⟨⟨⟨hn, by omega, fun k _ => Or.inl rfl, fun z hz => by omega⟩, fun j _ h => by simp at h, fun k _ h => by simp at h, fun k _ h => by simp at h, fun k _ h => by simp at h, fun j _ h => by simp at h⟩, ⟨fun s _ h => by simp at h, fun j _ h => by simp at h⟩, fun s _ h => by simp at h, ⟨fun k _ h => by simp at h, fun k _ h => by simp at h, fun j _ h => by simp at h⟩, fun j _ h => by simp at h, fun j _ h => by simp at h⟩
theorem cnt_false (n : Nat) : cnt (fun _ => false) n = 0 := by
  induction n with
  | zero => rfl
  | succ n ih => show cnt (fun _ => false) n + (if false = true then 1 else 0) = 0; rw [ih]; rfl
theorem s_open : stp_open II := by
  intro κ σx σm x1 h
  obtain ⟨a, ha, rfl⟩ := ex_iI x1
  unfold R32 at ha
  have mo : ∀ Q : Int32 → SS → Prop, (a < 0 → Q (iI (-3)) (ansM σm 3)) → (40 < a → Q (iI (-1)) (ansM σm 1)) → (0 ≤ a → a ≤ 40 → ∀ τ', OpM (iI a) σm τ' → Q (iI a) τ') → wX7_open (iI a) σm Q := by
    intro Q h1 h2 h3
    have k10 : (a < 0 ∨ 40 < a) → wX7_open_b10 (iI a) σm Q := by
      intro hc
      unfold wX7_open_b10 wX7_open_b21
      simp only [l_m1, l_m3, l_0]
      exact br_le (by unfold R32; omega) ⟨fun c => m_answer (n := 1) (by omega) (by omega) (h2 (by omega)), fun c => m_answer (n := 3) (by omega) (by omega) (h1 (by omega))⟩
    unfold wX7_open
    refine ⟨fun c => ?_, fun c => ⟨fun c2 => ?_, fun c2 => ?_⟩⟩
    · rw [l_0, iI_lt (by omega) (by omega) (by omega) (by omega)] at c; exact k10 (Or.inl c)
    · rw [l_0, iI_lt (by omega) (by omega) (by omega) (by omega)] at c
      rw [show (40 : Int32) = iI 40 from by decide, iI_le (by omega) (by omega) (by omega) (by omega)] at c2
      exact m_open32 (h3 (by omega) c2)
    · rw [show (40 : Int32) = iI 40 from by decide, iI_le (by omega) (by omega) (by omega) (by omega)] at c2; exact k10 (Or.inr (by omega))
  have new : 0 ≤ a → a ≤ 40 → ∀ σ' τ', OpX (iI a) σx σ' → OpM (iI a) σm τ' → II κ σ' τ' := by
    intro q1 q2 σ' τ' hX hM
    obtain ⟨x1, x2, x3, x4, x5, x6, x7, x8⟩ := hX
    obtain ⟨m1, m2, m3, m4, m5, m6, m7, m8, m9, m10⟩ := hM
    obtain ⟨n, rfl⟩ := Int.eq_ofNat_of_zero_le q1
    rw [iI_nat] at x1 m1
    refine ⟨⟨n, 0, fun _ => -1, fun _ => 0, fun _ => -1, fun _ => 0, fun _ => 0, fun _ => 0, fun _ => false, fun _ => 0, fun _ => 0, fun _ => 0, Gh.fresh n (by omega) _ _ _ _ _, ⟨⟨x1, fun k hk => x3 k (by omega), fun j hj => ?_⟩, ⟨x2, fun z hz => by omega⟩, fun s hs => ⟨fun e => by simp at e, fun _ => (x5 s hs).2⟩⟩, ⟨⟨m1, fun k hk => m4 k (by omega), fun j hj => ⟨(m5 j (by omega)).2, fun e => by simp at e⟩⟩, ⟨m2, fun z hz => by omega⟩, by rw [m3, cnt_false]; rfl, fun s hs => ⟨fun e => by simp at e, fun _ => (m6 s hs).2⟩⟩, fun s hs => by rw [(x5 s hs).1, (m6 s hs).1], fun j hj => by rw [(x4 j hj).1, (m5 j hj).1], fun k hk => by rw [x6 k hk, m7 k hk]⟩, ⟨fun k hk => by rw [x8, m9]; exact h.2.1.1 k hk, by rw [x7, m8]⟩, h.2.2.ag m10⟩
    rw [(x4 j (by omega)).2]
    exact l_0
  unfold wX6_open
  refine ⟨fun c => ⟨fun c2 => ?_, fun c2 => ?_⟩, fun c => ?_⟩
  · rw [l_0, iI_le (by omega) (by omega) (by omega) (by omega)] at c
    rw [show (40 : Int32) = iI 40 from by decide, iI_le (by omega) (by omega) (by omega) (by omega)] at c2
    unfold wX3_beginAnew
    intro s1 e1 s2 e2 s3 e3 s4 e4 s5 e5 s6 e6
    have hX : OpX (iI a) σx (sL s6 0 0) := by
      subst e1; subst e2; subst e3; subst e4; subst e5; subst e6
      refine ⟨rfl, rfl, fun k hk => ?_, fun j hj => ⟨?_, ?_⟩, fun s hs => ⟨?_, ?_⟩, fun k hk => ?_, rfl, rfl⟩
      · show fillN 40 (-1) _ k = _; unfold fillN; rw [if_pos hk]; exact l_m1
      · show fillN 2560 0 _ j = _; unfold fillN; rw [if_pos hj]
      · show fillN 2560 0 _ j = _; unfold fillN; rw [if_pos hj]
      · show fillN 100 0 _ s = _; unfold fillN; rw [if_pos hs]
      · show fillN 100 (-1) _ s = _; unfold fillN; rw [if_pos hs]; exact l_m1
      · show fillN 4 0 _ k = _; unfold fillN; rw [if_pos hk]
    exact mo _ (fun z => by omega) (fun z => by omega) (fun z1 z2 τ' hM => ⟨rfl, new z1 z2 _ _ hX hM⟩)
  · rw [show (40 : Int32) = iI 40 from by decide, iI_le (by omega) (by omega) (by omega) (by omega)] at c2
    rw [l_m1]
    exact x_tell (n := 1) (by omega) (by omega) (mo _ (fun z => by omega) (fun _ => ⟨rfl, h.ans 1⟩) (fun z1 z2 => by omega))
  · rw [l_0, iI_le (by omega) (by omega) (by omega) (by omega)] at c
    rw [l_m3]
    exact x_tell (n := 3) (by omega) (by omega) (mo _ (fun _ => ⟨rfl, h.ans 3⟩) (fun z => by omega) (fun z1 z2 => by omega))
theorem ii_0 : II none sX0 sZ := by
  refine ⟨⟨0, 0, fun _ => -1, fun _ => 0, fun _ => -1, fun _ => 0, fun _ => 0, fun _ => 0, fun _ => false, fun _ => 0, fun _ => 0, fun _ => 0, Gh.fresh 0 (by omega) _ _ _ _ _, ⟨⟨rfl, fun k hk => by omega, fun j hj => by omega⟩, ⟨rfl, fun z hz => by omega⟩, fun s hs => ⟨fun e => by simp at e, fun _ => ?_⟩⟩, ⟨⟨rfl, fun k hk => by omega, fun j hj => by omega⟩, ⟨rfl, fun z hz => by omega⟩, by rw [cnt_false]; rfl, fun s hs => ⟨fun e => by simp at e, fun _ => rfl⟩⟩, fun s hs => rfl, fun j hj => rfl, fun k hk => rfl⟩, ⟨fun k hk => rfl, rfl⟩, fun _ => rfl, fun σk e => by simp at e⟩
  show fillN 100 (-1) (fun _ => 0) s = _
  unfold fillN
  rw [if_pos hs]
  exact l_m1
