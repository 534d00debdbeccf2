theorem s_throwIt : stp_throwIt II := by
  intro κ σx σm x1 h
  obtain ⟨a, ha, rfl⟩ := ex_iI x1
  unfold wX6_throwIt wX6_throwIt_b9 wX7_throwIt wX7_throwIt_b18 wX7_throwIt_b28 wX7_throwIt_b34
  unfold R32 at ha
  simp only [l_4, l_3, l_m1, l_m4]
  rw [l_0]
  have hr : 0 ≤ a → a < 4 → gA σx 8 a.toNat = gA σm 9 a.toNat := by
    obtain ⟨⟨pg, zn, ow, ln, hd, kd, cl, bw, th, sz, zo, pl, g1, x1, m1, r1, r2, r3⟩, h2, h4⟩ := h
    exact fun p q => r3 _ (by omega)
  have tl : ∀ n : Nat, 1 ≤ n → n ≤ 9 → wX6_tell (iI (-(n : Int))) σx (fun r σx' => wX7_answer (iI (-(n : Int))) σm (fun r' σm' => r = r' ∧ II κ σx' σm')) := fun n h1 h2 => x_tell h1 h2 (m_answer h1 h2 ⟨rfl, h.ans n⟩)
  refine br_lt (by unfold R32; omega) ⟨fun c => ?_, fun c => br_lt (by unfold R32; omega) ⟨fun c2 => ?_, fun c2 => ?_⟩⟩
  · refine x_tell (n := 1) (by omega) (by omega) ?_
    refine br_lt (by unfold R32; omega) ⟨fun _ => br_lt (by unfold R32; omega) ⟨fun _ => m_answer (n := 1) (by omega) (by omega) ⟨rfl, h.ans 1⟩, fun z => absurd c z⟩, fun z => absurd c z⟩
  · have e := hr (by omega) c2
    rw [clamp_iI (by omega) (by omega)]
    have hv : vp_in (iI a) 4 := vp_in_iI (by omega) (by omega) (by omega)
    refine ⟨hv, fun z => ⟨hv, ?_⟩, fun z => ?_⟩
    · refine br_lt (by unfold R32; omega) ⟨fun w => absurd w c, fun _ => br_lt (by unfold R32; omega) ⟨fun w => by omega, fun _ => ⟨hv, fun _ => ⟨hv, e, h⟩, fun w => absurd (e.trans w) z⟩⟩⟩
    · refine x_tell (n := 4) (by omega) (by omega) ?_
      refine br_lt (by unfold R32; omega) ⟨fun w => absurd w c, fun _ => br_lt (by unfold R32; omega) ⟨fun w => by omega, fun _ => ⟨hv, fun w => absurd (e.symm.trans z) w, fun _ => ?_⟩⟩⟩
      refine br_lt (by unfold R32; omega) ⟨fun w => absurd w c, fun _ => br_le (by unfold R32; omega) ⟨fun _ => m_answer (n := 4) (by omega) (by omega) ⟨rfl, h.ans 4⟩, fun w => by omega⟩⟩
  · refine x_tell (n := 1) (by omega) (by omega) ?_
    refine br_lt (by unfold R32; omega) ⟨fun w => absurd w c, fun _ => br_lt (by unfold R32; omega) ⟨fun _ => br_lt (by unfold R32; omega) ⟨fun w => absurd w c, fun _ => br_le (by unfold R32; omega) ⟨fun w => by omega, fun _ => m_answer (n := 1) (by omega) (by omega) ⟨rfl, h.ans 1⟩⟩⟩, fun w => by omega⟩⟩
theorem s_found : stp_found II := by
  intro κ σx σm x1 h
  obtain ⟨a, ha, rfl⟩ := ex_iI x1
  unfold wX6_found wX6_found_b11 wX7_found wX7_found_b20
  unfold R32 at ha
  simp only [l_m1, l_m9, neg_iI, l_0]
  refine br_lt (by unfold R32; omega) ⟨fun c => ?_, fun c => br_le (by unfold R32; omega) ⟨fun c2 => ?_, fun c2 => ?_⟩⟩
  · refine x_tell (n := 1) (by omega) (by omega) ?_
    exact br_le (by unfold R32; omega) ⟨fun _ => m_answer (n := 1) (by omega) (by omega) ⟨rfl, h.ans 1⟩, fun w => by omega⟩
  · refine ⟨vp_in_iI (by omega) (by omega) (by omega), br_le (by unfold R32; omega) ⟨fun w => by omega, fun _ => br_lt (by unfold R32; omega) ⟨fun w => by omega, fun _ => ⟨vp_in_iI (by omega) (by omega) (by omega), ?_, h⟩⟩⟩⟩
    rw [clamp_iI (by omega) (by omega)]
    exact h.2.1.1 _ (by omega)
  · refine x_tell (n := 1) (by omega) (by omega) ?_
    exact br_le (by unfold R32; omega) ⟨fun w => by omega, fun _ => br_lt (by unfold R32; omega) ⟨fun _ => m_answer (n := 1) (by omega) (by omega) ⟨rfl, h.ans 1⟩, fun w => by omega⟩⟩
/-- pages that are no zone's may be free or missing: nothing else looks at that -/
def owA (pg : Nat) (ow ow' : Nat → Int) : Prop := ∀ k, k < pg → (0 ≤ ow k → ow' k = ow k) ∧ (ow k < 0 → ow' k = -1 ∨ ow' k = -2)
theorem Gh.owA {pg zn : Nat} {ow ow' : Nat → Int} {ln : Nat → Nat} {hd : Nat → Int} {kd cl : Nat → Nat} {th : Nat → Bool} {sz zo pl : Nat → Nat} (h : Gh pg zn ow ln hd kd cl th sz zo pl) (ha : owA pg ow ow') : Gh pg zn ow' ln hd kd cl th sz zo pl := by
  obtain ⟨⟨hZ, hT, hS, hB, hR⟩, hK, hSz, hSet, hJ⟩ := h
  have up : ∀ k, k < pg → 0 ≤ ow' k → 0 ≤ ow k ∧ ow' k = ow k := by
    intro k hk h0
    rcases Int.lt_or_le (ow k) 0 with q | q
    · have := (ha k hk).2 q; omega
    · exact ⟨q, (ha k hk).1 q⟩
  have same : ∀ k, k < pg → 0 ≤ ow k → ow' k = ow k := fun k hk q => (ha k hk).1 q
  have hT' : OkT pg ow' ln := by
    intro j hj hl
    obtain ⟨t1, t2, t3⟩ := hT j hj hl
    have e := same _ (by omega) t1
    refine ⟨by omega, t2, fun i h1 h2 => ?_⟩
    obtain ⟨u1, u2⟩ := t3 i h1 h2
    refine ⟨u1, ?_⟩
    rw [same _ (by omega) (by omega), u2, e]
  refine ⟨⟨⟨hZ.1, hZ.2.1, fun k hk => ?_, hZ.2.2.2⟩, hT', fun k hk h0 hz => ?_, fun k hk h0 hz => ?_, fun k hk h0 hz hp => ?_, fun j hj hl hz => ?_⟩, ⟨fun s hs ht => ?_, hK.2⟩, hSz, ⟨fun k hk h0 hz => ?_, fun k hk h0 hz => ?_, fun j hj hl hf hz => ?_⟩, fun j hj hl hf hz h6 h7 => ?_, fun j hj hl hf hz => ?_⟩
  · rcases Int.lt_or_le (ow k) 0 with q | q
    · have := (ha k hk).2 q; omega
    · rw [(ha k hk).1 q]; exact hZ.2.2.1 k hk
  · obtain ⟨u1, u2⟩ := up k hk h0; rw [u2] at hz ⊢; exact hS k hk u1 hz
  · obtain ⟨u1, u2⟩ := up k hk h0; rw [u2] at hz; exact hB k hk u1 hz
  · obtain ⟨u1, u2⟩ := up k hk h0
    rw [u2] at hz hp
    refine hR.1 k hk u1 hz ?_
    rcases hp with q | q
    · exact Or.inl q
    · rcases Nat.eq_zero_or_pos k with k0 | k0
      · exact Or.inl k0
      · right
        intro e
        exact q ((same (k - 1) (by omega) (by omega)).trans e)
  · obtain ⟨t1, t2, t3⟩ := hT j hj hl
    have e := same _ (by omega) t1
    rw [e] at hz ⊢
    rcases hR.2 j hj hl hz with ⟨r1, r2, r3⟩ | ⟨r1, r2⟩
    · left
      exact ⟨r1, (same _ (by omega) (by omega)).trans r2, r3⟩
    · right
      refine ⟨r1, fun hlt e2 => ?_⟩
      obtain ⟨u1, u2⟩ := up ((j + ln j) / 64) (by omega) (by omega)
      exact r2 hlt (by omega)
  · obtain ⟨a1, a2, a3, a4, a5⟩ := hK.1 s hs ht
    exact ⟨a1, a2, a3, a4, by rw [same _ (by omega) (by omega)]; exact a5⟩
  · obtain ⟨u1, u2⟩ := up k hk h0; rw [u2] at hz; exact hSet.1 k hk u1 hz
  · obtain ⟨u1, u2⟩ := up k hk h0; rw [u2] at hz; exact hSet.2.1 k hk u1 hz
  · obtain ⟨t1, -⟩ := hT j hj hl
    rw [same _ (by omega) t1] at hz
    exact hSet.2.2 j hj hl hf hz
  · obtain ⟨t1, -⟩ := hT j hj hl
    have e := same _ (by omega) t1
    rw [e] at hz h7
    obtain ⟨u1, u2⟩ := up ((j + ln j) / 64) (by omega) (by omega)
    exact hJ.1 j hj hl hf hz h6 (by omega)
  · obtain ⟨t1, -⟩ := hT j hj hl
    rw [same _ (by omega) t1] at hz
    exact hJ.2 j hj hl hf hz
section PAGE
variable {pg : Nat} {ow : Nat → Int} {ln : Nat → Nat} {hd : Nat → Int} {σ : SS} {Q : Int32 → SS → Prop} {a v : Int} {x2 : Int32}
theorem x_page (xg : XG pg ow ln hd σ) (hp : pg ≤ 40) (ho : ∀ k, k < pg → R32 (ow k)) (ha : R32 a) (hv : v = if x2 = 0 then -2 else -1) (h1 : a < 0 ∨ pg ≤ a → Q (iI (-1)) (ansX σ 1)) (h2 : 0 ≤ a → a < pg → 0 ≤ ow a.toNat → Q (iI (-7)) (ansX σ 7)) (h3 : 0 ≤ a → a < pg → ow a.toNat < 0 → ow a.toNat = v → Q (iI 0) σ) (h4 : 0 ≤ a → a < pg → ow a.toNat < 0 → ¬ ow a.toNat = v → Q (iI 1) (sA σ 0 a.toNat (iI v))) : wX6_page (iI a) x2 σ Q := by
  unfold R32 at ha
  have key : 0 ≤ a → a < pg → ow a.toNat < 0 → wX6_page_b50 (iI a) (iI v) σ Q := by
    intro q1 q2 q3
    have hk : a.toNat < pg := by omega
    have hr := ho _ hk
    unfold R32 at hr
    unfold wX6_page_b50
    rw [clamp_iI (by omega) (by omega), xg.2.1 _ hk]
    refine ⟨vp_in_iI (by omega) (by omega) (by omega), br_ne (by unfold R32; split at hv <;> omega) ⟨fun e => ⟨vp_in_iI (by omega) (by omega) (by omega), ?_⟩, fun e => ?_⟩⟩
    · rw [l_1]; exact h4 q1 q2 q3 e
    · rw [l_0]; exact h3 q1 q2 q3 e
  unfold wX6_page wX6_page_b15
  rw [xg.1]
  simp only [l_m1, l_m7, l_m2, nI_iI]
  rw [l_0]
  refine br_lt (by unfold R32; omega) ⟨fun c => x_tell (n := 1) (by omega) (by omega) (h1 (Or.inl c)), fun c => br_lt (by unfold R32; omega) ⟨fun c2 => ⟨vp_in_iI (by omega) (by omega) (by omega), ?_⟩, fun c2 => x_tell (n := 1) (by omega) (by omega) (h1 (Or.inr (by omega)))⟩⟩
  have hk : a.toNat < pg := by omega
  have hr := ho _ hk
  unfold R32 at hr
  rw [clamp_iI (by omega) (by omega), xg.2.1 _ hk]
  refine br_lt (by unfold R32; omega) ⟨fun c3 => ⟨fun e => ?_, fun e => ?_⟩, fun c3 => x_tell (n := 7) (by omega) (by omega) (h2 (by omega) c2 (by omega))⟩
  · rw [← l_0] at e; rw [if_pos e] at hv; rw [← hv]; exact key (by omega) c2 c3
  · rw [← l_0] at e; rw [if_neg e] at hv; rw [← hv]; exact key (by omega) c2 c3
theorem m_page (mg : MG pg ow ln hd σ) (hp : pg ≤ 40) (ho : ∀ k, k < pg → R32 (ow k)) (ha : R32 a) (hv : v = if x2 = 0 then -2 else -1) (h1 : a < 0 ∨ pg ≤ a → Q (iI (-1)) (ansM σ 1)) (h2 : 0 ≤ a → a < pg → 0 ≤ ow a.toNat → Q (iI (-7)) (ansM σ 7)) (h3 : 0 ≤ a → a < pg → ow a.toNat < 0 → ow a.toNat = v → Q (iI 0) (sA σ 0 a.toNat (iI v))) (h4 : 0 ≤ a → a < pg → ow a.toNat < 0 → ¬ ow a.toNat = v → Q (iI 1) (sA σ 0 a.toNat (iI v))) : wX7_page (iI a) x2 σ Q := by
  unfold R32 at ha
  have key : 0 ≤ a → a < pg → ow a.toNat < 0 → wX7_page_b54 (iI a) (iI v) σ Q := by
    intro q1 q2 q3
    have hk : a.toNat < pg := by omega
    have hr := ho _ hk
    unfold R32 at hr
    unfold wX7_page_b54 wX7_page_b70
    rw [clamp_iI (by omega) (by omega), mg.2.1 _ hk]
    refine ⟨vp_in_iI (by omega) (by omega) (by omega), br_ne (by unfold R32; split at hv <;> omega) ⟨fun e => ⟨vp_in_iI (by omega) (by omega) (by omega), ?_⟩, fun e => ⟨vp_in_iI (by omega) (by omega) (by omega), ?_⟩⟩⟩
    · rw [l_1]; exact h4 q1 q2 q3 e
    · rw [l_0]; exact h3 q1 q2 q3 e
  have k21 : (a < 0 ∨ pg ≤ a ∨ 0 ≤ ow a.toNat) → wX7_page_b21 (iI a) σ Q := by
    intro hc
    unfold wX7_page_b21 wX7_page_b34 wX7_page_b40
    rw [mg.1]
    simp only [l_m1, l_m7, nI_iI, l_0]
    exact br_lt (by unfold R32; omega) ⟨fun c => m_answer (n := 1) (by omega) (by omega) (h1 (Or.inl c)), fun c => br_lt (by unfold R32; omega) ⟨fun c2 => m_answer (n := 7) (by omega) (by omega) (h2 (by omega) c2 (by omega)), fun c2 => m_answer (n := 1) (by omega) (by omega) (h1 (by omega))⟩⟩
  unfold wX7_page
  rw [mg.1]
  simp only [l_m1, l_m2, nI_iI]
  rw [l_0]
  refine br_lt (by unfold R32; omega) ⟨fun c => k21 (by omega), fun c => br_le (by unfold R32; omega) ⟨fun c2 => k21 (by omega), fun c2 => ⟨vp_in_iI (by omega) (by omega) (by omega), ?_⟩⟩⟩
  have hk : a.toNat < pg := by omega
  have hr := ho _ hk
  unfold R32 at hr
  rw [clamp_iI (by omega) (by omega), mg.2.1 _ hk]
  refine br_lt (by unfold R32; omega) ⟨fun c3 => ⟨fun e => ?_, fun e => ?_⟩, fun c3 => k21 (by omega)⟩
  · rw [← l_0] at e; rw [if_pos e] at hv; rw [← hv]; exact key (by omega) (by omega) c3
  · rw [← l_0] at e; rw [if_neg e] at hv; rw [← hv]; exact key (by omega) (by omega) c3
end PAGE
theorem s_page : stp_page II := by
  intro κ σx σm x1 x2 h hb
  obtain ⟨a, ha, rfl⟩ := ex_iI x1
  obtain ⟨⟨pg, zn, ow, ln, hd, kd, cl, bw, th, sz, zo, pl, hg⟩, h2, h4⟩ := id h
  obtain ⟨g1, ⟨xg, xz, xb⟩, ⟨mg, mz, mb⟩, hraw⟩ := id hg
  have hp : pg ≤ 40 := g1.1.1.1
  have hzn : zn ≤ 8 := g1.1.1.2.1
  have ho : ∀ k, k < pg → R32 (ow k) := fun k hk => by have := g1.1.1.2.2.1 k hk; unfold R32; omega
  obtain ⟨v, hv⟩ : ∃ v : Int, v = if x2 = 0 then -2 else -1 := ⟨_, rfl⟩
  have hv2 : v = -1 ∨ v = -2 := by split at hv <;> omega
  have new : 0 ≤ a → a < pg → ow a.toNat < 0 → ∀ σx' : SS, AgX σx σx' ∨ σx' = sA σx 0 a.toNat (iI v) → (AgX σx σx' → ow a.toNat = v) → RV σx' σm → II κ σx' (sA σm 0 a.toNat (iI v)) := by
    intro q1 q2 q3 σx' hs hs2 hrv
    refine ⟨⟨pg, zn, fun k => if k = a.toNat then v else ow k, ln, hd, kd, cl, bw, th, sz, zo, pl, ?_⟩, hrv, h4.ag ⟨rfl, rfl⟩⟩
    have hgh : Gh pg zn (fun k => if k = a.toNat then v else ow k) ln hd kd cl th sz zo pl := g1.owA (fun k hk2 => by
      by_cases e2 : k = a.toNat
      · simp only [e2, if_pos]; omega
      · have := g1.1.1.2.2.1 k hk2
        exact ⟨fun _ => if_neg e2, fun q => by show (if k = a.toNat then v else ow k) = -1 ∨ (if k = a.toNat then v else ow k) = -2; rw [if_neg e2]; omega⟩)
    have hm : ∀ k, k < pg → gA (sA σm 0 a.toNat (iI v)) 0 k = iI (if k = a.toNat then v else ow k) := by
      intro k hk2
      rw [gA_sA]; unfold upd
      by_cases e2 : k = a.toNat
      · rw [if_pos e2, if_pos e2]
      · rw [if_neg e2, if_neg e2]; exact mg.2.1 k hk2
    rcases hs with hs | rfl
    · have e := hs2 hs
      have e3 : (fun k => if k = a.toNat then v else ow k) = ow := by
        funext k
        by_cases e2 : k = a.toNat
        · rw [if_pos e2, e2, e]
        · rw [if_neg e2]
      have r := RSg.ag (τ' := σm) hg hs (AgM.rf _)
      rw [e3]
      refine ⟨g1, r.2.1, ⟨⟨mg.1, fun k hk => ?_, mg.2.2⟩, mz, mb⟩, r.2.2.2⟩
      rw [hm k hk]
      by_cases e2 : k = a.toNat
      · rw [if_pos e2, e2, e]
      · rw [if_neg e2]
    · refine ⟨hgh, ⟨⟨xg.1, fun k hk2 => ?_, xg.2.2⟩, xz, xb⟩, ⟨⟨mg.1, hm, mg.2.2⟩, mz, mb⟩, hraw⟩
      rw [gA_sA]; unfold upd
      by_cases e2 : k = a.toNat
      · simp only [if_pos e2]
      · simp only [if_neg e2]; exact xg.2.1 k hk2
  refine x_page xg hp ho ha hv (fun c => ?_) (fun q1 q2 q3 => ?_) (fun q1 q2 q3 q4 => ?_) (fun q1 q2 q3 q4 => ?_)
  · exact m_page mg hp ho ha hv (fun _ => ⟨rfl, h.ans 1⟩) (fun z1 z2 z3 => by omega) (fun z1 z2 z3 z4 => by omega) (fun z1 z2 z3 z4 => by omega)
  · exact m_page mg hp ho ha hv (fun z => by omega) (fun z1 z2 z3 => ⟨rfl, h.ans 7⟩) (fun z1 z2 z3 z4 => by omega) (fun z1 z2 z3 z4 => by omega)
  · exact m_page mg hp ho ha hv (fun z => by omega) (fun z1 z2 z3 => by omega) (fun z1 z2 z3 z4 => ⟨rfl, new q1 q2 q3 σx (Or.inl (AgX.rf _)) (fun _ => q4) h2⟩) (fun z1 z2 z3 z4 => by omega)
  · exact m_page mg hp ho ha hv (fun z => by omega) (fun z1 z2 z3 => by omega) (fun z1 z2 z3 z4 => by omega) (fun z1 z2 z3 z4 => ⟨rfl, new q1 q2 q3 _ (Or.inr rfl) (fun hh => by
      have := congrFun (hh.2.1 0 (by omega)) a.toNat
      rw [gA_sA] at this
      unfold upd at this
      rw [if_pos rfl, xg.2.1 _ (by omega)] at this
      have hr := ho a.toNat (by omega)
      unfold R32 at hr
      exact ((iI_eq (by omega) (by omega) hr.1 hr.2).mp this).symm) ⟨h2.1, h2.2⟩⟩)
/-- a new zone -/
theorem Gh.zone {pg zn : Nat} {ow : Nat → Int} {ln : Nat → Nat} {hd : Nat → Int} {kd cl kd' cl' : Nat → Nat} {th : Nat → Bool} {sz zo pl : Nat → Nat} (h : Gh pg zn ow ln hd kd cl th sz zo pl) (hz : zn < 8) (hs : ∀ z, z < zn → kd' z = kd z ∧ cl' z = cl z) (hn : kd' zn ≤ 5 ∧ (kd' zn = 0 → 1 ≤ cl' zn ∧ cl' zn ≤ 32)) : Gh pg (zn + 1) ow ln hd kd' cl' th sz zo pl := by
  obtain ⟨⟨hZ, hT, hS, hB, hR⟩, hK, hSz, hSet, hJ⟩ := h
  have kk : ∀ k, k < pg → 0 ≤ ow k → kz kd' (ow k) = kz kd (ow k) ∧ cl' (ow k).toNat = cl (ow k).toNat := by
    intro k hk h0
    have := hZ.2.2.1 k hk
    obtain ⟨e1, e2⟩ := hs (ow k).toNat (by omega)
    exact ⟨e1, e2⟩
  have kj : ∀ j, j < 64 * pg → 0 < ln j → kz kd' (ow (j / 64)) = kz kd (ow (j / 64)) := fun j hj hl => (kk _ (by omega) (hT j hj hl).1).1
  refine ⟨⟨⟨hZ.1, by omega, fun k hk => ?_, fun z hz2 => ?_⟩, hT, fun k hk h0 => ?_, fun k hk h0 => ?_, fun k hk h0 => ?_, fun j hj hl => ?_⟩, ⟨fun s hs2 ht => ?_, hK.2⟩, fun s hs2 ht => ?_, ⟨fun k hk h0 => ?_, fun k hk h0 => ?_, fun j hj hl => ?_⟩, fun j hj hl => ?_, fun j hj hl => ?_⟩
  · have := hZ.2.2.1 k hk; omega
  · rcases Nat.lt_or_ge z zn with q | q
    · rw [(hs z q).1, (hs z q).2]; exact hZ.2.2.2 z q
    · rw [show z = zn by omega]; exact hn
  · rw [(kk k hk h0).1, (kk k hk h0).2]; exact hS k hk h0
  · rw [(kk k hk h0).1]; exact hB k hk h0
  · rw [(kk k hk h0).1]; exact hR.1 k hk h0
  · rw [kj j hj hl]; exact hR.2 j hj hl
  · obtain ⟨a1, a2⟩ := hK.1 s hs2 ht; exact ⟨by omega, a2⟩
  · have a1 := (hK.1 s hs2 ht).1
    rw [(hs _ a1).1, (hs _ a1).2]; exact hSz s hs2 ht
  · rw [(kk k hk h0).1]; exact hSet.1 k hk h0
  · rw [(kk k hk h0).1]; exact hSet.2.1 k hk h0
  · rw [kj j hj hl]; exact hSet.2.2 j hj hl
  · rw [kj j hj hl]; exact hJ.1 j hj hl
  · rw [kj j hj hl]; exact hJ.2 j hj hl
theorem gB_sB (σ : SS) (k i : Nat) (x : Int64) : gB (sB σ k i x) k = vp_updL (gB σ k) i x := by
  show (if k = k then _ else gB σ k) = _
  rw [if_pos rfl]
theorem gB_sB_ne (σ : SS) {k j : Nat} (i : Nat) (x : Int64) (h : k ≠ j) : gB (sB σ j i x) k = gB σ k := by
  show (if k = j then _ else gB σ k) = _
  rw [if_neg h]
def zoneX (σ : SS) (zn : Nat) (a : Int) (x : Int64) : SS := sI (sB (sA σ 2 zn (iI a)) 1 zn x) 1 (nI (zn + 1))
def zoneM (τ : SS) (zn : Nat) (a : Int) (x : Int64) : SS := sI (sB (sA τ 3 zn (iI a)) 1 zn x) 1 (nI (zn + 1))
/-- a kind and a class as they may be -/
def okZone (a : Int) (x : Int64) : Prop := 0 ≤ a ∧ a ≤ 5 ∧ (a = 0 → ¬ x < 1 ∧ x ≤ 32)
section ZONE
variable {zn : Nat} {kd cl : Nat → Nat} {bw : Nat → Int64} {σ : SS} {Q : Int32 → SS → Prop} {a : Int} {x : Int64}
theorem x_zone (xz : XZ zn kd cl bw σ) (hz : zn ≤ 8) (ha : R32 a) (h1 : a < 0 ∨ 5 < a → Q (iI (-9)) (ansX σ 9)) (h2 : a = 0 → ¬ (¬ x < 1 ∧ x ≤ 32) → Q (iI (-1)) (ansX σ 1)) (h3 : okZone a x → zn = 8 → Q (iI (-6)) (ansX σ 6)) (h4 : okZone a x → zn < 8 → Q (nI zn) (zoneX σ zn a x)) : wX6_zone (iI a) x σ Q := by
  unfold R32 at ha
  have k40 : okZone a x → wX6_zone_b40 (iI a) x σ Q := by
    intro ok
    unfold wX6_zone_b40 wX3_addZone
    rw [xz.1]
    refine ⟨fun c => ?_, fun c => ?_⟩
    · have hlt : zn < 8 := by
        rcases Nat.lt_or_ge zn 8 with q | q
        · exact q
        · rw [show zn = 8 by omega] at c; exact absurd c (by decide)
      have hv : vp_in (nI zn) 8 := vp_in_nI hlt (by omega)
      rw [nI_clamp (by omega)]
      refine ⟨hv, hv, fun σ29 e => ?_⟩
      have e2 : σ29 = zoneX σ zn a x := by
        rw [e, show gI (sB (sA σ 2 zn (iI a)) 1 zn x) 1 = gI σ 1 from rfl, xz.1, nI_1]
        rfl
      rw [e2]
      exact h4 ok hlt
    · have hlt : zn = 8 := by
        rcases Nat.lt_or_ge zn 8 with q | q
        · exact absurd (nI_lt q (by omega)) c
        · omega
      rw [l_m6]
      exact x_tell (n := 6) (by omega) (by omega) (h3 ok hlt)
  unfold wX6_zone wX6_zone_b34 wX6_zone_b9
  simp only [l_m1, l_m9, l_5]
  refine ⟨fun c => ?_, fun c => ⟨fun c2 => ⟨fun c3 => ?_, fun c3 => ⟨fun c4 => ?_, fun c4 => ⟨fun c5 => ?_, fun c5 => ?_⟩⟩⟩, fun c2 => ?_⟩⟩
  · rw [l_0, iI_lt (by omega) (by omega) (by omega) (by omega)] at c
    exact x_tell (n := 9) (by omega) (by omega) (h1 (Or.inl c))
  · rw [l_0, iI_lt (by omega) (by omega) (by omega) (by omega)] at c
    rw [iI_le (by omega) (by omega) (by omega) (by omega)] at c2
    rw [l_0, iI_eq (by omega) (by omega) (by omega) (by omega)] at c3
    exact k40 ⟨by omega, c2, fun z => absurd z c3⟩
  · rw [l_0, iI_eq (by omega) (by omega) (by omega) (by omega)] at c3
    rw [lg_cmp_lt] at c4
    exact x_tell (n := 1) (by omega) (by omega) (h2 c3 (fun z => z.1 c4))
  · rw [l_0, iI_eq (by omega) (by omega) (by omega) (by omega)] at c3
    rw [lg_cmp_lt] at c4
    rw [lg_cmp_le] at c5
    exact k40 ⟨by omega, by omega, fun _ => ⟨c4, c5⟩⟩
  · rw [l_0, iI_eq (by omega) (by omega) (by omega) (by omega)] at c3
    rw [lg_cmp_le] at c5
    exact x_tell (n := 1) (by omega) (by omega) (h2 c3 (fun z => c5 z.2))
  · rw [iI_le (by omega) (by omega) (by omega) (by omega)] at c2
    exact x_tell (n := 9) (by omega) (by omega) (h1 (Or.inr (by omega)))
theorem m_zone (mz : MZ zn kd cl bw σ) (hz : zn ≤ 8) (ha : R32 a) (h1 : a < 0 ∨ 5 < a → Q (iI (-9)) (ansM σ 9)) (h2 : a = 0 → ¬ (¬ x < 1 ∧ x ≤ 32) → Q (iI (-1)) (ansM σ 1)) (h3 : okZone a x → zn = 8 → Q (iI (-6)) (ansM σ 6)) (h4 : okZone a x → zn < 8 → Q (nI zn) (zoneM σ zn a x)) : wX7_zone (iI a) x σ Q := by
  unfold R32 at ha
  have k40 : okZone a x → wX7_zone_b40 (iI a) x σ Q := by
    intro ok
    unfold wX7_zone_b40
    rw [show gI (sA σ 3 (gI σ 1).toNatClampNeg (iI a)) 1 = gI σ 1 from rfl, mz.1]
    refine ⟨fun c => ?_, fun c => ?_⟩
    · have hlt : zn < 8 := by
        rcases Nat.lt_or_ge zn 8 with q | q
        · exact q
        · rw [show zn = 8 by omega] at c; exact absurd rfl c
      have hv : vp_in (nI zn) 8 := vp_in_nI hlt (by omega)
      rw [nI_clamp (by omega)]
      refine ⟨hv, hv, fun σ83 e => ?_⟩
      have e2 : σ83 = zoneM σ zn a x := by
        rw [e, show gI (sB (sA σ 3 zn (iI a)) 1 zn x) 1 = gI σ 1 from rfl, mz.1, nI_1]
        rfl
      rw [e2, show gI (zoneM σ zn a x) 1 = nI (zn + 1) from rfl, nI_pred]
      exact h4 ok hlt
    · have hlt : zn = 8 := (nI_eq (by omega) (by omega)).mp (show nI zn = nI 8 from c)
      rw [l_m6]
      exact m_answer (n := 6) (by omega) (by omega) (h3 ok hlt)
  unfold wX7_zone wX7_zone_b34 wX7_zone_b9
  simp only [l_m1, l_m9, l_5]
  refine ⟨fun c => ?_, fun c => ⟨fun c2 => ⟨fun c3 => ?_, fun c3 => ⟨fun c4 => ?_, fun c4 => ⟨fun c5 => ?_, fun c5 => ?_⟩⟩⟩, fun c2 => ?_⟩⟩
  · rw [l_0, iI_lt (by omega) (by omega) (by omega) (by omega)] at c
    exact m_answer (n := 9) (by omega) (by omega) (h1 (Or.inl c))
  · rw [l_0, iI_lt (by omega) (by omega) (by omega) (by omega)] at c
    rw [iI_le (by omega) (by omega) (by omega) (by omega)] at c2
    rw [l_0, iI_eq (by omega) (by omega) (by omega) (by omega)] at c3
    exact k40 ⟨by omega, c2, fun z => absurd z c3⟩
  · rw [l_0, iI_eq (by omega) (by omega) (by omega) (by omega)] at c3
    rw [lg_cmp_lt] at c4
    exact m_answer (n := 1) (by omega) (by omega) (h2 c3 (fun z => z.1 c4))
  · rw [l_0, iI_eq (by omega) (by omega) (by omega) (by omega)] at c3
    rw [lg_cmp_lt] at c4
    rw [lg_cmp_le] at c5
    exact k40 ⟨by omega, by omega, fun _ => ⟨c4, c5⟩⟩
  · rw [l_0, iI_eq (by omega) (by omega) (by omega) (by omega)] at c3
    rw [lg_cmp_le] at c5
    exact m_answer (n := 1) (by omega) (by omega) (h2 c3 (fun z => c5 z.2))
  · rw [iI_le (by omega) (by omega) (by omega) (by omega)] at c2
    exact m_answer (n := 9) (by omega) (by omega) (h1 (Or.inr (by omega)))
end ZONE
theorem cl_of {x : Int64} (h1 : ¬ x < 1) (h2 : x ≤ 32) : ∃ c, 1 ≤ c ∧ c ≤ 32 ∧ x = lN c := by
  have h0 : ¬ x < 0 := fun z => h1 (Int64.lt_trans z (by decide))
  obtain ⟨k, hk, rfl⟩ := pk_lOf h0
  refine ⟨k, ?_, ?_, rfl⟩
  · rcases Nat.eq_zero_or_pos k with q | q
    · subst q; exact absurd (by decide) h1
    · exact q
  · exact (pk_lLE hk (by decide)).mp (show lN k ≤ lN 32 from h2)
theorem s_zone : stp_zone II := by
  intro κ σx σm x1 x h
  obtain ⟨a, ha, rfl⟩ := ex_iI x1
  obtain ⟨⟨pg, zn, ow, ln, hd, kd, cl, bw, th, sz, zo, pl, hg⟩, h2, h4⟩ := id h
  obtain ⟨g1, ⟨xg, xz, xb⟩, ⟨mg, mz, mb⟩, hraw⟩ := id hg
  have hzn : zn ≤ 8 := g1.1.1.2.1
  have new : okZone a x → zn < 8 → II κ (zoneX σx zn a x) (zoneM σm zn a x) := by
    intro ⟨o1, o2, o3⟩ hlt
    obtain ⟨c, hc⟩ : ∃ c : Nat, a = 0 → 1 ≤ c ∧ c ≤ 32 ∧ x = lN c := by
      by_cases e : a = 0
      · obtain ⟨c, e1, e2, e3⟩ := cl_of (o3 e).1 (o3 e).2
        exact ⟨c, fun _ => ⟨e1, e2, e3⟩⟩
      · exact ⟨0, fun z => absurd z e⟩
    obtain ⟨n, rfl⟩ := Int.eq_ofNat_of_zero_le o1
    refine ⟨⟨pg, zn + 1, ow, ln, hd, fun z => if z = zn then n else kd z, fun z => if z = zn then c else cl z, fun z => if z = zn then x else bw z, th, sz, zo, pl, g1.zone hlt (fun z hz => ?_) ?_, ⟨⟨xg.1, xg.2.1, xg.2.2⟩, ⟨rfl, fun z hz => ?_⟩, xb⟩, ⟨⟨mg.1, mg.2.1, mg.2.2⟩, ⟨rfl, fun z hz => ?_⟩, mb⟩, hraw⟩, h2, h4.ag ⟨rfl, rfl⟩⟩
    · simp only [if_neg (show ¬ z = zn by omega)]; exact ⟨trivial, trivial⟩
    · simp only [if_pos]
      exact ⟨by omega, fun e => ⟨(hc (by omega)).1, (hc (by omega)).2.1⟩⟩
    · have e1 : gA (zoneX σx zn n x) 2 z = upd (gA σx 2) zn (iI n) z := rfl
      have e2 : gB (zoneX σx zn n x) 1 z = vp_updL (gB σx 1) zn x z := rfl
      rw [e1, e2]
      unfold upd vp_updL
      by_cases e : z = zn
      · simp only [if_pos e]
        exact ⟨iI_nat n, trivial, fun q => (hc (by omega)).2.2⟩
      · simp only [if_neg e]
        exact xz.2 z (by omega)
    · have e1 : gA (zoneM σm zn n x) 3 z = upd (gA σm 3) zn (iI n) z := rfl
      have e2 : gB (zoneM σm zn n x) 1 z = vp_updL (gB σm 1) zn x z := rfl
      rw [e1, e2]
      unfold upd vp_updL
      by_cases e : z = zn
      · simp only [if_pos e]
        exact ⟨iI_nat n, trivial, fun q => (hc (by omega)).2.2⟩
      · simp only [if_neg e]
        exact mz.2 z (by omega)
  refine x_zone xz hzn ha (fun c => ?_) (fun c c2 => ?_) (fun c c2 => ?_) (fun c c2 => ?_)
  · exact m_zone mz hzn ha (fun _ => ⟨rfl, h.ans 9⟩) (fun z _ => by omega) (fun z _ => by have := z.1; have := z.2.1; omega) (fun z _ => by have := z.1; have := z.2.1; omega)
  · exact m_zone mz hzn ha (fun z => by omega) (fun _ _ => ⟨rfl, h.ans 1⟩) (fun z _ => absurd (z.2.2 c) c2) (fun z _ => absurd (z.2.2 c) c2)
  · exact m_zone mz hzn ha (fun z => by have := c.1; have := c.2.1; omega) (fun z z2 => absurd (c.2.2 z) z2) (fun _ _ => ⟨rfl, h.ans 6⟩) (fun _ z => by omega)
  · exact m_zone mz hzn ha (fun z => by have := c.1; have := c.2.1; omega) (fun z z2 => absurd (c.2.2 z) z2) (fun _ z => by omega) (fun _ _ => ⟨rfl, new c c2⟩)
