/-! ===== the map as a list: place, length, kind, and the walk's point ===== -/
def acc (w : Nat) : Nat → List (Nat × Nat) → List (Nat × Nat × Nat × Nat)
  | _, [] => []
  | p, q :: L => (p, q.2, q.1, w) :: acc w (p + q.2) L
def sumL : List (Nat × Nat) → Nat
  | [] => 0
  | q :: L => q.2 + sumL L
theorem acc_len (w : Nat) : ∀ (L : List (Nat × Nat)) (p : Nat), (acc w p L).length = L.length := by
  intro L
  induction L with
  | nil => intro p; rfl
  | cons q L ih => intro p; show (acc w (p + q.2) L).length + 1 = L.length + 1; rw [ih]
theorem acc_get (w : Nat) : ∀ (L : List (Nat × Nat)) (p k : Nat) (q : Nat × Nat), L[k]? = some q → (acc w p L)[k]? = some (p + sumL (L.take k), q.2, q.1, w) := by
  intro L
  induction L with
  | nil => intro p k q h; simp at h
  | cons a L ih =>
    intro p k q h
    cases k with
    | zero =>
      have : a = q := by simpa using h
      subst this
      rfl
    | succ k =>
      have h2 : L[k]? = some q := by simpa using h
      have := ih (p + a.2) k q h2
      show (acc w (p + a.2) L)[k]? = _
      rw [this, List.take_succ_cons]
      show some (p + a.2 + sumL (L.take k), _) = some (p + (a.2 + sumL (L.take k)), _)
      rw [Nat.add_assoc]
theorem acc_in (w : Nat) : ∀ (L : List (Nat × Nat)) (p : Nat) (e : Nat × Nat × Nat × Nat), e ∈ acc w p L → p ≤ e.1 ∧ e.1 + e.2.1 ≤ p + sumL L ∧ e.2.2.2 = w := by
  intro L
  induction L with
  | nil => intro p e h; exact absurd h (by simp [acc])
  | cons a L ih =>
    intro p e h
    have h' : e ∈ (p, a.2, a.1, w) :: acc w (p + a.2) L := h
    rw [List.mem_cons] at h'
    show p ≤ e.1 ∧ e.1 + e.2.1 ≤ p + (a.2 + sumL L) ∧ e.2.2.2 = w
    rcases h' with rfl | h'
    · exact ⟨Nat.le_refl _, by show p + a.2 ≤ _; omega, rfl⟩
    · obtain ⟨h1, h2, h3⟩ := ih _ _ h'
      exact ⟨by omega, by omega, h3⟩
theorem sum_take : ∀ (L : List (Nat × Nat)) (k : Nat) (q : Nat × Nat), L[k]? = some q → sumL (L.take (k + 1)) = sumL (L.take k) + q.2 ∧ sumL (L.take k) + q.2 ≤ sumL L := by
  intro L
  induction L with
  | nil => intro k q h; simp at h
  | cons a L ih =>
    intro k q h
    cases k with
    | zero =>
      have : a = q := by simpa using h
      subst this
      rw [List.take_succ_cons, List.take_zero, List.take_zero]
      show a.2 + 0 = 0 + a.2 ∧ 0 + a.2 ≤ a.2 + sumL L
      omega
    | succ k =>
      have h2 : L[k]? = some q := by simpa using h
      have := ih k q h2
      rw [List.take_succ_cons, List.take_succ_cons]
      show a.2 + sumL (L.take (k + 1)) = a.2 + sumL (L.take k) + q.2 ∧ a.2 + sumL (L.take k) + q.2 ≤ a.2 + sumL L
      omega
section WALK
variable (ow : Nat → Int) (ln : Nat → Nat) (hd : Nat → Int) (kd sz : Nat → Nat)
def ents (p : Nat) : List (Nat × Nat × Nat × Nat) := acc p p (pts ow ln hd kd sz p)
def wkf (m : Nat) : Nat → Nat → List (Nat × Nat × Nat × Nat)
  | 0, _ => []
  | f + 1, p => if p < m then ents ow ln hd kd sz p ++ wkf m f (max (p + 1) (eo ow ln p)) else []
/-- the map from a place on -/
def wk (m p : Nat) : List (Nat × Nat × Nat × Nat) := wkf ow ln hd kd sz m (m - p) p
theorem wkf_ir (m : Nat) : ∀ (f g p : Nat), m - p ≤ f → m - p ≤ g → wkf ow ln hd kd sz m f p = wkf ow ln hd kd sz m g p := by
  intro f
  induction f with
  | zero =>
    intro g p h1 h2
    cases g with
    | zero => rfl
    | succ g => show [] = (if p < m then _ else _); rw [if_neg (by omega)]
  | succ f ih =>
    intro g p h1 h2
    cases g with
    | zero => show (if p < m then _ else _) = []; rw [if_neg (by omega)]
    | succ g =>
      show (if p < m then _ else _) = (if p < m then _ else _)
      by_cases h : p < m
      · rw [if_pos h, if_pos h, ih g (max (p + 1) (eo ow ln p)) (by omega) (by omega)]
      · rw [if_neg h, if_neg h]
theorem wk_step {m p : Nat} (h : p < m) (he : p < eo ow ln p) : wk ow ln hd kd sz m p = ents ow ln hd kd sz p ++ wk ow ln hd kd sz m (eo ow ln p) := by
  unfold wk
  rw [show m - p = (m - p - 1) + 1 by omega]
  show (if p < m then _ else _) = _
  rw [if_pos h, show max (p + 1) (eo ow ln p) = eo ow ln p by omega, wkf_ir ow ln hd kd sz m (m - p - 1) (m - eo ow ln p) _ (by omega) (by omega)]
theorem wk_end (m : Nat) : wk ow ln hd kd sz m m = [] := by
  unfold wk
  rw [Nat.sub_self]
  rfl
end WALK
theorem pts_sum {pg zn : Nat} {ow : Nat → Int} {ln kd cl : Nat → Nat} {hd : Nat → Int} {th : Nat → Bool} {sz zo pl : Nat → Nat} (hg : Gh pg zn ow ln hd kd cl th sz zo pl) {p : Nat} (hb : Bd pg ow ln kd cl p) (hp : p < 64 * pg) : sumL (pts ow ln hd kd sz p) = eo ow ln p - p := by
  obtain ⟨hT0, hK, hSz, hSet, hJ⟩ := id hg
  obtain ⟨e1, -, -, -⟩ := eoBd hT0 hb hp
  unfold pts
  by_cases h1 : ow (p / 64) < 0
  · rw [if_pos h1]
    show 64 * (p / 64) + 64 - p + 0 = _
    unfold eo
    rw [if_pos h1]
    rfl
  · rw [if_neg h1]
    by_cases h2 : ln p = 0
    · rw [if_pos h2]
      rfl
    · rw [if_neg h2]
      have he : eo ow ln p - p = ln p := by unfold eo; rw [if_neg h1, if_pos (by omega)]; omega
      rw [he]
      by_cases h3 : kz kd (ow (p / 64)) < 2
      · rw [if_pos h3]
        rfl
      · rw [if_neg h3]
        have hfil : ∀ M : List (Nat × Nat), sumL (M.filter (fun q => decide (0 < q.2))) = sumL M := by
          intro M
          induction M with
          | nil => rfl
          | cons a M ih =>
            rw [List.filter_cons]
            by_cases ha : 0 < a.2
            · rw [if_pos (by simpa using ha)]
              show a.2 + sumL (M.filter (fun q => decide (0 < q.2))) = a.2 + sumL M
              rw [ih]
            · rw [if_neg (by simpa using ha), ih]
              show sumL M = a.2 + sumL M
              omega
        show 1 + sumL _ = _
        rw [hfil]
        rcases hK.2 p hp (by omega) with w | ⟨w1, w2, w3, w4⟩
        · rw [if_pos (by omega)]
          show 1 + (ln p - 1 + 0) = ln p
          omega
        · rw [if_neg (by omega)]
          obtain ⟨z1, z2, z3, z4, z5, z6, z7, z8, z9⟩ := blk hg (s := (hd p).toNat) (by omega) w3
          have ez : ow (p / 64) = zo (hd p).toNat := by have := (hK.1 _ (by omega) w3).2.2.2.2; rw [w4] at this; exact this
          have ekz : kz kd (ow (p / 64)) = kd (zo (hd p).toNat) := by unfold kz; rw [ez, Int.toNat_natCast]
          rw [ekz] at h3 ⊢
          have z10 := z9 (by omega)
          rw [w4] at z10
          by_cases h5 : kd (zo (hd p).toNat) = 5
          · rw [if_pos h5] at z10 ⊢
            show 1 + (1 + (sz (hd p).toNat + (1 + 0))) = _
            omega
          · rw [if_neg h5] at z10 ⊢
            show 1 + (sz (hd p).toNat + 0) = _
            omega
/-! the search in it -/
def sr (i q : Int) : Nat → List (Nat × Nat × Nat × Nat) → Option (Nat × Nat × Nat × Nat × Nat)
  | _, [] => none
  | k, e :: L => if (k : Int) = i ∨ ((e.1 : Int) ≤ q ∧ q < (e.1 : Int) + e.2.1) then some (k, e) else sr i q (k + 1) L
theorem sr_app (i q : Int) : ∀ (L M : List (Nat × Nat × Nat × Nat)) (k : Nat), sr i q k (L ++ M) = (sr i q k L).or (sr i q (k + L.length) M) := by
  intro L
  induction L with
  | nil => intro M k; rfl
  | cons e L ih =>
    intro M k
    show (if _ then _ else _) = Option.or (if _ then _ else _) _
    by_cases h : (k : Int) = i ∨ ((e.1 : Int) ≤ q ∧ q < (e.1 : Int) + e.2.1)
    · rw [if_pos h, if_pos h]; rfl
    · rw [if_neg h, if_neg h, List.append_eq, ih M (k + 1), List.length_cons, show k + (L.length + 1) = k + 1 + L.length by omega]
theorem sr_no (i q : Int) (hi : i < 0) : ∀ (L : List (Nat × Nat × Nat × Nat)) (k : Nat), (∀ e, e ∈ L → ¬ ((e.1 : Int) ≤ q ∧ q < (e.1 : Int) + e.2.1)) → sr i q k L = none := by
  intro L
  induction L with
  | nil => intro k h; rfl
  | cons e L ih =>
    intro k h
    show (if _ then _ else _) = _
    rw [if_neg (by rintro (w | w); · omega
                   · exact h e (by simp) w), ih (k + 1) (fun x hx => h x (by simp [hx]))]
theorem sr_ix : ∀ (L : List (Nat × Nat × Nat × Nat)) (i k : Nat), k ≤ i → sr i (-1) k L = (L[i - k]?).map (fun e => (i, e)) := by
  intro L
  induction L with
  | nil => intro i k h; rfl
  | cons e L ih =>
    intro i k h
    show (if _ then _ else _) = _
    by_cases hk : k = i
    · subst hk
      rw [if_pos (Or.inl rfl), Nat.sub_self]
      rfl
    · rw [if_neg (by rintro (w | w) <;> omega), ih i (k + 1) (by omega), show i - k = i - (k + 1) + 1 by omega]
      rfl
theorem sr_acc (w q : Nat) : ∀ (L : List (Nat × Nat)) (p k j : Nat) (x : Nat × Nat), L[j]? = some x → p + sumL (L.take j) ≤ q → q < p + sumL (L.take j) + x.2 → sr (-1) q k (acc w p L) = some (k + j, p + sumL (L.take j), x.2, x.1, w) := by
  intro L
  induction L with
  | nil => intro p k j x h; simp at h
  | cons a L ih =>
    intro p k j x h h1 h2
    show (if _ then _ else _) = _
    cases j with
    | zero =>
      have : a = x := by simpa using h
      subst this
      rw [List.take_zero] at h1 h2 ⊢
      have e0 : sumL ([] : List (Nat × Nat)) = 0 := rfl
      rw [e0] at h1 h2 ⊢
      rw [if_pos (Or.inr ⟨by show (p : Int) ≤ q; omega, by show (q : Int) < (p : Int) + a.2; omega⟩)]
      rfl
    | succ j =>
      have h3 : L[j]? = some x := by simpa using h
      rw [List.take_succ_cons] at h1 h2 ⊢
      have e0 : sumL (a :: L.take j) = a.2 + sumL (L.take j) := rfl
      rw [e0] at h1 h2 ⊢
      rw [if_neg (by rintro (w | w); · omega
                     · have w2 : (q : Int) < (p : Int) + a.2 := w.2
                       omega), ih (p + a.2) (k + 1) j x h3 (by omega) (by omega), show k + 1 + j = k + (j + 1) by omega, show p + a.2 + sumL (L.take j) = p + (a.2 + sumL (L.take j)) by omega]
