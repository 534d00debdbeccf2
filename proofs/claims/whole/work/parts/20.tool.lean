/-! ===== THE PURE PART: tools ===== -/
theorem lfp_inv {τ : Type} {B : (τ → Prop) → τ → Prop} (I : τ → Prop) (μ : τ → Nat) {t : τ} (ht : I t) (h : ∀ (t : τ) (X : τ → Prop), I t → (∀ t', I t' → μ t' < μ t → X t') → B X t) : lfp B t := by
  intro X hX
  have key : ∀ (n : Nat) (t : τ), μ t < n → I t → X t := by
    intro n
    induction n with
    | zero => intro t h; omega
    | succ n ih => intro t hn hi; exact hX t (h t X hi (fun t' hi' hlt => ih t' (by omega) hi'))
  exact key _ t (Nat.lt_succ_self _) ht
/-- an Int as an int -/
def iI (z : Int) : Int32 := Int32.ofInt z
theorem iI_toInt {z : Int} (h : -2147483648 ≤ z) (h2 : z < 2147483648) : (iI z).toInt = z := by
  unfold iI
  rw [Int32.toInt_ofInt]
  exact Int.bmod_eq_of_le (by simp; omega) (by simp; omega)
theorem iI_nat (n : Nat) : iI (n : Int) = nI n := by
  unfold iI nI
  exact Int32.ofInt_eq_ofNat
theorem iI_eq {a b : Int} (ha : -2147483648 ≤ a) (ha2 : a < 2147483648) (hb : -2147483648 ≤ b) (hb2 : b < 2147483648) : iI a = iI b ↔ a = b := by
  constructor
  · intro h
    have := congrArg Int32.toInt h
    rwa [iI_toInt ha ha2, iI_toInt hb hb2] at this
  · intro h; rw [h]
theorem iI_lt {a b : Int} (ha : -2147483648 ≤ a) (ha2 : a < 2147483648) (hb : -2147483648 ≤ b) (hb2 : b < 2147483648) : iI a < iI b ↔ a < b := by
  rw [Int32.lt_iff_toInt_lt, iI_toInt ha ha2, iI_toInt hb hb2]
theorem iI_le {a b : Int} (ha : -2147483648 ≤ a) (ha2 : a < 2147483648) (hb : -2147483648 ≤ b) (hb2 : b < 2147483648) : iI a ≤ iI b ↔ a ≤ b := by
  rw [Int32.le_iff_toInt_le, iI_toInt ha ha2, iI_toInt hb hb2]
theorem iI_add (a b : Int) : iI a + iI b = iI (a + b) := by
  unfold iI; rw [Int32.ofInt_add]
theorem iI_sub (a b : Int) : iI a - iI b = iI (a - b) := by
  unfold iI; rw [Int32.ofInt_sub]
theorem iI_mul (a b : Int) : iI a * iI b = iI (a * b) := by
  unfold iI; rw [Int32.ofInt_mul]
theorem iI_self (x : Int32) : iI x.toInt = x := by unfold iI; exact Int32.ofInt_toInt x
theorem nI_iI (n : Nat) : nI n = iI (n : Int) := (iI_nat n).symm
theorem lit_iI (n : Nat) : (OfNat.ofNat n : Int32) = iI (n : Int) := by
  rw [iI_nat]; rfl
theorem neg_iI (a : Int) : -iI a = iI (-a) := by
  unfold iI; rw [Int32.ofInt_neg]
theorem clamp_iI {a : Int} (h0 : 0 ≤ a) (h : a < 2147483648) : (iI a).toNatClampNeg = a.toNat := by
  show (iI a).toInt.toNat = a.toNat
  rw [iI_toInt (by omega) h]
theorem vp_in_iI {a : Int} {n : Nat} (h0 : 0 ≤ a) (h1 : a < n) (hn : n < 2147483648) : vp_in (iI a) n := by
  rw [vp_in_iff, iI_toInt (by omega) (by omega)]
  exact ⟨h0, h1⟩
theorem iI_div {a d : Int} (h0 : 0 ≤ a) (ha : a < 2147483648) (hd : 0 < d) (hd2 : d < 2147483648) : iI a / iI d = iI (a / d) := by
  obtain ⟨n, rfl⟩ := Int.eq_ofNat_of_zero_le h0
  obtain ⟨m, rfl⟩ := Int.eq_ofNat_of_zero_le (Int.le_of_lt hd)
  rw [iI_nat, iI_nat, pk_div (by omega) (by omega) (by omega), ← iI_nat]
  rfl
