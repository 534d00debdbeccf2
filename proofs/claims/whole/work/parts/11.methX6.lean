def wX6_tell (x1 : Int32) (σ : SS) (Q : Int32 → SS → Prop) : Prop := (((-1)) < x1 → Q x1 σ) ∧ (¬ ((-1)) < x1 → (x1 < ((-9)) → Q x1 σ) ∧ (¬ x1 < ((-9)) → vp_in (-x1) 10 ∧ (vp_in (-x1) 10 ∧ (Q x1 (sA σ 11 (-x1).toNatClampNeg ((gA σ 11 (-x1).toNatClampNeg) + 1))))))
set_option maxRecDepth 100000 in
set_option maxHeartbeats 4000000 in
theorem kX6_tell_ok {l : Launch} {D : va_G} {cI cJ cZ : ClassId} {ad : Nat → Nat} {kv : Value} (x1 : Int32) (σ0 : SS) {Q : Int32 → SS → Prop} (h : wX6_tell x1 σ0 Q) : Ci l yX6_tell (.code yX6_tell cX6_tell 2 (some .int) :: TT) { frames := 0, cells := 0, slots := 0, locals := 0 } D (tys cI cJ cZ) (wX cI cJ ad kv) [.ref (ad 18), .int x1] σ0 Q := by
  refine Ci.of (lv := [(0, .ref (ad 18)), (1, .int x1)]) (by decide) adX (Nat.le_of_ble_eq_true rfl) rfl ?_
  intro p e s m args below meth c A C
  refine j_iload_n C dX6_tell_0 1 rfl ?_
  refine j_iconst (v := (-1)) C dX6_tell_1 (by decide) ?_
  refine j_icmp_gt 22 C dX6_tell_2 rfl h (fun h => ?_) (fun h => ?_)
  · refine j_iload_n C dX6_tell_22 1 rfl ?_
    exact j_iret C dX6_tell_23 h
  · refine j_iload_n C dX6_tell_5 1 rfl ?_
    refine j_bipush (v := (-9)) C dX6_tell_6 (by decide) ?_
    refine j_icmp_lt 22 C dX6_tell_8 rfl h (fun h => ?_) (fun h => ?_)
    · refine j_iload_n C dX6_tell_22 1 rfl ?_
      exact j_iret C dX6_tell_23 h
    · refine j_aload_n C dX6_tell_11 0 rfl ?_
      refine gf_X6_44 C dX6_tell_12 ?_
      refine j_iload_n C dX6_tell_15 1 rfl ?_
      refine j_ineg C dX6_tell_16 ?_
      refine j_dup2 C dX6_tell_17 rfl rfl ?_
      refine al_wX_19 C h.1 dX6_tell_18 ?_
      replace h := h.2
      refine j_iconst (v := 1) C dX6_tell_19 (by decide) ?_
      refine j_iadd C dX6_tell_20 ?_
      refine as_wX_19 C h.1 dX6_tell_21 ?_
      replace h := h.2
      refine j_iload_n C dX6_tell_22 1 rfl ?_
      exact j_iret C dX6_tell_23 h
def wX6_open (x1 : Int32) (σ : SS) (Q : Int32 → SS → Prop) : Prop := (0 ≤ x1 → (x1 ≤ 40 → wX3_beginAnew x1 σ (fun σ28 => Q x1 (sL σ28 0 0))) ∧ (¬ x1 ≤ 40 → wX6_tell ((-1)) σ (fun r19 σ19 => Q r19 σ19))) ∧ (¬ 0 ≤ x1 → wX6_tell ((-3)) σ (fun r7 σ7 => Q r7 σ7))
set_option maxRecDepth 100000 in
set_option maxHeartbeats 4000000 in
theorem kX6_open_ok {l : Launch} {D : va_G} {cI cJ cZ : ClassId} {ad : Nat → Nat} {kv : Value} (x1 : Int32) (σ0 : SS) {Q : Int32 → SS → Prop} (h : wX6_open x1 σ0 Q) : Ci l yX6_open (.code yX6_open cX6_open 2 (some .int) :: TT) { frames := 2, cells := 0, slots := 0, locals := 45 } D (tys cI cJ cZ) (wX cI cJ ad kv) [.ref (ad 18), .int x1] σ0 Q := by
  refine Ci.of (lv := [(0, .ref (ad 18)), (1, .int x1)]) (by decide) adX (Nat.le_of_ble_eq_true rfl) rfl ?_
  intro p e s m args below meth c A C
  refine j_iload_n C dX6_open_0 1 rfl ?_
  refine j_if_ge 11 C dX6_open_1 rfl h (fun h => ?_) (fun h => ?_)
  · refine j_iload_n C dX6_open_11 1 rfl ?_
    refine j_bipush (v := 40) C dX6_open_12 (by decide) ?_
    refine j_icmp_le 23 C dX6_open_14 rfl h (fun h => ?_) (fun h => ?_)
    · refine j_aload_n C dX6_open_23 0 rfl ?_
      refine gf_X6_12 C dX6_open_24 ?_
      refine j_iload_n C dX6_open_27 1 rfl ?_
      refine j_callv 0 [.int x1] [] C (kX3_beginAnew_ok x1 σ0 h) (tt_V ml_X6_59 mV_X3_beginAnew) ok_X3_beginAnew ⟨by decide, by decide⟩ rfl (r_wX_0 (σ := σ0)) (Nat.le_of_ble_eq_true rfl) rfl dX6_open_28 (fun σ28 h => ?_)
      refine j_aload_n C dX6_open_31 0 rfl ?_
      refine j_lconst (v := 0) C dX6_open_32 (by decide) ?_
      refine pf_X6_51 C dX6_open_33 ?_
      refine j_iload_n C dX6_open_36 1 rfl ?_
      exact j_iret C dX6_open_37 h
    · refine j_aload_n C dX6_open_17 0 rfl ?_
      refine j_iconst (v := (-1)) C dX6_open_18 (by decide) ?_
      refine j_calli 18 [.int ((-1))] [] C (kX6_tell_ok ((-1)) σ0 h) (tt_V ml_X6_55 mV_X6_tell) ok_X6_tell ⟨by decide, by decide⟩ rfl (r_wX_18 (σ := σ0)) (Nat.le_of_ble_eq_true rfl) rfl dX6_open_19 (fun r19 σ19 h => ?_)
      exact j_iret C dX6_open_22 h
  · refine j_aload_n C dX6_open_4 0 rfl ?_
    refine j_bipush (v := (-3)) C dX6_open_5 (by decide) ?_
    refine j_calli 18 [.int ((-3))] [] C (kX6_tell_ok ((-3)) σ0 h) (tt_V ml_X6_55 mV_X6_tell) ok_X6_tell ⟨by decide, by decide⟩ rfl (r_wX_18 (σ := σ0)) (Nat.le_of_ble_eq_true rfl) rfl dX6_open_7 (fun r7 σ7 h => ?_)
    exact j_iret C dX6_open_10 h
def wX6_page_b50 (x1 : Int32) (t0 : Int32) (σ : SS) (Q : Int32 → SS → Prop) : Prop := vp_in x1 40 ∧ ((¬ (gA σ 0 x1.toNatClampNeg) = t0 → vp_in x1 40 ∧ (Q 1 (sA σ 0 x1.toNatClampNeg t0))) ∧ ((gA σ 0 x1.toNatClampNeg) = t0 → Q 0 σ))
def wX6_page_b15 (σ : SS) (Q : Int32 → SS → Prop) : Prop := wX6_tell ((-1)) σ (fun r17 σ17 => Q r17 σ17)
def wX6_page (x1 : Int32) (x2 : Int32) (σ : SS) (Q : Int32 → SS → Prop) : Prop := (x1 < 0 → wX6_page_b15 σ Q) ∧ (¬ x1 < 0 → (x1 < (gI σ 0) → vp_in x1 40 ∧ (((gA σ 0 x1.toNatClampNeg) < 0 → (x2 = 0 → wX6_page_b50 x1 ((-2)) σ Q) ∧ (¬ x2 = 0 → wX6_page_b50 x1 ((-1)) σ Q)) ∧ (¬ (gA σ 0 x1.toNatClampNeg) < 0 → wX6_tell ((-7)) σ (fun r36 σ36 => Q r36 σ36)))) ∧ (¬ x1 < (gI σ 0) → wX6_page_b15 σ Q))
set_option maxRecDepth 100000 in
set_option maxHeartbeats 4000000 in
theorem kX6_page_ok {l : Launch} {D : va_G} {cI cJ cZ : ClassId} {ad : Nat → Nat} {kv : Value} (x1 : Int32) (x2 : Int32) (σ0 : SS) {Q : Int32 → SS → Prop} (h : wX6_page x1 x2 σ0 Q) : Ci l yX6_page (.code yX6_page cX6_page 4 (some .int) :: TT) { frames := 1, cells := 0, slots := 0, locals := 21 } D (tys cI cJ cZ) (wX cI cJ ad kv) [.ref (ad 18), .int x1, .int x2] σ0 Q := by
  refine Ci.of (lv := [(0, .ref (ad 18)), (1, .int x1), (2, .int x2)]) (by decide) adX (Nat.le_of_ble_eq_true rfl) rfl ?_
  intro p e s m args below meth c A C
  have k50 : ∀ (x1 : Int32), ∀ (t0 : Int32), ∀ (σ : SS), wX6_page_b50 x1 t0 σ Q → J p l e { frames := 1, cells := 0, slots := 0, locals := 21 } s m args below meth c D (wX cI cJ ad kv) A 4 (MQ below (va_Qi Q (WW D (tys cI cJ cZ) (wX cI cJ ad kv)) A) args s 0 0 A) σ 50 [(0, .ref (ad 18)), (1, .int x1)] [.int t0] := by
    intro x1 t0 σ h
    refine j_istore_n (lv' := [(3, .int t0), (0, .ref (ad 18)), (1, .int x1)]) C dX6_page_50 (by decide) rfl ?_
    refine j_aload_n C dX6_page_51 1 rfl ?_
    refine gf_X6_12 C dX6_page_52 ?_
    refine gf_X6_67 C dX6_page_55 ?_
    refine j_iload_n C dX6_page_58 2 rfl ?_
    refine al_wX_1 C h.1 dX6_page_59 ?_
    replace h := h.2
    refine j_iload_n C dX6_page_60 0 rfl ?_
    refine j_icmp_ne 66 C dX6_page_61 rfl h (fun h => ?_) (fun h => ?_)
    · refine j_aload_n C dX6_page_66 1 rfl ?_
      refine gf_X6_12 C dX6_page_67 ?_
      refine gf_X6_67 C dX6_page_70 ?_
      refine j_iload_n C dX6_page_73 2 rfl ?_
      refine j_iload_n C dX6_page_74 0 rfl ?_
      refine as_wX_1 C h.1 dX6_page_75 ?_
      replace h := h.2
      refine j_iconst (v := 1) C dX6_page_76 (by decide) ?_
      exact j_iret C dX6_page_77 h
    · refine j_iconst (v := 0) C dX6_page_64 (by decide) ?_
      exact j_iret C dX6_page_65 h
  have k15 : ∀ (σ : SS), wX6_page_b15 σ Q → J p l e { frames := 1, cells := 0, slots := 0, locals := 21 } s m args below meth c D (wX cI cJ ad kv) A 4 (MQ below (va_Qi Q (WW D (tys cI cJ cZ) (wX cI cJ ad kv)) A) args s 0 0 A) σ 15 [(0, .ref (ad 18))] [] := by
    intro σ h
    refine j_aload_n C dX6_page_15 0 rfl ?_
    refine j_iconst (v := (-1)) C dX6_page_16 (by decide) ?_
    refine j_calli 18 [.int ((-1))] [] C (kX6_tell_ok ((-1)) σ h) (tt_V ml_X6_55 mV_X6_tell) ok_X6_tell ⟨by decide, by decide⟩ rfl (r_wX_18 (σ := σ)) (Nat.le_of_ble_eq_true rfl) rfl dX6_page_17 (fun r17 σ17 h => ?_)
    exact j_iret C dX6_page_20 h
  refine j_iload_n C dX6_page_0 1 rfl ?_
  refine j_if_lt 15 C dX6_page_1 rfl h (fun h => ?_) (fun h => ?_)
  · refine j_sub (lv' := [(0, .ref (ad 18))]) [0] rfl ?_
    exact k15 _ h
  · refine j_iload_n C dX6_page_4 1 rfl ?_
    refine j_aload_n C dX6_page_5 0 rfl ?_
    refine gf_X6_12 C dX6_page_6 ?_
    refine gf_X6_63 C dX6_page_9 ?_
    refine j_icmp_lt 21 C dX6_page_12 rfl h (fun h => ?_) (fun h => ?_)
    · refine j_aload_n C dX6_page_21 0 rfl ?_
      refine gf_X6_12 C dX6_page_22 ?_
      refine gf_X6_67 C dX6_page_25 ?_
      refine j_iload_n C dX6_page_28 1 rfl ?_
      refine al_wX_1 C h.1 dX6_page_29 ?_
      replace h := h.2
      refine j_if_lt 40 C dX6_page_30 rfl h (fun h => ?_) (fun h => ?_)
      · refine j_iload_n C dX6_page_40 2 rfl ?_
        refine j_if_eq 48 C dX6_page_41 rfl h (fun h => ?_) (fun h => ?_)
        · refine j_bipush (v := (-2)) C dX6_page_48 (by decide) ?_
          refine j_sub (lv' := [(0, .ref (ad 18)), (1, .int x1)]) [0, 1] rfl ?_
          exact k50 _ _ _ h
        · refine j_iconst (v := (-1)) C dX6_page_44 (by decide) ?_
          refine j_goto 50 C dX6_page_45 rfl ?_
          refine j_sub (lv' := [(0, .ref (ad 18)), (1, .int x1)]) [0, 1] rfl ?_
          exact k50 _ _ _ h
      · refine j_aload_n C dX6_page_33 0 rfl ?_
        refine j_bipush (v := (-7)) C dX6_page_34 (by decide) ?_
        refine j_calli 18 [.int ((-7))] [] C (kX6_tell_ok ((-7)) σ0 h) (tt_V ml_X6_55 mV_X6_tell) ok_X6_tell ⟨by decide, by decide⟩ rfl (r_wX_18 (σ := σ0)) (Nat.le_of_ble_eq_true rfl) rfl dX6_page_36 (fun r36 σ36 h => ?_)
        exact j_iret C dX6_page_39 h
    · refine j_sub (lv' := [(0, .ref (ad 18))]) [0] rfl ?_
      exact k15 _ h
def wX6_zone_b40 (x1 : Int32) (x2 : Int64) (σ : SS) (Q : Int32 → SS → Prop) : Prop := ((gI σ 1) < 8 → wX3_addZone x1 x2 σ (fun r65 σ65 => Q r65 σ65)) ∧ (¬ (gI σ 1) < 8 → wX6_tell ((-6)) σ (fun r55 σ55 => Q r55 σ55))
def wX6_zone_b34 (σ : SS) (Q : Int32 → SS → Prop) : Prop := wX6_tell ((-1)) σ (fun r36 σ36 => Q r36 σ36)
def wX6_zone_b9 (σ : SS) (Q : Int32 → SS → Prop) : Prop := wX6_tell ((-9)) σ (fun r12 σ12 => Q r12 σ12)
def wX6_zone (x1 : Int32) (x2 : Int64) (σ : SS) (Q : Int32 → SS → Prop) : Prop := (x1 < 0 → wX6_zone_b9 σ Q) ∧ (¬ x1 < 0 → (x1 ≤ 5 → (¬ x1 = 0 → wX6_zone_b40 x1 x2 σ Q) ∧ (x1 = 0 → ((lg_cmp x2 1) < 0 → wX6_zone_b34 σ Q) ∧ (¬ (lg_cmp x2 1) < 0 → ((lg_cmp x2 32) ≤ 0 → wX6_zone_b40 x1 x2 σ Q) ∧ (¬ (lg_cmp x2 32) ≤ 0 → wX6_zone_b34 σ Q)))) ∧ (¬ x1 ≤ 5 → wX6_zone_b9 σ Q))
set_option maxRecDepth 100000 in
set_option maxHeartbeats 4000000 in
theorem kX6_zone_ok {l : Launch} {D : va_G} {cI cJ cZ : ClassId} {ad : Nat → Nat} {kv : Value} (x1 : Int32) (x2 : Int64) (σ0 : SS) {Q : Int32 → SS → Prop} (h : wX6_zone x1 x2 σ0 Q) : Ci l yX6_zone (.code yX6_zone cX6_zone 4 (some .int) :: TT) { frames := 1, cells := 0, slots := 0, locals := 24 } D (tys cI cJ cZ) (wX cI cJ ad kv) [.ref (ad 18), .int x1, .long x2] σ0 Q := by
  refine Ci.of (lv := [(0, .ref (ad 18)), (1, .int x1), (2, .long x2)]) (by decide) adX (Nat.le_of_ble_eq_true rfl) rfl ?_
  intro p e s m args below meth c A C
  have k40 : ∀ (x1 : Int32), ∀ (x2 : Int64), ∀ (σ : SS), wX6_zone_b40 x1 x2 σ Q → J p l e { frames := 1, cells := 0, slots := 0, locals := 24 } s m args below meth c D (wX cI cJ ad kv) A 4 (MQ below (va_Qi Q (WW D (tys cI cJ cZ) (wX cI cJ ad kv)) A) args s 0 0 A) σ 40 [(0, .ref (ad 18)), (1, .int x1), (2, .long x2)] [] := by
    intro x1 x2 σ h
    refine j_aload_n C dX6_zone_40 0 rfl ?_
    refine gf_X6_12 C dX6_zone_41 ?_
    refine gf_X6_72 C dX6_zone_44 ?_
    refine j_bipush (v := 8) C dX6_zone_47 (by decide) ?_
    refine j_icmp_lt 59 C dX6_zone_49 rfl h (fun h => ?_) (fun h => ?_)
    · refine j_aload_n C dX6_zone_59 0 rfl ?_
      refine gf_X6_12 C dX6_zone_60 ?_
      refine j_iload_n C dX6_zone_63 1 rfl ?_
      refine j_lload_n C dX6_zone_64 2 rfl ?_
      refine j_calli 0 [.int x1, .long x2] [] C (kX3_addZone_ok x1 x2 σ h) (tt_V ml_X6_75 mV_X3_addZone) ok_X3_addZone ⟨by decide, by decide⟩ rfl (r_wX_0 (σ := σ)) (Nat.le_of_ble_eq_true rfl) rfl dX6_zone_65 (fun r65 σ65 h => ?_)
      exact j_iret C dX6_zone_68 h
    · refine j_aload_n C dX6_zone_52 0 rfl ?_
      refine j_bipush (v := (-6)) C dX6_zone_53 (by decide) ?_
      refine j_calli 18 [.int ((-6))] [] C (kX6_tell_ok ((-6)) σ h) (tt_V ml_X6_55 mV_X6_tell) ok_X6_tell ⟨by decide, by decide⟩ rfl (r_wX_18 (σ := σ)) (Nat.le_of_ble_eq_true rfl) rfl dX6_zone_55 (fun r55 σ55 h => ?_)
      exact j_iret C dX6_zone_58 h
  have k34 : ∀ (σ : SS), wX6_zone_b34 σ Q → J p l e { frames := 1, cells := 0, slots := 0, locals := 24 } s m args below meth c D (wX cI cJ ad kv) A 4 (MQ below (va_Qi Q (WW D (tys cI cJ cZ) (wX cI cJ ad kv)) A) args s 0 0 A) σ 34 [(0, .ref (ad 18))] [] := by
    intro σ h
    refine j_aload_n C dX6_zone_34 0 rfl ?_
    refine j_iconst (v := (-1)) C dX6_zone_35 (by decide) ?_
    refine j_calli 18 [.int ((-1))] [] C (kX6_tell_ok ((-1)) σ h) (tt_V ml_X6_55 mV_X6_tell) ok_X6_tell ⟨by decide, by decide⟩ rfl (r_wX_18 (σ := σ)) (Nat.le_of_ble_eq_true rfl) rfl dX6_zone_36 (fun r36 σ36 h => ?_)
    exact j_iret C dX6_zone_39 h
  have k9 : ∀ (σ : SS), wX6_zone_b9 σ Q → J p l e { frames := 1, cells := 0, slots := 0, locals := 24 } s m args below meth c D (wX cI cJ ad kv) A 4 (MQ below (va_Qi Q (WW D (tys cI cJ cZ) (wX cI cJ ad kv)) A) args s 0 0 A) σ 9 [(0, .ref (ad 18))] [] := by
    intro σ h
    refine j_aload_n C dX6_zone_9 0 rfl ?_
    refine j_bipush (v := (-9)) C dX6_zone_10 (by decide) ?_
    refine j_calli 18 [.int ((-9))] [] C (kX6_tell_ok ((-9)) σ h) (tt_V ml_X6_55 mV_X6_tell) ok_X6_tell ⟨by decide, by decide⟩ rfl (r_wX_18 (σ := σ)) (Nat.le_of_ble_eq_true rfl) rfl dX6_zone_12 (fun r12 σ12 h => ?_)
    exact j_iret C dX6_zone_15 h
  refine j_iload_n C dX6_zone_0 1 rfl ?_
  refine j_if_lt 9 C dX6_zone_1 rfl h (fun h => ?_) (fun h => ?_)
  · refine j_sub (lv' := [(0, .ref (ad 18))]) [0] rfl ?_
    exact k9 _ h
  · refine j_iload_n C dX6_zone_4 1 rfl ?_
    refine j_iconst (v := 5) C dX6_zone_5 (by decide) ?_
    refine j_icmp_le 16 C dX6_zone_6 rfl h (fun h => ?_) (fun h => ?_)
    · refine j_iload_n C dX6_zone_16 1 rfl ?_
      refine j_if_ne 40 C dX6_zone_17 rfl h (fun h => ?_) (fun h => ?_)
      · refine j_sub (lv' := [(0, .ref (ad 18)), (1, .int x1), (2, .long x2)]) [0, 1, 2] rfl ?_
        exact k40 _ _ _ h
      · refine j_lload_n C dX6_zone_20 2 rfl ?_
        refine j_lconst (v := 1) C dX6_zone_21 (by decide) ?_
        refine j_lcmp C dX6_zone_22 ?_
        refine j_if_lt 34 C dX6_zone_23 rfl h (fun h => ?_) (fun h => ?_)
        · refine j_sub (lv' := [(0, .ref (ad 18))]) [0] rfl ?_
          exact k34 _ h
        · refine j_lload_n C dX6_zone_26 2 rfl ?_
          refine j_ldc2 C dX6_zone_27 mk_X6_70 ?_
          refine j_lcmp C dX6_zone_30 ?_
          refine j_if_le 40 C dX6_zone_31 rfl h (fun h => ?_) (fun h => ?_)
          · refine j_sub (lv' := [(0, .ref (ad 18)), (1, .int x1), (2, .long x2)]) [0, 1, 2] rfl ?_
            exact k40 _ _ _ h
          · refine j_sub (lv' := [(0, .ref (ad 18))]) [0] rfl ?_
            exact k34 _ h
    · refine j_sub (lv' := [(0, .ref (ad 18))]) [0] rfl ?_
      exact k9 _ h
def wX6_keeperOf (x1 : Int32) (σ : SS) (Q : Nat → Prop) : Prop := wX3_kindOf x1 σ (fun r5 => (r5 = 0 → Q 0) ∧ (r5 = 1 → Q 1) ∧ (¬ r5 = 0 ∧ ¬ r5 = 1 → Q 2))
set_option maxRecDepth 100000 in
set_option maxHeartbeats 4000000 in
theorem kX6_keeperOf_ok {l : Launch} {D : va_G} {cI cJ cZ : ClassId} {ad : Nat → Nat} {kv : Value} (x1 : Int32) (σ0 : SS) {Q : Nat → Prop} (h : wX6_keeperOf x1 σ0 Q) : Cr l yX6_keeperOf (.code yX6_keeperOf cX6_keeperOf 2 (some (.object "RoomWarden$Keeper")) :: TT) { frames := 2, cells := 0, slots := 0, locals := 42 } D (tys cI cJ cZ) (wX cI cJ ad kv) (fun k => ad (15 + k)) [.ref (ad 18), .int x1] σ0 (fun r σ' => σ' = σ0 ∧ Q r) := by
  refine Cr.of (lv := [(0, .ref (ad 18)), (1, .int x1)]) (by decide) adX (Nat.le_of_ble_eq_true rfl) rfl ?_
  intro p e s m args below meth c A C
  refine j_aload_n C dX6_keeperOf_0 0 rfl ?_
  refine gf_X6_12 C dX6_keeperOf_1 ?_
  refine j_iload_n C dX6_keeperOf_4 1 rfl ?_
  refine j_callpi 0 [.int x1] [] C (kX3_kindOf_ok x1 σ0 h) (tt_V ml_X6_232 mV_X3_kindOf) ok_X3_kindOf ⟨by decide, by decide⟩ rfl (r_wX_0 (σ := σ0)) (Nat.le_of_ble_eq_true rfl) rfl dX6_keeperOf_5 (fun r5 h => ?_)
  by_cases hc0 : r5 = 0
  · replace h := h.1 hc0
    refine j_lookup 36 C dX6_keeperOf_8 (by decide) (by rw [hc0]) rfl ?_
    refine j_aload_n C dX6_keeperOf_36 0 rfl ?_
    refine gf_X6_28 C dX6_keeperOf_37 ?_
    exact j_aret (ad := fun k => ad (15 + k)) (Post := fun r σ' => σ' = σ0 ∧ Q r) 0 C dX6_keeperOf_40 ⟨rfl, h⟩
  by_cases hc1 : r5 = 1
  · replace h := h.2.1 hc1
    refine j_lookup 41 C dX6_keeperOf_8 (by decide) (by rw [hc1]) rfl ?_
    refine j_aload_n C dX6_keeperOf_41 0 rfl ?_
    refine gf_X6_35 C dX6_keeperOf_42 ?_
    exact j_aret (ad := fun k => ad (15 + k)) (Post := fun r σ' => σ' = σ0 ∧ Q r) 1 C dX6_keeperOf_45 ⟨rfl, h⟩
  replace h := h.2.2 ⟨hc0, hc1⟩
  refine j_lookup 46 C dX6_keeperOf_8 (by decide) ((lv_osw hc0 (by decide)).trans ((lv_osw hc1 (by decide)))) rfl ?_
  refine j_aload_n C dX6_keeperOf_46 0 rfl ?_
  refine gf_X6_41 C dX6_keeperOf_47 ?_
  exact j_aret (ad := fun k => ad (15 + k)) (Post := fun r σ' => σ' = σ0 ∧ Q r) 2 C dX6_keeperOf_50 ⟨rfl, h⟩
def wK_mostOf (κ : Nat) (x1 : Int32) (σ : SS) (Q : Int32 → Prop) : Prop := match κ with
  | 0 => wX5_mostOf x1 σ Q
  | 1 => wX0_mostOf x1 σ Q
  | 2 => wX4_mostOf x1 σ Q
  | _ => False
theorem okK_mostOf : "RoomWarden$Keeper" ≠ "java/lang/invoke/MethodHandle" ∧ "RoomWarden$Keeper" ≠ "java/lang/invoke/VarHandle" ∧ (parseMethodDescriptor "(I)I").map (fun d => d.parameters.length) = some 1 := by decide +kernel
set_option maxRecDepth 100000 in
set_option maxHeartbeats 4000000 in
theorem kc_mostOf {p : Program} {l : Launch} {e : Env} {R : Room} {s : State} {m : MethodId} {args : Array Value} {below : List Frame} {meth : Method} {c : Code} {D : va_G} {A : Nat → Prop} {cc : ByteArray} {nL : Nat} {ret : Option FieldType} {Qs : State → Prop} {σ : SS} {pc : Nat} {lv : List (Nat × Value)} {cI cJ cZ : ClassId} {ad : Nat → Nat} {kv : Value} {Q : Int32 → Prop} (rest : List Value) (κ : Nat) (x1 : Int32) (C : Cx p s m args meth c D (tys cI cJ cZ) (wX cI cJ ad kv) A cc nL RX6 ret) (h : wK_mostOf κ x1 σ Q) (hR : 3 ≤ R.frames ∧ 66 ≤ R.locals) (hcat : (rest.map fun v => v.category).sum ≤ 8) (hd : decode cc pc = .ok (.invokevirtual 87, 3)) (K : ∀ (r : Int32), Q r → J p l e R s m args below meth c D (wX cI cJ ad kv) A nL Qs σ (pc + 3) lv (.int r :: rest)) : J p l e R s m args below meth c D (wX cI cJ ad kv) A nL Qs σ pc lv (.int x1 :: .ref (ad (15 + κ)) :: rest) := by
  match κ, h with
  | 0, h => exact j_callUi (x := ⟨"RoomWarden$Keeper", "mostOf", "(I)I"⟩) (owner := "RoomWarden$Keeper") 15 [.int x1] rest C (kX5_mostOf_ok x1 σ h) (tt_U ml_X6_87 msm_mostOf msu_X5_mostOf ⟨mm_X5_mostOf, mi_X5, mc_X5_mostOf⟩) (by decide +kernel) okK_mostOf ⟨Nat.le_trans (by decide) hR.1, Nat.le_trans (by decide) hR.2⟩ rfl (r_wX_15 (σ := σ)) hcat rfl hd (fun r σ' h => by rw [h.1]; exact K r h.2)
  | 1, h => exact j_callUi (x := ⟨"RoomWarden$Keeper", "mostOf", "(I)I"⟩) (owner := "RoomWarden$Keeper") 16 [.int x1] rest C (kX0_mostOf_ok x1 σ h) (tt_U ml_X6_87 msm_mostOf msu_X0_mostOf ⟨mm_X0_mostOf, mi_X0, mc_X0_mostOf⟩) (by decide +kernel) okK_mostOf ⟨Nat.le_trans (by decide) hR.1, Nat.le_trans (by decide) hR.2⟩ rfl (r_wX_16 (σ := σ)) hcat rfl hd (fun r σ' h => by rw [h.1]; exact K r h.2)
  | 2, h => exact j_callUi (x := ⟨"RoomWarden$Keeper", "mostOf", "(I)I"⟩) (owner := "RoomWarden$Keeper") 17 [.int x1] rest C (kX4_mostOf_ok x1 σ h) (tt_U ml_X6_87 msm_mostOf msu_X4_mostOf ⟨mm_X4_mostOf, mi_X4, mc_X4_mostOf⟩) (by decide +kernel) okK_mostOf ⟨Nat.le_trans (by decide) hR.1, Nat.le_trans (by decide) hR.2⟩ rfl (r_wX_17 (σ := σ)) hcat rfl hd (fun r σ' h => by rw [h.1]; exact K r h.2)
  | _ + 3, h => exact h.elim
def wK_takePiece (κ : Nat) (x1 : Int32) (x2 : Int32) (σ : SS) (Q : Int32 → SS → Prop) : Prop := match κ with
  | 0 => wX5_takePiece x1 x2 σ Q
  | 1 => wX0_takePiece x1 x2 σ Q
  | 2 => wX4_takePiece x1 x2 σ Q
  | _ => False
theorem okK_takePiece : "RoomWarden$Keeper" ≠ "java/lang/invoke/MethodHandle" ∧ "RoomWarden$Keeper" ≠ "java/lang/invoke/VarHandle" ∧ (parseMethodDescriptor "(II)I").map (fun d => d.parameters.length) = some 2 := by decide +kernel
set_option maxRecDepth 100000 in
set_option maxHeartbeats 4000000 in
theorem kc_takePiece {p : Program} {l : Launch} {e : Env} {R : Room} {s : State} {m : MethodId} {args : Array Value} {below : List Frame} {meth : Method} {c : Code} {D : va_G} {A : Nat → Prop} {cc : ByteArray} {nL : Nat} {ret : Option FieldType} {Qs : State → Prop} {σ : SS} {pc : Nat} {lv : List (Nat × Value)} {cI cJ cZ : ClassId} {ad : Nat → Nat} {kv : Value} {Q : Int32 → SS → Prop} (rest : List Value) (κ : Nat) (x1 : Int32) (x2 : Int32) (C : Cx p s m args meth c D (tys cI cJ cZ) (wX cI cJ ad kv) A cc nL RX6 ret) (h : wK_takePiece κ x1 x2 σ Q) (hR : 6 ≤ R.frames ∧ 140 ≤ R.locals) (hcat : (rest.map fun v => v.category).sum ≤ 8) (hd : decode cc pc = .ok (.invokevirtual 96, 3)) (K : ∀ (r : Int32) (σ' : SS), Q r σ' → J p l e R s m args below meth c D (wX cI cJ ad kv) A nL Qs σ' (pc + 3) lv (.int r :: rest)) : J p l e R s m args below meth c D (wX cI cJ ad kv) A nL Qs σ pc lv (.int x2 :: .int x1 :: .ref (ad (15 + κ)) :: rest) := by
  match κ, h with
  | 0, h => exact j_callUi (x := ⟨"RoomWarden$Keeper", "takePiece", "(II)I"⟩) (owner := "RoomWarden$Keeper") 15 [.int x1, .int x2] rest C (kX5_takePiece_ok x1 x2 σ h) (tt_U ml_X6_96 msm_takePiece msu_X5_takePiece ⟨mm_X5_takePiece, mi_X5, mc_X5_takePiece⟩) (by decide +kernel) okK_takePiece ⟨Nat.le_trans (by decide) hR.1, Nat.le_trans (by decide) hR.2⟩ rfl (r_wX_15 (σ := σ)) hcat rfl hd (fun r σ' h => K r σ' h)
  | 1, h => exact j_callUi (x := ⟨"RoomWarden$Keeper", "takePiece", "(II)I"⟩) (owner := "RoomWarden$Keeper") 16 [.int x1, .int x2] rest C (kX0_takePiece_ok x1 x2 σ h) (tt_U ml_X6_96 msm_takePiece msu_X0_takePiece ⟨mm_X0_takePiece, mi_X0, mc_X0_takePiece⟩) (by decide +kernel) okK_takePiece ⟨Nat.le_trans (by decide) hR.1, Nat.le_trans (by decide) hR.2⟩ rfl (r_wX_16 (σ := σ)) hcat rfl hd (fun r σ' h => K r σ' h)
  | 2, h => exact j_callUi (x := ⟨"RoomWarden$Keeper", "takePiece", "(II)I"⟩) (owner := "RoomWarden$Keeper") 17 [.int x1, .int x2] rest C (kX4_takePiece_ok x1 x2 σ h) (tt_U ml_X6_96 msm_takePiece msu_X4_takePiece ⟨mm_X4_takePiece, mi_X4, mc_X4_takePiece⟩) (by decide +kernel) okK_takePiece ⟨Nat.le_trans (by decide) hR.1, Nat.le_trans (by decide) hR.2⟩ rfl (r_wX_17 (σ := σ)) hcat rfl hd (fun r σ' h => K r σ' h)
  | _ + 3, h => exact h.elim
def wK_tidy (κ : Nat) (x1 : Int32) (σ : SS) (Q : SS → Prop) : Prop := match κ with
  | 0 => wX5_tidy x1 σ Q
  | 1 => wX0_tidy x1 σ Q
  | 2 => wX4_tidy x1 σ Q
  | _ => False
theorem okK_tidy : "RoomWarden$Keeper" ≠ "java/lang/invoke/MethodHandle" ∧ "RoomWarden$Keeper" ≠ "java/lang/invoke/VarHandle" ∧ (parseMethodDescriptor "(I)V").map (fun d => d.parameters.length) = some 1 := by decide +kernel
set_option maxRecDepth 100000 in
set_option maxHeartbeats 4000000 in
theorem kc_tidy {p : Program} {l : Launch} {e : Env} {R : Room} {s : State} {m : MethodId} {args : Array Value} {below : List Frame} {meth : Method} {c : Code} {D : va_G} {A : Nat → Prop} {cc : ByteArray} {nL : Nat} {ret : Option FieldType} {Qs : State → Prop} {σ : SS} {pc : Nat} {lv : List (Nat × Value)} {cI cJ cZ : ClassId} {ad : Nat → Nat} {kv : Value} {Q : SS → Prop} (rest : List Value) (κ : Nat) (x1 : Int32) (C : Cx p s m args meth c D (tys cI cJ cZ) (wX cI cJ ad kv) A cc nL RX6 ret) (h : wK_tidy κ x1 σ Q) (hR : 5 ≤ R.frames ∧ 114 ≤ R.locals) (hcat : (rest.map fun v => v.category).sum ≤ 8) (hd : decode cc pc = .ok (.invokevirtual 107, 3)) (K : ∀ (σ' : SS), Q σ' → J p l e R s m args below meth c D (wX cI cJ ad kv) A nL Qs σ' (pc + 3) lv rest) : J p l e R s m args below meth c D (wX cI cJ ad kv) A nL Qs σ pc lv (.int x1 :: .ref (ad (15 + κ)) :: rest) := by
  match κ, h with
  | 0, h => exact j_callUv (x := ⟨"RoomWarden$Keeper", "tidy", "(I)V"⟩) (owner := "RoomWarden$Keeper") 15 [.int x1] rest C (kX5_tidy_ok x1 σ h) (tt_U ml_X6_107 msm_tidy msu_X5_tidy ⟨mm_X5_tidy, mi_X5, mc_X5_tidy⟩) (by decide +kernel) okK_tidy ⟨Nat.le_trans (by decide) hR.1, Nat.le_trans (by decide) hR.2⟩ rfl (r_wX_15 (σ := σ)) hcat rfl hd (fun σ' h => K σ' h)
  | 1, h => exact j_callUv (x := ⟨"RoomWarden$Keeper", "tidy", "(I)V"⟩) (owner := "RoomWarden$Keeper") 16 [.int x1] rest C (kX0_tidy_ok x1 σ h) (tt_U ml_X6_107 msm_tidy msu_X0_tidy ⟨mm_X0_tidy, mi_X0, mc_X0_tidy⟩) (by decide +kernel) okK_tidy ⟨Nat.le_trans (by decide) hR.1, Nat.le_trans (by decide) hR.2⟩ rfl (r_wX_16 (σ := σ)) hcat rfl hd (fun σ' h => K σ' h)
  | 2, h => exact j_callUv (x := ⟨"RoomWarden$Keeper", "tidy", "(I)V"⟩) (owner := "RoomWarden$Keeper") 17 [.int x1] rest C (kX4_tidy_ok x1 σ h) (tt_U ml_X6_107 msm_tidy msu_X4_tidy ⟨mm_X4_tidy, mi_X4, mc_X4_tidy⟩) (by decide +kernel) okK_tidy ⟨Nat.le_trans (by decide) hR.1, Nat.le_trans (by decide) hR.2⟩ rfl (r_wX_17 (σ := σ)) hcat rfl hd (fun σ' h => K σ' h)
  | _ + 3, h => exact h.elim
def wX6_want (x1 : Int32) (x2 : Int32) (σ : SS) (Q : Int32 → SS → Prop) : Prop := wX3_hasZone x1 σ (fun r5 => (¬ r5 = 0 → (0 ≤ x2 → wX6_keeperOf x1 σ (fun κ30 => wK_mostOf κ30 x1 σ (fun r37 => (x2 ≤ r37 → wX3_lowestUnused σ (fun r53 => (0 ≤ r53 → wK_takePiece κ30 x1 x2 σ (fun r73 σ73 => (0 ≤ r73 → vp_in r53 100 ∧ (vp_in r53 100 ∧ (wX3_putBlock r53 x1 r73 x2 (sA σ73 3 r53.toNatClampNeg ((gA σ73 3 r53.toNatClampNeg) + 1)) (fun σ114 => wK_tidy κ30 x1 σ114 (fun σ119 => wX3_handleOf r53 σ119 (fun r128 => Q r128 σ119)))))) ∧ (¬ 0 ≤ r73 → wX6_tell ((-6)) σ73 (fun r86 σ86 => Q r86 σ86)))) ∧ (¬ 0 ≤ r53 → wX6_tell ((-6)) σ (fun r66 σ66 => Q r66 σ66)))) ∧ (¬ x2 ≤ r37 → wX6_tell ((-1)) σ (fun r45 σ45 => Q r45 σ45))))) ∧ (¬ 0 ≤ x2 → wX6_tell ((-3)) σ (fun r24 σ24 => Q r24 σ24))) ∧ (r5 = 0 → wX6_tell ((-1)) σ (fun r13 σ13 => Q r13 σ13)))
set_option maxRecDepth 100000 in
set_option maxHeartbeats 4000000 in
theorem kX6_want_ok {l : Launch} {D : va_G} {cI cJ cZ : ClassId} {ad : Nat → Nat} {kv : Value} (x1 : Int32) (x2 : Int32) (σ0 : SS) {Q : Int32 → SS → Prop} (h : wX6_want x1 x2 σ0 Q) : Ci l yX6_want (.code yX6_want cX6_want 6 (some .int) :: TT) { frames := 6, cells := 0, slots := 0, locals := 140 } D (tys cI cJ cZ) (wX cI cJ ad kv) [.ref (ad 18), .int x1, .int x2] σ0 Q := by
  refine Ci.of (lv := [(0, .ref (ad 18)), (1, .int x1), (2, .int x2)]) (by decide) adX (Nat.le_of_ble_eq_true rfl) rfl ?_
  intro p e s m args below meth c A C
  refine j_aload_n C dX6_want_0 0 rfl ?_
  refine gf_X6_12 C dX6_want_1 ?_
  refine j_iload_n C dX6_want_4 1 rfl ?_
  refine j_callpi 0 [.int x1] [] C (kX3_hasZone_ok x1 σ0 h) (tt_V ml_X6_79 mV_X3_hasZone) ok_X3_hasZone ⟨by decide, by decide⟩ rfl (r_wX_0 (σ := σ0)) (Nat.le_of_ble_eq_true rfl) rfl dX6_want_5 (fun r5 h => ?_)
  refine j_if_ne 17 C dX6_want_8 rfl h (fun h => ?_) (fun h => ?_)
  · refine j_iload_n C dX6_want_17 2 rfl ?_
    refine j_if_ge 28 C dX6_want_18 rfl h (fun h => ?_) (fun h => ?_)
    · refine j_aload_n C dX6_want_28 0 rfl ?_
      refine j_iload_n C dX6_want_29 1 rfl ?_
      refine j_callpr 18 [.int x1] [] C (kX6_keeperOf_ok x1 σ0 h) (tt_V ml_X6_83 mV_X6_keeperOf) ok_X6_keeperOf ⟨by decide, by decide⟩ rfl (r_wX_18 (σ := σ0)) (Nat.le_of_ble_eq_true rfl) rfl dX6_want_30 (fun κ30 h => ?_)
      refine j_astore_n (lv' := [(3, .ref (ad (15 + κ30))), (0, .ref (ad 18)), (1, .int x1), (2, .int x2)]) C dX6_want_33 (by decide) rfl ?_
      refine j_iload_n C dX6_want_34 3 rfl ?_
      refine j_aload_n C dX6_want_35 0 rfl ?_
      refine j_iload_n C dX6_want_36 2 rfl ?_
      refine kc_mostOf [.int x2] κ30 x1 C h ⟨by decide, by decide⟩ (Nat.le_of_ble_eq_true rfl) dX6_want_37 (fun r37 h => ?_)
      refine j_icmp_le 49 C dX6_want_40 rfl h (fun h => ?_) (fun h => ?_)
      · refine j_aload_n C dX6_want_49 1 rfl ?_
        refine gf_X6_12 C dX6_want_50 ?_
        refine j_callpi 0 [] [] C (kX3_lowestUnused_ok σ0 h) (tt_V ml_X6_92 mV_X3_lowestUnused) ok_X3_lowestUnused ⟨by decide, by decide⟩ rfl (r_wX_0 (σ := σ0)) (Nat.le_of_ble_eq_true rfl) rfl dX6_want_53 (fun r53 h => ?_)
        refine j_istore (lv' := [(4, .int r53), (3, .ref (ad (15 + κ30))), (0, .ref (ad 18)), (1, .int x1), (2, .int x2)]) C dX6_want_56 (by decide) rfl ?_
        refine j_iload C dX6_want_58 0 rfl ?_
        refine j_if_ge 70 C dX6_want_60 rfl h (fun h => ?_) (fun h => ?_)
        · refine j_aload_n C dX6_want_70 1 rfl ?_
          refine j_iload_n C dX6_want_71 3 rfl ?_
          refine j_iload_n C dX6_want_72 4 rfl ?_
          refine kc_takePiece [] κ30 x1 x2 C h ⟨by decide, by decide⟩ (Nat.le_of_ble_eq_true rfl) dX6_want_73 (fun r73 σ73 h => ?_)
          refine j_istore (lv' := [(5, .int r73), (4, .int r53), (3, .ref (ad (15 + κ30))), (0, .ref (ad 18)), (1, .int x1), (2, .int x2)]) C dX6_want_76 (by decide) rfl ?_
          refine j_iload C dX6_want_78 0 rfl ?_
          refine j_if_ge 90 C dX6_want_80 rfl h (fun h => ?_) (fun h => ?_)
          · refine j_aload_n C dX6_want_90 3 rfl ?_
            refine gf_X6_12 C dX6_want_91 ?_
            refine gf_X6_100 C dX6_want_94 ?_
            refine j_iload C dX6_want_97 1 rfl ?_
            refine j_dup2 C dX6_want_99 rfl rfl ?_
            refine al_wX_6 C h.1 dX6_want_100 ?_
            replace h := h.2
            refine j_iconst (v := 1) C dX6_want_101 (by decide) ?_
            refine j_iadd C dX6_want_102 ?_
            refine as_wX_6 C h.1 dX6_want_103 ?_
            replace h := h.2
            refine j_aload_n C dX6_want_104 3 rfl ?_
            refine gf_X6_12 C dX6_want_105 ?_
            refine j_iload C dX6_want_108 1 rfl ?_
            refine j_iload_n C dX6_want_110 4 rfl ?_
            refine j_iload C dX6_want_111 0 rfl ?_
            refine j_iload_n C dX6_want_113 5 rfl ?_
            refine j_callv 0 [.int r53, .int x1, .int r73, .int x2] [] C (kX3_putBlock_ok r53 x1 r73 x2 (sA σ73 3 r53.toNatClampNeg ((gA σ73 3 r53.toNatClampNeg) + 1)) h) (tt_V ml_X6_103 mV_X3_putBlock) ok_X3_putBlock ⟨by decide, by decide⟩ rfl (r_wX_0 (σ := sA σ73 3 r53.toNatClampNeg ((gA σ73 3 r53.toNatClampNeg) + 1))) (Nat.le_of_ble_eq_true rfl) rfl dX6_want_114 (fun σ114 h => ?_)
            refine j_aload_n C dX6_want_117 2 rfl ?_
            refine j_iload_n C dX6_want_118 4 rfl ?_
            refine kc_tidy [] κ30 x1 C h ⟨by decide, by decide⟩ (Nat.le_of_ble_eq_true rfl) dX6_want_119 (fun σ119 h => ?_)
            refine j_aload_n C dX6_want_122 3 rfl ?_
            refine gf_X6_12 C dX6_want_123 ?_
            refine j_iload C dX6_want_126 1 rfl ?_
            refine j_callpi 0 [.int r53] [] C (kX3_handleOf_ok r53 σ119 h) (tt_V ml_X6_110 mV_X3_handleOf) ok_X3_handleOf ⟨by decide, by decide⟩ rfl (r_wX_0 (σ := σ119)) (Nat.le_of_ble_eq_true rfl) rfl dX6_want_128 (fun r128 h => ?_)
            exact j_iret C dX6_want_131 h
          · refine j_aload_n C dX6_want_83 3 rfl ?_
            refine j_bipush (v := (-6)) C dX6_want_84 (by decide) ?_
            refine j_calli 18 [.int ((-6))] [] C (kX6_tell_ok ((-6)) σ73 h) (tt_V ml_X6_55 mV_X6_tell) ok_X6_tell ⟨by decide, by decide⟩ rfl (r_wX_18 (σ := σ73)) (Nat.le_of_ble_eq_true rfl) rfl dX6_want_86 (fun r86 σ86 h => ?_)
            exact j_iret C dX6_want_89 h
        · refine j_aload_n C dX6_want_63 2 rfl ?_
          refine j_bipush (v := (-6)) C dX6_want_64 (by decide) ?_
          refine j_calli 18 [.int ((-6))] [] C (kX6_tell_ok ((-6)) σ0 h) (tt_V ml_X6_55 mV_X6_tell) ok_X6_tell ⟨by decide, by decide⟩ rfl (r_wX_18 (σ := σ0)) (Nat.le_of_ble_eq_true rfl) rfl dX6_want_66 (fun r66 σ66 h => ?_)
          exact j_iret C dX6_want_69 h
      · refine j_aload_n C dX6_want_43 1 rfl ?_
        refine j_iconst (v := (-1)) C dX6_want_44 (by decide) ?_
        refine j_calli 18 [.int ((-1))] [] C (kX6_tell_ok ((-1)) σ0 h) (tt_V ml_X6_55 mV_X6_tell) ok_X6_tell ⟨by decide, by decide⟩ rfl (r_wX_18 (σ := σ0)) (Nat.le_of_ble_eq_true rfl) rfl dX6_want_45 (fun r45 σ45 h => ?_)
        exact j_iret C dX6_want_48 h
    · refine j_aload_n C dX6_want_21 0 rfl ?_
      refine j_bipush (v := (-3)) C dX6_want_22 (by decide) ?_
      refine j_calli 18 [.int ((-3))] [] C (kX6_tell_ok ((-3)) σ0 h) (tt_V ml_X6_55 mV_X6_tell) ok_X6_tell ⟨by decide, by decide⟩ rfl (r_wX_18 (σ := σ0)) (Nat.le_of_ble_eq_true rfl) rfl dX6_want_24 (fun r24 σ24 h => ?_)
      exact j_iret C dX6_want_27 h
  · refine j_aload_n C dX6_want_11 0 rfl ?_
    refine j_iconst (v := (-1)) C dX6_want_12 (by decide) ?_
    refine j_calli 18 [.int ((-1))] [] C (kX6_tell_ok ((-1)) σ0 h) (tt_V ml_X6_55 mV_X6_tell) ok_X6_tell ⟨by decide, by decide⟩ rfl (r_wX_18 (σ := σ0)) (Nat.le_of_ble_eq_true rfl) rfl dX6_want_13 (fun r13 σ13 h => ?_)
    exact j_iret C dX6_want_16 h
def wX6_give (x1 : Int32) (σ : SS) (Q : Int32 → SS → Prop) : Prop := wX3_find x1 σ (fun r5 => (0 ≤ r5 → wX3_spoiledWords r5 σ (fun r24 => (r24 = 0 → vp_in r5 100 ∧ (vp_in r5 100 ∧ (vp_in r5 100 ∧ (wX3_vacate (gA σ 5 r5.toNatClampNeg) (gA σ 6 r5.toNatClampNeg) σ (fun σ69 => vp_in r5 100 ∧ (wX6_keeperOf (gA σ 4 r5.toNatClampNeg) (sA σ69 4 r5.toNatClampNeg ((-1))) (fun κ84 => wK_tidy κ84 (gA σ 4 r5.toNatClampNeg) (sA σ69 4 r5.toNatClampNeg ((-1))) (fun σ88 => vp_in r5 100 ∧ (Q (gA σ88 7 r5.toNatClampNeg) σ88))))))))) ∧ (¬ r24 = 0 → wX6_tell ((-8)) σ (fun r33 σ33 => Q r33 σ33)))) ∧ (¬ 0 ≤ r5 → wX6_tell r5 σ (fun r15 σ15 => Q r15 σ15)))
set_option maxRecDepth 100000 in
set_option maxHeartbeats 4000000 in
theorem kX6_give_ok {l : Launch} {D : va_G} {cI cJ cZ : ClassId} {ad : Nat → Nat} {kv : Value} (x1 : Int32) (σ0 : SS) {Q : Int32 → SS → Prop} (h : wX6_give x1 σ0 Q) : Ci l yX6_give (.code yX6_give cX6_give 4 (some .int) :: TT) { frames := 5, cells := 0, slots := 0, locals := 114 } D (tys cI cJ cZ) (wX cI cJ ad kv) [.ref (ad 18), .int x1] σ0 Q := by
  refine Ci.of (lv := [(0, .ref (ad 18)), (1, .int x1)]) (by decide) adX (Nat.le_of_ble_eq_true rfl) rfl ?_
  intro p e s m args below meth c A C
  refine j_aload_n C dX6_give_0 0 rfl ?_
  refine gf_X6_12 C dX6_give_1 ?_
  refine j_iload_n C dX6_give_4 1 rfl ?_
  refine j_callpi 0 [.int x1] [] C (kX3_find_ok x1 σ0 h) (tt_V ml_X6_113 mV_X3_find) ok_X3_find ⟨by decide, by decide⟩ rfl (r_wX_0 (σ := σ0)) (Nat.le_of_ble_eq_true rfl) rfl dX6_give_5 (fun r5 h => ?_)
  refine j_istore_n (lv' := [(2, .int r5), (0, .ref (ad 18)), (1, .int x1)]) C dX6_give_8 (by decide) rfl ?_
  refine j_iload_n C dX6_give_9 0 rfl ?_
  refine j_if_ge 19 C dX6_give_10 rfl h (fun h => ?_) (fun h => ?_)
  · refine j_aload_n C dX6_give_19 1 rfl ?_
    refine gf_X6_12 C dX6_give_20 ?_
    refine j_iload_n C dX6_give_23 0 rfl ?_
    refine j_callpi 0 [.int r5] [] C (kX3_spoiledWords_ok r5 σ0 h) (tt_V ml_X6_116 mV_X3_spoiledWords) ok_X3_spoiledWords ⟨by decide, by decide⟩ rfl (r_wX_0 (σ := σ0)) (Nat.le_of_ble_eq_true rfl) rfl dX6_give_24 (fun r24 h => ?_)
    refine j_if_eq 37 C dX6_give_27 rfl h (fun h => ?_) (fun h => ?_)
    · refine j_aload_n C dX6_give_37 1 rfl ?_
      refine gf_X6_12 C dX6_give_38 ?_
      refine gf_X6_119 C dX6_give_41 ?_
      refine j_iload_n C dX6_give_44 0 rfl ?_
      refine al_wX_7 C h.1 dX6_give_45 ?_
      replace h := h.2
      refine j_istore_n (lv' := [(3, .int (gA σ0 4 r5.toNatClampNeg)), (2, .int r5), (0, .ref (ad 18)), (1, .int x1)]) C dX6_give_46 (by decide) rfl ?_
      refine j_aload_n C dX6_give_47 2 rfl ?_
      refine gf_X6_12 C dX6_give_48 ?_
      refine j_aload_n C dX6_give_51 2 rfl ?_
      refine gf_X6_12 C dX6_give_52 ?_
      refine gf_X6_122 C dX6_give_55 ?_
      refine j_iload_n C dX6_give_58 1 rfl ?_
      refine al_wX_8 C h.1 dX6_give_59 ?_
      replace h := h.2
      refine j_aload_n C dX6_give_60 2 rfl ?_
      refine gf_X6_12 C dX6_give_61 ?_
      refine gf_X6_125 C dX6_give_64 ?_
      refine j_iload_n C dX6_give_67 1 rfl ?_
      refine al_wX_9 C h.1 dX6_give_68 ?_
      replace h := h.2
      refine j_callv 0 [.int (gA σ0 5 r5.toNatClampNeg), .int (gA σ0 6 r5.toNatClampNeg)] [] C (kX3_vacate_ok (gA σ0 5 r5.toNatClampNeg) (gA σ0 6 r5.toNatClampNeg) σ0 h) (tt_V ml_X6_128 mV_X3_vacate) ok_X3_vacate ⟨by decide, by decide⟩ rfl (r_wX_0 (σ := σ0)) (Nat.le_of_ble_eq_true rfl) rfl dX6_give_69 (fun σ69 h => ?_)
      refine j_aload_n C dX6_give_72 2 rfl ?_
      refine gf_X6_12 C dX6_give_73 ?_
      refine gf_X6_119 C dX6_give_76 ?_
      refine j_iload_n C dX6_give_79 1 rfl ?_
      refine j_iconst (v := (-1)) C dX6_give_80 (by decide) ?_
      refine as_wX_7 C h.1 dX6_give_81 ?_
      replace h := h.2
      refine j_aload_n C dX6_give_82 2 rfl ?_
      refine j_iload_n C dX6_give_83 0 rfl ?_
      refine j_callpr 18 [.int (gA σ0 4 r5.toNatClampNeg)] [] C (kX6_keeperOf_ok (gA σ0 4 r5.toNatClampNeg) (sA σ69 4 r5.toNatClampNeg ((-1))) h) (tt_V ml_X6_83 mV_X6_keeperOf) ok_X6_keeperOf ⟨by decide, by decide⟩ rfl (r_wX_18 (σ := sA σ69 4 r5.toNatClampNeg ((-1)))) (Nat.le_of_ble_eq_true rfl) rfl dX6_give_84 (fun κ84 h => ?_)
      refine j_iload_n C dX6_give_87 0 rfl ?_
      refine kc_tidy [] κ84 (gA σ0 4 r5.toNatClampNeg) C h ⟨by decide, by decide⟩ (Nat.le_of_ble_eq_true rfl) dX6_give_88 (fun σ88 h => ?_)
      refine j_aload_n C dX6_give_91 2 rfl ?_
      refine gf_X6_12 C dX6_give_92 ?_
      refine gf_X6_132 C dX6_give_95 ?_
      refine j_iload_n C dX6_give_98 1 rfl ?_
      refine al_wX_10 C h.1 dX6_give_99 ?_
      replace h := h.2
      exact j_iret C dX6_give_100 h
    · refine j_aload_n C dX6_give_30 1 rfl ?_
      refine j_bipush (v := (-8)) C dX6_give_31 (by decide) ?_
      refine j_calli 18 [.int ((-8))] [] C (kX6_tell_ok ((-8)) σ0 h) (tt_V ml_X6_55 mV_X6_tell) ok_X6_tell ⟨by decide, by decide⟩ rfl (r_wX_18 (σ := σ0)) (Nat.le_of_ble_eq_true rfl) rfl dX6_give_33 (fun r33 σ33 h => ?_)
      exact j_iret C dX6_give_36 h
  · refine j_aload_n C dX6_give_13 1 rfl ?_
    refine j_iload_n C dX6_give_14 0 rfl ?_
    refine j_calli 18 [.int r5] [] C (kX6_tell_ok r5 σ0 h) (tt_V ml_X6_55 mV_X6_tell) ok_X6_tell ⟨by decide, by decide⟩ rfl (r_wX_18 (σ := σ0)) (Nat.le_of_ble_eq_true rfl) rfl dX6_give_15 (fun r15 σ15 h => ?_)
    exact j_iret C dX6_give_18 h
def wK_fits (κ : Nat) (x1 : Int32) (x2 : Int32) (σ : SS) (Q : Int32 → Prop) : Prop := match κ with
  | 0 => wX5_fits x1 x2 σ Q
  | 1 => wX0_fits x1 x2 σ Q
  | 2 => wX4_fits x1 x2 σ Q
  | _ => False
theorem okK_fits : "RoomWarden$Keeper" ≠ "java/lang/invoke/MethodHandle" ∧ "RoomWarden$Keeper" ≠ "java/lang/invoke/VarHandle" ∧ (parseMethodDescriptor "(II)Z").map (fun d => d.parameters.length) = some 2 := by decide +kernel
set_option maxRecDepth 100000 in
set_option maxHeartbeats 4000000 in
theorem kc_fits {p : Program} {l : Launch} {e : Env} {R : Room} {s : State} {m : MethodId} {args : Array Value} {below : List Frame} {meth : Method} {c : Code} {D : va_G} {A : Nat → Prop} {cc : ByteArray} {nL : Nat} {ret : Option FieldType} {Qs : State → Prop} {σ : SS} {pc : Nat} {lv : List (Nat × Value)} {cI cJ cZ : ClassId} {ad : Nat → Nat} {kv : Value} {Q : Int32 → Prop} (rest : List Value) (κ : Nat) (x1 : Int32) (x2 : Int32) (C : Cx p s m args meth c D (tys cI cJ cZ) (wX cI cJ ad kv) A cc nL RX6 ret) (h : wK_fits κ x1 x2 σ Q) (hR : 5 ≤ R.frames ∧ 107 ≤ R.locals) (hcat : (rest.map fun v => v.category).sum ≤ 8) (hd : decode cc pc = .ok (.invokevirtual 135, 3)) (K : ∀ (r : Int32), Q r → J p l e R s m args below meth c D (wX cI cJ ad kv) A nL Qs σ (pc + 3) lv (.int r :: rest)) : J p l e R s m args below meth c D (wX cI cJ ad kv) A nL Qs σ pc lv (.int x2 :: .int x1 :: .ref (ad (15 + κ)) :: rest) := by
  match κ, h with
  | 0, h => exact j_callUi (x := ⟨"RoomWarden$Keeper", "fits", "(II)Z"⟩) (owner := "RoomWarden$Keeper") 15 [.int x1, .int x2] rest C (kX5_fits_ok x1 x2 σ h) (tt_U ml_X6_135 msm_fits msu_X5_fits ⟨mm_X5_fits, mi_X5, mc_X5_fits⟩) (by decide +kernel) okK_fits ⟨Nat.le_trans (by decide) hR.1, Nat.le_trans (by decide) hR.2⟩ rfl (r_wX_15 (σ := σ)) hcat rfl hd (fun r σ' h => by rw [h.1]; exact K r h.2)
  | 1, h => exact j_callUi (x := ⟨"RoomWarden$Keeper", "fits", "(II)Z"⟩) (owner := "RoomWarden$Keeper") 16 [.int x1, .int x2] rest C (kX0_fits_ok x1 x2 σ h) (tt_U ml_X6_135 msm_fits msu_X0_fits ⟨mm_X0_fits, mi_X0, mc_X0_fits⟩) (by decide +kernel) okK_fits ⟨Nat.le_trans (by decide) hR.1, Nat.le_trans (by decide) hR.2⟩ rfl (r_wX_16 (σ := σ)) hcat rfl hd (fun r σ' h => by rw [h.1]; exact K r h.2)
  | 2, h => exact j_callUi (x := ⟨"RoomWarden$Keeper", "fits", "(II)Z"⟩) (owner := "RoomWarden$Keeper") 17 [.int x1, .int x2] rest C (kX4_fits_ok x1 x2 σ h) (tt_U ml_X6_135 msm_fits msu_X4_fits ⟨mm_X4_fits, mi_X4, mc_X4_fits⟩) (by decide +kernel) okK_fits ⟨Nat.le_trans (by decide) hR.1, Nat.le_trans (by decide) hR.2⟩ rfl (r_wX_17 (σ := σ)) hcat rfl hd (fun r σ' h => by rw [h.1]; exact K r h.2)
  | _ + 3, h => exact h.elim
def wK_reshape (κ : Nat) (x1 : Int32) (x2 : Int32) (σ : SS) (Q : SS → Prop) : Prop := match κ with
  | 0 => wX5_reshape x1 x2 σ Q
  | 1 => wX0_reshape x1 x2 σ Q
  | 2 => wX4_reshape x1 x2 σ Q
  | _ => False
theorem okK_reshape : "RoomWarden$Keeper" ≠ "java/lang/invoke/MethodHandle" ∧ "RoomWarden$Keeper" ≠ "java/lang/invoke/VarHandle" ∧ (parseMethodDescriptor "(II)V").map (fun d => d.parameters.length) = some 2 := by decide +kernel
set_option maxRecDepth 100000 in
set_option maxHeartbeats 4000000 in
theorem kc_reshape {p : Program} {l : Launch} {e : Env} {R : Room} {s : State} {m : MethodId} {args : Array Value} {below : List Frame} {meth : Method} {c : Code} {D : va_G} {A : Nat → Prop} {cc : ByteArray} {nL : Nat} {ret : Option FieldType} {Qs : State → Prop} {σ : SS} {pc : Nat} {lv : List (Nat × Value)} {cI cJ cZ : ClassId} {ad : Nat → Nat} {kv : Value} {Q : SS → Prop} (rest : List Value) (κ : Nat) (x1 : Int32) (x2 : Int32) (C : Cx p s m args meth c D (tys cI cJ cZ) (wX cI cJ ad kv) A cc nL RX6 ret) (h : wK_reshape κ x1 x2 σ Q) (hR : 5 ≤ R.frames ∧ 109 ≤ R.locals) (hcat : (rest.map fun v => v.category).sum ≤ 8) (hd : decode cc pc = .ok (.invokevirtual 238, 3)) (K : ∀ (σ' : SS), Q σ' → J p l e R s m args below meth c D (wX cI cJ ad kv) A nL Qs σ' (pc + 3) lv rest) : J p l e R s m args below meth c D (wX cI cJ ad kv) A nL Qs σ pc lv (.int x2 :: .int x1 :: .ref (ad (15 + κ)) :: rest) := by
  match κ, h with
  | 0, h => exact j_callUv (x := ⟨"RoomWarden$Keeper", "reshape", "(II)V"⟩) (owner := "RoomWarden$Keeper") 15 [.int x1, .int x2] rest C (kX5_reshape_ok x1 x2 σ h) (tt_U ml_X6_238 msm_reshape msu_X5_reshape ⟨mm_X5_reshape, mi_X5, mc_X5_reshape⟩) (by decide +kernel) okK_reshape ⟨Nat.le_trans (by decide) hR.1, Nat.le_trans (by decide) hR.2⟩ rfl (r_wX_15 (σ := σ)) hcat rfl hd (fun σ' h => K σ' h)
  | 1, h => exact j_callUv (x := ⟨"RoomWarden$Keeper", "reshape", "(II)V"⟩) (owner := "RoomWarden$Keeper") 16 [.int x1, .int x2] rest C (kX0_reshape_ok x1 x2 σ h) (tt_U ml_X6_238 msm_reshape msu_X0_reshape ⟨mm_X0_reshape, mi_X0, mc_X0_reshape⟩) (by decide +kernel) okK_reshape ⟨Nat.le_trans (by decide) hR.1, Nat.le_trans (by decide) hR.2⟩ rfl (r_wX_16 (σ := σ)) hcat rfl hd (fun σ' h => K σ' h)
  | 2, h => exact j_callUv (x := ⟨"RoomWarden$Keeper", "reshape", "(II)V"⟩) (owner := "RoomWarden$Keeper") 17 [.int x1, .int x2] rest C (kX4_reshape_ok x1 x2 σ h) (tt_U ml_X6_238 msm_reshape msu_X4_reshape ⟨mm_X4_reshape, mi_X4, mc_X4_reshape⟩) (by decide +kernel) okK_reshape ⟨Nat.le_trans (by decide) hR.1, Nat.le_trans (by decide) hR.2⟩ rfl (r_wX_17 (σ := σ)) hcat rfl hd (fun σ' h => K σ' h)
  | _ + 3, h => exact h.elim
def wX6_resize (κ1 : Nat) (x2 : Int32) (x3 : Int32) (σ : SS) (Q : SS → Prop) : Prop := wX3_setWords x2 0 σ (fun σ6 => wX3_firstNumber x2 σ6 (fun r18 => vp_in x2 100 ∧ (wX3_setNumbers (r18 + x3) ((gA σ6 7 x2.toNatClampNeg) - x3) 0 σ6 (fun σ35 => wK_reshape κ1 x2 x3 σ35 (fun σ41 => vp_in x2 100 ∧ (wX3_wordOf x2 (sA σ41 7 x2.toNatClampNeg x3) (fun r64 => wX3_setWords x2 r64 (sA σ41 7 x2.toNatClampNeg x3) (fun σ67 => vp_in x2 100 ∧ (wK_tidy κ1 (gA σ67 4 x2.toNatClampNeg) σ67 (fun σ80 => Q σ80))))))))))
set_option maxRecDepth 100000 in
set_option maxHeartbeats 4000000 in
theorem kX6_resize_ok {l : Launch} {D : va_G} {cI cJ cZ : ClassId} {ad : Nat → Nat} {kv : Value} (κ1 : Nat) (x2 : Int32) (x3 : Int32) (σ0 : SS) {Q : SS → Prop} (h : wX6_resize κ1 x2 x3 σ0 Q) : Cv l yX6_resize (.code yX6_resize cX6_resize 4 none :: TT) { frames := 5, cells := 0, slots := 0, locals := 114 } D (tys cI cJ cZ) (wX cI cJ ad kv) [.ref (ad 18), .ref (ad (15 + κ1)), .int x2, .int x3] σ0 Q := by
  refine Cv.of (lv := [(0, .ref (ad 18)), (1, .ref (ad (15 + κ1))), (2, .int x2), (3, .int x3)]) (by decide) adX (Nat.le_of_ble_eq_true rfl) rfl ?_
  intro p e s m args below meth c A C
  refine j_aload_n C dX6_resize_0 0 rfl ?_
  refine gf_X6_12 C dX6_resize_1 ?_
  refine j_iload_n C dX6_resize_4 2 rfl ?_
  refine j_lconst (v := 0) C dX6_resize_5 (by decide) ?_
  refine j_callv 0 [.int x2, .long 0] [] C (kX3_setWords_ok x2 0 σ0 h) (tt_V ml_X6_235 mV_X3_setWords) ok_X3_setWords ⟨by decide, by decide⟩ rfl (r_wX_0 (σ := σ0)) (Nat.le_of_ble_eq_true rfl) rfl dX6_resize_6 (fun σ6 h => ?_)
  refine j_aload_n C dX6_resize_9 0 rfl ?_
  refine gf_X6_12 C dX6_resize_10 ?_
  refine j_aload_n C dX6_resize_13 0 rfl ?_
  refine gf_X6_12 C dX6_resize_14 ?_
  refine j_iload_n C dX6_resize_17 2 rfl ?_
  refine j_callpi 0 [.int x2] [.ref (ad 0)] C (kX3_firstNumber_ok x2 σ6 h) (tt_V ml_X6_147 mV_X3_firstNumber) ok_X3_firstNumber ⟨by decide, by decide⟩ rfl (r_wX_0 (σ := σ6)) (Nat.le_of_ble_eq_true rfl) rfl dX6_resize_18 (fun r18 h => ?_)
  refine j_iload_n C dX6_resize_21 3 rfl ?_
  refine j_iadd C dX6_resize_22 ?_
  refine j_aload_n C dX6_resize_23 0 rfl ?_
  refine gf_X6_12 C dX6_resize_24 ?_
  refine gf_X6_132 C dX6_resize_27 ?_
  refine j_iload_n C dX6_resize_30 2 rfl ?_
  refine al_wX_10 C h.1 dX6_resize_31 ?_
  replace h := h.2
  refine j_iload_n C dX6_resize_32 3 rfl ?_
  refine j_isub C dX6_resize_33 ?_
  refine j_lconst (v := 0) C dX6_resize_34 (by decide) ?_
  refine j_callv 0 [.int (r18 + x3), .int ((gA σ6 7 x2.toNatClampNeg) - x3), .long 0] [] C (kX3_setNumbers_ok (r18 + x3) ((gA σ6 7 x2.toNatClampNeg) - x3) 0 σ6 h) (tt_V ml_X6_165 mV_X3_setNumbers) ok_X3_setNumbers ⟨by decide, by decide⟩ rfl (r_wX_0 (σ := σ6)) (Nat.le_of_ble_eq_true rfl) rfl dX6_resize_35 (fun σ35 h => ?_)
  refine j_aload_n C dX6_resize_38 1 rfl ?_
  refine j_iload_n C dX6_resize_39 2 rfl ?_
  refine j_iload_n C dX6_resize_40 3 rfl ?_
  refine kc_reshape [] κ1 x2 x3 C h ⟨by decide, by decide⟩ (Nat.le_of_ble_eq_true rfl) dX6_resize_41 (fun σ41 h => ?_)
  refine j_aload_n C dX6_resize_44 0 rfl ?_
  refine gf_X6_12 C dX6_resize_45 ?_
  refine gf_X6_132 C dX6_resize_48 ?_
  refine j_iload_n C dX6_resize_51 2 rfl ?_
  refine j_iload_n C dX6_resize_52 3 rfl ?_
  refine as_wX_10 C h.1 dX6_resize_53 ?_
  replace h := h.2
  refine j_aload_n C dX6_resize_54 0 rfl ?_
  refine gf_X6_12 C dX6_resize_55 ?_
  refine j_iload_n C dX6_resize_58 2 rfl ?_
  refine j_aload_n C dX6_resize_59 0 rfl ?_
  refine gf_X6_12 C dX6_resize_60 ?_
  refine j_iload_n C dX6_resize_63 2 rfl ?_
  refine j_callpl 0 [.int x2] [.int x2, .ref (ad 0)] C (kX3_wordOf_ok x2 (sA σ41 7 x2.toNatClampNeg x3) h) (tt_V ml_X6_241 mV_X3_wordOf) ok_X3_wordOf ⟨by decide, by decide⟩ rfl (r_wX_0 (σ := sA σ41 7 x2.toNatClampNeg x3)) (Nat.le_of_ble_eq_true rfl) rfl dX6_resize_64 (fun r64 h => ?_)
  refine j_callv 0 [.int x2, .long r64] [] C (kX3_setWords_ok x2 r64 (sA σ41 7 x2.toNatClampNeg x3) h) (tt_V ml_X6_235 mV_X3_setWords) ok_X3_setWords ⟨by decide, by decide⟩ rfl (r_wX_0 (σ := sA σ41 7 x2.toNatClampNeg x3)) (Nat.le_of_ble_eq_true rfl) rfl dX6_resize_67 (fun σ67 h => ?_)
  refine j_aload_n C dX6_resize_70 1 rfl ?_
  refine j_aload_n C dX6_resize_71 0 rfl ?_
  refine gf_X6_12 C dX6_resize_72 ?_
  refine gf_X6_119 C dX6_resize_75 ?_
  refine j_iload_n C dX6_resize_78 2 rfl ?_
  refine al_wX_7 C h.1 dX6_resize_79 ?_
  replace h := h.2
  refine kc_tidy [] κ1 (gA σ67 4 x2.toNatClampNeg) C h ⟨by decide, by decide⟩ (Nat.le_of_ble_eq_true rfl) dX6_resize_80 (fun σ80 h => ?_)
  exact j_vret C dX6_resize_83 h
def wX6_grow_b80 (σ : SS) (Q : Int32 → SS → Prop) : Prop := wX6_tell ((-1)) σ (fun r82 σ82 => Q r82 σ82)
def wX6_grow (x1 : Int32) (x2 : Int32) (σ : SS) (Q : Int32 → SS → Prop) : Prop := wX3_find x1 σ (fun r5 => (0 ≤ r5 → wX3_spoiledWords r5 σ (fun r24 => (r24 = 0 → vp_in r5 100 ∧ (wX6_keeperOf (gA σ 4 r5.toNatClampNeg) σ (fun κ51 => vp_in r5 100 ∧ ((x2 < (gA σ 7 r5.toNatClampNeg) → wX6_grow_b80 σ Q) ∧ (¬ x2 < (gA σ 7 r5.toNatClampNeg) → wK_mostOf κ51 (gA σ 4 r5.toNatClampNeg) σ (fun r74 => (x2 ≤ r74 → vp_in r5 100 ∧ ((¬ x2 = (gA σ 7 r5.toNatClampNeg) → wK_fits κ51 r5 x2 σ (fun r105 => (r105 = 0 → wK_takePiece κ51 (gA σ 4 r5.toNatClampNeg) x2 σ (fun r126 σ126 => (0 ≤ r126 → wX3_moveBlock r5 r126 x2 σ126 (fun σ151 => wK_tidy κ51 (gA σ 4 r5.toNatClampNeg) σ151 (fun σ158 => Q 2 σ158))) ∧ (¬ 0 ≤ r126 → wX6_tell ((-6)) σ126 (fun r139 σ139 => Q r139 σ139)))) ∧ (¬ r105 = 0 → wX6_resize κ51 r5 x2 σ (fun σ116 => Q 1 σ116)))) ∧ (x2 = (gA σ 7 r5.toNatClampNeg) → Q 1 σ))) ∧ (¬ x2 ≤ r74 → wX6_grow_b80 σ Q))))))) ∧ (¬ r24 = 0 → wX6_tell ((-8)) σ (fun r33 σ33 => Q r33 σ33)))) ∧ (¬ 0 ≤ r5 → wX6_tell r5 σ (fun r15 σ15 => Q r15 σ15)))
set_option maxRecDepth 100000 in
set_option maxHeartbeats 4000000 in
theorem kX6_grow_ok {l : Launch} {D : va_G} {cI cJ cZ : ClassId} {ad : Nat → Nat} {kv : Value} (x1 : Int32) (x2 : Int32) (σ0 : SS) {Q : Int32 → SS → Prop} (h : wX6_grow x1 x2 σ0 Q) : Ci l yX6_grow (.code yX6_grow cX6_grow 7 (some .int) :: TT) { frames := 6, cells := 0, slots := 0, locals := 140 } D (tys cI cJ cZ) (wX cI cJ ad kv) [.ref (ad 18), .int x1, .int x2] σ0 Q := by
  refine Ci.of (lv := [(0, .ref (ad 18)), (1, .int x1), (2, .int x2)]) (by decide) adX (Nat.le_of_ble_eq_true rfl) rfl ?_
  intro p e s m args below meth c A C
  have k80 : ∀ (σ : SS), wX6_grow_b80 σ Q → J p l e { frames := 6, cells := 0, slots := 0, locals := 140 } s m args below meth c D (wX cI cJ ad kv) A 7 (MQ below (va_Qi Q (WW D (tys cI cJ cZ) (wX cI cJ ad kv)) A) args s 0 0 A) σ 80 [(0, .ref (ad 18))] [] := by
    intro σ h
    refine j_aload_n C dX6_grow_80 0 rfl ?_
    refine j_iconst (v := (-1)) C dX6_grow_81 (by decide) ?_
    refine j_calli 18 [.int ((-1))] [] C (kX6_tell_ok ((-1)) σ h) (tt_V ml_X6_55 mV_X6_tell) ok_X6_tell ⟨by decide, by decide⟩ rfl (r_wX_18 (σ := σ)) (Nat.le_of_ble_eq_true rfl) rfl dX6_grow_82 (fun r82 σ82 h => ?_)
    exact j_iret C dX6_grow_85 h
  refine j_aload_n C dX6_grow_0 0 rfl ?_
  refine gf_X6_12 C dX6_grow_1 ?_
  refine j_iload_n C dX6_grow_4 1 rfl ?_
  refine j_callpi 0 [.int x1] [] C (kX3_find_ok x1 σ0 h) (tt_V ml_X6_113 mV_X3_find) ok_X3_find ⟨by decide, by decide⟩ rfl (r_wX_0 (σ := σ0)) (Nat.le_of_ble_eq_true rfl) rfl dX6_grow_5 (fun r5 h => ?_)
  refine j_istore_n (lv' := [(3, .int r5), (0, .ref (ad 18)), (1, .int x1), (2, .int x2)]) C dX6_grow_8 (by decide) rfl ?_
  refine j_iload_n C dX6_grow_9 0 rfl ?_
  refine j_if_ge 19 C dX6_grow_10 rfl h (fun h => ?_) (fun h => ?_)
  · refine j_aload_n C dX6_grow_19 1 rfl ?_
    refine gf_X6_12 C dX6_grow_20 ?_
    refine j_iload_n C dX6_grow_23 0 rfl ?_
    refine j_callpi 0 [.int r5] [] C (kX3_spoiledWords_ok r5 σ0 h) (tt_V ml_X6_116 mV_X3_spoiledWords) ok_X3_spoiledWords ⟨by decide, by decide⟩ rfl (r_wX_0 (σ := σ0)) (Nat.le_of_ble_eq_true rfl) rfl dX6_grow_24 (fun r24 h => ?_)
    refine j_if_eq 37 C dX6_grow_27 rfl h (fun h => ?_) (fun h => ?_)
    · refine j_aload_n C dX6_grow_37 1 rfl ?_
      refine gf_X6_12 C dX6_grow_38 ?_
      refine gf_X6_119 C dX6_grow_41 ?_
      refine j_iload_n C dX6_grow_44 0 rfl ?_
      refine al_wX_7 C h.1 dX6_grow_45 ?_
      replace h := h.2
      refine j_istore (lv' := [(4, .int (gA σ0 4 r5.toNatClampNeg)), (3, .int r5), (0, .ref (ad 18)), (1, .int x1), (2, .int x2)]) C dX6_grow_46 (by decide) rfl ?_
      refine j_aload_n C dX6_grow_48 2 rfl ?_
      refine j_iload C dX6_grow_49 0 rfl ?_
      refine j_callpr 18 [.int (gA σ0 4 r5.toNatClampNeg)] [] C (kX6_keeperOf_ok (gA σ0 4 r5.toNatClampNeg) σ0 h) (tt_V ml_X6_83 mV_X6_keeperOf) ok_X6_keeperOf ⟨by decide, by decide⟩ rfl (r_wX_18 (σ := σ0)) (Nat.le_of_ble_eq_true rfl) rfl dX6_grow_51 (fun κ51 h => ?_)
      refine j_astore (lv' := [(5, .ref (ad (15 + κ51))), (4, .int (gA σ0 4 r5.toNatClampNeg)), (3, .int r5), (0, .ref (ad 18)), (1, .int x1), (2, .int x2)]) C dX6_grow_54 (by decide) rfl ?_
      refine j_iload_n C dX6_grow_56 5 rfl ?_
      refine j_aload_n C dX6_grow_57 3 rfl ?_
      refine gf_X6_12 C dX6_grow_58 ?_
      refine gf_X6_132 C dX6_grow_61 ?_
      refine j_iload_n C dX6_grow_64 2 rfl ?_
      refine al_wX_10 C h.1 dX6_grow_65 ?_
      replace h := h.2
      refine j_icmp_lt 80 C dX6_grow_66 rfl h (fun h => ?_) (fun h => ?_)
      · refine j_sub (lv' := [(0, .ref (ad 18))]) [3] rfl ?_
        exact k80 _ h
      · refine j_iload_n C dX6_grow_69 5 rfl ?_
        refine j_aload C dX6_grow_70 0 rfl ?_
        refine j_iload C dX6_grow_72 1 rfl ?_
        refine kc_mostOf [.int x2] κ51 (gA σ0 4 r5.toNatClampNeg) C h ⟨by decide, by decide⟩ (Nat.le_of_ble_eq_true rfl) dX6_grow_74 (fun r74 h => ?_)
        refine j_icmp_le 86 C dX6_grow_77 rfl h (fun h => ?_) (fun h => ?_)
        · refine j_iload_n C dX6_grow_86 5 rfl ?_
          refine j_aload_n C dX6_grow_87 3 rfl ?_
          refine gf_X6_12 C dX6_grow_88 ?_
          refine gf_X6_132 C dX6_grow_91 ?_
          refine j_iload_n C dX6_grow_94 2 rfl ?_
          refine al_wX_10 C h.1 dX6_grow_95 ?_
          replace h := h.2
          refine j_icmp_ne 101 C dX6_grow_96 rfl h (fun h => ?_) (fun h => ?_)
          · refine j_aload C dX6_grow_101 0 rfl ?_
            refine j_iload_n C dX6_grow_103 2 rfl ?_
            refine j_iload_n C dX6_grow_104 5 rfl ?_
            refine kc_fits [] κ51 r5 x2 C h ⟨by decide, by decide⟩ (Nat.le_of_ble_eq_true rfl) dX6_grow_105 (fun r105 h => ?_)
            refine j_if_eq 121 C dX6_grow_108 rfl h (fun h => ?_) (fun h => ?_)
            · refine j_aload C dX6_grow_121 0 rfl ?_
              refine j_iload C dX6_grow_123 1 rfl ?_
              refine j_iload_n C dX6_grow_125 5 rfl ?_
              refine kc_takePiece [] κ51 (gA σ0 4 r5.toNatClampNeg) x2 C h ⟨by decide, by decide⟩ (Nat.le_of_ble_eq_true rfl) dX6_grow_126 (fun r126 σ126 h => ?_)
              refine j_istore (lv' := [(6, .int r126), (5, .ref (ad (15 + κ51))), (4, .int (gA σ0 4 r5.toNatClampNeg)), (3, .int r5), (0, .ref (ad 18)), (1, .int x1), (2, .int x2)]) C dX6_grow_129 (by decide) rfl ?_
              refine j_iload C dX6_grow_131 0 rfl ?_
              refine j_if_ge 143 C dX6_grow_133 rfl h (fun h => ?_) (fun h => ?_)
              · refine j_aload_n C dX6_grow_143 4 rfl ?_
                refine gf_X6_12 C dX6_grow_144 ?_
                refine j_iload_n C dX6_grow_147 3 rfl ?_
                refine j_iload C dX6_grow_148 0 rfl ?_
                refine j_iload_n C dX6_grow_150 6 rfl ?_
                refine j_callv 0 [.int r5, .int r126, .int x2] [] C (kX3_moveBlock_ok r5 r126 x2 σ126 h) (tt_V ml_X6_143 mV_X3_moveBlock) ok_X3_moveBlock ⟨by decide, by decide⟩ rfl (r_wX_0 (σ := σ126)) (Nat.le_of_ble_eq_true rfl) rfl dX6_grow_151 (fun σ151 h => ?_)
                refine j_aload C dX6_grow_154 1 rfl ?_
                refine j_iload C dX6_grow_156 2 rfl ?_
                refine kc_tidy [] κ51 (gA σ0 4 r5.toNatClampNeg) C h ⟨by decide, by decide⟩ (Nat.le_of_ble_eq_true rfl) dX6_grow_158 (fun σ158 h => ?_)
                refine j_iconst (v := 2) C dX6_grow_161 (by decide) ?_
                exact j_iret C dX6_grow_162 h
              · refine j_aload_n C dX6_grow_136 4 rfl ?_
                refine j_bipush (v := (-6)) C dX6_grow_137 (by decide) ?_
                refine j_calli 18 [.int ((-6))] [] C (kX6_tell_ok ((-6)) σ126 h) (tt_V ml_X6_55 mV_X6_tell) ok_X6_tell ⟨by decide, by decide⟩ rfl (r_wX_18 (σ := σ126)) (Nat.le_of_ble_eq_true rfl) rfl dX6_grow_139 (fun r139 σ139 h => ?_)
                exact j_iret C dX6_grow_142 h
            · refine j_aload_n C dX6_grow_111 3 rfl ?_
              refine j_aload C dX6_grow_112 0 rfl ?_
              refine j_iload_n C dX6_grow_114 2 rfl ?_
              refine j_iload_n C dX6_grow_115 5 rfl ?_
              refine j_callv 18 [.ref (ad (15 + κ51)), .int r5, .int x2] [] C (kX6_resize_ok κ51 r5 x2 σ0 h) (tt_V ml_X6_139 mV_X6_resize) ok_X6_resize ⟨by decide, by decide⟩ rfl (r_wX_18 (σ := σ0)) (Nat.le_of_ble_eq_true rfl) rfl dX6_grow_116 (fun σ116 h => ?_)
              refine j_iconst (v := 1) C dX6_grow_119 (by decide) ?_
              exact j_iret C dX6_grow_120 h
          · refine j_iconst (v := 1) C dX6_grow_99 (by decide) ?_
            exact j_iret C dX6_grow_100 h
        · refine j_sub (lv' := [(0, .ref (ad 18))]) [3] rfl ?_
          exact k80 _ h
    · refine j_aload_n C dX6_grow_30 1 rfl ?_
      refine j_bipush (v := (-8)) C dX6_grow_31 (by decide) ?_
      refine j_calli 18 [.int ((-8))] [] C (kX6_tell_ok ((-8)) σ0 h) (tt_V ml_X6_55 mV_X6_tell) ok_X6_tell ⟨by decide, by decide⟩ rfl (r_wX_18 (σ := σ0)) (Nat.le_of_ble_eq_true rfl) rfl dX6_grow_33 (fun r33 σ33 h => ?_)
      exact j_iret C dX6_grow_36 h
  · refine j_aload_n C dX6_grow_13 1 rfl ?_
    refine j_iload_n C dX6_grow_14 0 rfl ?_
    refine j_calli 18 [.int r5] [] C (kX6_tell_ok r5 σ0 h) (tt_V ml_X6_55 mV_X6_tell) ok_X6_tell ⟨by decide, by decide⟩ rfl (r_wX_18 (σ := σ0)) (Nat.le_of_ble_eq_true rfl) rfl dX6_grow_15 (fun r15 σ15 h => ?_)
    exact j_iret C dX6_grow_18 h
def wX6_shrink (x1 : Int32) (x2 : Int32) (σ : SS) (Q : Int32 → SS → Prop) : Prop := wX3_find x1 σ (fun r5 => (0 ≤ r5 → wX3_spoiledWords r5 σ (fun r24 => (r24 = 0 → (0 ≤ x2 → vp_in r5 100 ∧ ((0 ≤ ((gA σ 7 r5.toNatClampNeg) - x2) → (((gA σ 7 r5.toNatClampNeg) - x2) ≤ 0 → Q ((gA σ 7 r5.toNatClampNeg) - x2) σ) ∧ (¬ ((gA σ 7 r5.toNatClampNeg) - x2) ≤ 0 → vp_in r5 100 ∧ (wX6_keeperOf (gA σ 4 r5.toNatClampNeg) σ (fun κ88 => wX6_resize κ88 r5 x2 σ (fun σ93 => Q ((gA σ 7 r5.toNatClampNeg) - x2) σ93))))) ∧ (¬ 0 ≤ ((gA σ 7 r5.toNatClampNeg) - x2) → wX6_tell ((-1)) σ (fun r68 σ68 => Q r68 σ68)))) ∧ (¬ 0 ≤ x2 → wX6_tell ((-3)) σ (fun r44 σ44 => Q r44 σ44))) ∧ (¬ r24 = 0 → wX6_tell ((-8)) σ (fun r33 σ33 => Q r33 σ33)))) ∧ (¬ 0 ≤ r5 → wX6_tell r5 σ (fun r15 σ15 => Q r15 σ15)))
set_option maxRecDepth 100000 in
set_option maxHeartbeats 4000000 in
theorem kX6_shrink_ok {l : Launch} {D : va_G} {cI cJ cZ : ClassId} {ad : Nat → Nat} {kv : Value} (x1 : Int32) (x2 : Int32) (σ0 : SS) {Q : Int32 → SS → Prop} (h : wX6_shrink x1 x2 σ0 Q) : Ci l yX6_shrink (.code yX6_shrink cX6_shrink 5 (some .int) :: TT) { frames := 6, cells := 0, slots := 0, locals := 137 } D (tys cI cJ cZ) (wX cI cJ ad kv) [.ref (ad 18), .int x1, .int x2] σ0 Q := by
  refine Ci.of (lv := [(0, .ref (ad 18)), (1, .int x1), (2, .int x2)]) (by decide) adX (Nat.le_of_ble_eq_true rfl) rfl ?_
  intro p e s m args below meth c A C
  refine j_aload_n C dX6_shrink_0 0 rfl ?_
  refine gf_X6_12 C dX6_shrink_1 ?_
  refine j_iload_n C dX6_shrink_4 1 rfl ?_
  refine j_callpi 0 [.int x1] [] C (kX3_find_ok x1 σ0 h) (tt_V ml_X6_113 mV_X3_find) ok_X3_find ⟨by decide, by decide⟩ rfl (r_wX_0 (σ := σ0)) (Nat.le_of_ble_eq_true rfl) rfl dX6_shrink_5 (fun r5 h => ?_)
  refine j_istore_n (lv' := [(3, .int r5), (0, .ref (ad 18)), (1, .int x1), (2, .int x2)]) C dX6_shrink_8 (by decide) rfl ?_
  refine j_iload_n C dX6_shrink_9 0 rfl ?_
  refine j_if_ge 19 C dX6_shrink_10 rfl h (fun h => ?_) (fun h => ?_)
  · refine j_aload_n C dX6_shrink_19 1 rfl ?_
    refine gf_X6_12 C dX6_shrink_20 ?_
    refine j_iload_n C dX6_shrink_23 0 rfl ?_
    refine j_callpi 0 [.int r5] [] C (kX3_spoiledWords_ok r5 σ0 h) (tt_V ml_X6_116 mV_X3_spoiledWords) ok_X3_spoiledWords ⟨by decide, by decide⟩ rfl (r_wX_0 (σ := σ0)) (Nat.le_of_ble_eq_true rfl) rfl dX6_shrink_24 (fun r24 h => ?_)
    refine j_if_eq 37 C dX6_shrink_27 rfl h (fun h => ?_) (fun h => ?_)
    · refine j_iload_n C dX6_shrink_37 3 rfl ?_
      refine j_if_ge 48 C dX6_shrink_38 rfl h (fun h => ?_) (fun h => ?_)
      · refine j_aload_n C dX6_shrink_48 1 rfl ?_
        refine gf_X6_12 C dX6_shrink_49 ?_
        refine gf_X6_132 C dX6_shrink_52 ?_
        refine j_iload_n C dX6_shrink_55 0 rfl ?_
        refine al_wX_10 C h.1 dX6_shrink_56 ?_
        replace h := h.2
        refine j_iload_n C dX6_shrink_57 3 rfl ?_
        refine j_isub C dX6_shrink_58 ?_
        refine j_istore (lv' := [(4, .int ((gA σ0 7 r5.toNatClampNeg) - x2)), (3, .int r5), (0, .ref (ad 18)), (1, .int x1), (2, .int x2)]) C dX6_shrink_59 (by decide) rfl ?_
        refine j_iload C dX6_shrink_61 0 rfl ?_
        refine j_if_ge 72 C dX6_shrink_63 rfl h (fun h => ?_) (fun h => ?_)
        · refine j_iload C dX6_shrink_72 0 rfl ?_
          refine j_if_le 96 C dX6_shrink_74 rfl h (fun h => ?_) (fun h => ?_)
          · refine j_iload C dX6_shrink_96 0 rfl ?_
            exact j_iret C dX6_shrink_98 h
          · refine j_aload_n C dX6_shrink_77 2 rfl ?_
            refine j_aload_n C dX6_shrink_78 2 rfl ?_
            refine j_aload_n C dX6_shrink_79 2 rfl ?_
            refine gf_X6_12 C dX6_shrink_80 ?_
            refine gf_X6_119 C dX6_shrink_83 ?_
            refine j_iload_n C dX6_shrink_86 1 rfl ?_
            refine al_wX_7 C h.1 dX6_shrink_87 ?_
            replace h := h.2
            refine j_callpr 18 [.int (gA σ0 4 r5.toNatClampNeg)] [.ref (ad 18)] C (kX6_keeperOf_ok (gA σ0 4 r5.toNatClampNeg) σ0 h) (tt_V ml_X6_83 mV_X6_keeperOf) ok_X6_keeperOf ⟨by decide, by decide⟩ rfl (r_wX_18 (σ := σ0)) (Nat.le_of_ble_eq_true rfl) rfl dX6_shrink_88 (fun κ88 h => ?_)
            refine j_iload_n C dX6_shrink_91 1 rfl ?_
            refine j_iload_n C dX6_shrink_92 4 rfl ?_
            refine j_callv 18 [.ref (ad (15 + κ88)), .int r5, .int x2] [] C (kX6_resize_ok κ88 r5 x2 σ0 h) (tt_V ml_X6_139 mV_X6_resize) ok_X6_resize ⟨by decide, by decide⟩ rfl (r_wX_18 (σ := σ0)) (Nat.le_of_ble_eq_true rfl) rfl dX6_shrink_93 (fun σ93 h => ?_)
            refine j_iload C dX6_shrink_96 0 rfl ?_
            exact j_iret C dX6_shrink_98 h
        · refine j_aload_n C dX6_shrink_66 2 rfl ?_
          refine j_iconst (v := (-1)) C dX6_shrink_67 (by decide) ?_
          refine j_calli 18 [.int ((-1))] [] C (kX6_tell_ok ((-1)) σ0 h) (tt_V ml_X6_55 mV_X6_tell) ok_X6_tell ⟨by decide, by decide⟩ rfl (r_wX_18 (σ := σ0)) (Nat.le_of_ble_eq_true rfl) rfl dX6_shrink_68 (fun r68 σ68 h => ?_)
          exact j_iret C dX6_shrink_71 h
      · refine j_aload_n C dX6_shrink_41 1 rfl ?_
        refine j_bipush (v := (-3)) C dX6_shrink_42 (by decide) ?_
        refine j_calli 18 [.int ((-3))] [] C (kX6_tell_ok ((-3)) σ0 h) (tt_V ml_X6_55 mV_X6_tell) ok_X6_tell ⟨by decide, by decide⟩ rfl (r_wX_18 (σ := σ0)) (Nat.le_of_ble_eq_true rfl) rfl dX6_shrink_44 (fun r44 σ44 h => ?_)
        exact j_iret C dX6_shrink_47 h
    · refine j_aload_n C dX6_shrink_30 1 rfl ?_
      refine j_bipush (v := (-8)) C dX6_shrink_31 (by decide) ?_
      refine j_calli 18 [.int ((-8))] [] C (kX6_tell_ok ((-8)) σ0 h) (tt_V ml_X6_55 mV_X6_tell) ok_X6_tell ⟨by decide, by decide⟩ rfl (r_wX_18 (σ := σ0)) (Nat.le_of_ble_eq_true rfl) rfl dX6_shrink_33 (fun r33 σ33 h => ?_)
      exact j_iret C dX6_shrink_36 h
  · refine j_aload_n C dX6_shrink_13 1 rfl ?_
    refine j_iload_n C dX6_shrink_14 0 rfl ?_
    refine j_calli 18 [.int r5] [] C (kX6_tell_ok r5 σ0 h) (tt_V ml_X6_55 mV_X6_tell) ok_X6_tell ⟨by decide, by decide⟩ rfl (r_wX_18 (σ := σ0)) (Nat.le_of_ble_eq_true rfl) rfl dX6_shrink_15 (fun r15 σ15 h => ?_)
    exact j_iret C dX6_shrink_18 h
def wX6_write_b40 (σ : SS) (Q : Int32 → SS → Prop) : Prop := wX6_tell ((-1)) σ (fun r42 σ42 => Q r42 σ42)
def wX6_write (x1 : Int32) (x2 : Int32) (x3 : Int64) (σ : SS) (Q : Int32 → SS → Prop) : Prop := wX3_find x1 σ (fun r5 => (0 ≤ r5 → (x2 < 0 → wX6_write_b40 σ Q) ∧ (¬ x2 < 0 → vp_in r5 100 ∧ ((x2 < (gA σ 7 r5.toNatClampNeg) → wX3_firstNumber r5 σ (fun r56 => wX3_setNumber (r56 + x2) x3 σ (fun σ62 => Q 0 σ62))) ∧ (¬ x2 < (gA σ 7 r5.toNatClampNeg) → wX6_write_b40 σ Q)))) ∧ (¬ 0 ≤ r5 → wX6_tell r5 σ (fun r18 σ18 => Q r18 σ18)))
set_option maxRecDepth 100000 in
set_option maxHeartbeats 4000000 in
theorem kX6_write_ok {l : Launch} {D : va_G} {cI cJ cZ : ClassId} {ad : Nat → Nat} {kv : Value} (x1 : Int32) (x2 : Int32) (x3 : Int64) (σ0 : SS) {Q : Int32 → SS → Prop} (h : wX6_write x1 x2 x3 σ0 Q) : Ci l yX6_write (.code yX6_write cX6_write 6 (some .int) :: TT) { frames := 4, cells := 0, slots := 0, locals := 85 } D (tys cI cJ cZ) (wX cI cJ ad kv) [.ref (ad 18), .int x1, .int x2, .long x3] σ0 Q := by
  refine Ci.of (lv := [(0, .ref (ad 18)), (1, .int x1), (2, .int x2), (3, .long x3)]) (by decide) adX (Nat.le_of_ble_eq_true rfl) rfl ?_
  intro p e s m args below meth c A C
  have k40 : ∀ (σ : SS), wX6_write_b40 σ Q → J p l e { frames := 4, cells := 0, slots := 0, locals := 85 } s m args below meth c D (wX cI cJ ad kv) A 6 (MQ below (va_Qi Q (WW D (tys cI cJ cZ) (wX cI cJ ad kv)) A) args s 0 0 A) σ 40 [(0, .ref (ad 18))] [] := by
    intro σ h
    refine j_aload_n C dX6_write_40 0 rfl ?_
    refine j_iconst (v := (-1)) C dX6_write_41 (by decide) ?_
    refine j_calli 18 [.int ((-1))] [] C (kX6_tell_ok ((-1)) σ h) (tt_V ml_X6_55 mV_X6_tell) ok_X6_tell ⟨by decide, by decide⟩ rfl (r_wX_18 (σ := σ)) (Nat.le_of_ble_eq_true rfl) rfl dX6_write_42 (fun r42 σ42 h => ?_)
    exact j_iret C dX6_write_45 h
  refine j_aload_n C dX6_write_0 0 rfl ?_
  refine gf_X6_12 C dX6_write_1 ?_
  refine j_iload_n C dX6_write_4 1 rfl ?_
  refine j_callpi 0 [.int x1] [] C (kX3_find_ok x1 σ0 h) (tt_V ml_X6_113 mV_X3_find) ok_X3_find ⟨by decide, by decide⟩ rfl (r_wX_0 (σ := σ0)) (Nat.le_of_ble_eq_true rfl) rfl dX6_write_5 (fun r5 h => ?_)
  refine j_istore (lv' := [(5, .int r5), (0, .ref (ad 18)), (1, .int x1), (2, .int x2), (3, .long x3)]) C dX6_write_8 (by decide) rfl ?_
  refine j_iload C dX6_write_10 0 rfl ?_
  refine j_if_ge 22 C dX6_write_12 rfl h (fun h => ?_) (fun h => ?_)
  · refine j_iload_n C dX6_write_22 3 rfl ?_
    refine j_if_lt 40 C dX6_write_23 rfl h (fun h => ?_) (fun h => ?_)
    · refine j_sub (lv' := [(0, .ref (ad 18))]) [1] rfl ?_
      exact k40 _ h
    · refine j_iload_n C dX6_write_26 3 rfl ?_
      refine j_aload_n C dX6_write_27 1 rfl ?_
      refine gf_X6_12 C dX6_write_28 ?_
      refine gf_X6_132 C dX6_write_31 ?_
      refine j_iload C dX6_write_34 0 rfl ?_
      refine al_wX_10 C h.1 dX6_write_36 ?_
      replace h := h.2
      refine j_icmp_lt 46 C dX6_write_37 rfl h (fun h => ?_) (fun h => ?_)
      · refine j_aload_n C dX6_write_46 1 rfl ?_
        refine gf_X6_12 C dX6_write_47 ?_
        refine j_aload_n C dX6_write_50 1 rfl ?_
        refine gf_X6_12 C dX6_write_51 ?_
        refine j_iload C dX6_write_54 0 rfl ?_
        refine j_callpi 0 [.int r5] [.ref (ad 0)] C (kX3_firstNumber_ok r5 σ0 h) (tt_V ml_X6_147 mV_X3_firstNumber) ok_X3_firstNumber ⟨by decide, by decide⟩ rfl (r_wX_0 (σ := σ0)) (Nat.le_of_ble_eq_true rfl) rfl dX6_write_56 (fun r56 h => ?_)
        refine j_iload_n C dX6_write_59 3 rfl ?_
        refine j_iadd C dX6_write_60 ?_
        refine j_lload_n C dX6_write_61 4 rfl ?_
        refine j_callv 0 [.int (r56 + x2), .long x3] [] C (kX3_setNumber_ok (r56 + x2) x3 σ0 h) (tt_V ml_X6_150 mV_X3_setNumber) ok_X3_setNumber ⟨by decide, by decide⟩ rfl (r_wX_0 (σ := σ0)) (Nat.le_of_ble_eq_true rfl) rfl dX6_write_62 (fun σ62 h => ?_)
        refine j_iconst (v := 0) C dX6_write_65 (by decide) ?_
        exact j_iret C dX6_write_66 h
      · refine j_sub (lv' := [(0, .ref (ad 18))]) [1] rfl ?_
        exact k40 _ h
  · refine j_aload_n C dX6_write_15 1 rfl ?_
    refine j_iload C dX6_write_16 0 rfl ?_
    refine j_calli 18 [.int r5] [] C (kX6_tell_ok r5 σ0 h) (tt_V ml_X6_55 mV_X6_tell) ok_X6_tell ⟨by decide, by decide⟩ rfl (r_wX_18 (σ := σ0)) (Nat.le_of_ble_eq_true rfl) rfl dX6_write_18 (fun r18 σ18 h => ?_)
    exact j_iret C dX6_write_21 h
def wX6_read_b36 (σ : SS) (Q : Int32 → SS → Prop) : Prop := wX6_tell ((-1)) σ (fun r38 σ38 => Q r38 σ38)
def wX6_read (x1 : Int32) (x2 : Int32) (σ : SS) (Q : Int32 → SS → Prop) : Prop := wX3_find x1 σ (fun r5 => (0 ≤ r5 → (x2 < 0 → wX6_read_b36 σ Q) ∧ (¬ x2 < 0 → vp_in r5 100 ∧ ((x2 < (gA σ 7 r5.toNatClampNeg) → wX3_firstNumber r5 σ (fun r52 => wX3_numberAt (r52 + x2) σ (fun r57 => Q 0 (sL σ 0 r57)))) ∧ (¬ x2 < (gA σ 7 r5.toNatClampNeg) → wX6_read_b36 σ Q)))) ∧ (¬ 0 ≤ r5 → wX6_tell r5 σ (fun r15 σ15 => Q r15 σ15)))
set_option maxRecDepth 100000 in
set_option maxHeartbeats 4000000 in
theorem kX6_read_ok {l : Launch} {D : va_G} {cI cJ cZ : ClassId} {ad : Nat → Nat} {kv : Value} (x1 : Int32) (x2 : Int32) (σ0 : SS) {Q : Int32 → SS → Prop} (h : wX6_read x1 x2 σ0 Q) : Ci l yX6_read (.code yX6_read cX6_read 4 (some .int) :: TT) { frames := 4, cells := 0, slots := 0, locals := 85 } D (tys cI cJ cZ) (wX cI cJ ad kv) [.ref (ad 18), .int x1, .int x2] σ0 Q := by
  refine Ci.of (lv := [(0, .ref (ad 18)), (1, .int x1), (2, .int x2)]) (by decide) adX (Nat.le_of_ble_eq_true rfl) rfl ?_
  intro p e s m args below meth c A C
  have k36 : ∀ (σ : SS), wX6_read_b36 σ Q → J p l e { frames := 4, cells := 0, slots := 0, locals := 85 } s m args below meth c D (wX cI cJ ad kv) A 4 (MQ below (va_Qi Q (WW D (tys cI cJ cZ) (wX cI cJ ad kv)) A) args s 0 0 A) σ 36 [(0, .ref (ad 18))] [] := by
    intro σ h
    refine j_aload_n C dX6_read_36 0 rfl ?_
    refine j_iconst (v := (-1)) C dX6_read_37 (by decide) ?_
    refine j_calli 18 [.int ((-1))] [] C (kX6_tell_ok ((-1)) σ h) (tt_V ml_X6_55 mV_X6_tell) ok_X6_tell ⟨by decide, by decide⟩ rfl (r_wX_18 (σ := σ)) (Nat.le_of_ble_eq_true rfl) rfl dX6_read_38 (fun r38 σ38 h => ?_)
    exact j_iret C dX6_read_41 h
  refine j_aload_n C dX6_read_0 0 rfl ?_
  refine gf_X6_12 C dX6_read_1 ?_
  refine j_iload_n C dX6_read_4 1 rfl ?_
  refine j_callpi 0 [.int x1] [] C (kX3_find_ok x1 σ0 h) (tt_V ml_X6_113 mV_X3_find) ok_X3_find ⟨by decide, by decide⟩ rfl (r_wX_0 (σ := σ0)) (Nat.le_of_ble_eq_true rfl) rfl dX6_read_5 (fun r5 h => ?_)
  refine j_istore_n (lv' := [(3, .int r5), (0, .ref (ad 18)), (1, .int x1), (2, .int x2)]) C dX6_read_8 (by decide) rfl ?_
  refine j_iload_n C dX6_read_9 0 rfl ?_
  refine j_if_ge 19 C dX6_read_10 rfl h (fun h => ?_) (fun h => ?_)
  · refine j_iload_n C dX6_read_19 3 rfl ?_
    refine j_if_lt 36 C dX6_read_20 rfl h (fun h => ?_) (fun h => ?_)
    · refine j_sub (lv' := [(0, .ref (ad 18))]) [1] rfl ?_
      exact k36 _ h
    · refine j_iload_n C dX6_read_23 3 rfl ?_
      refine j_aload_n C dX6_read_24 1 rfl ?_
      refine gf_X6_12 C dX6_read_25 ?_
      refine gf_X6_132 C dX6_read_28 ?_
      refine j_iload_n C dX6_read_31 0 rfl ?_
      refine al_wX_10 C h.1 dX6_read_32 ?_
      replace h := h.2
      refine j_icmp_lt 42 C dX6_read_33 rfl h (fun h => ?_) (fun h => ?_)
      · refine j_aload_n C dX6_read_42 1 rfl ?_
        refine j_aload_n C dX6_read_43 1 rfl ?_
        refine gf_X6_12 C dX6_read_44 ?_
        refine j_aload_n C dX6_read_47 1 rfl ?_
        refine gf_X6_12 C dX6_read_48 ?_
        refine j_iload_n C dX6_read_51 0 rfl ?_
        refine j_callpi 0 [.int r5] [.ref (ad 0), .ref (ad 18)] C (kX3_firstNumber_ok r5 σ0 h) (tt_V ml_X6_147 mV_X3_firstNumber) ok_X3_firstNumber ⟨by decide, by decide⟩ rfl (r_wX_0 (σ := σ0)) (Nat.le_of_ble_eq_true rfl) rfl dX6_read_52 (fun r52 h => ?_)
        refine j_iload_n C dX6_read_55 3 rfl ?_
        refine j_iadd C dX6_read_56 ?_
        refine j_callpl 0 [.int (r52 + x2)] [.ref (ad 18)] C (kX3_numberAt_ok (r52 + x2) σ0 h) (tt_V ml_X6_154 mV_X3_numberAt) ok_X3_numberAt ⟨by decide, by decide⟩ rfl (r_wX_0 (σ := σ0)) (Nat.le_of_ble_eq_true rfl) rfl dX6_read_57 (fun r57 h => ?_)
        refine pf_X6_51 C dX6_read_60 ?_
        refine j_iconst (v := 0) C dX6_read_63 (by decide) ?_
        exact j_iret C dX6_read_64 h
      · refine j_sub (lv' := [(0, .ref (ad 18))]) [1] rfl ?_
        exact k36 _ h
  · refine j_aload_n C dX6_read_13 1 rfl ?_
    refine j_iload_n C dX6_read_14 0 rfl ?_
    refine j_calli 18 [.int r5] [] C (kX6_tell_ok r5 σ0 h) (tt_V ml_X6_55 mV_X6_tell) ok_X6_tell ⟨by decide, by decide⟩ rfl (r_wX_18 (σ := σ0)) (Nat.le_of_ble_eq_true rfl) rfl dX6_read_15 (fun r15 σ15 h => ?_)
    exact j_iret C dX6_read_18 h
def wX6_value (σ : SS) (Q : Int64 → Prop) : Prop := Q (gL σ 0)
set_option maxRecDepth 100000 in
set_option maxHeartbeats 4000000 in
theorem kX6_value_ok {l : Launch} {D : va_G} {cI cJ cZ : ClassId} {ad : Nat → Nat} {kv : Value} (σ0 : SS) {Q : Int64 → Prop} (h : wX6_value σ0 Q) : Cl l yX6_value (.code yX6_value cX6_value 1 (some .long) :: TT) { frames := 0, cells := 0, slots := 0, locals := 0 } D (tys cI cJ cZ) (wX cI cJ ad kv) [.ref (ad 18)] σ0 (fun r σ' => σ' = σ0 ∧ Q r) := by
  refine Cl.of (lv := [(0, .ref (ad 18))]) (by decide) adX (Nat.le_of_ble_eq_true rfl) rfl ?_
  intro p e s m args below meth c A C
  refine j_aload_n C dX6_value_0 0 rfl ?_
  refine gf_X6_51 C dX6_value_1 ?_
  exact j_lret C dX6_value_4 ⟨rfl, h⟩
def wX6_copy_b87 (σ : SS) (Q : Int32 → SS → Prop) : Prop := wX6_tell ((-1)) σ (fun r89 σ89 => Q r89 σ89)
def wX6_copy (x1 : Int32) (x2 : Int32) (x3 : Int32) (x4 : Int32) (x5 : Int32) (σ : SS) (Q : Int32 → SS → Prop) : Prop := wX3_find x1 σ (fun r5 => (0 ≤ r5 → wX3_find x3 σ (fun r27 => (0 ≤ r27 → (0 ≤ x5 → wX3_hasNumbers r5 x2 x5 σ (fun r65 => (r65 = 0 → wX6_copy_b87 σ Q) ∧ (¬ r65 = 0 → wX3_hasNumbers r27 x4 x5 σ (fun r81 => (¬ r81 = 0 → wX3_firstNumber r5 σ (fun r103 => wX3_firstNumber r27 σ (fun r114 => wX3_copyNumbers (r103 + x2) (r114 + x4) x5 σ (fun σ122 => Q x5 σ122)))) ∧ (r81 = 0 → wX6_copy_b87 σ Q))))) ∧ (¬ 0 ≤ x5 → wX6_tell ((-3)) σ (fun r52 σ52 => Q r52 σ52))) ∧ (¬ 0 ≤ r27 → wX6_tell r27 σ (fun r40 σ40 => Q r40 σ40)))) ∧ (¬ 0 ≤ r5 → wX6_tell r5 σ (fun r18 σ18 => Q r18 σ18)))
set_option maxRecDepth 100000 in
set_option maxHeartbeats 4000000 in
theorem kX6_copy_ok {l : Launch} {D : va_G} {cI cJ cZ : ClassId} {ad : Nat → Nat} {kv : Value} (x1 : Int32) (x2 : Int32) (x3 : Int32) (x4 : Int32) (x5 : Int32) (σ0 : SS) {Q : Int32 → SS → Prop} (h : wX6_copy x1 x2 x3 x4 x5 σ0 Q) : Ci l yX6_copy (.code yX6_copy cX6_copy 8 (some .int) :: TT) { frames := 4, cells := 0, slots := 0, locals := 85 } D (tys cI cJ cZ) (wX cI cJ ad kv) [.ref (ad 18), .int x1, .int x2, .int x3, .int x4, .int x5] σ0 Q := by
  refine Ci.of (lv := [(0, .ref (ad 18)), (1, .int x1), (2, .int x2), (3, .int x3), (4, .int x4), (5, .int x5)]) (by decide) adX (Nat.le_of_ble_eq_true rfl) rfl ?_
  intro p e s m args below meth c A C
  have k87 : ∀ (σ : SS), wX6_copy_b87 σ Q → J p l e { frames := 4, cells := 0, slots := 0, locals := 85 } s m args below meth c D (wX cI cJ ad kv) A 8 (MQ below (va_Qi Q (WW D (tys cI cJ cZ) (wX cI cJ ad kv)) A) args s 0 0 A) σ 87 [(0, .ref (ad 18))] [] := by
    intro σ h
    refine j_aload_n C dX6_copy_87 0 rfl ?_
    refine j_iconst (v := (-1)) C dX6_copy_88 (by decide) ?_
    refine j_calli 18 [.int ((-1))] [] C (kX6_tell_ok ((-1)) σ h) (tt_V ml_X6_55 mV_X6_tell) ok_X6_tell ⟨by decide, by decide⟩ rfl (r_wX_18 (σ := σ)) (Nat.le_of_ble_eq_true rfl) rfl dX6_copy_89 (fun r89 σ89 h => ?_)
    exact j_iret C dX6_copy_92 h
  refine j_aload_n C dX6_copy_0 0 rfl ?_
  refine gf_X6_12 C dX6_copy_1 ?_
  refine j_iload_n C dX6_copy_4 1 rfl ?_
  refine j_callpi 0 [.int x1] [] C (kX3_find_ok x1 σ0 h) (tt_V ml_X6_113 mV_X3_find) ok_X3_find ⟨by decide, by decide⟩ rfl (r_wX_0 (σ := σ0)) (Nat.le_of_ble_eq_true rfl) rfl dX6_copy_5 (fun r5 h => ?_)
  refine j_istore (lv' := [(6, .int r5), (0, .ref (ad 18)), (1, .int x1), (2, .int x2), (3, .int x3), (4, .int x4), (5, .int x5)]) C dX6_copy_8 (by decide) rfl ?_
  refine j_iload C dX6_copy_10 0 rfl ?_
  refine j_if_ge 22 C dX6_copy_12 rfl h (fun h => ?_) (fun h => ?_)
  · refine j_aload_n C dX6_copy_22 1 rfl ?_
    refine gf_X6_12 C dX6_copy_23 ?_
    refine j_iload_n C dX6_copy_26 4 rfl ?_
    refine j_callpi 0 [.int x3] [] C (kX3_find_ok x3 σ0 h) (tt_V ml_X6_113 mV_X3_find) ok_X3_find ⟨by decide, by decide⟩ rfl (r_wX_0 (σ := σ0)) (Nat.le_of_ble_eq_true rfl) rfl dX6_copy_27 (fun r27 h => ?_)
    refine j_istore (lv' := [(7, .int r27), (6, .int r5), (0, .ref (ad 18)), (1, .int x1), (2, .int x2), (3, .int x3), (4, .int x4), (5, .int x5)]) C dX6_copy_30 (by decide) rfl ?_
    refine j_iload C dX6_copy_32 0 rfl ?_
    refine j_if_ge 44 C dX6_copy_34 rfl h (fun h => ?_) (fun h => ?_)
    · refine j_iload C dX6_copy_44 7 rfl ?_
      refine j_if_ge 56 C dX6_copy_46 rfl h (fun h => ?_) (fun h => ?_)
      · refine j_aload_n C dX6_copy_56 2 rfl ?_
        refine gf_X6_12 C dX6_copy_57 ?_
        refine j_iload C dX6_copy_60 1 rfl ?_
        refine j_iload_n C dX6_copy_62 4 rfl ?_
        refine j_iload C dX6_copy_63 7 rfl ?_
        refine j_callpi 0 [.int r5, .int x2, .int x5] [] C (kX3_hasNumbers_ok r5 x2 x5 σ0 h) (tt_V ml_X6_158 mV_X3_hasNumbers) ok_X3_hasNumbers ⟨by decide, by decide⟩ rfl (r_wX_0 (σ := σ0)) (Nat.le_of_ble_eq_true rfl) rfl dX6_copy_65 (fun r65 h => ?_)
        refine j_if_eq 87 C dX6_copy_68 rfl h (fun h => ?_) (fun h => ?_)
        · refine j_sub (lv' := [(0, .ref (ad 18))]) [2] rfl ?_
          exact k87 _ h
        · refine j_aload_n C dX6_copy_71 2 rfl ?_
          refine gf_X6_12 C dX6_copy_72 ?_
          refine j_iload C dX6_copy_75 0 rfl ?_
          refine j_iload C dX6_copy_77 6 rfl ?_
          refine j_iload C dX6_copy_79 7 rfl ?_
          refine j_callpi 0 [.int r27, .int x4, .int x5] [] C (kX3_hasNumbers_ok r27 x4 x5 σ0 h) (tt_V ml_X6_158 mV_X3_hasNumbers) ok_X3_hasNumbers ⟨by decide, by decide⟩ rfl (r_wX_0 (σ := σ0)) (Nat.le_of_ble_eq_true rfl) rfl dX6_copy_81 (fun r81 h => ?_)
          refine j_if_ne 93 C dX6_copy_84 rfl h (fun h => ?_) (fun h => ?_)
          · refine j_aload_n C dX6_copy_93 2 rfl ?_
            refine gf_X6_12 C dX6_copy_94 ?_
            refine j_aload_n C dX6_copy_97 2 rfl ?_
            refine gf_X6_12 C dX6_copy_98 ?_
            refine j_iload C dX6_copy_101 1 rfl ?_
            refine j_callpi 0 [.int r5] [.ref (ad 0)] C (kX3_firstNumber_ok r5 σ0 h) (tt_V ml_X6_147 mV_X3_firstNumber) ok_X3_firstNumber ⟨by decide, by decide⟩ rfl (r_wX_0 (σ := σ0)) (Nat.le_of_ble_eq_true rfl) rfl dX6_copy_103 (fun r103 h => ?_)
            refine j_iload_n C dX6_copy_106 4 rfl ?_
            refine j_iadd C dX6_copy_107 ?_
            refine j_aload_n C dX6_copy_108 2 rfl ?_
            refine gf_X6_12 C dX6_copy_109 ?_
            refine j_iload C dX6_copy_112 0 rfl ?_
            refine j_callpi 0 [.int r27] [.int (r103 + x2), .ref (ad 0)] C (kX3_firstNumber_ok r27 σ0 h) (tt_V ml_X6_147 mV_X3_firstNumber) ok_X3_firstNumber ⟨by decide, by decide⟩ rfl (r_wX_0 (σ := σ0)) (Nat.le_of_ble_eq_true rfl) rfl dX6_copy_114 (fun r114 h => ?_)
            refine j_iload C dX6_copy_117 6 rfl ?_
            refine j_iadd C dX6_copy_119 ?_
            refine j_iload C dX6_copy_120 7 rfl ?_
            refine j_callv 0 [.int (r103 + x2), .int (r114 + x4), .int x5] [] C (kX3_copyNumbers_ok (r103 + x2) (r114 + x4) x5 σ0 h) (tt_V ml_X6_162 mV_X3_copyNumbers) ok_X3_copyNumbers ⟨by decide, by decide⟩ rfl (r_wX_0 (σ := σ0)) (Nat.le_of_ble_eq_true rfl) rfl dX6_copy_122 (fun σ122 h => ?_)
            refine j_iload C dX6_copy_125 7 rfl ?_
            exact j_iret C dX6_copy_127 h
          · refine j_sub (lv' := [(0, .ref (ad 18))]) [2] rfl ?_
            exact k87 _ h
      · refine j_aload_n C dX6_copy_49 2 rfl ?_
        refine j_bipush (v := (-3)) C dX6_copy_50 (by decide) ?_
        refine j_calli 18 [.int ((-3))] [] C (kX6_tell_ok ((-3)) σ0 h) (tt_V ml_X6_55 mV_X6_tell) ok_X6_tell ⟨by decide, by decide⟩ rfl (r_wX_18 (σ := σ0)) (Nat.le_of_ble_eq_true rfl) rfl dX6_copy_52 (fun r52 σ52 h => ?_)
        exact j_iret C dX6_copy_55 h
    · refine j_aload_n C dX6_copy_37 2 rfl ?_
      refine j_iload C dX6_copy_38 0 rfl ?_
      refine j_calli 18 [.int r27] [] C (kX6_tell_ok r27 σ0 h) (tt_V ml_X6_55 mV_X6_tell) ok_X6_tell ⟨by decide, by decide⟩ rfl (r_wX_18 (σ := σ0)) (Nat.le_of_ble_eq_true rfl) rfl dX6_copy_40 (fun r40 σ40 h => ?_)
      exact j_iret C dX6_copy_43 h
  · refine j_aload_n C dX6_copy_15 1 rfl ?_
    refine j_iload C dX6_copy_16 0 rfl ?_
    refine j_calli 18 [.int r5] [] C (kX6_tell_ok r5 σ0 h) (tt_V ml_X6_55 mV_X6_tell) ok_X6_tell ⟨by decide, by decide⟩ rfl (r_wX_18 (σ := σ0)) (Nat.le_of_ble_eq_true rfl) rfl dX6_copy_18 (fun r18 σ18 h => ?_)
    exact j_iret C dX6_copy_21 h
def wX6_fill (x1 : Int32) (x2 : Int64) (σ : SS) (Q : Int32 → SS → Prop) : Prop := wX3_find x1 σ (fun r5 => (0 ≤ r5 → wX3_firstNumber r5 σ (fun r32 => vp_in r5 100 ∧ (wX3_setNumbers r32 (gA σ 7 r5.toNatClampNeg) x2 σ (fun σ46 => vp_in r5 100 ∧ (Q (gA σ46 7 r5.toNatClampNeg) σ46))))) ∧ (¬ 0 ≤ r5 → wX6_tell r5 σ (fun r18 σ18 => Q r18 σ18)))
set_option maxRecDepth 100000 in
set_option maxHeartbeats 4000000 in
theorem kX6_fill_ok {l : Launch} {D : va_G} {cI cJ cZ : ClassId} {ad : Nat → Nat} {kv : Value} (x1 : Int32) (x2 : Int64) (σ0 : SS) {Q : Int32 → SS → Prop} (h : wX6_fill x1 x2 σ0 Q) : Ci l yX6_fill (.code yX6_fill cX6_fill 5 (some .int) :: TT) { frames := 4, cells := 0, slots := 0, locals := 85 } D (tys cI cJ cZ) (wX cI cJ ad kv) [.ref (ad 18), .int x1, .long x2] σ0 Q := by
  refine Ci.of (lv := [(0, .ref (ad 18)), (1, .int x1), (2, .long x2)]) (by decide) adX (Nat.le_of_ble_eq_true rfl) rfl ?_
  intro p e s m args below meth c A C
  refine j_aload_n C dX6_fill_0 0 rfl ?_
  refine gf_X6_12 C dX6_fill_1 ?_
  refine j_iload_n C dX6_fill_4 1 rfl ?_
  refine j_callpi 0 [.int x1] [] C (kX3_find_ok x1 σ0 h) (tt_V ml_X6_113 mV_X3_find) ok_X3_find ⟨by decide, by decide⟩ rfl (r_wX_0 (σ := σ0)) (Nat.le_of_ble_eq_true rfl) rfl dX6_fill_5 (fun r5 h => ?_)
  refine j_istore (lv' := [(4, .int r5), (0, .ref (ad 18)), (1, .int x1), (2, .long x2)]) C dX6_fill_8 (by decide) rfl ?_
  refine j_iload C dX6_fill_10 0 rfl ?_
  refine j_if_ge 22 C dX6_fill_12 rfl h (fun h => ?_) (fun h => ?_)
  · refine j_aload_n C dX6_fill_22 1 rfl ?_
    refine gf_X6_12 C dX6_fill_23 ?_
    refine j_aload_n C dX6_fill_26 1 rfl ?_
    refine gf_X6_12 C dX6_fill_27 ?_
    refine j_iload C dX6_fill_30 0 rfl ?_
    refine j_callpi 0 [.int r5] [.ref (ad 0)] C (kX3_firstNumber_ok r5 σ0 h) (tt_V ml_X6_147 mV_X3_firstNumber) ok_X3_firstNumber ⟨by decide, by decide⟩ rfl (r_wX_0 (σ := σ0)) (Nat.le_of_ble_eq_true rfl) rfl dX6_fill_32 (fun r32 h => ?_)
    refine j_aload_n C dX6_fill_35 1 rfl ?_
    refine gf_X6_12 C dX6_fill_36 ?_
    refine gf_X6_132 C dX6_fill_39 ?_
    refine j_iload C dX6_fill_42 0 rfl ?_
    refine al_wX_10 C h.1 dX6_fill_44 ?_
    replace h := h.2
    refine j_lload_n C dX6_fill_45 3 rfl ?_
    refine j_callv 0 [.int r32, .int (gA σ0 7 r5.toNatClampNeg), .long x2] [] C (kX3_setNumbers_ok r32 (gA σ0 7 r5.toNatClampNeg) x2 σ0 h) (tt_V ml_X6_165 mV_X3_setNumbers) ok_X3_setNumbers ⟨by decide, by decide⟩ rfl (r_wX_0 (σ := σ0)) (Nat.le_of_ble_eq_true rfl) rfl dX6_fill_46 (fun σ46 h => ?_)
    refine j_aload_n C dX6_fill_49 1 rfl ?_
    refine gf_X6_12 C dX6_fill_50 ?_
    refine gf_X6_132 C dX6_fill_53 ?_
    refine j_iload C dX6_fill_56 0 rfl ?_
    refine al_wX_10 C h.1 dX6_fill_58 ?_
    replace h := h.2
    exact j_iret C dX6_fill_59 h
  · refine j_aload_n C dX6_fill_15 1 rfl ?_
    refine j_iload C dX6_fill_16 0 rfl ?_
    refine j_calli 18 [.int r5] [] C (kX6_tell_ok r5 σ0 h) (tt_V ml_X6_55 mV_X6_tell) ok_X6_tell ⟨by decide, by decide⟩ rfl (r_wX_18 (σ := σ0)) (Nat.le_of_ble_eq_true rfl) rfl dX6_fill_18 (fun r18 σ18 h => ?_)
    exact j_iret C dX6_fill_21 h
def wX6_block (x1 : Int32) (x2 : Int32) (σ : SS) (Q : Int32 → SS → Prop) : Prop := wX3_find x1 σ (fun r5 => (0 ≤ r5 → (x2 = 0 → vp_in r5 100 ∧ (Q (gA σ 7 r5.toNatClampNeg) σ)) ∧ (x2 = 1 → vp_in r5 100 ∧ (Q (gA σ 4 r5.toNatClampNeg) σ)) ∧ (x2 = 2 → wX3_firstNumber r5 σ (fun r77 => Q r77 σ)) ∧ (x2 = 3 → wX3_spoiledWords r5 σ (fun r86 => Q r86 σ)) ∧ (¬ x2 = 0 ∧ ¬ x2 = 1 ∧ ¬ x2 = 2 ∧ ¬ x2 = 3 → wX6_tell ((-1)) σ (fun r92 σ92 => Q r92 σ92))) ∧ (¬ 0 ≤ r5 → wX6_tell r5 σ (fun r15 σ15 => Q r15 σ15)))
set_option maxRecDepth 100000 in
set_option maxHeartbeats 4000000 in
theorem kX6_block_ok {l : Launch} {D : va_G} {cI cJ cZ : ClassId} {ad : Nat → Nat} {kv : Value} (x1 : Int32) (x2 : Int32) (σ0 : SS) {Q : Int32 → SS → Prop} (h : wX6_block x1 x2 σ0 Q) : Ci l yX6_block (.code yX6_block cX6_block 4 (some .int) :: TT) { frames := 4, cells := 0, slots := 0, locals := 86 } D (tys cI cJ cZ) (wX cI cJ ad kv) [.ref (ad 18), .int x1, .int x2] σ0 Q := by
  refine Ci.of (lv := [(0, .ref (ad 18)), (1, .int x1), (2, .int x2)]) (by decide) adX (Nat.le_of_ble_eq_true rfl) rfl ?_
  intro p e s m args below meth c A C
  refine j_aload_n C dX6_block_0 0 rfl ?_
  refine gf_X6_12 C dX6_block_1 ?_
  refine j_iload_n C dX6_block_4 1 rfl ?_
  refine j_callpi 0 [.int x1] [] C (kX3_find_ok x1 σ0 h) (tt_V ml_X6_113 mV_X3_find) ok_X3_find ⟨by decide, by decide⟩ rfl (r_wX_0 (σ := σ0)) (Nat.le_of_ble_eq_true rfl) rfl dX6_block_5 (fun r5 h => ?_)
  refine j_istore_n (lv' := [(3, .int r5), (0, .ref (ad 18)), (1, .int x1), (2, .int x2)]) C dX6_block_8 (by decide) rfl ?_
  refine j_iload_n C dX6_block_9 0 rfl ?_
  refine j_if_ge 19 C dX6_block_10 rfl h (fun h => ?_) (fun h => ?_)
  · refine j_iload_n C dX6_block_19 3 rfl ?_
    by_cases hc0 : x2 = 0
    · replace h := h.1 hc0
      refine j_tableIn 52 0 C dX6_block_20 hc0 (by decide) (by decide) rfl rfl ?_
      refine j_aload_n C dX6_block_52 1 rfl ?_
      refine gf_X6_12 C dX6_block_53 ?_
      refine gf_X6_132 C dX6_block_56 ?_
      refine j_iload_n C dX6_block_59 0 rfl ?_
      refine al_wX_10 C h.1 dX6_block_60 ?_
      replace h := h.2
      exact j_iret C dX6_block_61 h
    by_cases hc1 : x2 = 1
    · replace h := h.2.1 hc1
      refine j_tableIn 62 1 C dX6_block_20 hc1 (by decide) (by decide) rfl rfl ?_
      refine j_aload_n C dX6_block_62 1 rfl ?_
      refine gf_X6_12 C dX6_block_63 ?_
      refine gf_X6_119 C dX6_block_66 ?_
      refine j_iload_n C dX6_block_69 0 rfl ?_
      refine al_wX_7 C h.1 dX6_block_70 ?_
      replace h := h.2
      exact j_iret C dX6_block_71 h
    by_cases hc2 : x2 = 2
    · replace h := h.2.2.1 hc2
      refine j_tableIn 72 2 C dX6_block_20 hc2 (by decide) (by decide) rfl rfl ?_
      refine j_aload_n C dX6_block_72 1 rfl ?_
      refine gf_X6_12 C dX6_block_73 ?_
      refine j_iload_n C dX6_block_76 0 rfl ?_
      refine j_callpi 0 [.int r5] [] C (kX3_firstNumber_ok r5 σ0 h) (tt_V ml_X6_147 mV_X3_firstNumber) ok_X3_firstNumber ⟨by decide, by decide⟩ rfl (r_wX_0 (σ := σ0)) (Nat.le_of_ble_eq_true rfl) rfl dX6_block_77 (fun r77 h => ?_)
      exact j_iret C dX6_block_80 h
    by_cases hc3 : x2 = 3
    · replace h := h.2.2.2.1 hc3
      refine j_tableIn 81 3 C dX6_block_20 hc3 (by decide) (by decide) rfl rfl ?_
      refine j_aload_n C dX6_block_81 1 rfl ?_
      refine gf_X6_12 C dX6_block_82 ?_
      refine j_iload_n C dX6_block_85 0 rfl ?_
      refine j_callpi 0 [.int r5] [] C (kX3_spoiledWords_ok r5 σ0 h) (tt_V ml_X6_116 mV_X3_spoiledWords) ok_X3_spoiledWords ⟨by decide, by decide⟩ rfl (r_wX_0 (σ := σ0)) (Nat.le_of_ble_eq_true rfl) rfl dX6_block_86 (fun r86 h => ?_)
      exact j_iret C dX6_block_89 h
    replace h := h.2.2.2.2 ⟨hc0, hc1, hc2, hc3⟩
    refine j_tableOut 90 C dX6_block_20 (by have e0 := lv_neT (a := 0) hc0 (by decide); have e1 := lv_neT (a := 1) hc1 (by decide); have e2 := lv_neT (a := 2) hc2 (by decide); have e3 := lv_neT (a := 3) hc3 (by decide); omega) rfl ?_
    refine j_aload_n C dX6_block_90 1 rfl ?_
    refine j_iconst (v := (-1)) C dX6_block_91 (by decide) ?_
    refine j_calli 18 [.int ((-1))] [] C (kX6_tell_ok ((-1)) σ0 h) (tt_V ml_X6_55 mV_X6_tell) ok_X6_tell ⟨by decide, by decide⟩ rfl (r_wX_18 (σ := σ0)) (Nat.le_of_ble_eq_true rfl) rfl dX6_block_92 (fun r92 σ92 h => ?_)
    exact j_iret C dX6_block_95 h
  · refine j_aload_n C dX6_block_13 1 rfl ?_
    refine j_iload_n C dX6_block_14 0 rfl ?_
    refine j_calli 18 [.int r5] [] C (kX6_tell_ok r5 σ0 h) (tt_V ml_X6_55 mV_X6_tell) ok_X6_tell ⟨by decide, by decide⟩ rfl (r_wX_18 (σ := σ0)) (Nat.le_of_ble_eq_true rfl) rfl dX6_block_15 (fun r15 σ15 h => ?_)
    exact j_iret C dX6_block_18 h
def wX6_spoil_b70 (x3 : Int64) (t0 : Int32) (σ : SS) (Q : Int32 → SS → Prop) : Prop := wX3_setNumber t0 x3 σ (fun σ71 => Q 0 σ71)
def wX6_spoil (x1 : Int32) (x2 : Int32) (x3 : Int64) (σ : SS) (Q : Int32 → SS → Prop) : Prop := wX3_find x1 σ (fun r5 => (0 ≤ r5 → wX3_isGuarded r5 σ (fun r28 => (¬ r28 = 0 → (x2 = 0 → wX3_firstWord r5 σ (fun r67 => wX6_spoil_b70 x3 r67 σ Q)) ∧ (¬ x2 = 0 → wX3_lastWord r5 σ (fun r55 => wX6_spoil_b70 x3 r55 σ Q))) ∧ (r28 = 0 → wX6_tell ((-9)) σ (fun r37 σ37 => Q r37 σ37)))) ∧ (¬ 0 ≤ r5 → wX6_tell r5 σ (fun r18 σ18 => Q r18 σ18)))
set_option maxRecDepth 100000 in
set_option maxHeartbeats 4000000 in
theorem kX6_spoil_ok {l : Launch} {D : va_G} {cI cJ cZ : ClassId} {ad : Nat → Nat} {kv : Value} (x1 : Int32) (x2 : Int32) (x3 : Int64) (σ0 : SS) {Q : Int32 → SS → Prop} (h : wX6_spoil x1 x2 x3 σ0 Q) : Ci l yX6_spoil (.code yX6_spoil cX6_spoil 6 (some .int) :: TT) { frames := 3, cells := 0, slots := 0, locals := 63 } D (tys cI cJ cZ) (wX cI cJ ad kv) [.ref (ad 18), .int x1, .int x2, .long x3] σ0 Q := by
  refine Ci.of (lv := [(0, .ref (ad 18)), (1, .int x1), (2, .int x2), (3, .long x3)]) (by decide) adX (Nat.le_of_ble_eq_true rfl) rfl ?_
  intro p e s m args below meth c A C
  have k70 : ∀ (x3 : Int64), ∀ (t0 : Int32), ∀ (σ : SS), wX6_spoil_b70 x3 t0 σ Q → J p l e { frames := 3, cells := 0, slots := 0, locals := 63 } s m args below meth c D (wX cI cJ ad kv) A 6 (MQ below (va_Qi Q (WW D (tys cI cJ cZ) (wX cI cJ ad kv)) A) args s 0 0 A) σ 70 [(3, .long x3)] [.int t0, .ref (ad 0)] := by
    intro x3 t0 σ h
    refine j_lload_n C dX6_spoil_70 0 rfl ?_
    refine j_callv 0 [.int t0, .long x3] [] C (kX3_setNumber_ok t0 x3 σ h) (tt_V ml_X6_150 mV_X3_setNumber) ok_X3_setNumber ⟨by decide, by decide⟩ rfl (r_wX_0 (σ := σ)) (Nat.le_of_ble_eq_true rfl) rfl dX6_spoil_71 (fun σ71 h => ?_)
    refine j_iconst (v := 0) C dX6_spoil_74 (by decide) ?_
    exact j_iret C dX6_spoil_75 h
  refine j_aload_n C dX6_spoil_0 0 rfl ?_
  refine gf_X6_12 C dX6_spoil_1 ?_
  refine j_iload_n C dX6_spoil_4 1 rfl ?_
  refine j_callpi 0 [.int x1] [] C (kX3_find_ok x1 σ0 h) (tt_V ml_X6_113 mV_X3_find) ok_X3_find ⟨by decide, by decide⟩ rfl (r_wX_0 (σ := σ0)) (Nat.le_of_ble_eq_true rfl) rfl dX6_spoil_5 (fun r5 h => ?_)
  refine j_istore (lv' := [(5, .int r5), (0, .ref (ad 18)), (1, .int x1), (2, .int x2), (3, .long x3)]) C dX6_spoil_8 (by decide) rfl ?_
  refine j_iload C dX6_spoil_10 0 rfl ?_
  refine j_if_ge 22 C dX6_spoil_12 rfl h (fun h => ?_) (fun h => ?_)
  · refine j_aload_n C dX6_spoil_22 1 rfl ?_
    refine gf_X6_12 C dX6_spoil_23 ?_
    refine j_iload C dX6_spoil_26 0 rfl ?_
    refine j_callpi 0 [.int r5] [] C (kX3_isGuarded_ok r5 σ0 h) (tt_V ml_X6_169 mV_X3_isGuarded) ok_X3_isGuarded ⟨by decide, by decide⟩ rfl (r_wX_0 (σ := σ0)) (Nat.le_of_ble_eq_true rfl) rfl dX6_spoil_28 (fun r28 h => ?_)
    refine j_if_ne 41 C dX6_spoil_31 rfl h (fun h => ?_) (fun h => ?_)
    · refine j_aload_n C dX6_spoil_41 1 rfl ?_
      refine gf_X6_12 C dX6_spoil_42 ?_
      refine j_iload_n C dX6_spoil_45 3 rfl ?_
      refine j_if_eq 61 C dX6_spoil_46 rfl h (fun h => ?_) (fun h => ?_)
      · refine j_aload_n C dX6_spoil_61 1 rfl ?_
        refine gf_X6_12 C dX6_spoil_62 ?_
        refine j_iload C dX6_spoil_65 0 rfl ?_
        refine j_callpi 0 [.int r5] [.ref (ad 0)] C (kX3_firstWord_ok r5 σ0 h) (tt_V ml_X6_175 mV_X3_firstWord) ok_X3_firstWord ⟨by decide, by decide⟩ rfl (r_wX_0 (σ := σ0)) (Nat.le_of_ble_eq_true rfl) rfl dX6_spoil_67 (fun r67 h => ?_)
        refine j_sub (lv' := [(3, .long x3)]) [4] rfl ?_
        exact k70 _ _ _ h
      · refine j_aload_n C dX6_spoil_49 1 rfl ?_
        refine gf_X6_12 C dX6_spoil_50 ?_
        refine j_iload C dX6_spoil_53 0 rfl ?_
        refine j_callpi 0 [.int r5] [.ref (ad 0)] C (kX3_lastWord_ok r5 σ0 h) (tt_V ml_X6_172 mV_X3_lastWord) ok_X3_lastWord ⟨by decide, by decide⟩ rfl (r_wX_0 (σ := σ0)) (Nat.le_of_ble_eq_true rfl) rfl dX6_spoil_55 (fun r55 h => ?_)
        refine j_goto 70 C dX6_spoil_58 rfl ?_
        refine j_sub (lv' := [(3, .long x3)]) [4] rfl ?_
        exact k70 _ _ _ h
    · refine j_aload_n C dX6_spoil_34 1 rfl ?_
      refine j_bipush (v := (-9)) C dX6_spoil_35 (by decide) ?_
      refine j_calli 18 [.int ((-9))] [] C (kX6_tell_ok ((-9)) σ0 h) (tt_V ml_X6_55 mV_X6_tell) ok_X6_tell ⟨by decide, by decide⟩ rfl (r_wX_18 (σ := σ0)) (Nat.le_of_ble_eq_true rfl) rfl dX6_spoil_37 (fun r37 σ37 h => ?_)
      exact j_iret C dX6_spoil_40 h
  · refine j_aload_n C dX6_spoil_15 1 rfl ?_
    refine j_iload C dX6_spoil_16 0 rfl ?_
    refine j_calli 18 [.int r5] [] C (kX6_tell_ok r5 σ0 h) (tt_V ml_X6_55 mV_X6_tell) ok_X6_tell ⟨by decide, by decide⟩ rfl (r_wX_18 (σ := σ0)) (Nat.le_of_ble_eq_true rfl) rfl dX6_spoil_18 (fun r18 σ18 h => ?_)
    exact j_iret C dX6_spoil_21 h
def wX6_peek_b15 (σ : SS) (Q : Int32 → SS → Prop) : Prop := wX6_tell ((-1)) σ (fun r17 σ17 => Q r17 σ17)
def wX6_peek (x1 : Int32) (σ : SS) (Q : Int32 → SS → Prop) : Prop := (x1 < 0 → wX6_peek_b15 σ Q) ∧ (¬ x1 < 0 → wX3_places σ (fun r9 => (x1 < r9 → wX3_ownerAt x1 σ (fun r26 => (¬ r26 = ((-2)) → wX3_numberAt x1 σ (fun r47 => wX1_kindAt x1 (sL σ 0 r47) (fun r58 σ58 => Q r58 σ58))) ∧ (r26 = ((-2)) → wX6_tell ((-2)) σ (fun r37 σ37 => Q r37 σ37)))) ∧ (¬ x1 < r9 → wX6_peek_b15 σ Q)))
set_option maxRecDepth 100000 in
set_option maxHeartbeats 4000000 in
theorem kX6_peek_ok {l : Launch} {D : va_G} {cI cJ cZ : ClassId} {ad : Nat → Nat} {kv : Value} (x1 : Int32) (σ0 : SS) {Q : Int32 → SS → Prop} (h : wX6_peek x1 σ0 Q) : Ci l yX6_peek (.code yX6_peek cX6_peek 2 (some .int) :: TT) { frames := 6, cells := 0, slots := 0, locals := 130 } D (tys cI cJ cZ) (wX cI cJ ad kv) [.ref (ad 18), .int x1] σ0 Q := by
  refine Ci.of (lv := [(0, .ref (ad 18)), (1, .int x1)]) (by decide) adX (Nat.le_of_ble_eq_true rfl) rfl ?_
  intro p e s m args below meth c A C
  have k15 : ∀ (σ : SS), wX6_peek_b15 σ Q → J p l e { frames := 6, cells := 0, slots := 0, locals := 130 } s m args below meth c D (wX cI cJ ad kv) A 2 (MQ below (va_Qi Q (WW D (tys cI cJ cZ) (wX cI cJ ad kv)) A) args s 0 0 A) σ 15 [(0, .ref (ad 18))] [] := by
    intro σ h
    refine j_aload_n C dX6_peek_15 0 rfl ?_
    refine j_iconst (v := (-1)) C dX6_peek_16 (by decide) ?_
    refine j_calli 18 [.int ((-1))] [] C (kX6_tell_ok ((-1)) σ h) (tt_V ml_X6_55 mV_X6_tell) ok_X6_tell ⟨by decide, by decide⟩ rfl (r_wX_18 (σ := σ)) (Nat.le_of_ble_eq_true rfl) rfl dX6_peek_17 (fun r17 σ17 h => ?_)
    exact j_iret C dX6_peek_20 h
  refine j_iload_n C dX6_peek_0 1 rfl ?_
  refine j_if_lt 15 C dX6_peek_1 rfl h (fun h => ?_) (fun h => ?_)
  · refine j_sub (lv' := [(0, .ref (ad 18))]) [0] rfl ?_
    exact k15 _ h
  · refine j_iload_n C dX6_peek_4 1 rfl ?_
    refine j_aload_n C dX6_peek_5 0 rfl ?_
    refine gf_X6_12 C dX6_peek_6 ?_
    refine j_callpi 0 [] [.int x1] C (kX3_places_ok σ0 h) (tt_V ml_X6_178 mV_X3_places) ok_X3_places ⟨by decide, by decide⟩ rfl (r_wX_0 (σ := σ0)) (Nat.le_of_ble_eq_true rfl) rfl dX6_peek_9 (fun r9 h => ?_)
    refine j_icmp_lt 21 C dX6_peek_12 rfl h (fun h => ?_) (fun h => ?_)
    · refine j_aload_n C dX6_peek_21 0 rfl ?_
      refine gf_X6_12 C dX6_peek_22 ?_
      refine j_iload_n C dX6_peek_25 1 rfl ?_
      refine j_callpi 0 [.int x1] [] C (kX3_ownerAt_ok x1 σ0 h) (tt_V ml_X6_181 mV_X3_ownerAt) ok_X3_ownerAt ⟨by decide, by decide⟩ rfl (r_wX_0 (σ := σ0)) (Nat.le_of_ble_eq_true rfl) rfl dX6_peek_26 (fun r26 h => ?_)
      refine j_bipush (v := (-2)) C dX6_peek_29 (by decide) ?_
      refine j_icmp_ne 41 C dX6_peek_31 rfl h (fun h => ?_) (fun h => ?_)
      · refine j_aload_n C dX6_peek_41 0 rfl ?_
        refine j_aload_n C dX6_peek_42 0 rfl ?_
        refine gf_X6_12 C dX6_peek_43 ?_
        refine j_iload_n C dX6_peek_46 1 rfl ?_
        refine j_callpl 0 [.int x1] [.ref (ad 18)] C (kX3_numberAt_ok x1 σ0 h) (tt_V ml_X6_154 mV_X3_numberAt) ok_X3_numberAt ⟨by decide, by decide⟩ rfl (r_wX_0 (σ := σ0)) (Nat.le_of_ble_eq_true rfl) rfl dX6_peek_47 (fun r47 h => ?_)
        refine pf_X6_51 C dX6_peek_50 ?_
        refine j_aload_n C dX6_peek_53 0 rfl ?_
        refine gf_X6_21 C dX6_peek_54 ?_
        refine j_iload_n C dX6_peek_57 1 rfl ?_
        refine j_calli 12 [.int x1] [] C (kX1_kindAt_ok x1 (sL σ0 0 r47) h) (tt_V ml_X6_184 mV_X1_kindAt) ok_X1_kindAt ⟨by decide, by decide⟩ rfl (r_wX_12 (σ := sL σ0 0 r47)) (Nat.le_of_ble_eq_true rfl) rfl dX6_peek_58 (fun r58 σ58 h => ?_)
        exact j_iret C dX6_peek_61 h
      · refine j_aload_n C dX6_peek_34 0 rfl ?_
        refine j_bipush (v := (-2)) C dX6_peek_35 (by decide) ?_
        refine j_calli 18 [.int ((-2))] [] C (kX6_tell_ok ((-2)) σ0 h) (tt_V ml_X6_55 mV_X6_tell) ok_X6_tell ⟨by decide, by decide⟩ rfl (r_wX_18 (σ := σ0)) (Nat.le_of_ble_eq_true rfl) rfl dX6_peek_37 (fun r37 σ37 h => ?_)
        exact j_iret C dX6_peek_40 h
    · refine j_sub (lv' := [(0, .ref (ad 18))]) [0] rfl ?_
      exact k15 _ h
def wK_greatest (κ : Nat) (x1 : Int32) (σ : SS) (Q : Int32 → Prop) : Prop := match κ with
  | 0 => wX5_greatest x1 σ Q
  | 1 => wX0_greatest x1 σ Q
  | 2 => wX4_greatest x1 σ Q
  | _ => False
theorem okK_greatest : "RoomWarden$Keeper" ≠ "java/lang/invoke/MethodHandle" ∧ "RoomWarden$Keeper" ≠ "java/lang/invoke/VarHandle" ∧ (parseMethodDescriptor "(I)I").map (fun d => d.parameters.length) = some 1 := by decide +kernel
set_option maxRecDepth 100000 in
set_option maxHeartbeats 4000000 in
theorem kc_greatest {p : Program} {l : Launch} {e : Env} {R : Room} {s : State} {m : MethodId} {args : Array Value} {below : List Frame} {meth : Method} {c : Code} {D : va_G} {A : Nat → Prop} {cc : ByteArray} {nL : Nat} {ret : Option FieldType} {Qs : State → Prop} {σ : SS} {pc : Nat} {lv : List (Nat × Value)} {cI cJ cZ : ClassId} {ad : Nat → Nat} {kv : Value} {Q : Int32 → Prop} (rest : List Value) (κ : Nat) (x1 : Int32) (C : Cx p s m args meth c D (tys cI cJ cZ) (wX cI cJ ad kv) A cc nL RX6 ret) (h : wK_greatest κ x1 σ Q) (hR : 5 ≤ R.frames ∧ 110 ≤ R.locals) (hcat : (rest.map fun v => v.category).sum ≤ 8) (hd : decode cc pc = .ok (.invokevirtual 187, 3)) (K : ∀ (r : Int32), Q r → J p l e R s m args below meth c D (wX cI cJ ad kv) A nL Qs σ (pc + 3) lv (.int r :: rest)) : J p l e R s m args below meth c D (wX cI cJ ad kv) A nL Qs σ pc lv (.int x1 :: .ref (ad (15 + κ)) :: rest) := by
  match κ, h with
  | 0, h => exact j_callUi (x := ⟨"RoomWarden$Keeper", "greatest", "(I)I"⟩) (owner := "RoomWarden$Keeper") 15 [.int x1] rest C (kX5_greatest_ok x1 σ h) (tt_U ml_X6_187 msm_greatest msu_X5_greatest ⟨mm_X5_greatest, mi_X5, mc_X5_greatest⟩) (by decide +kernel) okK_greatest ⟨Nat.le_trans (by decide) hR.1, Nat.le_trans (by decide) hR.2⟩ rfl (r_wX_15 (σ := σ)) hcat rfl hd (fun r σ' h => by rw [h.1]; exact K r h.2)
  | 1, h => exact j_callUi (x := ⟨"RoomWarden$Keeper", "greatest", "(I)I"⟩) (owner := "RoomWarden$Keeper") 16 [.int x1] rest C (kX0_greatest_ok x1 σ h) (tt_U ml_X6_187 msm_greatest msu_X0_greatest ⟨mm_X0_greatest, mi_X0, mc_X0_greatest⟩) (by decide +kernel) okK_greatest ⟨Nat.le_trans (by decide) hR.1, Nat.le_trans (by decide) hR.2⟩ rfl (r_wX_16 (σ := σ)) hcat rfl hd (fun r σ' h => by rw [h.1]; exact K r h.2)
  | 2, h => exact j_callUi (x := ⟨"RoomWarden$Keeper", "greatest", "(I)I"⟩) (owner := "RoomWarden$Keeper") 17 [.int x1] rest C (kX4_greatest_ok x1 σ h) (tt_U ml_X6_187 msm_greatest msu_X4_greatest ⟨mm_X4_greatest, mi_X4, mc_X4_greatest⟩) (by decide +kernel) okK_greatest ⟨Nat.le_trans (by decide) hR.1, Nat.le_trans (by decide) hR.2⟩ rfl (r_wX_17 (σ := σ)) hcat rfl hd (fun r σ' h => by rw [h.1]; exact K r h.2)
  | _ + 3, h => exact h.elim
def wX6_largest (x1 : Int32) (σ : SS) (Q : Int32 → SS → Prop) : Prop := wX3_hasZone x1 σ (fun r5 => (¬ r5 = 0 → wX6_keeperOf x1 σ (fun κ19 => wK_greatest κ19 x1 σ (fun r23 => (0 ≤ r23 → Q r23 σ) ∧ (¬ 0 ≤ r23 → wX6_tell ((-6)) σ (fun r34 σ34 => Q r34 σ34))))) ∧ (r5 = 0 → wX6_tell ((-1)) σ (fun r13 σ13 => Q r13 σ13)))
set_option maxRecDepth 100000 in
set_option maxHeartbeats 4000000 in
theorem kX6_largest_ok {l : Launch} {D : va_G} {cI cJ cZ : ClassId} {ad : Nat → Nat} {kv : Value} (x1 : Int32) (σ0 : SS) {Q : Int32 → SS → Prop} (h : wX6_largest x1 σ0 Q) : Ci l yX6_largest (.code yX6_largest cX6_largest 3 (some .int) :: TT) { frames := 5, cells := 0, slots := 0, locals := 110 } D (tys cI cJ cZ) (wX cI cJ ad kv) [.ref (ad 18), .int x1] σ0 Q := by
  refine Ci.of (lv := [(0, .ref (ad 18)), (1, .int x1)]) (by decide) adX (Nat.le_of_ble_eq_true rfl) rfl ?_
  intro p e s m args below meth c A C
  refine j_aload_n C dX6_largest_0 0 rfl ?_
  refine gf_X6_12 C dX6_largest_1 ?_
  refine j_iload_n C dX6_largest_4 1 rfl ?_
  refine j_callpi 0 [.int x1] [] C (kX3_hasZone_ok x1 σ0 h) (tt_V ml_X6_79 mV_X3_hasZone) ok_X3_hasZone ⟨by decide, by decide⟩ rfl (r_wX_0 (σ := σ0)) (Nat.le_of_ble_eq_true rfl) rfl dX6_largest_5 (fun r5 h => ?_)
  refine j_if_ne 17 C dX6_largest_8 rfl h (fun h => ?_) (fun h => ?_)
  · refine j_aload_n C dX6_largest_17 0 rfl ?_
    refine j_iload_n C dX6_largest_18 1 rfl ?_
    refine j_callpr 18 [.int x1] [] C (kX6_keeperOf_ok x1 σ0 h) (tt_V ml_X6_83 mV_X6_keeperOf) ok_X6_keeperOf ⟨by decide, by decide⟩ rfl (r_wX_18 (σ := σ0)) (Nat.le_of_ble_eq_true rfl) rfl dX6_largest_19 (fun κ19 h => ?_)
    refine j_iload_n C dX6_largest_22 1 rfl ?_
    refine kc_greatest [] κ19 x1 C h ⟨by decide, by decide⟩ (Nat.le_of_ble_eq_true rfl) dX6_largest_23 (fun r23 h => ?_)
    refine j_istore_n (lv' := [(2, .int r23), (0, .ref (ad 18)), (1, .int x1)]) C dX6_largest_26 (by decide) rfl ?_
    refine j_iload_n C dX6_largest_27 0 rfl ?_
    refine j_if_ge 40 C dX6_largest_28 rfl h (fun h => ?_) (fun h => ?_)
    · refine j_iload_n C dX6_largest_40 0 rfl ?_
      exact j_iret C dX6_largest_41 h
    · refine j_aload_n C dX6_largest_31 1 rfl ?_
      refine j_bipush (v := (-6)) C dX6_largest_32 (by decide) ?_
      refine j_calli 18 [.int ((-6))] [] C (kX6_tell_ok ((-6)) σ0 h) (tt_V ml_X6_55 mV_X6_tell) ok_X6_tell ⟨by decide, by decide⟩ rfl (r_wX_18 (σ := σ0)) (Nat.le_of_ble_eq_true rfl) rfl dX6_largest_34 (fun r34 σ34 h => ?_)
      refine j_goto 41 C dX6_largest_37 rfl ?_
      exact j_iret C dX6_largest_41 h
  · refine j_aload_n C dX6_largest_11 0 rfl ?_
    refine j_iconst (v := (-1)) C dX6_largest_12 (by decide) ?_
    refine j_calli 18 [.int ((-1))] [] C (kX6_tell_ok ((-1)) σ0 h) (tt_V ml_X6_55 mV_X6_tell) ok_X6_tell ⟨by decide, by decide⟩ rfl (r_wX_18 (σ := σ0)) (Nat.le_of_ble_eq_true rfl) rfl dX6_largest_13 (fun r13 σ13 h => ?_)
    exact j_iret C dX6_largest_16 h
def wX6_told (x1 : Int32) (x2 : Int32) (σ : SS) (Q : Int32 → SS → Prop) : Prop := wX3_hasZone x1 σ (fun r5 => (¬ r5 = 0 → (x2 = 0 → vp_in x1 8 ∧ (Q (gA σ 2 x1.toNatClampNeg) σ)) ∧ (x2 = 1 → wX3_pagesOf x1 σ (fun r63 => Q r63 σ)) ∧ (x2 = 2 → wX3_blocksOf x1 σ (fun r72 => Q r72 σ)) ∧ (x2 = 3 → wX3_freePiecesOf x1 σ (fun r81 => Q r81 σ)) ∧ (¬ x2 = 0 ∧ ¬ x2 = 1 ∧ ¬ x2 = 2 ∧ ¬ x2 = 3 → wX6_tell ((-1)) σ (fun r87 σ87 => Q r87 σ87))) ∧ (r5 = 0 → wX6_tell ((-1)) σ (fun r13 σ13 => Q r13 σ13)))
set_option maxRecDepth 100000 in
set_option maxHeartbeats 4000000 in
theorem kX6_told_ok {l : Launch} {D : va_G} {cI cJ cZ : ClassId} {ad : Nat → Nat} {kv : Value} (x1 : Int32) (x2 : Int32) (σ0 : SS) {Q : Int32 → SS → Prop} (h : wX6_told x1 x2 σ0 Q) : Ci l yX6_told (.code yX6_told cX6_told 3 (some .int) :: TT) { frames := 4, cells := 0, slots := 0, locals := 90 } D (tys cI cJ cZ) (wX cI cJ ad kv) [.ref (ad 18), .int x1, .int x2] σ0 Q := by
  refine Ci.of (lv := [(0, .ref (ad 18)), (1, .int x1), (2, .int x2)]) (by decide) adX (Nat.le_of_ble_eq_true rfl) rfl ?_
  intro p e s m args below meth c A C
  refine j_aload_n C dX6_told_0 0 rfl ?_
  refine gf_X6_12 C dX6_told_1 ?_
  refine j_iload_n C dX6_told_4 1 rfl ?_
  refine j_callpi 0 [.int x1] [] C (kX3_hasZone_ok x1 σ0 h) (tt_V ml_X6_79 mV_X3_hasZone) ok_X3_hasZone ⟨by decide, by decide⟩ rfl (r_wX_0 (σ := σ0)) (Nat.le_of_ble_eq_true rfl) rfl dX6_told_5 (fun r5 h => ?_)
  refine j_if_ne 17 C dX6_told_8 rfl h (fun h => ?_) (fun h => ?_)
  · refine j_iload_n C dX6_told_17 2 rfl ?_
    by_cases hc0 : x2 = 0
    · replace h := h.1 hc0
      refine j_tableIn 48 0 C dX6_told_18 hc0 (by decide) (by decide) rfl rfl ?_
      refine j_aload_n C dX6_told_48 0 rfl ?_
      refine gf_X6_12 C dX6_told_49 ?_
      refine gf_X6_190 C dX6_told_52 ?_
      refine j_iload_n C dX6_told_55 1 rfl ?_
      refine al_wX_4 C h.1 dX6_told_56 ?_
      replace h := h.2
      exact j_iret C dX6_told_57 h
    by_cases hc1 : x2 = 1
    · replace h := h.2.1 hc1
      refine j_tableIn 58 1 C dX6_told_18 hc1 (by decide) (by decide) rfl rfl ?_
      refine j_aload_n C dX6_told_58 0 rfl ?_
      refine gf_X6_12 C dX6_told_59 ?_
      refine j_iload_n C dX6_told_62 1 rfl ?_
      refine j_callpi 0 [.int x1] [] C (kX3_pagesOf_ok x1 σ0 h) (tt_V ml_X6_193 mV_X3_pagesOf) ok_X3_pagesOf ⟨by decide, by decide⟩ rfl (r_wX_0 (σ := σ0)) (Nat.le_of_ble_eq_true rfl) rfl dX6_told_63 (fun r63 h => ?_)
      exact j_iret C dX6_told_66 h
    by_cases hc2 : x2 = 2
    · replace h := h.2.2.1 hc2
      refine j_tableIn 67 2 C dX6_told_18 hc2 (by decide) (by decide) rfl rfl ?_
      refine j_aload_n C dX6_told_67 0 rfl ?_
      refine gf_X6_12 C dX6_told_68 ?_
      refine j_iload_n C dX6_told_71 1 rfl ?_
      refine j_callpi 0 [.int x1] [] C (kX3_blocksOf_ok x1 σ0 h) (tt_V ml_X6_196 mV_X3_blocksOf) ok_X3_blocksOf ⟨by decide, by decide⟩ rfl (r_wX_0 (σ := σ0)) (Nat.le_of_ble_eq_true rfl) rfl dX6_told_72 (fun r72 h => ?_)
      exact j_iret C dX6_told_75 h
    by_cases hc3 : x2 = 3
    · replace h := h.2.2.2.1 hc3
      refine j_tableIn 76 3 C dX6_told_18 hc3 (by decide) (by decide) rfl rfl ?_
      refine j_aload_n C dX6_told_76 0 rfl ?_
      refine gf_X6_12 C dX6_told_77 ?_
      refine j_iload_n C dX6_told_80 1 rfl ?_
      refine j_callpi 0 [.int x1] [] C (kX3_freePiecesOf_ok x1 σ0 h) (tt_V ml_X6_199 mV_X3_freePiecesOf) ok_X3_freePiecesOf ⟨by decide, by decide⟩ rfl (r_wX_0 (σ := σ0)) (Nat.le_of_ble_eq_true rfl) rfl dX6_told_81 (fun r81 h => ?_)
      exact j_iret C dX6_told_84 h
    replace h := h.2.2.2.2 ⟨hc0, hc1, hc2, hc3⟩
    refine j_tableOut 85 C dX6_told_18 (by have e0 := lv_neT (a := 0) hc0 (by decide); have e1 := lv_neT (a := 1) hc1 (by decide); have e2 := lv_neT (a := 2) hc2 (by decide); have e3 := lv_neT (a := 3) hc3 (by decide); omega) rfl ?_
    refine j_aload_n C dX6_told_85 0 rfl ?_
    refine j_iconst (v := (-1)) C dX6_told_86 (by decide) ?_
    refine j_calli 18 [.int ((-1))] [] C (kX6_tell_ok ((-1)) σ0 h) (tt_V ml_X6_55 mV_X6_tell) ok_X6_tell ⟨by decide, by decide⟩ rfl (r_wX_18 (σ := σ0)) (Nat.le_of_ble_eq_true rfl) rfl dX6_told_87 (fun r87 σ87 h => ?_)
    exact j_iret C dX6_told_90 h
  · refine j_aload_n C dX6_told_11 0 rfl ?_
    refine j_iconst (v := (-1)) C dX6_told_12 (by decide) ?_
    refine j_calli 18 [.int ((-1))] [] C (kX6_tell_ok ((-1)) σ0 h) (tt_V ml_X6_55 mV_X6_tell) ok_X6_tell ⟨by decide, by decide⟩ rfl (r_wX_18 (σ := σ0)) (Nat.le_of_ble_eq_true rfl) rfl dX6_told_13 (fun r13 σ13 h => ?_)
    exact j_iret C dX6_told_16 h
def wX6_map_b20 (σ : SS) (Q : Int32 → SS → Prop) : Prop := wX6_tell ((-1)) σ (fun r22 σ22 => Q r22 σ22)
def wX6_map (x1 : Int32) (x2 : Int32) (σ : SS) (Q : Int32 → SS → Prop) : Prop := (x2 < 0 → wX6_map_b20 σ Q) ∧ (¬ x2 < 0 → (4 < x2 → wX6_map_b20 σ Q) ∧ (¬ 4 < x2 → wX1_seek x1 σ (fun r14 σ14 => (¬ r14 = 0 → (x2 = 0 → Q (gI σ14 4) σ14) ∧ (x2 = 1 → Q (gI σ14 5) σ14) ∧ (x2 = 2 → Q (gI σ14 6) σ14) ∧ (x2 = 3 → wX1_handle σ14 (fun r84 => Q r84 σ14)) ∧ (¬ x2 = 0 ∧ ¬ x2 = 1 ∧ ¬ x2 = 2 ∧ ¬ x2 = 3 → wX1_zoneNumber σ14 (fun r92 => Q r92 σ14))) ∧ (r14 = 0 → wX6_map_b20 σ14 Q))))
set_option maxRecDepth 100000 in
set_option maxHeartbeats 4000000 in
theorem kX6_map_ok {l : Launch} {D : va_G} {cI cJ cZ : ClassId} {ad : Nat → Nat} {kv : Value} (x1 : Int32) (x2 : Int32) (σ0 : SS) {Q : Int32 → SS → Prop} (h : wX6_map x1 x2 σ0 Q) : Ci l yX6_map (.code yX6_map cX6_map 3 (some .int) :: TT) { frames := 6, cells := 0, slots := 0, locals := 131 } D (tys cI cJ cZ) (wX cI cJ ad kv) [.ref (ad 18), .int x1, .int x2] σ0 Q := by
  refine Ci.of (lv := [(0, .ref (ad 18)), (1, .int x1), (2, .int x2)]) (by decide) adX (Nat.le_of_ble_eq_true rfl) rfl ?_
  intro p e s m args below meth c A C
  have k20 : ∀ (σ : SS), wX6_map_b20 σ Q → J p l e { frames := 6, cells := 0, slots := 0, locals := 131 } s m args below meth c D (wX cI cJ ad kv) A 3 (MQ below (va_Qi Q (WW D (tys cI cJ cZ) (wX cI cJ ad kv)) A) args s 0 0 A) σ 20 [(0, .ref (ad 18))] [] := by
    intro σ h
    refine j_aload_n C dX6_map_20 0 rfl ?_
    refine j_iconst (v := (-1)) C dX6_map_21 (by decide) ?_
    refine j_calli 18 [.int ((-1))] [] C (kX6_tell_ok ((-1)) σ h) (tt_V ml_X6_55 mV_X6_tell) ok_X6_tell ⟨by decide, by decide⟩ rfl (r_wX_18 (σ := σ)) (Nat.le_of_ble_eq_true rfl) rfl dX6_map_22 (fun r22 σ22 h => ?_)
    exact j_iret C dX6_map_25 h
  refine j_iload_n C dX6_map_0 2 rfl ?_
  refine j_if_lt 20 C dX6_map_1 rfl h (fun h => ?_) (fun h => ?_)
  · refine j_sub (lv' := [(0, .ref (ad 18))]) [0] rfl ?_
    exact k20 _ h
  · refine j_iload_n C dX6_map_4 2 rfl ?_
    refine j_iconst (v := 4) C dX6_map_5 (by decide) ?_
    refine j_icmp_gt 20 C dX6_map_6 rfl h (fun h => ?_) (fun h => ?_)
    · refine j_sub (lv' := [(0, .ref (ad 18))]) [0] rfl ?_
      exact k20 _ h
    · refine j_aload_n C dX6_map_9 0 rfl ?_
      refine gf_X6_21 C dX6_map_10 ?_
      refine j_iload_n C dX6_map_13 1 rfl ?_
      refine j_calli 12 [.int x1] [] C (kX1_seek_ok x1 σ0 h) (tt_V ml_X6_202 mV_X1_seek) ok_X1_seek ⟨by decide, by decide⟩ rfl (r_wX_12 (σ := σ0)) (Nat.le_of_ble_eq_true rfl) rfl dX6_map_14 (fun r14 σ14 h => ?_)
      refine j_if_ne 26 C dX6_map_17 rfl h (fun h => ?_) (fun h => ?_)
      · refine j_iload_n C dX6_map_26 2 rfl ?_
        by_cases hc0 : x2 = 0
        · replace h := h.1 hc0
          refine j_tableIn 56 0 C dX6_map_27 hc0 (by decide) (by decide) rfl rfl ?_
          refine j_aload_n C dX6_map_56 0 rfl ?_
          refine gf_X6_21 C dX6_map_57 ?_
          refine gf_X6_205 C dX6_map_60 ?_
          exact j_iret C dX6_map_63 h
        by_cases hc1 : x2 = 1
        · replace h := h.2.1 hc1
          refine j_tableIn 64 1 C dX6_map_27 hc1 (by decide) (by decide) rfl rfl ?_
          refine j_aload_n C dX6_map_64 0 rfl ?_
          refine gf_X6_21 C dX6_map_65 ?_
          refine gf_X6_208 C dX6_map_68 ?_
          exact j_iret C dX6_map_71 h
        by_cases hc2 : x2 = 2
        · replace h := h.2.2.1 hc2
          refine j_tableIn 72 2 C dX6_map_27 hc2 (by decide) (by decide) rfl rfl ?_
          refine j_aload_n C dX6_map_72 0 rfl ?_
          refine gf_X6_21 C dX6_map_73 ?_
          refine gf_X6_211 C dX6_map_76 ?_
          exact j_iret C dX6_map_79 h
        by_cases hc3 : x2 = 3
        · replace h := h.2.2.2.1 hc3
          refine j_tableIn 80 3 C dX6_map_27 hc3 (by decide) (by decide) rfl rfl ?_
          refine j_aload_n C dX6_map_80 0 rfl ?_
          refine gf_X6_21 C dX6_map_81 ?_
          refine j_callpi 12 [] [] C (kX1_handle_ok σ14 h) (tt_V ml_X6_214 mV_X1_handle) ok_X1_handle ⟨by decide, by decide⟩ rfl (r_wX_12 (σ := σ14)) (Nat.le_of_ble_eq_true rfl) rfl dX6_map_84 (fun r84 h => ?_)
          exact j_iret C dX6_map_87 h
        replace h := h.2.2.2.2 ⟨hc0, hc1, hc2, hc3⟩
        refine j_tableOut 88 C dX6_map_27 (by have e0 := lv_neT (a := 0) hc0 (by decide); have e1 := lv_neT (a := 1) hc1 (by decide); have e2 := lv_neT (a := 2) hc2 (by decide); have e3 := lv_neT (a := 3) hc3 (by decide); omega) rfl ?_
        refine j_aload_n C dX6_map_88 0 rfl ?_
        refine gf_X6_21 C dX6_map_89 ?_
        refine j_callpi 12 [] [] C (kX1_zoneNumber_ok σ14 h) (tt_V ml_X6_217 mV_X1_zoneNumber) ok_X1_zoneNumber ⟨by decide, by decide⟩ rfl (r_wX_12 (σ := σ14)) (Nat.le_of_ble_eq_true rfl) rfl dX6_map_92 (fun r92 h => ?_)
        exact j_iret C dX6_map_95 h
      · refine j_sub (lv' := [(0, .ref (ad 18))]) [0] rfl ?_
        exact k20 _ h
def wX6_count (x1 : Int32) (σ : SS) (Q : Int32 → SS → Prop) : Prop := (x1 = 0 → Q (gI σ 0) σ) ∧ (x1 = 1 → wX3_pagesOf ((-1)) σ (fun r49 => Q r49 σ)) ∧ (x1 = 2 → Q (gI σ 1) σ) ∧ (x1 = 3 → wX3_blocks σ (fun r65 => Q r65 σ)) ∧ (x1 = 4 → wX1_entries σ (fun r73 σ73 => Q r73 σ73)) ∧ (¬ x1 = 0 ∧ ¬ x1 = 1 ∧ ¬ x1 = 2 ∧ ¬ x1 = 3 ∧ ¬ x1 = 4 → wX6_tell ((-1)) σ (fun r79 σ79 => Q r79 σ79))
set_option maxRecDepth 100000 in
set_option maxHeartbeats 4000000 in
theorem kX6_count_ok {l : Launch} {D : va_G} {cI cJ cZ : ClassId} {ad : Nat → Nat} {kv : Value} (x1 : Int32) (σ0 : SS) {Q : Int32 → SS → Prop} (h : wX6_count x1 σ0 Q) : Ci l yX6_count (.code yX6_count cX6_count 2 (some .int) :: TT) { frames := 6, cells := 0, slots := 0, locals := 130 } D (tys cI cJ cZ) (wX cI cJ ad kv) [.ref (ad 18), .int x1] σ0 Q := by
  refine Ci.of (lv := [(0, .ref (ad 18)), (1, .int x1)]) (by decide) adX (Nat.le_of_ble_eq_true rfl) rfl ?_
  intro p e s m args below meth c A C
  refine j_iload_n C dX6_count_0 1 rfl ?_
  by_cases hc0 : x1 = 0
  · replace h := h.1 hc0
    refine j_tableIn 36 0 C dX6_count_1 hc0 (by decide) (by decide) rfl rfl ?_
    refine j_aload_n C dX6_count_36 0 rfl ?_
    refine gf_X6_12 C dX6_count_37 ?_
    refine gf_X6_63 C dX6_count_40 ?_
    exact j_iret C dX6_count_43 h
  by_cases hc1 : x1 = 1
  · replace h := h.2.1 hc1
    refine j_tableIn 44 1 C dX6_count_1 hc1 (by decide) (by decide) rfl rfl ?_
    refine j_aload_n C dX6_count_44 0 rfl ?_
    refine gf_X6_12 C dX6_count_45 ?_
    refine j_iconst (v := (-1)) C dX6_count_48 (by decide) ?_
    refine j_callpi 0 [.int ((-1))] [] C (kX3_pagesOf_ok ((-1)) σ0 h) (tt_V ml_X6_193 mV_X3_pagesOf) ok_X3_pagesOf ⟨by decide, by decide⟩ rfl (r_wX_0 (σ := σ0)) (Nat.le_of_ble_eq_true rfl) rfl dX6_count_49 (fun r49 h => ?_)
    exact j_iret C dX6_count_52 h
  by_cases hc2 : x1 = 2
  · replace h := h.2.2.1 hc2
    refine j_tableIn 53 2 C dX6_count_1 hc2 (by decide) (by decide) rfl rfl ?_
    refine j_aload_n C dX6_count_53 0 rfl ?_
    refine gf_X6_12 C dX6_count_54 ?_
    refine gf_X6_72 C dX6_count_57 ?_
    exact j_iret C dX6_count_60 h
  by_cases hc3 : x1 = 3
  · replace h := h.2.2.2.1 hc3
    refine j_tableIn 61 3 C dX6_count_1 hc3 (by decide) (by decide) rfl rfl ?_
    refine j_aload_n C dX6_count_61 0 rfl ?_
    refine gf_X6_12 C dX6_count_62 ?_
    refine j_callpi 0 [] [] C (kX3_blocks_ok σ0 h) (tt_V ml_X6_220 mV_X3_blocks) ok_X3_blocks ⟨by decide, by decide⟩ rfl (r_wX_0 (σ := σ0)) (Nat.le_of_ble_eq_true rfl) rfl dX6_count_65 (fun r65 h => ?_)
    exact j_iret C dX6_count_68 h
  by_cases hc4 : x1 = 4
  · replace h := h.2.2.2.2.1 hc4
    refine j_tableIn 69 4 C dX6_count_1 hc4 (by decide) (by decide) rfl rfl ?_
    refine j_aload_n C dX6_count_69 0 rfl ?_
    refine gf_X6_21 C dX6_count_70 ?_
    refine j_calli 12 [] [] C (kX1_entries_ok σ0 h) (tt_V ml_X6_223 mV_X1_entries) ok_X1_entries ⟨by decide, by decide⟩ rfl (r_wX_12 (σ := σ0)) (Nat.le_of_ble_eq_true rfl) rfl dX6_count_73 (fun r73 σ73 h => ?_)
    exact j_iret C dX6_count_76 h
  replace h := h.2.2.2.2.2 ⟨hc0, hc1, hc2, hc3, hc4⟩
  refine j_tableOut 77 C dX6_count_1 (by have e0 := lv_neT (a := 0) hc0 (by decide); have e1 := lv_neT (a := 1) hc1 (by decide); have e2 := lv_neT (a := 2) hc2 (by decide); have e3 := lv_neT (a := 3) hc3 (by decide); have e4 := lv_neT (a := 4) hc4 (by decide); omega) rfl ?_
  refine j_aload_n C dX6_count_77 0 rfl ?_
  refine j_iconst (v := (-1)) C dX6_count_78 (by decide) ?_
  refine j_calli 18 [.int ((-1))] [] C (kX6_tell_ok ((-1)) σ0 h) (tt_V ml_X6_55 mV_X6_tell) ok_X6_tell ⟨by decide, by decide⟩ rfl (r_wX_18 (σ := σ0)) (Nat.le_of_ble_eq_true rfl) rfl dX6_count_79 (fun r79 σ79 h => ?_)
  exact j_iret C dX6_count_82 h
def wX6_hold_b25 (σ : SS) (Q : Int32 → SS → Prop) : Prop := wX6_tell ((-1)) σ (fun r27 σ27 => Q r27 σ27)
def wX6_hold_b9 (σ : SS) (Q : Int32 → SS → Prop) : Prop := wX6_tell ((-1)) σ (fun r11 σ11 => Q r11 σ11)
def wX6_hold (x1 : Int32) (x2 : Int32) (σ : SS) (Q : Int32 → SS → Prop) : Prop := (x1 < 0 → wX6_hold_b9 σ Q) ∧ (¬ x1 < 0 → (x1 < 4 → (x2 < 0 → wX6_hold_b25 σ Q) ∧ (¬ x2 < 0 → (x2 ≤ 99 → vp_in x1 4 ∧ (vp_in x1 4 ∧ (Q (gA σ 8 x1.toNatClampNeg) (sA σ 8 x1.toNatClampNeg x2)))) ∧ (¬ x2 ≤ 99 → wX6_hold_b25 σ Q))) ∧ (¬ x1 < 4 → wX6_hold_b9 σ Q))
set_option maxRecDepth 100000 in
set_option maxHeartbeats 4000000 in
theorem kX6_hold_ok {l : Launch} {D : va_G} {cI cJ cZ : ClassId} {ad : Nat → Nat} {kv : Value} (x1 : Int32) (x2 : Int32) (σ0 : SS) {Q : Int32 → SS → Prop} (h : wX6_hold x1 x2 σ0 Q) : Ci l yX6_hold (.code yX6_hold cX6_hold 4 (some .int) :: TT) { frames := 1, cells := 0, slots := 0, locals := 21 } D (tys cI cJ cZ) (wX cI cJ ad kv) [.ref (ad 18), .int x1, .int x2] σ0 Q := by
  refine Ci.of (lv := [(0, .ref (ad 18)), (1, .int x1), (2, .int x2)]) (by decide) adX (Nat.le_of_ble_eq_true rfl) rfl ?_
  intro p e s m args below meth c A C
  have k25 : ∀ (σ : SS), wX6_hold_b25 σ Q → J p l e { frames := 1, cells := 0, slots := 0, locals := 21 } s m args below meth c D (wX cI cJ ad kv) A 4 (MQ below (va_Qi Q (WW D (tys cI cJ cZ) (wX cI cJ ad kv)) A) args s 0 0 A) σ 25 [(0, .ref (ad 18))] [] := by
    intro σ h
    refine j_aload_n C dX6_hold_25 0 rfl ?_
    refine j_iconst (v := (-1)) C dX6_hold_26 (by decide) ?_
    refine j_calli 18 [.int ((-1))] [] C (kX6_tell_ok ((-1)) σ h) (tt_V ml_X6_55 mV_X6_tell) ok_X6_tell ⟨by decide, by decide⟩ rfl (r_wX_18 (σ := σ)) (Nat.le_of_ble_eq_true rfl) rfl dX6_hold_27 (fun r27 σ27 h => ?_)
    exact j_iret C dX6_hold_30 h
  have k9 : ∀ (σ : SS), wX6_hold_b9 σ Q → J p l e { frames := 1, cells := 0, slots := 0, locals := 21 } s m args below meth c D (wX cI cJ ad kv) A 4 (MQ below (va_Qi Q (WW D (tys cI cJ cZ) (wX cI cJ ad kv)) A) args s 0 0 A) σ 9 [(0, .ref (ad 18))] [] := by
    intro σ h
    refine j_aload_n C dX6_hold_9 0 rfl ?_
    refine j_iconst (v := (-1)) C dX6_hold_10 (by decide) ?_
    refine j_calli 18 [.int ((-1))] [] C (kX6_tell_ok ((-1)) σ h) (tt_V ml_X6_55 mV_X6_tell) ok_X6_tell ⟨by decide, by decide⟩ rfl (r_wX_18 (σ := σ)) (Nat.le_of_ble_eq_true rfl) rfl dX6_hold_11 (fun r11 σ11 h => ?_)
    exact j_iret C dX6_hold_14 h
  refine j_iload_n C dX6_hold_0 1 rfl ?_
  refine j_if_lt 9 C dX6_hold_1 rfl h (fun h => ?_) (fun h => ?_)
  · refine j_sub (lv' := [(0, .ref (ad 18))]) [0] rfl ?_
    exact k9 _ h
  · refine j_iload_n C dX6_hold_4 1 rfl ?_
    refine j_iconst (v := 4) C dX6_hold_5 (by decide) ?_
    refine j_icmp_lt 15 C dX6_hold_6 rfl h (fun h => ?_) (fun h => ?_)
    · refine j_iload_n C dX6_hold_15 2 rfl ?_
      refine j_if_lt 25 C dX6_hold_16 rfl h (fun h => ?_) (fun h => ?_)
      · refine j_sub (lv' := [(0, .ref (ad 18))]) [0] rfl ?_
        exact k25 _ h
      · refine j_iload_n C dX6_hold_19 2 rfl ?_
        refine j_bipush (v := 99) C dX6_hold_20 (by decide) ?_
        refine j_icmp_le 31 C dX6_hold_22 rfl h (fun h => ?_) (fun h => ?_)
        · refine j_aload_n C dX6_hold_31 0 rfl ?_
          refine gf_X6_12 C dX6_hold_32 ?_
          refine gf_X6_229 C dX6_hold_35 ?_
          refine j_iload_n C dX6_hold_38 1 rfl ?_
          refine al_wX_11 C h.1 dX6_hold_39 ?_
          replace h := h.2
          refine j_istore_n (lv' := [(3, .int (gA σ0 8 x1.toNatClampNeg)), (0, .ref (ad 18)), (1, .int x1), (2, .int x2)]) C dX6_hold_40 (by decide) rfl ?_
          refine j_aload_n C dX6_hold_41 1 rfl ?_
          refine gf_X6_12 C dX6_hold_42 ?_
          refine gf_X6_229 C dX6_hold_45 ?_
          refine j_iload_n C dX6_hold_48 2 rfl ?_
          refine j_iload_n C dX6_hold_49 3 rfl ?_
          refine as_wX_11 C h.1 dX6_hold_50 ?_
          replace h := h.2
          refine j_iload_n C dX6_hold_51 0 rfl ?_
          exact j_iret C dX6_hold_52 h
        · refine j_sub (lv' := [(0, .ref (ad 18))]) [0] rfl ?_
          exact k25 _ h
    · refine j_sub (lv' := [(0, .ref (ad 18))]) [0] rfl ?_
      exact k9 _ h
def wX6_throwIt_b9 (σ : SS) (Q : Int32 → SS → Prop) : Prop := wX6_tell ((-1)) σ (fun r11 σ11 => Q r11 σ11)
def wX6_throwIt (x1 : Int32) (σ : SS) (Q : Int32 → SS → Prop) : Prop := (x1 < 0 → wX6_throwIt_b9 σ Q) ∧ (¬ x1 < 0 → (x1 < 4 → vp_in x1 4 ∧ ((¬ (gA σ 8 x1.toNatClampNeg) = 0 → vp_in x1 4 ∧ (Q (gA σ 8 x1.toNatClampNeg) σ)) ∧ ((gA σ 8 x1.toNatClampNeg) = 0 → wX6_tell ((-4)) σ (fun r30 σ30 => Q r30 σ30)))) ∧ (¬ x1 < 4 → wX6_throwIt_b9 σ Q))
set_option maxRecDepth 100000 in
set_option maxHeartbeats 4000000 in
theorem kX6_throwIt_ok {l : Launch} {D : va_G} {cI cJ cZ : ClassId} {ad : Nat → Nat} {kv : Value} (x1 : Int32) (σ0 : SS) {Q : Int32 → SS → Prop} (h : wX6_throwIt x1 σ0 Q) : Ci l yX6_throwIt (.code yX6_throwIt cX6_throwIt 2 (some .int) :: TT) { frames := 1, cells := 0, slots := 0, locals := 21 } D (tys cI cJ cZ) (wX cI cJ ad kv) [.ref (ad 18), .int x1] σ0 Q := by
  refine Ci.of (lv := [(0, .ref (ad 18)), (1, .int x1)]) (by decide) adX (Nat.le_of_ble_eq_true rfl) rfl ?_
  intro p e s m args below meth c A C
  have k9 : ∀ (σ : SS), wX6_throwIt_b9 σ Q → J p l e { frames := 1, cells := 0, slots := 0, locals := 21 } s m args below meth c D (wX cI cJ ad kv) A 2 (MQ below (va_Qi Q (WW D (tys cI cJ cZ) (wX cI cJ ad kv)) A) args s 0 0 A) σ 9 [(0, .ref (ad 18))] [] := by
    intro σ h
    refine j_aload_n C dX6_throwIt_9 0 rfl ?_
    refine j_iconst (v := (-1)) C dX6_throwIt_10 (by decide) ?_
    refine j_calli 18 [.int ((-1))] [] C (kX6_tell_ok ((-1)) σ h) (tt_V ml_X6_55 mV_X6_tell) ok_X6_tell ⟨by decide, by decide⟩ rfl (r_wX_18 (σ := σ)) (Nat.le_of_ble_eq_true rfl) rfl dX6_throwIt_11 (fun r11 σ11 h => ?_)
    exact j_iret C dX6_throwIt_14 h
  refine j_iload_n C dX6_throwIt_0 1 rfl ?_
  refine j_if_lt 9 C dX6_throwIt_1 rfl h (fun h => ?_) (fun h => ?_)
  · refine j_sub (lv' := [(0, .ref (ad 18))]) [0] rfl ?_
    exact k9 _ h
  · refine j_iload_n C dX6_throwIt_4 1 rfl ?_
    refine j_iconst (v := 4) C dX6_throwIt_5 (by decide) ?_
    refine j_icmp_lt 15 C dX6_throwIt_6 rfl h (fun h => ?_) (fun h => ?_)
    · refine j_aload_n C dX6_throwIt_15 0 rfl ?_
      refine gf_X6_12 C dX6_throwIt_16 ?_
      refine gf_X6_229 C dX6_throwIt_19 ?_
      refine j_iload_n C dX6_throwIt_22 1 rfl ?_
      refine al_wX_11 C h.1 dX6_throwIt_23 ?_
      replace h := h.2
      refine j_if_ne 34 C dX6_throwIt_24 rfl h (fun h => ?_) (fun h => ?_)
      · refine j_aload_n C dX6_throwIt_34 0 rfl ?_
        refine gf_X6_12 C dX6_throwIt_35 ?_
        refine gf_X6_229 C dX6_throwIt_38 ?_
        refine j_iload_n C dX6_throwIt_41 1 rfl ?_
        refine al_wX_11 C h.1 dX6_throwIt_42 ?_
        replace h := h.2
        exact j_iret C dX6_throwIt_43 h
      · refine j_aload_n C dX6_throwIt_27 0 rfl ?_
        refine j_bipush (v := (-4)) C dX6_throwIt_28 (by decide) ?_
        refine j_calli 18 [.int ((-4))] [] C (kX6_tell_ok ((-4)) σ0 h) (tt_V ml_X6_55 mV_X6_tell) ok_X6_tell ⟨by decide, by decide⟩ rfl (r_wX_18 (σ := σ0)) (Nat.le_of_ble_eq_true rfl) rfl dX6_throwIt_30 (fun r30 σ30 h => ?_)
        exact j_iret C dX6_throwIt_33 h
    · refine j_sub (lv' := [(0, .ref (ad 18))]) [0] rfl ?_
      exact k9 _ h
def wX6_found_b11 (σ : SS) (Q : Int32 → SS → Prop) : Prop := wX6_tell ((-1)) σ (fun r13 σ13 => Q r13 σ13)
def wX6_found (x1 : Int32) (σ : SS) (Q : Int32 → SS → Prop) : Prop := (((-1)) < x1 → wX6_found_b11 σ Q) ∧ (¬ ((-1)) < x1 → (((-9)) ≤ x1 → vp_in (-x1) 10 ∧ (Q (gA σ 11 (-x1).toNatClampNeg) σ)) ∧ (¬ ((-9)) ≤ x1 → wX6_found_b11 σ Q))
set_option maxRecDepth 100000 in
set_option maxHeartbeats 4000000 in
theorem kX6_found_ok {l : Launch} {D : va_G} {cI cJ cZ : ClassId} {ad : Nat → Nat} {kv : Value} (x1 : Int32) (σ0 : SS) {Q : Int32 → SS → Prop} (h : wX6_found x1 σ0 Q) : Ci l yX6_found (.code yX6_found cX6_found 2 (some .int) :: TT) { frames := 1, cells := 0, slots := 0, locals := 21 } D (tys cI cJ cZ) (wX cI cJ ad kv) [.ref (ad 18), .int x1] σ0 Q := by
  refine Ci.of (lv := [(0, .ref (ad 18)), (1, .int x1)]) (by decide) adX (Nat.le_of_ble_eq_true rfl) rfl ?_
  intro p e s m args below meth c A C
  have k11 : ∀ (σ : SS), wX6_found_b11 σ Q → J p l e { frames := 1, cells := 0, slots := 0, locals := 21 } s m args below meth c D (wX cI cJ ad kv) A 2 (MQ below (va_Qi Q (WW D (tys cI cJ cZ) (wX cI cJ ad kv)) A) args s 0 0 A) σ 11 [(0, .ref (ad 18))] [] := by
    intro σ h
    refine j_aload_n C dX6_found_11 0 rfl ?_
    refine j_iconst (v := (-1)) C dX6_found_12 (by decide) ?_
    refine j_calli 18 [.int ((-1))] [] C (kX6_tell_ok ((-1)) σ h) (tt_V ml_X6_55 mV_X6_tell) ok_X6_tell ⟨by decide, by decide⟩ rfl (r_wX_18 (σ := σ)) (Nat.le_of_ble_eq_true rfl) rfl dX6_found_13 (fun r13 σ13 h => ?_)
    exact j_iret C dX6_found_16 h
  refine j_iload_n C dX6_found_0 1 rfl ?_
  refine j_iconst (v := (-1)) C dX6_found_1 (by decide) ?_
  refine j_icmp_gt 11 C dX6_found_2 rfl h (fun h => ?_) (fun h => ?_)
  · refine j_sub (lv' := [(0, .ref (ad 18))]) [0] rfl ?_
    exact k11 _ h
  · refine j_iload_n C dX6_found_5 1 rfl ?_
    refine j_bipush (v := (-9)) C dX6_found_6 (by decide) ?_
    refine j_icmp_ge 17 C dX6_found_8 rfl h (fun h => ?_) (fun h => ?_)
    · refine j_aload_n C dX6_found_17 0 rfl ?_
      refine gf_X6_44 C dX6_found_18 ?_
      refine j_iload_n C dX6_found_21 1 rfl ?_
      refine j_ineg C dX6_found_22 ?_
      refine al_wX_19 C h.1 dX6_found_23 ?_
      replace h := h.2
      exact j_iret C dX6_found_24 h
    · refine j_sub (lv' := [(0, .ref (ad 18))]) [0] rfl ?_
      exact k11 _ h
