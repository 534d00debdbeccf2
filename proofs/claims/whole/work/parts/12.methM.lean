def wX7_answer (x1 : Int32) (σ : SS) (Q : Int32 → SS → Prop) : Prop := (0 ≤ x1 → Q x1 σ) ∧ (¬ 0 ≤ x1 → vp_in (-x1) 10 ∧ (vp_in (-x1) 10 ∧ (Q x1 (sA σ 10 (-x1).toNatClampNeg ((gA σ 10 (-x1).toNatClampNeg) + 1)))))
set_option maxRecDepth 100000 in
set_option maxHeartbeats 4000000 in
theorem kX7_answer_ok {l : Launch} {D : va_G} {cI cJ cZ : ClassId} {ad : Nat → Nat} (x1 : Int32) (σ0 : SS) {Q : Int32 → SS → Prop} (h : wX7_answer x1 σ0 Q) : Ci l yX7_answer (.code yX7_answer cX7_answer 2 (some .int) :: TT) { frames := 0, cells := 0, slots := 0, locals := 0 } D (tys cI cJ cZ) (wM cI cJ cZ ad) [.ref (ad 0), .int x1] σ0 Q := by
  refine Ci.of (lv := [(0, .ref (ad 0)), (1, .int x1)]) (by decide) adM (Nat.le_of_ble_eq_true rfl) rfl ?_
  intro p e s m args below meth c A C
  refine j_iload_n C dX7_answer_0 1 rfl ?_
  refine j_if_ge 15 C dX7_answer_1 rfl h (fun h => ?_) (fun h => ?_)
  · refine j_iload_n C dX7_answer_15 1 rfl ?_
    exact j_iret C dX7_answer_16 h
  · refine j_aload_n C dX7_answer_4 0 rfl ?_
    refine gf_X7_48 C dX7_answer_5 ?_
    refine j_iload_n C dX7_answer_8 1 rfl ?_
    refine j_ineg C dX7_answer_9 ?_
    refine j_dup2 C dX7_answer_10 rfl rfl ?_
    refine al_wM_13 C h.1 dX7_answer_11 ?_
    replace h := h.2
    refine j_iconst (v := 1) C dX7_answer_12 (by decide) ?_
    refine j_iadd C dX7_answer_13 ?_
    refine as_wM_13 C h.1 dX7_answer_14 ?_
    replace h := h.2
    refine j_iload_n C dX7_answer_15 1 rfl ?_
    exact j_iret C dX7_answer_16 h
def wX7_open_b127 (x1 : Int32) (x2 : Int32) (σ : SS) (Q : Int32 → SS → Prop) : Prop := lfp (fun (X127 : Int32 × SS → Prop) (t : Int32 × SS) => (4 ≤ t.1 → Q x1 (sL t.2 0 0)) ∧ (¬ 4 ≤ t.1 → vp_in t.1 4 ∧ (X127 ((t.1 + 1), sA t.2 9 t.1.toNatClampNeg 0)))) (x2, σ)
def wX7_open_b94 (x1 : Int32) (x2 : Int32) (σ : SS) (Q : Int32 → SS → Prop) : Prop := lfp (fun (X94 : Int32 × SS → Prop) (t : Int32 × SS) => (100 ≤ t.1 → wX7_open_b127 x1 0 (sI t.2 2 0) Q) ∧ (¬ 100 ≤ t.1 → vp_in t.1 100 ∧ (vp_in t.1 100 ∧ (X94 ((t.1 + 1), sA (sA t.2 4 t.1.toNatClampNeg 0) 5 t.1.toNatClampNeg (vp_nar .boolean 0)))))) (x2, σ)
def wX7_open_b53 (x1 : Int32) (x2 : Int32) (σ : SS) (Q : Int32 → SS → Prop) : Prop := lfp (fun (X53 : Int32 × SS → Prop) (t : Int32 × SS) => (2560 ≤ t.1 → wX7_open_b94 x1 0 (sI t.2 1 0) Q) ∧ (¬ 2560 ≤ t.1 → vp_in t.1 2560 ∧ (vp_in t.1 2560 ∧ (vp_in t.1 2560 ∧ (X53 ((t.1 + 1), sA (sA (sB t.2 0 t.1.toNatClampNeg 0) 1 t.1.toNatClampNeg 0) 2 t.1.toNatClampNeg ((-1)))))))) (x2, σ)
def wX7_open_b32 (x1 : Int32) (x2 : Int32) (σ : SS) (Q : Int32 → SS → Prop) : Prop := lfp (fun (X32 : Int32 × SS → Prop) (t : Int32 × SS) => (40 ≤ t.1 → wX7_open_b53 x1 0 t.2 Q) ∧ (¬ 40 ≤ t.1 → vp_in t.1 40 ∧ (X32 ((t.1 + 1), sA t.2 0 t.1.toNatClampNeg ((-1)))))) (x2, σ)
def wX7_open_b21 (t0 : Int32) (σ : SS) (Q : Int32 → SS → Prop) : Prop := wX7_answer t0 σ (fun r21 σ21 => Q r21 σ21)
def wX7_open_b10 (x1 : Int32) (σ : SS) (Q : Int32 → SS → Prop) : Prop := (0 ≤ x1 → wX7_open_b21 ((-1)) σ Q) ∧ (¬ 0 ≤ x1 → wX7_open_b21 ((-3)) σ Q)
def wX7_open (x1 : Int32) (σ : SS) (Q : Int32 → SS → Prop) : Prop := (x1 < 0 → wX7_open_b10 x1 σ Q) ∧ (¬ x1 < 0 → (x1 ≤ 40 → wX7_open_b32 x1 0 (sI σ 0 x1) Q) ∧ (¬ x1 ≤ 40 → wX7_open_b10 x1 σ Q))
set_option maxRecDepth 100000 in
set_option maxHeartbeats 4000000 in
theorem kX7_open_ok {l : Launch} {D : va_G} {cI cJ cZ : ClassId} {ad : Nat → Nat} (x1 : Int32) (σ0 : SS) {Q : Int32 → SS → Prop} (h : wX7_open x1 σ0 Q) : Ci l yX7_open (.code yX7_open cX7_open 3 (some .int) :: TT) { frames := 1, cells := 0, slots := 0, locals := 21 } D (tys cI cJ cZ) (wM cI cJ cZ ad) [.ref (ad 0), .int x1] σ0 Q := by
  refine Ci.of (lv := [(0, .ref (ad 0)), (1, .int x1)]) (by decide) adM (Nat.le_of_ble_eq_true rfl) rfl ?_
  intro p e s m args below meth c A C
  have k127 : ∀ (x1 : Int32), ∀ (x2 : Int32), ∀ (σ : SS), wX7_open_b127 x1 x2 σ Q → J p l e { frames := 1, cells := 0, slots := 0, locals := 21 } s m args below meth c D (wM cI cJ cZ ad) A 3 (MQ below (va_Qi Q (WW D (tys cI cJ cZ) (wM cI cJ cZ ad)) A) args s 0 0 A) σ 127 [(0, .ref (ad 0)), (1, .int x1), (2, .int x2)] [] := by
    intro x1 x2 σ h
    refine h (fun t => J p l e { frames := 1, cells := 0, slots := 0, locals := 21 } s m args below meth c D (wM cI cJ cZ ad) A 3 (MQ below (va_Qi Q (WW D (tys cI cJ cZ) (wM cI cJ cZ ad)) A) args s 0 0 A) t.2 127 [(0, .ref (ad 0)), (1, .int x1), (2, .int t.1)] []) (fun t h => ?_)
    obtain ⟨x2, σ⟩ := t
    try dsimp only at h
    refine j_iload_n C dX7_open_127 2 rfl ?_
    refine j_iconst (v := 4) C dX7_open_128 (by decide) ?_
    refine j_icmp_ge 145 C dX7_open_129 rfl h (fun h => ?_) (fun h => ?_)
    · refine j_aload_n C dX7_open_145 0 rfl ?_
      refine j_lconst (v := 0) C dX7_open_146 (by decide) ?_
      refine pf_X7_104 C dX7_open_147 ?_
      refine j_iload_n C dX7_open_150 1 rfl ?_
      exact j_iret C dX7_open_151 h
    · refine j_aload_n C dX7_open_132 0 rfl ?_
      refine gf_X7_45 C dX7_open_133 ?_
      refine j_iload_n C dX7_open_136 2 rfl ?_
      refine j_iconst (v := 0) C dX7_open_137 (by decide) ?_
      refine as_wM_12 C h.1 dX7_open_138 ?_
      replace h := h.2
      refine j_iinc (lv' := [(2, .int (x2 + 1)), (0, .ref (ad 0)), (1, .int x1)]) (x2 + 1) C dX7_open_139 2 rfl rfl (by decide) rfl ?_
      refine j_goto 127 C dX7_open_142 rfl ?_
      refine j_sub (lv' := [(0, .ref (ad 0)), (1, .int x1), (2, .int (x2 + 1))]) [1, 2, 0] rfl ?_
      exact h
  have k94 : ∀ (x1 : Int32), ∀ (x2 : Int32), ∀ (σ : SS), wX7_open_b94 x1 x2 σ Q → J p l e { frames := 1, cells := 0, slots := 0, locals := 21 } s m args below meth c D (wM cI cJ cZ ad) A 3 (MQ below (va_Qi Q (WW D (tys cI cJ cZ) (wM cI cJ cZ ad)) A) args s 0 0 A) σ 94 [(0, .ref (ad 0)), (1, .int x1), (2, .int x2)] [] := by
    intro x1 x2 σ h
    refine h (fun t => J p l e { frames := 1, cells := 0, slots := 0, locals := 21 } s m args below meth c D (wM cI cJ cZ ad) A 3 (MQ below (va_Qi Q (WW D (tys cI cJ cZ) (wM cI cJ cZ ad)) A) args s 0 0 A) t.2 94 [(0, .ref (ad 0)), (1, .int x1), (2, .int t.1)] []) (fun t h => ?_)
    obtain ⟨x2, σ⟩ := t
    try dsimp only at h
    refine j_iload_n C dX7_open_94 2 rfl ?_
    refine j_bipush (v := 100) C dX7_open_95 (by decide) ?_
    refine j_icmp_ge 120 C dX7_open_97 rfl h (fun h => ?_) (fun h => ?_)
    · refine j_aload_n C dX7_open_120 0 rfl ?_
      refine j_iconst (v := 0) C dX7_open_121 (by decide) ?_
      refine pf_X7_101 C dX7_open_122 ?_
      refine j_iconst (v := 0) C dX7_open_125 (by decide) ?_
      refine j_istore_n (lv' := [(2, .int 0), (0, .ref (ad 0)), (1, .int x1)]) C dX7_open_126 (by decide) rfl ?_
      refine j_sub (lv' := [(0, .ref (ad 0)), (1, .int x1), (2, .int 0)]) [1, 2, 0] rfl ?_
      exact k127 _ _ _ h
    · refine j_aload_n C dX7_open_100 0 rfl ?_
      refine gf_X7_29 C dX7_open_101 ?_
      refine j_iload_n C dX7_open_104 2 rfl ?_
      refine j_iconst (v := 0) C dX7_open_105 (by decide) ?_
      refine as_wM_7 C h.1 dX7_open_106 ?_
      replace h := h.2
      refine j_aload_n C dX7_open_107 0 rfl ?_
      refine gf_X7_32 C dX7_open_108 ?_
      refine j_iload_n C dX7_open_111 2 rfl ?_
      refine j_iconst (v := 0) C dX7_open_112 (by decide) ?_
      refine as_wM_8 C h.1 dX7_open_113 ?_
      replace h := h.2
      refine j_iinc (lv' := [(2, .int (x2 + 1)), (0, .ref (ad 0)), (1, .int x1)]) (x2 + 1) C dX7_open_114 2 rfl rfl (by decide) rfl ?_
      refine j_goto 94 C dX7_open_117 rfl ?_
      refine j_sub (lv' := [(0, .ref (ad 0)), (1, .int x1), (2, .int (x2 + 1))]) [1, 2, 0] rfl ?_
      exact h
  have k53 : ∀ (x1 : Int32), ∀ (x2 : Int32), ∀ (σ : SS), wX7_open_b53 x1 x2 σ Q → J p l e { frames := 1, cells := 0, slots := 0, locals := 21 } s m args below meth c D (wM cI cJ cZ ad) A 3 (MQ below (va_Qi Q (WW D (tys cI cJ cZ) (wM cI cJ cZ ad)) A) args s 0 0 A) σ 53 [(0, .ref (ad 0)), (1, .int x1), (2, .int x2)] [] := by
    intro x1 x2 σ h
    refine h (fun t => J p l e { frames := 1, cells := 0, slots := 0, locals := 21 } s m args below meth c D (wM cI cJ cZ ad) A 3 (MQ below (va_Qi Q (WW D (tys cI cJ cZ) (wM cI cJ cZ ad)) A) args s 0 0 A) t.2 53 [(0, .ref (ad 0)), (1, .int x1), (2, .int t.1)] []) (fun t h => ?_)
    obtain ⟨x2, σ⟩ := t
    try dsimp only at h
    refine j_iload_n C dX7_open_53 2 rfl ?_
    refine j_sipush (v := 2560) C dX7_open_54 (by decide) ?_
    refine j_icmp_ge 87 C dX7_open_57 rfl h (fun h => ?_) (fun h => ?_)
    · refine j_aload_n C dX7_open_87 0 rfl ?_
      refine j_iconst (v := 0) C dX7_open_88 (by decide) ?_
      refine pf_X7_98 C dX7_open_89 ?_
      refine j_iconst (v := 0) C dX7_open_92 (by decide) ?_
      refine j_istore_n (lv' := [(2, .int 0), (0, .ref (ad 0)), (1, .int x1)]) C dX7_open_93 (by decide) rfl ?_
      refine j_sub (lv' := [(0, .ref (ad 0)), (1, .int x1), (2, .int 0)]) [1, 2, 0] rfl ?_
      exact k94 _ _ _ h
    · refine j_aload_n C dX7_open_60 0 rfl ?_
      refine gf_X7_13 C dX7_open_61 ?_
      refine j_iload_n C dX7_open_64 2 rfl ?_
      refine j_lconst (v := 0) C dX7_open_65 (by decide) ?_
      refine as_wM_2 C h.1 dX7_open_66 ?_
      replace h := h.2
      refine j_aload_n C dX7_open_67 0 rfl ?_
      refine gf_X7_17 C dX7_open_68 ?_
      refine j_iload_n C dX7_open_71 2 rfl ?_
      refine j_iconst (v := 0) C dX7_open_72 (by decide) ?_
      refine as_wM_3 C h.1 dX7_open_73 ?_
      replace h := h.2
      refine j_aload_n C dX7_open_74 0 rfl ?_
      refine gf_X7_20 C dX7_open_75 ?_
      refine j_iload_n C dX7_open_78 2 rfl ?_
      refine j_iconst (v := (-1)) C dX7_open_79 (by decide) ?_
      refine as_wM_4 C h.1 dX7_open_80 ?_
      replace h := h.2
      refine j_iinc (lv' := [(2, .int (x2 + 1)), (0, .ref (ad 0)), (1, .int x1)]) (x2 + 1) C dX7_open_81 2 rfl rfl (by decide) rfl ?_
      refine j_goto 53 C dX7_open_84 rfl ?_
      refine j_sub (lv' := [(0, .ref (ad 0)), (1, .int x1), (2, .int (x2 + 1))]) [1, 2, 0] rfl ?_
      exact h
  have k32 : ∀ (x1 : Int32), ∀ (x2 : Int32), ∀ (σ : SS), wX7_open_b32 x1 x2 σ Q → J p l e { frames := 1, cells := 0, slots := 0, locals := 21 } s m args below meth c D (wM cI cJ cZ ad) A 3 (MQ below (va_Qi Q (WW D (tys cI cJ cZ) (wM cI cJ cZ ad)) A) args s 0 0 A) σ 32 [(0, .ref (ad 0)), (1, .int x1), (2, .int x2)] [] := by
    intro x1 x2 σ h
    refine h (fun t => J p l e { frames := 1, cells := 0, slots := 0, locals := 21 } s m args below meth c D (wM cI cJ cZ ad) A 3 (MQ below (va_Qi Q (WW D (tys cI cJ cZ) (wM cI cJ cZ ad)) A) args s 0 0 A) t.2 32 [(0, .ref (ad 0)), (1, .int x1), (2, .int t.1)] []) (fun t h => ?_)
    obtain ⟨x2, σ⟩ := t
    try dsimp only at h
    refine j_iload_n C dX7_open_32 2 rfl ?_
    refine j_bipush (v := 40) C dX7_open_33 (by decide) ?_
    refine j_icmp_ge 51 C dX7_open_35 rfl h (fun h => ?_) (fun h => ?_)
    · refine j_iconst (v := 0) C dX7_open_51 (by decide) ?_
      refine j_istore_n (lv' := [(2, .int 0), (0, .ref (ad 0)), (1, .int x1)]) C dX7_open_52 (by decide) rfl ?_
      refine j_sub (lv' := [(0, .ref (ad 0)), (1, .int x1), (2, .int 0)]) [1, 2, 0] rfl ?_
      exact k53 _ _ _ h
    · refine j_aload_n C dX7_open_38 0 rfl ?_
      refine gf_X7_9 C dX7_open_39 ?_
      refine j_iload_n C dX7_open_42 2 rfl ?_
      refine j_iconst (v := (-1)) C dX7_open_43 (by decide) ?_
      refine as_wM_1 C h.1 dX7_open_44 ?_
      replace h := h.2
      refine j_iinc (lv' := [(2, .int (x2 + 1)), (0, .ref (ad 0)), (1, .int x1)]) (x2 + 1) C dX7_open_45 2 rfl rfl (by decide) rfl ?_
      refine j_goto 32 C dX7_open_48 rfl ?_
      refine j_sub (lv' := [(0, .ref (ad 0)), (1, .int x1), (2, .int (x2 + 1))]) [1, 2, 0] rfl ?_
      exact h
  have k21 : ∀ (t0 : Int32), ∀ (σ : SS), wX7_open_b21 t0 σ Q → J p l e { frames := 1, cells := 0, slots := 0, locals := 21 } s m args below meth c D (wM cI cJ cZ ad) A 3 (MQ below (va_Qi Q (WW D (tys cI cJ cZ) (wM cI cJ cZ ad)) A) args s 0 0 A) σ 21 [] [.int t0, .ref (ad 0)] := by
    intro t0 σ h
    refine j_calli 0 [.int t0] [] C (kX7_answer_ok t0 σ h) (tt_V ml_X7_90 mV_X7_answer) ok_X7_answer ⟨by decide, by decide⟩ rfl (r_wM_0 (σ := σ)) (Nat.le_of_ble_eq_true rfl) rfl dX7_open_21 (fun r21 σ21 h => ?_)
    exact j_iret C dX7_open_24 h
  have k10 : ∀ (x1 : Int32), ∀ (σ : SS), wX7_open_b10 x1 σ Q → J p l e { frames := 1, cells := 0, slots := 0, locals := 21 } s m args below meth c D (wM cI cJ cZ ad) A 3 (MQ below (va_Qi Q (WW D (tys cI cJ cZ) (wM cI cJ cZ ad)) A) args s 0 0 A) σ 10 [(0, .ref (ad 0)), (1, .int x1)] [] := by
    intro x1 σ h
    refine j_aload_n C dX7_open_10 0 rfl ?_
    refine j_iload_n C dX7_open_11 1 rfl ?_
    refine j_if_ge 20 C dX7_open_12 rfl h (fun h => ?_) (fun h => ?_)
    · refine j_iconst (v := (-1)) C dX7_open_20 (by decide) ?_
      refine j_sub (lv' := []) [] rfl ?_
      exact k21 _ _ h
    · refine j_bipush (v := (-3)) C dX7_open_15 (by decide) ?_
      refine j_goto 21 C dX7_open_17 rfl ?_
      refine j_sub (lv' := []) [] rfl ?_
      exact k21 _ _ h
  refine j_iload_n C dX7_open_0 1 rfl ?_
  refine j_if_lt 10 C dX7_open_1 rfl h (fun h => ?_) (fun h => ?_)
  · refine j_sub (lv' := [(0, .ref (ad 0)), (1, .int x1)]) [0, 1] rfl ?_
    exact k10 _ _ h
  · refine j_iload_n C dX7_open_4 1 rfl ?_
    refine j_bipush (v := 40) C dX7_open_5 (by decide) ?_
    refine j_icmp_le 25 C dX7_open_7 rfl h (fun h => ?_) (fun h => ?_)
    · refine j_aload_n C dX7_open_25 0 rfl ?_
      refine j_iload_n C dX7_open_26 1 rfl ?_
      refine pf_X7_94 C dX7_open_27 ?_
      refine j_iconst (v := 0) C dX7_open_30 (by decide) ?_
      refine j_istore_n (lv' := [(2, .int 0), (0, .ref (ad 0)), (1, .int x1)]) C dX7_open_31 (by decide) rfl ?_
      refine j_sub (lv' := [(0, .ref (ad 0)), (1, .int x1), (2, .int 0)]) [1, 2, 0] rfl ?_
      exact k32 _ _ _ h
    · refine j_sub (lv' := [(0, .ref (ad 0)), (1, .int x1)]) [0, 1] rfl ?_
      exact k10 _ _ h
def wX7_page_b70 (x1 : Int32) (x3 : Int32) (t0 : Int32) (σ : SS) (Q : Int32 → SS → Prop) : Prop := vp_in x1 40 ∧ (Q t0 (sA σ 0 x1.toNatClampNeg x3))
def wX7_page_b54 (x1 : Int32) (t0 : Int32) (σ : SS) (Q : Int32 → SS → Prop) : Prop := vp_in x1 40 ∧ ((¬ (gA σ 0 x1.toNatClampNeg) = t0 → wX7_page_b70 x1 t0 1 σ Q) ∧ ((gA σ 0 x1.toNatClampNeg) = t0 → wX7_page_b70 x1 t0 0 σ Q))
def wX7_page_b40 (t0 : Int32) (σ : SS) (Q : Int32 → SS → Prop) : Prop := wX7_answer t0 σ (fun r40 σ40 => Q r40 σ40)
def wX7_page_b34 (σ : SS) (Q : Int32 → SS → Prop) : Prop := wX7_page_b40 ((-1)) σ Q
def wX7_page_b21 (x1 : Int32) (σ : SS) (Q : Int32 → SS → Prop) : Prop := (x1 < 0 → wX7_page_b34 σ Q) ∧ (¬ x1 < 0 → (x1 < (gI σ 0) → wX7_page_b40 ((-7)) σ Q) ∧ (¬ x1 < (gI σ 0) → wX7_page_b34 σ Q))
def wX7_page (x1 : Int32) (x2 : Int32) (σ : SS) (Q : Int32 → SS → Prop) : Prop := (x1 < 0 → wX7_page_b21 x1 σ Q) ∧ (¬ x1 < 0 → ((gI σ 0) ≤ x1 → wX7_page_b21 x1 σ Q) ∧ (¬ (gI σ 0) ≤ x1 → vp_in x1 40 ∧ (((gA σ 0 x1.toNatClampNeg) < 0 → (x2 = 0 → wX7_page_b54 x1 ((-2)) σ Q) ∧ (¬ x2 = 0 → wX7_page_b54 x1 ((-1)) σ Q)) ∧ (¬ (gA σ 0 x1.toNatClampNeg) < 0 → wX7_page_b21 x1 σ Q))))
set_option maxRecDepth 100000 in
set_option maxHeartbeats 4000000 in
theorem kX7_page_ok {l : Launch} {D : va_G} {cI cJ cZ : ClassId} {ad : Nat → Nat} (x1 : Int32) (x2 : Int32) (σ0 : SS) {Q : Int32 → SS → Prop} (h : wX7_page x1 x2 σ0 Q) : Ci l yX7_page (.code yX7_page cX7_page 5 (some .int) :: TT) { frames := 1, cells := 0, slots := 0, locals := 21 } D (tys cI cJ cZ) (wM cI cJ cZ ad) [.ref (ad 0), .int x1, .int x2] σ0 Q := by
  refine Ci.of (lv := [(0, .ref (ad 0)), (1, .int x1), (2, .int x2)]) (by decide) adM (Nat.le_of_ble_eq_true rfl) rfl ?_
  intro p e s m args below meth c A C
  have k70 : ∀ (x1 : Int32), ∀ (x3 : Int32), ∀ (t0 : Int32), ∀ (σ : SS), wX7_page_b70 x1 x3 t0 σ Q → J p l e { frames := 1, cells := 0, slots := 0, locals := 21 } s m args below meth c D (wM cI cJ cZ ad) A 5 (MQ below (va_Qi Q (WW D (tys cI cJ cZ) (wM cI cJ cZ ad)) A) args s 0 0 A) σ 70 [(0, .ref (ad 0)), (1, .int x1), (3, .int x3)] [.int t0] := by
    intro x1 x3 t0 σ h
    refine j_istore (lv' := [(4, .int t0), (0, .ref (ad 0)), (1, .int x1), (3, .int x3)]) C dX7_page_70 (by decide) rfl ?_
    refine j_aload_n C dX7_page_72 1 rfl ?_
    refine gf_X7_9 C dX7_page_73 ?_
    refine j_iload_n C dX7_page_76 2 rfl ?_
    refine j_iload_n C dX7_page_77 3 rfl ?_
    refine as_wM_1 C h.1 dX7_page_78 ?_
    replace h := h.2
    refine j_iload C dX7_page_79 0 rfl ?_
    exact j_iret C dX7_page_81 h
  have k54 : ∀ (x1 : Int32), ∀ (t0 : Int32), ∀ (σ : SS), wX7_page_b54 x1 t0 σ Q → J p l e { frames := 1, cells := 0, slots := 0, locals := 21 } s m args below meth c D (wM cI cJ cZ ad) A 5 (MQ below (va_Qi Q (WW D (tys cI cJ cZ) (wM cI cJ cZ ad)) A) args s 0 0 A) σ 54 [(0, .ref (ad 0)), (1, .int x1)] [.int t0] := by
    intro x1 t0 σ h
    refine j_istore_n (lv' := [(3, .int t0), (0, .ref (ad 0)), (1, .int x1)]) C dX7_page_54 (by decide) rfl ?_
    refine j_aload_n C dX7_page_55 1 rfl ?_
    refine gf_X7_9 C dX7_page_56 ?_
    refine j_iload_n C dX7_page_59 2 rfl ?_
    refine al_wM_1 C h.1 dX7_page_60 ?_
    replace h := h.2
    refine j_iload_n C dX7_page_61 0 rfl ?_
    refine j_icmp_ne 69 C dX7_page_62 rfl h (fun h => ?_) (fun h => ?_)
    · refine j_iconst (v := 1) C dX7_page_69 (by decide) ?_
      refine j_sub (lv' := [(0, .ref (ad 0)), (1, .int x1), (3, .int t0)]) [1, 2, 0] rfl ?_
      exact k70 _ _ _ _ h
    · refine j_iconst (v := 0) C dX7_page_65 (by decide) ?_
      refine j_goto 70 C dX7_page_66 rfl ?_
      refine j_sub (lv' := [(0, .ref (ad 0)), (1, .int x1), (3, .int t0)]) [1, 2, 0] rfl ?_
      exact k70 _ _ _ _ h
  have k40 : ∀ (t0 : Int32), ∀ (σ : SS), wX7_page_b40 t0 σ Q → J p l e { frames := 1, cells := 0, slots := 0, locals := 21 } s m args below meth c D (wM cI cJ cZ ad) A 5 (MQ below (va_Qi Q (WW D (tys cI cJ cZ) (wM cI cJ cZ ad)) A) args s 0 0 A) σ 40 [] [.int t0, .ref (ad 0)] := by
    intro t0 σ h
    refine j_calli 0 [.int t0] [] C (kX7_answer_ok t0 σ h) (tt_V ml_X7_90 mV_X7_answer) ok_X7_answer ⟨by decide, by decide⟩ rfl (r_wM_0 (σ := σ)) (Nat.le_of_ble_eq_true rfl) rfl dX7_page_40 (fun r40 σ40 h => ?_)
    exact j_iret C dX7_page_43 h
  have k34 : ∀ (σ : SS), wX7_page_b34 σ Q → J p l e { frames := 1, cells := 0, slots := 0, locals := 21 } s m args below meth c D (wM cI cJ cZ ad) A 5 (MQ below (va_Qi Q (WW D (tys cI cJ cZ) (wM cI cJ cZ ad)) A) args s 0 0 A) σ 34 [] [.ref (ad 0)] := by
    intro σ h
    refine j_iconst (v := (-1)) C dX7_page_34 (by decide) ?_
    refine j_goto 40 C dX7_page_35 rfl ?_
    refine j_sub (lv' := []) [] rfl ?_
    exact k40 _ _ h
  have k21 : ∀ (x1 : Int32), ∀ (σ : SS), wX7_page_b21 x1 σ Q → J p l e { frames := 1, cells := 0, slots := 0, locals := 21 } s m args below meth c D (wM cI cJ cZ ad) A 5 (MQ below (va_Qi Q (WW D (tys cI cJ cZ) (wM cI cJ cZ ad)) A) args s 0 0 A) σ 21 [(0, .ref (ad 0)), (1, .int x1)] [] := by
    intro x1 σ h
    refine j_aload_n C dX7_page_21 0 rfl ?_
    refine j_iload_n C dX7_page_22 1 rfl ?_
    refine j_if_lt 34 C dX7_page_23 rfl h (fun h => ?_) (fun h => ?_)
    · refine j_sub (lv' := []) [] rfl ?_
      exact k34 _ h
    · refine j_iload_n C dX7_page_26 1 rfl ?_
      refine j_aload_n C dX7_page_27 0 rfl ?_
      refine gf_X7_94 C dX7_page_28 ?_
      refine j_icmp_lt 38 C dX7_page_31 rfl h (fun h => ?_) (fun h => ?_)
      · refine j_bipush (v := (-7)) C dX7_page_38 (by decide) ?_
        refine j_sub (lv' := []) [] rfl ?_
        exact k40 _ _ h
      · refine j_sub (lv' := []) [] rfl ?_
        exact k34 _ h
  refine j_iload_n C dX7_page_0 1 rfl ?_
  refine j_if_lt 21 C dX7_page_1 rfl h (fun h => ?_) (fun h => ?_)
  · refine j_sub (lv' := [(0, .ref (ad 0)), (1, .int x1)]) [0, 1] rfl ?_
    exact k21 _ _ h
  · refine j_iload_n C dX7_page_4 1 rfl ?_
    refine j_aload_n C dX7_page_5 0 rfl ?_
    refine gf_X7_94 C dX7_page_6 ?_
    refine j_icmp_ge 21 C dX7_page_9 rfl h (fun h => ?_) (fun h => ?_)
    · refine j_sub (lv' := [(0, .ref (ad 0)), (1, .int x1)]) [0, 1] rfl ?_
      exact k21 _ _ h
    · refine j_aload_n C dX7_page_12 0 rfl ?_
      refine gf_X7_9 C dX7_page_13 ?_
      refine j_iload_n C dX7_page_16 1 rfl ?_
      refine al_wM_1 C h.1 dX7_page_17 ?_
      replace h := h.2
      refine j_if_lt 44 C dX7_page_18 rfl h (fun h => ?_) (fun h => ?_)
      · refine j_iload_n C dX7_page_44 2 rfl ?_
        refine j_if_eq 52 C dX7_page_45 rfl h (fun h => ?_) (fun h => ?_)
        · refine j_bipush (v := (-2)) C dX7_page_52 (by decide) ?_
          refine j_sub (lv' := [(0, .ref (ad 0)), (1, .int x1)]) [0, 1] rfl ?_
          exact k54 _ _ _ h
        · refine j_iconst (v := (-1)) C dX7_page_48 (by decide) ?_
          refine j_goto 54 C dX7_page_49 rfl ?_
          refine j_sub (lv' := [(0, .ref (ad 0)), (1, .int x1)]) [0, 1] rfl ?_
          exact k54 _ _ _ h
      · refine j_sub (lv' := [(0, .ref (ad 0)), (1, .int x1)]) [0, 1] rfl ?_
        exact k21 _ _ h
def wX7_zone_b40 (x1 : Int32) (x2 : Int64) (σ : SS) (Q : Int32 → SS → Prop) : Prop := (¬ (gI σ 1) = 8 → vp_in (gI σ 1) 8 ∧ (vp_in (gI (sA σ 3 (gI σ 1).toNatClampNeg x1) 1) 8 ∧ (∀ σ83 : SS, σ83 = sI (sB (sA σ 3 (gI σ 1).toNatClampNeg x1) 1 (gI (sA σ 3 (gI σ 1).toNatClampNeg x1) 1).toNatClampNeg x2) 1 ((gI (sB (sA σ 3 (gI σ 1).toNatClampNeg x1) 1 (gI (sA σ 3 (gI σ 1).toNatClampNeg x1) 1).toNatClampNeg x2) 1) + 1) → (Q ((gI σ83 1) - 1) σ83)))) ∧ ((gI σ 1) = 8 → wX7_answer ((-6)) σ (fun r52 σ52 => Q r52 σ52))
def wX7_zone_b34 (σ : SS) (Q : Int32 → SS → Prop) : Prop := wX7_answer ((-1)) σ (fun r36 σ36 => Q r36 σ36)
def wX7_zone_b9 (σ : SS) (Q : Int32 → SS → Prop) : Prop := wX7_answer ((-9)) σ (fun r12 σ12 => Q r12 σ12)
def wX7_zone (x1 : Int32) (x2 : Int64) (σ : SS) (Q : Int32 → SS → Prop) : Prop := (x1 < 0 → wX7_zone_b9 σ Q) ∧ (¬ x1 < 0 → (x1 ≤ 5 → (¬ x1 = 0 → wX7_zone_b40 x1 x2 σ Q) ∧ (x1 = 0 → ((lg_cmp x2 1) < 0 → wX7_zone_b34 σ Q) ∧ (¬ (lg_cmp x2 1) < 0 → ((lg_cmp x2 32) ≤ 0 → wX7_zone_b40 x1 x2 σ Q) ∧ (¬ (lg_cmp x2 32) ≤ 0 → wX7_zone_b34 σ Q)))) ∧ (¬ x1 ≤ 5 → wX7_zone_b9 σ Q))
set_option maxRecDepth 100000 in
set_option maxHeartbeats 4000000 in
theorem kX7_zone_ok {l : Launch} {D : va_G} {cI cJ cZ : ClassId} {ad : Nat → Nat} (x1 : Int32) (x2 : Int64) (σ0 : SS) {Q : Int32 → SS → Prop} (h : wX7_zone x1 x2 σ0 Q) : Ci l yX7_zone (.code yX7_zone cX7_zone 4 (some .int) :: TT) { frames := 1, cells := 0, slots := 0, locals := 21 } D (tys cI cJ cZ) (wM cI cJ cZ ad) [.ref (ad 0), .int x1, .long x2] σ0 Q := by
  refine Ci.of (lv := [(0, .ref (ad 0)), (1, .int x1), (2, .long x2)]) (by decide) adM (Nat.le_of_ble_eq_true rfl) rfl ?_
  intro p e s m args below meth c A C
  have k40 : ∀ (x1 : Int32), ∀ (x2 : Int64), ∀ (σ : SS), wX7_zone_b40 x1 x2 σ Q → J p l e { frames := 1, cells := 0, slots := 0, locals := 21 } s m args below meth c D (wM cI cJ cZ ad) A 4 (MQ below (va_Qi Q (WW D (tys cI cJ cZ) (wM cI cJ cZ ad)) A) args s 0 0 A) σ 40 [(0, .ref (ad 0)), (1, .int x1), (2, .long x2)] [] := by
    intro x1 x2 σ h
    refine j_aload_n C dX7_zone_40 0 rfl ?_
    refine gf_X7_98 C dX7_zone_41 ?_
    refine j_bipush (v := 8) C dX7_zone_44 (by decide) ?_
    refine j_icmp_ne 56 C dX7_zone_46 rfl h (fun h => ?_) (fun h => ?_)
    · refine j_aload_n C dX7_zone_56 0 rfl ?_
      refine gf_X7_23 C dX7_zone_57 ?_
      refine j_aload_n C dX7_zone_60 0 rfl ?_
      refine gf_X7_98 C dX7_zone_61 ?_
      refine j_iload_n C dX7_zone_64 1 rfl ?_
      refine as_wM_5 C h.1 dX7_zone_65 ?_
      replace h := h.2
      refine j_aload_n C dX7_zone_66 0 rfl ?_
      refine gf_X7_26 C dX7_zone_67 ?_
      refine j_aload_n C dX7_zone_70 0 rfl ?_
      refine gf_X7_98 C dX7_zone_71 ?_
      refine j_lload_n C dX7_zone_74 2 rfl ?_
      refine as_wM_6 C h.1 dX7_zone_75 ?_
      replace h := h.2
      refine j_aload_n C dX7_zone_76 0 rfl ?_
      refine j_dup C dX7_zone_77 rfl ?_
      refine gf_X7_98 C dX7_zone_78 ?_
      refine j_iconst (v := 1) C dX7_zone_81 (by decide) ?_
      refine j_iadd C dX7_zone_82 ?_
      refine pf_X7_98 C dX7_zone_83 ?_
      obtain ⟨σ83, hs83⟩ : ∃ z, z = sI (sB (sA σ 3 (gI σ 1).toNatClampNeg x1) 1 (gI (sA σ 3 (gI σ 1).toNatClampNeg x1) 1).toNatClampNeg x2) 1 ((gI (sB (sA σ 3 (gI σ 1).toNatClampNeg x1) 1 (gI (sA σ 3 (gI σ 1).toNatClampNeg x1) 1).toNatClampNeg x2) 1) + 1) := ⟨_, rfl⟩
      rw [← hs83]
      replace h := h σ83 hs83
      refine j_aload_n C dX7_zone_86 0 rfl ?_
      refine gf_X7_98 C dX7_zone_87 ?_
      refine j_iconst (v := 1) C dX7_zone_90 (by decide) ?_
      refine j_isub C dX7_zone_91 ?_
      exact j_iret C dX7_zone_92 h
    · refine j_aload_n C dX7_zone_49 0 rfl ?_
      refine j_bipush (v := (-6)) C dX7_zone_50 (by decide) ?_
      refine j_calli 0 [.int ((-6))] [] C (kX7_answer_ok ((-6)) σ h) (tt_V ml_X7_90 mV_X7_answer) ok_X7_answer ⟨by decide, by decide⟩ rfl (r_wM_0 (σ := σ)) (Nat.le_of_ble_eq_true rfl) rfl dX7_zone_52 (fun r52 σ52 h => ?_)
      exact j_iret C dX7_zone_55 h
  have k34 : ∀ (σ : SS), wX7_zone_b34 σ Q → J p l e { frames := 1, cells := 0, slots := 0, locals := 21 } s m args below meth c D (wM cI cJ cZ ad) A 4 (MQ below (va_Qi Q (WW D (tys cI cJ cZ) (wM cI cJ cZ ad)) A) args s 0 0 A) σ 34 [(0, .ref (ad 0))] [] := by
    intro σ h
    refine j_aload_n C dX7_zone_34 0 rfl ?_
    refine j_iconst (v := (-1)) C dX7_zone_35 (by decide) ?_
    refine j_calli 0 [.int ((-1))] [] C (kX7_answer_ok ((-1)) σ h) (tt_V ml_X7_90 mV_X7_answer) ok_X7_answer ⟨by decide, by decide⟩ rfl (r_wM_0 (σ := σ)) (Nat.le_of_ble_eq_true rfl) rfl dX7_zone_36 (fun r36 σ36 h => ?_)
    exact j_iret C dX7_zone_39 h
  have k9 : ∀ (σ : SS), wX7_zone_b9 σ Q → J p l e { frames := 1, cells := 0, slots := 0, locals := 21 } s m args below meth c D (wM cI cJ cZ ad) A 4 (MQ below (va_Qi Q (WW D (tys cI cJ cZ) (wM cI cJ cZ ad)) A) args s 0 0 A) σ 9 [(0, .ref (ad 0))] [] := by
    intro σ h
    refine j_aload_n C dX7_zone_9 0 rfl ?_
    refine j_bipush (v := (-9)) C dX7_zone_10 (by decide) ?_
    refine j_calli 0 [.int ((-9))] [] C (kX7_answer_ok ((-9)) σ h) (tt_V ml_X7_90 mV_X7_answer) ok_X7_answer ⟨by decide, by decide⟩ rfl (r_wM_0 (σ := σ)) (Nat.le_of_ble_eq_true rfl) rfl dX7_zone_12 (fun r12 σ12 h => ?_)
    exact j_iret C dX7_zone_15 h
  refine j_iload_n C dX7_zone_0 1 rfl ?_
  refine j_if_lt 9 C dX7_zone_1 rfl h (fun h => ?_) (fun h => ?_)
  · refine j_sub (lv' := [(0, .ref (ad 0))]) [0] rfl ?_
    exact k9 _ h
  · refine j_iload_n C dX7_zone_4 1 rfl ?_
    refine j_iconst (v := 5) C dX7_zone_5 (by decide) ?_
    refine j_icmp_le 16 C dX7_zone_6 rfl h (fun h => ?_) (fun h => ?_)
    · refine j_iload_n C dX7_zone_16 1 rfl ?_
      refine j_if_ne 40 C dX7_zone_17 rfl h (fun h => ?_) (fun h => ?_)
      · refine j_sub (lv' := [(0, .ref (ad 0)), (1, .int x1), (2, .long x2)]) [0, 1, 2] rfl ?_
        exact k40 _ _ _ h
      · refine j_lload_n C dX7_zone_20 2 rfl ?_
        refine j_lconst (v := 1) C dX7_zone_21 (by decide) ?_
        refine j_lcmp C dX7_zone_22 ?_
        refine j_if_lt 34 C dX7_zone_23 rfl h (fun h => ?_) (fun h => ?_)
        · refine j_sub (lv' := [(0, .ref (ad 0))]) [0] rfl ?_
          exact k34 _ h
        · refine j_lload_n C dX7_zone_26 2 rfl ?_
          refine j_ldc2 C dX7_zone_27 mk_X7_108 ?_
          refine j_lcmp C dX7_zone_30 ?_
          refine j_if_le 40 C dX7_zone_31 rfl h (fun h => ?_) (fun h => ?_)
          · refine j_sub (lv' := [(0, .ref (ad 0)), (1, .int x1), (2, .long x2)]) [0, 1, 2] rfl ?_
            exact k40 _ _ _ h
          · refine j_sub (lv' := [(0, .ref (ad 0))]) [0] rfl ?_
            exact k34 _ h
    · refine j_sub (lv' := [(0, .ref (ad 0))]) [0] rfl ?_
      exact k9 _ h
def wX7_isZone (x1 : Int32) (σ : SS) (Q : Int32 → Prop) : Prop := (x1 < 0 → Q 0) ∧ (¬ x1 < 0 → ((gI σ 1) ≤ x1 → Q 0) ∧ (¬ (gI σ 1) ≤ x1 → Q 1))
set_option maxRecDepth 100000 in
set_option maxHeartbeats 4000000 in
theorem kX7_isZone_ok {l : Launch} {D : va_G} {cI cJ cZ : ClassId} {ad : Nat → Nat} (x1 : Int32) (σ0 : SS) {Q : Int32 → Prop} (h : wX7_isZone x1 σ0 Q) : Ci l yX7_isZone (.code yX7_isZone cX7_isZone 2 (some .boolean) :: TT) { frames := 0, cells := 0, slots := 0, locals := 0 } D (tys cI cJ cZ) (wM cI cJ cZ ad) [.ref (ad 0), .int x1] σ0 (fun r σ' => σ' = σ0 ∧ Q r) := by
  refine Ci.of (lv := [(0, .ref (ad 0)), (1, .int x1)]) (by decide) adM (Nat.le_of_ble_eq_true rfl) rfl ?_
  intro p e s m args below meth c A C
  refine j_iload_n C dX7_isZone_0 1 rfl ?_
  refine j_if_lt 16 C dX7_isZone_1 rfl h (fun h => ?_) (fun h => ?_)
  · refine j_iconst (v := 0) C dX7_isZone_16 (by decide) ?_
    exact j_zret C dX7_isZone_17 rfl ⟨rfl, h⟩
  · refine j_iload_n C dX7_isZone_4 1 rfl ?_
    refine j_aload_n C dX7_isZone_5 0 rfl ?_
    refine gf_X7_98 C dX7_isZone_6 ?_
    refine j_icmp_ge 16 C dX7_isZone_9 rfl h (fun h => ?_) (fun h => ?_)
    · refine j_iconst (v := 0) C dX7_isZone_16 (by decide) ?_
      exact j_zret C dX7_isZone_17 rfl ⟨rfl, h⟩
    · refine j_iconst (v := 1) C dX7_isZone_12 (by decide) ?_
      refine j_goto 17 C dX7_isZone_13 rfl ?_
      exact j_zret C dX7_isZone_17 rfl ⟨rfl, h⟩
def wX7_isOf (x1 : Int32) (x2 : Int32) (σ : SS) (Q : Int32 → Prop) : Prop := (x1 < 0 → Q 0) ∧ (¬ x1 < 0 → ((64 * (gI σ 0)) ≤ x1 → Q 0) ∧ (¬ (64 * (gI σ 0)) ≤ x1 → vp_in (x1 / 64) 40 ∧ ((¬ (gA σ 0 (x1 / 64).toNatClampNeg) = x2 → Q 0) ∧ ((gA σ 0 (x1 / 64).toNatClampNeg) = x2 → Q 1))))
set_option maxRecDepth 100000 in
set_option maxHeartbeats 4000000 in
theorem kX7_isOf_ok {l : Launch} {D : va_G} {cI cJ cZ : ClassId} {ad : Nat → Nat} (x1 : Int32) (x2 : Int32) (σ0 : SS) {Q : Int32 → Prop} (h : wX7_isOf x1 x2 σ0 Q) : Ci l yX7_isOf (.code yX7_isOf cX7_isOf 3 (some .boolean) :: TT) { frames := 0, cells := 0, slots := 0, locals := 0 } D (tys cI cJ cZ) (wM cI cJ cZ ad) [.ref (ad 0), .int x1, .int x2] σ0 (fun r σ' => σ' = σ0 ∧ Q r) := by
  refine Ci.of (lv := [(0, .ref (ad 0)), (1, .int x1), (2, .int x2)]) (by decide) adM (Nat.le_of_ble_eq_true rfl) rfl ?_
  intro p e s m args below meth c A C
  refine j_iload_n C dX7_isOf_0 1 rfl ?_
  refine j_if_lt 32 C dX7_isOf_1 rfl h (fun h => ?_) (fun h => ?_)
  · refine j_iconst (v := 0) C dX7_isOf_32 (by decide) ?_
    exact j_zret C dX7_isOf_33 rfl ⟨rfl, h⟩
  · refine j_iload_n C dX7_isOf_4 1 rfl ?_
    refine j_bipush (v := 64) C dX7_isOf_5 (by decide) ?_
    refine j_aload_n C dX7_isOf_7 0 rfl ?_
    refine gf_X7_94 C dX7_isOf_8 ?_
    refine j_imul C dX7_isOf_11 ?_
    refine j_icmp_ge 32 C dX7_isOf_12 rfl h (fun h => ?_) (fun h => ?_)
    · refine j_iconst (v := 0) C dX7_isOf_32 (by decide) ?_
      exact j_zret C dX7_isOf_33 rfl ⟨rfl, h⟩
    · refine j_aload_n C dX7_isOf_15 0 rfl ?_
      refine gf_X7_9 C dX7_isOf_16 ?_
      refine j_iload_n C dX7_isOf_19 1 rfl ?_
      refine j_bipush (v := 64) C dX7_isOf_20 (by decide) ?_
      refine j_idiv C dX7_isOf_22 (by decide) ?_
      refine al_wM_1 C h.1 dX7_isOf_23 ?_
      replace h := h.2
      refine j_iload_n C dX7_isOf_24 2 rfl ?_
      refine j_icmp_ne 32 C dX7_isOf_25 rfl h (fun h => ?_) (fun h => ?_)
      · refine j_iconst (v := 0) C dX7_isOf_32 (by decide) ?_
        exact j_zret C dX7_isOf_33 rfl ⟨rfl, h⟩
      · refine j_iconst (v := 1) C dX7_isOf_28 (by decide) ?_
        refine j_goto 33 C dX7_isOf_29 rfl ?_
        exact j_zret C dX7_isOf_33 rfl ⟨rfl, h⟩
def wX7_most (x1 : Int32) (σ : SS) (Q : Int32 → Prop) : Prop := vp_in x1 8 ∧ ((¬ (gA σ 3 x1.toNatClampNeg) = 0 → vp_in x1 8 ∧ ((¬ (gA σ 3 x1.toNatClampNeg) = 1 → Q 2000) ∧ ((gA σ 3 x1.toNatClampNeg) = 1 → Q 64))) ∧ ((gA σ 3 x1.toNatClampNeg) = 0 → vp_in x1 8 ∧ (Q ((gB σ 1 x1.toNatClampNeg).toInt32))))
set_option maxRecDepth 100000 in
set_option maxHeartbeats 4000000 in
theorem kX7_most_ok {l : Launch} {D : va_G} {cI cJ cZ : ClassId} {ad : Nat → Nat} (x1 : Int32) (σ0 : SS) {Q : Int32 → Prop} (h : wX7_most x1 σ0 Q) : Ci l yX7_most (.code yX7_most cX7_most 2 (some .int) :: TT) { frames := 0, cells := 0, slots := 0, locals := 0 } D (tys cI cJ cZ) (wM cI cJ cZ ad) [.ref (ad 0), .int x1] σ0 (fun r σ' => σ' = σ0 ∧ Q r) := by
  refine Ci.of (lv := [(0, .ref (ad 0)), (1, .int x1)]) (by decide) adM (Nat.le_of_ble_eq_true rfl) rfl ?_
  intro p e s m args below meth c A C
  refine j_aload_n C dX7_most_0 0 rfl ?_
  refine gf_X7_23 C dX7_most_1 ?_
  refine j_iload_n C dX7_most_4 1 rfl ?_
  refine al_wM_5 C h.1 dX7_most_5 ?_
  replace h := h.2
  refine j_if_ne 19 C dX7_most_6 rfl h (fun h => ?_) (fun h => ?_)
  · refine j_aload_n C dX7_most_19 0 rfl ?_
    refine gf_X7_23 C dX7_most_20 ?_
    refine j_iload_n C dX7_most_23 1 rfl ?_
    refine al_wM_5 C h.1 dX7_most_24 ?_
    replace h := h.2
    refine j_iconst (v := 1) C dX7_most_25 (by decide) ?_
    refine j_icmp_ne 34 C dX7_most_26 rfl h (fun h => ?_) (fun h => ?_)
    · refine j_sipush (v := 2000) C dX7_most_34 (by decide) ?_
      exact j_iret C dX7_most_37 ⟨rfl, h⟩
    · refine j_bipush (v := 64) C dX7_most_29 (by decide) ?_
      refine j_goto 37 C dX7_most_31 rfl ?_
      exact j_iret C dX7_most_37 ⟨rfl, h⟩
  · refine j_aload_n C dX7_most_9 0 rfl ?_
    refine gf_X7_26 C dX7_most_10 ?_
    refine j_iload_n C dX7_most_13 1 rfl ?_
    refine al_wM_6 C h.1 dX7_most_14 ?_
    replace h := h.2
    refine j_l2i C dX7_most_15 ?_
    refine j_goto 37 C dX7_most_16 rfl ?_
    exact j_iret C dX7_most_37 ⟨rfl, h⟩
def wX7_need (x1 : Int32) (x2 : Int32) (σ : SS) (Q : Int32 → Prop) : Prop := vp_in x1 8 ∧ ((¬ (gA σ 3 x1.toNatClampNeg) = 5 → Q x2) ∧ ((gA σ 3 x1.toNatClampNeg) = 5 → Q (x2 + 2)))
set_option maxRecDepth 100000 in
set_option maxHeartbeats 4000000 in
theorem kX7_need_ok {l : Launch} {D : va_G} {cI cJ cZ : ClassId} {ad : Nat → Nat} (x1 : Int32) (x2 : Int32) (σ0 : SS) {Q : Int32 → Prop} (h : wX7_need x1 x2 σ0 Q) : Ci l yX7_need (.code yX7_need cX7_need 3 (some .int) :: TT) { frames := 0, cells := 0, slots := 0, locals := 0 } D (tys cI cJ cZ) (wM cI cJ cZ ad) [.ref (ad 0), .int x1, .int x2] σ0 (fun r σ' => σ' = σ0 ∧ Q r) := by
  refine Ci.of (lv := [(0, .ref (ad 0)), (1, .int x1), (2, .int x2)]) (by decide) adM (Nat.le_of_ble_eq_true rfl) rfl ?_
  intro p e s m args below meth c A C
  refine j_aload_n C dX7_need_0 0 rfl ?_
  refine gf_X7_23 C dX7_need_1 ?_
  refine j_iload_n C dX7_need_4 1 rfl ?_
  refine al_wM_5 C h.1 dX7_need_5 ?_
  replace h := h.2
  refine j_iconst (v := 5) C dX7_need_6 (by decide) ?_
  refine j_icmp_ne 16 C dX7_need_7 rfl h (fun h => ?_) (fun h => ?_)
  · refine j_iload_n C dX7_need_16 2 rfl ?_
    exact j_iret C dX7_need_17 ⟨rfl, h⟩
  · refine j_iload_n C dX7_need_10 2 rfl ?_
    refine j_iconst (v := 2) C dX7_need_11 (by decide) ?_
    refine j_iadd C dX7_need_12 ?_
    refine j_goto 17 C dX7_need_13 rfl ?_
    exact j_iret C dX7_need_17 ⟨rfl, h⟩
def wX7_power_b2 (x0 : Int32) (x1 : Int32) (σ : SS) (Q : Int32 → Prop) : Prop := lfp (fun (X2 : Int32 → Prop) (t : Int32) => (x0 ≤ t → Q t) ∧ (¬ x0 ≤ t → X2 ((t * 2)))) x1
def wX7_power (x0 : Int32) (σ : SS) (Q : Int32 → Prop) : Prop := wX7_power_b2 x0 1 σ Q
set_option maxRecDepth 100000 in
set_option maxHeartbeats 4000000 in
theorem kX7_power_ok {l : Launch} {D : va_G} {cI cJ cZ : ClassId} {ad : Nat → Nat} (x0 : Int32) (σ0 : SS) {Q : Int32 → Prop} (h : wX7_power x0 σ0 Q) : Ci l yX7_power (.code yX7_power cX7_power 2 (some .int) :: TT) { frames := 0, cells := 0, slots := 0, locals := 0 } D (tys cI cJ cZ) (wM cI cJ cZ ad) [.int x0] σ0 (fun r σ' => σ' = σ0 ∧ Q r) := by
  refine Ci.of (lv := [(0, .int x0)]) (by decide) adM (Nat.le_of_ble_eq_true rfl) rfl ?_
  intro p e s m args below meth c A C
  have k2 : ∀ (x0 : Int32), ∀ (x1 : Int32), wX7_power_b2 x0 x1 σ0 Q → J p l e { frames := 0, cells := 0, slots := 0, locals := 0 } s m args below meth c D (wM cI cJ cZ ad) A 2 (MQ below (va_Qi (fun r σ' => σ' = σ0 ∧ Q r) (WW D (tys cI cJ cZ) (wM cI cJ cZ ad)) A) args s 0 0 A) σ0 2 [(0, .int x0), (1, .int x1)] [] := by
    intro x0 x1 h
    refine h (fun t => J p l e { frames := 0, cells := 0, slots := 0, locals := 0 } s m args below meth c D (wM cI cJ cZ ad) A 2 (MQ below (va_Qi (fun r σ' => σ' = σ0 ∧ Q r) (WW D (tys cI cJ cZ) (wM cI cJ cZ ad)) A) args s 0 0 A) σ0 2 [(0, .int x0), (1, .int t)] []) (fun t h => ?_)
    obtain ⟨x1, rfl⟩ : ∃ z, z = t := ⟨_, rfl⟩
    try dsimp only at h
    refine j_iload_n C dX7_power_2 1 rfl ?_
    refine j_iload_n C dX7_power_3 0 rfl ?_
    refine j_icmp_ge 14 C dX7_power_4 rfl h (fun h => ?_) (fun h => ?_)
    · refine j_iload_n C dX7_power_14 1 rfl ?_
      exact j_iret C dX7_power_15 ⟨rfl, h⟩
    · refine j_iload_n C dX7_power_7 1 rfl ?_
      refine j_iconst (v := 2) C dX7_power_8 (by decide) ?_
      refine j_imul C dX7_power_9 ?_
      refine j_istore_n (lv' := [(1, .int (x1 * 2)), (0, .int x0)]) C dX7_power_10 (by decide) rfl ?_
      refine j_goto 2 C dX7_power_11 rfl ?_
      refine j_sub (lv' := [(0, .int x0), (1, .int (x1 * 2))]) [1, 0] rfl ?_
      exact h
  refine j_iconst (v := 1) C dX7_power_0 (by decide) ?_
  refine j_istore_n (lv' := [(1, .int 1), (0, .int x0)]) C dX7_power_1 (by decide) rfl ?_
  refine j_sub (lv' := [(0, .int x0), (1, .int 1)]) [1, 0] rfl ?_
  exact k2 _ _ h
def wX7_isFreeAt (x1 : Int32) (x2 : Int32) (σ : SS) (Q : Int32 → Prop) : Prop := wX7_isOf x1 x2 σ (fun r3 => (r3 = 0 → Q 0) ∧ (¬ r3 = 0 → vp_in x1 2560 ∧ (((gA σ 1 x1.toNatClampNeg) ≤ 0 → Q 0) ∧ (¬ (gA σ 1 x1.toNatClampNeg) ≤ 0 → vp_in x1 2560 ∧ ((¬ (gA σ 2 x1.toNatClampNeg) = ((-1)) → Q 0) ∧ ((gA σ 2 x1.toNatClampNeg) = ((-1)) → Q 1))))))
set_option maxRecDepth 100000 in
set_option maxHeartbeats 4000000 in
theorem kX7_isFreeAt_ok {l : Launch} {D : va_G} {cI cJ cZ : ClassId} {ad : Nat → Nat} (x1 : Int32) (x2 : Int32) (σ0 : SS) {Q : Int32 → Prop} (h : wX7_isFreeAt x1 x2 σ0 Q) : Ci l yX7_isFreeAt (.code yX7_isFreeAt cX7_isFreeAt 3 (some .boolean) :: TT) { frames := 1, cells := 0, slots := 0, locals := 22 } D (tys cI cJ cZ) (wM cI cJ cZ ad) [.ref (ad 0), .int x1, .int x2] σ0 (fun r σ' => σ' = σ0 ∧ Q r) := by
  refine Ci.of (lv := [(0, .ref (ad 0)), (1, .int x1), (2, .int x2)]) (by decide) adM (Nat.le_of_ble_eq_true rfl) rfl ?_
  intro p e s m args below meth c A C
  refine j_aload_n C dX7_isFreeAt_0 0 rfl ?_
  refine j_iload_n C dX7_isFreeAt_1 1 rfl ?_
  refine j_iload_n C dX7_isFreeAt_2 2 rfl ?_
  refine j_callpi 0 [.int x1, .int x2] [] C (kX7_isOf_ok x1 x2 σ0 h) (tt_V ml_X7_110 mV_X7_isOf) ok_X7_isOf ⟨by decide, by decide⟩ rfl (r_wM_0 (σ := σ0)) (Nat.le_of_ble_eq_true rfl) rfl dX7_isFreeAt_3 (fun r3 h => ?_)
  refine j_if_eq 32 C dX7_isFreeAt_6 rfl h (fun h => ?_) (fun h => ?_)
  · refine j_iconst (v := 0) C dX7_isFreeAt_32 (by decide) ?_
    exact j_zret C dX7_isFreeAt_33 rfl ⟨rfl, h⟩
  · refine j_aload_n C dX7_isFreeAt_9 0 rfl ?_
    refine gf_X7_17 C dX7_isFreeAt_10 ?_
    refine j_iload_n C dX7_isFreeAt_13 1 rfl ?_
    refine al_wM_3 C h.1 dX7_isFreeAt_14 ?_
    replace h := h.2
    refine j_if_le 32 C dX7_isFreeAt_15 rfl h (fun h => ?_) (fun h => ?_)
    · refine j_iconst (v := 0) C dX7_isFreeAt_32 (by decide) ?_
      exact j_zret C dX7_isFreeAt_33 rfl ⟨rfl, h⟩
    · refine j_aload_n C dX7_isFreeAt_18 0 rfl ?_
      refine gf_X7_20 C dX7_isFreeAt_19 ?_
      refine j_iload_n C dX7_isFreeAt_22 1 rfl ?_
      refine al_wM_4 C h.1 dX7_isFreeAt_23 ?_
      replace h := h.2
      refine j_iconst (v := (-1)) C dX7_isFreeAt_24 (by decide) ?_
      refine j_icmp_ne 32 C dX7_isFreeAt_25 rfl h (fun h => ?_) (fun h => ?_)
      · refine j_iconst (v := 0) C dX7_isFreeAt_32 (by decide) ?_
        exact j_zret C dX7_isFreeAt_33 rfl ⟨rfl, h⟩
      · refine j_iconst (v := 1) C dX7_isFreeAt_28 (by decide) ?_
        refine j_goto 33 C dX7_isFreeAt_29 rfl ?_
        exact j_zret C dX7_isFreeAt_33 rfl ⟨rfl, h⟩
def wX7_freePages_b45 (X2 : Int32 → Prop) (X17 : Int32 × Int32 → Prop) (x1 : Int32) (x2 : Int32) (x4 : Int32) (t0 : Int32) (σ : SS) (Q : Int32 → Prop) : Prop := X17 (t0, (x4 + 1))
def wX7_freePages_b44 (X2 : Int32 → Prop) (X17 : Int32 × Int32 → Prop) (x1 : Int32) (x2 : Int32) (x4 : Int32) (σ : SS) (Q : Int32 → Prop) : Prop := wX7_freePages_b45 X2 X17 x1 x2 x4 0 σ Q
def wX7_freePages_b17 (X2 : Int32 → Prop) (x1 : Int32) (x2 : Int32) (x3 : Int32) (x4 : Int32) (σ : SS) (Q : Int32 → Prop) : Prop := lfp (fun (X17 : Int32 × Int32 → Prop) (t : Int32 × Int32) => ((x2 + x1) ≤ t.2 → (t.1 = 0 → X2 ((x2 + 1))) ∧ (¬ t.1 = 0 → Q x2)) ∧ (¬ (x2 + x1) ≤ t.2 → (t.1 = 0 → wX7_freePages_b44 X2 X17 x1 x2 t.2 σ Q) ∧ (¬ t.1 = 0 → vp_in t.2 40 ∧ ((¬ (gA σ 0 t.2.toNatClampNeg) = ((-1)) → wX7_freePages_b44 X2 X17 x1 x2 t.2 σ Q) ∧ ((gA σ 0 t.2.toNatClampNeg) = ((-1)) → wX7_freePages_b45 X2 X17 x1 x2 t.2 1 σ Q))))) (x3, x4)
def wX7_freePages_b2 (x1 : Int32) (x2 : Int32) (σ : SS) (Q : Int32 → Prop) : Prop := lfp (fun (X2 : Int32 → Prop) (t : Int32) => ((gI σ 0) < (t + x1) → Q ((-1))) ∧ (¬ (gI σ 0) < (t + x1) → wX7_freePages_b17 X2 x1 t 1 t σ Q)) x2
def wX7_freePages (x1 : Int32) (σ : SS) (Q : Int32 → Prop) : Prop := wX7_freePages_b2 x1 0 σ Q
set_option maxRecDepth 100000 in
set_option maxHeartbeats 4000000 in
theorem kX7_freePages_ok {l : Launch} {D : va_G} {cI cJ cZ : ClassId} {ad : Nat → Nat} (x1 : Int32) (σ0 : SS) {Q : Int32 → Prop} (h : wX7_freePages x1 σ0 Q) : Ci l yX7_freePages (.code yX7_freePages cX7_freePages 5 (some .int) :: TT) { frames := 0, cells := 0, slots := 0, locals := 0 } D (tys cI cJ cZ) (wM cI cJ cZ ad) [.ref (ad 0), .int x1] σ0 (fun r σ' => σ' = σ0 ∧ Q r) := by
  refine Ci.of (lv := [(0, .ref (ad 0)), (1, .int x1)]) (by decide) adM (Nat.le_of_ble_eq_true rfl) rfl ?_
  intro p e s m args below meth c A C
  have k45 : ∀ (x1 : Int32), ∀ (x2 : Int32), ∀ (x4 : Int32), ∀ (t0 : Int32), ∀ (X2 : Int32 → Prop), (∀ t : Int32, X2 t → J p l e { frames := 0, cells := 0, slots := 0, locals := 0 } s m args below meth c D (wM cI cJ cZ ad) A 5 (MQ below (va_Qi (fun r σ' => σ' = σ0 ∧ Q r) (WW D (tys cI cJ cZ) (wM cI cJ cZ ad)) A) args s 0 0 A) σ0 2 [(0, .ref (ad 0)), (1, .int x1), (2, .int t)] []) → ∀ (X17 : Int32 × Int32 → Prop), (∀ t : Int32 × Int32, X17 t → J p l e { frames := 0, cells := 0, slots := 0, locals := 0 } s m args below meth c D (wM cI cJ cZ ad) A 5 (MQ below (va_Qi (fun r σ' => σ' = σ0 ∧ Q r) (WW D (tys cI cJ cZ) (wM cI cJ cZ ad)) A) args s 0 0 A) σ0 17 [(0, .ref (ad 0)), (1, .int x1), (2, .int x2), (3, .int t.1), (4, .int t.2)] []) → wX7_freePages_b45 X2 X17 x1 x2 x4 t0 σ0 Q → J p l e { frames := 0, cells := 0, slots := 0, locals := 0 } s m args below meth c D (wM cI cJ cZ ad) A 5 (MQ below (va_Qi (fun r σ' => σ' = σ0 ∧ Q r) (WW D (tys cI cJ cZ) (wM cI cJ cZ ad)) A) args s 0 0 A) σ0 45 [(0, .ref (ad 0)), (1, .int x1), (2, .int x2), (4, .int x4)] [.int t0] := by
    intro x1 x2 x4 t0 X2 hX2 X17 hX17 h
    refine j_istore_n (lv' := [(3, .int t0), (0, .ref (ad 0)), (1, .int x1), (2, .int x2), (4, .int x4)]) C dX7_freePages_45 (by decide) rfl ?_
    refine j_iinc (lv' := [(4, .int (x4 + 1)), (3, .int t0), (0, .ref (ad 0)), (1, .int x1), (2, .int x2)]) (x4 + 1) C dX7_freePages_46 4 rfl rfl (by decide) rfl ?_
    refine j_goto 17 C dX7_freePages_49 rfl ?_
    refine j_sub (lv' := [(0, .ref (ad 0)), (1, .int x1), (2, .int x2), (3, .int t0), (4, .int (x4 + 1))]) [2, 3, 4, 1, 0] rfl ?_
    exact hX17 _ h
  have k44 : ∀ (x1 : Int32), ∀ (x2 : Int32), ∀ (x4 : Int32), ∀ (X2 : Int32 → Prop), (∀ t : Int32, X2 t → J p l e { frames := 0, cells := 0, slots := 0, locals := 0 } s m args below meth c D (wM cI cJ cZ ad) A 5 (MQ below (va_Qi (fun r σ' => σ' = σ0 ∧ Q r) (WW D (tys cI cJ cZ) (wM cI cJ cZ ad)) A) args s 0 0 A) σ0 2 [(0, .ref (ad 0)), (1, .int x1), (2, .int t)] []) → ∀ (X17 : Int32 × Int32 → Prop), (∀ t : Int32 × Int32, X17 t → J p l e { frames := 0, cells := 0, slots := 0, locals := 0 } s m args below meth c D (wM cI cJ cZ ad) A 5 (MQ below (va_Qi (fun r σ' => σ' = σ0 ∧ Q r) (WW D (tys cI cJ cZ) (wM cI cJ cZ ad)) A) args s 0 0 A) σ0 17 [(0, .ref (ad 0)), (1, .int x1), (2, .int x2), (3, .int t.1), (4, .int t.2)] []) → wX7_freePages_b44 X2 X17 x1 x2 x4 σ0 Q → J p l e { frames := 0, cells := 0, slots := 0, locals := 0 } s m args below meth c D (wM cI cJ cZ ad) A 5 (MQ below (va_Qi (fun r σ' => σ' = σ0 ∧ Q r) (WW D (tys cI cJ cZ) (wM cI cJ cZ ad)) A) args s 0 0 A) σ0 44 [(0, .ref (ad 0)), (1, .int x1), (2, .int x2), (4, .int x4)] [] := by
    intro x1 x2 x4 X2 hX2 X17 hX17 h
    refine j_iconst (v := 0) C dX7_freePages_44 (by decide) ?_
    refine j_sub (lv' := [(0, .ref (ad 0)), (1, .int x1), (2, .int x2), (4, .int x4)]) [0, 1, 2, 3] rfl ?_
    exact k45 _ _ _ _ _ hX2 _ hX17 h
  have k17 : ∀ (x1 : Int32), ∀ (x2 : Int32), ∀ (x3 : Int32), ∀ (x4 : Int32), ∀ (X2 : Int32 → Prop), (∀ t : Int32, X2 t → J p l e { frames := 0, cells := 0, slots := 0, locals := 0 } s m args below meth c D (wM cI cJ cZ ad) A 5 (MQ below (va_Qi (fun r σ' => σ' = σ0 ∧ Q r) (WW D (tys cI cJ cZ) (wM cI cJ cZ ad)) A) args s 0 0 A) σ0 2 [(0, .ref (ad 0)), (1, .int x1), (2, .int t)] []) → wX7_freePages_b17 X2 x1 x2 x3 x4 σ0 Q → J p l e { frames := 0, cells := 0, slots := 0, locals := 0 } s m args below meth c D (wM cI cJ cZ ad) A 5 (MQ below (va_Qi (fun r σ' => σ' = σ0 ∧ Q r) (WW D (tys cI cJ cZ) (wM cI cJ cZ ad)) A) args s 0 0 A) σ0 17 [(0, .ref (ad 0)), (1, .int x1), (2, .int x2), (3, .int x3), (4, .int x4)] [] := by
    intro x1 x2 x3 x4 X2 hX2 h
    refine h (fun t => J p l e { frames := 0, cells := 0, slots := 0, locals := 0 } s m args below meth c D (wM cI cJ cZ ad) A 5 (MQ below (va_Qi (fun r σ' => σ' = σ0 ∧ Q r) (WW D (tys cI cJ cZ) (wM cI cJ cZ ad)) A) args s 0 0 A) σ0 17 [(0, .ref (ad 0)), (1, .int x1), (2, .int x2), (3, .int t.1), (4, .int t.2)] []) (fun t h => ?_)
    obtain ⟨x3, x4⟩ := t
    try dsimp only at h
    refine j_iload C dX7_freePages_17 4 rfl ?_
    refine j_iload_n C dX7_freePages_19 2 rfl ?_
    refine j_iload_n C dX7_freePages_20 1 rfl ?_
    refine j_iadd C dX7_freePages_21 ?_
    refine j_icmp_ge 52 C dX7_freePages_22 rfl h (fun h => ?_) (fun h => ?_)
    · refine j_iload_n C dX7_freePages_52 3 rfl ?_
      refine j_if_eq 58 C dX7_freePages_53 rfl h (fun h => ?_) (fun h => ?_)
      · refine j_iinc (lv' := [(2, .int (x2 + 1)), (0, .ref (ad 0)), (1, .int x1), (3, .int x3), (4, .int x4)]) (x2 + 1) C dX7_freePages_58 2 rfl rfl (by decide) rfl ?_
        refine j_goto 2 C dX7_freePages_61 rfl ?_
        refine j_sub (lv' := [(0, .ref (ad 0)), (1, .int x1), (2, .int (x2 + 1))]) [1, 2, 0] rfl ?_
        exact hX2 _ h
      · refine j_iload_n C dX7_freePages_56 2 rfl ?_
        exact j_iret C dX7_freePages_57 ⟨rfl, h⟩
    · refine j_iload_n C dX7_freePages_25 3 rfl ?_
      refine j_if_eq 44 C dX7_freePages_26 rfl h (fun h => ?_) (fun h => ?_)
      · refine j_sub (lv' := [(0, .ref (ad 0)), (1, .int x1), (2, .int x2), (4, .int x4)]) [0, 1, 2, 4] rfl ?_
        exact k44 _ _ _ _ hX2 _ (fun _ z => z) h
      · refine j_aload_n C dX7_freePages_29 0 rfl ?_
        refine gf_X7_9 C dX7_freePages_30 ?_
        refine j_iload C dX7_freePages_33 4 rfl ?_
        refine al_wM_1 C h.1 dX7_freePages_35 ?_
        replace h := h.2
        refine j_iconst (v := (-1)) C dX7_freePages_36 (by decide) ?_
        refine j_icmp_ne 44 C dX7_freePages_37 rfl h (fun h => ?_) (fun h => ?_)
        · refine j_sub (lv' := [(0, .ref (ad 0)), (1, .int x1), (2, .int x2), (4, .int x4)]) [0, 1, 2, 4] rfl ?_
          exact k44 _ _ _ _ hX2 _ (fun _ z => z) h
        · refine j_iconst (v := 1) C dX7_freePages_40 (by decide) ?_
          refine j_goto 45 C dX7_freePages_41 rfl ?_
          refine j_sub (lv' := [(0, .ref (ad 0)), (1, .int x1), (2, .int x2), (4, .int x4)]) [0, 1, 2, 4] rfl ?_
          exact k45 _ _ _ _ _ hX2 _ (fun _ z => z) h
  have k2 : ∀ (x1 : Int32), ∀ (x2 : Int32), wX7_freePages_b2 x1 x2 σ0 Q → J p l e { frames := 0, cells := 0, slots := 0, locals := 0 } s m args below meth c D (wM cI cJ cZ ad) A 5 (MQ below (va_Qi (fun r σ' => σ' = σ0 ∧ Q r) (WW D (tys cI cJ cZ) (wM cI cJ cZ ad)) A) args s 0 0 A) σ0 2 [(0, .ref (ad 0)), (1, .int x1), (2, .int x2)] [] := by
    intro x1 x2 h
    refine h (fun t => J p l e { frames := 0, cells := 0, slots := 0, locals := 0 } s m args below meth c D (wM cI cJ cZ ad) A 5 (MQ below (va_Qi (fun r σ' => σ' = σ0 ∧ Q r) (WW D (tys cI cJ cZ) (wM cI cJ cZ ad)) A) args s 0 0 A) σ0 2 [(0, .ref (ad 0)), (1, .int x1), (2, .int t)] []) (fun t h => ?_)
    obtain ⟨x2, rfl⟩ : ∃ z, z = t := ⟨_, rfl⟩
    try dsimp only at h
    refine j_iload_n C dX7_freePages_2 2 rfl ?_
    refine j_iload_n C dX7_freePages_3 1 rfl ?_
    refine j_iadd C dX7_freePages_4 ?_
    refine j_aload_n C dX7_freePages_5 0 rfl ?_
    refine gf_X7_94 C dX7_freePages_6 ?_
    refine j_icmp_gt 64 C dX7_freePages_9 rfl h (fun h => ?_) (fun h => ?_)
    · refine j_iconst (v := (-1)) C dX7_freePages_64 (by decide) ?_
      exact j_iret C dX7_freePages_65 ⟨rfl, h⟩
    · refine j_iconst (v := 1) C dX7_freePages_12 (by decide) ?_
      refine j_istore_n (lv' := [(3, .int 1), (0, .ref (ad 0)), (1, .int x1), (2, .int x2)]) C dX7_freePages_13 (by decide) rfl ?_
      refine j_iload_n C dX7_freePages_14 3 rfl ?_
      refine j_istore (lv' := [(4, .int x2), (3, .int 1), (0, .ref (ad 0)), (1, .int x1), (2, .int x2)]) C dX7_freePages_15 (by decide) rfl ?_
      refine j_sub (lv' := [(0, .ref (ad 0)), (1, .int x1), (2, .int x2), (3, .int 1), (4, .int x2)]) [2, 3, 4, 1, 0] rfl ?_
      exact k17 _ _ _ _ _ (fun _ z => z) h
  refine j_iconst (v := 0) C dX7_freePages_0 (by decide) ?_
  refine j_istore_n (lv' := [(2, .int 0), (0, .ref (ad 0)), (1, .int x1)]) C dX7_freePages_1 (by decide) rfl ?_
  refine j_sub (lv' := [(0, .ref (ad 0)), (1, .int x1), (2, .int 0)]) [1, 2, 0] rfl ?_
  exact k2 _ _ h
def wX7_named_b191 (X45 : Int32 × Int32 → Prop) (x1 : Int32) (x3 : Int32) (x4 : Int32) (x5 : Int32) (σ : SS) (Q : Int32 → Prop) : Prop := X45 (x3, (x5 + 1))
def wX7_named_b190 (X45 : Int32 × Int32 → Prop) (x1 : Int32) (x4 : Int32) (x5 : Int32) (t0 : Int32) (σ : SS) (Q : Int32 → Prop) : Prop := wX7_named_b191 X45 x1 t0 x4 x5 σ Q
def wX7_named_b179 (X45 : Int32 × Int32 → Prop) (x1 : Int32) (x3 : Int32) (x4 : Int32) (x5 : Int32) (x6 : Int32) (σ : SS) (Q : Int32 → Prop) : Prop := (x6 = 0 → wX7_named_b190 X45 x1 x4 x5 x3 σ Q) ∧ (¬ x6 = 0 → wX7_named_b190 X45 x1 x4 x5 x5 σ Q)
def wX7_named_b177 (X45 : Int32 × Int32 → Prop) (x1 : Int32) (x3 : Int32) (x4 : Int32) (x5 : Int32) (t0 : Int32) (σ : SS) (Q : Int32 → Prop) : Prop := wX7_named_b179 X45 x1 x3 x4 x5 t0 σ Q
def wX7_named_b141 (X45 : Int32 × Int32 → Prop) (x1 : Int32) (x3 : Int32) (x4 : Int32) (x5 : Int32) (x6 : Int32) (σ : SS) (Q : Int32 → Prop) : Prop := (¬ x6 = 0 → wX7_named_b179 X45 x1 x3 x4 x5 x6 σ Q) ∧ (x6 = 0 → vp_in x1 8 ∧ ((¬ (gA σ 3 x1.toNatClampNeg) = 2 → wX7_named_b179 X45 x1 x3 x4 x5 x6 σ Q) ∧ ((gA σ 3 x1.toNatClampNeg) = 2 → vp_in x5 2560 ∧ (vp_in x3 2560 ∧ (((gA σ 1 x5.toNatClampNeg) ≤ (gA σ 1 x3.toNatClampNeg) → wX7_named_b177 X45 x1 x3 x4 x5 0 σ Q) ∧ (¬ (gA σ 1 x5.toNatClampNeg) ≤ (gA σ 1 x3.toNatClampNeg) → wX7_named_b177 X45 x1 x3 x4 x5 1 σ Q))))))
def wX7_named_b139 (X45 : Int32 × Int32 → Prop) (x1 : Int32) (x3 : Int32) (x4 : Int32) (x5 : Int32) (t0 : Int32) (σ : SS) (Q : Int32 → Prop) : Prop := wX7_named_b141 X45 x1 x3 x4 x5 t0 σ Q
def wX7_named_b118 (X45 : Int32 × Int32 → Prop) (x1 : Int32) (x3 : Int32) (x4 : Int32) (x5 : Int32) (σ : SS) (Q : Int32 → Prop) : Prop := vp_in x5 2560 ∧ (vp_in x3 2560 ∧ (((gA σ 1 x3.toNatClampNeg) ≤ (gA σ 1 x5.toNatClampNeg) → wX7_named_b139 X45 x1 x3 x4 x5 0 σ Q) ∧ (¬ (gA σ 1 x3.toNatClampNeg) ≤ (gA σ 1 x5.toNatClampNeg) → wX7_named_b139 X45 x1 x3 x4 x5 1 σ Q)))
def wX7_named_b91 (X45 : Int32 × Int32 → Prop) (x1 : Int32) (x3 : Int32) (x4 : Int32) (x5 : Int32) (t0 : Int32) (σ : SS) (Q : Int32 → Prop) : Prop := (¬ t0 = 0 → wX7_named_b141 X45 x1 x3 x4 x5 t0 σ Q) ∧ (t0 = 0 → vp_in x1 8 ∧ (((gA σ 3 x1.toNatClampNeg) = 1 → wX7_named_b118 X45 x1 x3 x4 x5 σ Q) ∧ (¬ (gA σ 3 x1.toNatClampNeg) = 1 → vp_in x1 8 ∧ ((¬ (gA σ 3 x1.toNatClampNeg) = 3 → wX7_named_b141 X45 x1 x3 x4 x5 t0 σ Q) ∧ ((gA σ 3 x1.toNatClampNeg) = 3 → wX7_named_b118 X45 x1 x3 x4 x5 σ Q)))))
def wX7_named_b45 (x1 : Int32) (x3 : Int32) (x4 : Int32) (x5 : Int32) (σ : SS) (Q : Int32 → Prop) : Prop := lfp (fun (X45 : Int32 × Int32 → Prop) (t : Int32 × Int32) => ((64 * (gI σ 0)) ≤ t.2 → Q t.1) ∧ (¬ (64 * (gI σ 0)) ≤ t.2 → wX7_isFreeAt t.2 x1 σ (fun r61 => (r61 = 0 → wX7_named_b191 X45 x1 t.1 x4 t.2 σ Q) ∧ (¬ r61 = 0 → vp_in t.2 2560 ∧ ((x4 ≤ (gA σ 1 t.2.toNatClampNeg) → (0 ≤ t.1 → wX7_named_b91 X45 x1 t.1 x4 t.2 0 σ Q) ∧ (¬ 0 ≤ t.1 → wX7_named_b91 X45 x1 t.1 x4 t.2 1 σ Q)) ∧ (¬ x4 ≤ (gA σ 1 t.2.toNatClampNeg) → wX7_named_b191 X45 x1 t.1 x4 t.2 σ Q)))))) (x3, x5)
def wX7_named_b40 (x1 : Int32) (x3 : Int32) (t0 : Int32) (σ : SS) (Q : Int32 → Prop) : Prop := wX7_named_b45 x1 x3 t0 0 σ Q
def wX7_named (x1 : Int32) (x2 : Int32) (σ : SS) (Q : Int32 → Prop) : Prop := vp_in x1 8 ∧ ((¬ (gA σ 3 x1.toNatClampNeg) = 0 → vp_in x1 8 ∧ ((¬ (gA σ 3 x1.toNatClampNeg) = 1 → wX7_need x1 x2 σ (fun r35 => wX7_named_b40 x1 ((-1)) (r35 + 1) σ Q)) ∧ ((gA σ 3 x1.toNatClampNeg) = 1 → wX7_power x2 σ (fun r26 => wX7_named_b40 x1 ((-1)) r26 σ Q)))) ∧ ((gA σ 3 x1.toNatClampNeg) = 0 → wX7_named_b40 x1 ((-1)) 0 σ Q))
set_option maxRecDepth 100000 in
set_option maxHeartbeats 4000000 in
theorem kX7_named_ok {l : Launch} {D : va_G} {cI cJ cZ : ClassId} {ad : Nat → Nat} (x1 : Int32) (x2 : Int32) (σ0 : SS) {Q : Int32 → Prop} (h : wX7_named x1 x2 σ0 Q) : Ci l yX7_named (.code yX7_named cX7_named 7 (some .int) :: TT) { frames := 2, cells := 0, slots := 0, locals := 44 } D (tys cI cJ cZ) (wM cI cJ cZ ad) [.ref (ad 0), .int x1, .int x2] σ0 (fun r σ' => σ' = σ0 ∧ Q r) := by
  refine Ci.of (lv := [(0, .ref (ad 0)), (1, .int x1), (2, .int x2)]) (by decide) adM (Nat.le_of_ble_eq_true rfl) rfl ?_
  intro p e s m args below meth c A C
  have k191 : ∀ (x1 : Int32), ∀ (x3 : Int32), ∀ (x4 : Int32), ∀ (x5 : Int32), ∀ (X45 : Int32 × Int32 → Prop), (∀ t : Int32 × Int32, X45 t → J p l e { frames := 2, cells := 0, slots := 0, locals := 44 } s m args below meth c D (wM cI cJ cZ ad) A 7 (MQ below (va_Qi (fun r σ' => σ' = σ0 ∧ Q r) (WW D (tys cI cJ cZ) (wM cI cJ cZ ad)) A) args s 0 0 A) σ0 45 [(0, .ref (ad 0)), (1, .int x1), (3, .int t.1), (4, .int x4), (5, .int t.2)] []) → wX7_named_b191 X45 x1 x3 x4 x5 σ0 Q → J p l e { frames := 2, cells := 0, slots := 0, locals := 44 } s m args below meth c D (wM cI cJ cZ ad) A 7 (MQ below (va_Qi (fun r σ' => σ' = σ0 ∧ Q r) (WW D (tys cI cJ cZ) (wM cI cJ cZ ad)) A) args s 0 0 A) σ0 191 [(0, .ref (ad 0)), (1, .int x1), (3, .int x3), (4, .int x4), (5, .int x5)] [] := by
    intro x1 x3 x4 x5 X45 hX45 h
    refine j_iinc (lv' := [(5, .int (x5 + 1)), (0, .ref (ad 0)), (1, .int x1), (3, .int x3), (4, .int x4)]) (x5 + 1) C dX7_named_191 4 rfl rfl (by decide) rfl ?_
    refine j_goto 45 C dX7_named_194 rfl ?_
    refine j_sub (lv' := [(0, .ref (ad 0)), (1, .int x1), (3, .int x3), (4, .int x4), (5, .int (x5 + 1))]) [1, 2, 3, 4, 0] rfl ?_
    exact hX45 _ h
  have k190 : ∀ (x1 : Int32), ∀ (x4 : Int32), ∀ (x5 : Int32), ∀ (t0 : Int32), ∀ (X45 : Int32 × Int32 → Prop), (∀ t : Int32 × Int32, X45 t → J p l e { frames := 2, cells := 0, slots := 0, locals := 44 } s m args below meth c D (wM cI cJ cZ ad) A 7 (MQ below (va_Qi (fun r σ' => σ' = σ0 ∧ Q r) (WW D (tys cI cJ cZ) (wM cI cJ cZ ad)) A) args s 0 0 A) σ0 45 [(0, .ref (ad 0)), (1, .int x1), (3, .int t.1), (4, .int x4), (5, .int t.2)] []) → wX7_named_b190 X45 x1 x4 x5 t0 σ0 Q → J p l e { frames := 2, cells := 0, slots := 0, locals := 44 } s m args below meth c D (wM cI cJ cZ ad) A 7 (MQ below (va_Qi (fun r σ' => σ' = σ0 ∧ Q r) (WW D (tys cI cJ cZ) (wM cI cJ cZ ad)) A) args s 0 0 A) σ0 190 [(0, .ref (ad 0)), (1, .int x1), (4, .int x4), (5, .int x5)] [.int t0] := by
    intro x1 x4 x5 t0 X45 hX45 h
    refine j_istore_n (lv' := [(3, .int t0), (0, .ref (ad 0)), (1, .int x1), (4, .int x4), (5, .int x5)]) C dX7_named_190 (by decide) rfl ?_
    refine j_sub (lv' := [(0, .ref (ad 0)), (1, .int x1), (3, .int t0), (4, .int x4), (5, .int x5)]) [1, 2, 0, 3, 4] rfl ?_
    exact k191 _ _ _ _ _ hX45 h
  have k179 : ∀ (x1 : Int32), ∀ (x3 : Int32), ∀ (x4 : Int32), ∀ (x5 : Int32), ∀ (x6 : Int32), ∀ (X45 : Int32 × Int32 → Prop), (∀ t : Int32 × Int32, X45 t → J p l e { frames := 2, cells := 0, slots := 0, locals := 44 } s m args below meth c D (wM cI cJ cZ ad) A 7 (MQ below (va_Qi (fun r σ' => σ' = σ0 ∧ Q r) (WW D (tys cI cJ cZ) (wM cI cJ cZ ad)) A) args s 0 0 A) σ0 45 [(0, .ref (ad 0)), (1, .int x1), (3, .int t.1), (4, .int x4), (5, .int t.2)] []) → wX7_named_b179 X45 x1 x3 x4 x5 x6 σ0 Q → J p l e { frames := 2, cells := 0, slots := 0, locals := 44 } s m args below meth c D (wM cI cJ cZ ad) A 7 (MQ below (va_Qi (fun r σ' => σ' = σ0 ∧ Q r) (WW D (tys cI cJ cZ) (wM cI cJ cZ ad)) A) args s 0 0 A) σ0 179 [(0, .ref (ad 0)), (1, .int x1), (3, .int x3), (4, .int x4), (5, .int x5), (6, .int x6)] [] := by
    intro x1 x3 x4 x5 x6 X45 hX45 h
    refine j_iload C dX7_named_179 5 rfl ?_
    refine j_if_eq 189 C dX7_named_181 rfl h (fun h => ?_) (fun h => ?_)
    · refine j_iload_n C dX7_named_189 2 rfl ?_
      refine j_sub (lv' := [(0, .ref (ad 0)), (1, .int x1), (4, .int x4), (5, .int x5)]) [0, 1, 3, 4] rfl ?_
      exact k190 _ _ _ _ _ hX45 h
    · refine j_iload C dX7_named_184 4 rfl ?_
      refine j_goto 190 C dX7_named_186 rfl ?_
      refine j_sub (lv' := [(0, .ref (ad 0)), (1, .int x1), (4, .int x4), (5, .int x5)]) [0, 1, 3, 4] rfl ?_
      exact k190 _ _ _ _ _ hX45 h
  have k177 : ∀ (x1 : Int32), ∀ (x3 : Int32), ∀ (x4 : Int32), ∀ (x5 : Int32), ∀ (t0 : Int32), ∀ (X45 : Int32 × Int32 → Prop), (∀ t : Int32 × Int32, X45 t → J p l e { frames := 2, cells := 0, slots := 0, locals := 44 } s m args below meth c D (wM cI cJ cZ ad) A 7 (MQ below (va_Qi (fun r σ' => σ' = σ0 ∧ Q r) (WW D (tys cI cJ cZ) (wM cI cJ cZ ad)) A) args s 0 0 A) σ0 45 [(0, .ref (ad 0)), (1, .int x1), (3, .int t.1), (4, .int x4), (5, .int t.2)] []) → wX7_named_b177 X45 x1 x3 x4 x5 t0 σ0 Q → J p l e { frames := 2, cells := 0, slots := 0, locals := 44 } s m args below meth c D (wM cI cJ cZ ad) A 7 (MQ below (va_Qi (fun r σ' => σ' = σ0 ∧ Q r) (WW D (tys cI cJ cZ) (wM cI cJ cZ ad)) A) args s 0 0 A) σ0 177 [(0, .ref (ad 0)), (1, .int x1), (3, .int x3), (4, .int x4), (5, .int x5)] [.int t0] := by
    intro x1 x3 x4 x5 t0 X45 hX45 h
    refine j_istore (lv' := [(6, .int t0), (0, .ref (ad 0)), (1, .int x1), (3, .int x3), (4, .int x4), (5, .int x5)]) C dX7_named_177 (by decide) rfl ?_
    refine j_sub (lv' := [(0, .ref (ad 0)), (1, .int x1), (3, .int x3), (4, .int x4), (5, .int x5), (6, .int t0)]) [1, 2, 3, 4, 5, 0] rfl ?_
    exact k179 _ _ _ _ _ _ hX45 h
  have k141 : ∀ (x1 : Int32), ∀ (x3 : Int32), ∀ (x4 : Int32), ∀ (x5 : Int32), ∀ (x6 : Int32), ∀ (X45 : Int32 × Int32 → Prop), (∀ t : Int32 × Int32, X45 t → J p l e { frames := 2, cells := 0, slots := 0, locals := 44 } s m args below meth c D (wM cI cJ cZ ad) A 7 (MQ below (va_Qi (fun r σ' => σ' = σ0 ∧ Q r) (WW D (tys cI cJ cZ) (wM cI cJ cZ ad)) A) args s 0 0 A) σ0 45 [(0, .ref (ad 0)), (1, .int x1), (3, .int t.1), (4, .int x4), (5, .int t.2)] []) → wX7_named_b141 X45 x1 x3 x4 x5 x6 σ0 Q → J p l e { frames := 2, cells := 0, slots := 0, locals := 44 } s m args below meth c D (wM cI cJ cZ ad) A 7 (MQ below (va_Qi (fun r σ' => σ' = σ0 ∧ Q r) (WW D (tys cI cJ cZ) (wM cI cJ cZ ad)) A) args s 0 0 A) σ0 141 [(0, .ref (ad 0)), (1, .int x1), (3, .int x3), (4, .int x4), (5, .int x5), (6, .int x6)] [] := by
    intro x1 x3 x4 x5 x6 X45 hX45 h
    refine j_iload C dX7_named_141 5 rfl ?_
    refine j_if_ne 179 C dX7_named_143 rfl h (fun h => ?_) (fun h => ?_)
    · refine j_sub (lv' := [(0, .ref (ad 0)), (1, .int x1), (3, .int x3), (4, .int x4), (5, .int x5), (6, .int x6)]) [0, 1, 2, 3, 4, 5] rfl ?_
      exact k179 _ _ _ _ _ _ hX45 h
    · refine j_aload_n C dX7_named_146 0 rfl ?_
      refine gf_X7_23 C dX7_named_147 ?_
      refine j_iload_n C dX7_named_150 1 rfl ?_
      refine al_wM_5 C h.1 dX7_named_151 ?_
      replace h := h.2
      refine j_iconst (v := 2) C dX7_named_152 (by decide) ?_
      refine j_icmp_ne 179 C dX7_named_153 rfl h (fun h => ?_) (fun h => ?_)
      · refine j_sub (lv' := [(0, .ref (ad 0)), (1, .int x1), (3, .int x3), (4, .int x4), (5, .int x5), (6, .int x6)]) [0, 1, 2, 3, 4, 5] rfl ?_
        exact k179 _ _ _ _ _ _ hX45 h
      · refine j_aload_n C dX7_named_156 0 rfl ?_
        refine gf_X7_17 C dX7_named_157 ?_
        refine j_iload C dX7_named_160 4 rfl ?_
        refine al_wM_3 C h.1 dX7_named_162 ?_
        replace h := h.2
        refine j_aload_n C dX7_named_163 0 rfl ?_
        refine gf_X7_17 C dX7_named_164 ?_
        refine j_iload_n C dX7_named_167 2 rfl ?_
        refine al_wM_3 C h.1 dX7_named_168 ?_
        replace h := h.2
        refine j_icmp_le 176 C dX7_named_169 rfl h (fun h => ?_) (fun h => ?_)
        · refine j_iconst (v := 0) C dX7_named_176 (by decide) ?_
          refine j_sub (lv' := [(0, .ref (ad 0)), (1, .int x1), (3, .int x3), (4, .int x4), (5, .int x5)]) [0, 1, 2, 3, 4] rfl ?_
          exact k177 _ _ _ _ _ _ hX45 h
        · refine j_iconst (v := 1) C dX7_named_172 (by decide) ?_
          refine j_goto 177 C dX7_named_173 rfl ?_
          refine j_sub (lv' := [(0, .ref (ad 0)), (1, .int x1), (3, .int x3), (4, .int x4), (5, .int x5)]) [0, 1, 2, 3, 4] rfl ?_
          exact k177 _ _ _ _ _ _ hX45 h
  have k139 : ∀ (x1 : Int32), ∀ (x3 : Int32), ∀ (x4 : Int32), ∀ (x5 : Int32), ∀ (t0 : Int32), ∀ (X45 : Int32 × Int32 → Prop), (∀ t : Int32 × Int32, X45 t → J p l e { frames := 2, cells := 0, slots := 0, locals := 44 } s m args below meth c D (wM cI cJ cZ ad) A 7 (MQ below (va_Qi (fun r σ' => σ' = σ0 ∧ Q r) (WW D (tys cI cJ cZ) (wM cI cJ cZ ad)) A) args s 0 0 A) σ0 45 [(0, .ref (ad 0)), (1, .int x1), (3, .int t.1), (4, .int x4), (5, .int t.2)] []) → wX7_named_b139 X45 x1 x3 x4 x5 t0 σ0 Q → J p l e { frames := 2, cells := 0, slots := 0, locals := 44 } s m args below meth c D (wM cI cJ cZ ad) A 7 (MQ below (va_Qi (fun r σ' => σ' = σ0 ∧ Q r) (WW D (tys cI cJ cZ) (wM cI cJ cZ ad)) A) args s 0 0 A) σ0 139 [(0, .ref (ad 0)), (1, .int x1), (3, .int x3), (4, .int x4), (5, .int x5)] [.int t0] := by
    intro x1 x3 x4 x5 t0 X45 hX45 h
    refine j_istore (lv' := [(6, .int t0), (0, .ref (ad 0)), (1, .int x1), (3, .int x3), (4, .int x4), (5, .int x5)]) C dX7_named_139 (by decide) rfl ?_
    refine j_sub (lv' := [(0, .ref (ad 0)), (1, .int x1), (3, .int x3), (4, .int x4), (5, .int x5), (6, .int t0)]) [1, 2, 3, 4, 5, 0] rfl ?_
    exact k141 _ _ _ _ _ _ hX45 h
  have k118 : ∀ (x1 : Int32), ∀ (x3 : Int32), ∀ (x4 : Int32), ∀ (x5 : Int32), ∀ (X45 : Int32 × Int32 → Prop), (∀ t : Int32 × Int32, X45 t → J p l e { frames := 2, cells := 0, slots := 0, locals := 44 } s m args below meth c D (wM cI cJ cZ ad) A 7 (MQ below (va_Qi (fun r σ' => σ' = σ0 ∧ Q r) (WW D (tys cI cJ cZ) (wM cI cJ cZ ad)) A) args s 0 0 A) σ0 45 [(0, .ref (ad 0)), (1, .int x1), (3, .int t.1), (4, .int x4), (5, .int t.2)] []) → wX7_named_b118 X45 x1 x3 x4 x5 σ0 Q → J p l e { frames := 2, cells := 0, slots := 0, locals := 44 } s m args below meth c D (wM cI cJ cZ ad) A 7 (MQ below (va_Qi (fun r σ' => σ' = σ0 ∧ Q r) (WW D (tys cI cJ cZ) (wM cI cJ cZ ad)) A) args s 0 0 A) σ0 118 [(0, .ref (ad 0)), (1, .int x1), (3, .int x3), (4, .int x4), (5, .int x5)] [] := by
    intro x1 x3 x4 x5 X45 hX45 h
    refine j_aload_n C dX7_named_118 0 rfl ?_
    refine gf_X7_17 C dX7_named_119 ?_
    refine j_iload C dX7_named_122 4 rfl ?_
    refine al_wM_3 C h.1 dX7_named_124 ?_
    replace h := h.2
    refine j_aload_n C dX7_named_125 0 rfl ?_
    refine gf_X7_17 C dX7_named_126 ?_
    refine j_iload_n C dX7_named_129 2 rfl ?_
    refine al_wM_3 C h.1 dX7_named_130 ?_
    replace h := h.2
    refine j_icmp_ge 138 C dX7_named_131 rfl h (fun h => ?_) (fun h => ?_)
    · refine j_iconst (v := 0) C dX7_named_138 (by decide) ?_
      refine j_sub (lv' := [(0, .ref (ad 0)), (1, .int x1), (3, .int x3), (4, .int x4), (5, .int x5)]) [0, 1, 2, 3, 4] rfl ?_
      exact k139 _ _ _ _ _ _ hX45 h
    · refine j_iconst (v := 1) C dX7_named_134 (by decide) ?_
      refine j_goto 139 C dX7_named_135 rfl ?_
      refine j_sub (lv' := [(0, .ref (ad 0)), (1, .int x1), (3, .int x3), (4, .int x4), (5, .int x5)]) [0, 1, 2, 3, 4] rfl ?_
      exact k139 _ _ _ _ _ _ hX45 h
  have k91 : ∀ (x1 : Int32), ∀ (x3 : Int32), ∀ (x4 : Int32), ∀ (x5 : Int32), ∀ (t0 : Int32), ∀ (X45 : Int32 × Int32 → Prop), (∀ t : Int32 × Int32, X45 t → J p l e { frames := 2, cells := 0, slots := 0, locals := 44 } s m args below meth c D (wM cI cJ cZ ad) A 7 (MQ below (va_Qi (fun r σ' => σ' = σ0 ∧ Q r) (WW D (tys cI cJ cZ) (wM cI cJ cZ ad)) A) args s 0 0 A) σ0 45 [(0, .ref (ad 0)), (1, .int x1), (3, .int t.1), (4, .int x4), (5, .int t.2)] []) → wX7_named_b91 X45 x1 x3 x4 x5 t0 σ0 Q → J p l e { frames := 2, cells := 0, slots := 0, locals := 44 } s m args below meth c D (wM cI cJ cZ ad) A 7 (MQ below (va_Qi (fun r σ' => σ' = σ0 ∧ Q r) (WW D (tys cI cJ cZ) (wM cI cJ cZ ad)) A) args s 0 0 A) σ0 91 [(0, .ref (ad 0)), (1, .int x1), (3, .int x3), (4, .int x4), (5, .int x5)] [.int t0] := by
    intro x1 x3 x4 x5 t0 X45 hX45 h
    refine j_istore (lv' := [(6, .int t0), (0, .ref (ad 0)), (1, .int x1), (3, .int x3), (4, .int x4), (5, .int x5)]) C dX7_named_91 (by decide) rfl ?_
    refine j_iload C dX7_named_93 0 rfl ?_
    refine j_if_ne 141 C dX7_named_95 rfl h (fun h => ?_) (fun h => ?_)
    · refine j_sub (lv' := [(0, .ref (ad 0)), (1, .int x1), (3, .int x3), (4, .int x4), (5, .int x5), (6, .int t0)]) [1, 2, 3, 4, 5, 0] rfl ?_
      exact k141 _ _ _ _ _ _ hX45 h
    · refine j_aload_n C dX7_named_98 1 rfl ?_
      refine gf_X7_23 C dX7_named_99 ?_
      refine j_iload_n C dX7_named_102 2 rfl ?_
      refine al_wM_5 C h.1 dX7_named_103 ?_
      replace h := h.2
      refine j_iconst (v := 1) C dX7_named_104 (by decide) ?_
      refine j_icmp_eq 118 C dX7_named_105 rfl h (fun h => ?_) (fun h => ?_)
      · refine j_sub (lv' := [(0, .ref (ad 0)), (1, .int x1), (3, .int x3), (4, .int x4), (5, .int x5)]) [1, 2, 3, 4, 5] rfl ?_
        exact k118 _ _ _ _ _ hX45 h
      · refine j_aload_n C dX7_named_108 1 rfl ?_
        refine gf_X7_23 C dX7_named_109 ?_
        refine j_iload_n C dX7_named_112 2 rfl ?_
        refine al_wM_5 C h.1 dX7_named_113 ?_
        replace h := h.2
        refine j_iconst (v := 3) C dX7_named_114 (by decide) ?_
        refine j_icmp_ne 141 C dX7_named_115 rfl h (fun h => ?_) (fun h => ?_)
        · refine j_sub (lv' := [(0, .ref (ad 0)), (1, .int x1), (3, .int x3), (4, .int x4), (5, .int x5), (6, .int t0)]) [1, 2, 3, 4, 5, 0] rfl ?_
          exact k141 _ _ _ _ _ _ hX45 h
        · refine j_sub (lv' := [(0, .ref (ad 0)), (1, .int x1), (3, .int x3), (4, .int x4), (5, .int x5)]) [1, 2, 3, 4, 5] rfl ?_
          exact k118 _ _ _ _ _ hX45 h
  have k45 : ∀ (x1 : Int32), ∀ (x3 : Int32), ∀ (x4 : Int32), ∀ (x5 : Int32), wX7_named_b45 x1 x3 x4 x5 σ0 Q → J p l e { frames := 2, cells := 0, slots := 0, locals := 44 } s m args below meth c D (wM cI cJ cZ ad) A 7 (MQ below (va_Qi (fun r σ' => σ' = σ0 ∧ Q r) (WW D (tys cI cJ cZ) (wM cI cJ cZ ad)) A) args s 0 0 A) σ0 45 [(0, .ref (ad 0)), (1, .int x1), (3, .int x3), (4, .int x4), (5, .int x5)] [] := by
    intro x1 x3 x4 x5 h
    refine h (fun t => J p l e { frames := 2, cells := 0, slots := 0, locals := 44 } s m args below meth c D (wM cI cJ cZ ad) A 7 (MQ below (va_Qi (fun r σ' => σ' = σ0 ∧ Q r) (WW D (tys cI cJ cZ) (wM cI cJ cZ ad)) A) args s 0 0 A) σ0 45 [(0, .ref (ad 0)), (1, .int x1), (3, .int t.1), (4, .int x4), (5, .int t.2)] []) (fun t h => ?_)
    obtain ⟨x3, x5⟩ := t
    try dsimp only at h
    refine j_iload C dX7_named_45 4 rfl ?_
    refine j_bipush (v := 64) C dX7_named_47 (by decide) ?_
    refine j_aload_n C dX7_named_49 0 rfl ?_
    refine gf_X7_94 C dX7_named_50 ?_
    refine j_imul C dX7_named_53 ?_
    refine j_icmp_ge 197 C dX7_named_54 rfl h (fun h => ?_) (fun h => ?_)
    · refine j_iload_n C dX7_named_197 2 rfl ?_
      exact j_iret C dX7_named_198 ⟨rfl, h⟩
    · refine j_aload_n C dX7_named_57 0 rfl ?_
      refine j_iload C dX7_named_58 4 rfl ?_
      refine j_iload_n C dX7_named_60 1 rfl ?_
      refine j_callpi 0 [.int x5, .int x1] [] C (kX7_isFreeAt_ok x5 x1 σ0 h) (tt_V ml_X7_121 mV_X7_isFreeAt) ok_X7_isFreeAt ⟨by decide, by decide⟩ rfl (r_wM_0 (σ := σ0)) (Nat.le_of_ble_eq_true rfl) rfl dX7_named_61 (fun r61 h => ?_)
      refine j_if_eq 191 C dX7_named_64 rfl h (fun h => ?_) (fun h => ?_)
      · refine j_sub (lv' := [(0, .ref (ad 0)), (1, .int x1), (3, .int x3), (4, .int x4), (5, .int x5)]) [0, 1, 2, 3, 4] rfl ?_
        exact k191 _ _ _ _ _ (fun _ z => z) h
      · refine j_aload_n C dX7_named_67 0 rfl ?_
        refine gf_X7_17 C dX7_named_68 ?_
        refine j_iload C dX7_named_71 4 rfl ?_
        refine al_wM_3 C h.1 dX7_named_73 ?_
        replace h := h.2
        refine j_iload C dX7_named_74 3 rfl ?_
        refine j_icmp_ge 82 C dX7_named_76 rfl h (fun h => ?_) (fun h => ?_)
        · refine j_iload_n C dX7_named_82 2 rfl ?_
          refine j_if_ge 90 C dX7_named_83 rfl h (fun h => ?_) (fun h => ?_)
          · refine j_iconst (v := 0) C dX7_named_90 (by decide) ?_
            refine j_sub (lv' := [(0, .ref (ad 0)), (1, .int x1), (3, .int x3), (4, .int x4), (5, .int x5)]) [0, 1, 2, 3, 4] rfl ?_
            exact k91 _ _ _ _ _ _ (fun _ z => z) h
          · refine j_iconst (v := 1) C dX7_named_86 (by decide) ?_
            refine j_goto 91 C dX7_named_87 rfl ?_
            refine j_sub (lv' := [(0, .ref (ad 0)), (1, .int x1), (3, .int x3), (4, .int x4), (5, .int x5)]) [0, 1, 2, 3, 4] rfl ?_
            exact k91 _ _ _ _ _ _ (fun _ z => z) h
        · refine j_goto 191 C dX7_named_79 rfl ?_
          refine j_sub (lv' := [(0, .ref (ad 0)), (1, .int x1), (3, .int x3), (4, .int x4), (5, .int x5)]) [0, 1, 2, 3, 4] rfl ?_
          exact k191 _ _ _ _ _ (fun _ z => z) h
  have k40 : ∀ (x1 : Int32), ∀ (x3 : Int32), ∀ (t0 : Int32), wX7_named_b40 x1 x3 t0 σ0 Q → J p l e { frames := 2, cells := 0, slots := 0, locals := 44 } s m args below meth c D (wM cI cJ cZ ad) A 7 (MQ below (va_Qi (fun r σ' => σ' = σ0 ∧ Q r) (WW D (tys cI cJ cZ) (wM cI cJ cZ ad)) A) args s 0 0 A) σ0 40 [(0, .ref (ad 0)), (1, .int x1), (3, .int x3)] [.int t0] := by
    intro x1 x3 t0 h
    refine j_istore (lv' := [(4, .int t0), (0, .ref (ad 0)), (1, .int x1), (3, .int x3)]) C dX7_named_40 (by decide) rfl ?_
    refine j_iconst (v := 0) C dX7_named_42 (by decide) ?_
    refine j_istore (lv' := [(5, .int 0), (4, .int t0), (0, .ref (ad 0)), (1, .int x1), (3, .int x3)]) C dX7_named_43 (by decide) rfl ?_
    refine j_sub (lv' := [(0, .ref (ad 0)), (1, .int x1), (3, .int x3), (4, .int t0), (5, .int 0)]) [2, 3, 4, 1, 0] rfl ?_
    exact k45 _ _ _ _ h
  refine j_iconst (v := (-1)) C dX7_named_0 (by decide) ?_
  refine j_istore_n (lv' := [(3, .int ((-1))), (0, .ref (ad 0)), (1, .int x1), (2, .int x2)]) C dX7_named_1 (by decide) rfl ?_
  refine j_aload_n C dX7_named_2 1 rfl ?_
  refine gf_X7_23 C dX7_named_3 ?_
  refine j_iload_n C dX7_named_6 2 rfl ?_
  refine al_wM_5 C h.1 dX7_named_7 ?_
  replace h := h.2
  refine j_if_ne 15 C dX7_named_8 rfl h (fun h => ?_) (fun h => ?_)
  · refine j_aload_n C dX7_named_15 1 rfl ?_
    refine gf_X7_23 C dX7_named_16 ?_
    refine j_iload_n C dX7_named_19 2 rfl ?_
    refine al_wM_5 C h.1 dX7_named_20 ?_
    replace h := h.2
    refine j_iconst (v := 1) C dX7_named_21 (by decide) ?_
    refine j_icmp_ne 32 C dX7_named_22 rfl h (fun h => ?_) (fun h => ?_)
    · refine j_aload_n C dX7_named_32 1 rfl ?_
      refine j_iload_n C dX7_named_33 2 rfl ?_
      refine j_iload_n C dX7_named_34 3 rfl ?_
      refine j_callpi 0 [.int x1, .int x2] [] C (kX7_need_ok x1 x2 σ0 h) (tt_V ml_X7_117 mV_X7_need) ok_X7_need ⟨by decide, by decide⟩ rfl (r_wM_0 (σ := σ0)) (Nat.le_of_ble_eq_true rfl) rfl dX7_named_35 (fun r35 h => ?_)
      refine j_iconst (v := 1) C dX7_named_38 (by decide) ?_
      refine j_iadd C dX7_named_39 ?_
      refine j_sub (lv' := [(0, .ref (ad 0)), (1, .int x1), (3, .int ((-1)))]) [1, 2, 0] rfl ?_
      exact k40 _ _ _ h
    · refine j_iload_n C dX7_named_25 3 rfl ?_
      refine j_callSpi [.int x2] [] C (kX7_power_ok x2 σ0 h) (tt_S ml_X7_114 mS_X7_power) ok_X7_power ⟨by decide, by decide⟩ (Nat.le_of_ble_eq_true rfl) rfl dX7_named_26 (fun r26 h => ?_)
      refine j_goto 40 C dX7_named_29 rfl ?_
      refine j_sub (lv' := [(0, .ref (ad 0)), (1, .int x1), (3, .int ((-1)))]) [1, 2, 0] rfl ?_
      exact k40 _ _ _ h
  · refine j_iconst (v := 0) C dX7_named_11 (by decide) ?_
    refine j_goto 40 C dX7_named_12 rfl ?_
    refine j_sub (lv' := [(0, .ref (ad 0)), (1, .int x1), (3, .int ((-1)))]) [1, 2, 0] rfl ?_
    exact k40 _ _ _ h
def wX7_ahead_b4 (x1 : Int32) (x2 : Int32) (x3 : Int32) (σ : SS) (Q : Int32 → Prop) : Prop := lfp (fun (X4 : Int32 → Prop) (t : Int32) => (t < 0 → Q ((-1))) ∧ (¬ t < 0 → wX7_isOf t x1 σ (fun r11 => (r11 = 0 → Q ((-1))) ∧ (¬ r11 = 0 → vp_in t 2560 ∧ (((gA σ 1 t.toNatClampNeg) ≤ 0 → X4 ((t + (-1)))) ∧ (¬ (gA σ 1 t.toNatClampNeg) ≤ 0 → vp_in t 2560 ∧ ((¬ (t + (gA σ 1 t.toNatClampNeg)) = x2 → Q ((-1))) ∧ ((t + (gA σ 1 t.toNatClampNeg)) = x2 → Q t)))))))) x3
def wX7_ahead (x1 : Int32) (x2 : Int32) (σ : SS) (Q : Int32 → Prop) : Prop := wX7_ahead_b4 x1 x2 (x2 - 1) σ Q
set_option maxRecDepth 100000 in
set_option maxHeartbeats 4000000 in
theorem kX7_ahead_ok {l : Launch} {D : va_G} {cI cJ cZ : ClassId} {ad : Nat → Nat} (x1 : Int32) (x2 : Int32) (σ0 : SS) {Q : Int32 → Prop} (h : wX7_ahead x1 x2 σ0 Q) : Ci l yX7_ahead (.code yX7_ahead cX7_ahead 4 (some .int) :: TT) { frames := 1, cells := 0, slots := 0, locals := 22 } D (tys cI cJ cZ) (wM cI cJ cZ ad) [.ref (ad 0), .int x1, .int x2] σ0 (fun r σ' => σ' = σ0 ∧ Q r) := by
  refine Ci.of (lv := [(0, .ref (ad 0)), (1, .int x1), (2, .int x2)]) (by decide) adM (Nat.le_of_ble_eq_true rfl) rfl ?_
  intro p e s m args below meth c A C
  have k4 : ∀ (x1 : Int32), ∀ (x2 : Int32), ∀ (x3 : Int32), wX7_ahead_b4 x1 x2 x3 σ0 Q → J p l e { frames := 1, cells := 0, slots := 0, locals := 22 } s m args below meth c D (wM cI cJ cZ ad) A 4 (MQ below (va_Qi (fun r σ' => σ' = σ0 ∧ Q r) (WW D (tys cI cJ cZ) (wM cI cJ cZ ad)) A) args s 0 0 A) σ0 4 [(0, .ref (ad 0)), (1, .int x1), (2, .int x2), (3, .int x3)] [] := by
    intro x1 x2 x3 h
    refine h (fun t => J p l e { frames := 1, cells := 0, slots := 0, locals := 22 } s m args below meth c D (wM cI cJ cZ ad) A 4 (MQ below (va_Qi (fun r σ' => σ' = σ0 ∧ Q r) (WW D (tys cI cJ cZ) (wM cI cJ cZ ad)) A) args s 0 0 A) σ0 4 [(0, .ref (ad 0)), (1, .int x1), (2, .int x2), (3, .int t)] []) (fun t h => ?_)
    obtain ⟨x3, rfl⟩ : ∃ z, z = t := ⟨_, rfl⟩
    try dsimp only at h
    refine j_iload_n C dX7_ahead_4 3 rfl ?_
    refine j_if_lt 50 C dX7_ahead_5 rfl h (fun h => ?_) (fun h => ?_)
    · refine j_iconst (v := (-1)) C dX7_ahead_50 (by decide) ?_
      exact j_iret C dX7_ahead_51 ⟨rfl, h⟩
    · refine j_aload_n C dX7_ahead_8 0 rfl ?_
      refine j_iload_n C dX7_ahead_9 3 rfl ?_
      refine j_iload_n C dX7_ahead_10 1 rfl ?_
      refine j_callpi 0 [.int x3, .int x1] [] C (kX7_isOf_ok x3 x1 σ0 h) (tt_V ml_X7_110 mV_X7_isOf) ok_X7_isOf ⟨by decide, by decide⟩ rfl (r_wM_0 (σ := σ0)) (Nat.le_of_ble_eq_true rfl) rfl dX7_ahead_11 (fun r11 h => ?_)
      refine j_if_eq 50 C dX7_ahead_14 rfl h (fun h => ?_) (fun h => ?_)
      · refine j_iconst (v := (-1)) C dX7_ahead_50 (by decide) ?_
        exact j_iret C dX7_ahead_51 ⟨rfl, h⟩
      · refine j_aload_n C dX7_ahead_17 0 rfl ?_
        refine gf_X7_17 C dX7_ahead_18 ?_
        refine j_iload_n C dX7_ahead_21 3 rfl ?_
        refine al_wM_3 C h.1 dX7_ahead_22 ?_
        replace h := h.2
        refine j_if_le 44 C dX7_ahead_23 rfl h (fun h => ?_) (fun h => ?_)
        · refine j_iinc (lv' := [(3, .int (x3 + (-1))), (0, .ref (ad 0)), (1, .int x1), (2, .int x2)]) (x3 + (-1)) C dX7_ahead_44 3 rfl rfl (by decide) rfl ?_
          refine j_goto 4 C dX7_ahead_47 rfl ?_
          refine j_sub (lv' := [(0, .ref (ad 0)), (1, .int x1), (2, .int x2), (3, .int (x3 + (-1)))]) [1, 2, 3, 0] rfl ?_
          exact h
        · refine j_iload_n C dX7_ahead_26 3 rfl ?_
          refine j_aload_n C dX7_ahead_27 0 rfl ?_
          refine gf_X7_17 C dX7_ahead_28 ?_
          refine j_iload_n C dX7_ahead_31 3 rfl ?_
          refine al_wM_3 C h.1 dX7_ahead_32 ?_
          replace h := h.2
          refine j_iadd C dX7_ahead_33 ?_
          refine j_iload_n C dX7_ahead_34 2 rfl ?_
          refine j_icmp_ne 42 C dX7_ahead_35 rfl h (fun h => ?_) (fun h => ?_)
          · refine j_iconst (v := (-1)) C dX7_ahead_42 (by decide) ?_
            exact j_iret C dX7_ahead_43 ⟨rfl, h⟩
          · refine j_iload_n C dX7_ahead_38 3 rfl ?_
            refine j_goto 43 C dX7_ahead_39 rfl ?_
            exact j_iret C dX7_ahead_43 ⟨rfl, h⟩
  refine j_iload_n C dX7_ahead_0 2 rfl ?_
  refine j_iconst (v := 1) C dX7_ahead_1 (by decide) ?_
  refine j_isub C dX7_ahead_2 ?_
  refine j_istore_n (lv' := [(3, .int (x2 - 1)), (0, .ref (ad 0)), (1, .int x1), (2, .int x2)]) C dX7_ahead_3 (by decide) rfl ?_
  refine j_sub (lv' := [(0, .ref (ad 0)), (1, .int x1), (2, .int x2), (3, .int (x2 - 1))]) [1, 2, 3, 0] rfl ?_
  exact k4 _ _ _ h
def wX7_join_b40 (x1 : Int32) (x2 : Int32) (σ : SS) (Q : SS → Prop) : Prop := wX7_ahead x1 x2 σ (fun r43 => (r43 < 0 → Q σ) ∧ (¬ r43 < 0 → vp_in r43 2560 ∧ ((¬ (gA σ 2 r43.toNatClampNeg) = ((-1)) → Q σ) ∧ ((gA σ 2 r43.toNatClampNeg) = ((-1)) → vp_in r43 2560 ∧ (vp_in x2 2560 ∧ (vp_in r43 2560 ∧ (vp_in x2 2560 ∧ (Q (sA (sA σ 1 r43.toNatClampNeg ((gA σ 1 r43.toNatClampNeg) + (gA σ 1 x2.toNatClampNeg))) 1 x2.toNatClampNeg 0)))))))))
def wX7_join (x1 : Int32) (x2 : Int32) (σ : SS) (Q : SS → Prop) : Prop := vp_in x2 2560 ∧ (wX7_isFreeAt (x2 + (gA σ 1 x2.toNatClampNeg)) x1 σ (fun r12 => (r12 = 0 → wX7_join_b40 x1 x2 σ Q) ∧ (¬ r12 = 0 → vp_in x2 2560 ∧ (vp_in (x2 + (gA σ 1 x2.toNatClampNeg)) 2560 ∧ (vp_in x2 2560 ∧ (vp_in (x2 + (gA σ 1 x2.toNatClampNeg)) 2560 ∧ (∀ σ39 : SS, σ39 = sA (sA σ 1 x2.toNatClampNeg ((gA σ 1 x2.toNatClampNeg) + (gA σ 1 (x2 + (gA σ 1 x2.toNatClampNeg)).toNatClampNeg))) 1 (x2 + (gA σ 1 x2.toNatClampNeg)).toNatClampNeg 0 → (wX7_join_b40 x1 x2 σ39 Q))))))))
set_option maxRecDepth 100000 in
set_option maxHeartbeats 4000000 in
theorem kX7_join_ok {l : Launch} {D : va_G} {cI cJ cZ : ClassId} {ad : Nat → Nat} (x1 : Int32) (x2 : Int32) (σ0 : SS) {Q : SS → Prop} (h : wX7_join x1 x2 σ0 Q) : Cv l yX7_join (.code yX7_join cX7_join 5 none :: TT) { frames := 2, cells := 0, slots := 0, locals := 45 } D (tys cI cJ cZ) (wM cI cJ cZ ad) [.ref (ad 0), .int x1, .int x2] σ0 Q := by
  refine Cv.of (lv := [(0, .ref (ad 0)), (1, .int x1), (2, .int x2)]) (by decide) adM (Nat.le_of_ble_eq_true rfl) rfl ?_
  intro p e s m args below meth c A C
  have k40 : ∀ (x1 : Int32), ∀ (x2 : Int32), ∀ (σ : SS), wX7_join_b40 x1 x2 σ Q → J p l e { frames := 2, cells := 0, slots := 0, locals := 45 } s m args below meth c D (wM cI cJ cZ ad) A 5 (MQ below (va_Qv Q (WW D (tys cI cJ cZ) (wM cI cJ cZ ad)) A) args s 0 0 A) σ 40 [(0, .ref (ad 0)), (1, .int x1), (2, .int x2)] [] := by
    intro x1 x2 σ h
    refine j_aload_n C dX7_join_40 0 rfl ?_
    refine j_iload_n C dX7_join_41 1 rfl ?_
    refine j_iload_n C dX7_join_42 2 rfl ?_
    refine j_callpi 0 [.int x1, .int x2] [] C (kX7_ahead_ok x1 x2 σ h) (tt_V ml_X7_128 mV_X7_ahead) ok_X7_ahead ⟨by decide, by decide⟩ rfl (r_wM_0 (σ := σ)) (Nat.le_of_ble_eq_true rfl) rfl dX7_join_43 (fun r43 h => ?_)
    refine j_istore (lv' := [(4, .int r43), (0, .ref (ad 0)), (1, .int x1), (2, .int x2)]) C dX7_join_46 (by decide) rfl ?_
    refine j_iload C dX7_join_48 0 rfl ?_
    refine j_if_lt 87 C dX7_join_50 rfl h (fun h => ?_) (fun h => ?_)
    · exact j_vret C dX7_join_87 h
    · refine j_aload_n C dX7_join_53 1 rfl ?_
      refine gf_X7_20 C dX7_join_54 ?_
      refine j_iload C dX7_join_57 0 rfl ?_
      refine al_wM_4 C h.1 dX7_join_59 ?_
      replace h := h.2
      refine j_iconst (v := (-1)) C dX7_join_60 (by decide) ?_
      refine j_icmp_ne 87 C dX7_join_61 rfl h (fun h => ?_) (fun h => ?_)
      · exact j_vret C dX7_join_87 h
      · refine j_aload_n C dX7_join_64 1 rfl ?_
        refine gf_X7_17 C dX7_join_65 ?_
        refine j_iload C dX7_join_68 0 rfl ?_
        refine j_dup2 C dX7_join_70 rfl rfl ?_
        refine al_wM_3 C h.1 dX7_join_71 ?_
        replace h := h.2
        refine j_aload_n C dX7_join_72 1 rfl ?_
        refine gf_X7_17 C dX7_join_73 ?_
        refine j_iload_n C dX7_join_76 3 rfl ?_
        refine al_wM_3 C h.1 dX7_join_77 ?_
        replace h := h.2
        refine j_iadd C dX7_join_78 ?_
        refine as_wM_3 C h.1 dX7_join_79 ?_
        replace h := h.2
        refine j_aload_n C dX7_join_80 1 rfl ?_
        refine gf_X7_17 C dX7_join_81 ?_
        refine j_iload_n C dX7_join_84 3 rfl ?_
        refine j_iconst (v := 0) C dX7_join_85 (by decide) ?_
        refine as_wM_3 C h.1 dX7_join_86 ?_
        replace h := h.2
        exact j_vret C dX7_join_87 h
  refine j_iload_n C dX7_join_0 2 rfl ?_
  refine j_aload_n C dX7_join_1 0 rfl ?_
  refine gf_X7_17 C dX7_join_2 ?_
  refine j_iload_n C dX7_join_5 2 rfl ?_
  refine al_wM_3 C h.1 dX7_join_6 ?_
  replace h := h.2
  refine j_iadd C dX7_join_7 ?_
  refine j_istore_n (lv' := [(3, .int (x2 + (gA σ0 1 x2.toNatClampNeg))), (0, .ref (ad 0)), (1, .int x1), (2, .int x2)]) C dX7_join_8 (by decide) rfl ?_
  refine j_aload_n C dX7_join_9 1 rfl ?_
  refine j_iload_n C dX7_join_10 0 rfl ?_
  refine j_iload_n C dX7_join_11 2 rfl ?_
  refine j_callpi 0 [.int (x2 + (gA σ0 1 x2.toNatClampNeg)), .int x1] [] C (kX7_isFreeAt_ok (x2 + (gA σ0 1 x2.toNatClampNeg)) x1 σ0 h) (tt_V ml_X7_121 mV_X7_isFreeAt) ok_X7_isFreeAt ⟨by decide, by decide⟩ rfl (r_wM_0 (σ := σ0)) (Nat.le_of_ble_eq_true rfl) rfl dX7_join_12 (fun r12 h => ?_)
  refine j_if_eq 40 C dX7_join_15 rfl h (fun h => ?_) (fun h => ?_)
  · refine j_sub (lv' := [(0, .ref (ad 0)), (1, .int x1), (2, .int x2)]) [1, 2, 3] rfl ?_
    exact k40 _ _ _ h
  · refine j_aload_n C dX7_join_18 1 rfl ?_
    refine gf_X7_17 C dX7_join_19 ?_
    refine j_iload_n C dX7_join_22 3 rfl ?_
    refine j_dup2 C dX7_join_23 rfl rfl ?_
    refine al_wM_3 C h.1 dX7_join_24 ?_
    replace h := h.2
    refine j_aload_n C dX7_join_25 1 rfl ?_
    refine gf_X7_17 C dX7_join_26 ?_
    refine j_iload_n C dX7_join_29 0 rfl ?_
    refine al_wM_3 C h.1 dX7_join_30 ?_
    replace h := h.2
    refine j_iadd C dX7_join_31 ?_
    refine as_wM_3 C h.1 dX7_join_32 ?_
    replace h := h.2
    refine j_aload_n C dX7_join_33 1 rfl ?_
    refine gf_X7_17 C dX7_join_34 ?_
    refine j_iload_n C dX7_join_37 0 rfl ?_
    refine j_iconst (v := 0) C dX7_join_38 (by decide) ?_
    refine as_wM_3 C h.1 dX7_join_39 ?_
    replace h := h.2
    obtain ⟨σ39, hs39⟩ : ∃ z, z = sA (sA σ0 1 x2.toNatClampNeg ((gA σ0 1 x2.toNatClampNeg) + (gA σ0 1 (x2 + (gA σ0 1 x2.toNatClampNeg)).toNatClampNeg))) 1 (x2 + (gA σ0 1 x2.toNatClampNeg)).toNatClampNeg 0 := ⟨_, rfl⟩
    rw [← hs39]
    replace h := h σ39 hs39
    refine j_sub (lv' := [(0, .ref (ad 0)), (1, .int x1), (2, .int x2)]) [1, 2, 3] rfl ?_
    exact k40 _ _ _ h
def wX7_comePages_b52 (x4 : Int32) (x5 : Int32) (x6 : Int32) (σ : SS) (Q : SS → Prop) : Prop := lfp (fun (X52 : Int32 × SS → Prop) (t : Int32 × SS) => (64 < (t.1 + x5) → Q t.2) ∧ (¬ 64 < (t.1 + x5) → vp_in (x4 + t.1) 2560 ∧ (vp_in (x4 + t.1) 2560 ∧ (X52 ((t.1 + x5), sA (sA t.2 1 (x4 + t.1).toNatClampNeg x5) 2 (x4 + t.1).toNatClampNeg ((-1))))))) (x6, σ)
def wX7_comePages_b3 (x1 : Int32) (x2 : Int32) (x3 : Int32) (x4 : Int32) (σ : SS) (Q : SS → Prop) : Prop := lfp (fun (X3 : Int32 × SS → Prop) (t : Int32 × SS) => ((x2 + x3) ≤ t.1 → vp_in x1 8 ∧ ((¬ (gA t.2 3 x1.toNatClampNeg) = 0 → vp_in (64 * x2) 2560 ∧ (vp_in (64 * x2) 2560 ∧ (vp_in x1 8 ∧ (((gA (sA (sA t.2 1 (64 * x2).toNatClampNeg (64 * x3)) 2 (64 * x2).toNatClampNeg ((-1))) 3 x1.toNatClampNeg) = 1 → Q (sA (sA t.2 1 (64 * x2).toNatClampNeg (64 * x3)) 2 (64 * x2).toNatClampNeg ((-1)))) ∧ (¬ (gA (sA (sA t.2 1 (64 * x2).toNatClampNeg (64 * x3)) 2 (64 * x2).toNatClampNeg ((-1))) 3 x1.toNatClampNeg) = 1 → wX7_join x1 (64 * x2) (sA (sA t.2 1 (64 * x2).toNatClampNeg (64 * x3)) 2 (64 * x2).toNatClampNeg ((-1))) (fun σ129 => Q σ129)))))) ∧ ((gA t.2 3 x1.toNatClampNeg) = 0 → vp_in x1 8 ∧ (wX7_comePages_b52 (64 * x2) ((gB t.2 1 x1.toNatClampNeg).toInt32) 1 t.2 Q)))) ∧ (¬ (x2 + x3) ≤ t.1 → vp_in t.1 40 ∧ (X3 ((t.1 + 1), sA t.2 0 t.1.toNatClampNeg x1)))) (x4, σ)
def wX7_comePages (x1 : Int32) (x2 : Int32) (x3 : Int32) (σ : SS) (Q : SS → Prop) : Prop := wX7_comePages_b3 x1 x2 x3 x2 σ Q
set_option maxRecDepth 100000 in
set_option maxHeartbeats 4000000 in
theorem kX7_comePages_ok {l : Launch} {D : va_G} {cI cJ cZ : ClassId} {ad : Nat → Nat} (x1 : Int32) (x2 : Int32) (x3 : Int32) (σ0 : SS) {Q : SS → Prop} (h : wX7_comePages x1 x2 x3 σ0 Q) : Cv l yX7_comePages (.code yX7_comePages cX7_comePages 7 none :: TT) { frames := 3, cells := 0, slots := 0, locals := 69 } D (tys cI cJ cZ) (wM cI cJ cZ ad) [.ref (ad 0), .int x1, .int x2, .int x3] σ0 Q := by
  refine Cv.of (lv := [(0, .ref (ad 0)), (1, .int x1), (2, .int x2), (3, .int x3)]) (by decide) adM (Nat.le_of_ble_eq_true rfl) rfl ?_
  intro p e s m args below meth c A C
  have k52 : ∀ (x4 : Int32), ∀ (x5 : Int32), ∀ (x6 : Int32), ∀ (σ : SS), wX7_comePages_b52 x4 x5 x6 σ Q → J p l e { frames := 3, cells := 0, slots := 0, locals := 69 } s m args below meth c D (wM cI cJ cZ ad) A 7 (MQ below (va_Qv Q (WW D (tys cI cJ cZ) (wM cI cJ cZ ad)) A) args s 0 0 A) σ 52 [(0, .ref (ad 0)), (4, .int x4), (5, .int x5), (6, .int x6)] [] := by
    intro x4 x5 x6 σ h
    refine h (fun t => J p l e { frames := 3, cells := 0, slots := 0, locals := 69 } s m args below meth c D (wM cI cJ cZ ad) A 7 (MQ below (va_Qv Q (WW D (tys cI cJ cZ) (wM cI cJ cZ ad)) A) args s 0 0 A) t.2 52 [(0, .ref (ad 0)), (4, .int x4), (5, .int x5), (6, .int t.1)] []) (fun t h => ?_)
    obtain ⟨x6, σ⟩ := t
    try dsimp only at h
    refine j_iload C dX7_comePages_52 3 rfl ?_
    refine j_iload C dX7_comePages_54 2 rfl ?_
    refine j_iadd C dX7_comePages_56 ?_
    refine j_bipush (v := 64) C dX7_comePages_57 (by decide) ?_
    refine j_icmp_gt 95 C dX7_comePages_59 rfl h (fun h => ?_) (fun h => ?_)
    · exact j_vret C dX7_comePages_95 h
    · refine j_aload_n C dX7_comePages_62 0 rfl ?_
      refine gf_X7_17 C dX7_comePages_63 ?_
      refine j_iload C dX7_comePages_66 1 rfl ?_
      refine j_iload C dX7_comePages_68 3 rfl ?_
      refine j_iadd C dX7_comePages_70 ?_
      refine j_iload C dX7_comePages_71 2 rfl ?_
      refine as_wM_3 C h.1 dX7_comePages_73 ?_
      replace h := h.2
      refine j_aload_n C dX7_comePages_74 0 rfl ?_
      refine gf_X7_20 C dX7_comePages_75 ?_
      refine j_iload C dX7_comePages_78 1 rfl ?_
      refine j_iload C dX7_comePages_80 3 rfl ?_
      refine j_iadd C dX7_comePages_82 ?_
      refine j_iconst (v := (-1)) C dX7_comePages_83 (by decide) ?_
      refine as_wM_4 C h.1 dX7_comePages_84 ?_
      replace h := h.2
      refine j_iload C dX7_comePages_85 3 rfl ?_
      refine j_iload C dX7_comePages_87 2 rfl ?_
      refine j_iadd C dX7_comePages_89 ?_
      refine j_istore (lv' := [(6, .int (x6 + x5)), (0, .ref (ad 0)), (4, .int x4), (5, .int x5)]) C dX7_comePages_90 (by decide) rfl ?_
      refine j_goto 52 C dX7_comePages_92 rfl ?_
      refine j_sub (lv' := [(0, .ref (ad 0)), (4, .int x4), (5, .int x5), (6, .int (x6 + x5))]) [1, 2, 3, 0] rfl ?_
      exact h
  have k3 : ∀ (x1 : Int32), ∀ (x2 : Int32), ∀ (x3 : Int32), ∀ (x4 : Int32), ∀ (σ : SS), wX7_comePages_b3 x1 x2 x3 x4 σ Q → J p l e { frames := 3, cells := 0, slots := 0, locals := 69 } s m args below meth c D (wM cI cJ cZ ad) A 7 (MQ below (va_Qv Q (WW D (tys cI cJ cZ) (wM cI cJ cZ ad)) A) args s 0 0 A) σ 3 [(0, .ref (ad 0)), (1, .int x1), (2, .int x2), (3, .int x3), (4, .int x4)] [] := by
    intro x1 x2 x3 x4 σ h
    refine h (fun t => J p l e { frames := 3, cells := 0, slots := 0, locals := 69 } s m args below meth c D (wM cI cJ cZ ad) A 7 (MQ below (va_Qv Q (WW D (tys cI cJ cZ) (wM cI cJ cZ ad)) A) args s 0 0 A) t.2 3 [(0, .ref (ad 0)), (1, .int x1), (2, .int x2), (3, .int x3), (4, .int t.1)] []) (fun t h => ?_)
    obtain ⟨x4, σ⟩ := t
    try dsimp only at h
    refine j_iload C dX7_comePages_3 4 rfl ?_
    refine j_iload_n C dX7_comePages_5 2 rfl ?_
    refine j_iload_n C dX7_comePages_6 3 rfl ?_
    refine j_iadd C dX7_comePages_7 ?_
    refine j_icmp_ge 25 C dX7_comePages_8 rfl h (fun h => ?_) (fun h => ?_)
    · refine j_bipush (v := 64) C dX7_comePages_25 (by decide) ?_
      refine j_iload_n C dX7_comePages_27 2 rfl ?_
      refine j_imul C dX7_comePages_28 ?_
      refine j_istore (lv' := [(4, .int (64 * x2)), (0, .ref (ad 0)), (1, .int x1), (2, .int x2), (3, .int x3)]) C dX7_comePages_29 (by decide) rfl ?_
      refine j_aload_n C dX7_comePages_31 1 rfl ?_
      refine gf_X7_23 C dX7_comePages_32 ?_
      refine j_iload_n C dX7_comePages_35 2 rfl ?_
      refine al_wM_5 C h.1 dX7_comePages_36 ?_
      replace h := h.2
      refine j_if_ne 96 C dX7_comePages_37 rfl h (fun h => ?_) (fun h => ?_)
      · refine j_aload_n C dX7_comePages_96 1 rfl ?_
        refine gf_X7_17 C dX7_comePages_97 ?_
        refine j_iload C dX7_comePages_100 0 rfl ?_
        refine j_bipush (v := 64) C dX7_comePages_102 (by decide) ?_
        refine j_iload_n C dX7_comePages_104 4 rfl ?_
        refine j_imul C dX7_comePages_105 ?_
        refine as_wM_3 C h.1 dX7_comePages_106 ?_
        replace h := h.2
        refine j_aload_n C dX7_comePages_107 1 rfl ?_
        refine gf_X7_20 C dX7_comePages_108 ?_
        refine j_iload C dX7_comePages_111 0 rfl ?_
        refine j_iconst (v := (-1)) C dX7_comePages_113 (by decide) ?_
        refine as_wM_4 C h.1 dX7_comePages_114 ?_
        replace h := h.2
        refine j_aload_n C dX7_comePages_115 1 rfl ?_
        refine gf_X7_23 C dX7_comePages_116 ?_
        refine j_iload_n C dX7_comePages_119 2 rfl ?_
        refine al_wM_5 C h.1 dX7_comePages_120 ?_
        replace h := h.2
        refine j_iconst (v := 1) C dX7_comePages_121 (by decide) ?_
        refine j_icmp_eq 132 C dX7_comePages_122 rfl h (fun h => ?_) (fun h => ?_)
        · exact j_vret C dX7_comePages_132 h
        · refine j_aload_n C dX7_comePages_125 1 rfl ?_
          refine j_iload_n C dX7_comePages_126 2 rfl ?_
          refine j_iload C dX7_comePages_127 0 rfl ?_
          refine j_callv 0 [.int x1, .int (64 * x2)] [] C (kX7_join_ok x1 (64 * x2) (sA (sA σ 1 (64 * x2).toNatClampNeg (64 * x3)) 2 (64 * x2).toNatClampNeg ((-1))) h) (tt_V ml_X7_124 mV_X7_join) ok_X7_join ⟨by decide, by decide⟩ rfl (r_wM_0 (σ := sA (sA σ 1 (64 * x2).toNatClampNeg (64 * x3)) 2 (64 * x2).toNatClampNeg ((-1)))) (Nat.le_of_ble_eq_true rfl) rfl dX7_comePages_129 (fun σ129 h => ?_)
          exact j_vret C dX7_comePages_132 h
      · refine j_aload_n C dX7_comePages_40 1 rfl ?_
        refine gf_X7_26 C dX7_comePages_41 ?_
        refine j_iload_n C dX7_comePages_44 2 rfl ?_
        refine al_wM_6 C h.1 dX7_comePages_45 ?_
        replace h := h.2
        refine j_l2i C dX7_comePages_46 ?_
        refine j_istore (lv' := [(5, .int ((gB σ 1 x1.toNatClampNeg).toInt32)), (4, .int (64 * x2)), (0, .ref (ad 0)), (1, .int x1), (2, .int x2), (3, .int x3)]) C dX7_comePages_47 (by decide) rfl ?_
        refine j_iconst (v := 1) C dX7_comePages_49 (by decide) ?_
        refine j_istore (lv' := [(6, .int 1), (5, .int ((gB σ 1 x1.toNatClampNeg).toInt32)), (4, .int (64 * x2)), (0, .ref (ad 0)), (1, .int x1), (2, .int x2), (3, .int x3)]) C dX7_comePages_50 (by decide) rfl ?_
        refine j_sub (lv' := [(0, .ref (ad 0)), (4, .int (64 * x2)), (5, .int ((gB σ 1 x1.toNatClampNeg).toInt32)), (6, .int 1)]) [3, 2, 1, 0] rfl ?_
        exact k52 _ _ _ _ h
    · refine j_aload_n C dX7_comePages_11 0 rfl ?_
      refine gf_X7_9 C dX7_comePages_12 ?_
      refine j_iload C dX7_comePages_15 4 rfl ?_
      refine j_iload_n C dX7_comePages_17 1 rfl ?_
      refine as_wM_1 C h.1 dX7_comePages_18 ?_
      replace h := h.2
      refine j_iinc (lv' := [(4, .int (x4 + 1)), (0, .ref (ad 0)), (1, .int x1), (2, .int x2), (3, .int x3)]) (x4 + 1) C dX7_comePages_19 4 rfl rfl (by decide) rfl ?_
      refine j_goto 3 C dX7_comePages_22 rfl ?_
      refine j_sub (lv' := [(0, .ref (ad 0)), (1, .int x1), (2, .int x2), (3, .int x3), (4, .int (x4 + 1))]) [1, 2, 3, 4, 0] rfl ?_
      exact h
  refine j_iload_n C dX7_comePages_0 2 rfl ?_
  refine j_istore (lv' := [(4, .int x2), (0, .ref (ad 0)), (1, .int x1), (2, .int x2), (3, .int x3)]) C dX7_comePages_1 (by decide) rfl ?_
  refine j_sub (lv' := [(0, .ref (ad 0)), (1, .int x1), (2, .int x2), (3, .int x3), (4, .int x2)]) [1, 2, 3, 4, 0] rfl ?_
  exact k3 _ _ _ _ _ h
def wX7_cut (x1 : Int32) (x2 : Int32) (σ : SS) (Q : SS → Prop) : Prop := vp_in x1 2560 ∧ (vp_in x1 2560 ∧ ((((gA σ 1 x1.toNatClampNeg) - x2) ≤ 0 → Q (sA σ 1 x1.toNatClampNeg x2)) ∧ (¬ ((gA σ 1 x1.toNatClampNeg) - x2) ≤ 0 → vp_in (x1 + x2) 2560 ∧ (vp_in (x1 + x2) 2560 ∧ (Q (sA (sA (sA σ 1 x1.toNatClampNeg x2) 1 (x1 + x2).toNatClampNeg ((gA σ 1 x1.toNatClampNeg) - x2)) 2 (x1 + x2).toNatClampNeg ((-1))))))))
set_option maxRecDepth 100000 in
set_option maxHeartbeats 4000000 in
theorem kX7_cut_ok {l : Launch} {D : va_G} {cI cJ cZ : ClassId} {ad : Nat → Nat} (x1 : Int32) (x2 : Int32) (σ0 : SS) {Q : SS → Prop} (h : wX7_cut x1 x2 σ0 Q) : Cv l yX7_cut (.code yX7_cut cX7_cut 4 none :: TT) { frames := 0, cells := 0, slots := 0, locals := 0 } D (tys cI cJ cZ) (wM cI cJ cZ ad) [.ref (ad 0), .int x1, .int x2] σ0 Q := by
  refine Cv.of (lv := [(0, .ref (ad 0)), (1, .int x1), (2, .int x2)]) (by decide) adM (Nat.le_of_ble_eq_true rfl) rfl ?_
  intro p e s m args below meth c A C
  refine j_aload_n C dX7_cut_0 0 rfl ?_
  refine gf_X7_17 C dX7_cut_1 ?_
  refine j_iload_n C dX7_cut_4 1 rfl ?_
  refine al_wM_3 C h.1 dX7_cut_5 ?_
  replace h := h.2
  refine j_iload_n C dX7_cut_6 2 rfl ?_
  refine j_isub C dX7_cut_7 ?_
  refine j_istore_n (lv' := [(3, .int ((gA σ0 1 x1.toNatClampNeg) - x2)), (0, .ref (ad 0)), (1, .int x1), (2, .int x2)]) C dX7_cut_8 (by decide) rfl ?_
  refine j_aload_n C dX7_cut_9 1 rfl ?_
  refine gf_X7_17 C dX7_cut_10 ?_
  refine j_iload_n C dX7_cut_13 2 rfl ?_
  refine j_iload_n C dX7_cut_14 3 rfl ?_
  refine as_wM_3 C h.1 dX7_cut_15 ?_
  replace h := h.2
  refine j_iload_n C dX7_cut_16 0 rfl ?_
  refine j_if_le 38 C dX7_cut_17 rfl h (fun h => ?_) (fun h => ?_)
  · exact j_vret C dX7_cut_38 h
  · refine j_aload_n C dX7_cut_20 1 rfl ?_
    refine gf_X7_17 C dX7_cut_21 ?_
    refine j_iload_n C dX7_cut_24 2 rfl ?_
    refine j_iload_n C dX7_cut_25 3 rfl ?_
    refine j_iadd C dX7_cut_26 ?_
    refine j_iload_n C dX7_cut_27 0 rfl ?_
    refine as_wM_3 C h.1 dX7_cut_28 ?_
    replace h := h.2
    refine j_aload_n C dX7_cut_29 1 rfl ?_
    refine gf_X7_20 C dX7_cut_30 ?_
    refine j_iload_n C dX7_cut_33 2 rfl ?_
    refine j_iload_n C dX7_cut_34 3 rfl ?_
    refine j_iadd C dX7_cut_35 ?_
    refine j_iconst (v := (-1)) C dX7_cut_36 (by decide) ?_
    refine as_wM_4 C h.1 dX7_cut_37 ?_
    replace h := h.2
    exact j_vret C dX7_cut_38 h
def wX7_taken_b84 (x2 : Int32) (x3 : Int32) (σ : SS) (Q : Int32 → SS → Prop) : Prop := lfp (fun (X84 : SS → Prop) (t : SS) => vp_in x3 2560 ∧ (wX7_power x2 t (fun r93 => (((gA t 1 x3.toNatClampNeg) / 2) < r93 → Q x3 t) ∧ (¬ ((gA t 1 x3.toNatClampNeg) / 2) < r93 → vp_in x3 2560 ∧ (vp_in x3 2560 ∧ (vp_in x3 2560 ∧ (vp_in x3 2560 ∧ (vp_in (x3 + (gA (sA t 1 x3.toNatClampNeg ((gA t 1 x3.toNatClampNeg) / 2)) 1 x3.toNatClampNeg)) 2560 ∧ (∀ σ127 : SS, σ127 = sA (sA t 1 x3.toNatClampNeg ((gA t 1 x3.toNatClampNeg) / 2)) 1 (x3 + (gA (sA t 1 x3.toNatClampNeg ((gA t 1 x3.toNatClampNeg) / 2)) 1 x3.toNatClampNeg)).toNatClampNeg (gA (sA t 1 x3.toNatClampNeg ((gA t 1 x3.toNatClampNeg) / 2)) 1 x3.toNatClampNeg) → (vp_in x3 2560 ∧ (vp_in (x3 + (gA σ127 1 x3.toNatClampNeg)) 2560 ∧ (X84 (sA σ127 2 (x3 + (gA σ127 1 x3.toNatClampNeg)).toNatClampNeg ((-1))))))))))))))) σ
def wX7_taken_b74 (x1 : Int32) (x2 : Int32) (x3 : Int32) (σ : SS) (Q : Int32 → SS → Prop) : Prop := vp_in x1 8 ∧ ((¬ (gA σ 3 x1.toNatClampNeg) = 1 → vp_in x1 8 ∧ (((gA σ 3 x1.toNatClampNeg) = 0 → Q x3 σ) ∧ (¬ (gA σ 3 x1.toNatClampNeg) = 0 → wX7_need x1 x2 σ (fun r159 => wX7_cut x3 (r159 + 1) σ (fun σ164 => Q x3 σ164))))) ∧ ((gA σ 3 x1.toNatClampNeg) = 1 → wX7_taken_b84 x2 x3 σ Q))
def wX7_taken_b41 (x1 : Int32) (x2 : Int32) (t0 : Int32) (σ : SS) (Q : Int32 → SS → Prop) : Prop := wX7_freePages t0 σ (fun r46 => (0 ≤ r46 → wX7_comePages x1 r46 t0 σ (fun σ64 => wX7_named x1 x2 σ64 (fun r70 => wX7_taken_b74 x1 x2 r70 σ64 Q))) ∧ (¬ 0 ≤ r46 → Q ((-1)) σ))
def wX7_taken (x1 : Int32) (x2 : Int32) (σ : SS) (Q : Int32 → SS → Prop) : Prop := wX7_named x1 x2 σ (fun r3 => (0 ≤ r3 → wX7_taken_b74 x1 x2 r3 σ Q) ∧ (¬ 0 ≤ r3 → vp_in x1 8 ∧ ((1 < (gA σ 3 x1.toNatClampNeg) → wX7_need x1 x2 σ (fun r28 => wX7_taken_b41 x1 x2 ((((r28 + 1) + 64) - 1) / 64) σ Q)) ∧ (¬ 1 < (gA σ 3 x1.toNatClampNeg) → wX7_taken_b41 x1 x2 1 σ Q))))
set_option maxRecDepth 100000 in
set_option maxHeartbeats 4000000 in
theorem kX7_taken_ok {l : Launch} {D : va_G} {cI cJ cZ : ClassId} {ad : Nat → Nat} (x1 : Int32) (x2 : Int32) (σ0 : SS) {Q : Int32 → SS → Prop} (h : wX7_taken x1 x2 σ0 Q) : Ci l yX7_taken (.code yX7_taken cX7_taken 6 (some .int) :: TT) { frames := 4, cells := 0, slots := 0, locals := 95 } D (tys cI cJ cZ) (wM cI cJ cZ ad) [.ref (ad 0), .int x1, .int x2] σ0 Q := by
  refine Ci.of (lv := [(0, .ref (ad 0)), (1, .int x1), (2, .int x2)]) (by decide) adM (Nat.le_of_ble_eq_true rfl) rfl ?_
  intro p e s m args below meth c A C
  have k84 : ∀ (x2 : Int32), ∀ (x3 : Int32), ∀ (σ : SS), wX7_taken_b84 x2 x3 σ Q → J p l e { frames := 4, cells := 0, slots := 0, locals := 95 } s m args below meth c D (wM cI cJ cZ ad) A 6 (MQ below (va_Qi Q (WW D (tys cI cJ cZ) (wM cI cJ cZ ad)) A) args s 0 0 A) σ 84 [(0, .ref (ad 0)), (2, .int x2), (3, .int x3)] [] := by
    intro x2 x3 σ h
    refine h (fun t => J p l e { frames := 4, cells := 0, slots := 0, locals := 95 } s m args below meth c D (wM cI cJ cZ ad) A 6 (MQ below (va_Qi Q (WW D (tys cI cJ cZ) (wM cI cJ cZ ad)) A) args s 0 0 A) t 84 [(0, .ref (ad 0)), (2, .int x2), (3, .int x3)] []) (fun t h => ?_)
    obtain ⟨σ, rfl⟩ : ∃ z, z = t := ⟨_, rfl⟩
    try dsimp only at h
    refine j_aload_n C dX7_taken_84 0 rfl ?_
    refine gf_X7_17 C dX7_taken_85 ?_
    refine j_iload_n C dX7_taken_88 2 rfl ?_
    refine al_wM_3 C h.1 dX7_taken_89 ?_
    replace h := h.2
    refine j_iconst (v := 2) C dX7_taken_90 (by decide) ?_
    refine j_idiv C dX7_taken_91 (by decide) ?_
    refine j_iload_n C dX7_taken_92 1 rfl ?_
    refine j_callSpi [.int x2] [.int ((gA σ 1 x3.toNatClampNeg) / 2)] C (kX7_power_ok x2 σ h) (tt_S ml_X7_114 mS_X7_power) ok_X7_power ⟨by decide, by decide⟩ (Nat.le_of_ble_eq_true rfl) rfl dX7_taken_93 (fun r93 h => ?_)
    refine j_icmp_lt 167 C dX7_taken_96 rfl h (fun h => ?_) (fun h => ?_)
    · refine j_iload_n C dX7_taken_167 2 rfl ?_
      exact j_iret C dX7_taken_168 h
    · refine j_aload_n C dX7_taken_99 0 rfl ?_
      refine gf_X7_17 C dX7_taken_100 ?_
      refine j_iload_n C dX7_taken_103 2 rfl ?_
      refine j_dup2 C dX7_taken_104 rfl rfl ?_
      refine al_wM_3 C h.1 dX7_taken_105 ?_
      replace h := h.2
      refine j_iconst (v := 2) C dX7_taken_106 (by decide) ?_
      refine j_idiv C dX7_taken_107 (by decide) ?_
      refine as_wM_3 C h.1 dX7_taken_108 ?_
      replace h := h.2
      refine j_aload_n C dX7_taken_109 0 rfl ?_
      refine gf_X7_17 C dX7_taken_110 ?_
      refine j_iload_n C dX7_taken_113 2 rfl ?_
      refine j_aload_n C dX7_taken_114 0 rfl ?_
      refine gf_X7_17 C dX7_taken_115 ?_
      refine j_iload_n C dX7_taken_118 2 rfl ?_
      refine al_wM_3 C h.1 dX7_taken_119 ?_
      replace h := h.2
      refine j_iadd C dX7_taken_120 ?_
      refine j_aload_n C dX7_taken_121 0 rfl ?_
      refine gf_X7_17 C dX7_taken_122 ?_
      refine j_iload_n C dX7_taken_125 2 rfl ?_
      refine al_wM_3 C h.1 dX7_taken_126 ?_
      replace h := h.2
      refine as_wM_3 C h.1 dX7_taken_127 ?_
      replace h := h.2
      obtain ⟨σ127, hs127⟩ : ∃ z, z = sA (sA σ 1 x3.toNatClampNeg ((gA σ 1 x3.toNatClampNeg) / 2)) 1 (x3 + (gA (sA σ 1 x3.toNatClampNeg ((gA σ 1 x3.toNatClampNeg) / 2)) 1 x3.toNatClampNeg)).toNatClampNeg (gA (sA σ 1 x3.toNatClampNeg ((gA σ 1 x3.toNatClampNeg) / 2)) 1 x3.toNatClampNeg) := ⟨_, rfl⟩
      rw [← hs127]
      replace h := h σ127 hs127
      refine j_aload_n C dX7_taken_128 0 rfl ?_
      refine gf_X7_20 C dX7_taken_129 ?_
      refine j_iload_n C dX7_taken_132 2 rfl ?_
      refine j_aload_n C dX7_taken_133 0 rfl ?_
      refine gf_X7_17 C dX7_taken_134 ?_
      refine j_iload_n C dX7_taken_137 2 rfl ?_
      refine al_wM_3 C h.1 dX7_taken_138 ?_
      replace h := h.2
      refine j_iadd C dX7_taken_139 ?_
      refine j_iconst (v := (-1)) C dX7_taken_140 (by decide) ?_
      refine as_wM_4 C h.1 dX7_taken_141 ?_
      replace h := h.2
      refine j_goto 84 C dX7_taken_142 rfl ?_
      refine j_sub (lv' := [(0, .ref (ad 0)), (2, .int x2), (3, .int x3)]) [0, 1, 2] rfl ?_
      exact h
  have k74 : ∀ (x1 : Int32), ∀ (x2 : Int32), ∀ (x3 : Int32), ∀ (σ : SS), wX7_taken_b74 x1 x2 x3 σ Q → J p l e { frames := 4, cells := 0, slots := 0, locals := 95 } s m args below meth c D (wM cI cJ cZ ad) A 6 (MQ below (va_Qi Q (WW D (tys cI cJ cZ) (wM cI cJ cZ ad)) A) args s 0 0 A) σ 74 [(0, .ref (ad 0)), (1, .int x1), (2, .int x2), (3, .int x3)] [] := by
    intro x1 x2 x3 σ h
    refine j_aload_n C dX7_taken_74 0 rfl ?_
    refine gf_X7_23 C dX7_taken_75 ?_
    refine j_iload_n C dX7_taken_78 1 rfl ?_
    refine al_wM_5 C h.1 dX7_taken_79 ?_
    replace h := h.2
    refine j_iconst (v := 1) C dX7_taken_80 (by decide) ?_
    refine j_icmp_ne 145 C dX7_taken_81 rfl h (fun h => ?_) (fun h => ?_)
    · refine j_aload_n C dX7_taken_145 0 rfl ?_
      refine gf_X7_23 C dX7_taken_146 ?_
      refine j_iload_n C dX7_taken_149 1 rfl ?_
      refine al_wM_5 C h.1 dX7_taken_150 ?_
      replace h := h.2
      refine j_if_eq 167 C dX7_taken_151 rfl h (fun h => ?_) (fun h => ?_)
      · refine j_iload_n C dX7_taken_167 3 rfl ?_
        exact j_iret C dX7_taken_168 h
      · refine j_aload_n C dX7_taken_154 0 rfl ?_
        refine j_iload_n C dX7_taken_155 3 rfl ?_
        refine j_aload_n C dX7_taken_156 0 rfl ?_
        refine j_iload_n C dX7_taken_157 1 rfl ?_
        refine j_iload_n C dX7_taken_158 2 rfl ?_
        refine j_callpi 0 [.int x1, .int x2] [.int x3, .ref (ad 0)] C (kX7_need_ok x1 x2 σ h) (tt_V ml_X7_117 mV_X7_need) ok_X7_need ⟨by decide, by decide⟩ rfl (r_wM_0 (σ := σ)) (Nat.le_of_ble_eq_true rfl) rfl dX7_taken_159 (fun r159 h => ?_)
        refine j_iconst (v := 1) C dX7_taken_162 (by decide) ?_
        refine j_iadd C dX7_taken_163 ?_
        refine j_callv 0 [.int x3, .int (r159 + 1)] [] C (kX7_cut_ok x3 (r159 + 1) σ h) (tt_V ml_X7_141 mV_X7_cut) ok_X7_cut ⟨by decide, by decide⟩ rfl (r_wM_0 (σ := σ)) (Nat.le_of_ble_eq_true rfl) rfl dX7_taken_164 (fun σ164 h => ?_)
        refine j_iload_n C dX7_taken_167 3 rfl ?_
        exact j_iret C dX7_taken_168 h
    · refine j_sub (lv' := [(0, .ref (ad 0)), (2, .int x2), (3, .int x3)]) [0, 2, 3] rfl ?_
      exact k84 _ _ _ h
  have k41 : ∀ (x1 : Int32), ∀ (x2 : Int32), ∀ (t0 : Int32), ∀ (σ : SS), wX7_taken_b41 x1 x2 t0 σ Q → J p l e { frames := 4, cells := 0, slots := 0, locals := 95 } s m args below meth c D (wM cI cJ cZ ad) A 6 (MQ below (va_Qi Q (WW D (tys cI cJ cZ) (wM cI cJ cZ ad)) A) args s 0 0 A) σ 41 [(0, .ref (ad 0)), (1, .int x1), (2, .int x2)] [.int t0] := by
    intro x1 x2 t0 σ h
    refine j_istore (lv' := [(4, .int t0), (0, .ref (ad 0)), (1, .int x1), (2, .int x2)]) C dX7_taken_41 (by decide) rfl ?_
    refine j_aload_n C dX7_taken_43 1 rfl ?_
    refine j_iload C dX7_taken_44 0 rfl ?_
    refine j_callpi 0 [.int t0] [] C (kX7_freePages_ok t0 σ h) (tt_V ml_X7_134 mV_X7_freePages) ok_X7_freePages ⟨by decide, by decide⟩ rfl (r_wM_0 (σ := σ)) (Nat.le_of_ble_eq_true rfl) rfl dX7_taken_46 (fun r46 h => ?_)
    refine j_istore (lv' := [(5, .int r46), (4, .int t0), (0, .ref (ad 0)), (1, .int x1), (2, .int x2)]) C dX7_taken_49 (by decide) rfl ?_
    refine j_iload C dX7_taken_51 0 rfl ?_
    refine j_if_ge 58 C dX7_taken_53 rfl h (fun h => ?_) (fun h => ?_)
    · refine j_aload_n C dX7_taken_58 2 rfl ?_
      refine j_iload_n C dX7_taken_59 3 rfl ?_
      refine j_iload C dX7_taken_60 0 rfl ?_
      refine j_iload C dX7_taken_62 1 rfl ?_
      refine j_callv 0 [.int x1, .int r46, .int t0] [] C (kX7_comePages_ok x1 r46 t0 σ h) (tt_V ml_X7_137 mV_X7_comePages) ok_X7_comePages ⟨by decide, by decide⟩ rfl (r_wM_0 (σ := σ)) (Nat.le_of_ble_eq_true rfl) rfl dX7_taken_64 (fun σ64 h => ?_)
      refine j_aload_n C dX7_taken_67 2 rfl ?_
      refine j_iload_n C dX7_taken_68 3 rfl ?_
      refine j_iload_n C dX7_taken_69 4 rfl ?_
      refine j_callpi 0 [.int x1, .int x2] [] C (kX7_named_ok x1 x2 σ64 h) (tt_V ml_X7_131 mV_X7_named) ok_X7_named ⟨by decide, by decide⟩ rfl (r_wM_0 (σ := σ64)) (Nat.le_of_ble_eq_true rfl) rfl dX7_taken_70 (fun r70 h => ?_)
      refine j_istore_n (lv' := [(3, .int r70), (5, .int r46), (4, .int t0), (0, .ref (ad 0)), (1, .int x1), (2, .int x2)]) C dX7_taken_73 (by decide) rfl ?_
      refine j_sub (lv' := [(0, .ref (ad 0)), (1, .int x1), (2, .int x2), (3, .int r70)]) [3, 4, 5, 0] rfl ?_
      exact k74 _ _ _ _ h
    · refine j_iconst (v := (-1)) C dX7_taken_56 (by decide) ?_
      exact j_iret C dX7_taken_57 h
  refine j_aload_n C dX7_taken_0 0 rfl ?_
  refine j_iload_n C dX7_taken_1 1 rfl ?_
  refine j_iload_n C dX7_taken_2 2 rfl ?_
  refine j_callpi 0 [.int x1, .int x2] [] C (kX7_named_ok x1 x2 σ0 h) (tt_V ml_X7_131 mV_X7_named) ok_X7_named ⟨by decide, by decide⟩ rfl (r_wM_0 (σ := σ0)) (Nat.le_of_ble_eq_true rfl) rfl dX7_taken_3 (fun r3 h => ?_)
  refine j_istore_n (lv' := [(3, .int r3), (0, .ref (ad 0)), (1, .int x1), (2, .int x2)]) C dX7_taken_6 (by decide) rfl ?_
  refine j_iload_n C dX7_taken_7 0 rfl ?_
  refine j_if_ge 74 C dX7_taken_8 rfl h (fun h => ?_) (fun h => ?_)
  · refine j_sub (lv' := [(0, .ref (ad 0)), (1, .int x1), (2, .int x2), (3, .int r3)]) [1, 2, 3, 0] rfl ?_
    exact k74 _ _ _ _ h
  · refine j_aload_n C dX7_taken_11 1 rfl ?_
    refine gf_X7_23 C dX7_taken_12 ?_
    refine j_iload_n C dX7_taken_15 2 rfl ?_
    refine al_wM_5 C h.1 dX7_taken_16 ?_
    replace h := h.2
    refine j_iconst (v := 1) C dX7_taken_17 (by decide) ?_
    refine j_icmp_gt 25 C dX7_taken_18 rfl h (fun h => ?_) (fun h => ?_)
    · refine j_aload_n C dX7_taken_25 1 rfl ?_
      refine j_iload_n C dX7_taken_26 2 rfl ?_
      refine j_iload_n C dX7_taken_27 3 rfl ?_
      refine j_callpi 0 [.int x1, .int x2] [] C (kX7_need_ok x1 x2 σ0 h) (tt_V ml_X7_117 mV_X7_need) ok_X7_need ⟨by decide, by decide⟩ rfl (r_wM_0 (σ := σ0)) (Nat.le_of_ble_eq_true rfl) rfl dX7_taken_28 (fun r28 h => ?_)
      refine j_iconst (v := 1) C dX7_taken_31 (by decide) ?_
      refine j_iadd C dX7_taken_32 ?_
      refine j_bipush (v := 64) C dX7_taken_33 (by decide) ?_
      refine j_iadd C dX7_taken_35 ?_
      refine j_iconst (v := 1) C dX7_taken_36 (by decide) ?_
      refine j_isub C dX7_taken_37 ?_
      refine j_bipush (v := 64) C dX7_taken_38 (by decide) ?_
      refine j_idiv C dX7_taken_40 (by decide) ?_
      refine j_sub (lv' := [(0, .ref (ad 0)), (1, .int x1), (2, .int x2)]) [1, 2, 3] rfl ?_
      exact k41 _ _ _ _ h
    · refine j_iconst (v := 1) C dX7_taken_21 (by decide) ?_
      refine j_goto 41 C dX7_taken_22 rfl ?_
      refine j_sub (lv' := [(0, .ref (ad 0)), (1, .int x1), (2, .int x2)]) [1, 2, 3] rfl ?_
      exact k41 _ _ _ _ h
def wX7_firstOf (x1 : Int32) (x2 : Int32) (σ : SS) (Q : Int32 → Prop) : Prop := vp_in x1 8 ∧ ((1 < (gA σ 3 x1.toNatClampNeg) → vp_in x1 8 ∧ ((¬ (gA σ 3 x1.toNatClampNeg) = 5 → Q (x2 + 1)) ∧ ((gA σ 3 x1.toNatClampNeg) = 5 → Q (x2 + 2)))) ∧ (¬ 1 < (gA σ 3 x1.toNatClampNeg) → Q x2))
set_option maxRecDepth 100000 in
set_option maxHeartbeats 4000000 in
theorem kX7_firstOf_ok {l : Launch} {D : va_G} {cI cJ cZ : ClassId} {ad : Nat → Nat} (x1 : Int32) (x2 : Int32) (σ0 : SS) {Q : Int32 → Prop} (h : wX7_firstOf x1 x2 σ0 Q) : Ci l yX7_firstOf (.code yX7_firstOf cX7_firstOf 3 (some .int) :: TT) { frames := 0, cells := 0, slots := 0, locals := 0 } D (tys cI cJ cZ) (wM cI cJ cZ ad) [.ref (ad 0), .int x1, .int x2] σ0 (fun r σ' => σ' = σ0 ∧ Q r) := by
  refine Ci.of (lv := [(0, .ref (ad 0)), (1, .int x1), (2, .int x2)]) (by decide) adM (Nat.le_of_ble_eq_true rfl) rfl ?_
  intro p e s m args below meth c A C
  refine j_aload_n C dX7_firstOf_0 0 rfl ?_
  refine gf_X7_23 C dX7_firstOf_1 ?_
  refine j_iload_n C dX7_firstOf_4 1 rfl ?_
  refine al_wM_5 C h.1 dX7_firstOf_5 ?_
  replace h := h.2
  refine j_iconst (v := 1) C dX7_firstOf_6 (by decide) ?_
  refine j_icmp_gt 14 C dX7_firstOf_7 rfl h (fun h => ?_) (fun h => ?_)
  · refine j_aload_n C dX7_firstOf_14 0 rfl ?_
    refine gf_X7_23 C dX7_firstOf_15 ?_
    refine j_iload_n C dX7_firstOf_18 1 rfl ?_
    refine al_wM_5 C h.1 dX7_firstOf_19 ?_
    replace h := h.2
    refine j_iconst (v := 5) C dX7_firstOf_20 (by decide) ?_
    refine j_icmp_ne 30 C dX7_firstOf_21 rfl h (fun h => ?_) (fun h => ?_)
    · refine j_iload_n C dX7_firstOf_30 2 rfl ?_
      refine j_iconst (v := 1) C dX7_firstOf_31 (by decide) ?_
      refine j_iadd C dX7_firstOf_32 ?_
      exact j_iret C dX7_firstOf_33 ⟨rfl, h⟩
    · refine j_iload_n C dX7_firstOf_24 2 rfl ?_
      refine j_iconst (v := 2) C dX7_firstOf_25 (by decide) ?_
      refine j_iadd C dX7_firstOf_26 ?_
      refine j_goto 33 C dX7_firstOf_27 rfl ?_
      exact j_iret C dX7_firstOf_33 ⟨rfl, h⟩
  · refine j_iload_n C dX7_firstOf_10 2 rfl ?_
    refine j_goto 33 C dX7_firstOf_11 rfl ?_
    exact j_iret C dX7_firstOf_33 ⟨rfl, h⟩
def wX7_guard (x1 : Int32) (σ : SS) (Q : SS → Prop) : Prop := vp_in x1 100 ∧ (vp_in (gA σ 7 x1.toNatClampNeg) 8 ∧ ((¬ (gA σ 3 (gA σ 7 x1.toNatClampNeg).toNatClampNeg) = 5 → Q σ) ∧ ((gA σ 3 (gA σ 7 x1.toNatClampNeg).toNatClampNeg) = 5 → vp_in x1 100 ∧ (vp_in x1 100 ∧ (vp_in (gA σ 7 x1.toNatClampNeg) 8 ∧ (vp_in ((gA σ 8 x1.toNatClampNeg) + 1) 2560 ∧ (vp_in x1 100 ∧ (vp_in x1 100 ∧ (vp_in x1 100 ∧ (vp_in (gA (sB σ 0 ((gA σ 8 x1.toNatClampNeg) + 1).toNatClampNeg (gB σ 1 (gA σ 7 x1.toNatClampNeg).toNatClampNeg)) 7 x1.toNatClampNeg) 8 ∧ (vp_in (((gA (sB σ 0 ((gA σ 8 x1.toNatClampNeg) + 1).toNatClampNeg (gB σ 1 (gA σ 7 x1.toNatClampNeg).toNatClampNeg)) 8 x1.toNatClampNeg) + 2) + (gA (sB σ 0 ((gA σ 8 x1.toNatClampNeg) + 1).toNatClampNeg (gB σ 1 (gA σ 7 x1.toNatClampNeg).toNatClampNeg)) 6 x1.toNatClampNeg)) 2560 ∧ (∀ σ69 : SS, σ69 = sB (sB σ 0 ((gA σ 8 x1.toNatClampNeg) + 1).toNatClampNeg (gB σ 1 (gA σ 7 x1.toNatClampNeg).toNatClampNeg)) 0 (((gA (sB σ 0 ((gA σ 8 x1.toNatClampNeg) + 1).toNatClampNeg (gB σ 1 (gA σ 7 x1.toNatClampNeg).toNatClampNeg)) 8 x1.toNatClampNeg) + 2) + (gA (sB σ 0 ((gA σ 8 x1.toNatClampNeg) + 1).toNatClampNeg (gB σ 1 (gA σ 7 x1.toNatClampNeg).toNatClampNeg)) 6 x1.toNatClampNeg)).toNatClampNeg (gB (sB σ 0 ((gA σ 8 x1.toNatClampNeg) + 1).toNatClampNeg (gB σ 1 (gA σ 7 x1.toNatClampNeg).toNatClampNeg)) 1 (gA (sB σ 0 ((gA σ 8 x1.toNatClampNeg) + 1).toNatClampNeg (gB σ 1 (gA σ 7 x1.toNatClampNeg).toNatClampNeg)) 7 x1.toNatClampNeg).toNatClampNeg) → (Q σ69)))))))))))))
set_option maxRecDepth 100000 in
set_option maxHeartbeats 4000000 in
theorem kX7_guard_ok {l : Launch} {D : va_G} {cI cJ cZ : ClassId} {ad : Nat → Nat} (x1 : Int32) (σ0 : SS) {Q : SS → Prop} (h : wX7_guard x1 σ0 Q) : Cv l yX7_guard (.code yX7_guard cX7_guard 2 none :: TT) { frames := 0, cells := 0, slots := 0, locals := 0 } D (tys cI cJ cZ) (wM cI cJ cZ ad) [.ref (ad 0), .int x1] σ0 Q := by
  refine Cv.of (lv := [(0, .ref (ad 0)), (1, .int x1)]) (by decide) adM (Nat.le_of_ble_eq_true rfl) rfl ?_
  intro p e s m args below meth c A C
  refine j_aload_n C dX7_guard_0 0 rfl ?_
  refine gf_X7_23 C dX7_guard_1 ?_
  refine j_aload_n C dX7_guard_4 0 rfl ?_
  refine gf_X7_39 C dX7_guard_5 ?_
  refine j_iload_n C dX7_guard_8 1 rfl ?_
  refine al_wM_10 C h.1 dX7_guard_9 ?_
  replace h := h.2
  refine al_wM_5 C h.1 dX7_guard_10 ?_
  replace h := h.2
  refine j_iconst (v := 5) C dX7_guard_11 (by decide) ?_
  refine j_icmp_ne 70 C dX7_guard_12 rfl h (fun h => ?_) (fun h => ?_)
  · exact j_vret C dX7_guard_70 h
  · refine j_aload_n C dX7_guard_15 0 rfl ?_
    refine gf_X7_13 C dX7_guard_16 ?_
    refine j_aload_n C dX7_guard_19 0 rfl ?_
    refine gf_X7_42 C dX7_guard_20 ?_
    refine j_iload_n C dX7_guard_23 1 rfl ?_
    refine al_wM_11 C h.1 dX7_guard_24 ?_
    replace h := h.2
    refine j_iconst (v := 1) C dX7_guard_25 (by decide) ?_
    refine j_iadd C dX7_guard_26 ?_
    refine j_aload_n C dX7_guard_27 0 rfl ?_
    refine gf_X7_26 C dX7_guard_28 ?_
    refine j_aload_n C dX7_guard_31 0 rfl ?_
    refine gf_X7_39 C dX7_guard_32 ?_
    refine j_iload_n C dX7_guard_35 1 rfl ?_
    refine al_wM_10 C h.1 dX7_guard_36 ?_
    replace h := h.2
    refine al_wM_6 C h.1 dX7_guard_37 ?_
    replace h := h.2
    refine as_wM_2 C h.1 dX7_guard_38 ?_
    replace h := h.2
    refine j_aload_n C dX7_guard_39 0 rfl ?_
    refine gf_X7_13 C dX7_guard_40 ?_
    refine j_aload_n C dX7_guard_43 0 rfl ?_
    refine gf_X7_42 C dX7_guard_44 ?_
    refine j_iload_n C dX7_guard_47 1 rfl ?_
    refine al_wM_11 C h.1 dX7_guard_48 ?_
    replace h := h.2
    refine j_iconst (v := 2) C dX7_guard_49 (by decide) ?_
    refine j_iadd C dX7_guard_50 ?_
    refine j_aload_n C dX7_guard_51 0 rfl ?_
    refine gf_X7_36 C dX7_guard_52 ?_
    refine j_iload_n C dX7_guard_55 1 rfl ?_
    refine al_wM_9 C h.1 dX7_guard_56 ?_
    replace h := h.2
    refine j_iadd C dX7_guard_57 ?_
    refine j_aload_n C dX7_guard_58 0 rfl ?_
    refine gf_X7_26 C dX7_guard_59 ?_
    refine j_aload_n C dX7_guard_62 0 rfl ?_
    refine gf_X7_39 C dX7_guard_63 ?_
    refine j_iload_n C dX7_guard_66 1 rfl ?_
    refine al_wM_10 C h.1 dX7_guard_67 ?_
    replace h := h.2
    refine al_wM_6 C h.1 dX7_guard_68 ?_
    replace h := h.2
    refine as_wM_2 C h.1 dX7_guard_69 ?_
    replace h := h.2
    obtain ⟨σ69, hs69⟩ : ∃ z, z = sB (sB σ0 0 ((gA σ0 8 x1.toNatClampNeg) + 1).toNatClampNeg (gB σ0 1 (gA σ0 7 x1.toNatClampNeg).toNatClampNeg)) 0 (((gA (sB σ0 0 ((gA σ0 8 x1.toNatClampNeg) + 1).toNatClampNeg (gB σ0 1 (gA σ0 7 x1.toNatClampNeg).toNatClampNeg)) 8 x1.toNatClampNeg) + 2) + (gA (sB σ0 0 ((gA σ0 8 x1.toNatClampNeg) + 1).toNatClampNeg (gB σ0 1 (gA σ0 7 x1.toNatClampNeg).toNatClampNeg)) 6 x1.toNatClampNeg)).toNatClampNeg (gB (sB σ0 0 ((gA σ0 8 x1.toNatClampNeg) + 1).toNatClampNeg (gB σ0 1 (gA σ0 7 x1.toNatClampNeg).toNatClampNeg)) 1 (gA (sB σ0 0 ((gA σ0 8 x1.toNatClampNeg) + 1).toNatClampNeg (gB σ0 1 (gA σ0 7 x1.toNatClampNeg).toNatClampNeg)) 7 x1.toNatClampNeg).toNatClampNeg) := ⟨_, rfl⟩
    rw [← hs69]
    replace h := h σ69 hs69
    exact j_vret C dX7_guard_70 h
def wX7_have (x1 : Int32) (x2 : Int32) (x3 : Int32) (x4 : Int32) (σ : SS) (Q : SS → Prop) : Prop := vp_in x3 2560 ∧ (vp_in x1 100 ∧ (vp_in x1 100 ∧ (vp_in x1 100 ∧ (wX7_guard x1 (sA (sA (sA (sA σ 2 x3.toNatClampNeg x1) 7 x1.toNatClampNeg x2) 8 x1.toNatClampNeg x3) 6 x1.toNatClampNeg x4) (fun σ31 => Q σ31)))))
set_option maxRecDepth 100000 in
set_option maxHeartbeats 4000000 in
theorem kX7_have_ok {l : Launch} {D : va_G} {cI cJ cZ : ClassId} {ad : Nat → Nat} (x1 : Int32) (x2 : Int32) (x3 : Int32) (x4 : Int32) (σ0 : SS) {Q : SS → Prop} (h : wX7_have x1 x2 x3 x4 σ0 Q) : Cv l yX7_have (.code yX7_have cX7_have 5 none :: TT) { frames := 1, cells := 0, slots := 0, locals := 21 } D (tys cI cJ cZ) (wM cI cJ cZ ad) [.ref (ad 0), .int x1, .int x2, .int x3, .int x4] σ0 Q := by
  refine Cv.of (lv := [(0, .ref (ad 0)), (1, .int x1), (2, .int x2), (3, .int x3), (4, .int x4)]) (by decide) adM (Nat.le_of_ble_eq_true rfl) rfl ?_
  intro p e s m args below meth c A C
  refine j_aload_n C dX7_have_0 0 rfl ?_
  refine gf_X7_20 C dX7_have_1 ?_
  refine j_iload_n C dX7_have_4 3 rfl ?_
  refine j_iload_n C dX7_have_5 1 rfl ?_
  refine as_wM_4 C h.1 dX7_have_6 ?_
  replace h := h.2
  refine j_aload_n C dX7_have_7 0 rfl ?_
  refine gf_X7_39 C dX7_have_8 ?_
  refine j_iload_n C dX7_have_11 1 rfl ?_
  refine j_iload_n C dX7_have_12 2 rfl ?_
  refine as_wM_10 C h.1 dX7_have_13 ?_
  replace h := h.2
  refine j_aload_n C dX7_have_14 0 rfl ?_
  refine gf_X7_42 C dX7_have_15 ?_
  refine j_iload_n C dX7_have_18 1 rfl ?_
  refine j_iload_n C dX7_have_19 3 rfl ?_
  refine as_wM_11 C h.1 dX7_have_20 ?_
  replace h := h.2
  refine j_aload_n C dX7_have_21 0 rfl ?_
  refine gf_X7_36 C dX7_have_22 ?_
  refine j_iload_n C dX7_have_25 1 rfl ?_
  refine j_iload C dX7_have_26 4 rfl ?_
  refine as_wM_9 C h.1 dX7_have_28 ?_
  replace h := h.2
  refine j_aload_n C dX7_have_29 0 rfl ?_
  refine j_iload_n C dX7_have_30 1 rfl ?_
  refine j_callv 0 [.int x1] [] C (kX7_guard_ok x1 (sA (sA (sA (sA σ0 2 x3.toNatClampNeg x1) 7 x1.toNatClampNeg x2) 8 x1.toNatClampNeg x3) 6 x1.toNatClampNeg x4) h) (tt_V ml_X7_144 mV_X7_guard) ok_X7_guard ⟨by decide, by decide⟩ rfl (r_wM_0 (σ := sA (sA (sA (sA σ0 2 x3.toNatClampNeg x1) 7 x1.toNatClampNeg x2) 8 x1.toNatClampNeg x3) 6 x1.toNatClampNeg x4)) (Nat.le_of_ble_eq_true rfl) rfl dX7_have_31 (fun σ31 h => ?_)
  exact j_vret C dX7_have_34 h
def wX7_joinPairs_b47 (X2 : Int32 × SS → Prop) (x1 : Int32) (x3 : Int32) (x4 : Int32) (t0 : Int32) (σ : SS) (Q : SS → Prop) : Prop := wX7_isFreeAt t0 x1 σ (fun r53 => (r53 = 0 → Q σ) ∧ (¬ r53 = 0 → vp_in t0 2560 ∧ (((gA σ 1 t0.toNatClampNeg) = x4 → vp_in x3 2560 ∧ (vp_in t0 2560 ∧ (vp_in (if t0 < x3 then t0 else x3) 2560 ∧ (vp_in (if t0 < x3 then t0 else x3) 2560 ∧ (∀ σ113 : SS, σ113 = sA (sA (sA (sA σ 1 x3.toNatClampNeg 0) 1 t0.toNatClampNeg 0) 1 (if t0 < x3 then t0 else x3).toNatClampNeg (2 * x4)) 2 (if t0 < x3 then t0 else x3).toNatClampNeg ((-1)) → (X2 ((if t0 < x3 then t0 else x3), σ113))))))) ∧ (¬ (gA σ 1 t0.toNatClampNeg) = x4 → Q σ))))
def wX7_joinPairs_b2 (x1 : Int32) (x3 : Int32) (σ : SS) (Q : SS → Prop) : Prop := lfp (fun (X2 : Int32 × SS → Prop) (t : Int32 × SS) => vp_in t.1 2560 ∧ ((64 ≤ (gA t.2 1 t.1.toNatClampNeg) → Q t.2) ∧ (¬ 64 ≤ (gA t.2 1 t.1.toNatClampNeg) → vp_in t.1 2560 ∧ (¬ (2 * (gA t.2 1 t.1.toNatClampNeg)) = 0 ∧ ((¬ (((t.1 / (2 * (gA t.2 1 t.1.toNatClampNeg))) * 2) * (gA t.2 1 t.1.toNatClampNeg)) = t.1 → wX7_joinPairs_b47 X2 x1 t.1 (gA t.2 1 t.1.toNatClampNeg) (t.1 - (gA t.2 1 t.1.toNatClampNeg)) t.2 Q) ∧ ((((t.1 / (2 * (gA t.2 1 t.1.toNatClampNeg))) * 2) * (gA t.2 1 t.1.toNatClampNeg)) = t.1 → wX7_joinPairs_b47 X2 x1 t.1 (gA t.2 1 t.1.toNatClampNeg) (t.1 + (gA t.2 1 t.1.toNatClampNeg)) t.2 Q)))))) (x3, σ)
def wX7_joinPairs (x1 : Int32) (x2 : Int32) (σ : SS) (Q : SS → Prop) : Prop := wX7_joinPairs_b2 x1 x2 σ Q
set_option maxRecDepth 100000 in
set_option maxHeartbeats 4000000 in
theorem kX7_joinPairs_ok {l : Launch} {D : va_G} {cI cJ cZ : ClassId} {ad : Nat → Nat} (x1 : Int32) (x2 : Int32) (σ0 : SS) {Q : SS → Prop} (h : wX7_joinPairs x1 x2 σ0 Q) : Cv l yX7_joinPairs (.code yX7_joinPairs cX7_joinPairs 7 none :: TT) { frames := 2, cells := 0, slots := 0, locals := 44 } D (tys cI cJ cZ) (wM cI cJ cZ ad) [.ref (ad 0), .int x1, .int x2] σ0 Q := by
  refine Cv.of (lv := [(0, .ref (ad 0)), (1, .int x1), (2, .int x2)]) (by decide) adM (Nat.le_of_ble_eq_true rfl) rfl ?_
  intro p e s m args below meth c A C
  have k47 : ∀ (x1 : Int32), ∀ (x3 : Int32), ∀ (x4 : Int32), ∀ (t0 : Int32), ∀ (σ : SS), ∀ (X2 : Int32 × SS → Prop), (∀ t : Int32 × SS, X2 t → J p l e { frames := 2, cells := 0, slots := 0, locals := 44 } s m args below meth c D (wM cI cJ cZ ad) A 7 (MQ below (va_Qv Q (WW D (tys cI cJ cZ) (wM cI cJ cZ ad)) A) args s 0 0 A) t.2 2 [(0, .ref (ad 0)), (1, .int x1), (3, .int t.1)] []) → wX7_joinPairs_b47 X2 x1 x3 x4 t0 σ Q → J p l e { frames := 2, cells := 0, slots := 0, locals := 44 } s m args below meth c D (wM cI cJ cZ ad) A 7 (MQ below (va_Qv Q (WW D (tys cI cJ cZ) (wM cI cJ cZ ad)) A) args s 0 0 A) σ 47 [(0, .ref (ad 0)), (1, .int x1), (3, .int x3), (4, .int x4)] [.int t0] := by
    intro x1 x3 x4 t0 σ X2 hX2 h
    refine j_istore (lv' := [(5, .int t0), (0, .ref (ad 0)), (1, .int x1), (3, .int x3), (4, .int x4)]) C dX7_joinPairs_47 (by decide) rfl ?_
    refine j_aload_n C dX7_joinPairs_49 1 rfl ?_
    refine j_iload C dX7_joinPairs_50 0 rfl ?_
    refine j_iload_n C dX7_joinPairs_52 2 rfl ?_
    refine j_callpi 0 [.int t0, .int x1] [] C (kX7_isFreeAt_ok t0 x1 σ h) (tt_V ml_X7_121 mV_X7_isFreeAt) ok_X7_isFreeAt ⟨by decide, by decide⟩ rfl (r_wM_0 (σ := σ)) (Nat.le_of_ble_eq_true rfl) rfl dX7_joinPairs_53 (fun r53 h => ?_)
    refine j_if_eq 71 C dX7_joinPairs_56 rfl h (fun h => ?_) (fun h => ?_)
    · exact j_vret C dX7_joinPairs_71 h
    · refine j_aload_n C dX7_joinPairs_59 1 rfl ?_
      refine gf_X7_17 C dX7_joinPairs_60 ?_
      refine j_iload C dX7_joinPairs_63 0 rfl ?_
      refine al_wM_3 C h.1 dX7_joinPairs_65 ?_
      replace h := h.2
      refine j_iload C dX7_joinPairs_66 4 rfl ?_
      refine j_icmp_eq 72 C dX7_joinPairs_68 rfl h (fun h => ?_) (fun h => ?_)
      · refine j_iload_n C dX7_joinPairs_72 3 rfl ?_
        refine j_iload C dX7_joinPairs_73 0 rfl ?_
        refine j_mmin C ml_X7_151 mst_min mi_J9 mc_min ⟨by decide, (Nat.le_of_ble_eq_true rfl)⟩ dX7_joinPairs_75 ?_
        refine j_istore (lv' := [(6, .int (if t0 < x3 then t0 else x3)), (5, .int t0), (0, .ref (ad 0)), (1, .int x1), (3, .int x3), (4, .int x4)]) C dX7_joinPairs_78 (by decide) rfl ?_
        refine j_aload_n C dX7_joinPairs_80 2 rfl ?_
        refine gf_X7_17 C dX7_joinPairs_81 ?_
        refine j_iload_n C dX7_joinPairs_84 4 rfl ?_
        refine j_iconst (v := 0) C dX7_joinPairs_85 (by decide) ?_
        refine as_wM_3 C h.1 dX7_joinPairs_86 ?_
        replace h := h.2
        refine j_aload_n C dX7_joinPairs_87 2 rfl ?_
        refine gf_X7_17 C dX7_joinPairs_88 ?_
        refine j_iload C dX7_joinPairs_91 1 rfl ?_
        refine j_iconst (v := 0) C dX7_joinPairs_93 (by decide) ?_
        refine as_wM_3 C h.1 dX7_joinPairs_94 ?_
        replace h := h.2
        refine j_aload_n C dX7_joinPairs_95 2 rfl ?_
        refine gf_X7_17 C dX7_joinPairs_96 ?_
        refine j_iload C dX7_joinPairs_99 0 rfl ?_
        refine j_iconst (v := 2) C dX7_joinPairs_101 (by decide) ?_
        refine j_iload C dX7_joinPairs_102 5 rfl ?_
        refine j_imul C dX7_joinPairs_104 ?_
        refine as_wM_3 C h.1 dX7_joinPairs_105 ?_
        replace h := h.2
        refine j_aload_n C dX7_joinPairs_106 2 rfl ?_
        refine gf_X7_20 C dX7_joinPairs_107 ?_
        refine j_iload C dX7_joinPairs_110 0 rfl ?_
        refine j_iconst (v := (-1)) C dX7_joinPairs_112 (by decide) ?_
        refine as_wM_4 C h.1 dX7_joinPairs_113 ?_
        replace h := h.2
        obtain ⟨σ113, hs113⟩ : ∃ z, z = sA (sA (sA (sA σ 1 x3.toNatClampNeg 0) 1 t0.toNatClampNeg 0) 1 (if t0 < x3 then t0 else x3).toNatClampNeg (2 * x4)) 2 (if t0 < x3 then t0 else x3).toNatClampNeg ((-1)) := ⟨_, rfl⟩
        rw [← hs113]
        replace h := h σ113 hs113
        refine j_iload C dX7_joinPairs_114 0 rfl ?_
        refine j_istore_n (lv' := [(3, .int (if t0 < x3 then t0 else x3)), (6, .int (if t0 < x3 then t0 else x3)), (5, .int t0), (0, .ref (ad 0)), (1, .int x1), (4, .int x4)]) C dX7_joinPairs_116 (by decide) rfl ?_
        refine j_goto 2 C dX7_joinPairs_117 rfl ?_
        refine j_sub (lv' := [(0, .ref (ad 0)), (1, .int x1), (3, .int (if t0 < x3 then t0 else x3))]) [3, 4, 0] rfl ?_
        exact hX2 _ h
      · exact j_vret C dX7_joinPairs_71 h
  have k2 : ∀ (x1 : Int32), ∀ (x3 : Int32), ∀ (σ : SS), wX7_joinPairs_b2 x1 x3 σ Q → J p l e { frames := 2, cells := 0, slots := 0, locals := 44 } s m args below meth c D (wM cI cJ cZ ad) A 7 (MQ below (va_Qv Q (WW D (tys cI cJ cZ) (wM cI cJ cZ ad)) A) args s 0 0 A) σ 2 [(0, .ref (ad 0)), (1, .int x1), (3, .int x3)] [] := by
    intro x1 x3 σ h
    refine h (fun t => J p l e { frames := 2, cells := 0, slots := 0, locals := 44 } s m args below meth c D (wM cI cJ cZ ad) A 7 (MQ below (va_Qv Q (WW D (tys cI cJ cZ) (wM cI cJ cZ ad)) A) args s 0 0 A) t.2 2 [(0, .ref (ad 0)), (1, .int x1), (3, .int t.1)] []) (fun t h => ?_)
    obtain ⟨x3, σ⟩ := t
    try dsimp only at h
    refine j_aload_n C dX7_joinPairs_2 0 rfl ?_
    refine gf_X7_17 C dX7_joinPairs_3 ?_
    refine j_iload_n C dX7_joinPairs_6 2 rfl ?_
    refine al_wM_3 C h.1 dX7_joinPairs_7 ?_
    replace h := h.2
    refine j_bipush (v := 64) C dX7_joinPairs_8 (by decide) ?_
    refine j_icmp_ge 120 C dX7_joinPairs_10 rfl h (fun h => ?_) (fun h => ?_)
    · exact j_vret C dX7_joinPairs_120 h
    · refine j_aload_n C dX7_joinPairs_13 0 rfl ?_
      refine gf_X7_17 C dX7_joinPairs_14 ?_
      refine j_iload_n C dX7_joinPairs_17 2 rfl ?_
      refine al_wM_3 C h.1 dX7_joinPairs_18 ?_
      replace h := h.2
      refine j_istore (lv' := [(4, .int (gA σ 1 x3.toNatClampNeg)), (0, .ref (ad 0)), (1, .int x1), (3, .int x3)]) C dX7_joinPairs_19 (by decide) rfl ?_
      refine j_iload_n C dX7_joinPairs_21 3 rfl ?_
      refine j_iconst (v := 2) C dX7_joinPairs_22 (by decide) ?_
      refine j_iload C dX7_joinPairs_23 0 rfl ?_
      refine j_imul C dX7_joinPairs_25 ?_
      refine j_idiv C dX7_joinPairs_26 h.1 ?_
      replace h := h.2
      refine j_iconst (v := 2) C dX7_joinPairs_27 (by decide) ?_
      refine j_imul C dX7_joinPairs_28 ?_
      refine j_iload C dX7_joinPairs_29 0 rfl ?_
      refine j_imul C dX7_joinPairs_31 ?_
      refine j_iload_n C dX7_joinPairs_32 3 rfl ?_
      refine j_icmp_ne 43 C dX7_joinPairs_33 rfl h (fun h => ?_) (fun h => ?_)
      · refine j_iload_n C dX7_joinPairs_43 3 rfl ?_
        refine j_iload C dX7_joinPairs_44 0 rfl ?_
        refine j_isub C dX7_joinPairs_46 ?_
        refine j_sub (lv' := [(0, .ref (ad 0)), (1, .int x1), (3, .int x3), (4, .int (gA σ 1 x3.toNatClampNeg))]) [1, 2, 3, 0] rfl ?_
        exact k47 _ _ _ _ _ _ (fun _ z => z) h
      · refine j_iload_n C dX7_joinPairs_36 3 rfl ?_
        refine j_iload C dX7_joinPairs_37 0 rfl ?_
        refine j_iadd C dX7_joinPairs_39 ?_
        refine j_goto 47 C dX7_joinPairs_40 rfl ?_
        refine j_sub (lv' := [(0, .ref (ad 0)), (1, .int x1), (3, .int x3), (4, .int (gA σ 1 x3.toNatClampNeg))]) [1, 2, 3, 0] rfl ?_
        exact k47 _ _ _ _ _ _ (fun _ z => z) h
  refine j_iload_n C dX7_joinPairs_0 2 rfl ?_
  refine j_istore_n (lv' := [(3, .int x2), (0, .ref (ad 0)), (1, .int x1), (2, .int x2)]) C dX7_joinPairs_1 (by decide) rfl ?_
  refine j_sub (lv' := [(0, .ref (ad 0)), (1, .int x1), (3, .int x2)]) [1, 2, 0] rfl ?_
  exact k2 _ _ _ h
def wX7_release_b2 (x1 : Int32) (x2 : Int32) (x3 : Int32) (σ : SS) (Q : SS → Prop) : Prop := lfp (fun (X2 : Int32 × SS → Prop) (t : Int32 × SS) => vp_in x2 2560 ∧ (((x2 + (gA t.2 1 x2.toNatClampNeg)) ≤ t.1 → vp_in x2 2560 ∧ (vp_in x1 8 ∧ ((¬ (gA (sA t.2 2 x2.toNatClampNeg ((-1))) 3 x1.toNatClampNeg) = 1 → vp_in x1 8 ∧ (((gA (sA t.2 2 x2.toNatClampNeg ((-1))) 3 x1.toNatClampNeg) = 0 → Q (sA t.2 2 x2.toNatClampNeg ((-1)))) ∧ (¬ (gA (sA t.2 2 x2.toNatClampNeg ((-1))) 3 x1.toNatClampNeg) = 0 → wX7_join x1 x2 (sA t.2 2 x2.toNatClampNeg ((-1))) (fun σ65 => Q σ65)))) ∧ ((gA (sA t.2 2 x2.toNatClampNeg ((-1))) 3 x1.toNatClampNeg) = 1 → wX7_joinPairs x1 x2 (sA t.2 2 x2.toNatClampNeg ((-1))) (fun σ47 => Q σ47))))) ∧ (¬ (x2 + (gA t.2 1 x2.toNatClampNeg)) ≤ t.1 → vp_in t.1 2560 ∧ (X2 ((t.1 + 1), sB t.2 0 t.1.toNatClampNeg 0))))) (x3, σ)
def wX7_release (x1 : Int32) (x2 : Int32) (σ : SS) (Q : SS → Prop) : Prop := wX7_release_b2 x1 x2 x2 σ Q
set_option maxRecDepth 100000 in
set_option maxHeartbeats 4000000 in
theorem kX7_release_ok {l : Launch} {D : va_G} {cI cJ cZ : ClassId} {ad : Nat → Nat} (x1 : Int32) (x2 : Int32) (σ0 : SS) {Q : SS → Prop} (h : wX7_release x1 x2 σ0 Q) : Cv l yX7_release (.code yX7_release cX7_release 4 none :: TT) { frames := 3, cells := 0, slots := 0, locals := 70 } D (tys cI cJ cZ) (wM cI cJ cZ ad) [.ref (ad 0), .int x1, .int x2] σ0 Q := by
  refine Cv.of (lv := [(0, .ref (ad 0)), (1, .int x1), (2, .int x2)]) (by decide) adM (Nat.le_of_ble_eq_true rfl) rfl ?_
  intro p e s m args below meth c A C
  have k2 : ∀ (x1 : Int32), ∀ (x2 : Int32), ∀ (x3 : Int32), ∀ (σ : SS), wX7_release_b2 x1 x2 x3 σ Q → J p l e { frames := 3, cells := 0, slots := 0, locals := 70 } s m args below meth c D (wM cI cJ cZ ad) A 4 (MQ below (va_Qv Q (WW D (tys cI cJ cZ) (wM cI cJ cZ ad)) A) args s 0 0 A) σ 2 [(0, .ref (ad 0)), (1, .int x1), (2, .int x2), (3, .int x3)] [] := by
    intro x1 x2 x3 σ h
    refine h (fun t => J p l e { frames := 3, cells := 0, slots := 0, locals := 70 } s m args below meth c D (wM cI cJ cZ ad) A 4 (MQ below (va_Qv Q (WW D (tys cI cJ cZ) (wM cI cJ cZ ad)) A) args s 0 0 A) t.2 2 [(0, .ref (ad 0)), (1, .int x1), (2, .int x2), (3, .int t.1)] []) (fun t h => ?_)
    obtain ⟨x3, σ⟩ := t
    try dsimp only at h
    refine j_iload_n C dX7_release_2 3 rfl ?_
    refine j_iload_n C dX7_release_3 2 rfl ?_
    refine j_aload_n C dX7_release_4 0 rfl ?_
    refine gf_X7_17 C dX7_release_5 ?_
    refine j_iload_n C dX7_release_8 2 rfl ?_
    refine al_wM_3 C h.1 dX7_release_9 ?_
    replace h := h.2
    refine j_iadd C dX7_release_10 ?_
    refine j_icmp_ge 27 C dX7_release_11 rfl h (fun h => ?_) (fun h => ?_)
    · refine j_aload_n C dX7_release_27 0 rfl ?_
      refine gf_X7_20 C dX7_release_28 ?_
      refine j_iload_n C dX7_release_31 2 rfl ?_
      refine j_iconst (v := (-1)) C dX7_release_32 (by decide) ?_
      refine as_wM_4 C h.1 dX7_release_33 ?_
      replace h := h.2
      refine j_aload_n C dX7_release_34 0 rfl ?_
      refine gf_X7_23 C dX7_release_35 ?_
      refine j_iload_n C dX7_release_38 1 rfl ?_
      refine al_wM_5 C h.1 dX7_release_39 ?_
      replace h := h.2
      refine j_iconst (v := 1) C dX7_release_40 (by decide) ?_
      refine j_icmp_ne 53 C dX7_release_41 rfl h (fun h => ?_) (fun h => ?_)
      · refine j_aload_n C dX7_release_53 0 rfl ?_
        refine gf_X7_23 C dX7_release_54 ?_
        refine j_iload_n C dX7_release_57 1 rfl ?_
        refine al_wM_5 C h.1 dX7_release_58 ?_
        replace h := h.2
        refine j_if_eq 68 C dX7_release_59 rfl h (fun h => ?_) (fun h => ?_)
        · exact j_vret C dX7_release_68 h
        · refine j_aload_n C dX7_release_62 0 rfl ?_
          refine j_iload_n C dX7_release_63 1 rfl ?_
          refine j_iload_n C dX7_release_64 2 rfl ?_
          refine j_callv 0 [.int x1, .int x2] [] C (kX7_join_ok x1 x2 (sA σ 2 x2.toNatClampNeg ((-1))) h) (tt_V ml_X7_124 mV_X7_join) ok_X7_join ⟨by decide, by decide⟩ rfl (r_wM_0 (σ := sA σ 2 x2.toNatClampNeg ((-1)))) (Nat.le_of_ble_eq_true rfl) rfl dX7_release_65 (fun σ65 h => ?_)
          exact j_vret C dX7_release_68 h
      · refine j_aload_n C dX7_release_44 0 rfl ?_
        refine j_iload_n C dX7_release_45 1 rfl ?_
        refine j_iload_n C dX7_release_46 2 rfl ?_
        refine j_callv 0 [.int x1, .int x2] [] C (kX7_joinPairs_ok x1 x2 (sA σ 2 x2.toNatClampNeg ((-1))) h) (tt_V ml_X7_148 mV_X7_joinPairs) ok_X7_joinPairs ⟨by decide, by decide⟩ rfl (r_wM_0 (σ := sA σ 2 x2.toNatClampNeg ((-1)))) (Nat.le_of_ble_eq_true rfl) rfl dX7_release_47 (fun σ47 h => ?_)
        refine j_goto 68 C dX7_release_50 rfl ?_
        exact j_vret C dX7_release_68 h
    · refine j_aload_n C dX7_release_14 0 rfl ?_
      refine gf_X7_13 C dX7_release_15 ?_
      refine j_iload_n C dX7_release_18 3 rfl ?_
      refine j_lconst (v := 0) C dX7_release_19 (by decide) ?_
      refine as_wM_2 C h.1 dX7_release_20 ?_
      replace h := h.2
      refine j_iinc (lv' := [(3, .int (x3 + 1)), (0, .ref (ad 0)), (1, .int x1), (2, .int x2)]) (x3 + 1) C dX7_release_21 3 rfl rfl (by decide) rfl ?_
      refine j_goto 2 C dX7_release_24 rfl ?_
      refine j_sub (lv' := [(0, .ref (ad 0)), (1, .int x1), (2, .int x2), (3, .int (x3 + 1))]) [1, 2, 3, 0] rfl ?_
      exact h
  refine j_iload_n C dX7_release_0 2 rfl ?_
  refine j_istore_n (lv' := [(3, .int x2), (0, .ref (ad 0)), (1, .int x1), (2, .int x2)]) C dX7_release_1 (by decide) rfl ?_
  refine j_sub (lv' := [(0, .ref (ad 0)), (1, .int x1), (2, .int x2), (3, .int x2)]) [1, 2, 3, 0] rfl ?_
  exact k2 _ _ _ _ h
def wX7_pieceAt_b2 (x2 : Int32) (σ : SS) (Q : Int32 → Prop) : Prop := lfp (fun (X2 : Int32 → Prop) (t : Int32) => vp_in t 2560 ∧ ((¬ (gA σ 1 t.toNatClampNeg) = 0 → Q t) ∧ ((gA σ 1 t.toNatClampNeg) = 0 → X2 ((t + (-1)))))) x2
def wX7_pieceAt (x1 : Int32) (σ : SS) (Q : Int32 → Prop) : Prop := wX7_pieceAt_b2 x1 σ Q
set_option maxRecDepth 100000 in
set_option maxHeartbeats 4000000 in
theorem kX7_pieceAt_ok {l : Launch} {D : va_G} {cI cJ cZ : ClassId} {ad : Nat → Nat} (x1 : Int32) (σ0 : SS) {Q : Int32 → Prop} (h : wX7_pieceAt x1 σ0 Q) : Ci l yX7_pieceAt (.code yX7_pieceAt cX7_pieceAt 3 (some .int) :: TT) { frames := 0, cells := 0, slots := 0, locals := 0 } D (tys cI cJ cZ) (wM cI cJ cZ ad) [.ref (ad 0), .int x1] σ0 (fun r σ' => σ' = σ0 ∧ Q r) := by
  refine Ci.of (lv := [(0, .ref (ad 0)), (1, .int x1)]) (by decide) adM (Nat.le_of_ble_eq_true rfl) rfl ?_
  intro p e s m args below meth c A C
  have k2 : ∀ (x2 : Int32), wX7_pieceAt_b2 x2 σ0 Q → J p l e { frames := 0, cells := 0, slots := 0, locals := 0 } s m args below meth c D (wM cI cJ cZ ad) A 3 (MQ below (va_Qi (fun r σ' => σ' = σ0 ∧ Q r) (WW D (tys cI cJ cZ) (wM cI cJ cZ ad)) A) args s 0 0 A) σ0 2 [(0, .ref (ad 0)), (2, .int x2)] [] := by
    intro x2 h
    refine h (fun t => J p l e { frames := 0, cells := 0, slots := 0, locals := 0 } s m args below meth c D (wM cI cJ cZ ad) A 3 (MQ below (va_Qi (fun r σ' => σ' = σ0 ∧ Q r) (WW D (tys cI cJ cZ) (wM cI cJ cZ ad)) A) args s 0 0 A) σ0 2 [(0, .ref (ad 0)), (2, .int t)] []) (fun t h => ?_)
    obtain ⟨x2, rfl⟩ : ∃ z, z = t := ⟨_, rfl⟩
    try dsimp only at h
    refine j_aload_n C dX7_pieceAt_2 0 rfl ?_
    refine gf_X7_17 C dX7_pieceAt_3 ?_
    refine j_iload_n C dX7_pieceAt_6 1 rfl ?_
    refine al_wM_3 C h.1 dX7_pieceAt_7 ?_
    replace h := h.2
    refine j_if_ne 17 C dX7_pieceAt_8 rfl h (fun h => ?_) (fun h => ?_)
    · refine j_iload_n C dX7_pieceAt_17 1 rfl ?_
      exact j_iret C dX7_pieceAt_18 ⟨rfl, h⟩
    · refine j_iinc (lv' := [(2, .int (x2 + (-1))), (0, .ref (ad 0))]) (x2 + (-1)) C dX7_pieceAt_11 1 rfl rfl (by decide) rfl ?_
      refine j_goto 2 C dX7_pieceAt_14 rfl ?_
      refine j_sub (lv' := [(0, .ref (ad 0)), (2, .int (x2 + (-1)))]) [1, 0] rfl ?_
      exact h
  refine j_iload_n C dX7_pieceAt_0 1 rfl ?_
  refine j_istore_n (lv' := [(2, .int x1), (0, .ref (ad 0)), (1, .int x1)]) C dX7_pieceAt_1 (by decide) rfl ?_
  refine j_sub (lv' := [(0, .ref (ad 0)), (2, .int x1)]) [1, 0] rfl ?_
  exact k2 _ h
def wX7_isWhollyFree_b52 (X21 : Int32 → Prop) (x1 : Int32) (x3 : Int32) (σ : SS) (Q : Int32 → Prop) : Prop := X21 ((x3 + 1))
def wX7_isWhollyFree_b21 (x1 : Int32) (x3 : Int32) (σ : SS) (Q : Int32 → Prop) : Prop := lfp (fun (X21 : Int32 → Prop) (t : Int32) => (((64 * x1) + 64) ≤ t → Q 1) ∧ (¬ ((64 * x1) + 64) ≤ t → vp_in t 2560 ∧ (((gA σ 1 t.toNatClampNeg) ≤ 0 → wX7_isWhollyFree_b52 X21 x1 t σ Q) ∧ (¬ (gA σ 1 t.toNatClampNeg) ≤ 0 → vp_in t 2560 ∧ (((gA σ 2 t.toNatClampNeg) < 0 → wX7_isWhollyFree_b52 X21 x1 t σ Q) ∧ (¬ (gA σ 2 t.toNatClampNeg) < 0 → Q 0)))))) x3
def wX7_isWhollyFree (x1 : Int32) (σ : SS) (Q : Int32 → Prop) : Prop := vp_in x1 40 ∧ (vp_in (gA σ 0 x1.toNatClampNeg) 8 ∧ ((¬ (gA σ 3 (gA σ 0 x1.toNatClampNeg).toNatClampNeg) = 0 → wX7_pieceAt (64 * x1) σ (fun r65 => vp_in r65 2560 ∧ ((¬ (gA σ 2 r65.toNatClampNeg) = ((-1)) → Q 0) ∧ ((gA σ 2 r65.toNatClampNeg) = ((-1)) → vp_in r65 2560 ∧ (((r65 + (gA σ 1 r65.toNatClampNeg)) < ((64 * x1) + 64) → Q 0) ∧ (¬ (r65 + (gA σ 1 r65.toNatClampNeg)) < ((64 * x1) + 64) → Q 1)))))) ∧ ((gA σ 3 (gA σ 0 x1.toNatClampNeg).toNatClampNeg) = 0 → wX7_isWhollyFree_b21 x1 (64 * x1) σ Q)))
set_option maxRecDepth 100000 in
set_option maxHeartbeats 4000000 in
theorem kX7_isWhollyFree_ok {l : Launch} {D : va_G} {cI cJ cZ : ClassId} {ad : Nat → Nat} (x1 : Int32) (σ0 : SS) {Q : Int32 → Prop} (h : wX7_isWhollyFree x1 σ0 Q) : Ci l yX7_isWhollyFree (.code yX7_isWhollyFree cX7_isWhollyFree 4 (some .boolean) :: TT) { frames := 1, cells := 0, slots := 0, locals := 22 } D (tys cI cJ cZ) (wM cI cJ cZ ad) [.ref (ad 0), .int x1] σ0 (fun r σ' => σ' = σ0 ∧ Q r) := by
  refine Ci.of (lv := [(0, .ref (ad 0)), (1, .int x1)]) (by decide) adM (Nat.le_of_ble_eq_true rfl) rfl ?_
  intro p e s m args below meth c A C
  have k52 : ∀ (x1 : Int32), ∀ (x3 : Int32), ∀ (X21 : Int32 → Prop), (∀ t : Int32, X21 t → J p l e { frames := 1, cells := 0, slots := 0, locals := 22 } s m args below meth c D (wM cI cJ cZ ad) A 4 (MQ below (va_Qi (fun r σ' => σ' = σ0 ∧ Q r) (WW D (tys cI cJ cZ) (wM cI cJ cZ ad)) A) args s 0 0 A) σ0 21 [(0, .ref (ad 0)), (1, .int x1), (3, .int t)] []) → wX7_isWhollyFree_b52 X21 x1 x3 σ0 Q → J p l e { frames := 1, cells := 0, slots := 0, locals := 22 } s m args below meth c D (wM cI cJ cZ ad) A 4 (MQ below (va_Qi (fun r σ' => σ' = σ0 ∧ Q r) (WW D (tys cI cJ cZ) (wM cI cJ cZ ad)) A) args s 0 0 A) σ0 52 [(0, .ref (ad 0)), (1, .int x1), (3, .int x3)] [] := by
    intro x1 x3 X21 hX21 h
    refine j_iinc (lv' := [(3, .int (x3 + 1)), (0, .ref (ad 0)), (1, .int x1)]) (x3 + 1) C dX7_isWhollyFree_52 2 rfl rfl (by decide) rfl ?_
    refine j_goto 21 C dX7_isWhollyFree_55 rfl ?_
    refine j_sub (lv' := [(0, .ref (ad 0)), (1, .int x1), (3, .int (x3 + 1))]) [1, 2, 0] rfl ?_
    exact hX21 _ h
  have k21 : ∀ (x1 : Int32), ∀ (x3 : Int32), wX7_isWhollyFree_b21 x1 x3 σ0 Q → J p l e { frames := 1, cells := 0, slots := 0, locals := 22 } s m args below meth c D (wM cI cJ cZ ad) A 4 (MQ below (va_Qi (fun r σ' => σ' = σ0 ∧ Q r) (WW D (tys cI cJ cZ) (wM cI cJ cZ ad)) A) args s 0 0 A) σ0 21 [(0, .ref (ad 0)), (1, .int x1), (3, .int x3)] [] := by
    intro x1 x3 h
    refine h (fun t => J p l e { frames := 1, cells := 0, slots := 0, locals := 22 } s m args below meth c D (wM cI cJ cZ ad) A 4 (MQ below (va_Qi (fun r σ' => σ' = σ0 ∧ Q r) (WW D (tys cI cJ cZ) (wM cI cJ cZ ad)) A) args s 0 0 A) σ0 21 [(0, .ref (ad 0)), (1, .int x1), (3, .int t)] []) (fun t h => ?_)
    obtain ⟨x3, rfl⟩ : ∃ z, z = t := ⟨_, rfl⟩
    try dsimp only at h
    refine j_iload_n C dX7_isWhollyFree_21 2 rfl ?_
    refine j_bipush (v := 64) C dX7_isWhollyFree_22 (by decide) ?_
    refine j_iload_n C dX7_isWhollyFree_24 1 rfl ?_
    refine j_imul C dX7_isWhollyFree_25 ?_
    refine j_bipush (v := 64) C dX7_isWhollyFree_26 (by decide) ?_
    refine j_iadd C dX7_isWhollyFree_28 ?_
    refine j_icmp_ge 58 C dX7_isWhollyFree_29 rfl h (fun h => ?_) (fun h => ?_)
    · refine j_iconst (v := 1) C dX7_isWhollyFree_58 (by decide) ?_
      exact j_zret C dX7_isWhollyFree_59 rfl ⟨rfl, h⟩
    · refine j_aload_n C dX7_isWhollyFree_32 0 rfl ?_
      refine gf_X7_17 C dX7_isWhollyFree_33 ?_
      refine j_iload_n C dX7_isWhollyFree_36 2 rfl ?_
      refine al_wM_3 C h.1 dX7_isWhollyFree_37 ?_
      replace h := h.2
      refine j_if_le 52 C dX7_isWhollyFree_38 rfl h (fun h => ?_) (fun h => ?_)
      · refine j_sub (lv' := [(0, .ref (ad 0)), (1, .int x1), (3, .int x3)]) [0, 1, 2] rfl ?_
        exact k52 _ _ _ (fun _ z => z) h
      · refine j_aload_n C dX7_isWhollyFree_41 0 rfl ?_
        refine gf_X7_20 C dX7_isWhollyFree_42 ?_
        refine j_iload_n C dX7_isWhollyFree_45 2 rfl ?_
        refine al_wM_4 C h.1 dX7_isWhollyFree_46 ?_
        replace h := h.2
        refine j_if_lt 52 C dX7_isWhollyFree_47 rfl h (fun h => ?_) (fun h => ?_)
        · refine j_sub (lv' := [(0, .ref (ad 0)), (1, .int x1), (3, .int x3)]) [0, 1, 2] rfl ?_
          exact k52 _ _ _ (fun _ z => z) h
        · refine j_iconst (v := 0) C dX7_isWhollyFree_50 (by decide) ?_
          exact j_zret C dX7_isWhollyFree_51 rfl ⟨rfl, h⟩
  refine j_aload_n C dX7_isWhollyFree_0 0 rfl ?_
  refine gf_X7_9 C dX7_isWhollyFree_1 ?_
  refine j_iload_n C dX7_isWhollyFree_4 1 rfl ?_
  refine al_wM_1 C h.1 dX7_isWhollyFree_5 ?_
  replace h := h.2
  refine j_istore_n (lv' := [(2, .int (gA σ0 0 x1.toNatClampNeg)), (0, .ref (ad 0)), (1, .int x1)]) C dX7_isWhollyFree_6 (by decide) rfl ?_
  refine j_aload_n C dX7_isWhollyFree_7 1 rfl ?_
  refine gf_X7_23 C dX7_isWhollyFree_8 ?_
  refine j_iload_n C dX7_isWhollyFree_11 0 rfl ?_
  refine al_wM_5 C h.1 dX7_isWhollyFree_12 ?_
  replace h := h.2
  refine j_if_ne 60 C dX7_isWhollyFree_13 rfl h (fun h => ?_) (fun h => ?_)
  · refine j_aload_n C dX7_isWhollyFree_60 1 rfl ?_
    refine j_bipush (v := 64) C dX7_isWhollyFree_61 (by decide) ?_
    refine j_iload_n C dX7_isWhollyFree_63 2 rfl ?_
    refine j_imul C dX7_isWhollyFree_64 ?_
    refine j_callpi 0 [.int (64 * x1)] [] C (kX7_pieceAt_ok (64 * x1) σ0 h) (tt_V ml_X7_163 mV_X7_pieceAt) ok_X7_pieceAt ⟨by decide, by decide⟩ rfl (r_wM_0 (σ := σ0)) (Nat.le_of_ble_eq_true rfl) rfl dX7_isWhollyFree_65 (fun r65 h => ?_)
    refine j_istore_n (lv' := [(3, .int r65), (2, .int (gA σ0 0 x1.toNatClampNeg)), (0, .ref (ad 0)), (1, .int x1)]) C dX7_isWhollyFree_68 (by decide) rfl ?_
    refine j_aload_n C dX7_isWhollyFree_69 2 rfl ?_
    refine gf_X7_20 C dX7_isWhollyFree_70 ?_
    refine j_iload_n C dX7_isWhollyFree_73 0 rfl ?_
    refine al_wM_4 C h.1 dX7_isWhollyFree_74 ?_
    replace h := h.2
    refine j_iconst (v := (-1)) C dX7_isWhollyFree_75 (by decide) ?_
    refine j_icmp_ne 101 C dX7_isWhollyFree_76 rfl h (fun h => ?_) (fun h => ?_)
    · refine j_iconst (v := 0) C dX7_isWhollyFree_101 (by decide) ?_
      exact j_zret C dX7_isWhollyFree_102 rfl ⟨rfl, h⟩
    · refine j_iload_n C dX7_isWhollyFree_79 0 rfl ?_
      refine j_aload_n C dX7_isWhollyFree_80 2 rfl ?_
      refine gf_X7_17 C dX7_isWhollyFree_81 ?_
      refine j_iload_n C dX7_isWhollyFree_84 0 rfl ?_
      refine al_wM_3 C h.1 dX7_isWhollyFree_85 ?_
      replace h := h.2
      refine j_iadd C dX7_isWhollyFree_86 ?_
      refine j_bipush (v := 64) C dX7_isWhollyFree_87 (by decide) ?_
      refine j_iload_n C dX7_isWhollyFree_89 3 rfl ?_
      refine j_imul C dX7_isWhollyFree_90 ?_
      refine j_bipush (v := 64) C dX7_isWhollyFree_91 (by decide) ?_
      refine j_iadd C dX7_isWhollyFree_93 ?_
      refine j_icmp_lt 101 C dX7_isWhollyFree_94 rfl h (fun h => ?_) (fun h => ?_)
      · refine j_iconst (v := 0) C dX7_isWhollyFree_101 (by decide) ?_
        exact j_zret C dX7_isWhollyFree_102 rfl ⟨rfl, h⟩
      · refine j_iconst (v := 1) C dX7_isWhollyFree_97 (by decide) ?_
        refine j_goto 102 C dX7_isWhollyFree_98 rfl ?_
        exact j_zret C dX7_isWhollyFree_102 rfl ⟨rfl, h⟩
  · refine j_bipush (v := 64) C dX7_isWhollyFree_16 (by decide) ?_
    refine j_iload_n C dX7_isWhollyFree_18 2 rfl ?_
    refine j_imul C dX7_isWhollyFree_19 ?_
    refine j_istore_n (lv' := [(3, .int (64 * x1)), (2, .int (gA σ0 0 x1.toNatClampNeg)), (0, .ref (ad 0)), (1, .int x1)]) C dX7_isWhollyFree_20 (by decide) rfl ?_
    refine j_sub (lv' := [(0, .ref (ad 0)), (1, .int x1), (3, .int (64 * x1))]) [2, 3, 0] rfl ?_
    exact k21 _ _ h
def wX7_goBack_b88 (x1 : Int32) (x4 : Int32) (x5 : Int32) (σ : SS) (Q : SS → Prop) : Prop := lfp (fun (X88 : Int32 × SS → Prop) (t : Int32 × SS) => (x4 ≤ t.1 → vp_in x1 40 ∧ (Q (sA t.2 0 x1.toNatClampNeg ((-1))))) ∧ (¬ x4 ≤ t.1 → vp_in t.1 2560 ∧ (vp_in t.1 2560 ∧ (X88 ((t.1 + 1), sA (sA t.2 1 t.1.toNatClampNeg 0) 2 t.1.toNatClampNeg ((-1))))))) (x5, σ)
def wX7_goBack_b85 (x1 : Int32) (x3 : Int32) (x4 : Int32) (σ : SS) (Q : SS → Prop) : Prop := wX7_goBack_b88 x1 x4 x3 σ Q
def wX7_goBack (x1 : Int32) (σ : SS) (Q : SS → Prop) : Prop := vp_in x1 40 ∧ (vp_in (gA σ 0 x1.toNatClampNeg) 8 ∧ (((gA σ 3 (gA σ 0 x1.toNatClampNeg).toNatClampNeg) ≤ 1 → wX7_goBack_b85 x1 (64 * x1) ((64 * x1) + 64) σ Q) ∧ (¬ (gA σ 3 (gA σ 0 x1.toNatClampNeg).toNatClampNeg) ≤ 1 → wX7_pieceAt (64 * x1) σ (fun r30 => vp_in r30 2560 ∧ (vp_in r30 2560 ∧ (((r30 + (gA σ 1 r30.toNatClampNeg)) ≤ ((64 * x1) + 64) → wX7_goBack_b85 x1 (64 * x1) ((64 * x1) + 64) (sA σ 1 r30.toNatClampNeg ((64 * x1) - r30)) Q) ∧ (¬ (r30 + (gA σ 1 r30.toNatClampNeg)) ≤ ((64 * x1) + 64) → vp_in ((64 * x1) + 64) 2560 ∧ (vp_in ((64 * x1) + 64) 2560 ∧ (∀ σ84 : SS, σ84 = sA (sA (sA σ 1 r30.toNatClampNeg ((64 * x1) - r30)) 1 ((64 * x1) + 64).toNatClampNeg ((r30 + (gA σ 1 r30.toNatClampNeg)) - ((64 * x1) + 64))) 2 ((64 * x1) + 64).toNatClampNeg ((-1)) → (wX7_goBack_b85 x1 (64 * x1) ((64 * x1) + 64) σ84 Q))))))))))
set_option maxRecDepth 100000 in
set_option maxHeartbeats 4000000 in
theorem kX7_goBack_ok {l : Launch} {D : va_G} {cI cJ cZ : ClassId} {ad : Nat → Nat} (x1 : Int32) (σ0 : SS) {Q : SS → Prop} (h : wX7_goBack x1 σ0 Q) : Cv l yX7_goBack (.code yX7_goBack cX7_goBack 7 none :: TT) { frames := 1, cells := 0, slots := 0, locals := 22 } D (tys cI cJ cZ) (wM cI cJ cZ ad) [.ref (ad 0), .int x1] σ0 Q := by
  refine Cv.of (lv := [(0, .ref (ad 0)), (1, .int x1)]) (by decide) adM (Nat.le_of_ble_eq_true rfl) rfl ?_
  intro p e s m args below meth c A C
  have k88 : ∀ (x1 : Int32), ∀ (x4 : Int32), ∀ (x5 : Int32), ∀ (σ : SS), wX7_goBack_b88 x1 x4 x5 σ Q → J p l e { frames := 1, cells := 0, slots := 0, locals := 22 } s m args below meth c D (wM cI cJ cZ ad) A 7 (MQ below (va_Qv Q (WW D (tys cI cJ cZ) (wM cI cJ cZ ad)) A) args s 0 0 A) σ 88 [(0, .ref (ad 0)), (1, .int x1), (4, .int x4), (5, .int x5)] [] := by
    intro x1 x4 x5 σ h
    refine h (fun t => J p l e { frames := 1, cells := 0, slots := 0, locals := 22 } s m args below meth c D (wM cI cJ cZ ad) A 7 (MQ below (va_Qv Q (WW D (tys cI cJ cZ) (wM cI cJ cZ ad)) A) args s 0 0 A) t.2 88 [(0, .ref (ad 0)), (1, .int x1), (4, .int x4), (5, .int t.1)] []) (fun t h => ?_)
    obtain ⟨x5, σ⟩ := t
    try dsimp only at h
    refine j_iload C dX7_goBack_88 3 rfl ?_
    refine j_iload C dX7_goBack_90 2 rfl ?_
    refine j_icmp_ge 117 C dX7_goBack_92 rfl h (fun h => ?_) (fun h => ?_)
    · refine j_aload_n C dX7_goBack_117 0 rfl ?_
      refine gf_X7_9 C dX7_goBack_118 ?_
      refine j_iload_n C dX7_goBack_121 1 rfl ?_
      refine j_iconst (v := (-1)) C dX7_goBack_122 (by decide) ?_
      refine as_wM_1 C h.1 dX7_goBack_123 ?_
      replace h := h.2
      exact j_vret C dX7_goBack_124 h
    · refine j_aload_n C dX7_goBack_95 0 rfl ?_
      refine gf_X7_17 C dX7_goBack_96 ?_
      refine j_iload C dX7_goBack_99 3 rfl ?_
      refine j_iconst (v := 0) C dX7_goBack_101 (by decide) ?_
      refine as_wM_3 C h.1 dX7_goBack_102 ?_
      replace h := h.2
      refine j_aload_n C dX7_goBack_103 0 rfl ?_
      refine gf_X7_20 C dX7_goBack_104 ?_
      refine j_iload C dX7_goBack_107 3 rfl ?_
      refine j_iconst (v := (-1)) C dX7_goBack_109 (by decide) ?_
      refine as_wM_4 C h.1 dX7_goBack_110 ?_
      replace h := h.2
      refine j_iinc (lv' := [(5, .int (x5 + 1)), (0, .ref (ad 0)), (1, .int x1), (4, .int x4)]) (x5 + 1) C dX7_goBack_111 3 rfl rfl (by decide) rfl ?_
      refine j_goto 88 C dX7_goBack_114 rfl ?_
      refine j_sub (lv' := [(0, .ref (ad 0)), (1, .int x1), (4, .int x4), (5, .int (x5 + 1))]) [1, 2, 3, 0] rfl ?_
      exact h
  have k85 : ∀ (x1 : Int32), ∀ (x3 : Int32), ∀ (x4 : Int32), ∀ (σ : SS), wX7_goBack_b85 x1 x3 x4 σ Q → J p l e { frames := 1, cells := 0, slots := 0, locals := 22 } s m args below meth c D (wM cI cJ cZ ad) A 7 (MQ below (va_Qv Q (WW D (tys cI cJ cZ) (wM cI cJ cZ ad)) A) args s 0 0 A) σ 85 [(0, .ref (ad 0)), (1, .int x1), (3, .int x3), (4, .int x4)] [] := by
    intro x1 x3 x4 σ h
    refine j_iload_n C dX7_goBack_85 2 rfl ?_
    refine j_istore (lv' := [(5, .int x3), (0, .ref (ad 0)), (1, .int x1), (3, .int x3), (4, .int x4)]) C dX7_goBack_86 (by decide) rfl ?_
    refine j_sub (lv' := [(0, .ref (ad 0)), (1, .int x1), (4, .int x4), (5, .int x3)]) [1, 2, 4, 0] rfl ?_
    exact k88 _ _ _ _ h
  refine j_aload_n C dX7_goBack_0 0 rfl ?_
  refine gf_X7_9 C dX7_goBack_1 ?_
  refine j_iload_n C dX7_goBack_4 1 rfl ?_
  refine al_wM_1 C h.1 dX7_goBack_5 ?_
  replace h := h.2
  refine j_istore_n (lv' := [(2, .int (gA σ0 0 x1.toNatClampNeg)), (0, .ref (ad 0)), (1, .int x1)]) C dX7_goBack_6 (by decide) rfl ?_
  refine j_bipush (v := 64) C dX7_goBack_7 (by decide) ?_
  refine j_iload_n C dX7_goBack_9 2 rfl ?_
  refine j_imul C dX7_goBack_10 ?_
  refine j_istore_n (lv' := [(3, .int (64 * x1)), (2, .int (gA σ0 0 x1.toNatClampNeg)), (0, .ref (ad 0)), (1, .int x1)]) C dX7_goBack_11 (by decide) rfl ?_
  refine j_iload_n C dX7_goBack_12 0 rfl ?_
  refine j_bipush (v := 64) C dX7_goBack_13 (by decide) ?_
  refine j_iadd C dX7_goBack_15 ?_
  refine j_istore (lv' := [(4, .int ((64 * x1) + 64)), (3, .int (64 * x1)), (2, .int (gA σ0 0 x1.toNatClampNeg)), (0, .ref (ad 0)), (1, .int x1)]) C dX7_goBack_16 (by decide) rfl ?_
  refine j_aload_n C dX7_goBack_18 3 rfl ?_
  refine gf_X7_23 C dX7_goBack_19 ?_
  refine j_iload_n C dX7_goBack_22 2 rfl ?_
  refine al_wM_5 C h.1 dX7_goBack_23 ?_
  replace h := h.2
  refine j_iconst (v := 1) C dX7_goBack_24 (by decide) ?_
  refine j_icmp_le 85 C dX7_goBack_25 rfl h (fun h => ?_) (fun h => ?_)
  · refine j_sub (lv' := [(0, .ref (ad 0)), (1, .int x1), (3, .int (64 * x1)), (4, .int ((64 * x1) + 64))]) [3, 4, 1, 0] rfl ?_
    exact k85 _ _ _ _ h
  · refine j_aload_n C dX7_goBack_28 3 rfl ?_
    refine j_iload_n C dX7_goBack_29 1 rfl ?_
    refine j_callpi 0 [.int (64 * x1)] [] C (kX7_pieceAt_ok (64 * x1) σ0 h) (tt_V ml_X7_163 mV_X7_pieceAt) ok_X7_pieceAt ⟨by decide, by decide⟩ rfl (r_wM_0 (σ := σ0)) (Nat.le_of_ble_eq_true rfl) rfl dX7_goBack_30 (fun r30 h => ?_)
    refine j_istore (lv' := [(5, .int r30), (4, .int ((64 * x1) + 64)), (3, .int (64 * x1)), (2, .int (gA σ0 0 x1.toNatClampNeg)), (0, .ref (ad 0)), (1, .int x1)]) C dX7_goBack_33 (by decide) rfl ?_
    refine j_iload C dX7_goBack_35 0 rfl ?_
    refine j_aload_n C dX7_goBack_37 4 rfl ?_
    refine gf_X7_17 C dX7_goBack_38 ?_
    refine j_iload C dX7_goBack_41 0 rfl ?_
    refine al_wM_3 C h.1 dX7_goBack_43 ?_
    replace h := h.2
    refine j_iadd C dX7_goBack_44 ?_
    refine j_istore (lv' := [(6, .int (r30 + (gA σ0 1 r30.toNatClampNeg))), (5, .int r30), (4, .int ((64 * x1) + 64)), (3, .int (64 * x1)), (2, .int (gA σ0 0 x1.toNatClampNeg)), (0, .ref (ad 0)), (1, .int x1)]) C dX7_goBack_45 (by decide) rfl ?_
    refine j_aload_n C dX7_goBack_47 5 rfl ?_
    refine gf_X7_17 C dX7_goBack_48 ?_
    refine j_iload C dX7_goBack_51 1 rfl ?_
    refine j_iload_n C dX7_goBack_53 3 rfl ?_
    refine j_iload C dX7_goBack_54 1 rfl ?_
    refine j_isub C dX7_goBack_56 ?_
    refine as_wM_3 C h.1 dX7_goBack_57 ?_
    replace h := h.2
    refine j_iload C dX7_goBack_58 0 rfl ?_
    refine j_iload C dX7_goBack_60 2 rfl ?_
    refine j_icmp_le 85 C dX7_goBack_62 rfl h (fun h => ?_) (fun h => ?_)
    · refine j_sub (lv' := [(0, .ref (ad 0)), (1, .int x1), (3, .int (64 * x1)), (4, .int ((64 * x1) + 64))]) [5, 6, 3, 2] rfl ?_
      exact k85 _ _ _ _ h
    · refine j_aload_n C dX7_goBack_65 5 rfl ?_
      refine gf_X7_17 C dX7_goBack_66 ?_
      refine j_iload C dX7_goBack_69 2 rfl ?_
      refine j_iload C dX7_goBack_71 0 rfl ?_
      refine j_iload C dX7_goBack_73 2 rfl ?_
      refine j_isub C dX7_goBack_75 ?_
      refine as_wM_3 C h.1 dX7_goBack_76 ?_
      replace h := h.2
      refine j_aload_n C dX7_goBack_77 5 rfl ?_
      refine gf_X7_20 C dX7_goBack_78 ?_
      refine j_iload C dX7_goBack_81 2 rfl ?_
      refine j_iconst (v := (-1)) C dX7_goBack_83 (by decide) ?_
      refine as_wM_4 C h.1 dX7_goBack_84 ?_
      replace h := h.2
      obtain ⟨σ84, hs84⟩ : ∃ z, z = sA (sA (sA σ0 1 r30.toNatClampNeg ((64 * x1) - r30)) 1 ((64 * x1) + 64).toNatClampNeg ((r30 + (gA σ0 1 r30.toNatClampNeg)) - ((64 * x1) + 64))) 2 ((64 * x1) + 64).toNatClampNeg ((-1)) := ⟨_, rfl⟩
      rw [← hs84]
      replace h := h σ84 hs84
      refine j_sub (lv' := [(0, .ref (ad 0)), (1, .int x1), (3, .int (64 * x1)), (4, .int ((64 * x1) + 64))]) [5, 6, 3, 2] rfl ?_
      exact k85 _ _ _ _ h
def wX7_settle_b32 (X2 : Int32 × SS → Prop) (x1 : Int32) (σ : SS) (Q : SS → Prop) : Prop := X2 ((x1 + 1), σ)
def wX7_settle_b2 (x1 : Int32) (σ : SS) (Q : SS → Prop) : Prop := lfp (fun (X2 : Int32 × SS → Prop) (t : Int32 × SS) => ((gI t.2 0) ≤ t.1 → Q t.2) ∧ (¬ (gI t.2 0) ≤ t.1 → vp_in t.1 40 ∧ (((gA t.2 0 t.1.toNatClampNeg) < 0 → wX7_settle_b32 X2 t.1 t.2 Q) ∧ (¬ (gA t.2 0 t.1.toNatClampNeg) < 0 → wX7_isWhollyFree t.1 t.2 (fun r21 => (r21 = 0 → wX7_settle_b32 X2 t.1 t.2 Q) ∧ (¬ r21 = 0 → wX7_goBack t.1 t.2 (fun σ29 => wX7_settle_b32 X2 t.1 σ29 Q))))))) (x1, σ)
def wX7_settle (σ : SS) (Q : SS → Prop) : Prop := wX7_settle_b2 0 σ Q
set_option maxRecDepth 100000 in
set_option maxHeartbeats 4000000 in
theorem kX7_settle_ok {l : Launch} {D : va_G} {cI cJ cZ : ClassId} {ad : Nat → Nat} (σ0 : SS) {Q : SS → Prop} (h : wX7_settle σ0 Q) : Cv l yX7_settle (.code yX7_settle cX7_settle 2 none :: TT) { frames := 2, cells := 0, slots := 0, locals := 48 } D (tys cI cJ cZ) (wM cI cJ cZ ad) [.ref (ad 0)] σ0 Q := by
  refine Cv.of (lv := [(0, .ref (ad 0))]) (by decide) adM (Nat.le_of_ble_eq_true rfl) rfl ?_
  intro p e s m args below meth c A C
  have k32 : ∀ (x1 : Int32), ∀ (σ : SS), ∀ (X2 : Int32 × SS → Prop), (∀ t : Int32 × SS, X2 t → J p l e { frames := 2, cells := 0, slots := 0, locals := 48 } s m args below meth c D (wM cI cJ cZ ad) A 2 (MQ below (va_Qv Q (WW D (tys cI cJ cZ) (wM cI cJ cZ ad)) A) args s 0 0 A) t.2 2 [(0, .ref (ad 0)), (1, .int t.1)] []) → wX7_settle_b32 X2 x1 σ Q → J p l e { frames := 2, cells := 0, slots := 0, locals := 48 } s m args below meth c D (wM cI cJ cZ ad) A 2 (MQ below (va_Qv Q (WW D (tys cI cJ cZ) (wM cI cJ cZ ad)) A) args s 0 0 A) σ 32 [(0, .ref (ad 0)), (1, .int x1)] [] := by
    intro x1 σ X2 hX2 h
    refine j_iinc (lv' := [(1, .int (x1 + 1)), (0, .ref (ad 0))]) (x1 + 1) C dX7_settle_32 1 rfl rfl (by decide) rfl ?_
    refine j_goto 2 C dX7_settle_35 rfl ?_
    refine j_sub (lv' := [(0, .ref (ad 0)), (1, .int (x1 + 1))]) [1, 0] rfl ?_
    exact hX2 _ h
  have k2 : ∀ (x1 : Int32), ∀ (σ : SS), wX7_settle_b2 x1 σ Q → J p l e { frames := 2, cells := 0, slots := 0, locals := 48 } s m args below meth c D (wM cI cJ cZ ad) A 2 (MQ below (va_Qv Q (WW D (tys cI cJ cZ) (wM cI cJ cZ ad)) A) args s 0 0 A) σ 2 [(0, .ref (ad 0)), (1, .int x1)] [] := by
    intro x1 σ h
    refine h (fun t => J p l e { frames := 2, cells := 0, slots := 0, locals := 48 } s m args below meth c D (wM cI cJ cZ ad) A 2 (MQ below (va_Qv Q (WW D (tys cI cJ cZ) (wM cI cJ cZ ad)) A) args s 0 0 A) t.2 2 [(0, .ref (ad 0)), (1, .int t.1)] []) (fun t h => ?_)
    obtain ⟨x1, σ⟩ := t
    try dsimp only at h
    refine j_iload_n C dX7_settle_2 1 rfl ?_
    refine j_aload_n C dX7_settle_3 0 rfl ?_
    refine gf_X7_94 C dX7_settle_4 ?_
    refine j_icmp_ge 38 C dX7_settle_7 rfl h (fun h => ?_) (fun h => ?_)
    · exact j_vret C dX7_settle_38 h
    · refine j_aload_n C dX7_settle_10 0 rfl ?_
      refine gf_X7_9 C dX7_settle_11 ?_
      refine j_iload_n C dX7_settle_14 1 rfl ?_
      refine al_wM_1 C h.1 dX7_settle_15 ?_
      replace h := h.2
      refine j_if_lt 32 C dX7_settle_16 rfl h (fun h => ?_) (fun h => ?_)
      · refine j_sub (lv' := [(0, .ref (ad 0)), (1, .int x1)]) [0, 1] rfl ?_
        exact k32 _ _ _ (fun _ z => z) h
      · refine j_aload_n C dX7_settle_19 0 rfl ?_
        refine j_iload_n C dX7_settle_20 1 rfl ?_
        refine j_callpi 0 [.int x1] [] C (kX7_isWhollyFree_ok x1 σ h) (tt_V ml_X7_156 mV_X7_isWhollyFree) ok_X7_isWhollyFree ⟨by decide, by decide⟩ rfl (r_wM_0 (σ := σ)) (Nat.le_of_ble_eq_true rfl) rfl dX7_settle_21 (fun r21 h => ?_)
        refine j_if_eq 32 C dX7_settle_24 rfl h (fun h => ?_) (fun h => ?_)
        · refine j_sub (lv' := [(0, .ref (ad 0)), (1, .int x1)]) [0, 1] rfl ?_
          exact k32 _ _ _ (fun _ z => z) h
        · refine j_aload_n C dX7_settle_27 0 rfl ?_
          refine j_iload_n C dX7_settle_28 1 rfl ?_
          refine j_callv 0 [.int x1] [] C (kX7_goBack_ok x1 σ h) (tt_V ml_X7_160 mV_X7_goBack) ok_X7_goBack ⟨by decide, by decide⟩ rfl (r_wM_0 (σ := σ)) (Nat.le_of_ble_eq_true rfl) rfl dX7_settle_29 (fun σ29 h => ?_)
          refine j_sub (lv' := [(0, .ref (ad 0)), (1, .int x1)]) [0, 1] rfl ?_
          exact k32 _ _ _ (fun _ z => z) h
  refine j_iconst (v := 0) C dX7_settle_0 (by decide) ?_
  refine j_istore_n (lv' := [(1, .int 0), (0, .ref (ad 0))]) C dX7_settle_1 (by decide) rfl ?_
  refine j_sub (lv' := [(0, .ref (ad 0)), (1, .int 0)]) [1, 0] rfl ?_
  exact k2 _ _ h
def wX7_look (x1 : Int32) (σ : SS) (Q : Int32 → Prop) : Prop := (x1 < 0 → Q ((-4))) ∧ (¬ x1 < 0 → vp_in (x1 - x1 / 100 * 100) 100 ∧ (((x1 / 100) < (gA σ 4 (x1 - x1 / 100 * 100).toNatClampNeg) → vp_in (x1 - x1 / 100 * 100) 100 ∧ (((gA σ 5 (x1 - x1 / 100 * 100).toNatClampNeg) = 0 → Q ((-5))) ∧ (¬ (gA σ 5 (x1 - x1 / 100 * 100).toNatClampNeg) = 0 → vp_in (x1 - x1 / 100 * 100) 100 ∧ ((¬ ((gA σ 4 (x1 - x1 / 100 * 100).toNatClampNeg) - 1) = (x1 / 100) → Q ((-5))) ∧ (((gA σ 4 (x1 - x1 / 100 * 100).toNatClampNeg) - 1) = (x1 / 100) → Q 0))))) ∧ (¬ (x1 / 100) < (gA σ 4 (x1 - x1 / 100 * 100).toNatClampNeg) → Q ((-4)))))
set_option maxRecDepth 100000 in
set_option maxHeartbeats 4000000 in
theorem kX7_look_ok {l : Launch} {D : va_G} {cI cJ cZ : ClassId} {ad : Nat → Nat} (x1 : Int32) (σ0 : SS) {Q : Int32 → Prop} (h : wX7_look x1 σ0 Q) : Ci l yX7_look (.code yX7_look cX7_look 3 (some .int) :: TT) { frames := 0, cells := 0, slots := 0, locals := 0 } D (tys cI cJ cZ) (wM cI cJ cZ ad) [.ref (ad 0), .int x1] σ0 (fun r σ' => σ' = σ0 ∧ Q r) := by
  refine Ci.of (lv := [(0, .ref (ad 0)), (1, .int x1)]) (by decide) adM (Nat.le_of_ble_eq_true rfl) rfl ?_
  intro p e s m args below meth c A C
  refine j_iload_n C dX7_look_0 1 rfl ?_
  refine j_if_lt 20 C dX7_look_1 rfl h (fun h => ?_) (fun h => ?_)
  · refine j_bipush (v := (-4)) C dX7_look_20 (by decide) ?_
    exact j_iret C dX7_look_22 ⟨rfl, h⟩
  · refine j_aload_n C dX7_look_4 0 rfl ?_
    refine gf_X7_29 C dX7_look_5 ?_
    refine j_iload_n C dX7_look_8 1 rfl ?_
    refine j_bipush (v := 100) C dX7_look_9 (by decide) ?_
    refine j_irem C dX7_look_11 (by decide) ?_
    refine al_wM_7 C h.1 dX7_look_12 ?_
    replace h := h.2
    refine j_iload_n C dX7_look_13 1 rfl ?_
    refine j_bipush (v := 100) C dX7_look_14 (by decide) ?_
    refine j_idiv C dX7_look_16 (by decide) ?_
    refine j_icmp_gt 23 C dX7_look_17 rfl h (fun h => ?_) (fun h => ?_)
    · refine j_iload_n C dX7_look_23 1 rfl ?_
      refine j_bipush (v := 100) C dX7_look_24 (by decide) ?_
      refine j_irem C dX7_look_26 (by decide) ?_
      refine j_istore_n (lv' := [(2, .int (x1 - x1 / 100 * 100)), (0, .ref (ad 0)), (1, .int x1)]) C dX7_look_27 (by decide) rfl ?_
      refine j_aload_n C dX7_look_28 1 rfl ?_
      refine gf_X7_32 C dX7_look_29 ?_
      refine j_iload_n C dX7_look_32 0 rfl ?_
      refine al_wM_8 C h.1 dX7_look_33 ?_
      replace h := h.2
      refine j_if_eq 56 C dX7_look_34 rfl h (fun h => ?_) (fun h => ?_)
      · refine j_bipush (v := (-5)) C dX7_look_56 (by decide) ?_
        exact j_iret C dX7_look_58 ⟨rfl, h⟩
      · refine j_aload_n C dX7_look_37 1 rfl ?_
        refine gf_X7_29 C dX7_look_38 ?_
        refine j_iload_n C dX7_look_41 0 rfl ?_
        refine al_wM_7 C h.1 dX7_look_42 ?_
        replace h := h.2
        refine j_iconst (v := 1) C dX7_look_43 (by decide) ?_
        refine j_isub C dX7_look_44 ?_
        refine j_iload_n C dX7_look_45 2 rfl ?_
        refine j_bipush (v := 100) C dX7_look_46 (by decide) ?_
        refine j_idiv C dX7_look_48 (by decide) ?_
        refine j_icmp_ne 56 C dX7_look_49 rfl h (fun h => ?_) (fun h => ?_)
        · refine j_bipush (v := (-5)) C dX7_look_56 (by decide) ?_
          exact j_iret C dX7_look_58 ⟨rfl, h⟩
        · refine j_iconst (v := 0) C dX7_look_52 (by decide) ?_
          refine j_goto 58 C dX7_look_53 rfl ?_
          exact j_iret C dX7_look_58 ⟨rfl, h⟩
    · refine j_bipush (v := (-4)) C dX7_look_20 (by decide) ?_
      exact j_iret C dX7_look_22 ⟨rfl, h⟩
def wX7_spoilt_b47 (x1 : Int32) (x2 : Int32) (t0 : Int32) (σ : SS) (Q : Int32 → Prop) : Prop := vp_in x1 100 ∧ (vp_in x1 100 ∧ (vp_in (((gA σ 8 x1.toNatClampNeg) + 2) + (gA σ 6 x1.toNatClampNeg)) 2560 ∧ (vp_in x2 8 ∧ ((¬ (lg_cmp (gB σ 0 (((gA σ 8 x1.toNatClampNeg) + 2) + (gA σ 6 x1.toNatClampNeg)).toNatClampNeg) (gB σ 1 x2.toNatClampNeg)) = 0 → Q (t0 + 2)) ∧ ((lg_cmp (gB σ 0 (((gA σ 8 x1.toNatClampNeg) + 2) + (gA σ 6 x1.toNatClampNeg)).toNatClampNeg) (gB σ 1 x2.toNatClampNeg)) = 0 → Q (t0 + 0))))))
def wX7_spoilt (x1 : Int32) (σ : SS) (Q : Int32 → Prop) : Prop := vp_in x1 100 ∧ (vp_in (gA σ 7 x1.toNatClampNeg) 8 ∧ (((gA σ 3 (gA σ 7 x1.toNatClampNeg).toNatClampNeg) = 5 → vp_in x1 100 ∧ (vp_in ((gA σ 8 x1.toNatClampNeg) + 1) 2560 ∧ (vp_in (gA σ 7 x1.toNatClampNeg) 8 ∧ ((¬ (lg_cmp (gB σ 0 ((gA σ 8 x1.toNatClampNeg) + 1).toNatClampNeg) (gB σ 1 (gA σ 7 x1.toNatClampNeg).toNatClampNeg)) = 0 → wX7_spoilt_b47 x1 (gA σ 7 x1.toNatClampNeg) 1 σ Q) ∧ ((lg_cmp (gB σ 0 ((gA σ 8 x1.toNatClampNeg) + 1).toNatClampNeg) (gB σ 1 (gA σ 7 x1.toNatClampNeg).toNatClampNeg)) = 0 → wX7_spoilt_b47 x1 (gA σ 7 x1.toNatClampNeg) 0 σ Q))))) ∧ (¬ (gA σ 3 (gA σ 7 x1.toNatClampNeg).toNatClampNeg) = 5 → Q 0)))
set_option maxRecDepth 100000 in
set_option maxHeartbeats 4000000 in
theorem kX7_spoilt_ok {l : Launch} {D : va_G} {cI cJ cZ : ClassId} {ad : Nat → Nat} (x1 : Int32) (σ0 : SS) {Q : Int32 → Prop} (h : wX7_spoilt x1 σ0 Q) : Ci l yX7_spoilt (.code yX7_spoilt cX7_spoilt 3 (some .int) :: TT) { frames := 0, cells := 0, slots := 0, locals := 0 } D (tys cI cJ cZ) (wM cI cJ cZ ad) [.ref (ad 0), .int x1] σ0 (fun r σ' => σ' = σ0 ∧ Q r) := by
  refine Ci.of (lv := [(0, .ref (ad 0)), (1, .int x1)]) (by decide) adM (Nat.le_of_ble_eq_true rfl) rfl ?_
  intro p e s m args below meth c A C
  have k47 : ∀ (x1 : Int32), ∀ (x2 : Int32), ∀ (t0 : Int32), wX7_spoilt_b47 x1 x2 t0 σ0 Q → J p l e { frames := 0, cells := 0, slots := 0, locals := 0 } s m args below meth c D (wM cI cJ cZ ad) A 3 (MQ below (va_Qi (fun r σ' => σ' = σ0 ∧ Q r) (WW D (tys cI cJ cZ) (wM cI cJ cZ ad)) A) args s 0 0 A) σ0 47 [(0, .ref (ad 0)), (1, .int x1), (2, .int x2)] [.int t0] := by
    intro x1 x2 t0 h
    refine j_aload_n C dX7_spoilt_47 0 rfl ?_
    refine gf_X7_13 C dX7_spoilt_48 ?_
    refine j_aload_n C dX7_spoilt_51 0 rfl ?_
    refine gf_X7_42 C dX7_spoilt_52 ?_
    refine j_iload_n C dX7_spoilt_55 1 rfl ?_
    refine al_wM_11 C h.1 dX7_spoilt_56 ?_
    replace h := h.2
    refine j_iconst (v := 2) C dX7_spoilt_57 (by decide) ?_
    refine j_iadd C dX7_spoilt_58 ?_
    refine j_aload_n C dX7_spoilt_59 0 rfl ?_
    refine gf_X7_36 C dX7_spoilt_60 ?_
    refine j_iload_n C dX7_spoilt_63 1 rfl ?_
    refine al_wM_9 C h.1 dX7_spoilt_64 ?_
    replace h := h.2
    refine j_iadd C dX7_spoilt_65 ?_
    refine al_wM_2 C h.1 dX7_spoilt_66 ?_
    replace h := h.2
    refine j_aload_n C dX7_spoilt_67 0 rfl ?_
    refine gf_X7_26 C dX7_spoilt_68 ?_
    refine j_iload_n C dX7_spoilt_71 2 rfl ?_
    refine al_wM_6 C h.1 dX7_spoilt_72 ?_
    replace h := h.2
    refine j_lcmp C dX7_spoilt_73 ?_
    refine j_if_ne 81 C dX7_spoilt_74 rfl h (fun h => ?_) (fun h => ?_)
    · refine j_iconst (v := 2) C dX7_spoilt_81 (by decide) ?_
      refine j_iadd C dX7_spoilt_82 ?_
      exact j_iret C dX7_spoilt_83 ⟨rfl, h⟩
    · refine j_iconst (v := 0) C dX7_spoilt_77 (by decide) ?_
      refine j_goto 82 C dX7_spoilt_78 rfl ?_
      refine j_iadd C dX7_spoilt_82 ?_
      exact j_iret C dX7_spoilt_83 ⟨rfl, h⟩
  refine j_aload_n C dX7_spoilt_0 0 rfl ?_
  refine gf_X7_39 C dX7_spoilt_1 ?_
  refine j_iload_n C dX7_spoilt_4 1 rfl ?_
  refine al_wM_10 C h.1 dX7_spoilt_5 ?_
  replace h := h.2
  refine j_istore_n (lv' := [(2, .int (gA σ0 7 x1.toNatClampNeg)), (0, .ref (ad 0)), (1, .int x1)]) C dX7_spoilt_6 (by decide) rfl ?_
  refine j_aload_n C dX7_spoilt_7 1 rfl ?_
  refine gf_X7_23 C dX7_spoilt_8 ?_
  refine j_iload_n C dX7_spoilt_11 0 rfl ?_
  refine al_wM_5 C h.1 dX7_spoilt_12 ?_
  replace h := h.2
  refine j_iconst (v := 5) C dX7_spoilt_13 (by decide) ?_
  refine j_icmp_eq 19 C dX7_spoilt_14 rfl h (fun h => ?_) (fun h => ?_)
  · refine j_aload_n C dX7_spoilt_19 1 rfl ?_
    refine gf_X7_13 C dX7_spoilt_20 ?_
    refine j_aload_n C dX7_spoilt_23 1 rfl ?_
    refine gf_X7_42 C dX7_spoilt_24 ?_
    refine j_iload_n C dX7_spoilt_27 2 rfl ?_
    refine al_wM_11 C h.1 dX7_spoilt_28 ?_
    replace h := h.2
    refine j_iconst (v := 1) C dX7_spoilt_29 (by decide) ?_
    refine j_iadd C dX7_spoilt_30 ?_
    refine al_wM_2 C h.1 dX7_spoilt_31 ?_
    replace h := h.2
    refine j_aload_n C dX7_spoilt_32 1 rfl ?_
    refine gf_X7_26 C dX7_spoilt_33 ?_
    refine j_iload_n C dX7_spoilt_36 0 rfl ?_
    refine al_wM_6 C h.1 dX7_spoilt_37 ?_
    replace h := h.2
    refine j_lcmp C dX7_spoilt_38 ?_
    refine j_if_ne 46 C dX7_spoilt_39 rfl h (fun h => ?_) (fun h => ?_)
    · refine j_iconst (v := 1) C dX7_spoilt_46 (by decide) ?_
      refine j_sub (lv' := [(0, .ref (ad 0)), (1, .int x1), (2, .int (gA σ0 7 x1.toNatClampNeg))]) [1, 2, 0] rfl ?_
      exact k47 _ _ _ h
    · refine j_iconst (v := 0) C dX7_spoilt_42 (by decide) ?_
      refine j_goto 47 C dX7_spoilt_43 rfl ?_
      refine j_sub (lv' := [(0, .ref (ad 0)), (1, .int x1), (2, .int (gA σ0 7 x1.toNatClampNeg))]) [1, 2, 0] rfl ?_
      exact k47 _ _ _ h
  · refine j_iconst (v := 0) C dX7_spoilt_17 (by decide) ?_
    exact j_iret C dX7_spoilt_18 ⟨rfl, h⟩
def wX7_want_b76 (x1 : Int32) (x2 : Int32) (x3 : Int32) (x4 : Int32) (σ : SS) (Q : Int32 → SS → Prop) : Prop := lfp (fun (X76 : Int32 → Prop) (t : Int32) => vp_in t 100 ∧ (((gA σ 5 t.toNatClampNeg) = 0 → vp_in t 100 ∧ (vp_in t 100 ∧ (vp_in t 100 ∧ (∀ σ118 : SS, σ118 = sI (sA (sA σ 5 t.toNatClampNeg (vp_nar .boolean 1)) 4 t.toNatClampNeg ((gA (sA σ 5 t.toNatClampNeg (vp_nar .boolean 1)) 4 t.toNatClampNeg) + 1)) 2 ((gI (sA (sA σ 5 t.toNatClampNeg (vp_nar .boolean 1)) 4 t.toNatClampNeg ((gA (sA σ 5 t.toNatClampNeg (vp_nar .boolean 1)) 4 t.toNatClampNeg) + 1)) 2) + 1) → (wX7_have t x1 x3 x2 σ118 (fun σ127 => wX7_settle σ127 (fun σ131 => vp_in t 100 ∧ (Q ((100 * ((gA σ131 4 t.toNatClampNeg) - 1)) + t) σ131)))))))) ∧ (¬ (gA σ 5 t.toNatClampNeg) = 0 → X76 ((t + 1))))) x4
def wX7_want_b61 (x1 : Int32) (x2 : Int32) (t0 : Int32) (σ : SS) (Q : Int32 → SS → Prop) : Prop := (0 ≤ t0 → wX7_want_b76 x1 x2 t0 0 σ Q) ∧ (¬ 0 ≤ t0 → wX7_answer ((-6)) σ (fun r69 σ69 => Q r69 σ69))
def wX7_want_b38 (t0 : Int32) (σ : SS) (Q : Int32 → SS → Prop) : Prop := wX7_answer t0 σ (fun r38 σ38 => Q r38 σ38)
def wX7_want_b27 (x2 : Int32) (σ : SS) (Q : Int32 → SS → Prop) : Prop := (0 ≤ x2 → wX7_want_b38 ((-1)) σ Q) ∧ (¬ 0 ≤ x2 → wX7_want_b38 ((-3)) σ Q)
def wX7_want (x1 : Int32) (x2 : Int32) (σ : SS) (Q : Int32 → SS → Prop) : Prop := wX7_isZone x1 σ (fun r2 => (¬ r2 = 0 → (x2 < 0 → wX7_want_b27 x2 σ Q) ∧ (¬ x2 < 0 → wX7_most x1 σ (fun r21 => (x2 ≤ r21 → (¬ (gI σ 2) = 100 → wX7_taken x1 x2 σ (fun r58 σ58 => wX7_want_b61 x1 x2 r58 σ58 Q)) ∧ ((gI σ 2) = 100 → wX7_want_b61 x1 x2 ((-1)) σ Q)) ∧ (¬ x2 ≤ r21 → wX7_want_b27 x2 σ Q)))) ∧ (r2 = 0 → wX7_answer ((-1)) σ (fun r10 σ10 => Q r10 σ10)))
set_option maxRecDepth 100000 in
set_option maxHeartbeats 4000000 in
theorem kX7_want_ok {l : Launch} {D : va_G} {cI cJ cZ : ClassId} {ad : Nat → Nat} (x1 : Int32) (x2 : Int32) (σ0 : SS) {Q : Int32 → SS → Prop} (h : wX7_want x1 x2 σ0 Q) : Ci l yX7_want (.code yX7_want cX7_want 5 (some .int) :: TT) { frames := 5, cells := 0, slots := 0, locals := 120 } D (tys cI cJ cZ) (wM cI cJ cZ ad) [.ref (ad 0), .int x1, .int x2] σ0 Q := by
  refine Ci.of (lv := [(0, .ref (ad 0)), (1, .int x1), (2, .int x2)]) (by decide) adM (Nat.le_of_ble_eq_true rfl) rfl ?_
  intro p e s m args below meth c A C
  have k76 : ∀ (x1 : Int32), ∀ (x2 : Int32), ∀ (x3 : Int32), ∀ (x4 : Int32), ∀ (σ : SS), wX7_want_b76 x1 x2 x3 x4 σ Q → J p l e { frames := 5, cells := 0, slots := 0, locals := 120 } s m args below meth c D (wM cI cJ cZ ad) A 5 (MQ below (va_Qi Q (WW D (tys cI cJ cZ) (wM cI cJ cZ ad)) A) args s 0 0 A) σ 76 [(0, .ref (ad 0)), (1, .int x1), (2, .int x2), (3, .int x3), (4, .int x4)] [] := by
    intro x1 x2 x3 x4 σ h
    refine h (fun t => J p l e { frames := 5, cells := 0, slots := 0, locals := 120 } s m args below meth c D (wM cI cJ cZ ad) A 5 (MQ below (va_Qi Q (WW D (tys cI cJ cZ) (wM cI cJ cZ ad)) A) args s 0 0 A) σ 76 [(0, .ref (ad 0)), (1, .int x1), (2, .int x2), (3, .int x3), (4, .int t)] []) (fun t h => ?_)
    obtain ⟨x4, rfl⟩ : ∃ z, z = t := ⟨_, rfl⟩
    try dsimp only at h
    refine j_aload_n C dX7_want_76 0 rfl ?_
    refine gf_X7_32 C dX7_want_77 ?_
    refine j_iload C dX7_want_80 4 rfl ?_
    refine al_wM_8 C h.1 dX7_want_82 ?_
    replace h := h.2
    refine j_if_eq 92 C dX7_want_83 rfl h (fun h => ?_) (fun h => ?_)
    · refine j_aload_n C dX7_want_92 0 rfl ?_
      refine gf_X7_32 C dX7_want_93 ?_
      refine j_iload C dX7_want_96 4 rfl ?_
      refine j_iconst (v := 1) C dX7_want_98 (by decide) ?_
      refine as_wM_8 C h.1 dX7_want_99 ?_
      replace h := h.2
      refine j_aload_n C dX7_want_100 0 rfl ?_
      refine gf_X7_29 C dX7_want_101 ?_
      refine j_iload C dX7_want_104 4 rfl ?_
      refine j_dup2 C dX7_want_106 rfl rfl ?_
      refine al_wM_7 C h.1 dX7_want_107 ?_
      replace h := h.2
      refine j_iconst (v := 1) C dX7_want_108 (by decide) ?_
      refine j_iadd C dX7_want_109 ?_
      refine as_wM_7 C h.1 dX7_want_110 ?_
      replace h := h.2
      refine j_aload_n C dX7_want_111 0 rfl ?_
      refine j_dup C dX7_want_112 rfl ?_
      refine gf_X7_101 C dX7_want_113 ?_
      refine j_iconst (v := 1) C dX7_want_116 (by decide) ?_
      refine j_iadd C dX7_want_117 ?_
      refine pf_X7_101 C dX7_want_118 ?_
      obtain ⟨σ118, hs118⟩ : ∃ z, z = sI (sA (sA σ 5 x4.toNatClampNeg (vp_nar .boolean 1)) 4 x4.toNatClampNeg ((gA (sA σ 5 x4.toNatClampNeg (vp_nar .boolean 1)) 4 x4.toNatClampNeg) + 1)) 2 ((gI (sA (sA σ 5 x4.toNatClampNeg (vp_nar .boolean 1)) 4 x4.toNatClampNeg ((gA (sA σ 5 x4.toNatClampNeg (vp_nar .boolean 1)) 4 x4.toNatClampNeg) + 1)) 2) + 1) := ⟨_, rfl⟩
      rw [← hs118]
      replace h := h σ118 hs118
      refine j_aload_n C dX7_want_121 0 rfl ?_
      refine j_iload C dX7_want_122 4 rfl ?_
      refine j_iload_n C dX7_want_124 1 rfl ?_
      refine j_iload_n C dX7_want_125 3 rfl ?_
      refine j_iload_n C dX7_want_126 2 rfl ?_
      refine j_callv 0 [.int x4, .int x1, .int x3, .int x2] [] C (kX7_have_ok x4 x1 x3 x2 σ118 h) (tt_V ml_X7_175 mV_X7_have) ok_X7_have ⟨by decide, by decide⟩ rfl (r_wM_0 (σ := σ118)) (Nat.le_of_ble_eq_true rfl) rfl dX7_want_127 (fun σ127 h => ?_)
      refine j_aload_n C dX7_want_130 0 rfl ?_
      refine j_callv 0 [] [] C (kX7_settle_ok σ127 h) (tt_V ml_X7_179 mV_X7_settle) ok_X7_settle ⟨by decide, by decide⟩ rfl (r_wM_0 (σ := σ127)) (Nat.le_of_ble_eq_true rfl) rfl dX7_want_131 (fun σ131 h => ?_)
      refine j_bipush (v := 100) C dX7_want_134 (by decide) ?_
      refine j_aload_n C dX7_want_136 0 rfl ?_
      refine gf_X7_29 C dX7_want_137 ?_
      refine j_iload C dX7_want_140 4 rfl ?_
      refine al_wM_7 C h.1 dX7_want_142 ?_
      replace h := h.2
      refine j_iconst (v := 1) C dX7_want_143 (by decide) ?_
      refine j_isub C dX7_want_144 ?_
      refine j_imul C dX7_want_145 ?_
      refine j_iload C dX7_want_146 4 rfl ?_
      refine j_iadd C dX7_want_148 ?_
      exact j_iret C dX7_want_149 h
    · refine j_iinc (lv' := [(4, .int (x4 + 1)), (0, .ref (ad 0)), (1, .int x1), (2, .int x2), (3, .int x3)]) (x4 + 1) C dX7_want_86 4 rfl rfl (by decide) rfl ?_
      refine j_goto 76 C dX7_want_89 rfl ?_
      refine j_sub (lv' := [(0, .ref (ad 0)), (1, .int x1), (2, .int x2), (3, .int x3), (4, .int (x4 + 1))]) [1, 2, 3, 4, 0] rfl ?_
      exact h
  have k61 : ∀ (x1 : Int32), ∀ (x2 : Int32), ∀ (t0 : Int32), ∀ (σ : SS), wX7_want_b61 x1 x2 t0 σ Q → J p l e { frames := 5, cells := 0, slots := 0, locals := 120 } s m args below meth c D (wM cI cJ cZ ad) A 5 (MQ below (va_Qi Q (WW D (tys cI cJ cZ) (wM cI cJ cZ ad)) A) args s 0 0 A) σ 61 [(0, .ref (ad 0)), (1, .int x1), (2, .int x2)] [.int t0] := by
    intro x1 x2 t0 σ h
    refine j_istore_n (lv' := [(3, .int t0), (0, .ref (ad 0)), (1, .int x1), (2, .int x2)]) C dX7_want_61 (by decide) rfl ?_
    refine j_iload_n C dX7_want_62 0 rfl ?_
    refine j_if_ge 73 C dX7_want_63 rfl h (fun h => ?_) (fun h => ?_)
    · refine j_iconst (v := 0) C dX7_want_73 (by decide) ?_
      refine j_istore (lv' := [(4, .int 0), (3, .int t0), (0, .ref (ad 0)), (1, .int x1), (2, .int x2)]) C dX7_want_74 (by decide) rfl ?_
      refine j_sub (lv' := [(0, .ref (ad 0)), (1, .int x1), (2, .int x2), (3, .int t0), (4, .int 0)]) [2, 3, 4, 1, 0] rfl ?_
      exact k76 _ _ _ _ _ h
    · refine j_aload_n C dX7_want_66 1 rfl ?_
      refine j_bipush (v := (-6)) C dX7_want_67 (by decide) ?_
      refine j_calli 0 [.int ((-6))] [] C (kX7_answer_ok ((-6)) σ h) (tt_V ml_X7_90 mV_X7_answer) ok_X7_answer ⟨by decide, by decide⟩ rfl (r_wM_0 (σ := σ)) (Nat.le_of_ble_eq_true rfl) rfl dX7_want_69 (fun r69 σ69 h => ?_)
      exact j_iret C dX7_want_72 h
  have k38 : ∀ (t0 : Int32), ∀ (σ : SS), wX7_want_b38 t0 σ Q → J p l e { frames := 5, cells := 0, slots := 0, locals := 120 } s m args below meth c D (wM cI cJ cZ ad) A 5 (MQ below (va_Qi Q (WW D (tys cI cJ cZ) (wM cI cJ cZ ad)) A) args s 0 0 A) σ 38 [] [.int t0, .ref (ad 0)] := by
    intro t0 σ h
    refine j_calli 0 [.int t0] [] C (kX7_answer_ok t0 σ h) (tt_V ml_X7_90 mV_X7_answer) ok_X7_answer ⟨by decide, by decide⟩ rfl (r_wM_0 (σ := σ)) (Nat.le_of_ble_eq_true rfl) rfl dX7_want_38 (fun r38 σ38 h => ?_)
    exact j_iret C dX7_want_41 h
  have k27 : ∀ (x2 : Int32), ∀ (σ : SS), wX7_want_b27 x2 σ Q → J p l e { frames := 5, cells := 0, slots := 0, locals := 120 } s m args below meth c D (wM cI cJ cZ ad) A 5 (MQ below (va_Qi Q (WW D (tys cI cJ cZ) (wM cI cJ cZ ad)) A) args s 0 0 A) σ 27 [(0, .ref (ad 0)), (2, .int x2)] [] := by
    intro x2 σ h
    refine j_aload_n C dX7_want_27 0 rfl ?_
    refine j_iload_n C dX7_want_28 1 rfl ?_
    refine j_if_ge 37 C dX7_want_29 rfl h (fun h => ?_) (fun h => ?_)
    · refine j_iconst (v := (-1)) C dX7_want_37 (by decide) ?_
      refine j_sub (lv' := []) [] rfl ?_
      exact k38 _ _ h
    · refine j_bipush (v := (-3)) C dX7_want_32 (by decide) ?_
      refine j_goto 38 C dX7_want_34 rfl ?_
      refine j_sub (lv' := []) [] rfl ?_
      exact k38 _ _ h
  refine j_aload_n C dX7_want_0 0 rfl ?_
  refine j_iload_n C dX7_want_1 1 rfl ?_
  refine j_callpi 0 [.int x1] [] C (kX7_isZone_ok x1 σ0 h) (tt_V ml_X7_166 mV_X7_isZone) ok_X7_isZone ⟨by decide, by decide⟩ rfl (r_wM_0 (σ := σ0)) (Nat.le_of_ble_eq_true rfl) rfl dX7_want_2 (fun r2 h => ?_)
  refine j_if_ne 14 C dX7_want_5 rfl h (fun h => ?_) (fun h => ?_)
  · refine j_iload_n C dX7_want_14 2 rfl ?_
    refine j_if_lt 27 C dX7_want_15 rfl h (fun h => ?_) (fun h => ?_)
    · refine j_sub (lv' := [(0, .ref (ad 0)), (2, .int x2)]) [0, 2] rfl ?_
      exact k27 _ _ h
    · refine j_iload_n C dX7_want_18 2 rfl ?_
      refine j_aload_n C dX7_want_19 0 rfl ?_
      refine j_iload_n C dX7_want_20 1 rfl ?_
      refine j_callpi 0 [.int x1] [.int x2] C (kX7_most_ok x1 σ0 h) (tt_V ml_X7_169 mV_X7_most) ok_X7_most ⟨by decide, by decide⟩ rfl (r_wM_0 (σ := σ0)) (Nat.le_of_ble_eq_true rfl) rfl dX7_want_21 (fun r21 h => ?_)
      refine j_icmp_le 42 C dX7_want_24 rfl h (fun h => ?_) (fun h => ?_)
      · refine j_aload_n C dX7_want_42 0 rfl ?_
        refine gf_X7_101 C dX7_want_43 ?_
        refine j_bipush (v := 100) C dX7_want_46 (by decide) ?_
        refine j_icmp_ne 55 C dX7_want_48 rfl h (fun h => ?_) (fun h => ?_)
        · refine j_aload_n C dX7_want_55 0 rfl ?_
          refine j_iload_n C dX7_want_56 1 rfl ?_
          refine j_iload_n C dX7_want_57 2 rfl ?_
          refine j_calli 0 [.int x1, .int x2] [] C (kX7_taken_ok x1 x2 σ0 h) (tt_V ml_X7_172 mV_X7_taken) ok_X7_taken ⟨by decide, by decide⟩ rfl (r_wM_0 (σ := σ0)) (Nat.le_of_ble_eq_true rfl) rfl dX7_want_58 (fun r58 σ58 h => ?_)
          refine j_sub (lv' := [(0, .ref (ad 0)), (1, .int x1), (2, .int x2)]) [0, 1, 2] rfl ?_
          exact k61 _ _ _ _ h
        · refine j_iconst (v := (-1)) C dX7_want_51 (by decide) ?_
          refine j_goto 61 C dX7_want_52 rfl ?_
          refine j_sub (lv' := [(0, .ref (ad 0)), (1, .int x1), (2, .int x2)]) [0, 1, 2] rfl ?_
          exact k61 _ _ _ _ h
      · refine j_sub (lv' := [(0, .ref (ad 0)), (2, .int x2)]) [0, 2] rfl ?_
        exact k27 _ _ h
  · refine j_aload_n C dX7_want_8 0 rfl ?_
    refine j_iconst (v := (-1)) C dX7_want_9 (by decide) ?_
    refine j_calli 0 [.int ((-1))] [] C (kX7_answer_ok ((-1)) σ0 h) (tt_V ml_X7_90 mV_X7_answer) ok_X7_answer ⟨by decide, by decide⟩ rfl (r_wM_0 (σ := σ0)) (Nat.le_of_ble_eq_true rfl) rfl dX7_want_10 (fun r10 σ10 h => ?_)
    exact j_iret C dX7_want_13 h
def wX7_give_b42 (t0 : Int32) (σ : SS) (Q : Int32 → SS → Prop) : Prop := wX7_answer t0 σ (fun r42 σ42 => Q r42 σ42)
def wX7_give_b31 (x2 : Int32) (σ : SS) (Q : Int32 → SS → Prop) : Prop := (0 ≤ x2 → wX7_give_b42 ((-8)) σ Q) ∧ (¬ 0 ≤ x2 → wX7_give_b42 x2 σ Q)
def wX7_give_b18 (x2 : Int32) (t0 : Int32) (σ : SS) (Q : Int32 → SS → Prop) : Prop := (x2 < 0 → wX7_give_b31 x2 σ Q) ∧ (¬ x2 < 0 → wX7_spoilt t0 σ (fun r25 => (r25 = 0 → vp_in t0 100 ∧ (vp_in t0 100 ∧ (vp_in t0 100 ∧ (wX7_release (gA (sI (sA σ 5 t0.toNatClampNeg (vp_nar .boolean 0)) 2 ((gI (sA σ 5 t0.toNatClampNeg (vp_nar .boolean 0)) 2) - 1)) 7 t0.toNatClampNeg) (gA (sI (sA σ 5 t0.toNatClampNeg (vp_nar .boolean 0)) 2 ((gI (sA σ 5 t0.toNatClampNeg (vp_nar .boolean 0)) 2) - 1)) 8 t0.toNatClampNeg) (sI (sA σ 5 t0.toNatClampNeg (vp_nar .boolean 0)) 2 ((gI (sA σ 5 t0.toNatClampNeg (vp_nar .boolean 0)) 2) - 1)) (fun σ76 => wX7_settle σ76 (fun σ80 => vp_in t0 100 ∧ (Q (gA σ80 6 t0.toNatClampNeg) σ80))))))) ∧ (¬ r25 = 0 → wX7_give_b31 x2 σ Q)))
def wX7_give (x1 : Int32) (σ : SS) (Q : Int32 → SS → Prop) : Prop := wX7_look x1 σ (fun r2 => (0 ≤ r2 → wX7_give_b18 r2 (x1 - x1 / 100 * 100) σ Q) ∧ (¬ 0 ≤ r2 → wX7_give_b18 r2 0 σ Q))
set_option maxRecDepth 100000 in
set_option maxHeartbeats 4000000 in
theorem kX7_give_ok {l : Launch} {D : va_G} {cI cJ cZ : ClassId} {ad : Nat → Nat} (x1 : Int32) (σ0 : SS) {Q : Int32 → SS → Prop} (h : wX7_give x1 σ0 Q) : Ci l yX7_give (.code yX7_give cX7_give 4 (some .int) :: TT) { frames := 4, cells := 0, slots := 0, locals := 93 } D (tys cI cJ cZ) (wM cI cJ cZ ad) [.ref (ad 0), .int x1] σ0 Q := by
  refine Ci.of (lv := [(0, .ref (ad 0)), (1, .int x1)]) (by decide) adM (Nat.le_of_ble_eq_true rfl) rfl ?_
  intro p e s m args below meth c A C
  have k42 : ∀ (t0 : Int32), ∀ (σ : SS), wX7_give_b42 t0 σ Q → J p l e { frames := 4, cells := 0, slots := 0, locals := 93 } s m args below meth c D (wM cI cJ cZ ad) A 4 (MQ below (va_Qi Q (WW D (tys cI cJ cZ) (wM cI cJ cZ ad)) A) args s 0 0 A) σ 42 [] [.int t0, .ref (ad 0)] := by
    intro t0 σ h
    refine j_calli 0 [.int t0] [] C (kX7_answer_ok t0 σ h) (tt_V ml_X7_90 mV_X7_answer) ok_X7_answer ⟨by decide, by decide⟩ rfl (r_wM_0 (σ := σ)) (Nat.le_of_ble_eq_true rfl) rfl dX7_give_42 (fun r42 σ42 h => ?_)
    exact j_iret C dX7_give_45 h
  have k31 : ∀ (x2 : Int32), ∀ (σ : SS), wX7_give_b31 x2 σ Q → J p l e { frames := 4, cells := 0, slots := 0, locals := 93 } s m args below meth c D (wM cI cJ cZ ad) A 4 (MQ below (va_Qi Q (WW D (tys cI cJ cZ) (wM cI cJ cZ ad)) A) args s 0 0 A) σ 31 [(0, .ref (ad 0)), (2, .int x2)] [] := by
    intro x2 σ h
    refine j_aload_n C dX7_give_31 0 rfl ?_
    refine j_iload_n C dX7_give_32 1 rfl ?_
    refine j_if_ge 40 C dX7_give_33 rfl h (fun h => ?_) (fun h => ?_)
    · refine j_bipush (v := (-8)) C dX7_give_40 (by decide) ?_
      refine j_sub (lv' := []) [] rfl ?_
      exact k42 _ _ h
    · refine j_iload_n C dX7_give_36 1 rfl ?_
      refine j_goto 42 C dX7_give_37 rfl ?_
      refine j_sub (lv' := []) [] rfl ?_
      exact k42 _ _ h
  have k18 : ∀ (x2 : Int32), ∀ (t0 : Int32), ∀ (σ : SS), wX7_give_b18 x2 t0 σ Q → J p l e { frames := 4, cells := 0, slots := 0, locals := 93 } s m args below meth c D (wM cI cJ cZ ad) A 4 (MQ below (va_Qi Q (WW D (tys cI cJ cZ) (wM cI cJ cZ ad)) A) args s 0 0 A) σ 18 [(0, .ref (ad 0)), (2, .int x2)] [.int t0] := by
    intro x2 t0 σ h
    refine j_istore_n (lv' := [(3, .int t0), (0, .ref (ad 0)), (2, .int x2)]) C dX7_give_18 (by decide) rfl ?_
    refine j_iload_n C dX7_give_19 2 rfl ?_
    refine j_if_lt 31 C dX7_give_20 rfl h (fun h => ?_) (fun h => ?_)
    · refine j_sub (lv' := [(0, .ref (ad 0)), (2, .int x2)]) [1, 2] rfl ?_
      exact k31 _ _ h
    · refine j_aload_n C dX7_give_23 1 rfl ?_
      refine j_iload_n C dX7_give_24 0 rfl ?_
      refine j_callpi 0 [.int t0] [] C (kX7_spoilt_ok t0 σ h) (tt_V ml_X7_185 mV_X7_spoilt) ok_X7_spoilt ⟨by decide, by decide⟩ rfl (r_wM_0 (σ := σ)) (Nat.le_of_ble_eq_true rfl) rfl dX7_give_25 (fun r25 h => ?_)
      refine j_if_eq 46 C dX7_give_28 rfl h (fun h => ?_) (fun h => ?_)
      · refine j_aload_n C dX7_give_46 1 rfl ?_
        refine gf_X7_32 C dX7_give_47 ?_
        refine j_iload_n C dX7_give_50 0 rfl ?_
        refine j_iconst (v := 0) C dX7_give_51 (by decide) ?_
        refine as_wM_8 C h.1 dX7_give_52 ?_
        replace h := h.2
        refine j_aload_n C dX7_give_53 1 rfl ?_
        refine j_dup C dX7_give_54 rfl ?_
        refine gf_X7_101 C dX7_give_55 ?_
        refine j_iconst (v := 1) C dX7_give_58 (by decide) ?_
        refine j_isub C dX7_give_59 ?_
        refine pf_X7_101 C dX7_give_60 ?_
        refine j_aload_n C dX7_give_63 1 rfl ?_
        refine j_aload_n C dX7_give_64 1 rfl ?_
        refine gf_X7_39 C dX7_give_65 ?_
        refine j_iload_n C dX7_give_68 0 rfl ?_
        refine al_wM_10 C h.1 dX7_give_69 ?_
        replace h := h.2
        refine j_aload_n C dX7_give_70 1 rfl ?_
        refine gf_X7_42 C dX7_give_71 ?_
        refine j_iload_n C dX7_give_74 0 rfl ?_
        refine al_wM_11 C h.1 dX7_give_75 ?_
        replace h := h.2
        refine j_callv 0 [.int (gA (sI (sA σ 5 t0.toNatClampNeg (vp_nar .boolean 0)) 2 ((gI (sA σ 5 t0.toNatClampNeg (vp_nar .boolean 0)) 2) - 1)) 7 t0.toNatClampNeg), .int (gA (sI (sA σ 5 t0.toNatClampNeg (vp_nar .boolean 0)) 2 ((gI (sA σ 5 t0.toNatClampNeg (vp_nar .boolean 0)) 2) - 1)) 8 t0.toNatClampNeg)] [] C (kX7_release_ok (gA (sI (sA σ 5 t0.toNatClampNeg (vp_nar .boolean 0)) 2 ((gI (sA σ 5 t0.toNatClampNeg (vp_nar .boolean 0)) 2) - 1)) 7 t0.toNatClampNeg) (gA (sI (sA σ 5 t0.toNatClampNeg (vp_nar .boolean 0)) 2 ((gI (sA σ 5 t0.toNatClampNeg (vp_nar .boolean 0)) 2) - 1)) 8 t0.toNatClampNeg) (sI (sA σ 5 t0.toNatClampNeg (vp_nar .boolean 0)) 2 ((gI (sA σ 5 t0.toNatClampNeg (vp_nar .boolean 0)) 2) - 1)) h) (tt_V ml_X7_188 mV_X7_release) ok_X7_release ⟨by decide, by decide⟩ rfl (r_wM_0 (σ := sI (sA σ 5 t0.toNatClampNeg (vp_nar .boolean 0)) 2 ((gI (sA σ 5 t0.toNatClampNeg (vp_nar .boolean 0)) 2) - 1))) (Nat.le_of_ble_eq_true rfl) rfl dX7_give_76 (fun σ76 h => ?_)
        refine j_aload_n C dX7_give_79 1 rfl ?_
        refine j_callv 0 [] [] C (kX7_settle_ok σ76 h) (tt_V ml_X7_179 mV_X7_settle) ok_X7_settle ⟨by decide, by decide⟩ rfl (r_wM_0 (σ := σ76)) (Nat.le_of_ble_eq_true rfl) rfl dX7_give_80 (fun σ80 h => ?_)
        refine j_aload_n C dX7_give_83 1 rfl ?_
        refine gf_X7_36 C dX7_give_84 ?_
        refine j_iload_n C dX7_give_87 0 rfl ?_
        refine al_wM_9 C h.1 dX7_give_88 ?_
        replace h := h.2
        exact j_iret C dX7_give_89 h
      · refine j_sub (lv' := [(0, .ref (ad 0)), (2, .int x2)]) [1, 2] rfl ?_
        exact k31 _ _ h
  refine j_aload_n C dX7_give_0 0 rfl ?_
  refine j_iload_n C dX7_give_1 1 rfl ?_
  refine j_callpi 0 [.int x1] [] C (kX7_look_ok x1 σ0 h) (tt_V ml_X7_182 mV_X7_look) ok_X7_look ⟨by decide, by decide⟩ rfl (r_wM_0 (σ := σ0)) (Nat.le_of_ble_eq_true rfl) rfl dX7_give_2 (fun r2 h => ?_)
  refine j_istore_n (lv' := [(2, .int r2), (0, .ref (ad 0)), (1, .int x1)]) C dX7_give_5 (by decide) rfl ?_
  refine j_iload_n C dX7_give_6 0 rfl ?_
  refine j_if_ge 14 C dX7_give_7 rfl h (fun h => ?_) (fun h => ?_)
  · refine j_iload_n C dX7_give_14 2 rfl ?_
    refine j_bipush (v := 100) C dX7_give_15 (by decide) ?_
    refine j_irem C dX7_give_17 (by decide) ?_
    refine j_sub (lv' := [(0, .ref (ad 0)), (2, .int r2)]) [1, 0] rfl ?_
    exact k18 _ _ _ h
  · refine j_iconst (v := 0) C dX7_give_10 (by decide) ?_
    refine j_goto 18 C dX7_give_11 rfl ?_
    refine j_sub (lv' := [(0, .ref (ad 0)), (2, .int r2)]) [1, 0] rfl ?_
    exact k18 _ _ _ h
def wX7_grows (x1 : Int32) (x2 : Int32) (σ : SS) (Q : Int32 → SS → Prop) : Prop := vp_in x1 100 ∧ (vp_in x1 100 ∧ (vp_in (gA σ 7 x1.toNatClampNeg) 8 ∧ ((¬ (gA σ 3 (gA σ 7 x1.toNatClampNeg).toNatClampNeg) = 0 → vp_in (gA σ 7 x1.toNatClampNeg) 8 ∧ ((¬ (gA σ 3 (gA σ 7 x1.toNatClampNeg).toNatClampNeg) = 1 → vp_in x1 100 ∧ ((¬ (x2 - (gA σ 6 x1.toNatClampNeg)) = 0 → vp_in (gA σ 8 x1.toNatClampNeg) 2560 ∧ (wX7_isFreeAt ((gA σ 8 x1.toNatClampNeg) + (gA σ 1 (gA σ 8 x1.toNatClampNeg).toNatClampNeg)) (gA σ 7 x1.toNatClampNeg) σ (fun r86 => (r86 = 0 → Q 0 σ) ∧ (¬ r86 = 0 → vp_in ((gA σ 8 x1.toNatClampNeg) + (gA σ 1 (gA σ 8 x1.toNatClampNeg).toNatClampNeg)) 2560 ∧ (((x2 - (gA σ 6 x1.toNatClampNeg)) ≤ (gA σ 1 ((gA σ 8 x1.toNatClampNeg) + (gA σ 1 (gA σ 8 x1.toNatClampNeg).toNatClampNeg)).toNatClampNeg) → wX7_cut ((gA σ 8 x1.toNatClampNeg) + (gA σ 1 (gA σ 8 x1.toNatClampNeg).toNatClampNeg)) (x2 - (gA σ 6 x1.toNatClampNeg)) σ (fun σ111 => vp_in ((gA σ 8 x1.toNatClampNeg) + (gA σ 1 (gA σ 8 x1.toNatClampNeg).toNatClampNeg)) 2560 ∧ (vp_in (gA σ 8 x1.toNatClampNeg) 2560 ∧ (vp_in (gA σ 8 x1.toNatClampNeg) 2560 ∧ (∀ σ133 : SS, σ133 = sA (sA σ111 1 ((gA σ 8 x1.toNatClampNeg) + (gA σ 1 (gA σ 8 x1.toNatClampNeg).toNatClampNeg)).toNatClampNeg 0) 1 (gA σ 8 x1.toNatClampNeg).toNatClampNeg ((gA (sA σ111 1 ((gA σ 8 x1.toNatClampNeg) + (gA σ 1 (gA σ 8 x1.toNatClampNeg).toNatClampNeg)).toNatClampNeg 0) 1 (gA σ 8 x1.toNatClampNeg).toNatClampNeg) + (x2 - (gA σ 6 x1.toNatClampNeg))) → (Q 1 σ133)))))) ∧ (¬ (x2 - (gA σ 6 x1.toNatClampNeg)) ≤ (gA σ 1 ((gA σ 8 x1.toNatClampNeg) + (gA σ 1 (gA σ 8 x1.toNatClampNeg).toNatClampNeg)).toNatClampNeg) → Q 0 σ)))))) ∧ ((x2 - (gA σ 6 x1.toNatClampNeg)) = 0 → Q 1 σ))) ∧ ((gA σ 3 (gA σ 7 x1.toNatClampNeg).toNatClampNeg) = 1 → vp_in (gA σ 8 x1.toNatClampNeg) 2560 ∧ (((gA σ 1 (gA σ 8 x1.toNatClampNeg).toNatClampNeg) < x2 → Q 0 σ) ∧ (¬ (gA σ 1 (gA σ 8 x1.toNatClampNeg).toNatClampNeg) < x2 → Q 1 σ))))) ∧ ((gA σ 3 (gA σ 7 x1.toNatClampNeg).toNatClampNeg) = 0 → Q 1 σ))))
set_option maxRecDepth 100000 in
set_option maxHeartbeats 4000000 in
theorem kX7_grows_ok {l : Launch} {D : va_G} {cI cJ cZ : ClassId} {ad : Nat → Nat} (x1 : Int32) (x2 : Int32) (σ0 : SS) {Q : Int32 → SS → Prop} (h : wX7_grows x1 x2 σ0 Q) : Ci l yX7_grows (.code yX7_grows cX7_grows 7 (some .boolean) :: TT) { frames := 2, cells := 0, slots := 0, locals := 44 } D (tys cI cJ cZ) (wM cI cJ cZ ad) [.ref (ad 0), .int x1, .int x2] σ0 Q := by
  refine Ci.of (lv := [(0, .ref (ad 0)), (1, .int x1), (2, .int x2)]) (by decide) adM (Nat.le_of_ble_eq_true rfl) rfl ?_
  intro p e s m args below meth c A C
  refine j_aload_n C dX7_grows_0 0 rfl ?_
  refine gf_X7_39 C dX7_grows_1 ?_
  refine j_iload_n C dX7_grows_4 1 rfl ?_
  refine al_wM_10 C h.1 dX7_grows_5 ?_
  replace h := h.2
  refine j_istore_n (lv' := [(3, .int (gA σ0 7 x1.toNatClampNeg)), (0, .ref (ad 0)), (1, .int x1), (2, .int x2)]) C dX7_grows_6 (by decide) rfl ?_
  refine j_aload_n C dX7_grows_7 1 rfl ?_
  refine gf_X7_42 C dX7_grows_8 ?_
  refine j_iload_n C dX7_grows_11 2 rfl ?_
  refine al_wM_11 C h.1 dX7_grows_12 ?_
  replace h := h.2
  refine j_istore (lv' := [(4, .int (gA σ0 8 x1.toNatClampNeg)), (3, .int (gA σ0 7 x1.toNatClampNeg)), (0, .ref (ad 0)), (1, .int x1), (2, .int x2)]) C dX7_grows_13 (by decide) rfl ?_
  refine j_aload_n C dX7_grows_15 2 rfl ?_
  refine gf_X7_23 C dX7_grows_16 ?_
  refine j_iload_n C dX7_grows_19 1 rfl ?_
  refine al_wM_5 C h.1 dX7_grows_20 ?_
  replace h := h.2
  refine j_if_ne 26 C dX7_grows_21 rfl h (fun h => ?_) (fun h => ?_)
  · refine j_aload_n C dX7_grows_26 2 rfl ?_
    refine gf_X7_23 C dX7_grows_27 ?_
    refine j_iload_n C dX7_grows_30 1 rfl ?_
    refine al_wM_5 C h.1 dX7_grows_31 ?_
    replace h := h.2
    refine j_iconst (v := 1) C dX7_grows_32 (by decide) ?_
    refine j_icmp_ne 53 C dX7_grows_33 rfl h (fun h => ?_) (fun h => ?_)
    · refine j_iload_n C dX7_grows_53 4 rfl ?_
      refine j_aload_n C dX7_grows_54 2 rfl ?_
      refine gf_X7_36 C dX7_grows_55 ?_
      refine j_iload_n C dX7_grows_58 3 rfl ?_
      refine al_wM_9 C h.1 dX7_grows_59 ?_
      replace h := h.2
      refine j_isub C dX7_grows_60 ?_
      refine j_istore (lv' := [(5, .int (x2 - (gA σ0 6 x1.toNatClampNeg))), (4, .int (gA σ0 8 x1.toNatClampNeg)), (3, .int (gA σ0 7 x1.toNatClampNeg)), (0, .ref (ad 0)), (1, .int x1), (2, .int x2)]) C dX7_grows_61 (by decide) rfl ?_
      refine j_iload C dX7_grows_63 0 rfl ?_
      refine j_if_ne 70 C dX7_grows_65 rfl h (fun h => ?_) (fun h => ?_)
      · refine j_iload C dX7_grows_70 1 rfl ?_
        refine j_aload_n C dX7_grows_72 3 rfl ?_
        refine gf_X7_17 C dX7_grows_73 ?_
        refine j_iload C dX7_grows_76 1 rfl ?_
        refine al_wM_3 C h.1 dX7_grows_78 ?_
        replace h := h.2
        refine j_iadd C dX7_grows_79 ?_
        refine j_istore (lv' := [(6, .int ((gA σ0 8 x1.toNatClampNeg) + (gA σ0 1 (gA σ0 8 x1.toNatClampNeg).toNatClampNeg))), (5, .int (x2 - (gA σ0 6 x1.toNatClampNeg))), (4, .int (gA σ0 8 x1.toNatClampNeg)), (3, .int (gA σ0 7 x1.toNatClampNeg)), (0, .ref (ad 0)), (1, .int x1), (2, .int x2)]) C dX7_grows_80 (by decide) rfl ?_
        refine j_aload_n C dX7_grows_82 4 rfl ?_
        refine j_iload C dX7_grows_83 0 rfl ?_
        refine j_iload_n C dX7_grows_85 3 rfl ?_
        refine j_callpi 0 [.int ((gA σ0 8 x1.toNatClampNeg) + (gA σ0 1 (gA σ0 8 x1.toNatClampNeg).toNatClampNeg)), .int (gA σ0 7 x1.toNatClampNeg)] [] C (kX7_isFreeAt_ok ((gA σ0 8 x1.toNatClampNeg) + (gA σ0 1 (gA σ0 8 x1.toNatClampNeg).toNatClampNeg)) (gA σ0 7 x1.toNatClampNeg) σ0 h) (tt_V ml_X7_121 mV_X7_isFreeAt) ok_X7_isFreeAt ⟨by decide, by decide⟩ rfl (r_wM_0 (σ := σ0)) (Nat.le_of_ble_eq_true rfl) rfl dX7_grows_86 (fun r86 h => ?_)
        refine j_if_eq 104 C dX7_grows_89 rfl h (fun h => ?_) (fun h => ?_)
        · refine j_iconst (v := 0) C dX7_grows_104 (by decide) ?_
          exact j_zret C dX7_grows_105 rfl h
        · refine j_aload_n C dX7_grows_92 4 rfl ?_
          refine gf_X7_17 C dX7_grows_93 ?_
          refine j_iload C dX7_grows_96 0 rfl ?_
          refine al_wM_3 C h.1 dX7_grows_98 ?_
          replace h := h.2
          refine j_iload C dX7_grows_99 1 rfl ?_
          refine j_icmp_ge 106 C dX7_grows_101 rfl h (fun h => ?_) (fun h => ?_)
          · refine j_aload_n C dX7_grows_106 4 rfl ?_
            refine j_iload C dX7_grows_107 0 rfl ?_
            refine j_iload C dX7_grows_109 1 rfl ?_
            refine j_callv 0 [.int ((gA σ0 8 x1.toNatClampNeg) + (gA σ0 1 (gA σ0 8 x1.toNatClampNeg).toNatClampNeg)), .int (x2 - (gA σ0 6 x1.toNatClampNeg))] [] C (kX7_cut_ok ((gA σ0 8 x1.toNatClampNeg) + (gA σ0 1 (gA σ0 8 x1.toNatClampNeg).toNatClampNeg)) (x2 - (gA σ0 6 x1.toNatClampNeg)) σ0 h) (tt_V ml_X7_141 mV_X7_cut) ok_X7_cut ⟨by decide, by decide⟩ rfl (r_wM_0 (σ := σ0)) (Nat.le_of_ble_eq_true rfl) rfl dX7_grows_111 (fun σ111 h => ?_)
            refine j_aload_n C dX7_grows_114 4 rfl ?_
            refine gf_X7_17 C dX7_grows_115 ?_
            refine j_iload C dX7_grows_118 0 rfl ?_
            refine j_iconst (v := 0) C dX7_grows_120 (by decide) ?_
            refine as_wM_3 C h.1 dX7_grows_121 ?_
            replace h := h.2
            refine j_aload_n C dX7_grows_122 4 rfl ?_
            refine gf_X7_17 C dX7_grows_123 ?_
            refine j_iload C dX7_grows_126 2 rfl ?_
            refine j_dup2 C dX7_grows_128 rfl rfl ?_
            refine al_wM_3 C h.1 dX7_grows_129 ?_
            replace h := h.2
            refine j_iload C dX7_grows_130 1 rfl ?_
            refine j_iadd C dX7_grows_132 ?_
            refine as_wM_3 C h.1 dX7_grows_133 ?_
            replace h := h.2
            obtain ⟨σ133, hs133⟩ : ∃ z, z = sA (sA σ111 1 ((gA σ0 8 x1.toNatClampNeg) + (gA σ0 1 (gA σ0 8 x1.toNatClampNeg).toNatClampNeg)).toNatClampNeg 0) 1 (gA σ0 8 x1.toNatClampNeg).toNatClampNeg ((gA (sA σ111 1 ((gA σ0 8 x1.toNatClampNeg) + (gA σ0 1 (gA σ0 8 x1.toNatClampNeg).toNatClampNeg)).toNatClampNeg 0) 1 (gA σ0 8 x1.toNatClampNeg).toNatClampNeg) + (x2 - (gA σ0 6 x1.toNatClampNeg))) := ⟨_, rfl⟩
            rw [← hs133]
            replace h := h σ133 hs133
            refine j_iconst (v := 1) C dX7_grows_134 (by decide) ?_
            exact j_zret C dX7_grows_135 rfl h
          · refine j_iconst (v := 0) C dX7_grows_104 (by decide) ?_
            exact j_zret C dX7_grows_105 rfl h
      · refine j_iconst (v := 1) C dX7_grows_68 (by decide) ?_
        exact j_zret C dX7_grows_69 rfl h
    · refine j_aload_n C dX7_grows_36 2 rfl ?_
      refine gf_X7_17 C dX7_grows_37 ?_
      refine j_iload C dX7_grows_40 0 rfl ?_
      refine al_wM_3 C h.1 dX7_grows_42 ?_
      replace h := h.2
      refine j_iload_n C dX7_grows_43 4 rfl ?_
      refine j_icmp_lt 51 C dX7_grows_44 rfl h (fun h => ?_) (fun h => ?_)
      · refine j_iconst (v := 0) C dX7_grows_51 (by decide) ?_
        exact j_zret C dX7_grows_52 rfl h
      · refine j_iconst (v := 1) C dX7_grows_47 (by decide) ?_
        refine j_goto 52 C dX7_grows_48 rfl ?_
        exact j_zret C dX7_grows_52 rfl h
  · refine j_iconst (v := 1) C dX7_grows_24 (by decide) ?_
    exact j_zret C dX7_grows_25 rfl h
def wX7_grow_b185 (x2 : Int32) (x4 : Int32) (x5 : Int32) (x7 : Int32) (x8 : Int32) (x9 : Int32) (σ : SS) (Q : Int32 → SS → Prop) : Prop := lfp (fun (X185 : Int32 × SS → Prop) (t : Int32 × SS) => vp_in x4 100 ∧ (((gA t.2 6 x4.toNatClampNeg) ≤ t.1 → wX7_have x4 x5 x8 x2 t.2 (fun σ243 => wX7_release x5 x7 σ243 (fun σ251 => wX7_settle σ251 (fun σ255 => Q 2 σ255)))) ∧ (¬ (gA t.2 6 x4.toNatClampNeg) ≤ t.1 → wX7_firstOf x5 x8 t.2 (fun r206 => wX7_firstOf x5 x7 t.2 (fun r221 => vp_in (r221 + t.1) 2560 ∧ (vp_in (r206 + t.1) 2560 ∧ (X185 ((t.1 + 1), sB t.2 0 (r206 + t.1).toNatClampNeg (gB t.2 0 (r221 + t.1).toNatClampNeg))))))))) (x9, σ)
def wX7_grow_b132 (x2 : Int32) (x4 : Int32) (σ : SS) (Q : Int32 → SS → Prop) : Prop := vp_in x4 100 ∧ (wX7_guard x4 (sA σ 6 x4.toNatClampNeg x2) (fun σ143 => wX7_settle σ143 (fun σ147 => Q 1 σ147)))
def wX7_grow_b78 (σ : SS) (Q : Int32 → SS → Prop) : Prop := wX7_answer ((-1)) σ (fun r80 σ80 => Q r80 σ80)
def wX7_grow_b44 (t0 : Int32) (σ : SS) (Q : Int32 → SS → Prop) : Prop := wX7_answer t0 σ (fun r44 σ44 => Q r44 σ44)
def wX7_grow_b33 (x3 : Int32) (σ : SS) (Q : Int32 → SS → Prop) : Prop := (0 ≤ x3 → wX7_grow_b44 ((-8)) σ Q) ∧ (¬ 0 ≤ x3 → wX7_grow_b44 x3 σ Q)
def wX7_grow_b18 (x2 : Int32) (x3 : Int32) (t0 : Int32) (σ : SS) (Q : Int32 → SS → Prop) : Prop := (x3 < 0 → wX7_grow_b33 x3 σ Q) ∧ (¬ x3 < 0 → wX7_spoilt t0 σ (fun r27 => (r27 = 0 → vp_in t0 100 ∧ (vp_in t0 100 ∧ ((x2 < (gA σ 6 t0.toNatClampNeg) → wX7_grow_b78 σ Q) ∧ (¬ x2 < (gA σ 6 t0.toNatClampNeg) → wX7_most (gA σ 7 t0.toNatClampNeg) σ (fun r72 => (x2 ≤ r72 → vp_in t0 100 ∧ (vp_in t0 100 ∧ (wX7_grows t0 x2 σ (fun r107 σ107 => (r107 = 0 → vp_in t0 100 ∧ (wX7_taken (gA σ 7 t0.toNatClampNeg) x2 σ107 (fun r165 σ165 => (0 ≤ r165 → wX7_grow_b185 x2 t0 (gA σ 7 t0.toNatClampNeg) (gA σ107 8 t0.toNatClampNeg) r165 0 σ165 Q) ∧ (¬ 0 ≤ r165 → wX7_answer ((-6)) σ165 (fun r178 σ178 => Q r178 σ178))))) ∧ (¬ r107 = 0 → vp_in (gA σ 7 t0.toNatClampNeg) 8 ∧ ((¬ (gA σ107 3 (gA σ 7 t0.toNatClampNeg).toNatClampNeg) = 5 → wX7_grow_b132 x2 t0 σ107 Q) ∧ ((gA σ107 3 (gA σ 7 t0.toNatClampNeg).toNatClampNeg) = 5 → vp_in (((gA σ 8 t0.toNatClampNeg) + 2) + (gA σ 6 t0.toNatClampNeg)) 2560 ∧ (wX7_grow_b132 x2 t0 (sB σ107 0 (((gA σ 8 t0.toNatClampNeg) + 2) + (gA σ 6 t0.toNatClampNeg)).toNatClampNeg 0) Q)))))))) ∧ (¬ x2 ≤ r72 → wX7_grow_b78 σ Q)))))) ∧ (¬ r27 = 0 → wX7_grow_b33 x3 σ Q)))
def wX7_grow (x1 : Int32) (x2 : Int32) (σ : SS) (Q : Int32 → SS → Prop) : Prop := wX7_look x1 σ (fun r2 => (0 ≤ r2 → wX7_grow_b18 x2 r2 (x1 - x1 / 100 * 100) σ Q) ∧ (¬ 0 ≤ r2 → wX7_grow_b18 x2 r2 0 σ Q))
set_option maxRecDepth 100000 in
set_option maxHeartbeats 4000000 in
theorem kX7_grow_ok {l : Launch} {D : va_G} {cI cJ cZ : ClassId} {ad : Nat → Nat} (x1 : Int32) (x2 : Int32) (σ0 : SS) {Q : Int32 → SS → Prop} (h : wX7_grow x1 x2 σ0 Q) : Ci l yX7_grow (.code yX7_grow cX7_grow 10 (some .int) :: TT) { frames := 5, cells := 0, slots := 0, locals := 120 } D (tys cI cJ cZ) (wM cI cJ cZ ad) [.ref (ad 0), .int x1, .int x2] σ0 Q := by
  refine Ci.of (lv := [(0, .ref (ad 0)), (1, .int x1), (2, .int x2)]) (by decide) adM (Nat.le_of_ble_eq_true rfl) rfl ?_
  intro p e s m args below meth c A C
  have k185 : ∀ (x2 : Int32), ∀ (x4 : Int32), ∀ (x5 : Int32), ∀ (x7 : Int32), ∀ (x8 : Int32), ∀ (x9 : Int32), ∀ (σ : SS), wX7_grow_b185 x2 x4 x5 x7 x8 x9 σ Q → J p l e { frames := 5, cells := 0, slots := 0, locals := 120 } s m args below meth c D (wM cI cJ cZ ad) A 10 (MQ below (va_Qi Q (WW D (tys cI cJ cZ) (wM cI cJ cZ ad)) A) args s 0 0 A) σ 185 [(0, .ref (ad 0)), (2, .int x2), (4, .int x4), (5, .int x5), (7, .int x7), (8, .int x8), (9, .int x9)] [] := by
    intro x2 x4 x5 x7 x8 x9 σ h
    refine h (fun t => J p l e { frames := 5, cells := 0, slots := 0, locals := 120 } s m args below meth c D (wM cI cJ cZ ad) A 10 (MQ below (va_Qi Q (WW D (tys cI cJ cZ) (wM cI cJ cZ ad)) A) args s 0 0 A) t.2 185 [(0, .ref (ad 0)), (2, .int x2), (4, .int x4), (5, .int x5), (7, .int x7), (8, .int x8), (9, .int t.1)] []) (fun t h => ?_)
    obtain ⟨x9, σ⟩ := t
    try dsimp only at h
    refine j_iload C dX7_grow_185 6 rfl ?_
    refine j_aload_n C dX7_grow_187 0 rfl ?_
    refine gf_X7_36 C dX7_grow_188 ?_
    refine j_iload C dX7_grow_191 2 rfl ?_
    refine al_wM_9 C h.1 dX7_grow_193 ?_
    replace h := h.2
    refine j_icmp_ge 235 C dX7_grow_194 rfl h (fun h => ?_) (fun h => ?_)
    · refine j_aload_n C dX7_grow_235 0 rfl ?_
      refine j_iload C dX7_grow_236 2 rfl ?_
      refine j_iload C dX7_grow_238 3 rfl ?_
      refine j_iload C dX7_grow_240 5 rfl ?_
      refine j_iload_n C dX7_grow_242 1 rfl ?_
      refine j_callv 0 [.int x4, .int x5, .int x8, .int x2] [] C (kX7_have_ok x4 x5 x8 x2 σ h) (tt_V ml_X7_175 mV_X7_have) ok_X7_have ⟨by decide, by decide⟩ rfl (r_wM_0 (σ := σ)) (Nat.le_of_ble_eq_true rfl) rfl dX7_grow_243 (fun σ243 h => ?_)
      refine j_aload_n C dX7_grow_246 0 rfl ?_
      refine j_iload C dX7_grow_247 3 rfl ?_
      refine j_iload C dX7_grow_249 4 rfl ?_
      refine j_callv 0 [.int x5, .int x7] [] C (kX7_release_ok x5 x7 σ243 h) (tt_V ml_X7_188 mV_X7_release) ok_X7_release ⟨by decide, by decide⟩ rfl (r_wM_0 (σ := σ243)) (Nat.le_of_ble_eq_true rfl) rfl dX7_grow_251 (fun σ251 h => ?_)
      refine j_aload_n C dX7_grow_254 0 rfl ?_
      refine j_callv 0 [] [] C (kX7_settle_ok σ251 h) (tt_V ml_X7_179 mV_X7_settle) ok_X7_settle ⟨by decide, by decide⟩ rfl (r_wM_0 (σ := σ251)) (Nat.le_of_ble_eq_true rfl) rfl dX7_grow_255 (fun σ255 h => ?_)
      refine j_iconst (v := 2) C dX7_grow_258 (by decide) ?_
      exact j_iret C dX7_grow_259 h
    · refine j_aload_n C dX7_grow_197 0 rfl ?_
      refine gf_X7_13 C dX7_grow_198 ?_
      refine j_aload_n C dX7_grow_201 0 rfl ?_
      refine j_iload C dX7_grow_202 3 rfl ?_
      refine j_iload C dX7_grow_204 5 rfl ?_
      refine j_callpi 0 [.int x5, .int x8] [.ref (ad 2)] C (kX7_firstOf_ok x5 x8 σ h) (tt_V ml_X7_194 mV_X7_firstOf) ok_X7_firstOf ⟨by decide, by decide⟩ rfl (r_wM_0 (σ := σ)) (Nat.le_of_ble_eq_true rfl) rfl dX7_grow_206 (fun r206 h => ?_)
      refine j_iload C dX7_grow_209 6 rfl ?_
      refine j_iadd C dX7_grow_211 ?_
      refine j_aload_n C dX7_grow_212 0 rfl ?_
      refine gf_X7_13 C dX7_grow_213 ?_
      refine j_aload_n C dX7_grow_216 0 rfl ?_
      refine j_iload C dX7_grow_217 3 rfl ?_
      refine j_iload C dX7_grow_219 4 rfl ?_
      refine j_callpi 0 [.int x5, .int x7] [.ref (ad 2), .int (r206 + x9), .ref (ad 2)] C (kX7_firstOf_ok x5 x7 σ h) (tt_V ml_X7_194 mV_X7_firstOf) ok_X7_firstOf ⟨by decide, by decide⟩ rfl (r_wM_0 (σ := σ)) (Nat.le_of_ble_eq_true rfl) rfl dX7_grow_221 (fun r221 h => ?_)
      refine j_iload C dX7_grow_224 6 rfl ?_
      refine j_iadd C dX7_grow_226 ?_
      refine al_wM_2 C h.1 dX7_grow_227 ?_
      replace h := h.2
      refine as_wM_2 C h.1 dX7_grow_228 ?_
      replace h := h.2
      refine j_iinc (lv' := [(9, .int (x9 + 1)), (0, .ref (ad 0)), (2, .int x2), (4, .int x4), (5, .int x5), (7, .int x7), (8, .int x8)]) (x9 + 1) C dX7_grow_229 6 rfl rfl (by decide) rfl ?_
      refine j_goto 185 C dX7_grow_232 rfl ?_
      refine j_sub (lv' := [(0, .ref (ad 0)), (2, .int x2), (4, .int x4), (5, .int x5), (7, .int x7), (8, .int x8), (9, .int (x9 + 1))]) [1, 2, 3, 4, 5, 6, 0] rfl ?_
      exact h
  have k132 : ∀ (x2 : Int32), ∀ (x4 : Int32), ∀ (σ : SS), wX7_grow_b132 x2 x4 σ Q → J p l e { frames := 5, cells := 0, slots := 0, locals := 120 } s m args below meth c D (wM cI cJ cZ ad) A 10 (MQ below (va_Qi Q (WW D (tys cI cJ cZ) (wM cI cJ cZ ad)) A) args s 0 0 A) σ 132 [(0, .ref (ad 0)), (2, .int x2), (4, .int x4)] [] := by
    intro x2 x4 σ h
    refine j_aload_n C dX7_grow_132 0 rfl ?_
    refine gf_X7_36 C dX7_grow_133 ?_
    refine j_iload C dX7_grow_136 2 rfl ?_
    refine j_iload_n C dX7_grow_138 1 rfl ?_
    refine as_wM_9 C h.1 dX7_grow_139 ?_
    replace h := h.2
    refine j_aload_n C dX7_grow_140 0 rfl ?_
    refine j_iload C dX7_grow_141 2 rfl ?_
    refine j_callv 0 [.int x4] [] C (kX7_guard_ok x4 (sA σ 6 x4.toNatClampNeg x2) h) (tt_V ml_X7_144 mV_X7_guard) ok_X7_guard ⟨by decide, by decide⟩ rfl (r_wM_0 (σ := sA σ 6 x4.toNatClampNeg x2)) (Nat.le_of_ble_eq_true rfl) rfl dX7_grow_143 (fun σ143 h => ?_)
    refine j_aload_n C dX7_grow_146 0 rfl ?_
    refine j_callv 0 [] [] C (kX7_settle_ok σ143 h) (tt_V ml_X7_179 mV_X7_settle) ok_X7_settle ⟨by decide, by decide⟩ rfl (r_wM_0 (σ := σ143)) (Nat.le_of_ble_eq_true rfl) rfl dX7_grow_147 (fun σ147 h => ?_)
    refine j_iconst (v := 1) C dX7_grow_150 (by decide) ?_
    exact j_iret C dX7_grow_151 h
  have k78 : ∀ (σ : SS), wX7_grow_b78 σ Q → J p l e { frames := 5, cells := 0, slots := 0, locals := 120 } s m args below meth c D (wM cI cJ cZ ad) A 10 (MQ below (va_Qi Q (WW D (tys cI cJ cZ) (wM cI cJ cZ ad)) A) args s 0 0 A) σ 78 [(0, .ref (ad 0))] [] := by
    intro σ h
    refine j_aload_n C dX7_grow_78 0 rfl ?_
    refine j_iconst (v := (-1)) C dX7_grow_79 (by decide) ?_
    refine j_calli 0 [.int ((-1))] [] C (kX7_answer_ok ((-1)) σ h) (tt_V ml_X7_90 mV_X7_answer) ok_X7_answer ⟨by decide, by decide⟩ rfl (r_wM_0 (σ := σ)) (Nat.le_of_ble_eq_true rfl) rfl dX7_grow_80 (fun r80 σ80 h => ?_)
    exact j_iret C dX7_grow_83 h
  have k44 : ∀ (t0 : Int32), ∀ (σ : SS), wX7_grow_b44 t0 σ Q → J p l e { frames := 5, cells := 0, slots := 0, locals := 120 } s m args below meth c D (wM cI cJ cZ ad) A 10 (MQ below (va_Qi Q (WW D (tys cI cJ cZ) (wM cI cJ cZ ad)) A) args s 0 0 A) σ 44 [] [.int t0, .ref (ad 0)] := by
    intro t0 σ h
    refine j_calli 0 [.int t0] [] C (kX7_answer_ok t0 σ h) (tt_V ml_X7_90 mV_X7_answer) ok_X7_answer ⟨by decide, by decide⟩ rfl (r_wM_0 (σ := σ)) (Nat.le_of_ble_eq_true rfl) rfl dX7_grow_44 (fun r44 σ44 h => ?_)
    exact j_iret C dX7_grow_47 h
  have k33 : ∀ (x3 : Int32), ∀ (σ : SS), wX7_grow_b33 x3 σ Q → J p l e { frames := 5, cells := 0, slots := 0, locals := 120 } s m args below meth c D (wM cI cJ cZ ad) A 10 (MQ below (va_Qi Q (WW D (tys cI cJ cZ) (wM cI cJ cZ ad)) A) args s 0 0 A) σ 33 [(0, .ref (ad 0)), (3, .int x3)] [] := by
    intro x3 σ h
    refine j_aload_n C dX7_grow_33 0 rfl ?_
    refine j_iload_n C dX7_grow_34 1 rfl ?_
    refine j_if_ge 42 C dX7_grow_35 rfl h (fun h => ?_) (fun h => ?_)
    · refine j_bipush (v := (-8)) C dX7_grow_42 (by decide) ?_
      refine j_sub (lv' := []) [] rfl ?_
      exact k44 _ _ h
    · refine j_iload_n C dX7_grow_38 1 rfl ?_
      refine j_goto 44 C dX7_grow_39 rfl ?_
      refine j_sub (lv' := []) [] rfl ?_
      exact k44 _ _ h
  have k18 : ∀ (x2 : Int32), ∀ (x3 : Int32), ∀ (t0 : Int32), ∀ (σ : SS), wX7_grow_b18 x2 x3 t0 σ Q → J p l e { frames := 5, cells := 0, slots := 0, locals := 120 } s m args below meth c D (wM cI cJ cZ ad) A 10 (MQ below (va_Qi Q (WW D (tys cI cJ cZ) (wM cI cJ cZ ad)) A) args s 0 0 A) σ 18 [(0, .ref (ad 0)), (2, .int x2), (3, .int x3)] [.int t0] := by
    intro x2 x3 t0 σ h
    refine j_istore (lv' := [(4, .int t0), (0, .ref (ad 0)), (2, .int x2), (3, .int x3)]) C dX7_grow_18 (by decide) rfl ?_
    refine j_iload_n C dX7_grow_20 3 rfl ?_
    refine j_if_lt 33 C dX7_grow_21 rfl h (fun h => ?_) (fun h => ?_)
    · refine j_sub (lv' := [(0, .ref (ad 0)), (3, .int x3)]) [1, 3] rfl ?_
      exact k33 _ _ h
    · refine j_aload_n C dX7_grow_24 1 rfl ?_
      refine j_iload C dX7_grow_25 0 rfl ?_
      refine j_callpi 0 [.int t0] [] C (kX7_spoilt_ok t0 σ h) (tt_V ml_X7_185 mV_X7_spoilt) ok_X7_spoilt ⟨by decide, by decide⟩ rfl (r_wM_0 (σ := σ)) (Nat.le_of_ble_eq_true rfl) rfl dX7_grow_27 (fun r27 h => ?_)
      refine j_if_eq 48 C dX7_grow_30 rfl h (fun h => ?_) (fun h => ?_)
      · refine j_aload_n C dX7_grow_48 1 rfl ?_
        refine gf_X7_39 C dX7_grow_49 ?_
        refine j_iload C dX7_grow_52 0 rfl ?_
        refine al_wM_10 C h.1 dX7_grow_54 ?_
        replace h := h.2
        refine j_istore (lv' := [(5, .int (gA σ 7 t0.toNatClampNeg)), (4, .int t0), (0, .ref (ad 0)), (2, .int x2), (3, .int x3)]) C dX7_grow_55 (by decide) rfl ?_
        refine j_iload_n C dX7_grow_57 3 rfl ?_
        refine j_aload_n C dX7_grow_58 2 rfl ?_
        refine gf_X7_36 C dX7_grow_59 ?_
        refine j_iload C dX7_grow_62 1 rfl ?_
        refine al_wM_9 C h.1 dX7_grow_64 ?_
        replace h := h.2
        refine j_icmp_lt 78 C dX7_grow_65 rfl h (fun h => ?_) (fun h => ?_)
        · refine j_sub (lv' := [(0, .ref (ad 0))]) [2] rfl ?_
          exact k78 _ h
        · refine j_iload_n C dX7_grow_68 3 rfl ?_
          refine j_aload_n C dX7_grow_69 2 rfl ?_
          refine j_iload C dX7_grow_70 0 rfl ?_
          refine j_callpi 0 [.int (gA σ 7 t0.toNatClampNeg)] [.int x2] C (kX7_most_ok (gA σ 7 t0.toNatClampNeg) σ h) (tt_V ml_X7_169 mV_X7_most) ok_X7_most ⟨by decide, by decide⟩ rfl (r_wM_0 (σ := σ)) (Nat.le_of_ble_eq_true rfl) rfl dX7_grow_72 (fun r72 h => ?_)
          refine j_icmp_le 84 C dX7_grow_75 rfl h (fun h => ?_) (fun h => ?_)
          · refine j_aload_n C dX7_grow_84 2 rfl ?_
            refine gf_X7_42 C dX7_grow_85 ?_
            refine j_iload C dX7_grow_88 1 rfl ?_
            refine al_wM_11 C h.1 dX7_grow_90 ?_
            replace h := h.2
            refine j_iconst (v := 2) C dX7_grow_91 (by decide) ?_
            refine j_iadd C dX7_grow_92 ?_
            refine j_aload_n C dX7_grow_93 2 rfl ?_
            refine gf_X7_36 C dX7_grow_94 ?_
            refine j_iload C dX7_grow_97 1 rfl ?_
            refine al_wM_9 C h.1 dX7_grow_99 ?_
            replace h := h.2
            refine j_iadd C dX7_grow_100 ?_
            refine j_istore (lv' := [(6, .int (((gA σ 8 t0.toNatClampNeg) + 2) + (gA σ 6 t0.toNatClampNeg))), (5, .int (gA σ 7 t0.toNatClampNeg)), (4, .int t0), (0, .ref (ad 0)), (2, .int x2), (3, .int x3)]) C dX7_grow_101 (by decide) rfl ?_
            refine j_aload_n C dX7_grow_103 3 rfl ?_
            refine j_iload C dX7_grow_104 2 rfl ?_
            refine j_iload_n C dX7_grow_106 4 rfl ?_
            refine j_calli 0 [.int t0, .int x2] [] C (kX7_grows_ok t0 x2 σ h) (tt_V ml_X7_191 mV_X7_grows) ok_X7_grows ⟨by decide, by decide⟩ rfl (r_wM_0 (σ := σ)) (Nat.le_of_ble_eq_true rfl) rfl dX7_grow_107 (fun r107 σ107 h => ?_)
            refine j_if_eq 152 C dX7_grow_110 rfl h (fun h => ?_) (fun h => ?_)
            · refine j_aload_n C dX7_grow_152 3 rfl ?_
              refine gf_X7_42 C dX7_grow_153 ?_
              refine j_iload C dX7_grow_156 2 rfl ?_
              refine al_wM_11 C h.1 dX7_grow_158 ?_
              replace h := h.2
              refine j_istore (lv' := [(7, .int (gA σ107 8 t0.toNatClampNeg)), (6, .int (((gA σ 8 t0.toNatClampNeg) + 2) + (gA σ 6 t0.toNatClampNeg))), (5, .int (gA σ 7 t0.toNatClampNeg)), (4, .int t0), (0, .ref (ad 0)), (2, .int x2), (3, .int x3)]) C dX7_grow_159 (by decide) rfl ?_
              refine j_aload_n C dX7_grow_161 4 rfl ?_
              refine j_iload C dX7_grow_162 2 rfl ?_
              refine j_iload_n C dX7_grow_164 5 rfl ?_
              refine j_calli 0 [.int (gA σ 7 t0.toNatClampNeg), .int x2] [] C (kX7_taken_ok (gA σ 7 t0.toNatClampNeg) x2 σ107 h) (tt_V ml_X7_172 mV_X7_taken) ok_X7_taken ⟨by decide, by decide⟩ rfl (r_wM_0 (σ := σ107)) (Nat.le_of_ble_eq_true rfl) rfl dX7_grow_165 (fun r165 σ165 h => ?_)
              refine j_istore (lv' := [(8, .int r165), (7, .int (gA σ107 8 t0.toNatClampNeg)), (6, .int (((gA σ 8 t0.toNatClampNeg) + 2) + (gA σ 6 t0.toNatClampNeg))), (5, .int (gA σ 7 t0.toNatClampNeg)), (4, .int t0), (0, .ref (ad 0)), (2, .int x2), (3, .int x3)]) C dX7_grow_168 (by decide) rfl ?_
              refine j_iload C dX7_grow_170 0 rfl ?_
              refine j_if_ge 182 C dX7_grow_172 rfl h (fun h => ?_) (fun h => ?_)
              · refine j_iconst (v := 0) C dX7_grow_182 (by decide) ?_
                refine j_istore (lv' := [(9, .int 0), (8, .int r165), (7, .int (gA σ107 8 t0.toNatClampNeg)), (6, .int (((gA σ 8 t0.toNatClampNeg) + 2) + (gA σ 6 t0.toNatClampNeg))), (5, .int (gA σ 7 t0.toNatClampNeg)), (4, .int t0), (0, .ref (ad 0)), (2, .int x2), (3, .int x3)]) C dX7_grow_183 (by decide) rfl ?_
                refine j_sub (lv' := [(0, .ref (ad 0)), (2, .int x2), (4, .int t0), (5, .int (gA σ 7 t0.toNatClampNeg)), (7, .int (gA σ107 8 t0.toNatClampNeg)), (8, .int r165), (9, .int 0)]) [6, 7, 5, 4, 2, 1, 0] rfl ?_
                exact k185 _ _ _ _ _ _ _ h
              · refine j_aload_n C dX7_grow_175 5 rfl ?_
                refine j_bipush (v := (-6)) C dX7_grow_176 (by decide) ?_
                refine j_calli 0 [.int ((-6))] [] C (kX7_answer_ok ((-6)) σ165 h) (tt_V ml_X7_90 mV_X7_answer) ok_X7_answer ⟨by decide, by decide⟩ rfl (r_wM_0 (σ := σ165)) (Nat.le_of_ble_eq_true rfl) rfl dX7_grow_178 (fun r178 σ178 h => ?_)
                exact j_iret C dX7_grow_181 h
            · refine j_aload_n C dX7_grow_113 3 rfl ?_
              refine gf_X7_23 C dX7_grow_114 ?_
              refine j_iload C dX7_grow_117 1 rfl ?_
              refine al_wM_5 C h.1 dX7_grow_119 ?_
              replace h := h.2
              refine j_iconst (v := 5) C dX7_grow_120 (by decide) ?_
              refine j_icmp_ne 132 C dX7_grow_121 rfl h (fun h => ?_) (fun h => ?_)
              · refine j_sub (lv' := [(0, .ref (ad 0)), (2, .int x2), (4, .int t0)]) [3, 4, 2] rfl ?_
                exact k132 _ _ _ h
              · refine j_aload_n C dX7_grow_124 3 rfl ?_
                refine gf_X7_13 C dX7_grow_125 ?_
                refine j_iload C dX7_grow_128 0 rfl ?_
                refine j_lconst (v := 0) C dX7_grow_130 (by decide) ?_
                refine as_wM_2 C h.1 dX7_grow_131 ?_
                replace h := h.2
                refine j_sub (lv' := [(0, .ref (ad 0)), (2, .int x2), (4, .int t0)]) [3, 4, 2] rfl ?_
                exact k132 _ _ _ h
          · refine j_sub (lv' := [(0, .ref (ad 0))]) [2] rfl ?_
            exact k78 _ h
      · refine j_sub (lv' := [(0, .ref (ad 0)), (3, .int x3)]) [1, 3] rfl ?_
        exact k33 _ _ h
  refine j_aload_n C dX7_grow_0 0 rfl ?_
  refine j_iload_n C dX7_grow_1 1 rfl ?_
  refine j_callpi 0 [.int x1] [] C (kX7_look_ok x1 σ0 h) (tt_V ml_X7_182 mV_X7_look) ok_X7_look ⟨by decide, by decide⟩ rfl (r_wM_0 (σ := σ0)) (Nat.le_of_ble_eq_true rfl) rfl dX7_grow_2 (fun r2 h => ?_)
  refine j_istore_n (lv' := [(3, .int r2), (0, .ref (ad 0)), (1, .int x1), (2, .int x2)]) C dX7_grow_5 (by decide) rfl ?_
  refine j_iload_n C dX7_grow_6 0 rfl ?_
  refine j_if_ge 14 C dX7_grow_7 rfl h (fun h => ?_) (fun h => ?_)
  · refine j_iload_n C dX7_grow_14 2 rfl ?_
    refine j_bipush (v := 100) C dX7_grow_15 (by decide) ?_
    refine j_irem C dX7_grow_17 (by decide) ?_
    refine j_sub (lv' := [(0, .ref (ad 0)), (2, .int x2), (3, .int r2)]) [1, 3, 0] rfl ?_
    exact k18 _ _ _ _ h
  · refine j_iconst (v := 0) C dX7_grow_10 (by decide) ?_
    refine j_goto 18 C dX7_grow_11 rfl ?_
    refine j_sub (lv' := [(0, .ref (ad 0)), (2, .int x2), (3, .int r2)]) [1, 3, 0] rfl ?_
    exact k18 _ _ _ _ h
def wX7_shrink_b308 (x4 : Int32) (x7 : Int32) (σ : SS) (Q : Int32 → SS → Prop) : Prop := wX7_guard x4 σ (fun σ311 => wX7_settle σ311 (fun σ315 => Q x7 σ315))
def wX7_shrink_b193 (x2 : Int32) (x4 : Int32) (x6 : Int32) (x7 : Int32) (σ : SS) (Q : Int32 → SS → Prop) : Prop := lfp (fun (X193 : SS → Prop) (t : SS) => vp_in x6 2560 ∧ (wX7_power x2 t (fun r203 => (((gA t 1 x6.toNatClampNeg) / 2) < r203 → wX7_shrink_b308 x4 x7 t Q) ∧ (¬ ((gA t 1 x6.toNatClampNeg) / 2) < r203 → vp_in x6 2560 ∧ (vp_in x6 2560 ∧ (vp_in x6 2560 ∧ (vp_in x6 2560 ∧ (vp_in (x6 + (gA (sA t 1 x6.toNatClampNeg ((gA t 1 x6.toNatClampNeg) / 2)) 1 x6.toNatClampNeg)) 2560 ∧ (∀ σ241 : SS, σ241 = sA (sA t 1 x6.toNatClampNeg ((gA t 1 x6.toNatClampNeg) / 2)) 1 (x6 + (gA (sA t 1 x6.toNatClampNeg ((gA t 1 x6.toNatClampNeg) / 2)) 1 x6.toNatClampNeg)).toNatClampNeg (gA (sA t 1 x6.toNatClampNeg ((gA t 1 x6.toNatClampNeg) / 2)) 1 x6.toNatClampNeg) → (vp_in x6 2560 ∧ (vp_in (x6 + (gA σ241 1 x6.toNatClampNeg)) 2560 ∧ (X193 (sA σ241 2 (x6 + (gA σ241 1 x6.toNatClampNeg)).toNatClampNeg ((-1))))))))))))))) σ
def wX7_shrink_b174 (x2 : Int32) (x4 : Int32) (x5 : Int32) (x6 : Int32) (x7 : Int32) (σ : SS) (Q : Int32 → SS → Prop) : Prop := vp_in x4 100 ∧ (vp_in x5 8 ∧ ((¬ (gA (sA σ 6 x4.toNatClampNeg x2) 3 x5.toNatClampNeg) = 1 → vp_in x5 8 ∧ (((gA (sA σ 6 x4.toNatClampNeg x2) 3 x5.toNatClampNeg) = 0 → wX7_shrink_b308 x4 x7 (sA σ 6 x4.toNatClampNeg x2) Q) ∧ (¬ (gA (sA σ 6 x4.toNatClampNeg x2) 3 x5.toNatClampNeg) = 0 → (x7 ≤ 0 → wX7_shrink_b308 x4 x7 (sA σ 6 x4.toNatClampNeg x2) Q) ∧ (¬ x7 ≤ 0 → vp_in x6 2560 ∧ (wX7_cut x6 ((gA (sA σ 6 x4.toNatClampNeg x2) 1 x6.toNatClampNeg) - x7) (sA σ 6 x4.toNatClampNeg x2) (fun σ289 => vp_in x6 2560 ∧ (wX7_join x5 (x6 + (gA σ289 1 x6.toNatClampNeg)) σ289 (fun σ305 => wX7_shrink_b308 x4 x7 σ305 Q)))))))) ∧ ((gA (sA σ 6 x4.toNatClampNeg x2) 3 x5.toNatClampNeg) = 1 → wX7_shrink_b193 x2 x4 x6 x7 (sA σ 6 x4.toNatClampNeg x2) Q)))
def wX7_shrink_b110 (x2 : Int32) (x4 : Int32) (x5 : Int32) (x6 : Int32) (x7 : Int32) (x8 : Int32) (σ : SS) (Q : Int32 → SS → Prop) : Prop := lfp (fun (X110 : Int32 × SS → Prop) (t : Int32 × SS) => vp_in x4 100 ∧ (((gA t.2 6 x4.toNatClampNeg) ≤ t.1 → vp_in x5 8 ∧ ((¬ (gA t.2 3 x5.toNatClampNeg) = 5 → wX7_shrink_b174 x2 x4 x5 x6 x7 t.2 Q) ∧ ((gA t.2 3 x5.toNatClampNeg) = 5 → vp_in x4 100 ∧ (vp_in ((x6 + 2) + (gA t.2 6 x4.toNatClampNeg)) 2560 ∧ (wX7_shrink_b174 x2 x4 x5 x6 x7 (sB t.2 0 ((x6 + 2) + (gA t.2 6 x4.toNatClampNeg)).toNatClampNeg 0) Q))))) ∧ (¬ (gA t.2 6 x4.toNatClampNeg) ≤ t.1 → wX7_firstOf x5 x6 t.2 (fun r131 => vp_in (r131 + t.1) 2560 ∧ (X110 ((t.1 + 1), sB t.2 0 (r131 + t.1).toNatClampNeg 0)))))) (x8, σ)
def wX7_shrink_b74 (t0 : Int32) (σ : SS) (Q : Int32 → SS → Prop) : Prop := wX7_answer t0 σ (fun r74 σ74 => Q r74 σ74)
def wX7_shrink_b63 (x2 : Int32) (σ : SS) (Q : Int32 → SS → Prop) : Prop := (0 ≤ x2 → wX7_shrink_b74 ((-1)) σ Q) ∧ (¬ 0 ≤ x2 → wX7_shrink_b74 ((-3)) σ Q)
def wX7_shrink_b44 (t0 : Int32) (σ : SS) (Q : Int32 → SS → Prop) : Prop := wX7_answer t0 σ (fun r44 σ44 => Q r44 σ44)
def wX7_shrink_b33 (x3 : Int32) (σ : SS) (Q : Int32 → SS → Prop) : Prop := (0 ≤ x3 → wX7_shrink_b44 ((-8)) σ Q) ∧ (¬ 0 ≤ x3 → wX7_shrink_b44 x3 σ Q)
def wX7_shrink_b18 (x2 : Int32) (x3 : Int32) (t0 : Int32) (σ : SS) (Q : Int32 → SS → Prop) : Prop := (x3 < 0 → wX7_shrink_b33 x3 σ Q) ∧ (¬ x3 < 0 → wX7_spoilt t0 σ (fun r27 => (r27 = 0 → (x2 < 0 → wX7_shrink_b63 x2 σ Q) ∧ (¬ x2 < 0 → vp_in t0 100 ∧ ((x2 ≤ (gA σ 6 t0.toNatClampNeg) → vp_in t0 100 ∧ (vp_in t0 100 ∧ (vp_in t0 100 ∧ (wX7_shrink_b110 x2 t0 (gA σ 7 t0.toNatClampNeg) (gA σ 8 t0.toNatClampNeg) ((gA σ 6 t0.toNatClampNeg) - x2) x2 σ Q)))) ∧ (¬ x2 ≤ (gA σ 6 t0.toNatClampNeg) → wX7_shrink_b63 x2 σ Q)))) ∧ (¬ r27 = 0 → wX7_shrink_b33 x3 σ Q)))
def wX7_shrink (x1 : Int32) (x2 : Int32) (σ : SS) (Q : Int32 → SS → Prop) : Prop := wX7_look x1 σ (fun r2 => (0 ≤ r2 → wX7_shrink_b18 x2 r2 (x1 - x1 / 100 * 100) σ Q) ∧ (¬ 0 ≤ r2 → wX7_shrink_b18 x2 r2 0 σ Q))
set_option maxRecDepth 100000 in
set_option maxHeartbeats 4000000 in
theorem kX7_shrink_ok {l : Launch} {D : va_G} {cI cJ cZ : ClassId} {ad : Nat → Nat} (x1 : Int32) (x2 : Int32) (σ0 : SS) {Q : Int32 → SS → Prop} (h : wX7_shrink x1 x2 σ0 Q) : Ci l yX7_shrink (.code yX7_shrink cX7_shrink 9 (some .int) :: TT) { frames := 3, cells := 0, slots := 0, locals := 69 } D (tys cI cJ cZ) (wM cI cJ cZ ad) [.ref (ad 0), .int x1, .int x2] σ0 Q := by
  refine Ci.of (lv := [(0, .ref (ad 0)), (1, .int x1), (2, .int x2)]) (by decide) adM (Nat.le_of_ble_eq_true rfl) rfl ?_
  intro p e s m args below meth c A C
  have k308 : ∀ (x4 : Int32), ∀ (x7 : Int32), ∀ (σ : SS), wX7_shrink_b308 x4 x7 σ Q → J p l e { frames := 3, cells := 0, slots := 0, locals := 69 } s m args below meth c D (wM cI cJ cZ ad) A 9 (MQ below (va_Qi Q (WW D (tys cI cJ cZ) (wM cI cJ cZ ad)) A) args s 0 0 A) σ 308 [(0, .ref (ad 0)), (4, .int x4), (7, .int x7)] [] := by
    intro x4 x7 σ h
    refine j_aload_n C dX7_shrink_308 0 rfl ?_
    refine j_iload C dX7_shrink_309 1 rfl ?_
    refine j_callv 0 [.int x4] [] C (kX7_guard_ok x4 σ h) (tt_V ml_X7_144 mV_X7_guard) ok_X7_guard ⟨by decide, by decide⟩ rfl (r_wM_0 (σ := σ)) (Nat.le_of_ble_eq_true rfl) rfl dX7_shrink_311 (fun σ311 h => ?_)
    refine j_aload_n C dX7_shrink_314 0 rfl ?_
    refine j_callv 0 [] [] C (kX7_settle_ok σ311 h) (tt_V ml_X7_179 mV_X7_settle) ok_X7_settle ⟨by decide, by decide⟩ rfl (r_wM_0 (σ := σ311)) (Nat.le_of_ble_eq_true rfl) rfl dX7_shrink_315 (fun σ315 h => ?_)
    refine j_iload C dX7_shrink_318 2 rfl ?_
    exact j_iret C dX7_shrink_320 h
  have k193 : ∀ (x2 : Int32), ∀ (x4 : Int32), ∀ (x6 : Int32), ∀ (x7 : Int32), ∀ (σ : SS), wX7_shrink_b193 x2 x4 x6 x7 σ Q → J p l e { frames := 3, cells := 0, slots := 0, locals := 69 } s m args below meth c D (wM cI cJ cZ ad) A 9 (MQ below (va_Qi Q (WW D (tys cI cJ cZ) (wM cI cJ cZ ad)) A) args s 0 0 A) σ 193 [(0, .ref (ad 0)), (2, .int x2), (4, .int x4), (6, .int x6), (7, .int x7)] [] := by
    intro x2 x4 x6 x7 σ h
    refine h (fun t => J p l e { frames := 3, cells := 0, slots := 0, locals := 69 } s m args below meth c D (wM cI cJ cZ ad) A 9 (MQ below (va_Qi Q (WW D (tys cI cJ cZ) (wM cI cJ cZ ad)) A) args s 0 0 A) t 193 [(0, .ref (ad 0)), (2, .int x2), (4, .int x4), (6, .int x6), (7, .int x7)] []) (fun t h => ?_)
    obtain ⟨σ, rfl⟩ : ∃ z, z = t := ⟨_, rfl⟩
    try dsimp only at h
    refine j_aload_n C dX7_shrink_193 0 rfl ?_
    refine gf_X7_17 C dX7_shrink_194 ?_
    refine j_iload C dX7_shrink_197 3 rfl ?_
    refine al_wM_3 C h.1 dX7_shrink_199 ?_
    replace h := h.2
    refine j_iconst (v := 2) C dX7_shrink_200 (by decide) ?_
    refine j_idiv C dX7_shrink_201 (by decide) ?_
    refine j_iload_n C dX7_shrink_202 1 rfl ?_
    refine j_callSpi [.int x2] [.int ((gA σ 1 x6.toNatClampNeg) / 2)] C (kX7_power_ok x2 σ h) (tt_S ml_X7_114 mS_X7_power) ok_X7_power ⟨by decide, by decide⟩ (Nat.le_of_ble_eq_true rfl) rfl dX7_shrink_203 (fun r203 h => ?_)
    refine j_icmp_lt 308 C dX7_shrink_206 rfl h (fun h => ?_) (fun h => ?_)
    · refine j_sub (lv' := [(0, .ref (ad 0)), (4, .int x4), (7, .int x7)]) [0, 2, 4] rfl ?_
      exact k308 _ _ _ h
    · refine j_aload_n C dX7_shrink_209 0 rfl ?_
      refine gf_X7_17 C dX7_shrink_210 ?_
      refine j_iload C dX7_shrink_213 3 rfl ?_
      refine j_dup2 C dX7_shrink_215 rfl rfl ?_
      refine al_wM_3 C h.1 dX7_shrink_216 ?_
      replace h := h.2
      refine j_iconst (v := 2) C dX7_shrink_217 (by decide) ?_
      refine j_idiv C dX7_shrink_218 (by decide) ?_
      refine as_wM_3 C h.1 dX7_shrink_219 ?_
      replace h := h.2
      refine j_aload_n C dX7_shrink_220 0 rfl ?_
      refine gf_X7_17 C dX7_shrink_221 ?_
      refine j_iload C dX7_shrink_224 3 rfl ?_
      refine j_aload_n C dX7_shrink_226 0 rfl ?_
      refine gf_X7_17 C dX7_shrink_227 ?_
      refine j_iload C dX7_shrink_230 3 rfl ?_
      refine al_wM_3 C h.1 dX7_shrink_232 ?_
      replace h := h.2
      refine j_iadd C dX7_shrink_233 ?_
      refine j_aload_n C dX7_shrink_234 0 rfl ?_
      refine gf_X7_17 C dX7_shrink_235 ?_
      refine j_iload C dX7_shrink_238 3 rfl ?_
      refine al_wM_3 C h.1 dX7_shrink_240 ?_
      replace h := h.2
      refine as_wM_3 C h.1 dX7_shrink_241 ?_
      replace h := h.2
      obtain ⟨σ241, hs241⟩ : ∃ z, z = sA (sA σ 1 x6.toNatClampNeg ((gA σ 1 x6.toNatClampNeg) / 2)) 1 (x6 + (gA (sA σ 1 x6.toNatClampNeg ((gA σ 1 x6.toNatClampNeg) / 2)) 1 x6.toNatClampNeg)).toNatClampNeg (gA (sA σ 1 x6.toNatClampNeg ((gA σ 1 x6.toNatClampNeg) / 2)) 1 x6.toNatClampNeg) := ⟨_, rfl⟩
      rw [← hs241]
      replace h := h σ241 hs241
      refine j_aload_n C dX7_shrink_242 0 rfl ?_
      refine gf_X7_20 C dX7_shrink_243 ?_
      refine j_iload C dX7_shrink_246 3 rfl ?_
      refine j_aload_n C dX7_shrink_248 0 rfl ?_
      refine gf_X7_17 C dX7_shrink_249 ?_
      refine j_iload C dX7_shrink_252 3 rfl ?_
      refine al_wM_3 C h.1 dX7_shrink_254 ?_
      replace h := h.2
      refine j_iadd C dX7_shrink_255 ?_
      refine j_iconst (v := (-1)) C dX7_shrink_256 (by decide) ?_
      refine as_wM_4 C h.1 dX7_shrink_257 ?_
      replace h := h.2
      refine j_goto 193 C dX7_shrink_258 rfl ?_
      refine j_sub (lv' := [(0, .ref (ad 0)), (2, .int x2), (4, .int x4), (6, .int x6), (7, .int x7)]) [0, 1, 2, 3, 4] rfl ?_
      exact h
  have k174 : ∀ (x2 : Int32), ∀ (x4 : Int32), ∀ (x5 : Int32), ∀ (x6 : Int32), ∀ (x7 : Int32), ∀ (σ : SS), wX7_shrink_b174 x2 x4 x5 x6 x7 σ Q → J p l e { frames := 3, cells := 0, slots := 0, locals := 69 } s m args below meth c D (wM cI cJ cZ ad) A 9 (MQ below (va_Qi Q (WW D (tys cI cJ cZ) (wM cI cJ cZ ad)) A) args s 0 0 A) σ 174 [(0, .ref (ad 0)), (2, .int x2), (4, .int x4), (5, .int x5), (6, .int x6), (7, .int x7)] [] := by
    intro x2 x4 x5 x6 x7 σ h
    refine j_aload_n C dX7_shrink_174 0 rfl ?_
    refine gf_X7_36 C dX7_shrink_175 ?_
    refine j_iload C dX7_shrink_178 2 rfl ?_
    refine j_iload_n C dX7_shrink_180 1 rfl ?_
    refine as_wM_9 C h.1 dX7_shrink_181 ?_
    replace h := h.2
    refine j_aload_n C dX7_shrink_182 0 rfl ?_
    refine gf_X7_23 C dX7_shrink_183 ?_
    refine j_iload C dX7_shrink_186 3 rfl ?_
    refine al_wM_5 C h.1 dX7_shrink_188 ?_
    replace h := h.2
    refine j_iconst (v := 1) C dX7_shrink_189 (by decide) ?_
    refine j_icmp_ne 261 C dX7_shrink_190 rfl h (fun h => ?_) (fun h => ?_)
    · refine j_aload_n C dX7_shrink_261 0 rfl ?_
      refine gf_X7_23 C dX7_shrink_262 ?_
      refine j_iload C dX7_shrink_265 3 rfl ?_
      refine al_wM_5 C h.1 dX7_shrink_267 ?_
      replace h := h.2
      refine j_if_eq 308 C dX7_shrink_268 rfl h (fun h => ?_) (fun h => ?_)
      · refine j_sub (lv' := [(0, .ref (ad 0)), (4, .int x4), (7, .int x7)]) [0, 2, 5] rfl ?_
        exact k308 _ _ _ h
      · refine j_iload C dX7_shrink_271 5 rfl ?_
        refine j_if_le 308 C dX7_shrink_273 rfl h (fun h => ?_) (fun h => ?_)
        · refine j_sub (lv' := [(0, .ref (ad 0)), (4, .int x4), (7, .int x7)]) [0, 2, 5] rfl ?_
          exact k308 _ _ _ h
        · refine j_aload_n C dX7_shrink_276 0 rfl ?_
          refine j_iload C dX7_shrink_277 4 rfl ?_
          refine j_aload_n C dX7_shrink_279 0 rfl ?_
          refine gf_X7_17 C dX7_shrink_280 ?_
          refine j_iload C dX7_shrink_283 4 rfl ?_
          refine al_wM_3 C h.1 dX7_shrink_285 ?_
          replace h := h.2
          refine j_iload C dX7_shrink_286 5 rfl ?_
          refine j_isub C dX7_shrink_288 ?_
          refine j_callv 0 [.int x6, .int ((gA (sA σ 6 x4.toNatClampNeg x2) 1 x6.toNatClampNeg) - x7)] [] C (kX7_cut_ok x6 ((gA (sA σ 6 x4.toNatClampNeg x2) 1 x6.toNatClampNeg) - x7) (sA σ 6 x4.toNatClampNeg x2) h) (tt_V ml_X7_141 mV_X7_cut) ok_X7_cut ⟨by decide, by decide⟩ rfl (r_wM_0 (σ := sA σ 6 x4.toNatClampNeg x2)) (Nat.le_of_ble_eq_true rfl) rfl dX7_shrink_289 (fun σ289 h => ?_)
          refine j_aload_n C dX7_shrink_292 0 rfl ?_
          refine j_iload C dX7_shrink_293 3 rfl ?_
          refine j_iload C dX7_shrink_295 4 rfl ?_
          refine j_aload_n C dX7_shrink_297 0 rfl ?_
          refine gf_X7_17 C dX7_shrink_298 ?_
          refine j_iload C dX7_shrink_301 4 rfl ?_
          refine al_wM_3 C h.1 dX7_shrink_303 ?_
          replace h := h.2
          refine j_iadd C dX7_shrink_304 ?_
          refine j_callv 0 [.int x5, .int (x6 + (gA σ289 1 x6.toNatClampNeg))] [] C (kX7_join_ok x5 (x6 + (gA σ289 1 x6.toNatClampNeg)) σ289 h) (tt_V ml_X7_124 mV_X7_join) ok_X7_join ⟨by decide, by decide⟩ rfl (r_wM_0 (σ := σ289)) (Nat.le_of_ble_eq_true rfl) rfl dX7_shrink_305 (fun σ305 h => ?_)
          refine j_sub (lv' := [(0, .ref (ad 0)), (4, .int x4), (7, .int x7)]) [0, 2, 5] rfl ?_
          exact k308 _ _ _ h
    · refine j_sub (lv' := [(0, .ref (ad 0)), (2, .int x2), (4, .int x4), (6, .int x6), (7, .int x7)]) [0, 1, 2, 4, 5] rfl ?_
      exact k193 _ _ _ _ _ h
  have k110 : ∀ (x2 : Int32), ∀ (x4 : Int32), ∀ (x5 : Int32), ∀ (x6 : Int32), ∀ (x7 : Int32), ∀ (x8 : Int32), ∀ (σ : SS), wX7_shrink_b110 x2 x4 x5 x6 x7 x8 σ Q → J p l e { frames := 3, cells := 0, slots := 0, locals := 69 } s m args below meth c D (wM cI cJ cZ ad) A 9 (MQ below (va_Qi Q (WW D (tys cI cJ cZ) (wM cI cJ cZ ad)) A) args s 0 0 A) σ 110 [(0, .ref (ad 0)), (2, .int x2), (4, .int x4), (5, .int x5), (6, .int x6), (7, .int x7), (8, .int x8)] [] := by
    intro x2 x4 x5 x6 x7 x8 σ h
    refine h (fun t => J p l e { frames := 3, cells := 0, slots := 0, locals := 69 } s m args below meth c D (wM cI cJ cZ ad) A 9 (MQ below (va_Qi Q (WW D (tys cI cJ cZ) (wM cI cJ cZ ad)) A) args s 0 0 A) t.2 110 [(0, .ref (ad 0)), (2, .int x2), (4, .int x4), (5, .int x5), (6, .int x6), (7, .int x7), (8, .int t.1)] []) (fun t h => ?_)
    obtain ⟨x8, σ⟩ := t
    try dsimp only at h
    refine j_iload C dX7_shrink_110 6 rfl ?_
    refine j_aload_n C dX7_shrink_112 0 rfl ?_
    refine gf_X7_36 C dX7_shrink_113 ?_
    refine j_iload C dX7_shrink_116 2 rfl ?_
    refine al_wM_9 C h.1 dX7_shrink_118 ?_
    replace h := h.2
    refine j_icmp_ge 145 C dX7_shrink_119 rfl h (fun h => ?_) (fun h => ?_)
    · refine j_aload_n C dX7_shrink_145 0 rfl ?_
      refine gf_X7_23 C dX7_shrink_146 ?_
      refine j_iload C dX7_shrink_149 3 rfl ?_
      refine al_wM_5 C h.1 dX7_shrink_151 ?_
      replace h := h.2
      refine j_iconst (v := 5) C dX7_shrink_152 (by decide) ?_
      refine j_icmp_ne 174 C dX7_shrink_153 rfl h (fun h => ?_) (fun h => ?_)
      · refine j_sub (lv' := [(0, .ref (ad 0)), (2, .int x2), (4, .int x4), (5, .int x5), (6, .int x6), (7, .int x7)]) [0, 1, 2, 3, 4, 5] rfl ?_
        exact k174 _ _ _ _ _ _ h
      · refine j_aload_n C dX7_shrink_156 0 rfl ?_
        refine gf_X7_13 C dX7_shrink_157 ?_
        refine j_iload C dX7_shrink_160 4 rfl ?_
        refine j_iconst (v := 2) C dX7_shrink_162 (by decide) ?_
        refine j_iadd C dX7_shrink_163 ?_
        refine j_aload_n C dX7_shrink_164 0 rfl ?_
        refine gf_X7_36 C dX7_shrink_165 ?_
        refine j_iload C dX7_shrink_168 2 rfl ?_
        refine al_wM_9 C h.1 dX7_shrink_170 ?_
        replace h := h.2
        refine j_iadd C dX7_shrink_171 ?_
        refine j_lconst (v := 0) C dX7_shrink_172 (by decide) ?_
        refine as_wM_2 C h.1 dX7_shrink_173 ?_
        replace h := h.2
        refine j_sub (lv' := [(0, .ref (ad 0)), (2, .int x2), (4, .int x4), (5, .int x5), (6, .int x6), (7, .int x7)]) [0, 1, 2, 3, 4, 5] rfl ?_
        exact k174 _ _ _ _ _ _ h
    · refine j_aload_n C dX7_shrink_122 0 rfl ?_
      refine gf_X7_13 C dX7_shrink_123 ?_
      refine j_aload_n C dX7_shrink_126 0 rfl ?_
      refine j_iload C dX7_shrink_127 3 rfl ?_
      refine j_iload C dX7_shrink_129 4 rfl ?_
      refine j_callpi 0 [.int x5, .int x6] [.ref (ad 2)] C (kX7_firstOf_ok x5 x6 σ h) (tt_V ml_X7_194 mV_X7_firstOf) ok_X7_firstOf ⟨by decide, by decide⟩ rfl (r_wM_0 (σ := σ)) (Nat.le_of_ble_eq_true rfl) rfl dX7_shrink_131 (fun r131 h => ?_)
      refine j_iload C dX7_shrink_134 6 rfl ?_
      refine j_iadd C dX7_shrink_136 ?_
      refine j_lconst (v := 0) C dX7_shrink_137 (by decide) ?_
      refine as_wM_2 C h.1 dX7_shrink_138 ?_
      replace h := h.2
      refine j_iinc (lv' := [(8, .int (x8 + 1)), (0, .ref (ad 0)), (2, .int x2), (4, .int x4), (5, .int x5), (6, .int x6), (7, .int x7)]) (x8 + 1) C dX7_shrink_139 6 rfl rfl (by decide) rfl ?_
      refine j_goto 110 C dX7_shrink_142 rfl ?_
      refine j_sub (lv' := [(0, .ref (ad 0)), (2, .int x2), (4, .int x4), (5, .int x5), (6, .int x6), (7, .int x7), (8, .int (x8 + 1))]) [1, 2, 3, 4, 5, 6, 0] rfl ?_
      exact h
  have k74 : ∀ (t0 : Int32), ∀ (σ : SS), wX7_shrink_b74 t0 σ Q → J p l e { frames := 3, cells := 0, slots := 0, locals := 69 } s m args below meth c D (wM cI cJ cZ ad) A 9 (MQ below (va_Qi Q (WW D (tys cI cJ cZ) (wM cI cJ cZ ad)) A) args s 0 0 A) σ 74 [] [.int t0, .ref (ad 0)] := by
    intro t0 σ h
    refine j_calli 0 [.int t0] [] C (kX7_answer_ok t0 σ h) (tt_V ml_X7_90 mV_X7_answer) ok_X7_answer ⟨by decide, by decide⟩ rfl (r_wM_0 (σ := σ)) (Nat.le_of_ble_eq_true rfl) rfl dX7_shrink_74 (fun r74 σ74 h => ?_)
    exact j_iret C dX7_shrink_77 h
  have k63 : ∀ (x2 : Int32), ∀ (σ : SS), wX7_shrink_b63 x2 σ Q → J p l e { frames := 3, cells := 0, slots := 0, locals := 69 } s m args below meth c D (wM cI cJ cZ ad) A 9 (MQ below (va_Qi Q (WW D (tys cI cJ cZ) (wM cI cJ cZ ad)) A) args s 0 0 A) σ 63 [(0, .ref (ad 0)), (2, .int x2)] [] := by
    intro x2 σ h
    refine j_aload_n C dX7_shrink_63 0 rfl ?_
    refine j_iload_n C dX7_shrink_64 1 rfl ?_
    refine j_if_ge 73 C dX7_shrink_65 rfl h (fun h => ?_) (fun h => ?_)
    · refine j_iconst (v := (-1)) C dX7_shrink_73 (by decide) ?_
      refine j_sub (lv' := []) [] rfl ?_
      exact k74 _ _ h
    · refine j_bipush (v := (-3)) C dX7_shrink_68 (by decide) ?_
      refine j_goto 74 C dX7_shrink_70 rfl ?_
      refine j_sub (lv' := []) [] rfl ?_
      exact k74 _ _ h
  have k44 : ∀ (t0 : Int32), ∀ (σ : SS), wX7_shrink_b44 t0 σ Q → J p l e { frames := 3, cells := 0, slots := 0, locals := 69 } s m args below meth c D (wM cI cJ cZ ad) A 9 (MQ below (va_Qi Q (WW D (tys cI cJ cZ) (wM cI cJ cZ ad)) A) args s 0 0 A) σ 44 [] [.int t0, .ref (ad 0)] := by
    intro t0 σ h
    refine j_calli 0 [.int t0] [] C (kX7_answer_ok t0 σ h) (tt_V ml_X7_90 mV_X7_answer) ok_X7_answer ⟨by decide, by decide⟩ rfl (r_wM_0 (σ := σ)) (Nat.le_of_ble_eq_true rfl) rfl dX7_shrink_44 (fun r44 σ44 h => ?_)
    exact j_iret C dX7_shrink_47 h
  have k33 : ∀ (x3 : Int32), ∀ (σ : SS), wX7_shrink_b33 x3 σ Q → J p l e { frames := 3, cells := 0, slots := 0, locals := 69 } s m args below meth c D (wM cI cJ cZ ad) A 9 (MQ below (va_Qi Q (WW D (tys cI cJ cZ) (wM cI cJ cZ ad)) A) args s 0 0 A) σ 33 [(0, .ref (ad 0)), (3, .int x3)] [] := by
    intro x3 σ h
    refine j_aload_n C dX7_shrink_33 0 rfl ?_
    refine j_iload_n C dX7_shrink_34 1 rfl ?_
    refine j_if_ge 42 C dX7_shrink_35 rfl h (fun h => ?_) (fun h => ?_)
    · refine j_bipush (v := (-8)) C dX7_shrink_42 (by decide) ?_
      refine j_sub (lv' := []) [] rfl ?_
      exact k44 _ _ h
    · refine j_iload_n C dX7_shrink_38 1 rfl ?_
      refine j_goto 44 C dX7_shrink_39 rfl ?_
      refine j_sub (lv' := []) [] rfl ?_
      exact k44 _ _ h
  have k18 : ∀ (x2 : Int32), ∀ (x3 : Int32), ∀ (t0 : Int32), ∀ (σ : SS), wX7_shrink_b18 x2 x3 t0 σ Q → J p l e { frames := 3, cells := 0, slots := 0, locals := 69 } s m args below meth c D (wM cI cJ cZ ad) A 9 (MQ below (va_Qi Q (WW D (tys cI cJ cZ) (wM cI cJ cZ ad)) A) args s 0 0 A) σ 18 [(0, .ref (ad 0)), (2, .int x2), (3, .int x3)] [.int t0] := by
    intro x2 x3 t0 σ h
    refine j_istore (lv' := [(4, .int t0), (0, .ref (ad 0)), (2, .int x2), (3, .int x3)]) C dX7_shrink_18 (by decide) rfl ?_
    refine j_iload_n C dX7_shrink_20 3 rfl ?_
    refine j_if_lt 33 C dX7_shrink_21 rfl h (fun h => ?_) (fun h => ?_)
    · refine j_sub (lv' := [(0, .ref (ad 0)), (3, .int x3)]) [1, 3] rfl ?_
      exact k33 _ _ h
    · refine j_aload_n C dX7_shrink_24 1 rfl ?_
      refine j_iload C dX7_shrink_25 0 rfl ?_
      refine j_callpi 0 [.int t0] [] C (kX7_spoilt_ok t0 σ h) (tt_V ml_X7_185 mV_X7_spoilt) ok_X7_spoilt ⟨by decide, by decide⟩ rfl (r_wM_0 (σ := σ)) (Nat.le_of_ble_eq_true rfl) rfl dX7_shrink_27 (fun r27 h => ?_)
      refine j_if_eq 48 C dX7_shrink_30 rfl h (fun h => ?_) (fun h => ?_)
      · refine j_iload_n C dX7_shrink_48 2 rfl ?_
        refine j_if_lt 63 C dX7_shrink_49 rfl h (fun h => ?_) (fun h => ?_)
        · refine j_sub (lv' := [(0, .ref (ad 0)), (2, .int x2)]) [1, 2] rfl ?_
          exact k63 _ _ h
        · refine j_iload_n C dX7_shrink_52 2 rfl ?_
          refine j_aload_n C dX7_shrink_53 1 rfl ?_
          refine gf_X7_36 C dX7_shrink_54 ?_
          refine j_iload C dX7_shrink_57 0 rfl ?_
          refine al_wM_9 C h.1 dX7_shrink_59 ?_
          replace h := h.2
          refine j_icmp_le 78 C dX7_shrink_60 rfl h (fun h => ?_) (fun h => ?_)
          · refine j_aload_n C dX7_shrink_78 1 rfl ?_
            refine gf_X7_39 C dX7_shrink_79 ?_
            refine j_iload C dX7_shrink_82 0 rfl ?_
            refine al_wM_10 C h.1 dX7_shrink_84 ?_
            replace h := h.2
            refine j_istore (lv' := [(5, .int (gA σ 7 t0.toNatClampNeg)), (4, .int t0), (0, .ref (ad 0)), (2, .int x2), (3, .int x3)]) C dX7_shrink_85 (by decide) rfl ?_
            refine j_aload_n C dX7_shrink_87 2 rfl ?_
            refine gf_X7_42 C dX7_shrink_88 ?_
            refine j_iload C dX7_shrink_91 1 rfl ?_
            refine al_wM_11 C h.1 dX7_shrink_93 ?_
            replace h := h.2
            refine j_istore (lv' := [(6, .int (gA σ 8 t0.toNatClampNeg)), (5, .int (gA σ 7 t0.toNatClampNeg)), (4, .int t0), (0, .ref (ad 0)), (2, .int x2), (3, .int x3)]) C dX7_shrink_94 (by decide) rfl ?_
            refine j_aload_n C dX7_shrink_96 3 rfl ?_
            refine gf_X7_36 C dX7_shrink_97 ?_
            refine j_iload C dX7_shrink_100 2 rfl ?_
            refine al_wM_9 C h.1 dX7_shrink_102 ?_
            replace h := h.2
            refine j_iload_n C dX7_shrink_103 4 rfl ?_
            refine j_isub C dX7_shrink_104 ?_
            refine j_istore (lv' := [(7, .int ((gA σ 6 t0.toNatClampNeg) - x2)), (6, .int (gA σ 8 t0.toNatClampNeg)), (5, .int (gA σ 7 t0.toNatClampNeg)), (4, .int t0), (0, .ref (ad 0)), (2, .int x2), (3, .int x3)]) C dX7_shrink_105 (by decide) rfl ?_
            refine j_iload_n C dX7_shrink_107 5 rfl ?_
            refine j_istore (lv' := [(8, .int x2), (7, .int ((gA σ 6 t0.toNatClampNeg) - x2)), (6, .int (gA σ 8 t0.toNatClampNeg)), (5, .int (gA σ 7 t0.toNatClampNeg)), (4, .int t0), (0, .ref (ad 0)), (2, .int x2), (3, .int x3)]) C dX7_shrink_108 (by decide) rfl ?_
            refine j_sub (lv' := [(0, .ref (ad 0)), (2, .int x2), (4, .int t0), (5, .int (gA σ 7 t0.toNatClampNeg)), (6, .int (gA σ 8 t0.toNatClampNeg)), (7, .int ((gA σ 6 t0.toNatClampNeg) - x2)), (8, .int x2)]) [5, 6, 4, 3, 2, 1, 0] rfl ?_
            exact k110 _ _ _ _ _ _ _ h
          · refine j_sub (lv' := [(0, .ref (ad 0)), (2, .int x2)]) [1, 2] rfl ?_
            exact k63 _ _ h
      · refine j_sub (lv' := [(0, .ref (ad 0)), (3, .int x3)]) [1, 3] rfl ?_
        exact k33 _ _ h
  refine j_aload_n C dX7_shrink_0 0 rfl ?_
  refine j_iload_n C dX7_shrink_1 1 rfl ?_
  refine j_callpi 0 [.int x1] [] C (kX7_look_ok x1 σ0 h) (tt_V ml_X7_182 mV_X7_look) ok_X7_look ⟨by decide, by decide⟩ rfl (r_wM_0 (σ := σ0)) (Nat.le_of_ble_eq_true rfl) rfl dX7_shrink_2 (fun r2 h => ?_)
  refine j_istore_n (lv' := [(3, .int r2), (0, .ref (ad 0)), (1, .int x1), (2, .int x2)]) C dX7_shrink_5 (by decide) rfl ?_
  refine j_iload_n C dX7_shrink_6 0 rfl ?_
  refine j_if_ge 14 C dX7_shrink_7 rfl h (fun h => ?_) (fun h => ?_)
  · refine j_iload_n C dX7_shrink_14 2 rfl ?_
    refine j_bipush (v := 100) C dX7_shrink_15 (by decide) ?_
    refine j_irem C dX7_shrink_17 (by decide) ?_
    refine j_sub (lv' := [(0, .ref (ad 0)), (2, .int x2), (3, .int r2)]) [1, 3, 0] rfl ?_
    exact k18 _ _ _ _ h
  · refine j_iconst (v := 0) C dX7_shrink_10 (by decide) ?_
    refine j_goto 18 C dX7_shrink_11 rfl ?_
    refine j_sub (lv' := [(0, .ref (ad 0)), (2, .int x2), (3, .int r2)]) [1, 3, 0] rfl ?_
    exact k18 _ _ _ _ h
def wX7_lookAt (x1 : Int32) (x2 : Int32) (σ : SS) (Q : Int32 → Prop) : Prop := wX7_look x1 σ (fun r2 => (0 ≤ r2 → (x2 < 0 → Q ((-1))) ∧ (¬ x2 < 0 → vp_in (x1 - x1 / 100 * 100) 100 ∧ ((x2 < (gA σ 6 (x1 - x1 / 100 * 100).toNatClampNeg) → Q 0) ∧ (¬ x2 < (gA σ 6 (x1 - x1 / 100 * 100).toNatClampNeg) → Q ((-1)))))) ∧ (¬ 0 ≤ r2 → Q r2))
set_option maxRecDepth 100000 in
set_option maxHeartbeats 4000000 in
theorem kX7_lookAt_ok {l : Launch} {D : va_G} {cI cJ cZ : ClassId} {ad : Nat → Nat} (x1 : Int32) (x2 : Int32) (σ0 : SS) {Q : Int32 → Prop} (h : wX7_lookAt x1 x2 σ0 Q) : Ci l yX7_lookAt (.code yX7_lookAt cX7_lookAt 4 (some .int) :: TT) { frames := 1, cells := 0, slots := 0, locals := 22 } D (tys cI cJ cZ) (wM cI cJ cZ ad) [.ref (ad 0), .int x1, .int x2] σ0 (fun r σ' => σ' = σ0 ∧ Q r) := by
  refine Ci.of (lv := [(0, .ref (ad 0)), (1, .int x1), (2, .int x2)]) (by decide) adM (Nat.le_of_ble_eq_true rfl) rfl ?_
  intro p e s m args below meth c A C
  refine j_aload_n C dX7_lookAt_0 0 rfl ?_
  refine j_iload_n C dX7_lookAt_1 1 rfl ?_
  refine j_callpi 0 [.int x1] [] C (kX7_look_ok x1 σ0 h) (tt_V ml_X7_182 mV_X7_look) ok_X7_look ⟨by decide, by decide⟩ rfl (r_wM_0 (σ := σ0)) (Nat.le_of_ble_eq_true rfl) rfl dX7_lookAt_2 (fun r2 h => ?_)
  refine j_istore_n (lv' := [(3, .int r2), (0, .ref (ad 0)), (1, .int x1), (2, .int x2)]) C dX7_lookAt_5 (by decide) rfl ?_
  refine j_iload_n C dX7_lookAt_6 0 rfl ?_
  refine j_if_ge 14 C dX7_lookAt_7 rfl h (fun h => ?_) (fun h => ?_)
  · refine j_iload_n C dX7_lookAt_14 3 rfl ?_
    refine j_if_lt 31 C dX7_lookAt_15 rfl h (fun h => ?_) (fun h => ?_)
    · refine j_iconst (v := (-1)) C dX7_lookAt_31 (by decide) ?_
      refine j_goto 36 C dX7_lookAt_32 rfl ?_
      exact j_iret C dX7_lookAt_36 ⟨rfl, h⟩
    · refine j_iload_n C dX7_lookAt_18 3 rfl ?_
      refine j_aload_n C dX7_lookAt_19 1 rfl ?_
      refine gf_X7_36 C dX7_lookAt_20 ?_
      refine j_iload_n C dX7_lookAt_23 2 rfl ?_
      refine j_bipush (v := 100) C dX7_lookAt_24 (by decide) ?_
      refine j_irem C dX7_lookAt_26 (by decide) ?_
      refine al_wM_9 C h.1 dX7_lookAt_27 ?_
      replace h := h.2
      refine j_icmp_lt 35 C dX7_lookAt_28 rfl h (fun h => ?_) (fun h => ?_)
      · refine j_iconst (v := 0) C dX7_lookAt_35 (by decide) ?_
        exact j_iret C dX7_lookAt_36 ⟨rfl, h⟩
      · refine j_iconst (v := (-1)) C dX7_lookAt_31 (by decide) ?_
        refine j_goto 36 C dX7_lookAt_32 rfl ?_
        exact j_iret C dX7_lookAt_36 ⟨rfl, h⟩
  · refine j_iload_n C dX7_lookAt_10 0 rfl ?_
    refine j_goto 36 C dX7_lookAt_11 rfl ?_
    exact j_iret C dX7_lookAt_36 ⟨rfl, h⟩
def wX7_firstNumber (x1 : Int32) (σ : SS) (Q : Int32 → Prop) : Prop := vp_in x1 100 ∧ (vp_in x1 100 ∧ (wX7_firstOf (gA σ 7 x1.toNatClampNeg) (gA σ 8 x1.toNatClampNeg) σ (fun r13 => Q r13)))
set_option maxRecDepth 100000 in
set_option maxHeartbeats 4000000 in
theorem kX7_firstNumber_ok {l : Launch} {D : va_G} {cI cJ cZ : ClassId} {ad : Nat → Nat} (x1 : Int32) (σ0 : SS) {Q : Int32 → Prop} (h : wX7_firstNumber x1 σ0 Q) : Ci l yX7_firstNumber (.code yX7_firstNumber cX7_firstNumber 2 (some .int) :: TT) { frames := 1, cells := 0, slots := 0, locals := 22 } D (tys cI cJ cZ) (wM cI cJ cZ ad) [.ref (ad 0), .int x1] σ0 (fun r σ' => σ' = σ0 ∧ Q r) := by
  refine Ci.of (lv := [(0, .ref (ad 0)), (1, .int x1)]) (by decide) adM (Nat.le_of_ble_eq_true rfl) rfl ?_
  intro p e s m args below meth c A C
  refine j_aload_n C dX7_firstNumber_0 0 rfl ?_
  refine j_aload_n C dX7_firstNumber_1 0 rfl ?_
  refine gf_X7_39 C dX7_firstNumber_2 ?_
  refine j_iload_n C dX7_firstNumber_5 1 rfl ?_
  refine al_wM_10 C h.1 dX7_firstNumber_6 ?_
  replace h := h.2
  refine j_aload_n C dX7_firstNumber_7 0 rfl ?_
  refine gf_X7_42 C dX7_firstNumber_8 ?_
  refine j_iload_n C dX7_firstNumber_11 1 rfl ?_
  refine al_wM_11 C h.1 dX7_firstNumber_12 ?_
  replace h := h.2
  refine j_callpi 0 [.int (gA σ0 7 x1.toNatClampNeg), .int (gA σ0 8 x1.toNatClampNeg)] [] C (kX7_firstOf_ok (gA σ0 7 x1.toNatClampNeg) (gA σ0 8 x1.toNatClampNeg) σ0 h) (tt_V ml_X7_194 mV_X7_firstOf) ok_X7_firstOf ⟨by decide, by decide⟩ rfl (r_wM_0 (σ := σ0)) (Nat.le_of_ble_eq_true rfl) rfl dX7_firstNumber_13 (fun r13 h => ?_)
  exact j_iret C dX7_firstNumber_16 ⟨rfl, h⟩
def wX7_write_b29 (x5 : Int32) (σ : SS) (Q : Int32 → SS → Prop) : Prop := wX7_answer x5 σ (fun r32 σ32 => Q r32 σ32)
def wX7_write (x1 : Int32) (x2 : Int32) (x3 : Int64) (σ : SS) (Q : Int32 → SS → Prop) : Prop := wX7_lookAt x1 x2 σ (fun r3 => (¬ r3 = 0 → wX7_write_b29 r3 σ Q) ∧ (r3 = 0 → wX7_firstNumber (x1 - x1 / 100 * 100) σ (fun r22 => vp_in (r22 + x2) 2560 ∧ (wX7_write_b29 r3 (sB σ 0 (r22 + x2).toNatClampNeg x3) Q))))
set_option maxRecDepth 100000 in
set_option maxHeartbeats 4000000 in
theorem kX7_write_ok {l : Launch} {D : va_G} {cI cJ cZ : ClassId} {ad : Nat → Nat} (x1 : Int32) (x2 : Int32) (x3 : Int64) (σ0 : SS) {Q : Int32 → SS → Prop} (h : wX7_write x1 x2 x3 σ0 Q) : Ci l yX7_write (.code yX7_write cX7_write 6 (some .int) :: TT) { frames := 2, cells := 0, slots := 0, locals := 45 } D (tys cI cJ cZ) (wM cI cJ cZ ad) [.ref (ad 0), .int x1, .int x2, .long x3] σ0 Q := by
  refine Ci.of (lv := [(0, .ref (ad 0)), (1, .int x1), (2, .int x2), (3, .long x3)]) (by decide) adM (Nat.le_of_ble_eq_true rfl) rfl ?_
  intro p e s m args below meth c A C
  have k29 : ∀ (x5 : Int32), ∀ (σ : SS), wX7_write_b29 x5 σ Q → J p l e { frames := 2, cells := 0, slots := 0, locals := 45 } s m args below meth c D (wM cI cJ cZ ad) A 6 (MQ below (va_Qi Q (WW D (tys cI cJ cZ) (wM cI cJ cZ ad)) A) args s 0 0 A) σ 29 [(0, .ref (ad 0)), (5, .int x5)] [] := by
    intro x5 σ h
    refine j_aload_n C dX7_write_29 0 rfl ?_
    refine j_iload C dX7_write_30 1 rfl ?_
    refine j_calli 0 [.int x5] [] C (kX7_answer_ok x5 σ h) (tt_V ml_X7_90 mV_X7_answer) ok_X7_answer ⟨by decide, by decide⟩ rfl (r_wM_0 (σ := σ)) (Nat.le_of_ble_eq_true rfl) rfl dX7_write_32 (fun r32 σ32 h => ?_)
    exact j_iret C dX7_write_35 h
  refine j_aload_n C dX7_write_0 0 rfl ?_
  refine j_iload_n C dX7_write_1 1 rfl ?_
  refine j_iload_n C dX7_write_2 2 rfl ?_
  refine j_callpi 0 [.int x1, .int x2] [] C (kX7_lookAt_ok x1 x2 σ0 h) (tt_V ml_X7_197 mV_X7_lookAt) ok_X7_lookAt ⟨by decide, by decide⟩ rfl (r_wM_0 (σ := σ0)) (Nat.le_of_ble_eq_true rfl) rfl dX7_write_3 (fun r3 h => ?_)
  refine j_istore (lv' := [(5, .int r3), (0, .ref (ad 0)), (1, .int x1), (2, .int x2), (3, .long x3)]) C dX7_write_6 (by decide) rfl ?_
  refine j_iload C dX7_write_8 0 rfl ?_
  refine j_if_ne 29 C dX7_write_10 rfl h (fun h => ?_) (fun h => ?_)
  · refine j_sub (lv' := [(0, .ref (ad 0)), (5, .int r3)]) [1, 0] rfl ?_
    exact k29 _ _ h
  · refine j_aload_n C dX7_write_13 1 rfl ?_
    refine gf_X7_13 C dX7_write_14 ?_
    refine j_aload_n C dX7_write_17 1 rfl ?_
    refine j_iload_n C dX7_write_18 2 rfl ?_
    refine j_bipush (v := 100) C dX7_write_19 (by decide) ?_
    refine j_irem C dX7_write_21 (by decide) ?_
    refine j_callpi 0 [.int (x1 - x1 / 100 * 100)] [.ref (ad 2)] C (kX7_firstNumber_ok (x1 - x1 / 100 * 100) σ0 h) (tt_V ml_X7_200 mV_X7_firstNumber) ok_X7_firstNumber ⟨by decide, by decide⟩ rfl (r_wM_0 (σ := σ0)) (Nat.le_of_ble_eq_true rfl) rfl dX7_write_22 (fun r22 h => ?_)
    refine j_iload_n C dX7_write_25 3 rfl ?_
    refine j_iadd C dX7_write_26 ?_
    refine j_lload_n C dX7_write_27 4 rfl ?_
    refine as_wM_2 C h.1 dX7_write_28 ?_
    replace h := h.2
    refine j_sub (lv' := [(0, .ref (ad 0)), (5, .int r3)]) [1, 0] rfl ?_
    exact k29 _ _ h
def wX7_read_b30 (x3 : Int32) (σ : SS) (Q : Int32 → SS → Prop) : Prop := wX7_answer x3 σ (fun r32 σ32 => Q r32 σ32)
def wX7_read (x1 : Int32) (x2 : Int32) (σ : SS) (Q : Int32 → SS → Prop) : Prop := wX7_lookAt x1 x2 σ (fun r3 => (¬ r3 = 0 → wX7_read_b30 r3 σ Q) ∧ (r3 = 0 → wX7_firstNumber (x1 - x1 / 100 * 100) σ (fun r21 => vp_in (r21 + x2) 2560 ∧ (wX7_read_b30 r3 (sL σ 0 (gB σ 0 (r21 + x2).toNatClampNeg)) Q))))
set_option maxRecDepth 100000 in
set_option maxHeartbeats 4000000 in
theorem kX7_read_ok {l : Launch} {D : va_G} {cI cJ cZ : ClassId} {ad : Nat → Nat} (x1 : Int32) (x2 : Int32) (σ0 : SS) {Q : Int32 → SS → Prop} (h : wX7_read x1 x2 σ0 Q) : Ci l yX7_read (.code yX7_read cX7_read 4 (some .int) :: TT) { frames := 2, cells := 0, slots := 0, locals := 45 } D (tys cI cJ cZ) (wM cI cJ cZ ad) [.ref (ad 0), .int x1, .int x2] σ0 Q := by
  refine Ci.of (lv := [(0, .ref (ad 0)), (1, .int x1), (2, .int x2)]) (by decide) adM (Nat.le_of_ble_eq_true rfl) rfl ?_
  intro p e s m args below meth c A C
  have k30 : ∀ (x3 : Int32), ∀ (σ : SS), wX7_read_b30 x3 σ Q → J p l e { frames := 2, cells := 0, slots := 0, locals := 45 } s m args below meth c D (wM cI cJ cZ ad) A 4 (MQ below (va_Qi Q (WW D (tys cI cJ cZ) (wM cI cJ cZ ad)) A) args s 0 0 A) σ 30 [(0, .ref (ad 0)), (3, .int x3)] [] := by
    intro x3 σ h
    refine j_aload_n C dX7_read_30 0 rfl ?_
    refine j_iload_n C dX7_read_31 1 rfl ?_
    refine j_calli 0 [.int x3] [] C (kX7_answer_ok x3 σ h) (tt_V ml_X7_90 mV_X7_answer) ok_X7_answer ⟨by decide, by decide⟩ rfl (r_wM_0 (σ := σ)) (Nat.le_of_ble_eq_true rfl) rfl dX7_read_32 (fun r32 σ32 h => ?_)
    exact j_iret C dX7_read_35 h
  refine j_aload_n C dX7_read_0 0 rfl ?_
  refine j_iload_n C dX7_read_1 1 rfl ?_
  refine j_iload_n C dX7_read_2 2 rfl ?_
  refine j_callpi 0 [.int x1, .int x2] [] C (kX7_lookAt_ok x1 x2 σ0 h) (tt_V ml_X7_197 mV_X7_lookAt) ok_X7_lookAt ⟨by decide, by decide⟩ rfl (r_wM_0 (σ := σ0)) (Nat.le_of_ble_eq_true rfl) rfl dX7_read_3 (fun r3 h => ?_)
  refine j_istore_n (lv' := [(3, .int r3), (0, .ref (ad 0)), (1, .int x1), (2, .int x2)]) C dX7_read_6 (by decide) rfl ?_
  refine j_iload_n C dX7_read_7 0 rfl ?_
  refine j_if_ne 30 C dX7_read_8 rfl h (fun h => ?_) (fun h => ?_)
  · refine j_sub (lv' := [(0, .ref (ad 0)), (3, .int r3)]) [1, 0] rfl ?_
    exact k30 _ _ h
  · refine j_aload_n C dX7_read_11 1 rfl ?_
    refine j_aload_n C dX7_read_12 1 rfl ?_
    refine gf_X7_13 C dX7_read_13 ?_
    refine j_aload_n C dX7_read_16 1 rfl ?_
    refine j_iload_n C dX7_read_17 2 rfl ?_
    refine j_bipush (v := 100) C dX7_read_18 (by decide) ?_
    refine j_irem C dX7_read_20 (by decide) ?_
    refine j_callpi 0 [.int (x1 - x1 / 100 * 100)] [.ref (ad 2), .ref (ad 0)] C (kX7_firstNumber_ok (x1 - x1 / 100 * 100) σ0 h) (tt_V ml_X7_200 mV_X7_firstNumber) ok_X7_firstNumber ⟨by decide, by decide⟩ rfl (r_wM_0 (σ := σ0)) (Nat.le_of_ble_eq_true rfl) rfl dX7_read_21 (fun r21 h => ?_)
    refine j_iload_n C dX7_read_24 3 rfl ?_
    refine j_iadd C dX7_read_25 ?_
    refine al_wM_2 C h.1 dX7_read_26 ?_
    replace h := h.2
    refine pf_X7_104 C dX7_read_27 ?_
    refine j_sub (lv' := [(0, .ref (ad 0)), (3, .int r3)]) [1, 0] rfl ?_
    exact k30 _ _ h
def wX7_value (σ : SS) (Q : Int64 → Prop) : Prop := Q (gL σ 0)
set_option maxRecDepth 100000 in
set_option maxHeartbeats 4000000 in
theorem kX7_value_ok {l : Launch} {D : va_G} {cI cJ cZ : ClassId} {ad : Nat → Nat} (σ0 : SS) {Q : Int64 → Prop} (h : wX7_value σ0 Q) : Cl l yX7_value (.code yX7_value cX7_value 1 (some .long) :: TT) { frames := 0, cells := 0, slots := 0, locals := 0 } D (tys cI cJ cZ) (wM cI cJ cZ ad) [.ref (ad 0)] σ0 (fun r σ' => σ' = σ0 ∧ Q r) := by
  refine Cl.of (lv := [(0, .ref (ad 0))]) (by decide) adM (Nat.le_of_ble_eq_true rfl) rfl ?_
  intro p e s m args below meth c A C
  refine j_aload_n C dX7_value_0 0 rfl ?_
  refine gf_X7_104 C dX7_value_1 ?_
  exact j_lret C dX7_value_4 ⟨rfl, h⟩
def wX7_copy_b157 (x4 : Int32) (x5 : Int32) (x8 : Int32) (x9 : Int32) (σ : SS) (Q : Int32 → SS → Prop) : Prop := lfp (fun (X157 : Int32 × SS → Prop) (t : Int32 × SS) => (x5 ≤ t.1 → Q x5 t.2) ∧ (¬ x5 ≤ t.1 → wX7_firstNumber x8 t.2 (fun r171 => vp_in t.1 2000 ∧ (vp_in ((r171 + x4) + t.1) 2560 ∧ (X157 ((t.1 + 1), sB t.2 0 ((r171 + x4) + t.1).toNatClampNeg (gB t.2 4 t.1.toNatClampNeg))))))) (x9, σ)
def wX7_copy_b118 (x2 : Int32) (x4 : Int32) (x5 : Int32) (x7 : Int32) (x8 : Int32) (x9 : Int32) (σ : SS) (Q : Int32 → SS → Prop) : Prop := lfp (fun (X118 : Int32 × SS → Prop) (t : Int32 × SS) => (x5 ≤ t.1 → wX7_copy_b157 x4 x5 x8 0 t.2 Q) ∧ (¬ x5 ≤ t.1 → wX7_firstNumber x7 t.2 (fun r138 => vp_in ((r138 + x2) + t.1) 2560 ∧ (vp_in t.1 2000 ∧ (X118 ((t.1 + 1), sB t.2 4 t.1.toNatClampNeg (gB t.2 0 ((r138 + x2) + t.1).toNatClampNeg))))))) (x9, σ)
def wX7_copy_b109 (σ : SS) (Q : Int32 → SS → Prop) : Prop := wX7_answer ((-1)) σ (fun r111 σ111 => Q r111 σ111)
def wX7_copy_b47 (t0 : Int32) (σ : SS) (Q : Int32 → SS → Prop) : Prop := wX7_answer t0 σ (fun r47 σ47 => Q r47 σ47)
def wX7_copy_b34 (x6 : Int32) (σ : SS) (Q : Int32 → SS → Prop) : Prop := (0 ≤ x6 → wX7_copy_b47 ((-3)) σ Q) ∧ (¬ 0 ≤ x6 → wX7_copy_b47 x6 σ Q)
def wX7_copy_b22 (x1 : Int32) (x2 : Int32) (x3 : Int32) (x4 : Int32) (x5 : Int32) (t0 : Int32) (σ : SS) (Q : Int32 → SS → Prop) : Prop := (t0 < 0 → wX7_copy_b34 t0 σ Q) ∧ (¬ t0 < 0 → (0 ≤ x5 → (x2 < 0 → wX7_copy_b109 σ Q) ∧ (¬ x2 < 0 → (x4 < 0 → wX7_copy_b109 σ Q) ∧ (¬ x4 < 0 → vp_in (x1 - x1 / 100 * 100) 100 ∧ ((0 < (lg_cmp (x2.toInt64 + x5.toInt64) ((gA σ 6 (x1 - x1 / 100 * 100).toNatClampNeg).toInt64)) → wX7_copy_b109 σ Q) ∧ (¬ 0 < (lg_cmp (x2.toInt64 + x5.toInt64) ((gA σ 6 (x1 - x1 / 100 * 100).toNatClampNeg).toInt64)) → vp_in (x3 - x3 / 100 * 100) 100 ∧ (((lg_cmp (x4.toInt64 + x5.toInt64) ((gA σ 6 (x3 - x3 / 100 * 100).toNatClampNeg).toInt64)) ≤ 0 → wX7_copy_b118 x2 x4 x5 (x1 - x1 / 100 * 100) (x3 - x3 / 100 * 100) 0 σ Q) ∧ (¬ (lg_cmp (x4.toInt64 + x5.toInt64) ((gA σ 6 (x3 - x3 / 100 * 100).toNatClampNeg).toInt64)) ≤ 0 → wX7_copy_b109 σ Q))))))) ∧ (¬ 0 ≤ x5 → wX7_copy_b34 t0 σ Q))
def wX7_copy (x1 : Int32) (x2 : Int32) (x3 : Int32) (x4 : Int32) (x5 : Int32) (σ : SS) (Q : Int32 → SS → Prop) : Prop := wX7_look x1 σ (fun r2 => (0 ≤ r2 → wX7_look x3 σ (fun r19 => wX7_copy_b22 x1 x2 x3 x4 x5 r19 σ Q)) ∧ (¬ 0 ≤ r2 → wX7_copy_b22 x1 x2 x3 x4 x5 r2 σ Q))
set_option maxRecDepth 100000 in
set_option maxHeartbeats 4000000 in
theorem kX7_copy_ok {l : Launch} {D : va_G} {cI cJ cZ : ClassId} {ad : Nat → Nat} (x1 : Int32) (x2 : Int32) (x3 : Int32) (x4 : Int32) (x5 : Int32) (σ0 : SS) {Q : Int32 → SS → Prop} (h : wX7_copy x1 x2 x3 x4 x5 σ0 Q) : Ci l yX7_copy (.code yX7_copy cX7_copy 10 (some .int) :: TT) { frames := 2, cells := 0, slots := 0, locals := 43 } D (tys cI cJ cZ) (wM cI cJ cZ ad) [.ref (ad 0), .int x1, .int x2, .int x3, .int x4, .int x5] σ0 Q := by
  refine Ci.of (lv := [(0, .ref (ad 0)), (1, .int x1), (2, .int x2), (3, .int x3), (4, .int x4), (5, .int x5)]) (by decide) adM (Nat.le_of_ble_eq_true rfl) rfl ?_
  intro p e s m args below meth c A C
  have k157 : ∀ (x4 : Int32), ∀ (x5 : Int32), ∀ (x8 : Int32), ∀ (x9 : Int32), ∀ (σ : SS), wX7_copy_b157 x4 x5 x8 x9 σ Q → J p l e { frames := 2, cells := 0, slots := 0, locals := 43 } s m args below meth c D (wM cI cJ cZ ad) A 10 (MQ below (va_Qi Q (WW D (tys cI cJ cZ) (wM cI cJ cZ ad)) A) args s 0 0 A) σ 157 [(0, .ref (ad 0)), (4, .int x4), (5, .int x5), (8, .int x8), (9, .int x9)] [] := by
    intro x4 x5 x8 x9 σ h
    refine h (fun t => J p l e { frames := 2, cells := 0, slots := 0, locals := 43 } s m args below meth c D (wM cI cJ cZ ad) A 10 (MQ below (va_Qi Q (WW D (tys cI cJ cZ) (wM cI cJ cZ ad)) A) args s 0 0 A) t.2 157 [(0, .ref (ad 0)), (4, .int x4), (5, .int x5), (8, .int x8), (9, .int t.1)] []) (fun t h => ?_)
    obtain ⟨x9, σ⟩ := t
    try dsimp only at h
    refine j_iload C dX7_copy_157 4 rfl ?_
    refine j_iload C dX7_copy_159 2 rfl ?_
    refine j_icmp_ge 194 C dX7_copy_161 rfl h (fun h => ?_) (fun h => ?_)
    · refine j_iload C dX7_copy_194 2 rfl ?_
      exact j_iret C dX7_copy_196 h
    · refine j_aload_n C dX7_copy_164 0 rfl ?_
      refine gf_X7_13 C dX7_copy_165 ?_
      refine j_aload_n C dX7_copy_168 0 rfl ?_
      refine j_iload C dX7_copy_169 3 rfl ?_
      refine j_callpi 0 [.int x8] [.ref (ad 2)] C (kX7_firstNumber_ok x8 σ h) (tt_V ml_X7_200 mV_X7_firstNumber) ok_X7_firstNumber ⟨by decide, by decide⟩ rfl (r_wM_0 (σ := σ)) (Nat.le_of_ble_eq_true rfl) rfl dX7_copy_171 (fun r171 h => ?_)
      refine j_iload C dX7_copy_174 1 rfl ?_
      refine j_iadd C dX7_copy_176 ?_
      refine j_iload C dX7_copy_177 4 rfl ?_
      refine j_iadd C dX7_copy_179 ?_
      refine j_aload_n C dX7_copy_180 0 rfl ?_
      refine gf_X7_87 C dX7_copy_181 ?_
      refine j_iload C dX7_copy_184 4 rfl ?_
      refine al_wM_26 C h.1 dX7_copy_186 ?_
      replace h := h.2
      refine as_wM_2 C h.1 dX7_copy_187 ?_
      replace h := h.2
      refine j_iinc (lv' := [(9, .int (x9 + 1)), (0, .ref (ad 0)), (4, .int x4), (5, .int x5), (8, .int x8)]) (x9 + 1) C dX7_copy_188 4 rfl rfl (by decide) rfl ?_
      refine j_goto 157 C dX7_copy_191 rfl ?_
      refine j_sub (lv' := [(0, .ref (ad 0)), (4, .int x4), (5, .int x5), (8, .int x8), (9, .int (x9 + 1))]) [1, 2, 3, 4, 0] rfl ?_
      exact h
  have k118 : ∀ (x2 : Int32), ∀ (x4 : Int32), ∀ (x5 : Int32), ∀ (x7 : Int32), ∀ (x8 : Int32), ∀ (x9 : Int32), ∀ (σ : SS), wX7_copy_b118 x2 x4 x5 x7 x8 x9 σ Q → J p l e { frames := 2, cells := 0, slots := 0, locals := 43 } s m args below meth c D (wM cI cJ cZ ad) A 10 (MQ below (va_Qi Q (WW D (tys cI cJ cZ) (wM cI cJ cZ ad)) A) args s 0 0 A) σ 118 [(0, .ref (ad 0)), (2, .int x2), (4, .int x4), (5, .int x5), (7, .int x7), (8, .int x8), (9, .int x9)] [] := by
    intro x2 x4 x5 x7 x8 x9 σ h
    refine h (fun t => J p l e { frames := 2, cells := 0, slots := 0, locals := 43 } s m args below meth c D (wM cI cJ cZ ad) A 10 (MQ below (va_Qi Q (WW D (tys cI cJ cZ) (wM cI cJ cZ ad)) A) args s 0 0 A) t.2 118 [(0, .ref (ad 0)), (2, .int x2), (4, .int x4), (5, .int x5), (7, .int x7), (8, .int x8), (9, .int t.1)] []) (fun t h => ?_)
    obtain ⟨x9, σ⟩ := t
    try dsimp only at h
    refine j_iload C dX7_copy_118 6 rfl ?_
    refine j_iload C dX7_copy_120 3 rfl ?_
    refine j_icmp_ge 154 C dX7_copy_122 rfl h (fun h => ?_) (fun h => ?_)
    · refine j_iconst (v := 0) C dX7_copy_154 (by decide) ?_
      refine j_istore (lv' := [(9, .int 0), (0, .ref (ad 0)), (2, .int x2), (4, .int x4), (5, .int x5), (7, .int x7), (8, .int x8)]) C dX7_copy_155 (by decide) rfl ?_
      refine j_sub (lv' := [(0, .ref (ad 0)), (4, .int x4), (5, .int x5), (8, .int x8), (9, .int 0)]) [1, 3, 4, 6, 0] rfl ?_
      exact k157 _ _ _ _ _ h
    · refine j_aload_n C dX7_copy_125 0 rfl ?_
      refine gf_X7_87 C dX7_copy_126 ?_
      refine j_iload C dX7_copy_129 6 rfl ?_
      refine j_aload_n C dX7_copy_131 0 rfl ?_
      refine gf_X7_13 C dX7_copy_132 ?_
      refine j_aload_n C dX7_copy_135 0 rfl ?_
      refine j_iload C dX7_copy_136 4 rfl ?_
      refine j_callpi 0 [.int x7] [.ref (ad 2), .int x9, .ref (ad 26)] C (kX7_firstNumber_ok x7 σ h) (tt_V ml_X7_200 mV_X7_firstNumber) ok_X7_firstNumber ⟨by decide, by decide⟩ rfl (r_wM_0 (σ := σ)) (Nat.le_of_ble_eq_true rfl) rfl dX7_copy_138 (fun r138 h => ?_)
      refine j_iload_n C dX7_copy_141 1 rfl ?_
      refine j_iadd C dX7_copy_142 ?_
      refine j_iload C dX7_copy_143 6 rfl ?_
      refine j_iadd C dX7_copy_145 ?_
      refine al_wM_2 C h.1 dX7_copy_146 ?_
      replace h := h.2
      refine as_wM_26 C h.1 dX7_copy_147 ?_
      replace h := h.2
      refine j_iinc (lv' := [(9, .int (x9 + 1)), (0, .ref (ad 0)), (2, .int x2), (4, .int x4), (5, .int x5), (7, .int x7), (8, .int x8)]) (x9 + 1) C dX7_copy_148 6 rfl rfl (by decide) rfl ?_
      refine j_goto 118 C dX7_copy_151 rfl ?_
      refine j_sub (lv' := [(0, .ref (ad 0)), (2, .int x2), (4, .int x4), (5, .int x5), (7, .int x7), (8, .int x8), (9, .int (x9 + 1))]) [1, 2, 3, 4, 5, 6, 0] rfl ?_
      exact h
  have k109 : ∀ (σ : SS), wX7_copy_b109 σ Q → J p l e { frames := 2, cells := 0, slots := 0, locals := 43 } s m args below meth c D (wM cI cJ cZ ad) A 10 (MQ below (va_Qi Q (WW D (tys cI cJ cZ) (wM cI cJ cZ ad)) A) args s 0 0 A) σ 109 [(0, .ref (ad 0))] [] := by
    intro σ h
    refine j_aload_n C dX7_copy_109 0 rfl ?_
    refine j_iconst (v := (-1)) C dX7_copy_110 (by decide) ?_
    refine j_calli 0 [.int ((-1))] [] C (kX7_answer_ok ((-1)) σ h) (tt_V ml_X7_90 mV_X7_answer) ok_X7_answer ⟨by decide, by decide⟩ rfl (r_wM_0 (σ := σ)) (Nat.le_of_ble_eq_true rfl) rfl dX7_copy_111 (fun r111 σ111 h => ?_)
    exact j_iret C dX7_copy_114 h
  have k47 : ∀ (t0 : Int32), ∀ (σ : SS), wX7_copy_b47 t0 σ Q → J p l e { frames := 2, cells := 0, slots := 0, locals := 43 } s m args below meth c D (wM cI cJ cZ ad) A 10 (MQ below (va_Qi Q (WW D (tys cI cJ cZ) (wM cI cJ cZ ad)) A) args s 0 0 A) σ 47 [] [.int t0, .ref (ad 0)] := by
    intro t0 σ h
    refine j_calli 0 [.int t0] [] C (kX7_answer_ok t0 σ h) (tt_V ml_X7_90 mV_X7_answer) ok_X7_answer ⟨by decide, by decide⟩ rfl (r_wM_0 (σ := σ)) (Nat.le_of_ble_eq_true rfl) rfl dX7_copy_47 (fun r47 σ47 h => ?_)
    exact j_iret C dX7_copy_50 h
  have k34 : ∀ (x6 : Int32), ∀ (σ : SS), wX7_copy_b34 x6 σ Q → J p l e { frames := 2, cells := 0, slots := 0, locals := 43 } s m args below meth c D (wM cI cJ cZ ad) A 10 (MQ below (va_Qi Q (WW D (tys cI cJ cZ) (wM cI cJ cZ ad)) A) args s 0 0 A) σ 34 [(0, .ref (ad 0)), (6, .int x6)] [] := by
    intro x6 σ h
    refine j_aload_n C dX7_copy_34 0 rfl ?_
    refine j_iload C dX7_copy_35 1 rfl ?_
    refine j_if_ge 45 C dX7_copy_37 rfl h (fun h => ?_) (fun h => ?_)
    · refine j_bipush (v := (-3)) C dX7_copy_45 (by decide) ?_
      refine j_sub (lv' := []) [] rfl ?_
      exact k47 _ _ h
    · refine j_iload C dX7_copy_40 1 rfl ?_
      refine j_goto 47 C dX7_copy_42 rfl ?_
      refine j_sub (lv' := []) [] rfl ?_
      exact k47 _ _ h
  have k22 : ∀ (x1 : Int32), ∀ (x2 : Int32), ∀ (x3 : Int32), ∀ (x4 : Int32), ∀ (x5 : Int32), ∀ (t0 : Int32), ∀ (σ : SS), wX7_copy_b22 x1 x2 x3 x4 x5 t0 σ Q → J p l e { frames := 2, cells := 0, slots := 0, locals := 43 } s m args below meth c D (wM cI cJ cZ ad) A 10 (MQ below (va_Qi Q (WW D (tys cI cJ cZ) (wM cI cJ cZ ad)) A) args s 0 0 A) σ 22 [(0, .ref (ad 0)), (1, .int x1), (2, .int x2), (3, .int x3), (4, .int x4), (5, .int x5)] [.int t0] := by
    intro x1 x2 x3 x4 x5 t0 σ h
    refine j_istore (lv' := [(6, .int t0), (0, .ref (ad 0)), (1, .int x1), (2, .int x2), (3, .int x3), (4, .int x4), (5, .int x5)]) C dX7_copy_22 (by decide) rfl ?_
    refine j_iload C dX7_copy_24 0 rfl ?_
    refine j_if_lt 34 C dX7_copy_26 rfl h (fun h => ?_) (fun h => ?_)
    · refine j_sub (lv' := [(0, .ref (ad 0)), (6, .int t0)]) [1, 0] rfl ?_
      exact k34 _ _ h
    · refine j_iload C dX7_copy_29 6 rfl ?_
      refine j_if_ge 51 C dX7_copy_31 rfl h (fun h => ?_) (fun h => ?_)
      · refine j_iload_n C dX7_copy_51 2 rfl ?_
        refine j_bipush (v := 100) C dX7_copy_52 (by decide) ?_
        refine j_irem C dX7_copy_54 (by decide) ?_
        refine j_istore (lv' := [(7, .int (x1 - x1 / 100 * 100)), (6, .int t0), (0, .ref (ad 0)), (1, .int x1), (2, .int x2), (3, .int x3), (4, .int x4), (5, .int x5)]) C dX7_copy_55 (by decide) rfl ?_
        refine j_iload_n C dX7_copy_57 5 rfl ?_
        refine j_bipush (v := 100) C dX7_copy_58 (by decide) ?_
        refine j_irem C dX7_copy_60 (by decide) ?_
        refine j_istore (lv' := [(8, .int (x3 - x3 / 100 * 100)), (7, .int (x1 - x1 / 100 * 100)), (6, .int t0), (0, .ref (ad 0)), (1, .int x1), (2, .int x2), (3, .int x3), (4, .int x4), (5, .int x5)]) C dX7_copy_61 (by decide) rfl ?_
        refine j_iload_n C dX7_copy_63 5 rfl ?_
        refine j_if_lt 109 C dX7_copy_64 rfl h (fun h => ?_) (fun h => ?_)
        · refine j_sub (lv' := [(0, .ref (ad 0))]) [3] rfl ?_
          exact k109 _ h
        · refine j_iload C dX7_copy_67 7 rfl ?_
          refine j_if_lt 109 C dX7_copy_69 rfl h (fun h => ?_) (fun h => ?_)
          · refine j_sub (lv' := [(0, .ref (ad 0))]) [3] rfl ?_
            exact k109 _ h
          · refine j_iload_n C dX7_copy_72 5 rfl ?_
            refine j_i2l C dX7_copy_73 ?_
            refine j_iload C dX7_copy_74 8 rfl ?_
            refine j_i2l C dX7_copy_76 ?_
            refine j_ladd C dX7_copy_77 ?_
            refine j_aload_n C dX7_copy_78 3 rfl ?_
            refine gf_X7_36 C dX7_copy_79 ?_
            refine j_iload C dX7_copy_82 1 rfl ?_
            refine al_wM_9 C h.1 dX7_copy_84 ?_
            replace h := h.2
            refine j_i2l C dX7_copy_85 ?_
            refine j_lcmp C dX7_copy_86 ?_
            refine j_if_gt 109 C dX7_copy_87 rfl h (fun h => ?_) (fun h => ?_)
            · refine j_sub (lv' := [(0, .ref (ad 0))]) [3] rfl ?_
              exact k109 _ h
            · refine j_iload C dX7_copy_90 7 rfl ?_
              refine j_i2l C dX7_copy_92 ?_
              refine j_iload C dX7_copy_93 8 rfl ?_
              refine j_i2l C dX7_copy_95 ?_
              refine j_ladd C dX7_copy_96 ?_
              refine j_aload_n C dX7_copy_97 3 rfl ?_
              refine gf_X7_36 C dX7_copy_98 ?_
              refine j_iload C dX7_copy_101 0 rfl ?_
              refine al_wM_9 C h.1 dX7_copy_103 ?_
              replace h := h.2
              refine j_i2l C dX7_copy_104 ?_
              refine j_lcmp C dX7_copy_105 ?_
              refine j_if_le 115 C dX7_copy_106 rfl h (fun h => ?_) (fun h => ?_)
              · refine j_iconst (v := 0) C dX7_copy_115 (by decide) ?_
                refine j_istore (lv' := [(9, .int 0), (8, .int (x3 - x3 / 100 * 100)), (7, .int (x1 - x1 / 100 * 100)), (6, .int t0), (0, .ref (ad 0)), (1, .int x1), (2, .int x2), (3, .int x3), (4, .int x4), (5, .int x5)]) C dX7_copy_116 (by decide) rfl ?_
                refine j_sub (lv' := [(0, .ref (ad 0)), (2, .int x2), (4, .int x4), (5, .int x5), (7, .int (x1 - x1 / 100 * 100)), (8, .int (x3 - x3 / 100 * 100)), (9, .int 0)]) [4, 6, 8, 9, 2, 1, 0] rfl ?_
                exact k118 _ _ _ _ _ _ _ h
              · refine j_sub (lv' := [(0, .ref (ad 0))]) [3] rfl ?_
                exact k109 _ h
      · refine j_sub (lv' := [(0, .ref (ad 0)), (6, .int t0)]) [1, 0] rfl ?_
        exact k34 _ _ h
  refine j_aload_n C dX7_copy_0 0 rfl ?_
  refine j_iload_n C dX7_copy_1 1 rfl ?_
  refine j_callpi 0 [.int x1] [] C (kX7_look_ok x1 σ0 h) (tt_V ml_X7_182 mV_X7_look) ok_X7_look ⟨by decide, by decide⟩ rfl (r_wM_0 (σ := σ0)) (Nat.le_of_ble_eq_true rfl) rfl dX7_copy_2 (fun r2 h => ?_)
  refine j_istore (lv' := [(6, .int r2), (0, .ref (ad 0)), (1, .int x1), (2, .int x2), (3, .int x3), (4, .int x4), (5, .int x5)]) C dX7_copy_5 (by decide) rfl ?_
  refine j_iload C dX7_copy_7 0 rfl ?_
  refine j_if_ge 17 C dX7_copy_9 rfl h (fun h => ?_) (fun h => ?_)
  · refine j_aload_n C dX7_copy_17 1 rfl ?_
    refine j_iload_n C dX7_copy_18 4 rfl ?_
    refine j_callpi 0 [.int x3] [] C (kX7_look_ok x3 σ0 h) (tt_V ml_X7_182 mV_X7_look) ok_X7_look ⟨by decide, by decide⟩ rfl (r_wM_0 (σ := σ0)) (Nat.le_of_ble_eq_true rfl) rfl dX7_copy_19 (fun r19 h => ?_)
    refine j_sub (lv' := [(0, .ref (ad 0)), (1, .int x1), (2, .int x2), (3, .int x3), (4, .int x4), (5, .int x5)]) [1, 2, 3, 4, 5, 6] rfl ?_
    exact k22 _ _ _ _ _ _ _ h
  · refine j_iload C dX7_copy_12 0 rfl ?_
    refine j_goto 22 C dX7_copy_14 rfl ?_
    refine j_sub (lv' := [(0, .ref (ad 0)), (1, .int x1), (2, .int x2), (3, .int x3), (4, .int x4), (5, .int x5)]) [1, 2, 3, 4, 5, 6] rfl ?_
    exact k22 _ _ _ _ _ _ _ h
def wX7_fill_b28 (x2 : Int64) (x5 : Int32) (x6 : Int32) (σ : SS) (Q : Int32 → SS → Prop) : Prop := lfp (fun (X28 : Int32 × SS → Prop) (t : Int32 × SS) => vp_in x5 100 ∧ (((gA t.2 6 x5.toNatClampNeg) ≤ t.1 → vp_in x5 100 ∧ (Q (gA t.2 6 x5.toNatClampNeg) t.2)) ∧ (¬ (gA t.2 6 x5.toNatClampNeg) ≤ t.1 → wX7_firstNumber x5 t.2 (fun r47 => vp_in (r47 + t.1) 2560 ∧ (X28 ((t.1 + 1), sB t.2 0 (r47 + t.1).toNatClampNeg x2)))))) (x6, σ)
def wX7_fill (x1 : Int32) (x2 : Int64) (σ : SS) (Q : Int32 → SS → Prop) : Prop := wX7_look x1 σ (fun r2 => (0 ≤ r2 → wX7_fill_b28 x2 (x1 - x1 / 100 * 100) 0 σ Q) ∧ (¬ 0 ≤ r2 → wX7_answer r2 σ (fun r15 σ15 => Q r15 σ15)))
set_option maxRecDepth 100000 in
set_option maxHeartbeats 4000000 in
theorem kX7_fill_ok {l : Launch} {D : va_G} {cI cJ cZ : ClassId} {ad : Nat → Nat} (x1 : Int32) (x2 : Int64) (σ0 : SS) {Q : Int32 → SS → Prop} (h : wX7_fill x1 x2 σ0 Q) : Ci l yX7_fill (.code yX7_fill cX7_fill 7 (some .int) :: TT) { frames := 2, cells := 0, slots := 0, locals := 43 } D (tys cI cJ cZ) (wM cI cJ cZ ad) [.ref (ad 0), .int x1, .long x2] σ0 Q := by
  refine Ci.of (lv := [(0, .ref (ad 0)), (1, .int x1), (2, .long x2)]) (by decide) adM (Nat.le_of_ble_eq_true rfl) rfl ?_
  intro p e s m args below meth c A C
  have k28 : ∀ (x2 : Int64), ∀ (x5 : Int32), ∀ (x6 : Int32), ∀ (σ : SS), wX7_fill_b28 x2 x5 x6 σ Q → J p l e { frames := 2, cells := 0, slots := 0, locals := 43 } s m args below meth c D (wM cI cJ cZ ad) A 7 (MQ below (va_Qi Q (WW D (tys cI cJ cZ) (wM cI cJ cZ ad)) A) args s 0 0 A) σ 28 [(0, .ref (ad 0)), (2, .long x2), (5, .int x5), (6, .int x6)] [] := by
    intro x2 x5 x6 σ h
    refine h (fun t => J p l e { frames := 2, cells := 0, slots := 0, locals := 43 } s m args below meth c D (wM cI cJ cZ ad) A 7 (MQ below (va_Qi Q (WW D (tys cI cJ cZ) (wM cI cJ cZ ad)) A) args s 0 0 A) t.2 28 [(0, .ref (ad 0)), (2, .long x2), (5, .int x5), (6, .int t.1)] []) (fun t h => ?_)
    obtain ⟨x6, σ⟩ := t
    try dsimp only at h
    refine j_iload C dX7_fill_28 3 rfl ?_
    refine j_aload_n C dX7_fill_30 0 rfl ?_
    refine gf_X7_36 C dX7_fill_31 ?_
    refine j_iload C dX7_fill_34 2 rfl ?_
    refine al_wM_9 C h.1 dX7_fill_36 ?_
    replace h := h.2
    refine j_icmp_ge 61 C dX7_fill_37 rfl h (fun h => ?_) (fun h => ?_)
    · refine j_aload_n C dX7_fill_61 0 rfl ?_
      refine gf_X7_36 C dX7_fill_62 ?_
      refine j_iload C dX7_fill_65 2 rfl ?_
      refine al_wM_9 C h.1 dX7_fill_67 ?_
      replace h := h.2
      exact j_iret C dX7_fill_68 h
    · refine j_aload_n C dX7_fill_40 0 rfl ?_
      refine gf_X7_13 C dX7_fill_41 ?_
      refine j_aload_n C dX7_fill_44 0 rfl ?_
      refine j_iload C dX7_fill_45 2 rfl ?_
      refine j_callpi 0 [.int x5] [.ref (ad 2)] C (kX7_firstNumber_ok x5 σ h) (tt_V ml_X7_200 mV_X7_firstNumber) ok_X7_firstNumber ⟨by decide, by decide⟩ rfl (r_wM_0 (σ := σ)) (Nat.le_of_ble_eq_true rfl) rfl dX7_fill_47 (fun r47 h => ?_)
      refine j_iload C dX7_fill_50 3 rfl ?_
      refine j_iadd C dX7_fill_52 ?_
      refine j_lload_n C dX7_fill_53 1 rfl ?_
      refine as_wM_2 C h.1 dX7_fill_54 ?_
      replace h := h.2
      refine j_iinc (lv' := [(6, .int (x6 + 1)), (0, .ref (ad 0)), (2, .long x2), (5, .int x5)]) (x6 + 1) C dX7_fill_55 3 rfl rfl (by decide) rfl ?_
      refine j_goto 28 C dX7_fill_58 rfl ?_
      refine j_sub (lv' := [(0, .ref (ad 0)), (2, .long x2), (5, .int x5), (6, .int (x6 + 1))]) [1, 2, 3, 0] rfl ?_
      exact h
  refine j_aload_n C dX7_fill_0 0 rfl ?_
  refine j_iload_n C dX7_fill_1 1 rfl ?_
  refine j_callpi 0 [.int x1] [] C (kX7_look_ok x1 σ0 h) (tt_V ml_X7_182 mV_X7_look) ok_X7_look ⟨by decide, by decide⟩ rfl (r_wM_0 (σ := σ0)) (Nat.le_of_ble_eq_true rfl) rfl dX7_fill_2 (fun r2 h => ?_)
  refine j_istore (lv' := [(4, .int r2), (0, .ref (ad 0)), (1, .int x1), (2, .long x2)]) C dX7_fill_5 (by decide) rfl ?_
  refine j_iload C dX7_fill_7 0 rfl ?_
  refine j_if_ge 19 C dX7_fill_9 rfl h (fun h => ?_) (fun h => ?_)
  · refine j_iload_n C dX7_fill_19 2 rfl ?_
    refine j_bipush (v := 100) C dX7_fill_20 (by decide) ?_
    refine j_irem C dX7_fill_22 (by decide) ?_
    refine j_istore (lv' := [(5, .int (x1 - x1 / 100 * 100)), (4, .int r2), (0, .ref (ad 0)), (1, .int x1), (2, .long x2)]) C dX7_fill_23 (by decide) rfl ?_
    refine j_iconst (v := 0) C dX7_fill_25 (by decide) ?_
    refine j_istore (lv' := [(6, .int 0), (5, .int (x1 - x1 / 100 * 100)), (4, .int r2), (0, .ref (ad 0)), (1, .int x1), (2, .long x2)]) C dX7_fill_26 (by decide) rfl ?_
    refine j_sub (lv' := [(0, .ref (ad 0)), (2, .long x2), (5, .int (x1 - x1 / 100 * 100)), (6, .int 0)]) [3, 5, 1, 0] rfl ?_
    exact k28 _ _ _ _ h
  · refine j_aload_n C dX7_fill_12 1 rfl ?_
    refine j_iload C dX7_fill_13 0 rfl ?_
    refine j_calli 0 [.int r2] [] C (kX7_answer_ok r2 σ0 h) (tt_V ml_X7_90 mV_X7_answer) ok_X7_answer ⟨by decide, by decide⟩ rfl (r_wM_0 (σ := σ0)) (Nat.le_of_ble_eq_true rfl) rfl dX7_fill_15 (fun r15 σ15 h => ?_)
    exact j_iret C dX7_fill_18 h
def wX7_block_b29 (t0 : Int32) (σ : SS) (Q : Int32 → SS → Prop) : Prop := wX7_answer t0 σ (fun r29 σ29 => Q r29 σ29)
def wX7_block_b19 (x3 : Int32) (σ : SS) (Q : Int32 → SS → Prop) : Prop := (0 ≤ x3 → wX7_block_b29 ((-1)) σ Q) ∧ (¬ 0 ≤ x3 → wX7_block_b29 x3 σ Q)
def wX7_block (x1 : Int32) (x2 : Int32) (σ : SS) (Q : Int32 → SS → Prop) : Prop := wX7_look x1 σ (fun r2 => (r2 < 0 → wX7_block_b19 r2 σ Q) ∧ (¬ r2 < 0 → (x2 < 0 → wX7_block_b19 r2 σ Q) ∧ (¬ x2 < 0 → (x2 ≤ 3 → (¬ x2 = 0 → (¬ x2 = 1 → (¬ x2 = 2 → wX7_spoilt (x1 - x1 / 100 * 100) σ (fun r85 => Q r85 σ)) ∧ (x2 = 2 → wX7_firstNumber (x1 - x1 / 100 * 100) σ (fun r76 => Q r76 σ))) ∧ (x2 = 1 → vp_in (x1 - x1 / 100 * 100) 100 ∧ (Q (gA σ 7 (x1 - x1 / 100 * 100).toNatClampNeg) σ))) ∧ (x2 = 0 → vp_in (x1 - x1 / 100 * 100) 100 ∧ (Q (gA σ 6 (x1 - x1 / 100 * 100).toNatClampNeg) σ))) ∧ (¬ x2 ≤ 3 → wX7_block_b19 r2 σ Q))))
set_option maxRecDepth 100000 in
set_option maxHeartbeats 4000000 in
theorem kX7_block_ok {l : Launch} {D : va_G} {cI cJ cZ : ClassId} {ad : Nat → Nat} (x1 : Int32) (x2 : Int32) (σ0 : SS) {Q : Int32 → SS → Prop} (h : wX7_block x1 x2 σ0 Q) : Ci l yX7_block (.code yX7_block cX7_block 5 (some .int) :: TT) { frames := 2, cells := 0, slots := 0, locals := 43 } D (tys cI cJ cZ) (wM cI cJ cZ ad) [.ref (ad 0), .int x1, .int x2] σ0 Q := by
  refine Ci.of (lv := [(0, .ref (ad 0)), (1, .int x1), (2, .int x2)]) (by decide) adM (Nat.le_of_ble_eq_true rfl) rfl ?_
  intro p e s m args below meth c A C
  have k29 : ∀ (t0 : Int32), ∀ (σ : SS), wX7_block_b29 t0 σ Q → J p l e { frames := 2, cells := 0, slots := 0, locals := 43 } s m args below meth c D (wM cI cJ cZ ad) A 5 (MQ below (va_Qi Q (WW D (tys cI cJ cZ) (wM cI cJ cZ ad)) A) args s 0 0 A) σ 29 [] [.int t0, .ref (ad 0)] := by
    intro t0 σ h
    refine j_calli 0 [.int t0] [] C (kX7_answer_ok t0 σ h) (tt_V ml_X7_90 mV_X7_answer) ok_X7_answer ⟨by decide, by decide⟩ rfl (r_wM_0 (σ := σ)) (Nat.le_of_ble_eq_true rfl) rfl dX7_block_29 (fun r29 σ29 h => ?_)
    exact j_iret C dX7_block_32 h
  have k19 : ∀ (x3 : Int32), ∀ (σ : SS), wX7_block_b19 x3 σ Q → J p l e { frames := 2, cells := 0, slots := 0, locals := 43 } s m args below meth c D (wM cI cJ cZ ad) A 5 (MQ below (va_Qi Q (WW D (tys cI cJ cZ) (wM cI cJ cZ ad)) A) args s 0 0 A) σ 19 [(0, .ref (ad 0)), (3, .int x3)] [] := by
    intro x3 σ h
    refine j_aload_n C dX7_block_19 0 rfl ?_
    refine j_iload_n C dX7_block_20 1 rfl ?_
    refine j_if_ge 28 C dX7_block_21 rfl h (fun h => ?_) (fun h => ?_)
    · refine j_iconst (v := (-1)) C dX7_block_28 (by decide) ?_
      refine j_sub (lv' := []) [] rfl ?_
      exact k29 _ _ h
    · refine j_iload_n C dX7_block_24 1 rfl ?_
      refine j_goto 29 C dX7_block_25 rfl ?_
      refine j_sub (lv' := []) [] rfl ?_
      exact k29 _ _ h
  refine j_aload_n C dX7_block_0 0 rfl ?_
  refine j_iload_n C dX7_block_1 1 rfl ?_
  refine j_callpi 0 [.int x1] [] C (kX7_look_ok x1 σ0 h) (tt_V ml_X7_182 mV_X7_look) ok_X7_look ⟨by decide, by decide⟩ rfl (r_wM_0 (σ := σ0)) (Nat.le_of_ble_eq_true rfl) rfl dX7_block_2 (fun r2 h => ?_)
  refine j_istore_n (lv' := [(3, .int r2), (0, .ref (ad 0)), (1, .int x1), (2, .int x2)]) C dX7_block_5 (by decide) rfl ?_
  refine j_iload_n C dX7_block_6 0 rfl ?_
  refine j_if_lt 19 C dX7_block_7 rfl h (fun h => ?_) (fun h => ?_)
  · refine j_sub (lv' := [(0, .ref (ad 0)), (3, .int r2)]) [1, 0] rfl ?_
    exact k19 _ _ h
  · refine j_iload_n C dX7_block_10 3 rfl ?_
    refine j_if_lt 19 C dX7_block_11 rfl h (fun h => ?_) (fun h => ?_)
    · refine j_sub (lv' := [(0, .ref (ad 0)), (3, .int r2)]) [1, 0] rfl ?_
      exact k19 _ _ h
    · refine j_iload_n C dX7_block_14 3 rfl ?_
      refine j_iconst (v := 3) C dX7_block_15 (by decide) ?_
      refine j_icmp_le 33 C dX7_block_16 rfl h (fun h => ?_) (fun h => ?_)
      · refine j_iload_n C dX7_block_33 2 rfl ?_
        refine j_bipush (v := 100) C dX7_block_34 (by decide) ?_
        refine j_irem C dX7_block_36 (by decide) ?_
        refine j_istore (lv' := [(4, .int (x1 - x1 / 100 * 100)), (3, .int r2), (0, .ref (ad 0)), (1, .int x1), (2, .int x2)]) C dX7_block_37 (by decide) rfl ?_
        refine j_iload_n C dX7_block_39 4 rfl ?_
        refine j_if_ne 53 C dX7_block_40 rfl h (fun h => ?_) (fun h => ?_)
        · refine j_iload_n C dX7_block_53 4 rfl ?_
          refine j_iconst (v := 1) C dX7_block_54 (by decide) ?_
          refine j_icmp_ne 68 C dX7_block_55 rfl h (fun h => ?_) (fun h => ?_)
          · refine j_iload_n C dX7_block_68 4 rfl ?_
            refine j_iconst (v := 2) C dX7_block_69 (by decide) ?_
            refine j_icmp_ne 82 C dX7_block_70 rfl h (fun h => ?_) (fun h => ?_)
            · refine j_aload_n C dX7_block_82 2 rfl ?_
              refine j_iload C dX7_block_83 0 rfl ?_
              refine j_callpi 0 [.int (x1 - x1 / 100 * 100)] [] C (kX7_spoilt_ok (x1 - x1 / 100 * 100) σ0 h) (tt_V ml_X7_185 mV_X7_spoilt) ok_X7_spoilt ⟨by decide, by decide⟩ rfl (r_wM_0 (σ := σ0)) (Nat.le_of_ble_eq_true rfl) rfl dX7_block_85 (fun r85 h => ?_)
              exact j_iret C dX7_block_88 h
            · refine j_aload_n C dX7_block_73 2 rfl ?_
              refine j_iload C dX7_block_74 0 rfl ?_
              refine j_callpi 0 [.int (x1 - x1 / 100 * 100)] [] C (kX7_firstNumber_ok (x1 - x1 / 100 * 100) σ0 h) (tt_V ml_X7_200 mV_X7_firstNumber) ok_X7_firstNumber ⟨by decide, by decide⟩ rfl (r_wM_0 (σ := σ0)) (Nat.le_of_ble_eq_true rfl) rfl dX7_block_76 (fun r76 h => ?_)
              refine j_goto 88 C dX7_block_79 rfl ?_
              exact j_iret C dX7_block_88 h
          · refine j_aload_n C dX7_block_58 2 rfl ?_
            refine gf_X7_39 C dX7_block_59 ?_
            refine j_iload C dX7_block_62 0 rfl ?_
            refine al_wM_10 C h.1 dX7_block_64 ?_
            replace h := h.2
            refine j_goto 88 C dX7_block_65 rfl ?_
            exact j_iret C dX7_block_88 h
        · refine j_aload_n C dX7_block_43 2 rfl ?_
          refine gf_X7_36 C dX7_block_44 ?_
          refine j_iload C dX7_block_47 0 rfl ?_
          refine al_wM_9 C h.1 dX7_block_49 ?_
          replace h := h.2
          refine j_goto 88 C dX7_block_50 rfl ?_
          exact j_iret C dX7_block_88 h
      · refine j_sub (lv' := [(0, .ref (ad 0)), (3, .int r2)]) [1, 0] rfl ?_
        exact k19 _ _ h
def wX7_spoil_b90 (x3 : Int64) (t0 : Int32) (σ : SS) (Q : Int32 → SS → Prop) : Prop := vp_in t0 2560 ∧ (Q 0 (sB σ 0 t0.toNatClampNeg x3))
def wX7_spoil_b43 (t0 : Int32) (σ : SS) (Q : Int32 → SS → Prop) : Prop := wX7_answer t0 σ (fun r43 σ43 => Q r43 σ43)
def wX7_spoil_b30 (x5 : Int32) (σ : SS) (Q : Int32 → SS → Prop) : Prop := (0 ≤ x5 → wX7_spoil_b43 ((-9)) σ Q) ∧ (¬ 0 ≤ x5 → wX7_spoil_b43 x5 σ Q)
def wX7_spoil (x1 : Int32) (x2 : Int32) (x3 : Int64) (σ : SS) (Q : Int32 → SS → Prop) : Prop := wX7_look x1 σ (fun r2 => (r2 < 0 → wX7_spoil_b30 r2 σ Q) ∧ (¬ r2 < 0 → vp_in (x1 - x1 / 100 * 100) 100 ∧ (vp_in (gA σ 7 (x1 - x1 / 100 * 100).toNatClampNeg) 8 ∧ (((gA σ 3 (gA σ 7 (x1 - x1 / 100 * 100).toNatClampNeg).toNatClampNeg) = 5 → (x2 = 0 → vp_in (x1 - x1 / 100 * 100) 100 ∧ (wX7_spoil_b90 x3 ((gA σ 8 (x1 - x1 / 100 * 100).toNatClampNeg) + 1) σ Q)) ∧ (¬ x2 = 0 → vp_in (x1 - x1 / 100 * 100) 100 ∧ (vp_in (x1 - x1 / 100 * 100) 100 ∧ (wX7_spoil_b90 x3 (((gA σ 8 (x1 - x1 / 100 * 100).toNatClampNeg) + 2) + (gA σ 6 (x1 - x1 / 100 * 100).toNatClampNeg)) σ Q)))) ∧ (¬ (gA σ 3 (gA σ 7 (x1 - x1 / 100 * 100).toNatClampNeg).toNatClampNeg) = 5 → wX7_spoil_b30 r2 σ Q)))))
set_option maxRecDepth 100000 in
set_option maxHeartbeats 4000000 in
theorem kX7_spoil_ok {l : Launch} {D : va_G} {cI cJ cZ : ClassId} {ad : Nat → Nat} (x1 : Int32) (x2 : Int32) (x3 : Int64) (σ0 : SS) {Q : Int32 → SS → Prop} (h : wX7_spoil x1 x2 x3 σ0 Q) : Ci l yX7_spoil (.code yX7_spoil cX7_spoil 7 (some .int) :: TT) { frames := 1, cells := 0, slots := 0, locals := 22 } D (tys cI cJ cZ) (wM cI cJ cZ ad) [.ref (ad 0), .int x1, .int x2, .long x3] σ0 Q := by
  refine Ci.of (lv := [(0, .ref (ad 0)), (1, .int x1), (2, .int x2), (3, .long x3)]) (by decide) adM (Nat.le_of_ble_eq_true rfl) rfl ?_
  intro p e s m args below meth c A C
  have k90 : ∀ (x3 : Int64), ∀ (t0 : Int32), ∀ (σ : SS), wX7_spoil_b90 x3 t0 σ Q → J p l e { frames := 1, cells := 0, slots := 0, locals := 22 } s m args below meth c D (wM cI cJ cZ ad) A 7 (MQ below (va_Qi Q (WW D (tys cI cJ cZ) (wM cI cJ cZ ad)) A) args s 0 0 A) σ 90 [(3, .long x3)] [.int t0, .ref (ad 2)] := by
    intro x3 t0 σ h
    refine j_lload_n C dX7_spoil_90 0 rfl ?_
    refine as_wM_2 C h.1 dX7_spoil_91 ?_
    replace h := h.2
    refine j_iconst (v := 0) C dX7_spoil_92 (by decide) ?_
    exact j_iret C dX7_spoil_93 h
  have k43 : ∀ (t0 : Int32), ∀ (σ : SS), wX7_spoil_b43 t0 σ Q → J p l e { frames := 1, cells := 0, slots := 0, locals := 22 } s m args below meth c D (wM cI cJ cZ ad) A 7 (MQ below (va_Qi Q (WW D (tys cI cJ cZ) (wM cI cJ cZ ad)) A) args s 0 0 A) σ 43 [] [.int t0, .ref (ad 0)] := by
    intro t0 σ h
    refine j_calli 0 [.int t0] [] C (kX7_answer_ok t0 σ h) (tt_V ml_X7_90 mV_X7_answer) ok_X7_answer ⟨by decide, by decide⟩ rfl (r_wM_0 (σ := σ)) (Nat.le_of_ble_eq_true rfl) rfl dX7_spoil_43 (fun r43 σ43 h => ?_)
    exact j_iret C dX7_spoil_46 h
  have k30 : ∀ (x5 : Int32), ∀ (σ : SS), wX7_spoil_b30 x5 σ Q → J p l e { frames := 1, cells := 0, slots := 0, locals := 22 } s m args below meth c D (wM cI cJ cZ ad) A 7 (MQ below (va_Qi Q (WW D (tys cI cJ cZ) (wM cI cJ cZ ad)) A) args s 0 0 A) σ 30 [(0, .ref (ad 0)), (5, .int x5)] [] := by
    intro x5 σ h
    refine j_aload_n C dX7_spoil_30 0 rfl ?_
    refine j_iload C dX7_spoil_31 1 rfl ?_
    refine j_if_ge 41 C dX7_spoil_33 rfl h (fun h => ?_) (fun h => ?_)
    · refine j_bipush (v := (-9)) C dX7_spoil_41 (by decide) ?_
      refine j_sub (lv' := []) [] rfl ?_
      exact k43 _ _ h
    · refine j_iload C dX7_spoil_36 1 rfl ?_
      refine j_goto 43 C dX7_spoil_38 rfl ?_
      refine j_sub (lv' := []) [] rfl ?_
      exact k43 _ _ h
  refine j_aload_n C dX7_spoil_0 0 rfl ?_
  refine j_iload_n C dX7_spoil_1 1 rfl ?_
  refine j_callpi 0 [.int x1] [] C (kX7_look_ok x1 σ0 h) (tt_V ml_X7_182 mV_X7_look) ok_X7_look ⟨by decide, by decide⟩ rfl (r_wM_0 (σ := σ0)) (Nat.le_of_ble_eq_true rfl) rfl dX7_spoil_2 (fun r2 h => ?_)
  refine j_istore (lv' := [(5, .int r2), (0, .ref (ad 0)), (1, .int x1), (2, .int x2), (3, .long x3)]) C dX7_spoil_5 (by decide) rfl ?_
  refine j_iload C dX7_spoil_7 0 rfl ?_
  refine j_if_lt 30 C dX7_spoil_9 rfl h (fun h => ?_) (fun h => ?_)
  · refine j_sub (lv' := [(0, .ref (ad 0)), (5, .int r2)]) [1, 0] rfl ?_
    exact k30 _ _ h
  · refine j_aload_n C dX7_spoil_12 1 rfl ?_
    refine gf_X7_23 C dX7_spoil_13 ?_
    refine j_aload_n C dX7_spoil_16 1 rfl ?_
    refine gf_X7_39 C dX7_spoil_17 ?_
    refine j_iload_n C dX7_spoil_20 2 rfl ?_
    refine j_bipush (v := 100) C dX7_spoil_21 (by decide) ?_
    refine j_irem C dX7_spoil_23 (by decide) ?_
    refine al_wM_10 C h.1 dX7_spoil_24 ?_
    replace h := h.2
    refine al_wM_5 C h.1 dX7_spoil_25 ?_
    replace h := h.2
    refine j_iconst (v := 5) C dX7_spoil_26 (by decide) ?_
    refine j_icmp_eq 47 C dX7_spoil_27 rfl h (fun h => ?_) (fun h => ?_)
    · refine j_iload_n C dX7_spoil_47 2 rfl ?_
      refine j_bipush (v := 100) C dX7_spoil_48 (by decide) ?_
      refine j_irem C dX7_spoil_50 (by decide) ?_
      refine j_istore (lv' := [(6, .int (x1 - x1 / 100 * 100)), (5, .int r2), (0, .ref (ad 0)), (1, .int x1), (2, .int x2), (3, .long x3)]) C dX7_spoil_51 (by decide) rfl ?_
      refine j_aload_n C dX7_spoil_53 2 rfl ?_
      refine gf_X7_13 C dX7_spoil_54 ?_
      refine j_iload_n C dX7_spoil_57 4 rfl ?_
      refine j_if_eq 81 C dX7_spoil_58 rfl h (fun h => ?_) (fun h => ?_)
      · refine j_aload_n C dX7_spoil_81 2 rfl ?_
        refine gf_X7_42 C dX7_spoil_82 ?_
        refine j_iload C dX7_spoil_85 0 rfl ?_
        refine al_wM_11 C h.1 dX7_spoil_87 ?_
        replace h := h.2
        refine j_iconst (v := 1) C dX7_spoil_88 (by decide) ?_
        refine j_iadd C dX7_spoil_89 ?_
        refine j_sub (lv' := [(3, .long x3)]) [5] rfl ?_
        exact k90 _ _ _ h
      · refine j_aload_n C dX7_spoil_61 2 rfl ?_
        refine gf_X7_42 C dX7_spoil_62 ?_
        refine j_iload C dX7_spoil_65 0 rfl ?_
        refine al_wM_11 C h.1 dX7_spoil_67 ?_
        replace h := h.2
        refine j_iconst (v := 2) C dX7_spoil_68 (by decide) ?_
        refine j_iadd C dX7_spoil_69 ?_
        refine j_aload_n C dX7_spoil_70 2 rfl ?_
        refine gf_X7_36 C dX7_spoil_71 ?_
        refine j_iload C dX7_spoil_74 0 rfl ?_
        refine al_wM_9 C h.1 dX7_spoil_76 ?_
        replace h := h.2
        refine j_iadd C dX7_spoil_77 ?_
        refine j_goto 90 C dX7_spoil_78 rfl ?_
        refine j_sub (lv' := [(3, .long x3)]) [5] rfl ?_
        exact k90 _ _ _ h
    · refine j_sub (lv' := [(0, .ref (ad 0)), (5, .int r2)]) [1, 0] rfl ?_
      exact k30 _ _ h
def wX7_entry_b73 (σ : SS) (Q : SS → Prop) : Prop := Q (sI σ 12 ((gI σ 12) + 1))
def wX7_entry_b41 (x1 : Int32) (x2 : Int32) (x3 : Int32) (x4 : Int32) (x5 : Int32) (σ : SS) (Q : SS → Prop) : Prop := wX7_entry_b73 (sI (sI (sI (sI (sI (sI σ 7 x1) 8 x2) 9 x3) 10 x4) 11 x5) 15 1) Q
def wX7_entry (x1 : Int32) (x2 : Int32) (x3 : Int32) (x4 : Int32) (x5 : Int32) (σ : SS) (Q : SS → Prop) : Prop := (x2 = 0 → Q σ) ∧ (¬ x2 = 0 → ((gI σ 15) = 0 → ((gI σ 12) = (gI σ 13) → wX7_entry_b41 x1 x2 x3 x4 x5 σ Q) ∧ (¬ (gI σ 12) = (gI σ 13) → ((gI σ 14) < x1 → wX7_entry_b73 σ Q) ∧ (¬ (gI σ 14) < x1 → ((x1 + x2) ≤ (gI σ 14) → wX7_entry_b73 σ Q) ∧ (¬ (x1 + x2) ≤ (gI σ 14) → wX7_entry_b41 x1 x2 x3 x4 x5 σ Q)))) ∧ (¬ (gI σ 15) = 0 → Q σ))
set_option maxRecDepth 100000 in
set_option maxHeartbeats 4000000 in
theorem kX7_entry_ok {l : Launch} {D : va_G} {cI cJ cZ : ClassId} {ad : Nat → Nat} (x1 : Int32) (x2 : Int32) (x3 : Int32) (x4 : Int32) (x5 : Int32) (σ0 : SS) {Q : SS → Prop} (h : wX7_entry x1 x2 x3 x4 x5 σ0 Q) : Cv l yX7_entry (.code yX7_entry cX7_entry 6 none :: TT) { frames := 0, cells := 0, slots := 0, locals := 0 } D (tys cI cJ cZ) (wM cI cJ cZ ad) [.ref (ad 0), .int x1, .int x2, .int x3, .int x4, .int x5] σ0 Q := by
  refine Cv.of (lv := [(0, .ref (ad 0)), (1, .int x1), (2, .int x2), (3, .int x3), (4, .int x4), (5, .int x5)]) (by decide) adM (Nat.le_of_ble_eq_true rfl) rfl ?_
  intro p e s m args below meth c A C
  have k73 : ∀ (σ : SS), wX7_entry_b73 σ Q → J p l e { frames := 0, cells := 0, slots := 0, locals := 0 } s m args below meth c D (wM cI cJ cZ ad) A 6 (MQ below (va_Qv Q (WW D (tys cI cJ cZ) (wM cI cJ cZ ad)) A) args s 0 0 A) σ 73 [(0, .ref (ad 0))] [] := by
    intro σ h
    refine j_aload_n C dX7_entry_73 0 rfl ?_
    refine j_dup C dX7_entry_74 rfl ?_
    refine gf_X7_207 C dX7_entry_75 ?_
    refine j_iconst (v := 1) C dX7_entry_78 (by decide) ?_
    refine j_iadd C dX7_entry_79 ?_
    refine pf_X7_207 C dX7_entry_80 ?_
    exact j_vret C dX7_entry_83 h
  have k41 : ∀ (x1 : Int32), ∀ (x2 : Int32), ∀ (x3 : Int32), ∀ (x4 : Int32), ∀ (x5 : Int32), ∀ (σ : SS), wX7_entry_b41 x1 x2 x3 x4 x5 σ Q → J p l e { frames := 0, cells := 0, slots := 0, locals := 0 } s m args below meth c D (wM cI cJ cZ ad) A 6 (MQ below (va_Qv Q (WW D (tys cI cJ cZ) (wM cI cJ cZ ad)) A) args s 0 0 A) σ 41 [(0, .ref (ad 0)), (1, .int x1), (2, .int x2), (3, .int x3), (4, .int x4), (5, .int x5)] [] := by
    intro x1 x2 x3 x4 x5 σ h
    refine j_aload_n C dX7_entry_41 0 rfl ?_
    refine j_iload_n C dX7_entry_42 1 rfl ?_
    refine pf_X7_216 C dX7_entry_43 ?_
    refine j_aload_n C dX7_entry_46 0 rfl ?_
    refine j_iload_n C dX7_entry_47 2 rfl ?_
    refine pf_X7_219 C dX7_entry_48 ?_
    refine j_aload_n C dX7_entry_51 0 rfl ?_
    refine j_iload_n C dX7_entry_52 3 rfl ?_
    refine pf_X7_222 C dX7_entry_53 ?_
    refine j_aload_n C dX7_entry_56 0 rfl ?_
    refine j_iload C dX7_entry_57 4 rfl ?_
    refine pf_X7_225 C dX7_entry_59 ?_
    refine j_aload_n C dX7_entry_62 0 rfl ?_
    refine j_iload C dX7_entry_63 5 rfl ?_
    refine pf_X7_228 C dX7_entry_65 ?_
    refine j_aload_n C dX7_entry_68 0 rfl ?_
    refine j_iconst (v := 1) C dX7_entry_69 (by decide) ?_
    refine pf_X7_203 C rfl rfl dX7_entry_70 ?_
    refine j_sub (lv' := [(0, .ref (ad 0))]) [0] rfl ?_
    exact k73 _ h
  refine j_iload_n C dX7_entry_0 2 rfl ?_
  refine j_if_eq 11 C dX7_entry_1 rfl h (fun h => ?_) (fun h => ?_)
  · exact j_vret C dX7_entry_11 h
  · refine j_aload_n C dX7_entry_4 0 rfl ?_
    refine gf_X7_203 C dX7_entry_5 ?_
    refine j_if_eq 12 C dX7_entry_8 rfl h (fun h => ?_) (fun h => ?_)
    · refine j_aload_n C dX7_entry_12 0 rfl ?_
      refine gf_X7_207 C dX7_entry_13 ?_
      refine j_aload_n C dX7_entry_16 0 rfl ?_
      refine gf_X7_210 C dX7_entry_17 ?_
      refine j_icmp_eq 41 C dX7_entry_20 rfl h (fun h => ?_) (fun h => ?_)
      · refine j_sub (lv' := [(0, .ref (ad 0)), (1, .int x1), (2, .int x2), (3, .int x3), (4, .int x4), (5, .int x5)]) [0, 1, 2, 3, 4, 5] rfl ?_
        exact k41 _ _ _ _ _ _ h
      · refine j_aload_n C dX7_entry_23 0 rfl ?_
        refine gf_X7_213 C dX7_entry_24 ?_
        refine j_iload_n C dX7_entry_27 1 rfl ?_
        refine j_icmp_lt 73 C dX7_entry_28 rfl h (fun h => ?_) (fun h => ?_)
        · refine j_sub (lv' := [(0, .ref (ad 0))]) [0] rfl ?_
          exact k73 _ h
        · refine j_aload_n C dX7_entry_31 0 rfl ?_
          refine gf_X7_213 C dX7_entry_32 ?_
          refine j_iload_n C dX7_entry_35 1 rfl ?_
          refine j_iload_n C dX7_entry_36 2 rfl ?_
          refine j_iadd C dX7_entry_37 ?_
          refine j_icmp_ge 73 C dX7_entry_38 rfl h (fun h => ?_) (fun h => ?_)
          · refine j_sub (lv' := [(0, .ref (ad 0))]) [0] rfl ?_
            exact k73 _ h
          · refine j_sub (lv' := [(0, .ref (ad 0)), (1, .int x1), (2, .int x2), (3, .int x3), (4, .int x4), (5, .int x5)]) [0, 1, 2, 3, 4, 5] rfl ?_
            exact k41 _ _ _ _ _ _ h
    · exact j_vret C dX7_entry_11 h
def wX7_slabEntries_b82 (X16 : Int32 × Int32 × SS → Prop) (x1 : Int32) (x2 : Int32) (x3 : Int32) (x4 : Int32) (σ : SS) (Q : SS → Prop) : Prop := X16 (x3, (x4 + 1), σ)
def wX7_slabEntries_b60 (X16 : Int32 × Int32 × SS → Prop) (x1 : Int32) (x2 : Int32) (x4 : Int32) (t0 : Int32) (t1 : Int32) (t2 : Int32) (σ : SS) (Q : SS → Prop) : Prop := vp_in x4 2560 ∧ (wX7_entry t2 t1 t0 (gA σ 2 x4.toNatClampNeg) x2 σ (fun σ68 => vp_in x4 2560 ∧ (wX7_slabEntries_b82 X16 x1 x2 (x4 + (gA σ68 1 x4.toNatClampNeg)) x4 σ68 Q)))
def wX7_slabEntries_b16 (x1 : Int32) (x2 : Int32) (x3 : Int32) (x4 : Int32) (σ : SS) (Q : SS → Prop) : Prop := lfp (fun (X16 : Int32 × Int32 × SS → Prop) (t : Int32 × Int32 × SS) => ((x1 + 64) ≤ t.2.1 → wX7_entry t.1 ((x1 + 64) - t.1) 5 ((-1)) x2 t.2.2 (fun σ99 => Q σ99)) ∧ (¬ (x1 + 64) ≤ t.2.1 → vp_in t.2.1 2560 ∧ (((gA t.2.2 1 t.2.1.toNatClampNeg) ≤ 0 → wX7_slabEntries_b82 X16 x1 x2 t.1 t.2.1 t.2.2 Q) ∧ (¬ (gA t.2.2 1 t.2.1.toNatClampNeg) ≤ 0 → vp_in t.2.1 2560 ∧ (vp_in t.2.1 2560 ∧ ((0 ≤ (gA t.2.2 2 t.2.1.toNatClampNeg) → wX7_slabEntries_b60 X16 x1 x2 t.2.1 3 (gA t.2.2 1 t.2.1.toNatClampNeg) t.2.1 t.2.2 Q) ∧ (¬ 0 ≤ (gA t.2.2 2 t.2.1.toNatClampNeg) → wX7_slabEntries_b60 X16 x1 x2 t.2.1 4 (gA t.2.2 1 t.2.1.toNatClampNeg) t.2.1 t.2.2 Q))))))) (x3, x4, σ)
def wX7_slabEntries (x1 : Int32) (x2 : Int32) (σ : SS) (Q : SS → Prop) : Prop := wX7_entry x1 1 2 ((-1)) x2 σ (fun σ6 => wX7_slabEntries_b16 x1 x2 (x1 + 1) x1 σ6 Q)
set_option maxRecDepth 100000 in
set_option maxHeartbeats 4000000 in
theorem kX7_slabEntries_ok {l : Launch} {D : va_G} {cI cJ cZ : ClassId} {ad : Nat → Nat} (x1 : Int32) (x2 : Int32) (σ0 : SS) {Q : SS → Prop} (h : wX7_slabEntries x1 x2 σ0 Q) : Cv l yX7_slabEntries (.code yX7_slabEntries cX7_slabEntries 5 none :: TT) { frames := 1, cells := 0, slots := 0, locals := 25 } D (tys cI cJ cZ) (wM cI cJ cZ ad) [.ref (ad 0), .int x1, .int x2] σ0 Q := by
  refine Cv.of (lv := [(0, .ref (ad 0)), (1, .int x1), (2, .int x2)]) (by decide) adM (Nat.le_of_ble_eq_true rfl) rfl ?_
  intro p e s m args below meth c A C
  have k82 : ∀ (x1 : Int32), ∀ (x2 : Int32), ∀ (x3 : Int32), ∀ (x4 : Int32), ∀ (σ : SS), ∀ (X16 : Int32 × Int32 × SS → Prop), (∀ t : Int32 × Int32 × SS, X16 t → J p l e { frames := 1, cells := 0, slots := 0, locals := 25 } s m args below meth c D (wM cI cJ cZ ad) A 5 (MQ below (va_Qv Q (WW D (tys cI cJ cZ) (wM cI cJ cZ ad)) A) args s 0 0 A) t.2.2 16 [(0, .ref (ad 0)), (1, .int x1), (2, .int x2), (3, .int t.1), (4, .int t.2.1)] []) → wX7_slabEntries_b82 X16 x1 x2 x3 x4 σ Q → J p l e { frames := 1, cells := 0, slots := 0, locals := 25 } s m args below meth c D (wM cI cJ cZ ad) A 5 (MQ below (va_Qv Q (WW D (tys cI cJ cZ) (wM cI cJ cZ ad)) A) args s 0 0 A) σ 82 [(0, .ref (ad 0)), (1, .int x1), (2, .int x2), (3, .int x3), (4, .int x4)] [] := by
    intro x1 x2 x3 x4 σ X16 hX16 h
    refine j_iinc (lv' := [(4, .int (x4 + 1)), (0, .ref (ad 0)), (1, .int x1), (2, .int x2), (3, .int x3)]) (x4 + 1) C dX7_slabEntries_82 4 rfl rfl (by decide) rfl ?_
    refine j_goto 16 C dX7_slabEntries_85 rfl ?_
    refine j_sub (lv' := [(0, .ref (ad 0)), (1, .int x1), (2, .int x2), (3, .int x3), (4, .int (x4 + 1))]) [1, 2, 3, 4, 0] rfl ?_
    exact hX16 _ h
  have k60 : ∀ (x1 : Int32), ∀ (x2 : Int32), ∀ (x4 : Int32), ∀ (t0 : Int32), ∀ (t1 : Int32), ∀ (t2 : Int32), ∀ (σ : SS), ∀ (X16 : Int32 × Int32 × SS → Prop), (∀ t : Int32 × Int32 × SS, X16 t → J p l e { frames := 1, cells := 0, slots := 0, locals := 25 } s m args below meth c D (wM cI cJ cZ ad) A 5 (MQ below (va_Qv Q (WW D (tys cI cJ cZ) (wM cI cJ cZ ad)) A) args s 0 0 A) t.2.2 16 [(0, .ref (ad 0)), (1, .int x1), (2, .int x2), (3, .int t.1), (4, .int t.2.1)] []) → wX7_slabEntries_b60 X16 x1 x2 x4 t0 t1 t2 σ Q → J p l e { frames := 1, cells := 0, slots := 0, locals := 25 } s m args below meth c D (wM cI cJ cZ ad) A 5 (MQ below (va_Qv Q (WW D (tys cI cJ cZ) (wM cI cJ cZ ad)) A) args s 0 0 A) σ 60 [(0, .ref (ad 0)), (1, .int x1), (2, .int x2), (4, .int x4)] [.int t0, .int t1, .int t2, .ref (ad 0)] := by
    intro x1 x2 x4 t0 t1 t2 σ X16 hX16 h
    refine j_aload_n C dX7_slabEntries_60 0 rfl ?_
    refine gf_X7_20 C dX7_slabEntries_61 ?_
    refine j_iload C dX7_slabEntries_64 3 rfl ?_
    refine al_wM_4 C h.1 dX7_slabEntries_66 ?_
    replace h := h.2
    refine j_iload_n C dX7_slabEntries_67 2 rfl ?_
    refine j_callv 0 [.int t2, .int t1, .int t0, .int (gA σ 2 x4.toNatClampNeg), .int x2] [] C (kX7_entry_ok t2 t1 t0 (gA σ 2 x4.toNatClampNeg) x2 σ h) (tt_V ml_X7_231 mV_X7_entry) ok_X7_entry ⟨by decide, by decide⟩ rfl (r_wM_0 (σ := σ)) (Nat.le_of_ble_eq_true rfl) rfl dX7_slabEntries_68 (fun σ68 h => ?_)
    refine j_iload C dX7_slabEntries_71 3 rfl ?_
    refine j_aload_n C dX7_slabEntries_73 0 rfl ?_
    refine gf_X7_17 C dX7_slabEntries_74 ?_
    refine j_iload C dX7_slabEntries_77 3 rfl ?_
    refine al_wM_3 C h.1 dX7_slabEntries_79 ?_
    replace h := h.2
    refine j_iadd C dX7_slabEntries_80 ?_
    refine j_istore_n (lv' := [(3, .int (x4 + (gA σ68 1 x4.toNatClampNeg))), (0, .ref (ad 0)), (1, .int x1), (2, .int x2), (4, .int x4)]) C dX7_slabEntries_81 (by decide) rfl ?_
    refine j_sub (lv' := [(0, .ref (ad 0)), (1, .int x1), (2, .int x2), (3, .int (x4 + (gA σ68 1 x4.toNatClampNeg))), (4, .int x4)]) [1, 2, 3, 0, 4] rfl ?_
    exact k82 _ _ _ _ _ _ hX16 h
  have k16 : ∀ (x1 : Int32), ∀ (x2 : Int32), ∀ (x3 : Int32), ∀ (x4 : Int32), ∀ (σ : SS), wX7_slabEntries_b16 x1 x2 x3 x4 σ Q → J p l e { frames := 1, cells := 0, slots := 0, locals := 25 } s m args below meth c D (wM cI cJ cZ ad) A 5 (MQ below (va_Qv Q (WW D (tys cI cJ cZ) (wM cI cJ cZ ad)) A) args s 0 0 A) σ 16 [(0, .ref (ad 0)), (1, .int x1), (2, .int x2), (3, .int x3), (4, .int x4)] [] := by
    intro x1 x2 x3 x4 σ h
    refine h (fun t => J p l e { frames := 1, cells := 0, slots := 0, locals := 25 } s m args below meth c D (wM cI cJ cZ ad) A 5 (MQ below (va_Qv Q (WW D (tys cI cJ cZ) (wM cI cJ cZ ad)) A) args s 0 0 A) t.2.2 16 [(0, .ref (ad 0)), (1, .int x1), (2, .int x2), (3, .int t.1), (4, .int t.2.1)] []) (fun t h => ?_)
    obtain ⟨x3, x4, σ⟩ := t
    try dsimp only at h
    refine j_iload C dX7_slabEntries_16 4 rfl ?_
    refine j_iload_n C dX7_slabEntries_18 1 rfl ?_
    refine j_bipush (v := 64) C dX7_slabEntries_19 (by decide) ?_
    refine j_iadd C dX7_slabEntries_21 ?_
    refine j_icmp_ge 88 C dX7_slabEntries_22 rfl h (fun h => ?_) (fun h => ?_)
    · refine j_aload_n C dX7_slabEntries_88 0 rfl ?_
      refine j_iload_n C dX7_slabEntries_89 3 rfl ?_
      refine j_iload_n C dX7_slabEntries_90 1 rfl ?_
      refine j_bipush (v := 64) C dX7_slabEntries_91 (by decide) ?_
      refine j_iadd C dX7_slabEntries_93 ?_
      refine j_iload_n C dX7_slabEntries_94 3 rfl ?_
      refine j_isub C dX7_slabEntries_95 ?_
      refine j_iconst (v := 5) C dX7_slabEntries_96 (by decide) ?_
      refine j_iconst (v := (-1)) C dX7_slabEntries_97 (by decide) ?_
      refine j_iload_n C dX7_slabEntries_98 2 rfl ?_
      refine j_callv 0 [.int x3, .int ((x1 + 64) - x3), .int 5, .int ((-1)), .int x2] [] C (kX7_entry_ok x3 ((x1 + 64) - x3) 5 ((-1)) x2 σ h) (tt_V ml_X7_231 mV_X7_entry) ok_X7_entry ⟨by decide, by decide⟩ rfl (r_wM_0 (σ := σ)) (Nat.le_of_ble_eq_true rfl) rfl dX7_slabEntries_99 (fun σ99 h => ?_)
      exact j_vret C dX7_slabEntries_102 h
    · refine j_aload_n C dX7_slabEntries_25 0 rfl ?_
      refine gf_X7_17 C dX7_slabEntries_26 ?_
      refine j_iload C dX7_slabEntries_29 4 rfl ?_
      refine al_wM_3 C h.1 dX7_slabEntries_31 ?_
      replace h := h.2
      refine j_if_le 82 C dX7_slabEntries_32 rfl h (fun h => ?_) (fun h => ?_)
      · refine j_sub (lv' := [(0, .ref (ad 0)), (1, .int x1), (2, .int x2), (3, .int x3), (4, .int x4)]) [0, 1, 2, 3, 4] rfl ?_
        exact k82 _ _ _ _ _ _ (fun _ z => z) h
      · refine j_aload_n C dX7_slabEntries_35 0 rfl ?_
        refine j_iload C dX7_slabEntries_36 4 rfl ?_
        refine j_aload_n C dX7_slabEntries_38 0 rfl ?_
        refine gf_X7_17 C dX7_slabEntries_39 ?_
        refine j_iload C dX7_slabEntries_42 4 rfl ?_
        refine al_wM_3 C h.1 dX7_slabEntries_44 ?_
        replace h := h.2
        refine j_aload_n C dX7_slabEntries_45 0 rfl ?_
        refine gf_X7_20 C dX7_slabEntries_46 ?_
        refine j_iload C dX7_slabEntries_49 4 rfl ?_
        refine al_wM_4 C h.1 dX7_slabEntries_51 ?_
        replace h := h.2
        refine j_if_ge 59 C dX7_slabEntries_52 rfl h (fun h => ?_) (fun h => ?_)
        · refine j_iconst (v := 3) C dX7_slabEntries_59 (by decide) ?_
          refine j_sub (lv' := [(0, .ref (ad 0)), (1, .int x1), (2, .int x2), (4, .int x4)]) [0, 1, 2, 4] rfl ?_
          exact k60 _ _ _ _ _ _ _ _ (fun _ z => z) h
        · refine j_iconst (v := 4) C dX7_slabEntries_55 (by decide) ?_
          refine j_goto 60 C dX7_slabEntries_56 rfl ?_
          refine j_sub (lv' := [(0, .ref (ad 0)), (1, .int x1), (2, .int x2), (4, .int x4)]) [0, 1, 2, 4] rfl ?_
          exact k60 _ _ _ _ _ _ _ _ (fun _ z => z) h
  refine j_aload_n C dX7_slabEntries_0 0 rfl ?_
  refine j_iload_n C dX7_slabEntries_1 1 rfl ?_
  refine j_iconst (v := 1) C dX7_slabEntries_2 (by decide) ?_
  refine j_iconst (v := 2) C dX7_slabEntries_3 (by decide) ?_
  refine j_iconst (v := (-1)) C dX7_slabEntries_4 (by decide) ?_
  refine j_iload_n C dX7_slabEntries_5 2 rfl ?_
  refine j_callv 0 [.int x1, .int 1, .int 2, .int ((-1)), .int x2] [] C (kX7_entry_ok x1 1 2 ((-1)) x2 σ0 h) (tt_V ml_X7_231 mV_X7_entry) ok_X7_entry ⟨by decide, by decide⟩ rfl (r_wM_0 (σ := σ0)) (Nat.le_of_ble_eq_true rfl) rfl dX7_slabEntries_6 (fun σ6 h => ?_)
  refine j_iload_n C dX7_slabEntries_9 1 rfl ?_
  refine j_iconst (v := 1) C dX7_slabEntries_10 (by decide) ?_
  refine j_iadd C dX7_slabEntries_11 ?_
  refine j_istore_n (lv' := [(3, .int (x1 + 1)), (0, .ref (ad 0)), (1, .int x1), (2, .int x2)]) C dX7_slabEntries_12 (by decide) rfl ?_
  refine j_iload_n C dX7_slabEntries_13 2 rfl ?_
  refine j_istore (lv' := [(4, .int x1), (3, .int (x1 + 1)), (0, .ref (ad 0)), (1, .int x1), (2, .int x2)]) C dX7_slabEntries_14 (by decide) rfl ?_
  refine j_sub (lv' := [(0, .ref (ad 0)), (1, .int x1), (2, .int x2), (3, .int (x1 + 1)), (4, .int x1)]) [2, 3, 4, 1, 0] rfl ?_
  exact k16 _ _ _ _ _ h
def wX7_pieceEntries_b34 (x2 : Int32) (x3 : Int32) (t0 : Int32) (t1 : Int32) (t2 : Int32) (σ : SS) (Q : SS → Prop) : Prop := wX7_entry t2 t1 t0 x3 x2 σ (fun σ36 => Q σ36)
def wX7_pieceEntries (x1 : Int32) (x2 : Int32) (σ : SS) (Q : SS → Prop) : Prop := vp_in x1 2560 ∧ (vp_in x2 8 ∧ ((¬ (gA σ 3 x2.toNatClampNeg) = 1 → wX7_entry x1 1 2 ((-1)) x2 σ (fun σ46 => (0 ≤ (gA σ 2 x1.toNatClampNeg) → vp_in x2 8 ∧ ((¬ (gA σ46 3 x2.toNatClampNeg) = 5 → vp_in (gA σ 2 x1.toNatClampNeg) 100 ∧ (wX7_entry (x1 + 1) (gA σ46 6 (gA σ 2 x1.toNatClampNeg).toNatClampNeg) 3 (gA σ 2 x1.toNatClampNeg) x2 σ46 (fun σ147 => Q σ147))) ∧ ((gA σ46 3 x2.toNatClampNeg) = 5 → wX7_entry (x1 + 1) 1 6 (gA σ 2 x1.toNatClampNeg) x2 σ46 (fun σ93 => vp_in (gA σ 2 x1.toNatClampNeg) 100 ∧ (wX7_entry (x1 + 2) (gA σ93 6 (gA σ 2 x1.toNatClampNeg).toNatClampNeg) 3 (gA σ 2 x1.toNatClampNeg) x2 σ93 (fun σ109 => vp_in (gA σ 2 x1.toNatClampNeg) 100 ∧ (wX7_entry ((x1 + 2) + (gA σ109 6 (gA σ 2 x1.toNatClampNeg).toNatClampNeg)) 1 6 (gA σ 2 x1.toNatClampNeg) x2 σ109 (fun σ128 => Q σ128)))))))) ∧ (¬ 0 ≤ (gA σ 2 x1.toNatClampNeg) → vp_in x1 2560 ∧ (wX7_entry (x1 + 1) ((gA σ46 1 x1.toNatClampNeg) - 1) 4 ((-1)) x2 σ46 (fun σ68 => Q σ68))))) ∧ ((gA σ 3 x2.toNatClampNeg) = 1 → vp_in x1 2560 ∧ ((0 ≤ (gA σ 2 x1.toNatClampNeg) → wX7_pieceEntries_b34 x2 (gA σ 2 x1.toNatClampNeg) 3 (gA σ 1 x1.toNatClampNeg) x1 σ Q) ∧ (¬ 0 ≤ (gA σ 2 x1.toNatClampNeg) → wX7_pieceEntries_b34 x2 (gA σ 2 x1.toNatClampNeg) 4 (gA σ 1 x1.toNatClampNeg) x1 σ Q)))))
set_option maxRecDepth 100000 in
set_option maxHeartbeats 4000000 in
theorem kX7_pieceEntries_ok {l : Launch} {D : va_G} {cI cJ cZ : ClassId} {ad : Nat → Nat} (x1 : Int32) (x2 : Int32) (σ0 : SS) {Q : SS → Prop} (h : wX7_pieceEntries x1 x2 σ0 Q) : Cv l yX7_pieceEntries (.code yX7_pieceEntries cX7_pieceEntries 4 none :: TT) { frames := 1, cells := 0, slots := 0, locals := 25 } D (tys cI cJ cZ) (wM cI cJ cZ ad) [.ref (ad 0), .int x1, .int x2] σ0 Q := by
  refine Cv.of (lv := [(0, .ref (ad 0)), (1, .int x1), (2, .int x2)]) (by decide) adM (Nat.le_of_ble_eq_true rfl) rfl ?_
  intro p e s m args below meth c A C
  have k34 : ∀ (x2 : Int32), ∀ (x3 : Int32), ∀ (t0 : Int32), ∀ (t1 : Int32), ∀ (t2 : Int32), ∀ (σ : SS), wX7_pieceEntries_b34 x2 x3 t0 t1 t2 σ Q → J p l e { frames := 1, cells := 0, slots := 0, locals := 25 } s m args below meth c D (wM cI cJ cZ ad) A 4 (MQ below (va_Qv Q (WW D (tys cI cJ cZ) (wM cI cJ cZ ad)) A) args s 0 0 A) σ 34 [(2, .int x2), (3, .int x3)] [.int t0, .int t1, .int t2, .ref (ad 0)] := by
    intro x2 x3 t0 t1 t2 σ h
    refine j_iload_n C dX7_pieceEntries_34 1 rfl ?_
    refine j_iload_n C dX7_pieceEntries_35 0 rfl ?_
    refine j_callv 0 [.int t2, .int t1, .int t0, .int x3, .int x2] [] C (kX7_entry_ok t2 t1 t0 x3 x2 σ h) (tt_V ml_X7_231 mV_X7_entry) ok_X7_entry ⟨by decide, by decide⟩ rfl (r_wM_0 (σ := σ)) (Nat.le_of_ble_eq_true rfl) rfl dX7_pieceEntries_36 (fun σ36 h => ?_)
    exact j_vret C dX7_pieceEntries_39 h
  refine j_aload_n C dX7_pieceEntries_0 0 rfl ?_
  refine gf_X7_20 C dX7_pieceEntries_1 ?_
  refine j_iload_n C dX7_pieceEntries_4 1 rfl ?_
  refine al_wM_4 C h.1 dX7_pieceEntries_5 ?_
  replace h := h.2
  refine j_istore_n (lv' := [(3, .int (gA σ0 2 x1.toNatClampNeg)), (0, .ref (ad 0)), (1, .int x1), (2, .int x2)]) C dX7_pieceEntries_6 (by decide) rfl ?_
  refine j_aload_n C dX7_pieceEntries_7 1 rfl ?_
  refine gf_X7_23 C dX7_pieceEntries_8 ?_
  refine j_iload_n C dX7_pieceEntries_11 3 rfl ?_
  refine al_wM_5 C h.1 dX7_pieceEntries_12 ?_
  replace h := h.2
  refine j_iconst (v := 1) C dX7_pieceEntries_13 (by decide) ?_
  refine j_icmp_ne 40 C dX7_pieceEntries_14 rfl h (fun h => ?_) (fun h => ?_)
  · refine j_aload_n C dX7_pieceEntries_40 1 rfl ?_
    refine j_iload_n C dX7_pieceEntries_41 2 rfl ?_
    refine j_iconst (v := 1) C dX7_pieceEntries_42 (by decide) ?_
    refine j_iconst (v := 2) C dX7_pieceEntries_43 (by decide) ?_
    refine j_iconst (v := (-1)) C dX7_pieceEntries_44 (by decide) ?_
    refine j_iload_n C dX7_pieceEntries_45 3 rfl ?_
    refine j_callv 0 [.int x1, .int 1, .int 2, .int ((-1)), .int x2] [] C (kX7_entry_ok x1 1 2 ((-1)) x2 σ0 h) (tt_V ml_X7_231 mV_X7_entry) ok_X7_entry ⟨by decide, by decide⟩ rfl (r_wM_0 (σ := σ0)) (Nat.le_of_ble_eq_true rfl) rfl dX7_pieceEntries_46 (fun σ46 h => ?_)
    refine j_iload_n C dX7_pieceEntries_49 0 rfl ?_
    refine j_if_ge 74 C dX7_pieceEntries_50 rfl h (fun h => ?_) (fun h => ?_)
    · refine j_aload_n C dX7_pieceEntries_74 1 rfl ?_
      refine gf_X7_23 C dX7_pieceEntries_75 ?_
      refine j_iload_n C dX7_pieceEntries_78 3 rfl ?_
      refine al_wM_5 C h.1 dX7_pieceEntries_79 ?_
      replace h := h.2
      refine j_iconst (v := 5) C dX7_pieceEntries_80 (by decide) ?_
      refine j_icmp_ne 134 C dX7_pieceEntries_81 rfl h (fun h => ?_) (fun h => ?_)
      · refine j_aload_n C dX7_pieceEntries_134 1 rfl ?_
        refine j_iload_n C dX7_pieceEntries_135 2 rfl ?_
        refine j_iconst (v := 1) C dX7_pieceEntries_136 (by decide) ?_
        refine j_iadd C dX7_pieceEntries_137 ?_
        refine j_aload_n C dX7_pieceEntries_138 1 rfl ?_
        refine gf_X7_36 C dX7_pieceEntries_139 ?_
        refine j_iload_n C dX7_pieceEntries_142 0 rfl ?_
        refine al_wM_9 C h.1 dX7_pieceEntries_143 ?_
        replace h := h.2
        refine j_iconst (v := 3) C dX7_pieceEntries_144 (by decide) ?_
        refine j_iload_n C dX7_pieceEntries_145 0 rfl ?_
        refine j_iload_n C dX7_pieceEntries_146 3 rfl ?_
        refine j_callv 0 [.int (x1 + 1), .int (gA σ46 6 (gA σ0 2 x1.toNatClampNeg).toNatClampNeg), .int 3, .int (gA σ0 2 x1.toNatClampNeg), .int x2] [] C (kX7_entry_ok (x1 + 1) (gA σ46 6 (gA σ0 2 x1.toNatClampNeg).toNatClampNeg) 3 (gA σ0 2 x1.toNatClampNeg) x2 σ46 h) (tt_V ml_X7_231 mV_X7_entry) ok_X7_entry ⟨by decide, by decide⟩ rfl (r_wM_0 (σ := σ46)) (Nat.le_of_ble_eq_true rfl) rfl dX7_pieceEntries_147 (fun σ147 h => ?_)
        exact j_vret C dX7_pieceEntries_150 h
      · refine j_aload_n C dX7_pieceEntries_84 1 rfl ?_
        refine j_iload_n C dX7_pieceEntries_85 2 rfl ?_
        refine j_iconst (v := 1) C dX7_pieceEntries_86 (by decide) ?_
        refine j_iadd C dX7_pieceEntries_87 ?_
        refine j_iconst (v := 1) C dX7_pieceEntries_88 (by decide) ?_
        refine j_bipush (v := 6) C dX7_pieceEntries_89 (by decide) ?_
        refine j_iload_n C dX7_pieceEntries_91 0 rfl ?_
        refine j_iload_n C dX7_pieceEntries_92 3 rfl ?_
        refine j_callv 0 [.int (x1 + 1), .int 1, .int 6, .int (gA σ0 2 x1.toNatClampNeg), .int x2] [] C (kX7_entry_ok (x1 + 1) 1 6 (gA σ0 2 x1.toNatClampNeg) x2 σ46 h) (tt_V ml_X7_231 mV_X7_entry) ok_X7_entry ⟨by decide, by decide⟩ rfl (r_wM_0 (σ := σ46)) (Nat.le_of_ble_eq_true rfl) rfl dX7_pieceEntries_93 (fun σ93 h => ?_)
        refine j_aload_n C dX7_pieceEntries_96 1 rfl ?_
        refine j_iload_n C dX7_pieceEntries_97 2 rfl ?_
        refine j_iconst (v := 2) C dX7_pieceEntries_98 (by decide) ?_
        refine j_iadd C dX7_pieceEntries_99 ?_
        refine j_aload_n C dX7_pieceEntries_100 1 rfl ?_
        refine gf_X7_36 C dX7_pieceEntries_101 ?_
        refine j_iload_n C dX7_pieceEntries_104 0 rfl ?_
        refine al_wM_9 C h.1 dX7_pieceEntries_105 ?_
        replace h := h.2
        refine j_iconst (v := 3) C dX7_pieceEntries_106 (by decide) ?_
        refine j_iload_n C dX7_pieceEntries_107 0 rfl ?_
        refine j_iload_n C dX7_pieceEntries_108 3 rfl ?_
        refine j_callv 0 [.int (x1 + 2), .int (gA σ93 6 (gA σ0 2 x1.toNatClampNeg).toNatClampNeg), .int 3, .int (gA σ0 2 x1.toNatClampNeg), .int x2] [] C (kX7_entry_ok (x1 + 2) (gA σ93 6 (gA σ0 2 x1.toNatClampNeg).toNatClampNeg) 3 (gA σ0 2 x1.toNatClampNeg) x2 σ93 h) (tt_V ml_X7_231 mV_X7_entry) ok_X7_entry ⟨by decide, by decide⟩ rfl (r_wM_0 (σ := σ93)) (Nat.le_of_ble_eq_true rfl) rfl dX7_pieceEntries_109 (fun σ109 h => ?_)
        refine j_aload_n C dX7_pieceEntries_112 1 rfl ?_
        refine j_iload_n C dX7_pieceEntries_113 2 rfl ?_
        refine j_iconst (v := 2) C dX7_pieceEntries_114 (by decide) ?_
        refine j_iadd C dX7_pieceEntries_115 ?_
        refine j_aload_n C dX7_pieceEntries_116 1 rfl ?_
        refine gf_X7_36 C dX7_pieceEntries_117 ?_
        refine j_iload_n C dX7_pieceEntries_120 0 rfl ?_
        refine al_wM_9 C h.1 dX7_pieceEntries_121 ?_
        replace h := h.2
        refine j_iadd C dX7_pieceEntries_122 ?_
        refine j_iconst (v := 1) C dX7_pieceEntries_123 (by decide) ?_
        refine j_bipush (v := 6) C dX7_pieceEntries_124 (by decide) ?_
        refine j_iload_n C dX7_pieceEntries_126 0 rfl ?_
        refine j_iload_n C dX7_pieceEntries_127 3 rfl ?_
        refine j_callv 0 [.int ((x1 + 2) + (gA σ109 6 (gA σ0 2 x1.toNatClampNeg).toNatClampNeg)), .int 1, .int 6, .int (gA σ0 2 x1.toNatClampNeg), .int x2] [] C (kX7_entry_ok ((x1 + 2) + (gA σ109 6 (gA σ0 2 x1.toNatClampNeg).toNatClampNeg)) 1 6 (gA σ0 2 x1.toNatClampNeg) x2 σ109 h) (tt_V ml_X7_231 mV_X7_entry) ok_X7_entry ⟨by decide, by decide⟩ rfl (r_wM_0 (σ := σ109)) (Nat.le_of_ble_eq_true rfl) rfl dX7_pieceEntries_128 (fun σ128 h => ?_)
        refine j_goto 150 C dX7_pieceEntries_131 rfl ?_
        exact j_vret C dX7_pieceEntries_150 h
    · refine j_aload_n C dX7_pieceEntries_53 1 rfl ?_
      refine j_iload_n C dX7_pieceEntries_54 2 rfl ?_
      refine j_iconst (v := 1) C dX7_pieceEntries_55 (by decide) ?_
      refine j_iadd C dX7_pieceEntries_56 ?_
      refine j_aload_n C dX7_pieceEntries_57 1 rfl ?_
      refine gf_X7_17 C dX7_pieceEntries_58 ?_
      refine j_iload_n C dX7_pieceEntries_61 2 rfl ?_
      refine al_wM_3 C h.1 dX7_pieceEntries_62 ?_
      replace h := h.2
      refine j_iconst (v := 1) C dX7_pieceEntries_63 (by decide) ?_
      refine j_isub C dX7_pieceEntries_64 ?_
      refine j_iconst (v := 4) C dX7_pieceEntries_65 (by decide) ?_
      refine j_iconst (v := (-1)) C dX7_pieceEntries_66 (by decide) ?_
      refine j_iload_n C dX7_pieceEntries_67 3 rfl ?_
      refine j_callv 0 [.int (x1 + 1), .int ((gA σ46 1 x1.toNatClampNeg) - 1), .int 4, .int ((-1)), .int x2] [] C (kX7_entry_ok (x1 + 1) ((gA σ46 1 x1.toNatClampNeg) - 1) 4 ((-1)) x2 σ46 h) (tt_V ml_X7_231 mV_X7_entry) ok_X7_entry ⟨by decide, by decide⟩ rfl (r_wM_0 (σ := σ46)) (Nat.le_of_ble_eq_true rfl) rfl dX7_pieceEntries_68 (fun σ68 h => ?_)
      refine j_goto 150 C dX7_pieceEntries_71 rfl ?_
      exact j_vret C dX7_pieceEntries_150 h
  · refine j_aload_n C dX7_pieceEntries_17 1 rfl ?_
    refine j_iload_n C dX7_pieceEntries_18 2 rfl ?_
    refine j_aload_n C dX7_pieceEntries_19 1 rfl ?_
    refine gf_X7_17 C dX7_pieceEntries_20 ?_
    refine j_iload_n C dX7_pieceEntries_23 2 rfl ?_
    refine al_wM_3 C h.1 dX7_pieceEntries_24 ?_
    replace h := h.2
    refine j_iload_n C dX7_pieceEntries_25 0 rfl ?_
    refine j_if_ge 33 C dX7_pieceEntries_26 rfl h (fun h => ?_) (fun h => ?_)
    · refine j_iconst (v := 3) C dX7_pieceEntries_33 (by decide) ?_
      refine j_sub (lv' := [(2, .int x2), (3, .int (gA σ0 2 x1.toNatClampNeg))]) [3, 0] rfl ?_
      exact k34 _ _ _ _ _ _ h
    · refine j_iconst (v := 4) C dX7_pieceEntries_29 (by decide) ?_
      refine j_goto 34 C dX7_pieceEntries_30 rfl ?_
      refine j_sub (lv' := [(2, .int x2), (3, .int (gA σ0 2 x1.toNatClampNeg))]) [3, 0] rfl ?_
      exact k34 _ _ _ _ _ _ h
def wX7_go_b121 (X22 : Int32 × SS → Prop) (x3 : Int32) (σ : SS) (Q : SS → Prop) : Prop := X22 (x3, σ)
def wX7_go_b71 (X22 : Int32 × SS → Prop) (x3 : Int32) (t0 : Int32) (t1 : Int32) (t2 : Int32) (σ : SS) (Q : SS → Prop) : Prop := wX7_entry t2 t1 t0 ((-1)) ((-1)) σ (fun σ73 => wX7_go_b121 X22 (x3 + 64) σ73 Q)
def wX7_go_b22 (x3 : Int32) (σ : SS) (Q : SS → Prop) : Prop := lfp (fun (X22 : Int32 × SS → Prop) (t : Int32 × SS) => ((64 * (gI t.2 0)) ≤ t.1 → Q t.2) ∧ (¬ (64 * (gI t.2 0)) ≤ t.1 → (¬ (gI t.2 15) = 0 → Q t.2) ∧ ((gI t.2 15) = 0 → vp_in (t.1 / 64) 40 ∧ ((0 ≤ (gA t.2 0 (t.1 / 64).toNatClampNeg) → vp_in (gA t.2 0 (t.1 / 64).toNatClampNeg) 8 ∧ ((¬ (gA t.2 3 (gA t.2 0 (t.1 / 64).toNatClampNeg).toNatClampNeg) = 0 → wX7_pieceEntries t.1 (gA t.2 0 (t.1 / 64).toNatClampNeg) t.2 (fun σ109 => vp_in t.1 2560 ∧ (wX7_go_b121 X22 (t.1 + (gA σ109 1 t.1.toNatClampNeg)) σ109 Q))) ∧ ((gA t.2 3 (gA t.2 0 (t.1 / 64).toNatClampNeg).toNatClampNeg) = 0 → wX7_slabEntries t.1 (gA t.2 0 (t.1 / 64).toNatClampNeg) t.2 (fun σ96 => wX7_go_b121 X22 (t.1 + 64) σ96 Q)))) ∧ (¬ 0 ≤ (gA t.2 0 (t.1 / 64).toNatClampNeg) → (¬ (gA t.2 0 (t.1 / 64).toNatClampNeg) = ((-1)) → wX7_go_b71 X22 t.1 1 64 t.1 t.2 Q) ∧ ((gA t.2 0 (t.1 / 64).toNatClampNeg) = ((-1)) → wX7_go_b71 X22 t.1 0 64 t.1 t.2 Q)))))) (x3, σ)
def wX7_go (x1 : Int32) (x2 : Int32) (σ : SS) (Q : SS → Prop) : Prop := wX7_go_b22 0 (sI (sI (sI (sI σ 12 0) 13 x1) 14 x2) 15 0) Q
set_option maxRecDepth 100000 in
set_option maxHeartbeats 4000000 in
theorem kX7_go_ok {l : Launch} {D : va_G} {cI cJ cZ : ClassId} {ad : Nat → Nat} (x1 : Int32) (x2 : Int32) (σ0 : SS) {Q : SS → Prop} (h : wX7_go x1 x2 σ0 Q) : Cv l yX7_go (.code yX7_go cX7_go 5 none :: TT) { frames := 2, cells := 0, slots := 0, locals := 49 } D (tys cI cJ cZ) (wM cI cJ cZ ad) [.ref (ad 0), .int x1, .int x2] σ0 Q := by
  refine Cv.of (lv := [(0, .ref (ad 0)), (1, .int x1), (2, .int x2)]) (by decide) adM (Nat.le_of_ble_eq_true rfl) rfl ?_
  intro p e s m args below meth c A C
  have k121 : ∀ (x3 : Int32), ∀ (σ : SS), ∀ (X22 : Int32 × SS → Prop), (∀ t : Int32 × SS, X22 t → J p l e { frames := 2, cells := 0, slots := 0, locals := 49 } s m args below meth c D (wM cI cJ cZ ad) A 5 (MQ below (va_Qv Q (WW D (tys cI cJ cZ) (wM cI cJ cZ ad)) A) args s 0 0 A) t.2 22 [(0, .ref (ad 0)), (3, .int t.1)] []) → wX7_go_b121 X22 x3 σ Q → J p l e { frames := 2, cells := 0, slots := 0, locals := 49 } s m args below meth c D (wM cI cJ cZ ad) A 5 (MQ below (va_Qv Q (WW D (tys cI cJ cZ) (wM cI cJ cZ ad)) A) args s 0 0 A) σ 121 [(0, .ref (ad 0)), (3, .int x3)] [] := by
    intro x3 σ X22 hX22 h
    refine j_goto 22 C dX7_go_121 rfl ?_
    refine j_sub (lv' := [(0, .ref (ad 0)), (3, .int x3)]) [0, 1] rfl ?_
    exact hX22 _ h
  have k71 : ∀ (x3 : Int32), ∀ (t0 : Int32), ∀ (t1 : Int32), ∀ (t2 : Int32), ∀ (σ : SS), ∀ (X22 : Int32 × SS → Prop), (∀ t : Int32 × SS, X22 t → J p l e { frames := 2, cells := 0, slots := 0, locals := 49 } s m args below meth c D (wM cI cJ cZ ad) A 5 (MQ below (va_Qv Q (WW D (tys cI cJ cZ) (wM cI cJ cZ ad)) A) args s 0 0 A) t.2 22 [(0, .ref (ad 0)), (3, .int t.1)] []) → wX7_go_b71 X22 x3 t0 t1 t2 σ Q → J p l e { frames := 2, cells := 0, slots := 0, locals := 49 } s m args below meth c D (wM cI cJ cZ ad) A 5 (MQ below (va_Qv Q (WW D (tys cI cJ cZ) (wM cI cJ cZ ad)) A) args s 0 0 A) σ 71 [(0, .ref (ad 0)), (3, .int x3)] [.int t0, .int t1, .int t2, .ref (ad 0)] := by
    intro x3 t0 t1 t2 σ X22 hX22 h
    refine j_iconst (v := (-1)) C dX7_go_71 (by decide) ?_
    refine j_iconst (v := (-1)) C dX7_go_72 (by decide) ?_
    refine j_callv 0 [.int t2, .int t1, .int t0, .int ((-1)), .int ((-1))] [] C (kX7_entry_ok t2 t1 t0 ((-1)) ((-1)) σ h) (tt_V ml_X7_231 mV_X7_entry) ok_X7_entry ⟨by decide, by decide⟩ rfl (r_wM_0 (σ := σ)) (Nat.le_of_ble_eq_true rfl) rfl dX7_go_73 (fun σ73 h => ?_)
    refine j_iinc (lv' := [(3, .int (x3 + 64)), (0, .ref (ad 0))]) (x3 + 64) C dX7_go_76 1 rfl rfl (by decide) rfl ?_
    refine j_goto 121 C dX7_go_79 rfl ?_
    refine j_sub (lv' := [(0, .ref (ad 0)), (3, .int (x3 + 64))]) [1, 0] rfl ?_
    exact k121 _ _ _ hX22 h
  have k22 : ∀ (x3 : Int32), ∀ (σ : SS), wX7_go_b22 x3 σ Q → J p l e { frames := 2, cells := 0, slots := 0, locals := 49 } s m args below meth c D (wM cI cJ cZ ad) A 5 (MQ below (va_Qv Q (WW D (tys cI cJ cZ) (wM cI cJ cZ ad)) A) args s 0 0 A) σ 22 [(0, .ref (ad 0)), (3, .int x3)] [] := by
    intro x3 σ h
    refine h (fun t => J p l e { frames := 2, cells := 0, slots := 0, locals := 49 } s m args below meth c D (wM cI cJ cZ ad) A 5 (MQ below (va_Qv Q (WW D (tys cI cJ cZ) (wM cI cJ cZ ad)) A) args s 0 0 A) t.2 22 [(0, .ref (ad 0)), (3, .int t.1)] []) (fun t h => ?_)
    obtain ⟨x3, σ⟩ := t
    try dsimp only at h
    refine j_iload_n C dX7_go_22 1 rfl ?_
    refine j_bipush (v := 64) C dX7_go_23 (by decide) ?_
    refine j_aload_n C dX7_go_25 0 rfl ?_
    refine gf_X7_94 C dX7_go_26 ?_
    refine j_imul C dX7_go_29 ?_
    refine j_icmp_ge 124 C dX7_go_30 rfl h (fun h => ?_) (fun h => ?_)
    · exact j_vret C dX7_go_124 h
    · refine j_aload_n C dX7_go_33 0 rfl ?_
      refine gf_X7_203 C dX7_go_34 ?_
      refine j_if_ne 124 C dX7_go_37 rfl h (fun h => ?_) (fun h => ?_)
      · exact j_vret C dX7_go_124 h
      · refine j_aload_n C dX7_go_40 0 rfl ?_
        refine gf_X7_9 C dX7_go_41 ?_
        refine j_iload_n C dX7_go_44 1 rfl ?_
        refine j_bipush (v := 64) C dX7_go_45 (by decide) ?_
        refine j_idiv C dX7_go_47 (by decide) ?_
        refine al_wM_1 C h.1 dX7_go_48 ?_
        replace h := h.2
        refine j_istore (lv' := [(4, .int (gA σ 0 (x3 / 64).toNatClampNeg)), (0, .ref (ad 0)), (3, .int x3)]) C dX7_go_49 (by decide) rfl ?_
        refine j_iload C dX7_go_51 0 rfl ?_
        refine j_if_ge 82 C dX7_go_53 rfl h (fun h => ?_) (fun h => ?_)
        · refine j_aload_n C dX7_go_82 1 rfl ?_
          refine gf_X7_23 C dX7_go_83 ?_
          refine j_iload C dX7_go_86 0 rfl ?_
          refine al_wM_5 C h.1 dX7_go_88 ?_
          replace h := h.2
          refine j_if_ne 105 C dX7_go_89 rfl h (fun h => ?_) (fun h => ?_)
          · refine j_aload_n C dX7_go_105 1 rfl ?_
            refine j_iload_n C dX7_go_106 2 rfl ?_
            refine j_iload C dX7_go_107 0 rfl ?_
            refine j_callv 0 [.int x3, .int (gA σ 0 (x3 / 64).toNatClampNeg)] [] C (kX7_pieceEntries_ok x3 (gA σ 0 (x3 / 64).toNatClampNeg) σ h) (tt_V ml_X7_238 mV_X7_pieceEntries) ok_X7_pieceEntries ⟨by decide, by decide⟩ rfl (r_wM_0 (σ := σ)) (Nat.le_of_ble_eq_true rfl) rfl dX7_go_109 (fun σ109 h => ?_)
            refine j_iload_n C dX7_go_112 2 rfl ?_
            refine j_aload_n C dX7_go_113 1 rfl ?_
            refine gf_X7_17 C dX7_go_114 ?_
            refine j_iload_n C dX7_go_117 2 rfl ?_
            refine al_wM_3 C h.1 dX7_go_118 ?_
            replace h := h.2
            refine j_iadd C dX7_go_119 ?_
            refine j_istore_n (lv' := [(3, .int (x3 + (gA σ109 1 x3.toNatClampNeg))), (4, .int (gA σ 0 (x3 / 64).toNatClampNeg)), (0, .ref (ad 0))]) C dX7_go_120 (by decide) rfl ?_
            refine j_sub (lv' := [(0, .ref (ad 0)), (3, .int (x3 + (gA σ109 1 x3.toNatClampNeg)))]) [2, 0] rfl ?_
            exact k121 _ _ _ (fun _ z => z) h
          · refine j_aload_n C dX7_go_92 1 rfl ?_
            refine j_iload_n C dX7_go_93 2 rfl ?_
            refine j_iload C dX7_go_94 0 rfl ?_
            refine j_callv 0 [.int x3, .int (gA σ 0 (x3 / 64).toNatClampNeg)] [] C (kX7_slabEntries_ok x3 (gA σ 0 (x3 / 64).toNatClampNeg) σ h) (tt_V ml_X7_235 mV_X7_slabEntries) ok_X7_slabEntries ⟨by decide, by decide⟩ rfl (r_wM_0 (σ := σ)) (Nat.le_of_ble_eq_true rfl) rfl dX7_go_96 (fun σ96 h => ?_)
            refine j_iinc (lv' := [(3, .int (x3 + 64)), (4, .int (gA σ 0 (x3 / 64).toNatClampNeg)), (0, .ref (ad 0))]) (x3 + 64) C dX7_go_99 2 rfl rfl (by decide) rfl ?_
            refine j_goto 121 C dX7_go_102 rfl ?_
            refine j_sub (lv' := [(0, .ref (ad 0)), (3, .int (x3 + 64))]) [2, 0] rfl ?_
            exact k121 _ _ _ (fun _ z => z) h
        · refine j_aload_n C dX7_go_56 1 rfl ?_
          refine j_iload_n C dX7_go_57 2 rfl ?_
          refine j_bipush (v := 64) C dX7_go_58 (by decide) ?_
          refine j_iload C dX7_go_60 0 rfl ?_
          refine j_iconst (v := (-1)) C dX7_go_62 (by decide) ?_
          refine j_icmp_ne 70 C dX7_go_63 rfl h (fun h => ?_) (fun h => ?_)
          · refine j_iconst (v := 1) C dX7_go_70 (by decide) ?_
            refine j_sub (lv' := [(0, .ref (ad 0)), (3, .int x3)]) [1, 2] rfl ?_
            exact k71 _ _ _ _ _ _ (fun _ z => z) h
          · refine j_iconst (v := 0) C dX7_go_66 (by decide) ?_
            refine j_goto 71 C dX7_go_67 rfl ?_
            refine j_sub (lv' := [(0, .ref (ad 0)), (3, .int x3)]) [1, 2] rfl ?_
            exact k71 _ _ _ _ _ _ (fun _ z => z) h
  refine j_aload_n C dX7_go_0 0 rfl ?_
  refine j_iconst (v := 0) C dX7_go_1 (by decide) ?_
  refine pf_X7_207 C dX7_go_2 ?_
  refine j_aload_n C dX7_go_5 0 rfl ?_
  refine j_iload_n C dX7_go_6 1 rfl ?_
  refine pf_X7_210 C dX7_go_7 ?_
  refine j_aload_n C dX7_go_10 0 rfl ?_
  refine j_iload_n C dX7_go_11 2 rfl ?_
  refine pf_X7_213 C dX7_go_12 ?_
  refine j_aload_n C dX7_go_15 0 rfl ?_
  refine j_iconst (v := 0) C dX7_go_16 (by decide) ?_
  refine pf_X7_203 C rfl rfl dX7_go_17 ?_
  refine j_iconst (v := 0) C dX7_go_20 (by decide) ?_
  refine j_istore_n (lv' := [(3, .int 0), (0, .ref (ad 0)), (1, .int x1), (2, .int x2)]) C dX7_go_21 (by decide) rfl ?_
  refine j_sub (lv' := [(0, .ref (ad 0)), (3, .int 0)]) [1, 0] rfl ?_
  exact k22 _ _ h
def wX7_peek_b15 (σ : SS) (Q : Int32 → SS → Prop) : Prop := wX7_answer ((-1)) σ (fun r17 σ17 => Q r17 σ17)
def wX7_peek (x1 : Int32) (σ : SS) (Q : Int32 → SS → Prop) : Prop := (x1 < 0 → wX7_peek_b15 σ Q) ∧ (¬ x1 < 0 → (x1 < (64 * (gI σ 0)) → vp_in (x1 / 64) 40 ∧ ((¬ (gA σ 0 (x1 / 64).toNatClampNeg) = ((-2)) → wX7_go ((-1)) x1 σ (fun σ45 => vp_in x1 2560 ∧ (Q (gI (sL σ45 0 (gB σ45 0 x1.toNatClampNeg)) 9) (sL σ45 0 (gB σ45 0 x1.toNatClampNeg))))) ∧ ((gA σ 0 (x1 / 64).toNatClampNeg) = ((-2)) → wX7_answer ((-2)) σ (fun r38 σ38 => Q r38 σ38)))) ∧ (¬ x1 < (64 * (gI σ 0)) → wX7_peek_b15 σ Q))
set_option maxRecDepth 100000 in
set_option maxHeartbeats 4000000 in
theorem kX7_peek_ok {l : Launch} {D : va_G} {cI cJ cZ : ClassId} {ad : Nat → Nat} (x1 : Int32) (σ0 : SS) {Q : Int32 → SS → Prop} (h : wX7_peek x1 σ0 Q) : Ci l yX7_peek (.code yX7_peek cX7_peek 2 (some .int) :: TT) { frames := 3, cells := 0, slots := 0, locals := 73 } D (tys cI cJ cZ) (wM cI cJ cZ ad) [.ref (ad 0), .int x1] σ0 Q := by
  refine Ci.of (lv := [(0, .ref (ad 0)), (1, .int x1)]) (by decide) adM (Nat.le_of_ble_eq_true rfl) rfl ?_
  intro p e s m args below meth c A C
  have k15 : ∀ (σ : SS), wX7_peek_b15 σ Q → J p l e { frames := 3, cells := 0, slots := 0, locals := 73 } s m args below meth c D (wM cI cJ cZ ad) A 2 (MQ below (va_Qi Q (WW D (tys cI cJ cZ) (wM cI cJ cZ ad)) A) args s 0 0 A) σ 15 [(0, .ref (ad 0))] [] := by
    intro σ h
    refine j_aload_n C dX7_peek_15 0 rfl ?_
    refine j_iconst (v := (-1)) C dX7_peek_16 (by decide) ?_
    refine j_calli 0 [.int ((-1))] [] C (kX7_answer_ok ((-1)) σ h) (tt_V ml_X7_90 mV_X7_answer) ok_X7_answer ⟨by decide, by decide⟩ rfl (r_wM_0 (σ := σ)) (Nat.le_of_ble_eq_true rfl) rfl dX7_peek_17 (fun r17 σ17 h => ?_)
    exact j_iret C dX7_peek_20 h
  refine j_iload_n C dX7_peek_0 1 rfl ?_
  refine j_if_lt 15 C dX7_peek_1 rfl h (fun h => ?_) (fun h => ?_)
  · refine j_sub (lv' := [(0, .ref (ad 0))]) [0] rfl ?_
    exact k15 _ h
  · refine j_iload_n C dX7_peek_4 1 rfl ?_
    refine j_bipush (v := 64) C dX7_peek_5 (by decide) ?_
    refine j_aload_n C dX7_peek_7 0 rfl ?_
    refine gf_X7_94 C dX7_peek_8 ?_
    refine j_imul C dX7_peek_11 ?_
    refine j_icmp_lt 21 C dX7_peek_12 rfl h (fun h => ?_) (fun h => ?_)
    · refine j_aload_n C dX7_peek_21 0 rfl ?_
      refine gf_X7_9 C dX7_peek_22 ?_
      refine j_iload_n C dX7_peek_25 1 rfl ?_
      refine j_bipush (v := 64) C dX7_peek_26 (by decide) ?_
      refine j_idiv C dX7_peek_28 (by decide) ?_
      refine al_wM_1 C h.1 dX7_peek_29 ?_
      replace h := h.2
      refine j_bipush (v := (-2)) C dX7_peek_30 (by decide) ?_
      refine j_icmp_ne 42 C dX7_peek_32 rfl h (fun h => ?_) (fun h => ?_)
      · refine j_aload_n C dX7_peek_42 0 rfl ?_
        refine j_iconst (v := (-1)) C dX7_peek_43 (by decide) ?_
        refine j_iload_n C dX7_peek_44 1 rfl ?_
        refine j_callv 0 [.int ((-1)), .int x1] [] C (kX7_go_ok ((-1)) x1 σ0 h) (tt_V ml_X7_241 mV_X7_go) ok_X7_go ⟨by decide, by decide⟩ rfl (r_wM_0 (σ := σ0)) (Nat.le_of_ble_eq_true rfl) rfl dX7_peek_45 (fun σ45 h => ?_)
        refine j_aload_n C dX7_peek_48 0 rfl ?_
        refine j_aload_n C dX7_peek_49 0 rfl ?_
        refine gf_X7_13 C dX7_peek_50 ?_
        refine j_iload_n C dX7_peek_53 1 rfl ?_
        refine al_wM_2 C h.1 dX7_peek_54 ?_
        replace h := h.2
        refine pf_X7_104 C dX7_peek_55 ?_
        refine j_aload_n C dX7_peek_58 0 rfl ?_
        refine gf_X7_222 C dX7_peek_59 ?_
        exact j_iret C dX7_peek_62 h
      · refine j_aload_n C dX7_peek_35 0 rfl ?_
        refine j_bipush (v := (-2)) C dX7_peek_36 (by decide) ?_
        refine j_calli 0 [.int ((-2))] [] C (kX7_answer_ok ((-2)) σ0 h) (tt_V ml_X7_90 mV_X7_answer) ok_X7_answer ⟨by decide, by decide⟩ rfl (r_wM_0 (σ := σ0)) (Nat.le_of_ble_eq_true rfl) rfl dX7_peek_38 (fun r38 σ38 h => ?_)
        exact j_iret C dX7_peek_41 h
    · refine j_sub (lv' := [(0, .ref (ad 0))]) [0] rfl ?_
      exact k15 _ h
def wX7_map_b68 (x2 : Int32) (t0 : Int32) (σ : SS) (Q : Int32 → SS → Prop) : Prop := (¬ x2 = 0 → (¬ x2 = 1 → (¬ x2 = 2 → (¬ x2 = 3 → Q (gI σ 11) σ) ∧ (x2 = 3 → Q t0 σ)) ∧ (x2 = 2 → Q (gI σ 9) σ)) ∧ (x2 = 1 → Q (gI σ 8) σ)) ∧ (x2 = 0 → Q (gI σ 7) σ)
def wX7_map_b32 (σ : SS) (Q : Int32 → SS → Prop) : Prop := wX7_answer ((-1)) σ (fun r34 σ34 => Q r34 σ34)
def wX7_map (x1 : Int32) (x2 : Int32) (σ : SS) (Q : Int32 → SS → Prop) : Prop := (0 ≤ x1 → wX7_go x1 ((-1)) σ (fun σ13 => ((gI σ13 15) = 0 → wX7_map_b32 σ13 Q) ∧ (¬ (gI σ13 15) = 0 → (x2 < 0 → wX7_map_b32 σ13 Q) ∧ (¬ x2 < 0 → (x2 ≤ 4 → (0 ≤ (gI σ13 10) → vp_in (gI σ13 10) 100 ∧ (wX7_map_b68 x2 ((100 * ((gA σ13 4 (gI σ13 10).toNatClampNeg) - 1)) + (gI σ13 10)) σ13 Q)) ∧ (¬ 0 ≤ (gI σ13 10) → wX7_map_b68 x2 ((-1)) σ13 Q)) ∧ (¬ x2 ≤ 4 → wX7_map_b32 σ13 Q))))) ∧ (¬ 0 ≤ x1 → wX7_answer ((-1)) σ (fun r6 σ6 => Q r6 σ6))
set_option maxRecDepth 100000 in
set_option maxHeartbeats 4000000 in
theorem kX7_map_ok {l : Launch} {D : va_G} {cI cJ cZ : ClassId} {ad : Nat → Nat} (x1 : Int32) (x2 : Int32) (σ0 : SS) {Q : Int32 → SS → Prop} (h : wX7_map x1 x2 σ0 Q) : Ci l yX7_map (.code yX7_map cX7_map 4 (some .int) :: TT) { frames := 3, cells := 0, slots := 0, locals := 73 } D (tys cI cJ cZ) (wM cI cJ cZ ad) [.ref (ad 0), .int x1, .int x2] σ0 Q := by
  refine Ci.of (lv := [(0, .ref (ad 0)), (1, .int x1), (2, .int x2)]) (by decide) adM (Nat.le_of_ble_eq_true rfl) rfl ?_
  intro p e s m args below meth c A C
  have k68 : ∀ (x2 : Int32), ∀ (t0 : Int32), ∀ (σ : SS), wX7_map_b68 x2 t0 σ Q → J p l e { frames := 3, cells := 0, slots := 0, locals := 73 } s m args below meth c D (wM cI cJ cZ ad) A 4 (MQ below (va_Qi Q (WW D (tys cI cJ cZ) (wM cI cJ cZ ad)) A) args s 0 0 A) σ 68 [(0, .ref (ad 0)), (2, .int x2)] [.int t0] := by
    intro x2 t0 σ h
    refine j_istore_n (lv' := [(3, .int t0), (0, .ref (ad 0)), (2, .int x2)]) C dX7_map_68 (by decide) rfl ?_
    refine j_iload_n C dX7_map_69 2 rfl ?_
    refine j_if_ne 80 C dX7_map_70 rfl h (fun h => ?_) (fun h => ?_)
    · refine j_iload_n C dX7_map_80 2 rfl ?_
      refine j_iconst (v := 1) C dX7_map_81 (by decide) ?_
      refine j_icmp_ne 92 C dX7_map_82 rfl h (fun h => ?_) (fun h => ?_)
      · refine j_iload_n C dX7_map_92 2 rfl ?_
        refine j_iconst (v := 2) C dX7_map_93 (by decide) ?_
        refine j_icmp_ne 104 C dX7_map_94 rfl h (fun h => ?_) (fun h => ?_)
        · refine j_iload_n C dX7_map_104 2 rfl ?_
          refine j_iconst (v := 3) C dX7_map_105 (by decide) ?_
          refine j_icmp_ne 113 C dX7_map_106 rfl h (fun h => ?_) (fun h => ?_)
          · refine j_aload_n C dX7_map_113 1 rfl ?_
            refine gf_X7_228 C dX7_map_114 ?_
            exact j_iret C dX7_map_117 h
          · refine j_iload_n C dX7_map_109 0 rfl ?_
            refine j_goto 117 C dX7_map_110 rfl ?_
            exact j_iret C dX7_map_117 h
        · refine j_aload_n C dX7_map_97 1 rfl ?_
          refine gf_X7_222 C dX7_map_98 ?_
          refine j_goto 117 C dX7_map_101 rfl ?_
          exact j_iret C dX7_map_117 h
      · refine j_aload_n C dX7_map_85 1 rfl ?_
        refine gf_X7_219 C dX7_map_86 ?_
        refine j_goto 117 C dX7_map_89 rfl ?_
        exact j_iret C dX7_map_117 h
    · refine j_aload_n C dX7_map_73 1 rfl ?_
      refine gf_X7_216 C dX7_map_74 ?_
      refine j_goto 117 C dX7_map_77 rfl ?_
      exact j_iret C dX7_map_117 h
  have k32 : ∀ (σ : SS), wX7_map_b32 σ Q → J p l e { frames := 3, cells := 0, slots := 0, locals := 73 } s m args below meth c D (wM cI cJ cZ ad) A 4 (MQ below (va_Qi Q (WW D (tys cI cJ cZ) (wM cI cJ cZ ad)) A) args s 0 0 A) σ 32 [(0, .ref (ad 0))] [] := by
    intro σ h
    refine j_aload_n C dX7_map_32 0 rfl ?_
    refine j_iconst (v := (-1)) C dX7_map_33 (by decide) ?_
    refine j_calli 0 [.int ((-1))] [] C (kX7_answer_ok ((-1)) σ h) (tt_V ml_X7_90 mV_X7_answer) ok_X7_answer ⟨by decide, by decide⟩ rfl (r_wM_0 (σ := σ)) (Nat.le_of_ble_eq_true rfl) rfl dX7_map_34 (fun r34 σ34 h => ?_)
    exact j_iret C dX7_map_37 h
  refine j_iload_n C dX7_map_0 1 rfl ?_
  refine j_if_ge 10 C dX7_map_1 rfl h (fun h => ?_) (fun h => ?_)
  · refine j_aload_n C dX7_map_10 0 rfl ?_
    refine j_iload_n C dX7_map_11 1 rfl ?_
    refine j_iconst (v := (-1)) C dX7_map_12 (by decide) ?_
    refine j_callv 0 [.int x1, .int ((-1))] [] C (kX7_go_ok x1 ((-1)) σ0 h) (tt_V ml_X7_241 mV_X7_go) ok_X7_go ⟨by decide, by decide⟩ rfl (r_wM_0 (σ := σ0)) (Nat.le_of_ble_eq_true rfl) rfl dX7_map_13 (fun σ13 h => ?_)
    refine j_aload_n C dX7_map_16 0 rfl ?_
    refine gf_X7_203 C dX7_map_17 ?_
    refine j_if_eq 32 C dX7_map_20 rfl h (fun h => ?_) (fun h => ?_)
    · refine j_sub (lv' := [(0, .ref (ad 0))]) [0] rfl ?_
      exact k32 _ h
    · refine j_iload_n C dX7_map_23 2 rfl ?_
      refine j_if_lt 32 C dX7_map_24 rfl h (fun h => ?_) (fun h => ?_)
      · refine j_sub (lv' := [(0, .ref (ad 0))]) [0] rfl ?_
        exact k32 _ h
      · refine j_iload_n C dX7_map_27 2 rfl ?_
        refine j_iconst (v := 4) C dX7_map_28 (by decide) ?_
        refine j_icmp_le 38 C dX7_map_29 rfl h (fun h => ?_) (fun h => ?_)
        · refine j_aload_n C dX7_map_38 0 rfl ?_
          refine gf_X7_225 C dX7_map_39 ?_
          refine j_if_ge 49 C dX7_map_42 rfl h (fun h => ?_) (fun h => ?_)
          · refine j_bipush (v := 100) C dX7_map_49 (by decide) ?_
            refine j_aload_n C dX7_map_51 0 rfl ?_
            refine gf_X7_29 C dX7_map_52 ?_
            refine j_aload_n C dX7_map_55 0 rfl ?_
            refine gf_X7_225 C dX7_map_56 ?_
            refine al_wM_7 C h.1 dX7_map_59 ?_
            replace h := h.2
            refine j_iconst (v := 1) C dX7_map_60 (by decide) ?_
            refine j_isub C dX7_map_61 ?_
            refine j_imul C dX7_map_62 ?_
            refine j_aload_n C dX7_map_63 0 rfl ?_
            refine gf_X7_225 C dX7_map_64 ?_
            refine j_iadd C dX7_map_67 ?_
            refine j_sub (lv' := [(0, .ref (ad 0)), (2, .int x2)]) [0, 2] rfl ?_
            exact k68 _ _ _ h
          · refine j_iconst (v := (-1)) C dX7_map_45 (by decide) ?_
            refine j_goto 68 C dX7_map_46 rfl ?_
            refine j_sub (lv' := [(0, .ref (ad 0)), (2, .int x2)]) [0, 2] rfl ?_
            exact k68 _ _ _ h
        · refine j_sub (lv' := [(0, .ref (ad 0))]) [0] rfl ?_
          exact k32 _ h
  · refine j_aload_n C dX7_map_4 0 rfl ?_
    refine j_iconst (v := (-1)) C dX7_map_5 (by decide) ?_
    refine j_calli 0 [.int ((-1))] [] C (kX7_answer_ok ((-1)) σ0 h) (tt_V ml_X7_90 mV_X7_answer) ok_X7_answer ⟨by decide, by decide⟩ rfl (r_wM_0 (σ := σ0)) (Nat.le_of_ble_eq_true rfl) rfl dX7_map_6 (fun r6 σ6 h => ?_)
    exact j_iret C dX7_map_9 h
def wX7_largest_b54 (X20 : Int32 → Prop) (x1 : Int32) (x2 : Int32) (t0 : Int32) (σ : SS) (Q : Int32 → SS → Prop) : Prop := wX7_named x1 x2 σ (fun r58 => (0 ≤ r58 → Q x2 σ) ∧ (¬ 0 ≤ r58 → wX7_freePages t0 σ (fun r66 => (r66 < 0 → X20 ((x2 + (-1)))) ∧ (¬ r66 < 0 → Q x2 σ))))
def wX7_largest_b20 (x1 : Int32) (x2 : Int32) (σ : SS) (Q : Int32 → SS → Prop) : Prop := lfp (fun (X20 : Int32 → Prop) (t : Int32) => (t < 0 → wX7_answer ((-6)) σ (fun r83 σ83 => Q r83 σ83)) ∧ (¬ t < 0 → vp_in x1 8 ∧ ((1 < (gA σ 3 x1.toNatClampNeg) → wX7_need x1 t σ (fun r41 => wX7_largest_b54 X20 x1 t ((((r41 + 1) + 64) - 1) / 64) σ Q)) ∧ (¬ 1 < (gA σ 3 x1.toNatClampNeg) → wX7_largest_b54 X20 x1 t 1 σ Q)))) x2
def wX7_largest (x1 : Int32) (σ : SS) (Q : Int32 → SS → Prop) : Prop := wX7_isZone x1 σ (fun r2 => (¬ r2 = 0 → wX7_most x1 σ (fun r16 => wX7_largest_b20 x1 r16 σ Q)) ∧ (r2 = 0 → wX7_answer ((-1)) σ (fun r10 σ10 => Q r10 σ10)))
set_option maxRecDepth 100000 in
set_option maxHeartbeats 4000000 in
theorem kX7_largest_ok {l : Launch} {D : va_G} {cI cJ cZ : ClassId} {ad : Nat → Nat} (x1 : Int32) (σ0 : SS) {Q : Int32 → SS → Prop} (h : wX7_largest x1 σ0 Q) : Ci l yX7_largest (.code yX7_largest cX7_largest 4 (some .int) :: TT) { frames := 3, cells := 0, slots := 0, locals := 70 } D (tys cI cJ cZ) (wM cI cJ cZ ad) [.ref (ad 0), .int x1] σ0 Q := by
  refine Ci.of (lv := [(0, .ref (ad 0)), (1, .int x1)]) (by decide) adM (Nat.le_of_ble_eq_true rfl) rfl ?_
  intro p e s m args below meth c A C
  have k54 : ∀ (x1 : Int32), ∀ (x2 : Int32), ∀ (t0 : Int32), ∀ (σ : SS), ∀ (X20 : Int32 → Prop), (∀ t : Int32, X20 t → J p l e { frames := 3, cells := 0, slots := 0, locals := 70 } s m args below meth c D (wM cI cJ cZ ad) A 4 (MQ below (va_Qi Q (WW D (tys cI cJ cZ) (wM cI cJ cZ ad)) A) args s 0 0 A) σ 20 [(0, .ref (ad 0)), (1, .int x1), (2, .int t)] []) → wX7_largest_b54 X20 x1 x2 t0 σ Q → J p l e { frames := 3, cells := 0, slots := 0, locals := 70 } s m args below meth c D (wM cI cJ cZ ad) A 4 (MQ below (va_Qi Q (WW D (tys cI cJ cZ) (wM cI cJ cZ ad)) A) args s 0 0 A) σ 54 [(0, .ref (ad 0)), (1, .int x1), (2, .int x2)] [.int t0] := by
    intro x1 x2 t0 σ X20 hX20 h
    refine j_istore_n (lv' := [(3, .int t0), (0, .ref (ad 0)), (1, .int x1), (2, .int x2)]) C dX7_largest_54 (by decide) rfl ?_
    refine j_aload_n C dX7_largest_55 1 rfl ?_
    refine j_iload_n C dX7_largest_56 2 rfl ?_
    refine j_iload_n C dX7_largest_57 3 rfl ?_
    refine j_callpi 0 [.int x1, .int x2] [] C (kX7_named_ok x1 x2 σ h) (tt_V ml_X7_131 mV_X7_named) ok_X7_named ⟨by decide, by decide⟩ rfl (r_wM_0 (σ := σ)) (Nat.le_of_ble_eq_true rfl) rfl dX7_largest_58 (fun r58 h => ?_)
    refine j_if_ge 72 C dX7_largest_61 rfl h (fun h => ?_) (fun h => ?_)
    · refine j_iload_n C dX7_largest_72 3 rfl ?_
      exact j_iret C dX7_largest_73 h
    · refine j_aload_n C dX7_largest_64 1 rfl ?_
      refine j_iload_n C dX7_largest_65 0 rfl ?_
      refine j_callpi 0 [.int t0] [] C (kX7_freePages_ok t0 σ h) (tt_V ml_X7_134 mV_X7_freePages) ok_X7_freePages ⟨by decide, by decide⟩ rfl (r_wM_0 (σ := σ)) (Nat.le_of_ble_eq_true rfl) rfl dX7_largest_66 (fun r66 h => ?_)
      refine j_if_lt 74 C dX7_largest_69 rfl h (fun h => ?_) (fun h => ?_)
      · refine j_iinc (lv' := [(2, .int (x2 + (-1))), (3, .int t0), (0, .ref (ad 0)), (1, .int x1)]) (x2 + (-1)) C dX7_largest_74 3 rfl rfl (by decide) rfl ?_
        refine j_goto 20 C dX7_largest_77 rfl ?_
        refine j_sub (lv' := [(0, .ref (ad 0)), (1, .int x1), (2, .int (x2 + (-1)))]) [2, 3, 0] rfl ?_
        exact hX20 _ h
      · refine j_iload_n C dX7_largest_72 3 rfl ?_
        exact j_iret C dX7_largest_73 h
  have k20 : ∀ (x1 : Int32), ∀ (x2 : Int32), ∀ (σ : SS), wX7_largest_b20 x1 x2 σ Q → J p l e { frames := 3, cells := 0, slots := 0, locals := 70 } s m args below meth c D (wM cI cJ cZ ad) A 4 (MQ below (va_Qi Q (WW D (tys cI cJ cZ) (wM cI cJ cZ ad)) A) args s 0 0 A) σ 20 [(0, .ref (ad 0)), (1, .int x1), (2, .int x2)] [] := by
    intro x1 x2 σ h
    refine h (fun t => J p l e { frames := 3, cells := 0, slots := 0, locals := 70 } s m args below meth c D (wM cI cJ cZ ad) A 4 (MQ below (va_Qi Q (WW D (tys cI cJ cZ) (wM cI cJ cZ ad)) A) args s 0 0 A) σ 20 [(0, .ref (ad 0)), (1, .int x1), (2, .int t)] []) (fun t h => ?_)
    obtain ⟨x2, rfl⟩ : ∃ z, z = t := ⟨_, rfl⟩
    try dsimp only at h
    refine j_iload_n C dX7_largest_20 2 rfl ?_
    refine j_if_lt 80 C dX7_largest_21 rfl h (fun h => ?_) (fun h => ?_)
    · refine j_aload_n C dX7_largest_80 0 rfl ?_
      refine j_bipush (v := (-6)) C dX7_largest_81 (by decide) ?_
      refine j_calli 0 [.int ((-6))] [] C (kX7_answer_ok ((-6)) σ h) (tt_V ml_X7_90 mV_X7_answer) ok_X7_answer ⟨by decide, by decide⟩ rfl (r_wM_0 (σ := σ)) (Nat.le_of_ble_eq_true rfl) rfl dX7_largest_83 (fun r83 σ83 h => ?_)
      exact j_iret C dX7_largest_86 h
    · refine j_aload_n C dX7_largest_24 0 rfl ?_
      refine gf_X7_23 C dX7_largest_25 ?_
      refine j_iload_n C dX7_largest_28 1 rfl ?_
      refine al_wM_5 C h.1 dX7_largest_29 ?_
      replace h := h.2
      refine j_iconst (v := 1) C dX7_largest_30 (by decide) ?_
      refine j_icmp_gt 38 C dX7_largest_31 rfl h (fun h => ?_) (fun h => ?_)
      · refine j_aload_n C dX7_largest_38 0 rfl ?_
        refine j_iload_n C dX7_largest_39 1 rfl ?_
        refine j_iload_n C dX7_largest_40 2 rfl ?_
        refine j_callpi 0 [.int x1, .int x2] [] C (kX7_need_ok x1 x2 σ h) (tt_V ml_X7_117 mV_X7_need) ok_X7_need ⟨by decide, by decide⟩ rfl (r_wM_0 (σ := σ)) (Nat.le_of_ble_eq_true rfl) rfl dX7_largest_41 (fun r41 h => ?_)
        refine j_iconst (v := 1) C dX7_largest_44 (by decide) ?_
        refine j_iadd C dX7_largest_45 ?_
        refine j_bipush (v := 64) C dX7_largest_46 (by decide) ?_
        refine j_iadd C dX7_largest_48 ?_
        refine j_iconst (v := 1) C dX7_largest_49 (by decide) ?_
        refine j_isub C dX7_largest_50 ?_
        refine j_bipush (v := 64) C dX7_largest_51 (by decide) ?_
        refine j_idiv C dX7_largest_53 (by decide) ?_
        refine j_sub (lv' := [(0, .ref (ad 0)), (1, .int x1), (2, .int x2)]) [0, 1, 2] rfl ?_
        exact k54 _ _ _ _ _ (fun _ z => z) h
      · refine j_iconst (v := 1) C dX7_largest_34 (by decide) ?_
        refine j_goto 54 C dX7_largest_35 rfl ?_
        refine j_sub (lv' := [(0, .ref (ad 0)), (1, .int x1), (2, .int x2)]) [0, 1, 2] rfl ?_
        exact k54 _ _ _ _ _ (fun _ z => z) h
  refine j_aload_n C dX7_largest_0 0 rfl ?_
  refine j_iload_n C dX7_largest_1 1 rfl ?_
  refine j_callpi 0 [.int x1] [] C (kX7_isZone_ok x1 σ0 h) (tt_V ml_X7_166 mV_X7_isZone) ok_X7_isZone ⟨by decide, by decide⟩ rfl (r_wM_0 (σ := σ0)) (Nat.le_of_ble_eq_true rfl) rfl dX7_largest_2 (fun r2 h => ?_)
  refine j_if_ne 14 C dX7_largest_5 rfl h (fun h => ?_) (fun h => ?_)
  · refine j_aload_n C dX7_largest_14 0 rfl ?_
    refine j_iload_n C dX7_largest_15 1 rfl ?_
    refine j_callpi 0 [.int x1] [] C (kX7_most_ok x1 σ0 h) (tt_V ml_X7_169 mV_X7_most) ok_X7_most ⟨by decide, by decide⟩ rfl (r_wM_0 (σ := σ0)) (Nat.le_of_ble_eq_true rfl) rfl dX7_largest_16 (fun r16 h => ?_)
    refine j_istore_n (lv' := [(2, .int r16), (0, .ref (ad 0)), (1, .int x1)]) C dX7_largest_19 (by decide) rfl ?_
    refine j_sub (lv' := [(0, .ref (ad 0)), (1, .int x1), (2, .int r16)]) [1, 2, 0] rfl ?_
    exact k20 _ _ _ h
  · refine j_aload_n C dX7_largest_8 0 rfl ?_
    refine j_iconst (v := (-1)) C dX7_largest_9 (by decide) ?_
    refine j_calli 0 [.int ((-1))] [] C (kX7_answer_ok ((-1)) σ0 h) (tt_V ml_X7_90 mV_X7_answer) ok_X7_answer ⟨by decide, by decide⟩ rfl (r_wM_0 (σ := σ0)) (Nat.le_of_ble_eq_true rfl) rfl dX7_largest_10 (fun r10 σ10 h => ?_)
    exact j_iret C dX7_largest_13 h
def wX7_told_b164 (X131 : Int32 × Int32 → Prop) (x1 : Int32) (x2 : Int32) (x4 : Int32) (t0 : Int32) (t1 : Int32) (σ : SS) (Q : Int32 → SS → Prop) : Prop := X131 ((t1 + t0), (x4 + 1))
def wX7_told_b131 (x1 : Int32) (x2 : Int32) (x3 : Int32) (x4 : Int32) (σ : SS) (Q : Int32 → SS → Prop) : Prop := lfp (fun (X131 : Int32 × Int32 → Prop) (t : Int32 × Int32) => ((64 * (gI σ 0)) ≤ t.2 → Q t.1 σ) ∧ (¬ (64 * (gI σ 0)) ≤ t.2 → (¬ x2 = 3 → Q t.1 σ) ∧ (x2 = 3 → wX7_isFreeAt t.2 x1 σ (fun r153 => (r153 = 0 → wX7_told_b164 X131 x1 x2 t.2 0 t.1 σ Q) ∧ (¬ r153 = 0 → wX7_told_b164 X131 x1 x2 t.2 1 t.1 σ Q))))) (x3, x4)
def wX7_told_b128 (x1 : Int32) (x2 : Int32) (x3 : Int32) (σ : SS) (Q : Int32 → SS → Prop) : Prop := wX7_told_b131 x1 x2 x3 0 σ Q
def wX7_told_b120 (X81 : Int32 × Int32 → Prop) (x1 : Int32) (x2 : Int32) (x4 : Int32) (t0 : Int32) (t1 : Int32) (σ : SS) (Q : Int32 → SS → Prop) : Prop := X81 ((t1 + t0), (x4 + 1))
def wX7_told_b119 (X81 : Int32 × Int32 → Prop) (x1 : Int32) (x2 : Int32) (x4 : Int32) (t0 : Int32) (σ : SS) (Q : Int32 → SS → Prop) : Prop := wX7_told_b120 X81 x1 x2 x4 0 t0 σ Q
def wX7_told_b81 (x1 : Int32) (x2 : Int32) (x3 : Int32) (x4 : Int32) (σ : SS) (Q : Int32 → SS → Prop) : Prop := lfp (fun (X81 : Int32 × Int32 → Prop) (t : Int32 × Int32) => (100 ≤ t.2 → wX7_told_b128 x1 x2 t.1 σ Q) ∧ (¬ 100 ≤ t.2 → (¬ x2 = 2 → wX7_told_b128 x1 x2 t.1 σ Q) ∧ (x2 = 2 → vp_in t.2 100 ∧ (((gA σ 5 t.2.toNatClampNeg) = 0 → wX7_told_b119 X81 x1 x2 t.2 t.1 σ Q) ∧ (¬ (gA σ 5 t.2.toNatClampNeg) = 0 → vp_in t.2 100 ∧ ((¬ (gA σ 7 t.2.toNatClampNeg) = x1 → wX7_told_b119 X81 x1 x2 t.2 t.1 σ Q) ∧ ((gA σ 7 t.2.toNatClampNeg) = x1 → wX7_told_b120 X81 x1 x2 t.2 1 t.1 σ Q))))))) (x3, x4)
def wX7_told_b78 (x1 : Int32) (x2 : Int32) (x3 : Int32) (σ : SS) (Q : Int32 → SS → Prop) : Prop := wX7_told_b81 x1 x2 x3 0 σ Q
def wX7_told_b70 (X39 : Int32 × Int32 → Prop) (x1 : Int32) (x2 : Int32) (x4 : Int32) (t0 : Int32) (t1 : Int32) (σ : SS) (Q : Int32 → SS → Prop) : Prop := X39 ((t1 + t0), (x4 + 1))
def wX7_told_b39 (x1 : Int32) (x2 : Int32) (x3 : Int32) (x4 : Int32) (σ : SS) (Q : Int32 → SS → Prop) : Prop := lfp (fun (X39 : Int32 × Int32 → Prop) (t : Int32 × Int32) => ((gI σ 0) ≤ t.2 → wX7_told_b78 x1 x2 t.1 σ Q) ∧ (¬ (gI σ 0) ≤ t.2 → (¬ x2 = 1 → wX7_told_b78 x1 x2 t.1 σ Q) ∧ (x2 = 1 → vp_in t.2 40 ∧ ((¬ (gA σ 0 t.2.toNatClampNeg) = x1 → wX7_told_b70 X39 x1 x2 t.2 0 t.1 σ Q) ∧ ((gA σ 0 t.2.toNatClampNeg) = x1 → wX7_told_b70 X39 x1 x2 t.2 1 t.1 σ Q))))) (x3, x4)
def wX7_told_b17 (σ : SS) (Q : Int32 → SS → Prop) : Prop := wX7_answer ((-1)) σ (fun r19 σ19 => Q r19 σ19)
def wX7_told (x1 : Int32) (x2 : Int32) (σ : SS) (Q : Int32 → SS → Prop) : Prop := wX7_isZone x1 σ (fun r2 => (r2 = 0 → wX7_told_b17 σ Q) ∧ (¬ r2 = 0 → (x2 < 0 → wX7_told_b17 σ Q) ∧ (¬ x2 < 0 → (x2 ≤ 3 → (¬ x2 = 0 → wX7_told_b39 x1 x2 0 0 σ Q) ∧ (x2 = 0 → vp_in x1 8 ∧ (Q (gA σ 3 x1.toNatClampNeg) σ))) ∧ (¬ x2 ≤ 3 → wX7_told_b17 σ Q))))
set_option maxRecDepth 100000 in
set_option maxHeartbeats 4000000 in
theorem kX7_told_ok {l : Launch} {D : va_G} {cI cJ cZ : ClassId} {ad : Nat → Nat} (x1 : Int32) (x2 : Int32) (σ0 : SS) {Q : Int32 → SS → Prop} (h : wX7_told x1 x2 σ0 Q) : Ci l yX7_told (.code yX7_told cX7_told 5 (some .int) :: TT) { frames := 2, cells := 0, slots := 0, locals := 44 } D (tys cI cJ cZ) (wM cI cJ cZ ad) [.ref (ad 0), .int x1, .int x2] σ0 Q := by
  refine Ci.of (lv := [(0, .ref (ad 0)), (1, .int x1), (2, .int x2)]) (by decide) adM (Nat.le_of_ble_eq_true rfl) rfl ?_
  intro p e s m args below meth c A C
  have k164 : ∀ (x1 : Int32), ∀ (x2 : Int32), ∀ (x4 : Int32), ∀ (t0 : Int32), ∀ (t1 : Int32), ∀ (σ : SS), ∀ (X131 : Int32 × Int32 → Prop), (∀ t : Int32 × Int32, X131 t → J p l e { frames := 2, cells := 0, slots := 0, locals := 44 } s m args below meth c D (wM cI cJ cZ ad) A 5 (MQ below (va_Qi Q (WW D (tys cI cJ cZ) (wM cI cJ cZ ad)) A) args s 0 0 A) σ 131 [(0, .ref (ad 0)), (1, .int x1), (2, .int x2), (3, .int t.1), (4, .int t.2)] []) → wX7_told_b164 X131 x1 x2 x4 t0 t1 σ Q → J p l e { frames := 2, cells := 0, slots := 0, locals := 44 } s m args below meth c D (wM cI cJ cZ ad) A 5 (MQ below (va_Qi Q (WW D (tys cI cJ cZ) (wM cI cJ cZ ad)) A) args s 0 0 A) σ 164 [(0, .ref (ad 0)), (1, .int x1), (2, .int x2), (4, .int x4)] [.int t0, .int t1] := by
    intro x1 x2 x4 t0 t1 σ X131 hX131 h
    refine j_iadd C dX7_told_164 ?_
    refine j_istore_n (lv' := [(3, .int (t1 + t0)), (0, .ref (ad 0)), (1, .int x1), (2, .int x2), (4, .int x4)]) C dX7_told_165 (by decide) rfl ?_
    refine j_iinc (lv' := [(4, .int (x4 + 1)), (3, .int (t1 + t0)), (0, .ref (ad 0)), (1, .int x1), (2, .int x2)]) (x4 + 1) C dX7_told_166 4 rfl rfl (by decide) rfl ?_
    refine j_goto 131 C dX7_told_169 rfl ?_
    refine j_sub (lv' := [(0, .ref (ad 0)), (1, .int x1), (2, .int x2), (3, .int (t1 + t0)), (4, .int (x4 + 1))]) [2, 3, 4, 1, 0] rfl ?_
    exact hX131 _ h
  have k131 : ∀ (x1 : Int32), ∀ (x2 : Int32), ∀ (x3 : Int32), ∀ (x4 : Int32), ∀ (σ : SS), wX7_told_b131 x1 x2 x3 x4 σ Q → J p l e { frames := 2, cells := 0, slots := 0, locals := 44 } s m args below meth c D (wM cI cJ cZ ad) A 5 (MQ below (va_Qi Q (WW D (tys cI cJ cZ) (wM cI cJ cZ ad)) A) args s 0 0 A) σ 131 [(0, .ref (ad 0)), (1, .int x1), (2, .int x2), (3, .int x3), (4, .int x4)] [] := by
    intro x1 x2 x3 x4 σ h
    refine h (fun t => J p l e { frames := 2, cells := 0, slots := 0, locals := 44 } s m args below meth c D (wM cI cJ cZ ad) A 5 (MQ below (va_Qi Q (WW D (tys cI cJ cZ) (wM cI cJ cZ ad)) A) args s 0 0 A) σ 131 [(0, .ref (ad 0)), (1, .int x1), (2, .int x2), (3, .int t.1), (4, .int t.2)] []) (fun t h => ?_)
    obtain ⟨x3, x4⟩ := t
    try dsimp only at h
    refine j_iload C dX7_told_131 4 rfl ?_
    refine j_bipush (v := 64) C dX7_told_133 (by decide) ?_
    refine j_aload_n C dX7_told_135 0 rfl ?_
    refine gf_X7_94 C dX7_told_136 ?_
    refine j_imul C dX7_told_139 ?_
    refine j_icmp_ge 172 C dX7_told_140 rfl h (fun h => ?_) (fun h => ?_)
    · refine j_iload_n C dX7_told_172 3 rfl ?_
      exact j_iret C dX7_told_173 h
    · refine j_iload_n C dX7_told_143 2 rfl ?_
      refine j_iconst (v := 3) C dX7_told_144 (by decide) ?_
      refine j_icmp_ne 172 C dX7_told_145 rfl h (fun h => ?_) (fun h => ?_)
      · refine j_iload_n C dX7_told_172 3 rfl ?_
        exact j_iret C dX7_told_173 h
      · refine j_iload_n C dX7_told_148 3 rfl ?_
        refine j_aload_n C dX7_told_149 0 rfl ?_
        refine j_iload C dX7_told_150 4 rfl ?_
        refine j_iload_n C dX7_told_152 1 rfl ?_
        refine j_callpi 0 [.int x4, .int x1] [.int x3] C (kX7_isFreeAt_ok x4 x1 σ h) (tt_V ml_X7_121 mV_X7_isFreeAt) ok_X7_isFreeAt ⟨by decide, by decide⟩ rfl (r_wM_0 (σ := σ)) (Nat.le_of_ble_eq_true rfl) rfl dX7_told_153 (fun r153 h => ?_)
        refine j_if_eq 163 C dX7_told_156 rfl h (fun h => ?_) (fun h => ?_)
        · refine j_iconst (v := 0) C dX7_told_163 (by decide) ?_
          refine j_sub (lv' := [(0, .ref (ad 0)), (1, .int x1), (2, .int x2), (4, .int x4)]) [0, 1, 2, 4] rfl ?_
          exact k164 _ _ _ _ _ _ _ (fun _ z => z) h
        · refine j_iconst (v := 1) C dX7_told_159 (by decide) ?_
          refine j_goto 164 C dX7_told_160 rfl ?_
          refine j_sub (lv' := [(0, .ref (ad 0)), (1, .int x1), (2, .int x2), (4, .int x4)]) [0, 1, 2, 4] rfl ?_
          exact k164 _ _ _ _ _ _ _ (fun _ z => z) h
  have k128 : ∀ (x1 : Int32), ∀ (x2 : Int32), ∀ (x3 : Int32), ∀ (σ : SS), wX7_told_b128 x1 x2 x3 σ Q → J p l e { frames := 2, cells := 0, slots := 0, locals := 44 } s m args below meth c D (wM cI cJ cZ ad) A 5 (MQ below (va_Qi Q (WW D (tys cI cJ cZ) (wM cI cJ cZ ad)) A) args s 0 0 A) σ 128 [(0, .ref (ad 0)), (1, .int x1), (2, .int x2), (3, .int x3)] [] := by
    intro x1 x2 x3 σ h
    refine j_iconst (v := 0) C dX7_told_128 (by decide) ?_
    refine j_istore (lv' := [(4, .int 0), (0, .ref (ad 0)), (1, .int x1), (2, .int x2), (3, .int x3)]) C dX7_told_129 (by decide) rfl ?_
    refine j_sub (lv' := [(0, .ref (ad 0)), (1, .int x1), (2, .int x2), (3, .int x3), (4, .int 0)]) [1, 2, 3, 4, 0] rfl ?_
    exact k131 _ _ _ _ _ h
  have k120 : ∀ (x1 : Int32), ∀ (x2 : Int32), ∀ (x4 : Int32), ∀ (t0 : Int32), ∀ (t1 : Int32), ∀ (σ : SS), ∀ (X81 : Int32 × Int32 → Prop), (∀ t : Int32 × Int32, X81 t → J p l e { frames := 2, cells := 0, slots := 0, locals := 44 } s m args below meth c D (wM cI cJ cZ ad) A 5 (MQ below (va_Qi Q (WW D (tys cI cJ cZ) (wM cI cJ cZ ad)) A) args s 0 0 A) σ 81 [(0, .ref (ad 0)), (1, .int x1), (2, .int x2), (3, .int t.1), (4, .int t.2)] []) → wX7_told_b120 X81 x1 x2 x4 t0 t1 σ Q → J p l e { frames := 2, cells := 0, slots := 0, locals := 44 } s m args below meth c D (wM cI cJ cZ ad) A 5 (MQ below (va_Qi Q (WW D (tys cI cJ cZ) (wM cI cJ cZ ad)) A) args s 0 0 A) σ 120 [(0, .ref (ad 0)), (1, .int x1), (2, .int x2), (4, .int x4)] [.int t0, .int t1] := by
    intro x1 x2 x4 t0 t1 σ X81 hX81 h
    refine j_iadd C dX7_told_120 ?_
    refine j_istore_n (lv' := [(3, .int (t1 + t0)), (0, .ref (ad 0)), (1, .int x1), (2, .int x2), (4, .int x4)]) C dX7_told_121 (by decide) rfl ?_
    refine j_iinc (lv' := [(4, .int (x4 + 1)), (3, .int (t1 + t0)), (0, .ref (ad 0)), (1, .int x1), (2, .int x2)]) (x4 + 1) C dX7_told_122 4 rfl rfl (by decide) rfl ?_
    refine j_goto 81 C dX7_told_125 rfl ?_
    refine j_sub (lv' := [(0, .ref (ad 0)), (1, .int x1), (2, .int x2), (3, .int (t1 + t0)), (4, .int (x4 + 1))]) [2, 3, 4, 1, 0] rfl ?_
    exact hX81 _ h
  have k119 : ∀ (x1 : Int32), ∀ (x2 : Int32), ∀ (x4 : Int32), ∀ (t0 : Int32), ∀ (σ : SS), ∀ (X81 : Int32 × Int32 → Prop), (∀ t : Int32 × Int32, X81 t → J p l e { frames := 2, cells := 0, slots := 0, locals := 44 } s m args below meth c D (wM cI cJ cZ ad) A 5 (MQ below (va_Qi Q (WW D (tys cI cJ cZ) (wM cI cJ cZ ad)) A) args s 0 0 A) σ 81 [(0, .ref (ad 0)), (1, .int x1), (2, .int x2), (3, .int t.1), (4, .int t.2)] []) → wX7_told_b119 X81 x1 x2 x4 t0 σ Q → J p l e { frames := 2, cells := 0, slots := 0, locals := 44 } s m args below meth c D (wM cI cJ cZ ad) A 5 (MQ below (va_Qi Q (WW D (tys cI cJ cZ) (wM cI cJ cZ ad)) A) args s 0 0 A) σ 119 [(0, .ref (ad 0)), (1, .int x1), (2, .int x2), (4, .int x4)] [.int t0] := by
    intro x1 x2 x4 t0 σ X81 hX81 h
    refine j_iconst (v := 0) C dX7_told_119 (by decide) ?_
    refine j_sub (lv' := [(0, .ref (ad 0)), (1, .int x1), (2, .int x2), (4, .int x4)]) [0, 1, 2, 3] rfl ?_
    exact k120 _ _ _ _ _ _ _ hX81 h
  have k81 : ∀ (x1 : Int32), ∀ (x2 : Int32), ∀ (x3 : Int32), ∀ (x4 : Int32), ∀ (σ : SS), wX7_told_b81 x1 x2 x3 x4 σ Q → J p l e { frames := 2, cells := 0, slots := 0, locals := 44 } s m args below meth c D (wM cI cJ cZ ad) A 5 (MQ below (va_Qi Q (WW D (tys cI cJ cZ) (wM cI cJ cZ ad)) A) args s 0 0 A) σ 81 [(0, .ref (ad 0)), (1, .int x1), (2, .int x2), (3, .int x3), (4, .int x4)] [] := by
    intro x1 x2 x3 x4 σ h
    refine h (fun t => J p l e { frames := 2, cells := 0, slots := 0, locals := 44 } s m args below meth c D (wM cI cJ cZ ad) A 5 (MQ below (va_Qi Q (WW D (tys cI cJ cZ) (wM cI cJ cZ ad)) A) args s 0 0 A) σ 81 [(0, .ref (ad 0)), (1, .int x1), (2, .int x2), (3, .int t.1), (4, .int t.2)] []) (fun t h => ?_)
    obtain ⟨x3, x4⟩ := t
    try dsimp only at h
    refine j_iload C dX7_told_81 4 rfl ?_
    refine j_bipush (v := 100) C dX7_told_83 (by decide) ?_
    refine j_icmp_ge 128 C dX7_told_85 rfl h (fun h => ?_) (fun h => ?_)
    · refine j_sub (lv' := [(0, .ref (ad 0)), (1, .int x1), (2, .int x2), (3, .int x3)]) [0, 1, 2, 3] rfl ?_
      exact k128 _ _ _ _ h
    · refine j_iload_n C dX7_told_88 2 rfl ?_
      refine j_iconst (v := 2) C dX7_told_89 (by decide) ?_
      refine j_icmp_ne 128 C dX7_told_90 rfl h (fun h => ?_) (fun h => ?_)
      · refine j_sub (lv' := [(0, .ref (ad 0)), (1, .int x1), (2, .int x2), (3, .int x3)]) [0, 1, 2, 3] rfl ?_
        exact k128 _ _ _ _ h
      · refine j_iload_n C dX7_told_93 3 rfl ?_
        refine j_aload_n C dX7_told_94 0 rfl ?_
        refine gf_X7_32 C dX7_told_95 ?_
        refine j_iload C dX7_told_98 4 rfl ?_
        refine al_wM_8 C h.1 dX7_told_100 ?_
        replace h := h.2
        refine j_if_eq 119 C dX7_told_101 rfl h (fun h => ?_) (fun h => ?_)
        · refine j_sub (lv' := [(0, .ref (ad 0)), (1, .int x1), (2, .int x2), (4, .int x4)]) [0, 1, 2, 4] rfl ?_
          exact k119 _ _ _ _ _ _ (fun _ z => z) h
        · refine j_aload_n C dX7_told_104 0 rfl ?_
          refine gf_X7_39 C dX7_told_105 ?_
          refine j_iload C dX7_told_108 4 rfl ?_
          refine al_wM_10 C h.1 dX7_told_110 ?_
          replace h := h.2
          refine j_iload_n C dX7_told_111 1 rfl ?_
          refine j_icmp_ne 119 C dX7_told_112 rfl h (fun h => ?_) (fun h => ?_)
          · refine j_sub (lv' := [(0, .ref (ad 0)), (1, .int x1), (2, .int x2), (4, .int x4)]) [0, 1, 2, 4] rfl ?_
            exact k119 _ _ _ _ _ _ (fun _ z => z) h
          · refine j_iconst (v := 1) C dX7_told_115 (by decide) ?_
            refine j_goto 120 C dX7_told_116 rfl ?_
            refine j_sub (lv' := [(0, .ref (ad 0)), (1, .int x1), (2, .int x2), (4, .int x4)]) [0, 1, 2, 4] rfl ?_
            exact k120 _ _ _ _ _ _ _ (fun _ z => z) h
  have k78 : ∀ (x1 : Int32), ∀ (x2 : Int32), ∀ (x3 : Int32), ∀ (σ : SS), wX7_told_b78 x1 x2 x3 σ Q → J p l e { frames := 2, cells := 0, slots := 0, locals := 44 } s m args below meth c D (wM cI cJ cZ ad) A 5 (MQ below (va_Qi Q (WW D (tys cI cJ cZ) (wM cI cJ cZ ad)) A) args s 0 0 A) σ 78 [(0, .ref (ad 0)), (1, .int x1), (2, .int x2), (3, .int x3)] [] := by
    intro x1 x2 x3 σ h
    refine j_iconst (v := 0) C dX7_told_78 (by decide) ?_
    refine j_istore (lv' := [(4, .int 0), (0, .ref (ad 0)), (1, .int x1), (2, .int x2), (3, .int x3)]) C dX7_told_79 (by decide) rfl ?_
    refine j_sub (lv' := [(0, .ref (ad 0)), (1, .int x1), (2, .int x2), (3, .int x3), (4, .int 0)]) [1, 2, 3, 4, 0] rfl ?_
    exact k81 _ _ _ _ _ h
  have k70 : ∀ (x1 : Int32), ∀ (x2 : Int32), ∀ (x4 : Int32), ∀ (t0 : Int32), ∀ (t1 : Int32), ∀ (σ : SS), ∀ (X39 : Int32 × Int32 → Prop), (∀ t : Int32 × Int32, X39 t → J p l e { frames := 2, cells := 0, slots := 0, locals := 44 } s m args below meth c D (wM cI cJ cZ ad) A 5 (MQ below (va_Qi Q (WW D (tys cI cJ cZ) (wM cI cJ cZ ad)) A) args s 0 0 A) σ 39 [(0, .ref (ad 0)), (1, .int x1), (2, .int x2), (3, .int t.1), (4, .int t.2)] []) → wX7_told_b70 X39 x1 x2 x4 t0 t1 σ Q → J p l e { frames := 2, cells := 0, slots := 0, locals := 44 } s m args below meth c D (wM cI cJ cZ ad) A 5 (MQ below (va_Qi Q (WW D (tys cI cJ cZ) (wM cI cJ cZ ad)) A) args s 0 0 A) σ 70 [(0, .ref (ad 0)), (1, .int x1), (2, .int x2), (4, .int x4)] [.int t0, .int t1] := by
    intro x1 x2 x4 t0 t1 σ X39 hX39 h
    refine j_iadd C dX7_told_70 ?_
    refine j_istore_n (lv' := [(3, .int (t1 + t0)), (0, .ref (ad 0)), (1, .int x1), (2, .int x2), (4, .int x4)]) C dX7_told_71 (by decide) rfl ?_
    refine j_iinc (lv' := [(4, .int (x4 + 1)), (3, .int (t1 + t0)), (0, .ref (ad 0)), (1, .int x1), (2, .int x2)]) (x4 + 1) C dX7_told_72 4 rfl rfl (by decide) rfl ?_
    refine j_goto 39 C dX7_told_75 rfl ?_
    refine j_sub (lv' := [(0, .ref (ad 0)), (1, .int x1), (2, .int x2), (3, .int (t1 + t0)), (4, .int (x4 + 1))]) [2, 3, 4, 1, 0] rfl ?_
    exact hX39 _ h
  have k39 : ∀ (x1 : Int32), ∀ (x2 : Int32), ∀ (x3 : Int32), ∀ (x4 : Int32), ∀ (σ : SS), wX7_told_b39 x1 x2 x3 x4 σ Q → J p l e { frames := 2, cells := 0, slots := 0, locals := 44 } s m args below meth c D (wM cI cJ cZ ad) A 5 (MQ below (va_Qi Q (WW D (tys cI cJ cZ) (wM cI cJ cZ ad)) A) args s 0 0 A) σ 39 [(0, .ref (ad 0)), (1, .int x1), (2, .int x2), (3, .int x3), (4, .int x4)] [] := by
    intro x1 x2 x3 x4 σ h
    refine h (fun t => J p l e { frames := 2, cells := 0, slots := 0, locals := 44 } s m args below meth c D (wM cI cJ cZ ad) A 5 (MQ below (va_Qi Q (WW D (tys cI cJ cZ) (wM cI cJ cZ ad)) A) args s 0 0 A) σ 39 [(0, .ref (ad 0)), (1, .int x1), (2, .int x2), (3, .int t.1), (4, .int t.2)] []) (fun t h => ?_)
    obtain ⟨x3, x4⟩ := t
    try dsimp only at h
    refine j_iload C dX7_told_39 4 rfl ?_
    refine j_aload_n C dX7_told_41 0 rfl ?_
    refine gf_X7_94 C dX7_told_42 ?_
    refine j_icmp_ge 78 C dX7_told_45 rfl h (fun h => ?_) (fun h => ?_)
    · refine j_sub (lv' := [(0, .ref (ad 0)), (1, .int x1), (2, .int x2), (3, .int x3)]) [0, 1, 2, 3] rfl ?_
      exact k78 _ _ _ _ h
    · refine j_iload_n C dX7_told_48 2 rfl ?_
      refine j_iconst (v := 1) C dX7_told_49 (by decide) ?_
      refine j_icmp_ne 78 C dX7_told_50 rfl h (fun h => ?_) (fun h => ?_)
      · refine j_sub (lv' := [(0, .ref (ad 0)), (1, .int x1), (2, .int x2), (3, .int x3)]) [0, 1, 2, 3] rfl ?_
        exact k78 _ _ _ _ h
      · refine j_iload_n C dX7_told_53 3 rfl ?_
        refine j_aload_n C dX7_told_54 0 rfl ?_
        refine gf_X7_9 C dX7_told_55 ?_
        refine j_iload C dX7_told_58 4 rfl ?_
        refine al_wM_1 C h.1 dX7_told_60 ?_
        replace h := h.2
        refine j_iload_n C dX7_told_61 1 rfl ?_
        refine j_icmp_ne 69 C dX7_told_62 rfl h (fun h => ?_) (fun h => ?_)
        · refine j_iconst (v := 0) C dX7_told_69 (by decide) ?_
          refine j_sub (lv' := [(0, .ref (ad 0)), (1, .int x1), (2, .int x2), (4, .int x4)]) [0, 1, 2, 4] rfl ?_
          exact k70 _ _ _ _ _ _ _ (fun _ z => z) h
        · refine j_iconst (v := 1) C dX7_told_65 (by decide) ?_
          refine j_goto 70 C dX7_told_66 rfl ?_
          refine j_sub (lv' := [(0, .ref (ad 0)), (1, .int x1), (2, .int x2), (4, .int x4)]) [0, 1, 2, 4] rfl ?_
          exact k70 _ _ _ _ _ _ _ (fun _ z => z) h
  have k17 : ∀ (σ : SS), wX7_told_b17 σ Q → J p l e { frames := 2, cells := 0, slots := 0, locals := 44 } s m args below meth c D (wM cI cJ cZ ad) A 5 (MQ below (va_Qi Q (WW D (tys cI cJ cZ) (wM cI cJ cZ ad)) A) args s 0 0 A) σ 17 [(0, .ref (ad 0))] [] := by
    intro σ h
    refine j_aload_n C dX7_told_17 0 rfl ?_
    refine j_iconst (v := (-1)) C dX7_told_18 (by decide) ?_
    refine j_calli 0 [.int ((-1))] [] C (kX7_answer_ok ((-1)) σ h) (tt_V ml_X7_90 mV_X7_answer) ok_X7_answer ⟨by decide, by decide⟩ rfl (r_wM_0 (σ := σ)) (Nat.le_of_ble_eq_true rfl) rfl dX7_told_19 (fun r19 σ19 h => ?_)
    exact j_iret C dX7_told_22 h
  refine j_aload_n C dX7_told_0 0 rfl ?_
  refine j_iload_n C dX7_told_1 1 rfl ?_
  refine j_callpi 0 [.int x1] [] C (kX7_isZone_ok x1 σ0 h) (tt_V ml_X7_166 mV_X7_isZone) ok_X7_isZone ⟨by decide, by decide⟩ rfl (r_wM_0 (σ := σ0)) (Nat.le_of_ble_eq_true rfl) rfl dX7_told_2 (fun r2 h => ?_)
  refine j_if_eq 17 C dX7_told_5 rfl h (fun h => ?_) (fun h => ?_)
  · refine j_sub (lv' := [(0, .ref (ad 0))]) [0] rfl ?_
    exact k17 _ h
  · refine j_iload_n C dX7_told_8 2 rfl ?_
    refine j_if_lt 17 C dX7_told_9 rfl h (fun h => ?_) (fun h => ?_)
    · refine j_sub (lv' := [(0, .ref (ad 0))]) [0] rfl ?_
      exact k17 _ h
    · refine j_iload_n C dX7_told_12 2 rfl ?_
      refine j_iconst (v := 3) C dX7_told_13 (by decide) ?_
      refine j_icmp_le 23 C dX7_told_14 rfl h (fun h => ?_) (fun h => ?_)
      · refine j_iload_n C dX7_told_23 2 rfl ?_
        refine j_if_ne 34 C dX7_told_24 rfl h (fun h => ?_) (fun h => ?_)
        · refine j_iconst (v := 0) C dX7_told_34 (by decide) ?_
          refine j_istore_n (lv' := [(3, .int 0), (0, .ref (ad 0)), (1, .int x1), (2, .int x2)]) C dX7_told_35 (by decide) rfl ?_
          refine j_iconst (v := 0) C dX7_told_36 (by decide) ?_
          refine j_istore (lv' := [(4, .int 0), (3, .int 0), (0, .ref (ad 0)), (1, .int x1), (2, .int x2)]) C dX7_told_37 (by decide) rfl ?_
          refine j_sub (lv' := [(0, .ref (ad 0)), (1, .int x1), (2, .int x2), (3, .int 0), (4, .int 0)]) [2, 3, 4, 1, 0] rfl ?_
          exact k39 _ _ _ _ _ h
        · refine j_aload_n C dX7_told_27 0 rfl ?_
          refine gf_X7_23 C dX7_told_28 ?_
          refine j_iload_n C dX7_told_31 1 rfl ?_
          refine al_wM_5 C h.1 dX7_told_32 ?_
          replace h := h.2
          exact j_iret C dX7_told_33 h
      · refine j_sub (lv' := [(0, .ref (ad 0))]) [0] rfl ?_
        exact k17 _ h
def wX7_count_b67 (X43 : Int32 × Int32 → Prop) (x3 : Int32) (t0 : Int32) (t1 : Int32) (σ : SS) (Q : Int32 → SS → Prop) : Prop := X43 ((t1 + t0), (x3 + 1))
def wX7_count_b43 (x2 : Int32) (x3 : Int32) (σ : SS) (Q : Int32 → SS → Prop) : Prop := lfp (fun (X43 : Int32 × Int32 → Prop) (t : Int32 × Int32) => ((gI σ 0) ≤ t.2 → Q t.1 σ) ∧ (¬ (gI σ 0) ≤ t.2 → vp_in t.2 40 ∧ ((¬ (gA σ 0 t.2.toNatClampNeg) = ((-1)) → wX7_count_b67 X43 t.2 0 t.1 σ Q) ∧ ((gA σ 0 t.2.toNatClampNeg) = ((-1)) → wX7_count_b67 X43 t.2 1 t.1 σ Q)))) (x2, x3)
def wX7_count (x1 : Int32) (σ : SS) (Q : Int32 → SS → Prop) : Prop := (x1 = 0 → Q (gI σ 0) σ) ∧ (x1 = 1 → wX7_count_b43 0 0 σ Q) ∧ (x1 = 2 → Q (gI σ 1) σ) ∧ (x1 = 3 → Q (gI σ 2) σ) ∧ (x1 = 4 → wX7_go ((-1)) ((-1)) σ (fun σ90 => Q (gI σ90 12) σ90)) ∧ (¬ x1 = 0 ∧ ¬ x1 = 1 ∧ ¬ x1 = 2 ∧ ¬ x1 = 3 ∧ ¬ x1 = 4 → wX7_answer ((-1)) σ (fun r100 σ100 => Q r100 σ100))
set_option maxRecDepth 100000 in
set_option maxHeartbeats 4000000 in
theorem kX7_count_ok {l : Launch} {D : va_G} {cI cJ cZ : ClassId} {ad : Nat → Nat} (x1 : Int32) (σ0 : SS) {Q : Int32 → SS → Prop} (h : wX7_count x1 σ0 Q) : Ci l yX7_count (.code yX7_count cX7_count 4 (some .int) :: TT) { frames := 3, cells := 0, slots := 0, locals := 73 } D (tys cI cJ cZ) (wM cI cJ cZ ad) [.ref (ad 0), .int x1] σ0 Q := by
  refine Ci.of (lv := [(0, .ref (ad 0)), (1, .int x1)]) (by decide) adM (Nat.le_of_ble_eq_true rfl) rfl ?_
  intro p e s m args below meth c A C
  have k67 : ∀ (x3 : Int32), ∀ (t0 : Int32), ∀ (t1 : Int32), ∀ (σ : SS), ∀ (X43 : Int32 × Int32 → Prop), (∀ t : Int32 × Int32, X43 t → J p l e { frames := 3, cells := 0, slots := 0, locals := 73 } s m args below meth c D (wM cI cJ cZ ad) A 4 (MQ below (va_Qi Q (WW D (tys cI cJ cZ) (wM cI cJ cZ ad)) A) args s 0 0 A) σ 43 [(0, .ref (ad 0)), (2, .int t.1), (3, .int t.2)] []) → wX7_count_b67 X43 x3 t0 t1 σ Q → J p l e { frames := 3, cells := 0, slots := 0, locals := 73 } s m args below meth c D (wM cI cJ cZ ad) A 4 (MQ below (va_Qi Q (WW D (tys cI cJ cZ) (wM cI cJ cZ ad)) A) args s 0 0 A) σ 67 [(0, .ref (ad 0)), (3, .int x3)] [.int t0, .int t1] := by
    intro x3 t0 t1 σ X43 hX43 h
    refine j_iadd C dX7_count_67 ?_
    refine j_istore_n (lv' := [(2, .int (t1 + t0)), (0, .ref (ad 0)), (3, .int x3)]) C dX7_count_68 (by decide) rfl ?_
    refine j_iinc (lv' := [(3, .int (x3 + 1)), (2, .int (t1 + t0)), (0, .ref (ad 0))]) (x3 + 1) C dX7_count_69 2 rfl rfl (by decide) rfl ?_
    refine j_goto 43 C dX7_count_72 rfl ?_
    refine j_sub (lv' := [(0, .ref (ad 0)), (2, .int (t1 + t0)), (3, .int (x3 + 1))]) [2, 1, 0] rfl ?_
    exact hX43 _ h
  have k43 : ∀ (x2 : Int32), ∀ (x3 : Int32), ∀ (σ : SS), wX7_count_b43 x2 x3 σ Q → J p l e { frames := 3, cells := 0, slots := 0, locals := 73 } s m args below meth c D (wM cI cJ cZ ad) A 4 (MQ below (va_Qi Q (WW D (tys cI cJ cZ) (wM cI cJ cZ ad)) A) args s 0 0 A) σ 43 [(0, .ref (ad 0)), (2, .int x2), (3, .int x3)] [] := by
    intro x2 x3 σ h
    refine h (fun t => J p l e { frames := 3, cells := 0, slots := 0, locals := 73 } s m args below meth c D (wM cI cJ cZ ad) A 4 (MQ below (va_Qi Q (WW D (tys cI cJ cZ) (wM cI cJ cZ ad)) A) args s 0 0 A) σ 43 [(0, .ref (ad 0)), (2, .int t.1), (3, .int t.2)] []) (fun t h => ?_)
    obtain ⟨x2, x3⟩ := t
    try dsimp only at h
    refine j_iload_n C dX7_count_43 2 rfl ?_
    refine j_aload_n C dX7_count_44 0 rfl ?_
    refine gf_X7_94 C dX7_count_45 ?_
    refine j_icmp_ge 75 C dX7_count_48 rfl h (fun h => ?_) (fun h => ?_)
    · refine j_iload_n C dX7_count_75 1 rfl ?_
      exact j_iret C dX7_count_76 h
    · refine j_iload_n C dX7_count_51 1 rfl ?_
      refine j_aload_n C dX7_count_52 0 rfl ?_
      refine gf_X7_9 C dX7_count_53 ?_
      refine j_iload_n C dX7_count_56 2 rfl ?_
      refine al_wM_1 C h.1 dX7_count_57 ?_
      replace h := h.2
      refine j_iconst (v := (-1)) C dX7_count_58 (by decide) ?_
      refine j_icmp_ne 66 C dX7_count_59 rfl h (fun h => ?_) (fun h => ?_)
      · refine j_iconst (v := 0) C dX7_count_66 (by decide) ?_
        refine j_sub (lv' := [(0, .ref (ad 0)), (3, .int x3)]) [0, 2] rfl ?_
        exact k67 _ _ _ _ _ (fun _ z => z) h
      · refine j_iconst (v := 1) C dX7_count_62 (by decide) ?_
        refine j_goto 67 C dX7_count_63 rfl ?_
        refine j_sub (lv' := [(0, .ref (ad 0)), (3, .int x3)]) [0, 2] rfl ?_
        exact k67 _ _ _ _ _ (fun _ z => z) h
  refine j_iconst (v := 0) C dX7_count_0 (by decide) ?_
  refine j_istore_n (lv' := [(2, .int 0), (0, .ref (ad 0)), (1, .int x1)]) C dX7_count_1 (by decide) rfl ?_
  refine j_iload_n C dX7_count_2 2 rfl ?_
  by_cases hc0 : x1 = 0
  · replace h := h.1 hc0
    refine j_tableIn 36 0 C dX7_count_3 hc0 (by decide) (by decide) rfl rfl ?_
    refine j_aload_n C dX7_count_36 1 rfl ?_
    refine gf_X7_94 C dX7_count_37 ?_
    exact j_iret C dX7_count_40 h
  by_cases hc1 : x1 = 1
  · replace h := h.2.1 hc1
    refine j_tableIn 41 1 C dX7_count_3 hc1 (by decide) (by decide) rfl rfl ?_
    refine j_iconst (v := 0) C dX7_count_41 (by decide) ?_
    refine j_istore_n (lv' := [(3, .int 0), (2, .int 0), (0, .ref (ad 0)), (1, .int x1)]) C dX7_count_42 (by decide) rfl ?_
    refine j_sub (lv' := [(0, .ref (ad 0)), (2, .int 0), (3, .int 0)]) [2, 1, 0] rfl ?_
    exact k43 _ _ _ h
  by_cases hc2 : x1 = 2
  · replace h := h.2.2.1 hc2
    refine j_tableIn 77 2 C dX7_count_3 hc2 (by decide) (by decide) rfl rfl ?_
    refine j_aload_n C dX7_count_77 1 rfl ?_
    refine gf_X7_98 C dX7_count_78 ?_
    exact j_iret C dX7_count_81 h
  by_cases hc3 : x1 = 3
  · replace h := h.2.2.2.1 hc3
    refine j_tableIn 82 3 C dX7_count_3 hc3 (by decide) (by decide) rfl rfl ?_
    refine j_aload_n C dX7_count_82 1 rfl ?_
    refine gf_X7_101 C dX7_count_83 ?_
    exact j_iret C dX7_count_86 h
  by_cases hc4 : x1 = 4
  · replace h := h.2.2.2.2.1 hc4
    refine j_tableIn 87 4 C dX7_count_3 hc4 (by decide) (by decide) rfl rfl ?_
    refine j_aload_n C dX7_count_87 1 rfl ?_
    refine j_iconst (v := (-1)) C dX7_count_88 (by decide) ?_
    refine j_iconst (v := (-1)) C dX7_count_89 (by decide) ?_
    refine j_callv 0 [.int ((-1)), .int ((-1))] [] C (kX7_go_ok ((-1)) ((-1)) σ0 h) (tt_V ml_X7_241 mV_X7_go) ok_X7_go ⟨by decide, by decide⟩ rfl (r_wM_0 (σ := σ0)) (Nat.le_of_ble_eq_true rfl) rfl dX7_count_90 (fun σ90 h => ?_)
    refine j_aload_n C dX7_count_93 1 rfl ?_
    refine gf_X7_207 C dX7_count_94 ?_
    exact j_iret C dX7_count_97 h
  replace h := h.2.2.2.2.2 ⟨hc0, hc1, hc2, hc3, hc4⟩
  refine j_tableOut 98 C dX7_count_3 (by have e0 := lv_neT (a := 0) hc0 (by decide); have e1 := lv_neT (a := 1) hc1 (by decide); have e2 := lv_neT (a := 2) hc2 (by decide); have e3 := lv_neT (a := 3) hc3 (by decide); have e4 := lv_neT (a := 4) hc4 (by decide); omega) rfl ?_
  refine j_aload_n C dX7_count_98 1 rfl ?_
  refine j_iconst (v := (-1)) C dX7_count_99 (by decide) ?_
  refine j_calli 0 [.int ((-1))] [] C (kX7_answer_ok ((-1)) σ0 h) (tt_V ml_X7_90 mV_X7_answer) ok_X7_answer ⟨by decide, by decide⟩ rfl (r_wM_0 (σ := σ0)) (Nat.le_of_ble_eq_true rfl) rfl dX7_count_100 (fun r100 σ100 h => ?_)
  exact j_iret C dX7_count_103 h
def wX7_save (σ : SS) (Q : Int32 → SS → Prop) : Prop := ∀ σ26 : SS, σ26 = sI (sI (sI (sI σ 3 1) 4 (gI (sI σ 3 1) 0)) 5 (gI (sI (sI σ 3 1) 4 (gI (sI σ 3 1) 0)) 1)) 6 (gI (sI (sI (sI σ 3 1) 4 (gI (sI σ 3 1) 0)) 5 (gI (sI (sI σ 3 1) 4 (gI (sI σ 3 1) 0)) 1)) 2) → (∀ σ37 : SS, σ37 = sAA σ26 11 (cpyN 40 (gA σ26 0) (gA σ26 11)) → (∀ σ48 : SS, σ48 = sBB σ37 2 (cpyN 2560 (gB σ37 0) (gB σ37 2)) → (∀ σ59 : SS, σ59 = sAA σ48 12 (cpyN 2560 (gA σ48 1) (gA σ48 12)) → (∀ σ70 : SS, σ70 = sAA σ59 13 (cpyN 2560 (gA σ59 2) (gA σ59 13)) → (∀ σ81 : SS, σ81 = sAA σ70 14 (cpyN 8 (gA σ70 3) (gA σ70 14)) → (∀ σ92 : SS, σ92 = sBB σ81 3 (cpyN 8 (gB σ81 1) (gB σ81 3)) → (∀ σ103 : SS, σ103 = sAA σ92 15 (cpyN 100 (gA σ92 4) (gA σ92 15)) → (∀ σ114 : SS, σ114 = sAA σ103 16 (cpyN 100 (fun j => vp_nar .boolean (gA σ103 5 j)) (gA σ103 16)) → (∀ σ125 : SS, σ125 = sAA σ114 17 (cpyN 100 (gA σ114 6) (gA σ114 17)) → (∀ σ136 : SS, σ136 = sAA σ125 18 (cpyN 100 (gA σ125 7) (gA σ125 18)) → (∀ σ147 : SS, σ147 = sAA σ136 19 (cpyN 100 (gA σ136 8) (gA σ136 19)) → (∀ σ158 : SS, σ158 = sAA σ147 20 (cpyN 4 (gA σ147 9) (gA σ147 20)) → (Q 1 σ158)))))))))))))
set_option maxRecDepth 100000 in
set_option maxHeartbeats 4000000 in
theorem kX7_save_ok {l : Launch} {D : va_G} {cI cJ cZ : ClassId} {ad : Nat → Nat} (σ0 : SS) {Q : Int32 → SS → Prop} (h : wX7_save σ0 Q) : Ci l yX7_save (.code yX7_save cX7_save 1 (some .int) :: TT) { frames := 1, cells := 0, slots := 0, locals := 22 } D (tys cI cJ cZ) (wM cI cJ cZ ad) [.ref (ad 0)] σ0 Q := by
  refine Ci.of (lv := [(0, .ref (ad 0))]) (by decide) adM (Nat.le_of_ble_eq_true rfl) rfl ?_
  intro p e s m args below meth c A C
  refine j_aload_n C dX7_save_0 0 rfl ?_
  refine j_iconst (v := 1) C dX7_save_1 (by decide) ?_
  refine pf_X7_244 C rfl rfl dX7_save_2 ?_
  refine j_aload_n C dX7_save_5 0 rfl ?_
  refine j_aload_n C dX7_save_6 0 rfl ?_
  refine gf_X7_94 C dX7_save_7 ?_
  refine pf_X7_247 C dX7_save_10 ?_
  refine j_aload_n C dX7_save_13 0 rfl ?_
  refine j_aload_n C dX7_save_14 0 rfl ?_
  refine gf_X7_98 C dX7_save_15 ?_
  refine pf_X7_250 C dX7_save_18 ?_
  refine j_aload_n C dX7_save_21 0 rfl ?_
  refine j_aload_n C dX7_save_22 0 rfl ?_
  refine gf_X7_101 C dX7_save_23 ?_
  refine pf_X7_253 C dX7_save_26 ?_
  obtain ⟨σ26, hs26⟩ : ∃ z, z = sI (sI (sI (sI σ0 3 1) 4 (gI (sI σ0 3 1) 0)) 5 (gI (sI (sI σ0 3 1) 4 (gI (sI σ0 3 1) 0)) 1)) 6 (gI (sI (sI (sI σ0 3 1) 4 (gI (sI σ0 3 1) 0)) 5 (gI (sI (sI σ0 3 1) 4 (gI (sI σ0 3 1) 0)) 1)) 2) := ⟨_, rfl⟩
  rw [← hs26]
  replace h := h σ26 hs26
  refine j_aload_n C dX7_save_29 0 rfl ?_
  refine gf_X7_9 C dX7_save_30 ?_
  refine j_aload_n C dX7_save_33 0 rfl ?_
  refine gf_X7_51 C dX7_save_34 ?_
  refine j_callSv [.ref (ad 1), .ref (ad 14)] [] C (kputA (q := 1) (q2 := 14) (n := 40) (k := 0) (k2 := 11) adM (by decide) (by decide) (fun _ => rfl) (fun _ => rfl) (fun _ _ _ => rfl) σ26) (tt_S ml_X7_256 mS_X7_put) ok_X7_put ⟨by decide, by decide⟩ (Nat.le_of_ble_eq_true rfl) rfl dX7_save_37 (fun σ37 hs37 => ?_)
  replace h := h σ37 hs37
  refine j_aload_n C dX7_save_40 0 rfl ?_
  refine gf_X7_13 C dX7_save_41 ?_
  refine j_aload_n C dX7_save_44 0 rfl ?_
  refine gf_X7_54 C dX7_save_45 ?_
  refine j_callSv [.ref (ad 2), .ref (ad 15)] [] C (kputB (q := 2) (q2 := 15) (n := 2560) (k := 0) (k2 := 2) adM (by decide) (by decide) (fun _ => rfl) (fun _ => rfl) (fun _ _ _ => rfl) σ37) (tt_S ml_X7_260 mS_X7_put_) ok_X7_put_ ⟨by decide, by decide⟩ (Nat.le_of_ble_eq_true rfl) rfl dX7_save_48 (fun σ48 hs48 => ?_)
  replace h := h σ48 hs48
  refine j_aload_n C dX7_save_51 0 rfl ?_
  refine gf_X7_17 C dX7_save_52 ?_
  refine j_aload_n C dX7_save_55 0 rfl ?_
  refine gf_X7_57 C dX7_save_56 ?_
  refine j_callSv [.ref (ad 3), .ref (ad 16)] [] C (kputA (q := 3) (q2 := 16) (n := 2560) (k := 1) (k2 := 12) adM (by decide) (by decide) (fun _ => rfl) (fun _ => rfl) (fun _ _ _ => rfl) σ48) (tt_S ml_X7_256 mS_X7_put) ok_X7_put ⟨by decide, by decide⟩ (Nat.le_of_ble_eq_true rfl) rfl dX7_save_59 (fun σ59 hs59 => ?_)
  replace h := h σ59 hs59
  refine j_aload_n C dX7_save_62 0 rfl ?_
  refine gf_X7_20 C dX7_save_63 ?_
  refine j_aload_n C dX7_save_66 0 rfl ?_
  refine gf_X7_60 C dX7_save_67 ?_
  refine j_callSv [.ref (ad 4), .ref (ad 17)] [] C (kputA (q := 4) (q2 := 17) (n := 2560) (k := 2) (k2 := 13) adM (by decide) (by decide) (fun _ => rfl) (fun _ => rfl) (fun _ _ _ => rfl) σ59) (tt_S ml_X7_256 mS_X7_put) ok_X7_put ⟨by decide, by decide⟩ (Nat.le_of_ble_eq_true rfl) rfl dX7_save_70 (fun σ70 hs70 => ?_)
  replace h := h σ70 hs70
  refine j_aload_n C dX7_save_73 0 rfl ?_
  refine gf_X7_23 C dX7_save_74 ?_
  refine j_aload_n C dX7_save_77 0 rfl ?_
  refine gf_X7_63 C dX7_save_78 ?_
  refine j_callSv [.ref (ad 5), .ref (ad 18)] [] C (kputA (q := 5) (q2 := 18) (n := 8) (k := 3) (k2 := 14) adM (by decide) (by decide) (fun _ => rfl) (fun _ => rfl) (fun _ _ _ => rfl) σ70) (tt_S ml_X7_256 mS_X7_put) ok_X7_put ⟨by decide, by decide⟩ (Nat.le_of_ble_eq_true rfl) rfl dX7_save_81 (fun σ81 hs81 => ?_)
  replace h := h σ81 hs81
  refine j_aload_n C dX7_save_84 0 rfl ?_
  refine gf_X7_26 C dX7_save_85 ?_
  refine j_aload_n C dX7_save_88 0 rfl ?_
  refine gf_X7_66 C dX7_save_89 ?_
  refine j_callSv [.ref (ad 6), .ref (ad 19)] [] C (kputB (q := 6) (q2 := 19) (n := 8) (k := 1) (k2 := 3) adM (by decide) (by decide) (fun _ => rfl) (fun _ => rfl) (fun _ _ _ => rfl) σ81) (tt_S ml_X7_260 mS_X7_put_) ok_X7_put_ ⟨by decide, by decide⟩ (Nat.le_of_ble_eq_true rfl) rfl dX7_save_92 (fun σ92 hs92 => ?_)
  replace h := h σ92 hs92
  refine j_aload_n C dX7_save_95 0 rfl ?_
  refine gf_X7_29 C dX7_save_96 ?_
  refine j_aload_n C dX7_save_99 0 rfl ?_
  refine gf_X7_69 C dX7_save_100 ?_
  refine j_callSv [.ref (ad 7), .ref (ad 20)] [] C (kputA (q := 7) (q2 := 20) (n := 100) (k := 4) (k2 := 15) adM (by decide) (by decide) (fun _ => rfl) (fun _ => rfl) (fun _ _ _ => rfl) σ92) (tt_S ml_X7_256 mS_X7_put) ok_X7_put ⟨by decide, by decide⟩ (Nat.le_of_ble_eq_true rfl) rfl dX7_save_103 (fun σ103 hs103 => ?_)
  replace h := h σ103 hs103
  refine j_aload_n C dX7_save_106 0 rfl ?_
  refine gf_X7_32 C dX7_save_107 ?_
  refine j_aload_n C dX7_save_110 0 rfl ?_
  refine gf_X7_72 C dX7_save_111 ?_
  refine j_callSv [.ref (ad 8), .ref (ad 21)] [] C (kputZ (q := 8) (q2 := 21) (n := 100) (k := 5) (k2 := 16) adM (by decide) (by decide) (fun _ => rfl) (fun _ => rfl) (fun _ _ _ => rfl) σ103) (tt_S ml_X7_263 mS_X7_put__) ok_X7_put__ ⟨by decide, by decide⟩ (Nat.le_of_ble_eq_true rfl) rfl dX7_save_114 (fun σ114 hs114 => ?_)
  replace h := h σ114 hs114
  refine j_aload_n C dX7_save_117 0 rfl ?_
  refine gf_X7_36 C dX7_save_118 ?_
  refine j_aload_n C dX7_save_121 0 rfl ?_
  refine gf_X7_75 C dX7_save_122 ?_
  refine j_callSv [.ref (ad 9), .ref (ad 22)] [] C (kputA (q := 9) (q2 := 22) (n := 100) (k := 6) (k2 := 17) adM (by decide) (by decide) (fun _ => rfl) (fun _ => rfl) (fun _ _ _ => rfl) σ114) (tt_S ml_X7_256 mS_X7_put) ok_X7_put ⟨by decide, by decide⟩ (Nat.le_of_ble_eq_true rfl) rfl dX7_save_125 (fun σ125 hs125 => ?_)
  replace h := h σ125 hs125
  refine j_aload_n C dX7_save_128 0 rfl ?_
  refine gf_X7_39 C dX7_save_129 ?_
  refine j_aload_n C dX7_save_132 0 rfl ?_
  refine gf_X7_78 C dX7_save_133 ?_
  refine j_callSv [.ref (ad 10), .ref (ad 23)] [] C (kputA (q := 10) (q2 := 23) (n := 100) (k := 7) (k2 := 18) adM (by decide) (by decide) (fun _ => rfl) (fun _ => rfl) (fun _ _ _ => rfl) σ125) (tt_S ml_X7_256 mS_X7_put) ok_X7_put ⟨by decide, by decide⟩ (Nat.le_of_ble_eq_true rfl) rfl dX7_save_136 (fun σ136 hs136 => ?_)
  replace h := h σ136 hs136
  refine j_aload_n C dX7_save_139 0 rfl ?_
  refine gf_X7_42 C dX7_save_140 ?_
  refine j_aload_n C dX7_save_143 0 rfl ?_
  refine gf_X7_81 C dX7_save_144 ?_
  refine j_callSv [.ref (ad 11), .ref (ad 24)] [] C (kputA (q := 11) (q2 := 24) (n := 100) (k := 8) (k2 := 19) adM (by decide) (by decide) (fun _ => rfl) (fun _ => rfl) (fun _ _ _ => rfl) σ136) (tt_S ml_X7_256 mS_X7_put) ok_X7_put ⟨by decide, by decide⟩ (Nat.le_of_ble_eq_true rfl) rfl dX7_save_147 (fun σ147 hs147 => ?_)
  replace h := h σ147 hs147
  refine j_aload_n C dX7_save_150 0 rfl ?_
  refine gf_X7_45 C dX7_save_151 ?_
  refine j_aload_n C dX7_save_154 0 rfl ?_
  refine gf_X7_84 C dX7_save_155 ?_
  refine j_callSv [.ref (ad 12), .ref (ad 25)] [] C (kputA (q := 12) (q2 := 25) (n := 4) (k := 9) (k2 := 20) adM (by decide) (by decide) (fun _ => rfl) (fun _ => rfl) (fun _ _ _ => rfl) σ147) (tt_S ml_X7_256 mS_X7_put) ok_X7_put ⟨by decide, by decide⟩ (Nat.le_of_ble_eq_true rfl) rfl dX7_save_158 (fun σ158 hs158 => ?_)
  replace h := h σ158 hs158
  refine j_iconst (v := 1) C dX7_save_161 (by decide) ?_
  exact j_iret C dX7_save_162 h
def wX7_back (σ : SS) (Q : Int32 → SS → Prop) : Prop := (¬ (gI σ 3) = 0 → ∀ σ46 : SS, σ46 = sAA (sI (sI (sI σ 0 (gI σ 4)) 1 (gI (sI σ 0 (gI σ 4)) 5)) 2 (gI (sI (sI σ 0 (gI σ 4)) 1 (gI (sI σ 0 (gI σ 4)) 5)) 6)) 0 (cpyN 40 (gA (sI (sI (sI σ 0 (gI σ 4)) 1 (gI (sI σ 0 (gI σ 4)) 5)) 2 (gI (sI (sI σ 0 (gI σ 4)) 1 (gI (sI σ 0 (gI σ 4)) 5)) 6)) 11) (gA (sI (sI (sI σ 0 (gI σ 4)) 1 (gI (sI σ 0 (gI σ 4)) 5)) 2 (gI (sI (sI σ 0 (gI σ 4)) 1 (gI (sI σ 0 (gI σ 4)) 5)) 6)) 0)) → (∀ σ57 : SS, σ57 = sBB σ46 0 (cpyN 2560 (gB σ46 2) (gB σ46 0)) → (∀ σ68 : SS, σ68 = sAA σ57 1 (cpyN 2560 (gA σ57 12) (gA σ57 1)) → (∀ σ79 : SS, σ79 = sAA σ68 2 (cpyN 2560 (gA σ68 13) (gA σ68 2)) → (∀ σ90 : SS, σ90 = sAA σ79 3 (cpyN 8 (gA σ79 14) (gA σ79 3)) → (∀ σ101 : SS, σ101 = sBB σ90 1 (cpyN 8 (gB σ90 3) (gB σ90 1)) → (∀ σ112 : SS, σ112 = sAA σ101 4 (cpyN 100 (gA σ101 15) (gA σ101 4)) → (∀ σ123 : SS, σ123 = sAA σ112 5 (cpyN 100 (fun j => vp_nar .boolean (gA σ112 16 j)) (gA σ112 5)) → (∀ σ134 : SS, σ134 = sAA σ123 6 (cpyN 100 (gA σ123 17) (gA σ123 6)) → (∀ σ145 : SS, σ145 = sAA σ134 7 (cpyN 100 (gA σ134 18) (gA σ134 7)) → (∀ σ156 : SS, σ156 = sAA σ145 8 (cpyN 100 (gA σ145 19) (gA σ145 8)) → (∀ σ167 : SS, σ167 = sAA σ156 9 (cpyN 4 (gA σ156 20) (gA σ156 9)) → (Q 1 σ167))))))))))))) ∧ ((gI σ 3) = 0 → wX7_answer ((-4)) σ (fun r10 σ10 => Q r10 σ10))
set_option maxRecDepth 100000 in
set_option maxHeartbeats 4000000 in
theorem kX7_back_ok {l : Launch} {D : va_G} {cI cJ cZ : ClassId} {ad : Nat → Nat} (σ0 : SS) {Q : Int32 → SS → Prop} (h : wX7_back σ0 Q) : Ci l yX7_back (.code yX7_back cX7_back 1 (some .int) :: TT) { frames := 1, cells := 0, slots := 0, locals := 22 } D (tys cI cJ cZ) (wM cI cJ cZ ad) [.ref (ad 0)] σ0 Q := by
  refine Ci.of (lv := [(0, .ref (ad 0))]) (by decide) adM (Nat.le_of_ble_eq_true rfl) rfl ?_
  intro p e s m args below meth c A C
  refine j_aload_n C dX7_back_0 0 rfl ?_
  refine gf_X7_244 C dX7_back_1 ?_
  refine j_if_ne 14 C dX7_back_4 rfl h (fun h => ?_) (fun h => ?_)
  · refine j_aload_n C dX7_back_14 0 rfl ?_
    refine j_aload_n C dX7_back_15 0 rfl ?_
    refine gf_X7_247 C dX7_back_16 ?_
    refine pf_X7_94 C dX7_back_19 ?_
    refine j_aload_n C dX7_back_22 0 rfl ?_
    refine j_aload_n C dX7_back_23 0 rfl ?_
    refine gf_X7_250 C dX7_back_24 ?_
    refine pf_X7_98 C dX7_back_27 ?_
    refine j_aload_n C dX7_back_30 0 rfl ?_
    refine j_aload_n C dX7_back_31 0 rfl ?_
    refine gf_X7_253 C dX7_back_32 ?_
    refine pf_X7_101 C dX7_back_35 ?_
    refine j_aload_n C dX7_back_38 0 rfl ?_
    refine gf_X7_51 C dX7_back_39 ?_
    refine j_aload_n C dX7_back_42 0 rfl ?_
    refine gf_X7_9 C dX7_back_43 ?_
    refine j_callSv [.ref (ad 14), .ref (ad 1)] [] C (kputA (q := 14) (q2 := 1) (n := 40) (k := 11) (k2 := 0) adM (by decide) (by decide) (fun _ => rfl) (fun _ => rfl) (fun _ _ _ => rfl) (sI (sI (sI σ0 0 (gI σ0 4)) 1 (gI (sI σ0 0 (gI σ0 4)) 5)) 2 (gI (sI (sI σ0 0 (gI σ0 4)) 1 (gI (sI σ0 0 (gI σ0 4)) 5)) 6))) (tt_S ml_X7_256 mS_X7_put) ok_X7_put ⟨by decide, by decide⟩ (Nat.le_of_ble_eq_true rfl) rfl dX7_back_46 (fun σ46 hs46 => ?_)
    replace h := h σ46 hs46
    refine j_aload_n C dX7_back_49 0 rfl ?_
    refine gf_X7_54 C dX7_back_50 ?_
    refine j_aload_n C dX7_back_53 0 rfl ?_
    refine gf_X7_13 C dX7_back_54 ?_
    refine j_callSv [.ref (ad 15), .ref (ad 2)] [] C (kputB (q := 15) (q2 := 2) (n := 2560) (k := 2) (k2 := 0) adM (by decide) (by decide) (fun _ => rfl) (fun _ => rfl) (fun _ _ _ => rfl) σ46) (tt_S ml_X7_260 mS_X7_put_) ok_X7_put_ ⟨by decide, by decide⟩ (Nat.le_of_ble_eq_true rfl) rfl dX7_back_57 (fun σ57 hs57 => ?_)
    replace h := h σ57 hs57
    refine j_aload_n C dX7_back_60 0 rfl ?_
    refine gf_X7_57 C dX7_back_61 ?_
    refine j_aload_n C dX7_back_64 0 rfl ?_
    refine gf_X7_17 C dX7_back_65 ?_
    refine j_callSv [.ref (ad 16), .ref (ad 3)] [] C (kputA (q := 16) (q2 := 3) (n := 2560) (k := 12) (k2 := 1) adM (by decide) (by decide) (fun _ => rfl) (fun _ => rfl) (fun _ _ _ => rfl) σ57) (tt_S ml_X7_256 mS_X7_put) ok_X7_put ⟨by decide, by decide⟩ (Nat.le_of_ble_eq_true rfl) rfl dX7_back_68 (fun σ68 hs68 => ?_)
    replace h := h σ68 hs68
    refine j_aload_n C dX7_back_71 0 rfl ?_
    refine gf_X7_60 C dX7_back_72 ?_
    refine j_aload_n C dX7_back_75 0 rfl ?_
    refine gf_X7_20 C dX7_back_76 ?_
    refine j_callSv [.ref (ad 17), .ref (ad 4)] [] C (kputA (q := 17) (q2 := 4) (n := 2560) (k := 13) (k2 := 2) adM (by decide) (by decide) (fun _ => rfl) (fun _ => rfl) (fun _ _ _ => rfl) σ68) (tt_S ml_X7_256 mS_X7_put) ok_X7_put ⟨by decide, by decide⟩ (Nat.le_of_ble_eq_true rfl) rfl dX7_back_79 (fun σ79 hs79 => ?_)
    replace h := h σ79 hs79
    refine j_aload_n C dX7_back_82 0 rfl ?_
    refine gf_X7_63 C dX7_back_83 ?_
    refine j_aload_n C dX7_back_86 0 rfl ?_
    refine gf_X7_23 C dX7_back_87 ?_
    refine j_callSv [.ref (ad 18), .ref (ad 5)] [] C (kputA (q := 18) (q2 := 5) (n := 8) (k := 14) (k2 := 3) adM (by decide) (by decide) (fun _ => rfl) (fun _ => rfl) (fun _ _ _ => rfl) σ79) (tt_S ml_X7_256 mS_X7_put) ok_X7_put ⟨by decide, by decide⟩ (Nat.le_of_ble_eq_true rfl) rfl dX7_back_90 (fun σ90 hs90 => ?_)
    replace h := h σ90 hs90
    refine j_aload_n C dX7_back_93 0 rfl ?_
    refine gf_X7_66 C dX7_back_94 ?_
    refine j_aload_n C dX7_back_97 0 rfl ?_
    refine gf_X7_26 C dX7_back_98 ?_
    refine j_callSv [.ref (ad 19), .ref (ad 6)] [] C (kputB (q := 19) (q2 := 6) (n := 8) (k := 3) (k2 := 1) adM (by decide) (by decide) (fun _ => rfl) (fun _ => rfl) (fun _ _ _ => rfl) σ90) (tt_S ml_X7_260 mS_X7_put_) ok_X7_put_ ⟨by decide, by decide⟩ (Nat.le_of_ble_eq_true rfl) rfl dX7_back_101 (fun σ101 hs101 => ?_)
    replace h := h σ101 hs101
    refine j_aload_n C dX7_back_104 0 rfl ?_
    refine gf_X7_69 C dX7_back_105 ?_
    refine j_aload_n C dX7_back_108 0 rfl ?_
    refine gf_X7_29 C dX7_back_109 ?_
    refine j_callSv [.ref (ad 20), .ref (ad 7)] [] C (kputA (q := 20) (q2 := 7) (n := 100) (k := 15) (k2 := 4) adM (by decide) (by decide) (fun _ => rfl) (fun _ => rfl) (fun _ _ _ => rfl) σ101) (tt_S ml_X7_256 mS_X7_put) ok_X7_put ⟨by decide, by decide⟩ (Nat.le_of_ble_eq_true rfl) rfl dX7_back_112 (fun σ112 hs112 => ?_)
    replace h := h σ112 hs112
    refine j_aload_n C dX7_back_115 0 rfl ?_
    refine gf_X7_72 C dX7_back_116 ?_
    refine j_aload_n C dX7_back_119 0 rfl ?_
    refine gf_X7_32 C dX7_back_120 ?_
    refine j_callSv [.ref (ad 21), .ref (ad 8)] [] C (kputZ (q := 21) (q2 := 8) (n := 100) (k := 16) (k2 := 5) adM (by decide) (by decide) (fun _ => rfl) (fun _ => rfl) (fun _ _ _ => rfl) σ112) (tt_S ml_X7_263 mS_X7_put__) ok_X7_put__ ⟨by decide, by decide⟩ (Nat.le_of_ble_eq_true rfl) rfl dX7_back_123 (fun σ123 hs123 => ?_)
    replace h := h σ123 hs123
    refine j_aload_n C dX7_back_126 0 rfl ?_
    refine gf_X7_75 C dX7_back_127 ?_
    refine j_aload_n C dX7_back_130 0 rfl ?_
    refine gf_X7_36 C dX7_back_131 ?_
    refine j_callSv [.ref (ad 22), .ref (ad 9)] [] C (kputA (q := 22) (q2 := 9) (n := 100) (k := 17) (k2 := 6) adM (by decide) (by decide) (fun _ => rfl) (fun _ => rfl) (fun _ _ _ => rfl) σ123) (tt_S ml_X7_256 mS_X7_put) ok_X7_put ⟨by decide, by decide⟩ (Nat.le_of_ble_eq_true rfl) rfl dX7_back_134 (fun σ134 hs134 => ?_)
    replace h := h σ134 hs134
    refine j_aload_n C dX7_back_137 0 rfl ?_
    refine gf_X7_78 C dX7_back_138 ?_
    refine j_aload_n C dX7_back_141 0 rfl ?_
    refine gf_X7_39 C dX7_back_142 ?_
    refine j_callSv [.ref (ad 23), .ref (ad 10)] [] C (kputA (q := 23) (q2 := 10) (n := 100) (k := 18) (k2 := 7) adM (by decide) (by decide) (fun _ => rfl) (fun _ => rfl) (fun _ _ _ => rfl) σ134) (tt_S ml_X7_256 mS_X7_put) ok_X7_put ⟨by decide, by decide⟩ (Nat.le_of_ble_eq_true rfl) rfl dX7_back_145 (fun σ145 hs145 => ?_)
    replace h := h σ145 hs145
    refine j_aload_n C dX7_back_148 0 rfl ?_
    refine gf_X7_81 C dX7_back_149 ?_
    refine j_aload_n C dX7_back_152 0 rfl ?_
    refine gf_X7_42 C dX7_back_153 ?_
    refine j_callSv [.ref (ad 24), .ref (ad 11)] [] C (kputA (q := 24) (q2 := 11) (n := 100) (k := 19) (k2 := 8) adM (by decide) (by decide) (fun _ => rfl) (fun _ => rfl) (fun _ _ _ => rfl) σ145) (tt_S ml_X7_256 mS_X7_put) ok_X7_put ⟨by decide, by decide⟩ (Nat.le_of_ble_eq_true rfl) rfl dX7_back_156 (fun σ156 hs156 => ?_)
    replace h := h σ156 hs156
    refine j_aload_n C dX7_back_159 0 rfl ?_
    refine gf_X7_84 C dX7_back_160 ?_
    refine j_aload_n C dX7_back_163 0 rfl ?_
    refine gf_X7_45 C dX7_back_164 ?_
    refine j_callSv [.ref (ad 25), .ref (ad 12)] [] C (kputA (q := 25) (q2 := 12) (n := 4) (k := 20) (k2 := 9) adM (by decide) (by decide) (fun _ => rfl) (fun _ => rfl) (fun _ _ _ => rfl) σ156) (tt_S ml_X7_256 mS_X7_put) ok_X7_put ⟨by decide, by decide⟩ (Nat.le_of_ble_eq_true rfl) rfl dX7_back_167 (fun σ167 hs167 => ?_)
    replace h := h σ167 hs167
    refine j_iconst (v := 1) C dX7_back_170 (by decide) ?_
    exact j_iret C dX7_back_171 h
  · refine j_aload_n C dX7_back_7 0 rfl ?_
    refine j_bipush (v := (-4)) C dX7_back_8 (by decide) ?_
    refine j_calli 0 [.int ((-4))] [] C (kX7_answer_ok ((-4)) σ0 h) (tt_V ml_X7_90 mV_X7_answer) ok_X7_answer ⟨by decide, by decide⟩ rfl (r_wM_0 (σ := σ0)) (Nat.le_of_ble_eq_true rfl) rfl dX7_back_10 (fun r10 σ10 h => ?_)
    exact j_iret C dX7_back_13 h
def wX7_hold_b19 (σ : SS) (Q : Int32 → SS → Prop) : Prop := wX7_answer ((-1)) σ (fun r21 σ21 => Q r21 σ21)
def wX7_hold (x1 : Int32) (x2 : Int32) (σ : SS) (Q : Int32 → SS → Prop) : Prop := (x1 < 0 → wX7_hold_b19 σ Q) ∧ (¬ x1 < 0 → (3 < x1 → wX7_hold_b19 σ Q) ∧ (¬ 3 < x1 → (x2 < 0 → wX7_hold_b19 σ Q) ∧ (¬ x2 < 0 → (x2 ≤ 99 → vp_in x1 4 ∧ (vp_in x1 4 ∧ (Q (gA σ 9 x1.toNatClampNeg) (sA σ 9 x1.toNatClampNeg x2)))) ∧ (¬ x2 ≤ 99 → wX7_hold_b19 σ Q))))
set_option maxRecDepth 100000 in
set_option maxHeartbeats 4000000 in
theorem kX7_hold_ok {l : Launch} {D : va_G} {cI cJ cZ : ClassId} {ad : Nat → Nat} (x1 : Int32) (x2 : Int32) (σ0 : SS) {Q : Int32 → SS → Prop} (h : wX7_hold x1 x2 σ0 Q) : Ci l yX7_hold (.code yX7_hold cX7_hold 4 (some .int) :: TT) { frames := 1, cells := 0, slots := 0, locals := 21 } D (tys cI cJ cZ) (wM cI cJ cZ ad) [.ref (ad 0), .int x1, .int x2] σ0 Q := by
  refine Ci.of (lv := [(0, .ref (ad 0)), (1, .int x1), (2, .int x2)]) (by decide) adM (Nat.le_of_ble_eq_true rfl) rfl ?_
  intro p e s m args below meth c A C
  have k19 : ∀ (σ : SS), wX7_hold_b19 σ Q → J p l e { frames := 1, cells := 0, slots := 0, locals := 21 } s m args below meth c D (wM cI cJ cZ ad) A 4 (MQ below (va_Qi Q (WW D (tys cI cJ cZ) (wM cI cJ cZ ad)) A) args s 0 0 A) σ 19 [(0, .ref (ad 0))] [] := by
    intro σ h
    refine j_aload_n C dX7_hold_19 0 rfl ?_
    refine j_iconst (v := (-1)) C dX7_hold_20 (by decide) ?_
    refine j_calli 0 [.int ((-1))] [] C (kX7_answer_ok ((-1)) σ h) (tt_V ml_X7_90 mV_X7_answer) ok_X7_answer ⟨by decide, by decide⟩ rfl (r_wM_0 (σ := σ)) (Nat.le_of_ble_eq_true rfl) rfl dX7_hold_21 (fun r21 σ21 h => ?_)
    exact j_iret C dX7_hold_24 h
  refine j_iload_n C dX7_hold_0 1 rfl ?_
  refine j_if_lt 19 C dX7_hold_1 rfl h (fun h => ?_) (fun h => ?_)
  · refine j_sub (lv' := [(0, .ref (ad 0))]) [0] rfl ?_
    exact k19 _ h
  · refine j_iload_n C dX7_hold_4 1 rfl ?_
    refine j_iconst (v := 3) C dX7_hold_5 (by decide) ?_
    refine j_icmp_gt 19 C dX7_hold_6 rfl h (fun h => ?_) (fun h => ?_)
    · refine j_sub (lv' := [(0, .ref (ad 0))]) [0] rfl ?_
      exact k19 _ h
    · refine j_iload_n C dX7_hold_9 2 rfl ?_
      refine j_if_lt 19 C dX7_hold_10 rfl h (fun h => ?_) (fun h => ?_)
      · refine j_sub (lv' := [(0, .ref (ad 0))]) [0] rfl ?_
        exact k19 _ h
      · refine j_iload_n C dX7_hold_13 2 rfl ?_
        refine j_bipush (v := 99) C dX7_hold_14 (by decide) ?_
        refine j_icmp_le 25 C dX7_hold_16 rfl h (fun h => ?_) (fun h => ?_)
        · refine j_aload_n C dX7_hold_25 0 rfl ?_
          refine gf_X7_45 C dX7_hold_26 ?_
          refine j_iload_n C dX7_hold_29 1 rfl ?_
          refine al_wM_12 C h.1 dX7_hold_30 ?_
          replace h := h.2
          refine j_istore_n (lv' := [(3, .int (gA σ0 9 x1.toNatClampNeg)), (0, .ref (ad 0)), (1, .int x1), (2, .int x2)]) C dX7_hold_31 (by decide) rfl ?_
          refine j_aload_n C dX7_hold_32 1 rfl ?_
          refine gf_X7_45 C dX7_hold_33 ?_
          refine j_iload_n C dX7_hold_36 2 rfl ?_
          refine j_iload_n C dX7_hold_37 3 rfl ?_
          refine as_wM_12 C h.1 dX7_hold_38 ?_
          replace h := h.2
          refine j_iload_n C dX7_hold_39 0 rfl ?_
          exact j_iret C dX7_hold_40 h
        · refine j_sub (lv' := [(0, .ref (ad 0))]) [0] rfl ?_
          exact k19 _ h
def wX7_throwIt_b34 (t0 : Int32) (σ : SS) (Q : Int32 → SS → Prop) : Prop := wX7_answer t0 σ (fun r34 σ34 => Q r34 σ34)
def wX7_throwIt_b28 (σ : SS) (Q : Int32 → SS → Prop) : Prop := wX7_throwIt_b34 ((-1)) σ Q
def wX7_throwIt_b18 (x1 : Int32) (σ : SS) (Q : Int32 → SS → Prop) : Prop := (x1 < 0 → wX7_throwIt_b28 σ Q) ∧ (¬ x1 < 0 → (x1 ≤ 3 → wX7_throwIt_b34 ((-4)) σ Q) ∧ (¬ x1 ≤ 3 → wX7_throwIt_b28 σ Q))
def wX7_throwIt (x1 : Int32) (σ : SS) (Q : Int32 → SS → Prop) : Prop := (x1 < 0 → wX7_throwIt_b18 x1 σ Q) ∧ (¬ x1 < 0 → (3 < x1 → wX7_throwIt_b18 x1 σ Q) ∧ (¬ 3 < x1 → vp_in x1 4 ∧ ((¬ (gA σ 9 x1.toNatClampNeg) = 0 → vp_in x1 4 ∧ (Q (gA σ 9 x1.toNatClampNeg) σ)) ∧ ((gA σ 9 x1.toNatClampNeg) = 0 → wX7_throwIt_b18 x1 σ Q))))
set_option maxRecDepth 100000 in
set_option maxHeartbeats 4000000 in
theorem kX7_throwIt_ok {l : Launch} {D : va_G} {cI cJ cZ : ClassId} {ad : Nat → Nat} (x1 : Int32) (σ0 : SS) {Q : Int32 → SS → Prop} (h : wX7_throwIt x1 σ0 Q) : Ci l yX7_throwIt (.code yX7_throwIt cX7_throwIt 2 (some .int) :: TT) { frames := 1, cells := 0, slots := 0, locals := 21 } D (tys cI cJ cZ) (wM cI cJ cZ ad) [.ref (ad 0), .int x1] σ0 Q := by
  refine Ci.of (lv := [(0, .ref (ad 0)), (1, .int x1)]) (by decide) adM (Nat.le_of_ble_eq_true rfl) rfl ?_
  intro p e s m args below meth c A C
  have k34 : ∀ (t0 : Int32), ∀ (σ : SS), wX7_throwIt_b34 t0 σ Q → J p l e { frames := 1, cells := 0, slots := 0, locals := 21 } s m args below meth c D (wM cI cJ cZ ad) A 2 (MQ below (va_Qi Q (WW D (tys cI cJ cZ) (wM cI cJ cZ ad)) A) args s 0 0 A) σ 34 [] [.int t0, .ref (ad 0)] := by
    intro t0 σ h
    refine j_calli 0 [.int t0] [] C (kX7_answer_ok t0 σ h) (tt_V ml_X7_90 mV_X7_answer) ok_X7_answer ⟨by decide, by decide⟩ rfl (r_wM_0 (σ := σ)) (Nat.le_of_ble_eq_true rfl) rfl dX7_throwIt_34 (fun r34 σ34 h => ?_)
    exact j_iret C dX7_throwIt_37 h
  have k28 : ∀ (σ : SS), wX7_throwIt_b28 σ Q → J p l e { frames := 1, cells := 0, slots := 0, locals := 21 } s m args below meth c D (wM cI cJ cZ ad) A 2 (MQ below (va_Qi Q (WW D (tys cI cJ cZ) (wM cI cJ cZ ad)) A) args s 0 0 A) σ 28 [] [.ref (ad 0)] := by
    intro σ h
    refine j_iconst (v := (-1)) C dX7_throwIt_28 (by decide) ?_
    refine j_goto 34 C dX7_throwIt_29 rfl ?_
    refine j_sub (lv' := []) [] rfl ?_
    exact k34 _ _ h
  have k18 : ∀ (x1 : Int32), ∀ (σ : SS), wX7_throwIt_b18 x1 σ Q → J p l e { frames := 1, cells := 0, slots := 0, locals := 21 } s m args below meth c D (wM cI cJ cZ ad) A 2 (MQ below (va_Qi Q (WW D (tys cI cJ cZ) (wM cI cJ cZ ad)) A) args s 0 0 A) σ 18 [(0, .ref (ad 0)), (1, .int x1)] [] := by
    intro x1 σ h
    refine j_aload_n C dX7_throwIt_18 0 rfl ?_
    refine j_iload_n C dX7_throwIt_19 1 rfl ?_
    refine j_if_lt 28 C dX7_throwIt_20 rfl h (fun h => ?_) (fun h => ?_)
    · refine j_sub (lv' := []) [] rfl ?_
      exact k28 _ h
    · refine j_iload_n C dX7_throwIt_23 1 rfl ?_
      refine j_iconst (v := 3) C dX7_throwIt_24 (by decide) ?_
      refine j_icmp_le 32 C dX7_throwIt_25 rfl h (fun h => ?_) (fun h => ?_)
      · refine j_bipush (v := (-4)) C dX7_throwIt_32 (by decide) ?_
        refine j_sub (lv' := []) [] rfl ?_
        exact k34 _ _ h
      · refine j_sub (lv' := []) [] rfl ?_
        exact k28 _ h
  refine j_iload_n C dX7_throwIt_0 1 rfl ?_
  refine j_if_lt 18 C dX7_throwIt_1 rfl h (fun h => ?_) (fun h => ?_)
  · refine j_sub (lv' := [(0, .ref (ad 0)), (1, .int x1)]) [0, 1] rfl ?_
    exact k18 _ _ h
  · refine j_iload_n C dX7_throwIt_4 1 rfl ?_
    refine j_iconst (v := 3) C dX7_throwIt_5 (by decide) ?_
    refine j_icmp_gt 18 C dX7_throwIt_6 rfl h (fun h => ?_) (fun h => ?_)
    · refine j_sub (lv' := [(0, .ref (ad 0)), (1, .int x1)]) [0, 1] rfl ?_
      exact k18 _ _ h
    · refine j_aload_n C dX7_throwIt_9 0 rfl ?_
      refine gf_X7_45 C dX7_throwIt_10 ?_
      refine j_iload_n C dX7_throwIt_13 1 rfl ?_
      refine al_wM_12 C h.1 dX7_throwIt_14 ?_
      replace h := h.2
      refine j_if_ne 38 C dX7_throwIt_15 rfl h (fun h => ?_) (fun h => ?_)
      · refine j_aload_n C dX7_throwIt_38 0 rfl ?_
        refine gf_X7_45 C dX7_throwIt_39 ?_
        refine j_iload_n C dX7_throwIt_42 1 rfl ?_
        refine al_wM_12 C h.1 dX7_throwIt_43 ?_
        replace h := h.2
        exact j_iret C dX7_throwIt_44 h
      · refine j_sub (lv' := [(0, .ref (ad 0)), (1, .int x1)]) [0, 1] rfl ?_
        exact k18 _ _ h
def wX7_found_b20 (σ : SS) (Q : Int32 → SS → Prop) : Prop := wX7_answer ((-1)) σ (fun r22 σ22 => Q r22 σ22)
def wX7_found (x1 : Int32) (σ : SS) (Q : Int32 → SS → Prop) : Prop := (0 ≤ x1 → wX7_found_b20 σ Q) ∧ (¬ 0 ≤ x1 → (x1 < ((-9)) → wX7_found_b20 σ Q) ∧ (¬ x1 < ((-9)) → vp_in (-x1) 10 ∧ (Q (gA σ 10 (-x1).toNatClampNeg) σ)))
set_option maxRecDepth 100000 in
set_option maxHeartbeats 4000000 in
theorem kX7_found_ok {l : Launch} {D : va_G} {cI cJ cZ : ClassId} {ad : Nat → Nat} (x1 : Int32) (σ0 : SS) {Q : Int32 → SS → Prop} (h : wX7_found x1 σ0 Q) : Ci l yX7_found (.code yX7_found cX7_found 2 (some .int) :: TT) { frames := 1, cells := 0, slots := 0, locals := 21 } D (tys cI cJ cZ) (wM cI cJ cZ ad) [.ref (ad 0), .int x1] σ0 Q := by
  refine Ci.of (lv := [(0, .ref (ad 0)), (1, .int x1)]) (by decide) adM (Nat.le_of_ble_eq_true rfl) rfl ?_
  intro p e s m args below meth c A C
  have k20 : ∀ (σ : SS), wX7_found_b20 σ Q → J p l e { frames := 1, cells := 0, slots := 0, locals := 21 } s m args below meth c D (wM cI cJ cZ ad) A 2 (MQ below (va_Qi Q (WW D (tys cI cJ cZ) (wM cI cJ cZ ad)) A) args s 0 0 A) σ 20 [(0, .ref (ad 0))] [] := by
    intro σ h
    refine j_aload_n C dX7_found_20 0 rfl ?_
    refine j_iconst (v := (-1)) C dX7_found_21 (by decide) ?_
    refine j_calli 0 [.int ((-1))] [] C (kX7_answer_ok ((-1)) σ h) (tt_V ml_X7_90 mV_X7_answer) ok_X7_answer ⟨by decide, by decide⟩ rfl (r_wM_0 (σ := σ)) (Nat.le_of_ble_eq_true rfl) rfl dX7_found_22 (fun r22 σ22 h => ?_)
    exact j_iret C dX7_found_25 h
  refine j_iload_n C dX7_found_0 1 rfl ?_
  refine j_if_ge 20 C dX7_found_1 rfl h (fun h => ?_) (fun h => ?_)
  · refine j_sub (lv' := [(0, .ref (ad 0))]) [0] rfl ?_
    exact k20 _ h
  · refine j_iload_n C dX7_found_4 1 rfl ?_
    refine j_bipush (v := (-9)) C dX7_found_5 (by decide) ?_
    refine j_icmp_lt 20 C dX7_found_7 rfl h (fun h => ?_) (fun h => ?_)
    · refine j_sub (lv' := [(0, .ref (ad 0))]) [0] rfl ?_
      exact k20 _ h
    · refine j_aload_n C dX7_found_10 0 rfl ?_
      refine gf_X7_48 C dX7_found_11 ?_
      refine j_iload_n C dX7_found_14 1 rfl ?_
      refine j_ineg C dX7_found_15 ?_
      refine al_wM_13 C h.1 dX7_found_16 ?_
      replace h := h.2
      refine j_goto 25 C dX7_found_17 rfl ?_
      exact j_iret C dX7_found_25 h
