theorem pm_s (P S K : va_W) : ((P ++ S) ++ K).Perm ((K ++ P) ++ S) := List.perm_append_comm.trans (by rw [List.append_assoc])
theorem pm_b (P S K : va_W) : ((P ++ S) ++ K).Perm ((P ++ K) ++ S) := by rw [List.append_assoc, List.append_assoc]; exact List.Perm.append_left P List.perm_append_comm
/-- the room of σa, with all that the room of σb has -/
def cpR (σb σa : SS) : SS := sAA (sAA (sAA (sAA (sAA (sAA (sBB (sAA (sAA (sBB (sAA (sI (sI (σa) 0 (gI σb 0)) 1 (gI σb 1)) 0 (va_cpy (gA σb 0) (gA σa 0) 0 0 40)) 0 (va_cpy (gB σb 0) (gB σa 0) 0 0 2560)) 1 (va_cpy (gA σb 1) (gA σa 1) 0 0 2560)) 2 (va_cpy (gA σb 2) (gA σa 2) 0 0 8)) 1 (va_cpy (gB σb 1) (gB σa 1) 0 0 8)) 3 (va_cpy (gA σb 3) (gA σa 3) 0 0 100)) 4 (va_cpy (gA σb 4) (gA σa 4) 0 0 100)) 5 (va_cpy (gA σb 5) (gA σa 5) 0 0 100)) 6 (va_cpy (gA σb 6) (gA σa 6) 0 0 100)) 7 (va_cpy (gA σb 7) (gA σa 7) 0 0 100)) 8 (va_cpy (gA σb 8) (gA σa 8) 0 0 4)
set_option maxRecDepth 100000 in
set_option maxHeartbeats 4000000 in
theorem kX3_become_ok {l : Launch} {D : va_G} {cI cJ cZ : ClassId} (ea eb : Nat → Nat) (σa σb : SS) : Cg (S := SS) l yX3_become (.code yX3_become cX3_become 2 none :: TT) { frames := 1, cells := 0, slots := 0, locals := 40 } D (tys cI cJ cZ) (wR cI cJ ea σa ++ wR cI cJ eb σb) [.ref (ea 0), .ref (eb 0)] (fun z => wR cI cJ ea z ++ wR cI cJ eb σb) (fun z => z = cpR σb σa) := by
  refine Cg.of (lv := [(0, .ref (ea 0)), (1, .ref (eb 0))]) (by decide) (Nat.le_of_ble_eq_true rfl) rfl ?_
  intro p e s m args below meth c A C hnm hA
  refine l_aload_n C dX3_become_0 0 rfl ?_
  refine l_aload_n C dX3_become_1 1 rfl ?_
  refine l_get 12 11 C inTX3 rfl rfl (by decide) mf_X3_46 rfl rfl dX3_become_2 ?_
  refine l_put (fty := .int) (ws' := wR cI cJ ea (sI (σa) 0 (gI σb 0)) ++ wR cI cJ eb σb) 0 11 C inTX3 tyX3 tyX3_ok nmX3 rfl rfl (by decide) mf_X3_46 rfl (Or.inl rfl) (by decide +kernel) rfl rfl (Nat.le_of_ble_eq_true rfl) rfl dX3_become_5 ?_
  refine l_aload_n C dX3_become_8 0 rfl ?_
  refine l_aload_n C dX3_become_9 1 rfl ?_
  refine l_get 12 12 C inTX3 rfl rfl (by decide) mf_X3_50 rfl rfl dX3_become_10 ?_
  refine l_put (fty := .int) (ws' := wR cI cJ ea (sI (sI (σa) 0 (gI σb 0)) 1 (gI σb 1)) ++ wR cI cJ eb σb) 0 12 C inTX3 tyX3 tyX3_ok nmX3 rfl rfl (by decide) mf_X3_50 rfl (Or.inl rfl) (by decide +kernel) rfl rfl (Nat.le_of_ble_eq_true rfl) rfl dX3_become_13 ?_
  refine l_aload_n C dX3_become_16 1 rfl ?_
  refine l_get 12 0 C inTX3 rfl rfl (by decide) mf_X3_9 rfl rfl dX3_become_17 ?_
  refine l_iconst (v := 0) C dX3_become_20 (by decide) ?_
  refine l_aload_n C dX3_become_21 0 rfl ?_
  refine l_get 0 0 C inTX3 rfl rfl (by decide) mf_X3_9 rfl rfl dX3_become_22 ?_
  refine l_iconst (v := 0) C dX3_become_25 (by decide) ?_
  refine l_bipush (v := 40) C dX3_become_26 (by decide) ?_
  refine l_copyi (N := 40) (ws' := wR cI cJ ea (sAA (sI (sI (σa) 0 (gI σb 0)) 1 (gI σb 1)) 0 (va_cpy (gA σb 0) (gA σa 0) 0 0 40)) ++ wR cI cJ eb σb) 13 1 0 C rfl rfl rfl rfl ml_X3_62 (by decide) (by decide) ⟨by decide, Nat.le_of_ble_eq_true rfl⟩ dX3_become_28 ?_
  refine l_aload_n C dX3_become_31 1 rfl ?_
  refine l_get 12 1 C inTX3 rfl rfl (by decide) mf_X3_15 rfl rfl dX3_become_32 ?_
  refine l_iconst (v := 0) C dX3_become_35 (by decide) ?_
  refine l_aload_n C dX3_become_36 0 rfl ?_
  refine l_get 0 1 C inTX3 rfl rfl (by decide) mf_X3_15 rfl rfl dX3_become_37 ?_
  refine l_iconst (v := 0) C dX3_become_40 (by decide) ?_
  refine l_sipush (v := 2560) C dX3_become_41 (by decide) ?_
  refine l_copyl (N := 2560) (ws' := wR cI cJ ea (sBB (sAA (sI (sI (σa) 0 (gI σb 0)) 1 (gI σb 1)) 0 (va_cpy (gA σb 0) (gA σa 0) 0 0 40)) 0 (va_cpy (gB σb 0) (gB σa 0) 0 0 2560)) ++ wR cI cJ eb σb) 14 2 1 C rfl rfl rfl rfl ml_X3_62 (by decide) (by decide) ⟨by decide, Nat.le_of_ble_eq_true rfl⟩ dX3_become_44 ?_
  refine l_aload_n C dX3_become_47 1 rfl ?_
  refine l_get 12 2 C inTX3 rfl rfl (by decide) mf_X3_19 rfl rfl dX3_become_48 ?_
  refine l_iconst (v := 0) C dX3_become_51 (by decide) ?_
  refine l_aload_n C dX3_become_52 0 rfl ?_
  refine l_get 0 2 C inTX3 rfl rfl (by decide) mf_X3_19 rfl rfl dX3_become_53 ?_
  refine l_iconst (v := 0) C dX3_become_56 (by decide) ?_
  refine l_sipush (v := 2560) C dX3_become_57 (by decide) ?_
  refine l_copyi (N := 2560) (ws' := wR cI cJ ea (sAA (sBB (sAA (sI (sI (σa) 0 (gI σb 0)) 1 (gI σb 1)) 0 (va_cpy (gA σb 0) (gA σa 0) 0 0 40)) 0 (va_cpy (gB σb 0) (gB σa 0) 0 0 2560)) 1 (va_cpy (gA σb 1) (gA σa 1) 0 0 2560)) ++ wR cI cJ eb σb) 15 3 0 C rfl rfl rfl rfl ml_X3_62 (by decide) (by decide) ⟨by decide, Nat.le_of_ble_eq_true rfl⟩ dX3_become_60 ?_
  refine l_aload_n C dX3_become_63 1 rfl ?_
  refine l_get 12 3 C inTX3 rfl rfl (by decide) mf_X3_22 rfl rfl dX3_become_64 ?_
  refine l_iconst (v := 0) C dX3_become_67 (by decide) ?_
  refine l_aload_n C dX3_become_68 0 rfl ?_
  refine l_get 0 3 C inTX3 rfl rfl (by decide) mf_X3_22 rfl rfl dX3_become_69 ?_
  refine l_iconst (v := 0) C dX3_become_72 (by decide) ?_
  refine l_bipush (v := 8) C dX3_become_73 (by decide) ?_
  refine l_copyi (N := 8) (ws' := wR cI cJ ea (sAA (sAA (sBB (sAA (sI (sI (σa) 0 (gI σb 0)) 1 (gI σb 1)) 0 (va_cpy (gA σb 0) (gA σa 0) 0 0 40)) 0 (va_cpy (gB σb 0) (gB σa 0) 0 0 2560)) 1 (va_cpy (gA σb 1) (gA σa 1) 0 0 2560)) 2 (va_cpy (gA σb 2) (gA σa 2) 0 0 8)) ++ wR cI cJ eb σb) 16 4 0 C rfl rfl rfl rfl ml_X3_62 (by decide) (by decide) ⟨by decide, Nat.le_of_ble_eq_true rfl⟩ dX3_become_75 ?_
  refine l_aload_n C dX3_become_78 1 rfl ?_
  refine l_get 12 4 C inTX3 rfl rfl (by decide) mf_X3_25 rfl rfl dX3_become_79 ?_
  refine l_iconst (v := 0) C dX3_become_82 (by decide) ?_
  refine l_aload_n C dX3_become_83 0 rfl ?_
  refine l_get 0 4 C inTX3 rfl rfl (by decide) mf_X3_25 rfl rfl dX3_become_84 ?_
  refine l_iconst (v := 0) C dX3_become_87 (by decide) ?_
  refine l_bipush (v := 8) C dX3_become_88 (by decide) ?_
  refine l_copyl (N := 8) (ws' := wR cI cJ ea (sBB (sAA (sAA (sBB (sAA (sI (sI (σa) 0 (gI σb 0)) 1 (gI σb 1)) 0 (va_cpy (gA σb 0) (gA σa 0) 0 0 40)) 0 (va_cpy (gB σb 0) (gB σa 0) 0 0 2560)) 1 (va_cpy (gA σb 1) (gA σa 1) 0 0 2560)) 2 (va_cpy (gA σb 2) (gA σa 2) 0 0 8)) 1 (va_cpy (gB σb 1) (gB σa 1) 0 0 8)) ++ wR cI cJ eb σb) 17 5 1 C rfl rfl rfl rfl ml_X3_62 (by decide) (by decide) ⟨by decide, Nat.le_of_ble_eq_true rfl⟩ dX3_become_90 ?_
  refine l_aload_n C dX3_become_93 1 rfl ?_
  refine l_get 12 5 C inTX3 rfl rfl (by decide) mf_X3_28 rfl rfl dX3_become_94 ?_
  refine l_iconst (v := 0) C dX3_become_97 (by decide) ?_
  refine l_aload_n C dX3_become_98 0 rfl ?_
  refine l_get 0 5 C inTX3 rfl rfl (by decide) mf_X3_28 rfl rfl dX3_become_99 ?_
  refine l_iconst (v := 0) C dX3_become_102 (by decide) ?_
  refine l_bipush (v := 100) C dX3_become_103 (by decide) ?_
  refine l_copyi (N := 100) (ws' := wR cI cJ ea (sAA (sBB (sAA (sAA (sBB (sAA (sI (sI (σa) 0 (gI σb 0)) 1 (gI σb 1)) 0 (va_cpy (gA σb 0) (gA σa 0) 0 0 40)) 0 (va_cpy (gB σb 0) (gB σa 0) 0 0 2560)) 1 (va_cpy (gA σb 1) (gA σa 1) 0 0 2560)) 2 (va_cpy (gA σb 2) (gA σa 2) 0 0 8)) 1 (va_cpy (gB σb 1) (gB σa 1) 0 0 8)) 3 (va_cpy (gA σb 3) (gA σa 3) 0 0 100)) ++ wR cI cJ eb σb) 18 6 0 C rfl rfl rfl rfl ml_X3_62 (by decide) (by decide) ⟨by decide, Nat.le_of_ble_eq_true rfl⟩ dX3_become_105 ?_
  refine l_aload_n C dX3_become_108 1 rfl ?_
  refine l_get 12 6 C inTX3 rfl rfl (by decide) mf_X3_31 rfl rfl dX3_become_109 ?_
  refine l_iconst (v := 0) C dX3_become_112 (by decide) ?_
  refine l_aload_n C dX3_become_113 0 rfl ?_
  refine l_get 0 6 C inTX3 rfl rfl (by decide) mf_X3_31 rfl rfl dX3_become_114 ?_
  refine l_iconst (v := 0) C dX3_become_117 (by decide) ?_
  refine l_bipush (v := 100) C dX3_become_118 (by decide) ?_
  refine l_copyi (N := 100) (ws' := wR cI cJ ea (sAA (sAA (sBB (sAA (sAA (sBB (sAA (sI (sI (σa) 0 (gI σb 0)) 1 (gI σb 1)) 0 (va_cpy (gA σb 0) (gA σa 0) 0 0 40)) 0 (va_cpy (gB σb 0) (gB σa 0) 0 0 2560)) 1 (va_cpy (gA σb 1) (gA σa 1) 0 0 2560)) 2 (va_cpy (gA σb 2) (gA σa 2) 0 0 8)) 1 (va_cpy (gB σb 1) (gB σa 1) 0 0 8)) 3 (va_cpy (gA σb 3) (gA σa 3) 0 0 100)) 4 (va_cpy (gA σb 4) (gA σa 4) 0 0 100)) ++ wR cI cJ eb σb) 19 7 0 C rfl rfl rfl rfl ml_X3_62 (by decide) (by decide) ⟨by decide, Nat.le_of_ble_eq_true rfl⟩ dX3_become_120 ?_
  refine l_aload_n C dX3_become_123 1 rfl ?_
  refine l_get 12 7 C inTX3 rfl rfl (by decide) mf_X3_34 rfl rfl dX3_become_124 ?_
  refine l_iconst (v := 0) C dX3_become_127 (by decide) ?_
  refine l_aload_n C dX3_become_128 0 rfl ?_
  refine l_get 0 7 C inTX3 rfl rfl (by decide) mf_X3_34 rfl rfl dX3_become_129 ?_
  refine l_iconst (v := 0) C dX3_become_132 (by decide) ?_
  refine l_bipush (v := 100) C dX3_become_133 (by decide) ?_
  refine l_copyi (N := 100) (ws' := wR cI cJ ea (sAA (sAA (sAA (sBB (sAA (sAA (sBB (sAA (sI (sI (σa) 0 (gI σb 0)) 1 (gI σb 1)) 0 (va_cpy (gA σb 0) (gA σa 0) 0 0 40)) 0 (va_cpy (gB σb 0) (gB σa 0) 0 0 2560)) 1 (va_cpy (gA σb 1) (gA σa 1) 0 0 2560)) 2 (va_cpy (gA σb 2) (gA σa 2) 0 0 8)) 1 (va_cpy (gB σb 1) (gB σa 1) 0 0 8)) 3 (va_cpy (gA σb 3) (gA σa 3) 0 0 100)) 4 (va_cpy (gA σb 4) (gA σa 4) 0 0 100)) 5 (va_cpy (gA σb 5) (gA σa 5) 0 0 100)) ++ wR cI cJ eb σb) 20 8 0 C rfl rfl rfl rfl ml_X3_62 (by decide) (by decide) ⟨by decide, Nat.le_of_ble_eq_true rfl⟩ dX3_become_135 ?_
  refine l_aload_n C dX3_become_138 1 rfl ?_
  refine l_get 12 8 C inTX3 rfl rfl (by decide) mf_X3_37 rfl rfl dX3_become_139 ?_
  refine l_iconst (v := 0) C dX3_become_142 (by decide) ?_
  refine l_aload_n C dX3_become_143 0 rfl ?_
  refine l_get 0 8 C inTX3 rfl rfl (by decide) mf_X3_37 rfl rfl dX3_become_144 ?_
  refine l_iconst (v := 0) C dX3_become_147 (by decide) ?_
  refine l_bipush (v := 100) C dX3_become_148 (by decide) ?_
  refine l_copyi (N := 100) (ws' := wR cI cJ ea (sAA (sAA (sAA (sAA (sBB (sAA (sAA (sBB (sAA (sI (sI (σa) 0 (gI σb 0)) 1 (gI σb 1)) 0 (va_cpy (gA σb 0) (gA σa 0) 0 0 40)) 0 (va_cpy (gB σb 0) (gB σa 0) 0 0 2560)) 1 (va_cpy (gA σb 1) (gA σa 1) 0 0 2560)) 2 (va_cpy (gA σb 2) (gA σa 2) 0 0 8)) 1 (va_cpy (gB σb 1) (gB σa 1) 0 0 8)) 3 (va_cpy (gA σb 3) (gA σa 3) 0 0 100)) 4 (va_cpy (gA σb 4) (gA σa 4) 0 0 100)) 5 (va_cpy (gA σb 5) (gA σa 5) 0 0 100)) 6 (va_cpy (gA σb 6) (gA σa 6) 0 0 100)) ++ wR cI cJ eb σb) 21 9 0 C rfl rfl rfl rfl ml_X3_62 (by decide) (by decide) ⟨by decide, Nat.le_of_ble_eq_true rfl⟩ dX3_become_150 ?_
  refine l_aload_n C dX3_become_153 1 rfl ?_
  refine l_get 12 9 C inTX3 rfl rfl (by decide) mf_X3_40 rfl rfl dX3_become_154 ?_
  refine l_iconst (v := 0) C dX3_become_157 (by decide) ?_
  refine l_aload_n C dX3_become_158 0 rfl ?_
  refine l_get 0 9 C inTX3 rfl rfl (by decide) mf_X3_40 rfl rfl dX3_become_159 ?_
  refine l_iconst (v := 0) C dX3_become_162 (by decide) ?_
  refine l_bipush (v := 100) C dX3_become_163 (by decide) ?_
  refine l_copyi (N := 100) (ws' := wR cI cJ ea (sAA (sAA (sAA (sAA (sAA (sBB (sAA (sAA (sBB (sAA (sI (sI (σa) 0 (gI σb 0)) 1 (gI σb 1)) 0 (va_cpy (gA σb 0) (gA σa 0) 0 0 40)) 0 (va_cpy (gB σb 0) (gB σa 0) 0 0 2560)) 1 (va_cpy (gA σb 1) (gA σa 1) 0 0 2560)) 2 (va_cpy (gA σb 2) (gA σa 2) 0 0 8)) 1 (va_cpy (gB σb 1) (gB σa 1) 0 0 8)) 3 (va_cpy (gA σb 3) (gA σa 3) 0 0 100)) 4 (va_cpy (gA σb 4) (gA σa 4) 0 0 100)) 5 (va_cpy (gA σb 5) (gA σa 5) 0 0 100)) 6 (va_cpy (gA σb 6) (gA σa 6) 0 0 100)) 7 (va_cpy (gA σb 7) (gA σa 7) 0 0 100)) ++ wR cI cJ eb σb) 22 10 0 C rfl rfl rfl rfl ml_X3_62 (by decide) (by decide) ⟨by decide, Nat.le_of_ble_eq_true rfl⟩ dX3_become_165 ?_
  refine l_aload_n C dX3_become_168 1 rfl ?_
  refine l_get 12 10 C inTX3 rfl rfl (by decide) mf_X3_43 rfl rfl dX3_become_169 ?_
  refine l_iconst (v := 0) C dX3_become_172 (by decide) ?_
  refine l_aload_n C dX3_become_173 0 rfl ?_
  refine l_get 0 10 C inTX3 rfl rfl (by decide) mf_X3_43 rfl rfl dX3_become_174 ?_
  refine l_iconst (v := 0) C dX3_become_177 (by decide) ?_
  refine l_iconst (v := 4) C dX3_become_178 (by decide) ?_
  refine l_copyi (N := 4) (ws' := wR cI cJ ea (sAA (sAA (sAA (sAA (sAA (sAA (sBB (sAA (sAA (sBB (sAA (sI (sI (σa) 0 (gI σb 0)) 1 (gI σb 1)) 0 (va_cpy (gA σb 0) (gA σa 0) 0 0 40)) 0 (va_cpy (gB σb 0) (gB σa 0) 0 0 2560)) 1 (va_cpy (gA σb 1) (gA σa 1) 0 0 2560)) 2 (va_cpy (gA σb 2) (gA σa 2) 0 0 8)) 1 (va_cpy (gB σb 1) (gB σa 1) 0 0 8)) 3 (va_cpy (gA σb 3) (gA σa 3) 0 0 100)) 4 (va_cpy (gA σb 4) (gA σa 4) 0 0 100)) 5 (va_cpy (gA σb 5) (gA σa 5) 0 0 100)) 6 (va_cpy (gA σb 6) (gA σa 6) 0 0 100)) 7 (va_cpy (gA σb 7) (gA σa 7) 0 0 100)) 8 (va_cpy (gA σb 8) (gA σa 8) 0 0 4)) ++ wR cI cJ eb σb) 23 11 0 C rfl rfl rfl rfl ml_X3_62 (by decide) (by decide) ⟨by decide, Nat.le_of_ble_eq_true rfl⟩ dX3_become_179 ?_
  exact l_vret (Av := A) C (cpR σb σa) hA rfl rfl dX3_become_182
theorem cpR_Xr (cI cJ : ClassId) (ad : Nat → Nat) (kv : Value) (σb σa : SS) : wXr cI cJ ad kv (cpR σb σa) = wXr cI cJ ad kv σa := rfl
set_option maxRecDepth 100000 in
set_option maxHeartbeats 4000000 in
/-- save, where a room is kept -/
theorem kX6_saveS_ok {l : Launch} {D : va_G} {cI cJ cZ : ClassId} (ad ed : Nat → Nat) (σ σk : SS) : Cgi (S := SS) l yX6_save (.code yX6_save cX6_save 1 (some .int) :: TT) { frames := 2, cells := 12, slots := 5693, locals := 61 } D (tys cI cJ cZ) ((wR cI cJ ad σ ++ wXr cI cJ ad (.ref (ed 0)) σ) ++ wR cI cJ ed σk) [.ref (ad 18)] (fun z => (wR cI cJ ad σ ++ wXr cI cJ ad (.ref (ed 0)) σ) ++ wR cI cJ ed z) (fun r z => r = 1 ∧ z = cpR σ σk) := by
  refine Cgi.of (lv := [(0, .ref (ad 18))]) (by decide) (Nat.le_of_ble_eq_true rfl) rfl ?_
  intro p e s m args below meth c A C hnm hA
  refine l_aload_n C dX6_save_0 0 rfl ?_
  refine l_get 18 6 C inTX6 rfl rfl (by decide) mf_X6_48 rfl rfl dX6_save_1 ?_
  refine l_ifnonnull 18 C dX6_save_4 rfl ?_
  refine l_aload_n C dX6_save_18 0 rfl ?_
  refine l_get 18 6 C inTX6 rfl rfl (by decide) mf_X6_48 rfl rfl dX6_save_19 ?_
  refine l_aload_n C dX6_save_22 0 rfl ?_
  refine l_get 18 0 C inTX6 rfl rfl (by decide) mf_X6_12 rfl rfl dX6_save_23 ?_
  refine l_perm (pm_s (wR cI cJ ad σ) (wXr cI cJ ad (.ref (ed 0)) σ) (wR cI cJ ed σk)) ?_
  refine l_callv 0 [.ref (ad 0)] [] C (kX3_become_ok ed ad σk σ) (tt_V ml_X6_226 mV_X3_become) ok_X3_become ⟨by decide, by decide⟩ ⟨by decide, by decide⟩ rfl rfl (Nat.le_of_ble_eq_true rfl) rfl dX6_save_26 (fun z hz => ?_)
  refine l_perm (pm_s (wR cI cJ ad σ) (wXr cI cJ ad (.ref (ed 0)) σ) (wR cI cJ ed z)).symm ?_
  refine l_iconst (v := 1) C dX6_save_29 (by decide) ?_
  refine l_widen (k' := 12) (n' := 5693) (by decide) (by decide) ?_
  exact l_iret C z hA rfl ⟨rfl, hz⟩ dX6_save_30
set_option maxRecDepth 100000 in
set_option maxHeartbeats 4000000 in
/-- save, where nothing is kept -/
theorem kX6_saveN_ok {l : Launch} {D : va_G} {cI cJ cZ : ClassId} (ad : Nat → Nat) (σ : SS) : Cgi (S := (Nat → Nat) × SS) l yX6_save (.code yX6_save cX6_save 1 (some .int) :: TT) { frames := 2, cells := 12, slots := 5693, locals := 61 } D (tys cI cJ cZ) (wX cI cJ ad .null σ) [.ref (ad 18)] (fun z => (wR cI cJ ad σ ++ wXr cI cJ ad (.ref (z.1 0)) σ) ++ wR cI cJ z.1 z.2) (fun r z => r = 1 ∧ z.2 = cpR σ sX0) := by
  refine Cgi.of (lv := [(0, .ref (ad 18))]) (by decide) (Nat.le_of_ble_eq_true rfl) rfl ?_
  intro p e s m args below meth c A C hnm hA
  refine l_aload_n C dX6_save_0 0 rfl ?_
  refine l_get 18 6 C inTX6 rfl rfl (by decide) mf_X6_48 rfl rfl dX6_save_1 ?_
  refine l_ifnonnullN C dX6_save_4 ?_
  refine l_aload_n C dX6_save_7 0 rfl ?_
  refine l_new (ci := 2) (fs := [.null, .null, .null, .null, .null, .null, .null, .null, .null, .null, .null, .int 0, .int 0]) C inTX3 tyX3 tyX3_ok mcl_X6_9 mins_X3 mi_X3 rfl fdX3 (by decide) (by decide) dX6_save_8 (fun q => ?_)
  refine l_dup C dX6_save_11 rfl ?_
  refine l_perm (pm_com (wX cI cJ ad .null σ) [(q, .inr (2, [.null, .null, .null, .null, .null, .null, .null, .null, .null, .null, .null, .int 0, .int 0]))]) ?_
  refine l_callI [] [.ref q, .ref (ad 18)] C (kX3_init_ok q) mc_X3_init ml_X6_11 mm_X3_init mi_X3 rfl ok_X3_init ⟨by decide, by decide⟩ ⟨by decide, by decide⟩ (Nat.le_of_ble_eq_true rfl) rfl dX6_save_12 (fun z hz => ?_)
  rw [show q = z 0 from hz.symm]
  refine l_perm (pm_com (wR cI cJ z sX0) (wX cI cJ ad .null σ)) ?_
  refine l_put (fty := .object "RoomWarden$Room") (ws' := (wR cI cJ ad σ ++ wXr cI cJ ad (.ref (z 0)) σ) ++ wR cI cJ z sX0) 18 6 C inTX6 tyX6 tyX6_ok nmX6 rfl rfl (by decide) mf_X6_48 rfl (Or.inl rfl) (by decide +kernel) rfl rfl (Nat.le_of_ble_eq_true rfl) rfl dX6_save_15 ?_
  refine l_aload_n C dX6_save_18 0 rfl ?_
  refine l_get 18 6 C inTX6 rfl rfl (by decide) mf_X6_48 rfl rfl dX6_save_19 ?_
  refine l_aload_n C dX6_save_22 0 rfl ?_
  refine l_get 18 0 C inTX6 rfl rfl (by decide) mf_X6_12 rfl rfl dX6_save_23 ?_
  refine l_perm (pm_s (wR cI cJ ad σ) (wXr cI cJ ad (.ref (z 0)) σ) (wR cI cJ z sX0)) ?_
  refine l_callv 0 [.ref (ad 0)] [] C (kX3_become_ok z ad sX0 σ) (tt_V ml_X6_226 mV_X3_become) ok_X3_become ⟨by decide, by decide⟩ ⟨by decide, by decide⟩ rfl rfl (Nat.le_of_ble_eq_true rfl) rfl dX6_save_26 (fun y hy => ?_)
  refine l_perm (pm_s (wR cI cJ ad σ) (wXr cI cJ ad (.ref (z 0)) σ) (wR cI cJ z y)).symm ?_
  refine l_iconst (v := 1) C dX6_save_29 (by decide) ?_
  refine l_widen (k' := 12) (n' := 5693) (by decide) (by decide) ?_
  exact l_iret C (z, y) hA rfl ⟨rfl, hy⟩ dX6_save_30
set_option maxRecDepth 100000 in
set_option maxHeartbeats 4000000 in
/-- back, where a room is kept -/
theorem kX6_backS_ok {l : Launch} {D : va_G} {cI cJ cZ : ClassId} (ad ed : Nat → Nat) (σ σk : SS) : Cgi (S := SS) l yX6_back (.code yX6_back cX6_back 1 (some .int) :: TT) { frames := 2, cells := 0, slots := 0, locals := 61 } D (tys cI cJ cZ) ((wR cI cJ ad σ ++ wXr cI cJ ad (.ref (ed 0)) σ) ++ wR cI cJ ed σk) [.ref (ad 18)] (fun z => (wR cI cJ ad z ++ wXr cI cJ ad (.ref (ed 0)) z) ++ wR cI cJ ed σk) (fun r z => r = 1 ∧ z = cpR σk σ) := by
  refine Cgi.of (lv := [(0, .ref (ad 18))]) (by decide) (Nat.le_of_ble_eq_true rfl) rfl ?_
  intro p e s m args below meth c A C hnm hA
  refine l_aload_n C dX6_back_0 0 rfl ?_
  refine l_get 18 6 C inTX6 rfl rfl (by decide) mf_X6_48 rfl rfl dX6_back_1 ?_
  refine l_ifnonnull 14 C dX6_back_4 rfl ?_
  refine l_aload_n C dX6_back_14 0 rfl ?_
  refine l_get 18 0 C inTX6 rfl rfl (by decide) mf_X6_12 rfl rfl dX6_back_15 ?_
  refine l_aload_n C dX6_back_18 0 rfl ?_
  refine l_get 18 6 C inTX6 rfl rfl (by decide) mf_X6_48 rfl rfl dX6_back_19 ?_
  refine l_perm (pm_b (wR cI cJ ad σ) (wXr cI cJ ad (.ref (ed 0)) σ) (wR cI cJ ed σk)) ?_
  refine l_callv 0 [.ref (ed 0)] [] C (kX3_become_ok ad ed σ σk) (tt_V ml_X6_226 mV_X3_become) ok_X3_become ⟨by decide, by decide⟩ ⟨by decide, by decide⟩ rfl rfl (Nat.le_of_ble_eq_true rfl) rfl dX6_back_22 (fun z hz => ?_)
  subst hz
  refine l_perm (pm_b (wR cI cJ ad (cpR σk σ)) (wXr cI cJ ad (.ref (ed 0)) σ) (wR cI cJ ed σk)).symm ?_
  refine l_iconst (v := 1) C dX6_back_25 (by decide) ?_
  exact l_iret C (cpR σk σ) hA rfl ⟨rfl, rfl⟩ dX6_back_26
set_option maxRecDepth 100000 in
set_option maxHeartbeats 4000000 in
/-- back, where nothing is kept -/
theorem kX6_backN_ok {l : Launch} {D : va_G} {cI cJ cZ : ClassId} (ad : Nat → Nat) (σ : SS) {Q : Int32 → SS → Prop} (h : wX6_tell (-4) σ Q) : Cgi (S := SS) l yX6_back (.code yX6_back cX6_back 1 (some .int) :: TT) { frames := 2, cells := 0, slots := 0, locals := 61 } D (tys cI cJ cZ) (wX cI cJ ad .null σ) [.ref (ad 18)] (fun z => wX cI cJ ad .null z) Q := by
  refine Cgi.of (lv := [(0, .ref (ad 18))]) (by decide) (Nat.le_of_ble_eq_true rfl) rfl ?_
  intro p e s m args below meth c A C hnm hA
  refine l_aload_n C dX6_back_0 0 rfl ?_
  refine l_get 18 6 C inTX6 rfl rfl (by decide) mf_X6_48 rfl rfl dX6_back_1 ?_
  refine l_ifnonnullN C dX6_back_4 ?_
  refine l_aload_n C dX6_back_7 0 rfl ?_
  refine l_bipush (v := (-4)) C dX6_back_8 (by decide) ?_
  refine l_eq (ws' := wX cI cJ ad .null σ ++ ([] : va_W)) (List.append_nil _).symm ?_
  refine l_calli 18 [.int (-4)] [] C ((kX6_tell_ok (-4) σ h).g adX) (tt_V ml_X6_55 mV_X6_tell) ok_X6_tell ⟨by decide, by decide⟩ ⟨by decide, by decide⟩ rfl rfl (Nat.le_of_ble_eq_true rfl) rfl dX6_back_10 (fun r z hz => ?_)
  refine l_eq (ws' := wX cI cJ ad .null z) (List.append_nil _) ?_
  exact l_iret C z hA rfl hz dX6_back_13
