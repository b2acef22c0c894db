abbrev Y_J6_bitCount_0f7a4 : My := (yJ6_bitCount_0f7a4, cJ6_bitCount_0f7a4, 1, some .int)
theorem dJ6_bitCount_0f7a4_0 : decode cJ6_bitCount_0f7a4 0 = .ok (.iload_n 0, 1) := by decide +kernel
theorem dJ6_bitCount_0f7a4_1 : decode cJ6_bitCount_0f7a4 1 = .ok (.iload_n 0, 1) := by decide +kernel
theorem dJ6_bitCount_0f7a4_2 : decode cJ6_bitCount_0f7a4 2 = .ok (.iconst 1, 1) := by decide +kernel
theorem dJ6_bitCount_0f7a4_3 : decode cJ6_bitCount_0f7a4 3 = .ok (.iushr, 1) := by decide +kernel
theorem dJ6_bitCount_0f7a4_4 : decode cJ6_bitCount_0f7a4 4 = .ok (.ldc_w 265, 3) := by decide +kernel
theorem dJ6_bitCount_0f7a4_7 : decode cJ6_bitCount_0f7a4 7 = .ok (.iand, 1) := by decide +kernel
theorem dJ6_bitCount_0f7a4_8 : decode cJ6_bitCount_0f7a4 8 = .ok (.isub, 1) := by decide +kernel
theorem dJ6_bitCount_0f7a4_9 : decode cJ6_bitCount_0f7a4 9 = .ok (.istore_n 0, 1) := by decide +kernel
theorem dJ6_bitCount_0f7a4_10 : decode cJ6_bitCount_0f7a4 10 = .ok (.iload_n 0, 1) := by decide +kernel
theorem dJ6_bitCount_0f7a4_11 : decode cJ6_bitCount_0f7a4 11 = .ok (.ldc_w 266, 3) := by decide +kernel
theorem dJ6_bitCount_0f7a4_14 : decode cJ6_bitCount_0f7a4 14 = .ok (.iand, 1) := by decide +kernel
theorem dJ6_bitCount_0f7a4_15 : decode cJ6_bitCount_0f7a4 15 = .ok (.iload_n 0, 1) := by decide +kernel
theorem dJ6_bitCount_0f7a4_16 : decode cJ6_bitCount_0f7a4 16 = .ok (.iconst 2, 1) := by decide +kernel
theorem dJ6_bitCount_0f7a4_17 : decode cJ6_bitCount_0f7a4 17 = .ok (.iushr, 1) := by decide +kernel
theorem dJ6_bitCount_0f7a4_18 : decode cJ6_bitCount_0f7a4 18 = .ok (.ldc_w 266, 3) := by decide +kernel
theorem dJ6_bitCount_0f7a4_21 : decode cJ6_bitCount_0f7a4 21 = .ok (.iand, 1) := by decide +kernel
theorem dJ6_bitCount_0f7a4_22 : decode cJ6_bitCount_0f7a4 22 = .ok (.iadd, 1) := by decide +kernel
theorem dJ6_bitCount_0f7a4_23 : decode cJ6_bitCount_0f7a4 23 = .ok (.istore_n 0, 1) := by decide +kernel
theorem dJ6_bitCount_0f7a4_24 : decode cJ6_bitCount_0f7a4 24 = .ok (.iload_n 0, 1) := by decide +kernel
theorem dJ6_bitCount_0f7a4_25 : decode cJ6_bitCount_0f7a4 25 = .ok (.iload_n 0, 1) := by decide +kernel
theorem dJ6_bitCount_0f7a4_26 : decode cJ6_bitCount_0f7a4 26 = .ok (.iconst 4, 1) := by decide +kernel
theorem dJ6_bitCount_0f7a4_27 : decode cJ6_bitCount_0f7a4 27 = .ok (.iushr, 1) := by decide +kernel
theorem dJ6_bitCount_0f7a4_28 : decode cJ6_bitCount_0f7a4 28 = .ok (.iadd, 1) := by decide +kernel
theorem dJ6_bitCount_0f7a4_29 : decode cJ6_bitCount_0f7a4 29 = .ok (.ldc_w 267, 3) := by decide +kernel
theorem dJ6_bitCount_0f7a4_32 : decode cJ6_bitCount_0f7a4 32 = .ok (.iand, 1) := by decide +kernel
theorem dJ6_bitCount_0f7a4_33 : decode cJ6_bitCount_0f7a4 33 = .ok (.istore_n 0, 1) := by decide +kernel
theorem dJ6_bitCount_0f7a4_34 : decode cJ6_bitCount_0f7a4 34 = .ok (.iload_n 0, 1) := by decide +kernel
theorem dJ6_bitCount_0f7a4_35 : decode cJ6_bitCount_0f7a4 35 = .ok (.iload_n 0, 1) := by decide +kernel
theorem dJ6_bitCount_0f7a4_36 : decode cJ6_bitCount_0f7a4 36 = .ok (.bipush 8, 2) := by decide +kernel
theorem dJ6_bitCount_0f7a4_38 : decode cJ6_bitCount_0f7a4 38 = .ok (.iushr, 1) := by decide +kernel
theorem dJ6_bitCount_0f7a4_39 : decode cJ6_bitCount_0f7a4 39 = .ok (.iadd, 1) := by decide +kernel
theorem dJ6_bitCount_0f7a4_40 : decode cJ6_bitCount_0f7a4 40 = .ok (.istore_n 0, 1) := by decide +kernel
theorem dJ6_bitCount_0f7a4_41 : decode cJ6_bitCount_0f7a4 41 = .ok (.iload_n 0, 1) := by decide +kernel
theorem dJ6_bitCount_0f7a4_42 : decode cJ6_bitCount_0f7a4 42 = .ok (.iload_n 0, 1) := by decide +kernel
theorem dJ6_bitCount_0f7a4_43 : decode cJ6_bitCount_0f7a4 43 = .ok (.bipush 16, 2) := by decide +kernel
theorem dJ6_bitCount_0f7a4_45 : decode cJ6_bitCount_0f7a4 45 = .ok (.iushr, 1) := by decide +kernel
theorem dJ6_bitCount_0f7a4_46 : decode cJ6_bitCount_0f7a4 46 = .ok (.iadd, 1) := by decide +kernel
theorem dJ6_bitCount_0f7a4_47 : decode cJ6_bitCount_0f7a4 47 = .ok (.istore_n 0, 1) := by decide +kernel
theorem dJ6_bitCount_0f7a4_48 : decode cJ6_bitCount_0f7a4 48 = .ok (.iload_n 0, 1) := by decide +kernel
theorem dJ6_bitCount_0f7a4_49 : decode cJ6_bitCount_0f7a4 49 = .ok (.bipush 63, 2) := by decide +kernel
theorem dJ6_bitCount_0f7a4_51 : decode cJ6_bitCount_0f7a4 51 = .ok (.iand, 1) := by decide +kernel
theorem dJ6_bitCount_0f7a4_52 : decode cJ6_bitCount_0f7a4 52 = .ok (.ireturn, 1) := by decide +kernel
theorem ki_RJ6_265 : Cond.constant RJ6 265 (1431655765) ∈ tG := inG (i := 1057) (by decide +kernel) (by decide +kernel)
theorem ki_RJ6_266 : Cond.constant RJ6 266 (858993459) ∈ tG := inG (i := 1058) (by decide +kernel) (by decide +kernel)
theorem ki_RJ6_267 : Cond.constant RJ6 267 (252645135) ∈ tG := inG (i := 1059) (by decide +kernel) (by decide +kernel)
def P_J6_bitCount_0f7a4  (x0 : Int) (σ : St) (Q : Int → St → Prop) : Prop :=
  Q (bA (wi ((wi ((bA (wi ((wi ((bA (wi (x0 - (bA (bU x0 1) 1431655765))) 858993459) + (bA (bU (wi (x0 - (bA (bU x0 1) 1431655765))) 2) 858993459))) + (bU (wi ((bA (wi (x0 - (bA (bU x0 1) 1431655765))) 858993459) + (bA (bU (wi (x0 - (bA (bU x0 1) 1431655765))) 2) 858993459))) 4))) 252645135) + (bU (bA (wi ((wi ((bA (wi (x0 - (bA (bU x0 1) 1431655765))) 858993459) + (bA (bU (wi (x0 - (bA (bU x0 1) 1431655765))) 2) 858993459))) + (bU (wi ((bA (wi (x0 - (bA (bU x0 1) 1431655765))) 858993459) + (bA (bU (wi (x0 - (bA (bU x0 1) 1431655765))) 2) 858993459))) 4))) 252645135) 8))) + (bU (wi ((bA (wi ((wi ((bA (wi (x0 - (bA (bU x0 1) 1431655765))) 858993459) + (bA (bU (wi (x0 - (bA (bU x0 1) 1431655765))) 2) 858993459))) + (bU (wi ((bA (wi (x0 - (bA (bU x0 1) 1431655765))) 858993459) + (bA (bU (wi (x0 - (bA (bU x0 1) 1431655765))) 2) 858993459))) 4))) 252645135) + (bU (bA (wi ((wi ((bA (wi (x0 - (bA (bU x0 1) 1431655765))) 858993459) + (bA (bU (wi (x0 - (bA (bU x0 1) 1431655765))) 2) 858993459))) + (bU (wi ((bA (wi (x0 - (bA (bU x0 1) 1431655765))) 858993459) + (bA (bU (wi (x0 - (bA (bU x0 1) 1431655765))) 2) 858993459))) 4))) 252645135) 8))) 16))) 63) σ
set_option maxRecDepth 20000 in
set_option maxHeartbeats 2000000 in
theorem s_J6_bitCount_0f7a4   {x0 : Int} {σ : St} {Q : Int → St → Prop} (h : P_J6_bitCount_0f7a4 x0 σ Q) : Cn Y_J6_bitCount_0f7a4 0 0 0 ww σ [vI x0] (QI Q) := by
  refine Cn_of [some (vI x0)] (by decide) (Nat.le_of_ble_eq_true rfl) rfl ?_
  unfold P_J6_bitCount_0f7a4 at h
  refine E_iload_n dJ6_bitCount_0f7a4_0 rfl rfl ?_
  refine E_iload_n dJ6_bitCount_0f7a4_1 rfl rfl ?_
  refine E_ic dJ6_bitCount_0f7a4_2 rfl ?_
  refine E_iushr dJ6_bitCount_0f7a4_3 ?_
  refine E_ldcw (z := 1431655765) dJ6_bitCount_0f7a4_4 ki_RJ6_265 (by decide) ?_
  refine E_iand dJ6_bitCount_0f7a4_7 ?_
  refine E_isub dJ6_bitCount_0f7a4_8 ?_
  refine E_istore_n (ls' := [some (vI (wi (x0 - (bA (bU x0 1) 1431655765))))]) dJ6_bitCount_0f7a4_9 rfl (by decide) rfl ?_
  refine E_iload_n dJ6_bitCount_0f7a4_10 rfl rfl ?_
  refine E_ldcw (z := 858993459) dJ6_bitCount_0f7a4_11 ki_RJ6_266 (by decide) ?_
  refine E_iand dJ6_bitCount_0f7a4_14 ?_
  refine E_iload_n dJ6_bitCount_0f7a4_15 rfl rfl ?_
  refine E_ic dJ6_bitCount_0f7a4_16 rfl ?_
  refine E_iushr dJ6_bitCount_0f7a4_17 ?_
  refine E_ldcw (z := 858993459) dJ6_bitCount_0f7a4_18 ki_RJ6_266 (by decide) ?_
  refine E_iand dJ6_bitCount_0f7a4_21 ?_
  refine E_iadd dJ6_bitCount_0f7a4_22 ?_
  refine E_istore_n (ls' := [some (vI (wi ((bA (wi (x0 - (bA (bU x0 1) 1431655765))) 858993459) + (bA (bU (wi (x0 - (bA (bU x0 1) 1431655765))) 2) 858993459))))]) dJ6_bitCount_0f7a4_23 rfl (by decide) rfl ?_
  refine E_iload_n dJ6_bitCount_0f7a4_24 rfl rfl ?_
  refine E_iload_n dJ6_bitCount_0f7a4_25 rfl rfl ?_
  refine E_ic dJ6_bitCount_0f7a4_26 rfl ?_
  refine E_iushr dJ6_bitCount_0f7a4_27 ?_
  refine E_iadd dJ6_bitCount_0f7a4_28 ?_
  refine E_ldcw (z := 252645135) dJ6_bitCount_0f7a4_29 ki_RJ6_267 (by decide) ?_
  refine E_iand dJ6_bitCount_0f7a4_32 ?_
  refine E_istore_n (ls' := [some (vI (bA (wi ((wi ((bA (wi (x0 - (bA (bU x0 1) 1431655765))) 858993459) + (bA (bU (wi (x0 - (bA (bU x0 1) 1431655765))) 2) 858993459))) + (bU (wi ((bA (wi (x0 - (bA (bU x0 1) 1431655765))) 858993459) + (bA (bU (wi (x0 - (bA (bU x0 1) 1431655765))) 2) 858993459))) 4))) 252645135))]) dJ6_bitCount_0f7a4_33 rfl (by decide) rfl ?_
  refine E_iload_n dJ6_bitCount_0f7a4_34 rfl rfl ?_
  refine E_iload_n dJ6_bitCount_0f7a4_35 rfl rfl ?_
  refine E_bp dJ6_bitCount_0f7a4_36 rfl ?_
  refine E_iushr dJ6_bitCount_0f7a4_38 ?_
  refine E_iadd dJ6_bitCount_0f7a4_39 ?_
  refine E_istore_n (ls' := [some (vI (wi ((bA (wi ((wi ((bA (wi (x0 - (bA (bU x0 1) 1431655765))) 858993459) + (bA (bU (wi (x0 - (bA (bU x0 1) 1431655765))) 2) 858993459))) + (bU (wi ((bA (wi (x0 - (bA (bU x0 1) 1431655765))) 858993459) + (bA (bU (wi (x0 - (bA (bU x0 1) 1431655765))) 2) 858993459))) 4))) 252645135) + (bU (bA (wi ((wi ((bA (wi (x0 - (bA (bU x0 1) 1431655765))) 858993459) + (bA (bU (wi (x0 - (bA (bU x0 1) 1431655765))) 2) 858993459))) + (bU (wi ((bA (wi (x0 - (bA (bU x0 1) 1431655765))) 858993459) + (bA (bU (wi (x0 - (bA (bU x0 1) 1431655765))) 2) 858993459))) 4))) 252645135) 8))))]) dJ6_bitCount_0f7a4_40 rfl (by decide) rfl ?_
  refine E_iload_n dJ6_bitCount_0f7a4_41 rfl rfl ?_
  refine E_iload_n dJ6_bitCount_0f7a4_42 rfl rfl ?_
  refine E_bp dJ6_bitCount_0f7a4_43 rfl ?_
  refine E_iushr dJ6_bitCount_0f7a4_45 ?_
  refine E_iadd dJ6_bitCount_0f7a4_46 ?_
  refine E_istore_n (ls' := [some (vI (wi ((wi ((bA (wi ((wi ((bA (wi (x0 - (bA (bU x0 1) 1431655765))) 858993459) + (bA (bU (wi (x0 - (bA (bU x0 1) 1431655765))) 2) 858993459))) + (bU (wi ((bA (wi (x0 - (bA (bU x0 1) 1431655765))) 858993459) + (bA (bU (wi (x0 - (bA (bU x0 1) 1431655765))) 2) 858993459))) 4))) 252645135) + (bU (bA (wi ((wi ((bA (wi (x0 - (bA (bU x0 1) 1431655765))) 858993459) + (bA (bU (wi (x0 - (bA (bU x0 1) 1431655765))) 2) 858993459))) + (bU (wi ((bA (wi (x0 - (bA (bU x0 1) 1431655765))) 858993459) + (bA (bU (wi (x0 - (bA (bU x0 1) 1431655765))) 2) 858993459))) 4))) 252645135) 8))) + (bU (wi ((bA (wi ((wi ((bA (wi (x0 - (bA (bU x0 1) 1431655765))) 858993459) + (bA (bU (wi (x0 - (bA (bU x0 1) 1431655765))) 2) 858993459))) + (bU (wi ((bA (wi (x0 - (bA (bU x0 1) 1431655765))) 858993459) + (bA (bU (wi (x0 - (bA (bU x0 1) 1431655765))) 2) 858993459))) 4))) 252645135) + (bU (bA (wi ((wi ((bA (wi (x0 - (bA (bU x0 1) 1431655765))) 858993459) + (bA (bU (wi (x0 - (bA (bU x0 1) 1431655765))) 2) 858993459))) + (bU (wi ((bA (wi (x0 - (bA (bU x0 1) 1431655765))) 858993459) + (bA (bU (wi (x0 - (bA (bU x0 1) 1431655765))) 2) 858993459))) 4))) 252645135) 8))) 16))))]) dJ6_bitCount_0f7a4_47 rfl (by decide) rfl ?_
  refine E_iload_n dJ6_bitCount_0f7a4_48 rfl rfl ?_
  refine E_bp dJ6_bitCount_0f7a4_49 rfl ?_
  refine E_iand dJ6_bitCount_0f7a4_51 ?_
  exact E_iret dJ6_bitCount_0f7a4_52 rfl ⟨_, rfl, rfl, h⟩
abbrev Y_J0_coder_7d493 : My := (yJ0_coder_7d493, cJ0_coder_7d493, 1, some .byte)
theorem dJ0_coder_7d493_0 : decode cJ0_coder_7d493 0 = .ok (.getstatic 38, 3) := by decide +kernel
theorem dJ0_coder_7d493_3 : decode cJ0_coder_7d493 3 = .ok (.ifCond .eq 10, 3) := by decide +kernel
theorem dJ0_coder_7d493_6 : decode cJ0_coder_7d493 6 = .ok (.aload_n 0, 1) := by decide +kernel
theorem dJ0_coder_7d493_7 : decode cJ0_coder_7d493 7 = .ok (.getfield 15, 3) := by decide +kernel
theorem dJ0_coder_7d493_10 : decode cJ0_coder_7d493 10 = .ok (.goto 4, 3) := by decide +kernel
theorem dJ0_coder_7d493_13 : decode cJ0_coder_7d493 13 = .ok (.iconst 1, 1) := by decide +kernel
theorem dJ0_coder_7d493_14 : decode cJ0_coder_7d493 14 = .ok (.ireturn, 1) := by decide +kernel
theorem fs_RJ0_15 : Cond.fieldLink RJ0 15 "java/lang/String" "code\x72" "B" ∈ tG := inG (i := 2081) (by decide +kernel) (by decide +kernel)
theorem fs_RJ0_38 : Cond.fieldLink RJ0 38 "java/lang/String" "COMPACT_STRINGS" "Z" ∈ tG := inG (i := 577) (by decide +kernel) (by decide +kernel)
def P_J0_coder_7d493  (o0 : Nat) (σ : St) (Q : Int → St → Prop) : Prop :=
  o0 < 27 ∧ Q 0 σ
set_option maxRecDepth 20000 in
set_option maxHeartbeats 2000000 in
theorem s_J0_coder_7d493   {o0 : Nat} {σ : St} {Q : Int → St → Prop} (h : P_J0_coder_7d493 o0 σ Q) : Cn Y_J0_coder_7d493 0 0 0 ww σ [vR 50 o0] (QI Q) := by
  refine Cn_of [some (vR 50 o0)] (by decide) (Nat.le_of_ble_eq_true rfl) rfl ?_
  unfold P_J0_coder_7d493 at h
  refine E_cmps dJ0_coder_7d493_0 fs_RJ0_38 ?_
  refine E_if_eq (tgt := 13) dJ0_coder_7d493_3 (by decide) (fun hc => ?_) (fun hc => ?_)
  · exact absurd hc (by decide)
  · skip
    refine E_aload_n dJ0_coder_7d493_6 rfl rfl ?_
    obtain ⟨hg0, h⟩ := h
    refine E_scod dJ0_coder_7d493_7 fs_RJ0_15 hg0 ?_
    refine E_goto (tgt := 14) dJ0_coder_7d493_10 (by decide) ?_
    exact E_bret dJ0_coder_7d493_14 rfl (by decide) ⟨_, rfl, rfl, h⟩
abbrev Y_J0_isLatin1_aae02 : My := (yJ0_isLatin1_aae02, cJ0_isLatin1_aae02, 1, some .boolean)
theorem dJ0_isLatin1_aae02_0 : decode cJ0_isLatin1_aae02 0 = .ok (.getstatic 38, 3) := by decide +kernel
theorem dJ0_isLatin1_aae02_3 : decode cJ0_isLatin1_aae02 3 = .ok (.ifCond .eq 14, 3) := by decide +kernel
theorem dJ0_isLatin1_aae02_6 : decode cJ0_isLatin1_aae02 6 = .ok (.aload_n 0, 1) := by decide +kernel
theorem dJ0_isLatin1_aae02_7 : decode cJ0_isLatin1_aae02 7 = .ok (.getfield 15, 3) := by decide +kernel
theorem dJ0_isLatin1_aae02_10 : decode cJ0_isLatin1_aae02 10 = .ok (.ifCond .ne 7, 3) := by decide +kernel
theorem dJ0_isLatin1_aae02_13 : decode cJ0_isLatin1_aae02 13 = .ok (.iconst 1, 1) := by decide +kernel
theorem dJ0_isLatin1_aae02_14 : decode cJ0_isLatin1_aae02 14 = .ok (.goto 4, 3) := by decide +kernel
theorem dJ0_isLatin1_aae02_17 : decode cJ0_isLatin1_aae02 17 = .ok (.iconst 0, 1) := by decide +kernel
theorem dJ0_isLatin1_aae02_18 : decode cJ0_isLatin1_aae02 18 = .ok (.ireturn, 1) := by decide +kernel
def P_J0_isLatin1_aae02  (o0 : Nat) (σ : St) (Q : Int → St → Prop) : Prop :=
  o0 < 27 ∧ Q 1 σ
set_option maxRecDepth 20000 in
set_option maxHeartbeats 2000000 in
theorem s_J0_isLatin1_aae02   {o0 : Nat} {σ : St} {Q : Int → St → Prop} (h : P_J0_isLatin1_aae02 o0 σ Q) : Cn Y_J0_isLatin1_aae02 0 0 0 ww σ [vR 50 o0] (QI Q) := by
  refine Cn_of [some (vR 50 o0)] (by decide) (Nat.le_of_ble_eq_true rfl) rfl ?_
  unfold P_J0_isLatin1_aae02 at h
  refine E_cmps dJ0_isLatin1_aae02_0 fs_RJ0_38 ?_
  refine E_if_eq (tgt := 17) dJ0_isLatin1_aae02_3 (by decide) (fun hc => ?_) (fun hc => ?_)
  · exact absurd hc (by decide)
  · skip
    refine E_aload_n dJ0_isLatin1_aae02_6 rfl rfl ?_
    obtain ⟨hg0, h⟩ := h
    refine E_scod dJ0_isLatin1_aae02_7 fs_RJ0_15 hg0 ?_
    refine E_if_ne (tgt := 17) dJ0_isLatin1_aae02_10 (by decide) (fun hc => ?_) (fun hc => ?_)
    · exact absurd hc (by decide)
    · skip
      refine E_ic dJ0_isLatin1_aae02_13 rfl ?_
      refine E_goto (tgt := 18) dJ0_isLatin1_aae02_14 (by decide) ?_
      exact E_zret dJ0_isLatin1_aae02_18 rfl (by decide) ⟨_, rfl, rfl, h⟩
abbrev Y_J0_length_8abf5 : My := (yJ0_length_8abf5, cJ0_length_8abf5, 1, some .int)
theorem dJ0_length_8abf5_0 : decode cJ0_length_8abf5 0 = .ok (.aload_n 0, 1) := by decide +kernel
theorem dJ0_length_8abf5_1 : decode cJ0_length_8abf5 1 = .ok (.getfield 9, 3) := by decide +kernel
theorem dJ0_length_8abf5_4 : decode cJ0_length_8abf5 4 = .ok (.arraylength, 1) := by decide +kernel
theorem dJ0_length_8abf5_5 : decode cJ0_length_8abf5 5 = .ok (.aload_n 0, 1) := by decide +kernel
theorem dJ0_length_8abf5_6 : decode cJ0_length_8abf5 6 = .ok (.invokevirtual 335, 3) := by decide +kernel
theorem dJ0_length_8abf5_9 : decode cJ0_length_8abf5 9 = .ok (.ishr, 1) := by decide +kernel
theorem dJ0_length_8abf5_10 : decode cJ0_length_8abf5 10 = .ok (.ireturn, 1) := by decide +kernel
theorem fs_RJ0_9 : Cond.fieldLink RJ0 9 "java/lang/String" "value" "[B" ∈ tG := inG (i := 2082) (by decide +kernel) (by decide +kernel)
theorem lk_RJ0_335 : Cond.methodLink RJ0 335 yJ0_coder_7d493 ∈ tG := inG (i := 583) (by decide +kernel) (by decide +kernel)
theorem m_J0_coder_7d493 : MZ Y_J0_coder_7d493 0 := ⟨⟨inG (i := 586) (by decide +kernel) (by decide +kernel), inG (i := 111) (by decide +kernel) (by decide +kernel), by decide, by decide, by decide, by decide +kernel⟩, inG (i := 584) (by decide +kernel) (by decide +kernel), inG (i := 585) (by decide +kernel) (by decide +kernel)⟩
def P_J0_length_8abf5  (o0 : Nat) (σ : St) (Q : Int → St → Prop) : Prop :=
  o0 < 27 ∧ o0 < 27 ∧ o0 < 27 ∧ P_J0_coder_7d493 o0 σ (fun r_2 σ_1 => Q (bR (sl o0) r_2) σ_1)
set_option maxRecDepth 20000 in
set_option maxHeartbeats 2000000 in
theorem s_J0_length_8abf5   {o0 : Nat} {σ : St} {Q : Int → St → Prop} (h : P_J0_length_8abf5 o0 σ Q) : Cn Y_J0_length_8abf5 1 0 0 ww σ [vR 50 o0] (QI Q) := by
  refine Cn_of [some (vR 50 o0)] (by decide) (Nat.le_of_ble_eq_true rfl) rfl ?_
  unfold P_J0_length_8abf5 at h
  refine E_aload_n dJ0_length_8abf5_0 rfl rfl ?_
  obtain ⟨hg0, h⟩ := h
  refine E_sval dJ0_length_8abf5_1 fs_RJ0_9 hg0 ?_
  obtain ⟨hg0, h⟩ := h
  refine E_slen dJ0_length_8abf5_4 hg0 ?_
  refine E_aload_n dJ0_length_8abf5_5 rfl rfl ?_
  obtain ⟨hg0, h⟩ := h
  refine E_callZ (Y' := Y_J0_coder_7d493) (as := []) (st := [vI (sl o0)]) dJ0_length_8abf5_6 lk_RJ0_335 m_J0_coder_7d493 hg0 (by decide) (Nat.le_refl _) (Nat.le_refl _) rfl rfl (Nat.le_of_ble_eq_true rfl) (s_J0_coder_7d493 h) (fun r0 B0 σ_1 h => ?_)
  obtain ⟨r_2, rfl, rfl, h⟩ := h
  refine E_ishr dJ0_length_8abf5_9 ?_
  exact E_iret dJ0_length_8abf5_10 rfl ⟨_, rfl, rfl, h⟩
abbrev Y_J1_canEncode_9a6ad : My := (yJ1_canEncode_9a6ad, cJ1_canEncode_9a6ad, 1, some .boolean)
theorem dJ1_canEncode_9a6ad_0 : decode cJ1_canEncode_9a6ad 0 = .ok (.iload_n 0, 1) := by decide +kernel
theorem dJ1_canEncode_9a6ad_1 : decode cJ1_canEncode_9a6ad 1 = .ok (.ifCond .lt 14, 3) := by decide +kernel
theorem dJ1_canEncode_9a6ad_4 : decode cJ1_canEncode_9a6ad 4 = .ok (.iload_n 0, 1) := by decide +kernel
theorem dJ1_canEncode_9a6ad_5 : decode cJ1_canEncode_9a6ad 5 = .ok (.sipush 255, 3) := by decide +kernel
theorem dJ1_canEncode_9a6ad_8 : decode cJ1_canEncode_9a6ad 8 = .ok (.if_icmp .gt 7, 3) := by decide +kernel
theorem dJ1_canEncode_9a6ad_11 : decode cJ1_canEncode_9a6ad 11 = .ok (.iconst 1, 1) := by decide +kernel
theorem dJ1_canEncode_9a6ad_12 : decode cJ1_canEncode_9a6ad 12 = .ok (.goto 4, 3) := by decide +kernel
theorem dJ1_canEncode_9a6ad_15 : decode cJ1_canEncode_9a6ad 15 = .ok (.iconst 0, 1) := by decide +kernel
theorem dJ1_canEncode_9a6ad_16 : decode cJ1_canEncode_9a6ad 16 = .ok (.ireturn, 1) := by decide +kernel
def P_J1_canEncode_9a6ad_J15    (Q : Int → St → Prop) (σ : St) : Prop :=
  Q 0 σ
set_option maxRecDepth 20000 in
set_option maxHeartbeats 2000000 in
theorem e_P_J1_canEncode_9a6ad_J15    {Q : Int → St → Prop} {σ : St}   (h : P_J1_canEncode_9a6ad_J15  Q σ) : E Y_J1_canEncode_9a6ad 0 0 0 (QI Q) ww 0 0 15 [none] [] σ := by
  unfold P_J1_canEncode_9a6ad_J15 at h
  refine E_ic dJ1_canEncode_9a6ad_15 rfl ?_
  exact E_zret dJ1_canEncode_9a6ad_16 rfl (by decide) ⟨_, rfl, rfl, h⟩
def P_J1_canEncode_9a6ad  (x0 : Int) (σ : St) (Q : Int → St → Prop) : Prop :=
  (if x0 < 0 then P_J1_canEncode_9a6ad_J15 Q σ else (if 255 < x0 then P_J1_canEncode_9a6ad_J15 Q σ else Q 1 σ))
set_option maxRecDepth 20000 in
set_option maxHeartbeats 2000000 in
theorem s_J1_canEncode_9a6ad   {x0 : Int} {σ : St} {Q : Int → St → Prop} (h : P_J1_canEncode_9a6ad x0 σ Q) : Cn Y_J1_canEncode_9a6ad 0 0 0 ww σ [vI x0] (QI Q) := by
  refine Cn_of [some (vI x0)] (by decide) (Nat.le_of_ble_eq_true rfl) rfl ?_
  unfold P_J1_canEncode_9a6ad at h
  refine E_iload_n dJ1_canEncode_9a6ad_0 rfl rfl ?_
  refine E_if_lt (tgt := 15) dJ1_canEncode_9a6ad_1 (by decide) (fun hc => ?_) (fun hc => ?_)
  · have h := Eq.mp (if_pos hc) h
    refine E_wk2 [none] trivial ?_
    exact e_P_J1_canEncode_9a6ad_J15 h
  · have h := Eq.mp (if_neg hc) h
    refine E_iload_n dJ1_canEncode_9a6ad_4 rfl rfl ?_
    refine E_sp dJ1_canEncode_9a6ad_5 rfl ?_
    refine E_icmp_gt (tgt := 15) dJ1_canEncode_9a6ad_8 (by decide) (fun hc => ?_) (fun hc => ?_)
    · have h := Eq.mp (if_pos hc) h
      refine E_wk2 [none] trivial ?_
      exact e_P_J1_canEncode_9a6ad_J15 h
    · have h := Eq.mp (if_neg hc) h
      refine E_ic dJ1_canEncode_9a6ad_11 rfl ?_
      refine E_goto (tgt := 16) dJ1_canEncode_9a6ad_12 (by decide) ?_
      exact E_zret dJ1_canEncode_9a6ad_16 rfl (by decide) ⟨_, rfl, rfl, h⟩
abbrev Y_J1_indexOfChar_4cfef : My := (yJ1_indexOfChar_4cfef, cJ1_indexOfChar_4cfef, 6, some .int)
theorem dJ1_indexOfChar_4cfef_0 : decode cJ1_indexOfChar_4cfef 0 = .ok (.iload_n 1, 1) := by decide +kernel
theorem dJ1_indexOfChar_4cfef_1 : decode cJ1_indexOfChar_4cfef 1 = .ok (.i2b, 1) := by decide +kernel
theorem dJ1_indexOfChar_4cfef_2 : decode cJ1_indexOfChar_4cfef 2 = .ok (.istore 4, 2) := by decide +kernel
theorem dJ1_indexOfChar_4cfef_4 : decode cJ1_indexOfChar_4cfef 4 = .ok (.iload_n 2, 1) := by decide +kernel
theorem dJ1_indexOfChar_4cfef_5 : decode cJ1_indexOfChar_4cfef 5 = .ok (.istore 5, 2) := by decide +kernel
theorem dJ1_indexOfChar_4cfef_7 : decode cJ1_indexOfChar_4cfef 7 = .ok (.iload 5, 2) := by decide +kernel
theorem dJ1_indexOfChar_4cfef_9 : decode cJ1_indexOfChar_4cfef 9 = .ok (.iload_n 3, 1) := by decide +kernel
theorem dJ1_indexOfChar_4cfef_10 : decode cJ1_indexOfChar_4cfef 10 = .ok (.if_icmp .ge 21, 3) := by decide +kernel
theorem dJ1_indexOfChar_4cfef_13 : decode cJ1_indexOfChar_4cfef 13 = .ok (.aload_n 0, 1) := by decide +kernel
theorem dJ1_indexOfChar_4cfef_14 : decode cJ1_indexOfChar_4cfef 14 = .ok (.iload 5, 2) := by decide +kernel
theorem dJ1_indexOfChar_4cfef_16 : decode cJ1_indexOfChar_4cfef 16 = .ok (.baload, 1) := by decide +kernel
theorem dJ1_indexOfChar_4cfef_17 : decode cJ1_indexOfChar_4cfef 17 = .ok (.iload 4, 2) := by decide +kernel
theorem dJ1_indexOfChar_4cfef_19 : decode cJ1_indexOfChar_4cfef 19 = .ok (.if_icmp .ne 6, 3) := by decide +kernel
theorem dJ1_indexOfChar_4cfef_22 : decode cJ1_indexOfChar_4cfef 22 = .ok (.iload 5, 2) := by decide +kernel
theorem dJ1_indexOfChar_4cfef_24 : decode cJ1_indexOfChar_4cfef 24 = .ok (.ireturn, 1) := by decide +kernel
theorem dJ1_indexOfChar_4cfef_25 : decode cJ1_indexOfChar_4cfef 25 = .ok (.iinc 5 1, 3) := by decide +kernel
theorem dJ1_indexOfChar_4cfef_28 : decode cJ1_indexOfChar_4cfef 28 = .ok (.goto (-21), 3) := by decide +kernel
theorem dJ1_indexOfChar_4cfef_31 : decode cJ1_indexOfChar_4cfef 31 = .ok (.iconst (-1), 1) := by decide +kernel
theorem dJ1_indexOfChar_4cfef_32 : decode cJ1_indexOfChar_4cfef 32 = .ok (.ireturn, 1) := by decide +kernel
def P_J1_indexOfChar_4cfef_L7  (o0 : Nat) (x3 : Int) (x4 : Int)  (Q : Int → St → Prop) : Nat → Int → St → Prop
  | 0, _, _ => False
  | n + 1, x5, σ => (if x3 ≤ x5 then Q (-1) σ else o0 < 27 ∧ 0 ≤ x5 ∧ x5 < sl o0 ∧ (if (sb o0 x5) = x4 then Q x5 σ else (P_J1_indexOfChar_4cfef_L7 o0 x3 x4 Q n) (wi (x5 + 1)) σ))
set_option maxRecDepth 20000 in
set_option maxHeartbeats 2000000 in
theorem e_P_J1_indexOfChar_4cfef_L7  {o0 : Nat} {x3 : Int} {x4 : Int}  {Q : Int → St → Prop}   : ∀ (n : Nat) (x5 : Int) (σ : St), P_J1_indexOfChar_4cfef_L7 o0 x3 x4 Q n x5 σ → E Y_J1_indexOfChar_4cfef 0 0 0 (QI Q) ww 0 0 7 [some (vR 51 o0), none, none, some (vI x3), some (vI x4), some (vI x5)] [] σ := by
  intro n
  induction n with
  | zero => intro x5 σ h; exact h.elim
  | succ n hR =>
    intro x5 σ h
    unfold P_J1_indexOfChar_4cfef_L7 at h
    refine E_iload dJ1_indexOfChar_4cfef_7 rfl ?_
    refine E_iload_n dJ1_indexOfChar_4cfef_9 rfl rfl ?_
    refine E_icmp_ge (tgt := 31) dJ1_indexOfChar_4cfef_10 (by decide) (fun hc => ?_) (fun hc => ?_)
    · have h := Eq.mp (if_pos hc) h
      refine E_ic dJ1_indexOfChar_4cfef_31 rfl ?_
      exact E_iret dJ1_indexOfChar_4cfef_32 rfl ⟨_, rfl, rfl, h⟩
    · have h := Eq.mp (if_neg hc) h
      refine E_aload_n dJ1_indexOfChar_4cfef_13 rfl rfl ?_
      refine E_iload dJ1_indexOfChar_4cfef_14 rfl ?_
      obtain ⟨hg0, hg1, hg2, h⟩ := h
      refine E_sbyt dJ1_indexOfChar_4cfef_16 hg0 hg1 hg2 ?_
      refine E_iload dJ1_indexOfChar_4cfef_17 rfl ?_
      refine E_icmp_ne (tgt := 25) dJ1_indexOfChar_4cfef_19 (by decide) (fun hc => ?_) (fun hc => ?_)
      · have h := Eq.mp (if_neg hc) h
        refine E_iinc (ls' := [some (vR 51 o0), none, none, some (vI x3), some (vI x4), some (vI (wi (x5 + 1)))]) dJ1_indexOfChar_4cfef_25 rfl (by decide) rfl rfl ?_
        refine E_goto (tgt := 7) dJ1_indexOfChar_4cfef_28 (by decide) ?_
        exact hR _ _ h
      · have h := Eq.mp (if_pos hc) h
        refine E_iload dJ1_indexOfChar_4cfef_22 rfl ?_
        exact E_iret dJ1_indexOfChar_4cfef_24 rfl ⟨_, rfl, rfl, h⟩
def P_J1_indexOfChar_4cfef  (o0 : Nat) (x1 : Int) (x2 : Int) (x3 : Int) (σ : St) (Q : Int → St → Prop) : Prop :=
  P_J1_indexOfChar_4cfef_L7 o0 x3 (ib x1) Q FU x2 σ
set_option maxRecDepth 20000 in
set_option maxHeartbeats 2000000 in
theorem s_J1_indexOfChar_4cfef   {o0 : Nat} {x1 : Int} {x2 : Int} {x3 : Int} {σ : St} {Q : Int → St → Prop} (h : P_J1_indexOfChar_4cfef o0 x1 x2 x3 σ Q) : Cn Y_J1_indexOfChar_4cfef 0 0 0 ww σ [vR 51 o0, vI x1, vI x2, vI x3] (QI Q) := by
  refine Cn_of [some (vR 51 o0), some (vI x1), some (vI x2), some (vI x3), none, none] (by decide) (Nat.le_of_ble_eq_true rfl) rfl ?_
  unfold P_J1_indexOfChar_4cfef at h
  refine E_iload_n dJ1_indexOfChar_4cfef_0 rfl rfl ?_
  refine E_i2b dJ1_indexOfChar_4cfef_1 ?_
  refine E_istore (ls' := [some (vR 51 o0), some (vI x1), some (vI x2), some (vI x3), some (vI (ib x1)), none]) dJ1_indexOfChar_4cfef_2 (by decide) rfl ?_
  refine E_iload_n dJ1_indexOfChar_4cfef_4 rfl rfl ?_
  refine E_istore (ls' := [some (vR 51 o0), some (vI x1), some (vI x2), some (vI x3), some (vI (ib x1)), some (vI x2)]) dJ1_indexOfChar_4cfef_5 (by decide) rfl ?_
  refine E_wk2 [some (vR 51 o0), none, none, some (vI x3), some (vI (ib x1)), some (vI x2)] ⟨rfl, ⟨rfl, ⟨rfl, ⟨rfl, trivial⟩⟩⟩⟩ ?_
  refine e_P_J1_indexOfChar_4cfef_L7  _ _ _ h
abbrev Y_J1_indexOf_4cfef : My := (yJ1_indexOf_4cfef, cJ1_indexOf_4cfef, 4, some .int)
theorem dJ1_indexOf_4cfef_0 : decode cJ1_indexOf_4cfef 0 = .ok (.iload_n 1, 1) := by decide +kernel
theorem dJ1_indexOf_4cfef_1 : decode cJ1_indexOf_4cfef 1 = .ok (.invokestatic 88, 3) := by decide +kernel
theorem dJ1_indexOf_4cfef_4 : decode cJ1_indexOf_4cfef 4 = .ok (.ifCond .ne 5, 3) := by decide +kernel
theorem dJ1_indexOf_4cfef_7 : decode cJ1_indexOf_4cfef 7 = .ok (.iconst (-1), 1) := by decide +kernel
theorem dJ1_indexOf_4cfef_8 : decode cJ1_indexOf_4cfef 8 = .ok (.ireturn, 1) := by decide +kernel
theorem dJ1_indexOf_4cfef_9 : decode cJ1_indexOf_4cfef 9 = .ok (.iload_n 2, 1) := by decide +kernel
theorem dJ1_indexOf_4cfef_10 : decode cJ1_indexOf_4cfef 10 = .ok (.iconst 0, 1) := by decide +kernel
theorem dJ1_indexOf_4cfef_11 : decode cJ1_indexOf_4cfef 11 = .ok (.invokestatic 92, 3) := by decide +kernel
theorem dJ1_indexOf_4cfef_14 : decode cJ1_indexOf_4cfef 14 = .ok (.istore_n 2, 1) := by decide +kernel
theorem dJ1_indexOf_4cfef_15 : decode cJ1_indexOf_4cfef 15 = .ok (.iload_n 3, 1) := by decide +kernel
theorem dJ1_indexOf_4cfef_16 : decode cJ1_indexOf_4cfef 16 = .ok (.aload_n 0, 1) := by decide +kernel
theorem dJ1_indexOf_4cfef_17 : decode cJ1_indexOf_4cfef 17 = .ok (.arraylength, 1) := by decide +kernel
theorem dJ1_indexOf_4cfef_18 : decode cJ1_indexOf_4cfef 18 = .ok (.invokestatic 38, 3) := by decide +kernel
theorem dJ1_indexOf_4cfef_21 : decode cJ1_indexOf_4cfef 21 = .ok (.istore_n 3, 1) := by decide +kernel
theorem dJ1_indexOf_4cfef_22 : decode cJ1_indexOf_4cfef 22 = .ok (.iload_n 2, 1) := by decide +kernel
theorem dJ1_indexOf_4cfef_23 : decode cJ1_indexOf_4cfef 23 = .ok (.iload_n 3, 1) := by decide +kernel
theorem dJ1_indexOf_4cfef_24 : decode cJ1_indexOf_4cfef 24 = .ok (.if_icmp .lt 5, 3) := by decide +kernel
theorem dJ1_indexOf_4cfef_27 : decode cJ1_indexOf_4cfef 27 = .ok (.iconst (-1), 1) := by decide +kernel
theorem dJ1_indexOf_4cfef_28 : decode cJ1_indexOf_4cfef 28 = .ok (.ireturn, 1) := by decide +kernel
theorem dJ1_indexOf_4cfef_29 : decode cJ1_indexOf_4cfef 29 = .ok (.aload_n 0, 1) := by decide +kernel
theorem dJ1_indexOf_4cfef_30 : decode cJ1_indexOf_4cfef 30 = .ok (.iload_n 1, 1) := by decide +kernel
theorem dJ1_indexOf_4cfef_31 : decode cJ1_indexOf_4cfef 31 = .ok (.iload_n 2, 1) := by decide +kernel
theorem dJ1_indexOf_4cfef_32 : decode cJ1_indexOf_4cfef 32 = .ok (.iload_n 3, 1) := by decide +kernel
theorem dJ1_indexOf_4cfef_33 : decode cJ1_indexOf_4cfef 33 = .ok (.invokestatic 95, 3) := by decide +kernel
theorem dJ1_indexOf_4cfef_36 : decode cJ1_indexOf_4cfef 36 = .ok (.ireturn, 1) := by decide +kernel
theorem lk_RJ1_88 : Cond.methodLink RJ1 88 yJ1_canEncode_9a6ad ∈ tG := inG (i := 590) (by decide +kernel) (by decide +kernel)
theorem lk_RJ1_95 : Cond.methodLink RJ1 95 yJ1_indexOfChar_4cfef ∈ tG := inG (i := 599) (by decide +kernel) (by decide +kernel)
theorem lk_RJ1_38 : Cond.methodLink RJ1 38 Lib.Math.min.name ∈ tG := inG (i := 596) (by decide +kernel) (by decide +kernel)
theorem lk_RJ1_92 : Cond.methodLink RJ1 92 Lib.Math.max.name ∈ tG := inG (i := 593) (by decide +kernel) (by decide +kernel)
theorem m_J1_canEncode_9a6ad : MS Y_J1_canEncode_9a6ad 1 := ⟨⟨inG (i := 592) (by decide +kernel) (by decide +kernel), inG (i := 112) (by decide +kernel) (by decide +kernel), by decide, by decide, by decide, by decide +kernel⟩, inG (i := 591) (by decide +kernel) (by decide +kernel)⟩
theorem m_J1_indexOfChar_4cfef : MS Y_J1_indexOfChar_4cfef 4 := ⟨⟨inG (i := 601) (by decide +kernel) (by decide +kernel), inG (i := 112) (by decide +kernel) (by decide +kernel), by decide, by decide, by decide, by decide +kernel⟩, inG (i := 600) (by decide +kernel) (by decide +kernel)⟩
def P_J1_indexOf_4cfef  (o0 : Nat) (x1 : Int) (x2 : Int) (x3 : Int) (σ : St) (Q : Int → St → Prop) : Prop :=
  P_J1_canEncode_9a6ad x1 σ (fun r_2 σ_1 => (if r_2 = 0 then Q (-1) σ_1 else o0 < 27 ∧ (if (max x2 0) < (min x3 (sl o0)) then P_J1_indexOfChar_4cfef o0 x1 (max x2 0) (min x3 (sl o0)) σ_1 (fun r_4 σ_3 => Q r_4 σ_3) else Q (-1) σ_1)))
set_option maxRecDepth 20000 in
set_option maxHeartbeats 2000000 in
theorem s_J1_indexOf_4cfef   {o0 : Nat} {x1 : Int} {x2 : Int} {x3 : Int} {σ : St} {Q : Int → St → Prop} (h : P_J1_indexOf_4cfef o0 x1 x2 x3 σ Q) : Cn Y_J1_indexOf_4cfef 1 0 0 ww σ [vR 51 o0, vI x1, vI x2, vI x3] (QI Q) := by
  refine Cn_of [some (vR 51 o0), some (vI x1), some (vI x2), some (vI x3)] (by decide) (Nat.le_of_ble_eq_true rfl) rfl ?_
  unfold P_J1_indexOf_4cfef at h
  refine E_iload_n dJ1_indexOf_4cfef_0 rfl rfl ?_
  refine E_callS (Y' := Y_J1_canEncode_9a6ad) (as := [vI x1]) (st := []) dJ1_indexOf_4cfef_1 lk_RJ1_88 m_J1_canEncode_9a6ad (by decide) (Nat.le_refl _) (Nat.le_refl _) rfl rfl (Nat.le_of_ble_eq_true rfl) (s_J1_canEncode_9a6ad h) (fun r0 B0 σ_1 h => ?_)
  obtain ⟨r_2, rfl, rfl, h⟩ := h
  refine E_if_ne (tgt := 9) dJ1_indexOf_4cfef_4 (by decide) (fun hc => ?_) (fun hc => ?_)
  · have h := Eq.mp (if_neg hc) h
    refine E_iload_n dJ1_indexOf_4cfef_9 rfl rfl ?_
    refine E_ic dJ1_indexOf_4cfef_10 rfl ?_
    refine E_mmax dJ1_indexOf_4cfef_11 lk_RJ1_92 (by decide) (Nat.le_refl _) (Nat.le_refl _) (Nat.le_of_ble_eq_true rfl) ?_
    refine E_istore_n (ls' := [some (vR 51 o0), some (vI x1), some (vI (max x2 0)), some (vI x3)]) dJ1_indexOf_4cfef_14 rfl (by decide) rfl ?_
    refine E_iload_n dJ1_indexOf_4cfef_15 rfl rfl ?_
    refine E_aload_n dJ1_indexOf_4cfef_16 rfl rfl ?_
    obtain ⟨hg0, h⟩ := h
    refine E_slen dJ1_indexOf_4cfef_17 hg0 ?_
    refine E_mmin dJ1_indexOf_4cfef_18 lk_RJ1_38 (by decide) (Nat.le_refl _) (Nat.le_refl _) (Nat.le_of_ble_eq_true rfl) ?_
    refine E_istore_n (ls' := [some (vR 51 o0), some (vI x1), some (vI (max x2 0)), some (vI (min x3 (sl o0)))]) dJ1_indexOf_4cfef_21 rfl (by decide) rfl ?_
    refine E_iload_n dJ1_indexOf_4cfef_22 rfl rfl ?_
    refine E_iload_n dJ1_indexOf_4cfef_23 rfl rfl ?_
    refine E_icmp_lt (tgt := 29) dJ1_indexOf_4cfef_24 (by decide) (fun hc => ?_) (fun hc => ?_)
    · have h := Eq.mp (if_pos hc) h
      refine E_aload_n dJ1_indexOf_4cfef_29 rfl rfl ?_
      refine E_iload_n dJ1_indexOf_4cfef_30 rfl rfl ?_
      refine E_iload_n dJ1_indexOf_4cfef_31 rfl rfl ?_
      refine E_iload_n dJ1_indexOf_4cfef_32 rfl rfl ?_
      refine E_callS (Y' := Y_J1_indexOfChar_4cfef) (as := [vR 51 o0, vI x1, vI (max x2 0), vI (min x3 (sl o0))]) (st := []) dJ1_indexOf_4cfef_33 lk_RJ1_95 m_J1_indexOfChar_4cfef (by decide) (Nat.le_refl _) (Nat.le_refl _) rfl rfl (Nat.le_of_ble_eq_true rfl) (s_J1_indexOfChar_4cfef h) (fun r0 B0 σ_3 h => ?_)
      obtain ⟨r_4, rfl, rfl, h⟩ := h
      exact E_iret dJ1_indexOf_4cfef_36 rfl ⟨_, rfl, rfl, h⟩
    · have h := Eq.mp (if_neg hc) h
      refine E_ic dJ1_indexOf_4cfef_27 rfl ?_
      exact E_iret dJ1_indexOf_4cfef_28 rfl ⟨_, rfl, rfl, h⟩
  · have h := Eq.mp (if_pos hc) h
    refine E_ic dJ1_indexOf_4cfef_7 rfl ?_
    exact E_iret dJ1_indexOf_4cfef_8 rfl ⟨_, rfl, rfl, h⟩
abbrev Y_J0_indexOf_7cf53 : My := (yJ0_indexOf_7cf53, cJ0_indexOf_7cf53, 3, some .int)
theorem dJ0_indexOf_7cf53_0 : decode cJ0_indexOf_7cf53 0 = .ok (.aload_n 0, 1) := by decide +kernel
theorem dJ0_indexOf_7cf53_1 : decode cJ0_indexOf_7cf53 1 = .ok (.invokevirtual 492, 3) := by decide +kernel
theorem dJ0_indexOf_7cf53_4 : decode cJ0_indexOf_7cf53 4 = .ok (.ifCond .eq 19, 3) := by decide +kernel
theorem dJ0_indexOf_7cf53_7 : decode cJ0_indexOf_7cf53 7 = .ok (.aload_n 0, 1) := by decide +kernel
theorem dJ0_indexOf_7cf53_8 : decode cJ0_indexOf_7cf53 8 = .ok (.getfield 9, 3) := by decide +kernel
theorem dJ0_indexOf_7cf53_11 : decode cJ0_indexOf_7cf53 11 = .ok (.iload_n 1, 1) := by decide +kernel
theorem dJ0_indexOf_7cf53_12 : decode cJ0_indexOf_7cf53 12 = .ok (.iload_n 2, 1) := by decide +kernel
theorem dJ0_indexOf_7cf53_13 : decode cJ0_indexOf_7cf53 13 = .ok (.aload_n 0, 1) := by decide +kernel
theorem dJ0_indexOf_7cf53_14 : decode cJ0_indexOf_7cf53 14 = .ok (.invokevirtual 505, 3) := by decide +kernel
theorem dJ0_indexOf_7cf53_17 : decode cJ0_indexOf_7cf53 17 = .ok (.invokestatic 637, 3) := by decide +kernel
theorem dJ0_indexOf_7cf53_20 : decode cJ0_indexOf_7cf53 20 = .ok (.goto 16, 3) := by decide +kernel
theorem dJ0_indexOf_7cf53_23 : decode cJ0_indexOf_7cf53 23 = .ok (.aload_n 0, 1) := by decide +kernel
theorem dJ0_indexOf_7cf53_24 : decode cJ0_indexOf_7cf53 24 = .ok (.getfield 9, 3) := by decide +kernel
theorem dJ0_indexOf_7cf53_27 : decode cJ0_indexOf_7cf53 27 = .ok (.iload_n 1, 1) := by decide +kernel
theorem dJ0_indexOf_7cf53_28 : decode cJ0_indexOf_7cf53 28 = .ok (.iload_n 2, 1) := by decide +kernel
theorem dJ0_indexOf_7cf53_29 : decode cJ0_indexOf_7cf53 29 = .ok (.aload_n 0, 1) := by decide +kernel
theorem dJ0_indexOf_7cf53_30 : decode cJ0_indexOf_7cf53 30 = .ok (.invokevirtual 505, 3) := by decide +kernel
theorem dJ0_indexOf_7cf53_33 : decode cJ0_indexOf_7cf53 33 = .ok (.invokestatic 640, 3) := by decide +kernel
theorem dJ0_indexOf_7cf53_36 : decode cJ0_indexOf_7cf53 36 = .ok (.ireturn, 1) := by decide +kernel
theorem lk_RJ0_492 : Cond.methodLink RJ0 492 yJ0_isLatin1_aae02 ∈ tG := inG (i := 573) (by decide +kernel) (by decide +kernel)
theorem lk_RJ0_505 : Cond.methodLink RJ0 505 yJ0_length_8abf5 ∈ tG := inG (i := 579) (by decide +kernel) (by decide +kernel)
theorem lk_RJ0_637 : Cond.methodLink RJ0 637 yJ1_indexOf_4cfef ∈ tG := inG (i := 587) (by decide +kernel) (by decide +kernel)
theorem m_J0_isLatin1_aae02 : MZ Y_J0_isLatin1_aae02 0 := ⟨⟨inG (i := 576) (by decide +kernel) (by decide +kernel), inG (i := 111) (by decide +kernel) (by decide +kernel), by decide, by decide, by decide, by decide +kernel⟩, inG (i := 574) (by decide +kernel) (by decide +kernel), inG (i := 575) (by decide +kernel) (by decide +kernel)⟩
theorem m_J0_length_8abf5 : MZ Y_J0_length_8abf5 0 := ⟨⟨inG (i := 582) (by decide +kernel) (by decide +kernel), inG (i := 111) (by decide +kernel) (by decide +kernel), by decide, by decide, by decide, by decide +kernel⟩, inG (i := 580) (by decide +kernel) (by decide +kernel), inG (i := 581) (by decide +kernel) (by decide +kernel)⟩
theorem m_J1_indexOf_4cfef : MS Y_J1_indexOf_4cfef 4 := ⟨⟨inG (i := 589) (by decide +kernel) (by decide +kernel), inG (i := 112) (by decide +kernel) (by decide +kernel), by decide, by decide, by decide, by decide +kernel⟩, inG (i := 588) (by decide +kernel) (by decide +kernel)⟩
def P_J0_indexOf_7cf53  (o0 : Nat) (x1 : Int) (x2 : Int) (σ : St) (Q : Int → St → Prop) : Prop :=
  o0 < 27 ∧ P_J0_isLatin1_aae02 o0 σ (fun r_2 σ_1 => (if r_2 = 0 then o0 < 27 ∧ o0 < 27 ∧ P_J0_length_8abf5 o0 σ_1 (fun r_4 σ_3 => False) else o0 < 27 ∧ o0 < 27 ∧ P_J0_length_8abf5 o0 σ_1 (fun r_6 σ_5 => P_J1_indexOf_4cfef o0 x1 x2 r_6 σ_5 (fun r_8 σ_7 => Q r_8 σ_7))))
set_option maxRecDepth 20000 in
set_option maxHeartbeats 2000000 in
theorem s_J0_indexOf_7cf53   {o0 : Nat} {x1 : Int} {x2 : Int} {σ : St} {Q : Int → St → Prop} (h : P_J0_indexOf_7cf53 o0 x1 x2 σ Q) : Cn Y_J0_indexOf_7cf53 2 0 0 ww σ [vR 50 o0, vI x1, vI x2] (QI Q) := by
  refine Cn_of [some (vR 50 o0), some (vI x1), some (vI x2)] (by decide) (Nat.le_of_ble_eq_true rfl) rfl ?_
  unfold P_J0_indexOf_7cf53 at h
  refine E_aload_n dJ0_indexOf_7cf53_0 rfl rfl ?_
  obtain ⟨hg0, h⟩ := h
  refine E_callZ (Y' := Y_J0_isLatin1_aae02) (as := []) (st := []) dJ0_indexOf_7cf53_1 lk_RJ0_492 m_J0_isLatin1_aae02 hg0 (by decide) (Nat.le_refl _) (Nat.le_refl _) rfl rfl (Nat.le_of_ble_eq_true rfl) (s_J0_isLatin1_aae02 h) (fun r0 B0 σ_1 h => ?_)
  obtain ⟨r_2, rfl, rfl, h⟩ := h
  refine E_if_eq (tgt := 23) dJ0_indexOf_7cf53_4 (by decide) (fun hc => ?_) (fun hc => ?_)
  · have h := Eq.mp (if_pos hc) h
    refine E_aload_n dJ0_indexOf_7cf53_23 rfl rfl ?_
    obtain ⟨hg0, h⟩ := h
    refine E_sval dJ0_indexOf_7cf53_24 fs_RJ0_9 hg0 ?_
    refine E_iload_n dJ0_indexOf_7cf53_27 rfl rfl ?_
    refine E_iload_n dJ0_indexOf_7cf53_28 rfl rfl ?_
    refine E_aload_n dJ0_indexOf_7cf53_29 rfl rfl ?_
    obtain ⟨hg0, h⟩ := h
    refine E_callZ (Y' := Y_J0_length_8abf5) (as := []) (st := [vI x2, vI x1, vR 51 o0]) dJ0_indexOf_7cf53_30 lk_RJ0_505 m_J0_length_8abf5 hg0 (by decide) (Nat.le_refl _) (Nat.le_refl _) rfl rfl (Nat.le_of_ble_eq_true rfl) (s_J0_length_8abf5 h) (fun r0 B0 σ_3 h => ?_)
    obtain ⟨r_4, rfl, rfl, h⟩ := h
    exact h.elim
  · have h := Eq.mp (if_neg hc) h
    refine E_aload_n dJ0_indexOf_7cf53_7 rfl rfl ?_
    obtain ⟨hg0, h⟩ := h
    refine E_sval dJ0_indexOf_7cf53_8 fs_RJ0_9 hg0 ?_
    refine E_iload_n dJ0_indexOf_7cf53_11 rfl rfl ?_
    refine E_iload_n dJ0_indexOf_7cf53_12 rfl rfl ?_
    refine E_aload_n dJ0_indexOf_7cf53_13 rfl rfl ?_
    obtain ⟨hg0, h⟩ := h
    refine E_callZ (Y' := Y_J0_length_8abf5) (as := []) (st := [vI x2, vI x1, vR 51 o0]) dJ0_indexOf_7cf53_14 lk_RJ0_505 m_J0_length_8abf5 hg0 (by decide) (Nat.le_refl _) (Nat.le_refl _) rfl rfl (Nat.le_of_ble_eq_true rfl) (s_J0_length_8abf5 h) (fun r0 B0 σ_5 h => ?_)
    obtain ⟨r_6, rfl, rfl, h⟩ := h
    refine E_callS (Y' := Y_J1_indexOf_4cfef) (as := [vR 51 o0, vI x1, vI x2, vI r_6]) (st := []) dJ0_indexOf_7cf53_17 lk_RJ0_637 m_J1_indexOf_4cfef (by decide) (Nat.le_refl _) (Nat.le_refl _) rfl rfl (Nat.le_of_ble_eq_true rfl) (s_J1_indexOf_4cfef h) (fun r0 B0 σ_7 h => ?_)
    obtain ⟨r_8, rfl, rfl, h⟩ := h
    refine E_goto (tgt := 36) dJ0_indexOf_7cf53_20 (by decide) ?_
    exact E_iret dJ0_indexOf_7cf53_36 rfl ⟨_, rfl, rfl, h⟩
abbrev Y_J0_indexOf_0f7a4 : My := (yJ0_indexOf_0f7a4, cJ0_indexOf_0f7a4, 2, some .int)
theorem dJ0_indexOf_0f7a4_0 : decode cJ0_indexOf_0f7a4 0 = .ok (.aload_n 0, 1) := by decide +kernel
theorem dJ0_indexOf_0f7a4_1 : decode cJ0_indexOf_0f7a4 1 = .ok (.iload_n 1, 1) := by decide +kernel
theorem dJ0_indexOf_0f7a4_2 : decode cJ0_indexOf_0f7a4 2 = .ok (.iconst 0, 1) := by decide +kernel
theorem dJ0_indexOf_0f7a4_3 : decode cJ0_indexOf_0f7a4 3 = .ok (.invokevirtual 633, 3) := by decide +kernel
theorem dJ0_indexOf_0f7a4_6 : decode cJ0_indexOf_0f7a4 6 = .ok (.ireturn, 1) := by decide +kernel
theorem lk_RJ0_633 : Cond.methodLink RJ0 633 yJ0_indexOf_7cf53 ∈ tG := inG (i := 569) (by decide +kernel) (by decide +kernel)
theorem m_J0_indexOf_7cf53 : MZ Y_J0_indexOf_7cf53 2 := ⟨⟨inG (i := 572) (by decide +kernel) (by decide +kernel), inG (i := 111) (by decide +kernel) (by decide +kernel), by decide, by decide, by decide, by decide +kernel⟩, inG (i := 570) (by decide +kernel) (by decide +kernel), inG (i := 571) (by decide +kernel) (by decide +kernel)⟩
def P_J0_indexOf_0f7a4  (o0 : Nat) (x1 : Int) (σ : St) (Q : Int → St → Prop) : Prop :=
  o0 < 27 ∧ P_J0_indexOf_7cf53 o0 x1 0 σ (fun r_2 σ_1 => Q r_2 σ_1)
set_option maxRecDepth 20000 in
set_option maxHeartbeats 2000000 in
theorem s_J0_indexOf_0f7a4   {o0 : Nat} {x1 : Int} {σ : St} {Q : Int → St → Prop} (h : P_J0_indexOf_0f7a4 o0 x1 σ Q) : Cn Y_J0_indexOf_0f7a4 3 0 0 ww σ [vR 50 o0, vI x1] (QI Q) := by
  refine Cn_of [some (vR 50 o0), some (vI x1)] (by decide) (Nat.le_of_ble_eq_true rfl) rfl ?_
  unfold P_J0_indexOf_0f7a4 at h
  refine E_aload_n dJ0_indexOf_0f7a4_0 rfl rfl ?_
  refine E_iload_n dJ0_indexOf_0f7a4_1 rfl rfl ?_
  refine E_ic dJ0_indexOf_0f7a4_2 rfl ?_
  obtain ⟨hg0, h⟩ := h
  refine E_callZ (Y' := Y_J0_indexOf_7cf53) (as := [vI x1, vI 0]) (st := []) dJ0_indexOf_0f7a4_3 lk_RJ0_633 m_J0_indexOf_7cf53 hg0 (by decide) (Nat.le_refl _) (Nat.le_refl _) rfl rfl (Nat.le_of_ble_eq_true rfl) (s_J0_indexOf_7cf53 h) (fun r0 B0 σ_1 h => ?_)
  obtain ⟨r_2, rfl, rfl, h⟩ := h
  exact E_iret dJ0_indexOf_0f7a4_6 rfl ⟨_, rfl, rfl, h⟩
abbrev Y_J1_charAt_3b067 : My := (yJ1_charAt_3b067, cJ1_charAt_3b067, 2, some .char)
theorem dJ1_charAt_3b067_0 : decode cJ1_charAt_3b067 0 = .ok (.iload_n 1, 1) := by decide +kernel
theorem dJ1_charAt_3b067_1 : decode cJ1_charAt_3b067 1 = .ok (.aload_n 0, 1) := by decide +kernel
theorem dJ1_charAt_3b067_2 : decode cJ1_charAt_3b067 2 = .ok (.arraylength, 1) := by decide +kernel
theorem dJ1_charAt_3b067_3 : decode cJ1_charAt_3b067 3 = .ok (.invokestatic 9, 3) := by decide +kernel
theorem dJ1_charAt_3b067_6 : decode cJ1_charAt_3b067 6 = .ok (.aload_n 0, 1) := by decide +kernel
theorem dJ1_charAt_3b067_7 : decode cJ1_charAt_3b067 7 = .ok (.iload_n 1, 1) := by decide +kernel
theorem dJ1_charAt_3b067_8 : decode cJ1_charAt_3b067 8 = .ok (.baload, 1) := by decide +kernel
theorem dJ1_charAt_3b067_9 : decode cJ1_charAt_3b067 9 = .ok (.sipush 255, 3) := by decide +kernel
theorem dJ1_charAt_3b067_12 : decode cJ1_charAt_3b067 12 = .ok (.iand, 1) := by decide +kernel
theorem dJ1_charAt_3b067_13 : decode cJ1_charAt_3b067 13 = .ok (.i2c, 1) := by decide +kernel
theorem dJ1_charAt_3b067_14 : decode cJ1_charAt_3b067 14 = .ok (.ireturn, 1) := by decide +kernel
theorem lk_RJ1_9 : Cond.methodLink RJ1 9 yJ0_checkIndex_df160 ∈ tG := inG (i := 668) (by decide +kernel) (by decide +kernel)
theorem m_J0_checkIndex_df160 : MS Y_J0_checkIndex_df160 2 := ⟨⟨inG (i := 670) (by decide +kernel) (by decide +kernel), inG (i := 111) (by decide +kernel) (by decide +kernel), by decide, by decide, by decide, by decide +kernel⟩, inG (i := 669) (by decide +kernel) (by decide +kernel)⟩
def P_J1_charAt_3b067  (o0 : Nat) (x1 : Int) (σ : St) (Q : Int → St → Prop) : Prop :=
  o0 < 27 ∧ P_J0_checkIndex_df160 x1 (sl o0) σ (fun σ_1 => o0 < 27 ∧ 0 ≤ x1 ∧ x1 < sl o0 ∧ 0 ≤ ic (bA (sb o0 x1) 255) ∧ ic (bA (sb o0 x1) 255) < 65536 ∧ Q (ic (bA (sb o0 x1) 255)) σ_1)
set_option maxRecDepth 20000 in
set_option maxHeartbeats 2000000 in
theorem s_J1_charAt_3b067   {o0 : Nat} {x1 : Int} {σ : St} {Q : Int → St → Prop} (h : P_J1_charAt_3b067 o0 x1 σ Q) : Cn Y_J1_charAt_3b067 2 0 0 ww σ [vR 51 o0, vI x1] (QI Q) := by
  refine Cn_of [some (vR 51 o0), some (vI x1)] (by decide) (Nat.le_of_ble_eq_true rfl) rfl ?_
  unfold P_J1_charAt_3b067 at h
  refine E_iload_n dJ1_charAt_3b067_0 rfl rfl ?_
  refine E_aload_n dJ1_charAt_3b067_1 rfl rfl ?_
  obtain ⟨hg0, h⟩ := h
  refine E_slen dJ1_charAt_3b067_2 hg0 ?_
  refine E_callS (Y' := Y_J0_checkIndex_df160) (as := [vI x1, vI (sl o0)]) (st := []) dJ1_charAt_3b067_3 lk_RJ1_9 m_J0_checkIndex_df160 (by decide) (Nat.le_refl _) (Nat.le_refl _) rfl rfl (Nat.le_of_ble_eq_true rfl) (s_J0_checkIndex_df160 h) (fun r0 B0 σ_1 h => ?_)
  obtain ⟨rfl, rfl, h⟩ := h
  refine E_aload_n dJ1_charAt_3b067_6 rfl rfl ?_
  refine E_iload_n dJ1_charAt_3b067_7 rfl rfl ?_
  obtain ⟨hg0, hg1, hg2, h⟩ := h
  refine E_sbyt dJ1_charAt_3b067_8 hg0 hg1 hg2 ?_
  refine E_sp dJ1_charAt_3b067_9 rfl ?_
  refine E_iand dJ1_charAt_3b067_12 ?_
  refine E_i2c dJ1_charAt_3b067_13 ?_
  obtain ⟨hg0, hg1, h⟩ := h
  exact E_cret dJ1_charAt_3b067_14 rfl hg0 hg1 ⟨_, rfl, rfl, h⟩
abbrev Y_J0_charAt_5068e : My := (yJ0_charAt_5068e, cJ0_charAt_5068e, 2, some .char)
theorem dJ0_charAt_5068e_0 : decode cJ0_charAt_5068e 0 = .ok (.aload_n 0, 1) := by decide +kernel
theorem dJ0_charAt_5068e_1 : decode cJ0_charAt_5068e 1 = .ok (.invokevirtual 492, 3) := by decide +kernel
theorem dJ0_charAt_5068e_4 : decode cJ0_charAt_5068e 4 = .ok (.ifCond .eq 12, 3) := by decide +kernel
theorem dJ0_charAt_5068e_7 : decode cJ0_charAt_5068e 7 = .ok (.aload_n 0, 1) := by decide +kernel
theorem dJ0_charAt_5068e_8 : decode cJ0_charAt_5068e 8 = .ok (.getfield 9, 3) := by decide +kernel
theorem dJ0_charAt_5068e_11 : decode cJ0_charAt_5068e 11 = .ok (.iload_n 1, 1) := by decide +kernel
theorem dJ0_charAt_5068e_12 : decode cJ0_charAt_5068e 12 = .ok (.invokestatic 495, 3) := by decide +kernel
theorem dJ0_charAt_5068e_15 : decode cJ0_charAt_5068e 15 = .ok (.ireturn, 1) := by decide +kernel
theorem dJ0_charAt_5068e_16 : decode cJ0_charAt_5068e 16 = .ok (.aload_n 0, 1) := by decide +kernel
theorem dJ0_charAt_5068e_17 : decode cJ0_charAt_5068e 17 = .ok (.getfield 9, 3) := by decide +kernel
theorem dJ0_charAt_5068e_20 : decode cJ0_charAt_5068e 20 = .ok (.iload_n 1, 1) := by decide +kernel
theorem dJ0_charAt_5068e_21 : decode cJ0_charAt_5068e 21 = .ok (.invokestatic 498, 3) := by decide +kernel
theorem dJ0_charAt_5068e_24 : decode cJ0_charAt_5068e 24 = .ok (.ireturn, 1) := by decide +kernel
theorem lk_RJ0_495 : Cond.methodLink RJ0 495 yJ1_charAt_3b067 ∈ tG := inG (i := 665) (by decide +kernel) (by decide +kernel)
theorem m_J1_charAt_3b067 : MS Y_J1_charAt_3b067 2 := ⟨⟨inG (i := 667) (by decide +kernel) (by decide +kernel), inG (i := 112) (by decide +kernel) (by decide +kernel), by decide, by decide, by decide, by decide +kernel⟩, inG (i := 666) (by decide +kernel) (by decide +kernel)⟩
def P_J0_charAt_5068e  (o0 : Nat) (x1 : Int) (σ : St) (Q : Int → St → Prop) : Prop :=
  o0 < 27 ∧ P_J0_isLatin1_aae02 o0 σ (fun r_2 σ_1 => (if r_2 = 0 then o0 < 27 ∧ False else o0 < 27 ∧ P_J1_charAt_3b067 o0 x1 σ_1 (fun r_4 σ_3 => 0 ≤ r_4 ∧ r_4 < 65536 ∧ Q r_4 σ_3)))
set_option maxRecDepth 20000 in
set_option maxHeartbeats 2000000 in
theorem s_J0_charAt_5068e   {o0 : Nat} {x1 : Int} {σ : St} {Q : Int → St → Prop} (h : P_J0_charAt_5068e o0 x1 σ Q) : Cn Y_J0_charAt_5068e 3 0 0 ww σ [vR 50 o0, vI x1] (QI Q) := by
  refine Cn_of [some (vR 50 o0), some (vI x1)] (by decide) (Nat.le_of_ble_eq_true rfl) rfl ?_
  unfold P_J0_charAt_5068e at h
  refine E_aload_n dJ0_charAt_5068e_0 rfl rfl ?_
  obtain ⟨hg0, h⟩ := h
  refine E_callZ (Y' := Y_J0_isLatin1_aae02) (as := []) (st := []) dJ0_charAt_5068e_1 lk_RJ0_492 m_J0_isLatin1_aae02 hg0 (by decide) (Nat.le_refl _) (Nat.le_refl _) rfl rfl (Nat.le_of_ble_eq_true rfl) (s_J0_isLatin1_aae02 h) (fun r0 B0 σ_1 h => ?_)
  obtain ⟨r_2, rfl, rfl, h⟩ := h
  refine E_if_eq (tgt := 16) dJ0_charAt_5068e_4 (by decide) (fun hc => ?_) (fun hc => ?_)
  · have h := Eq.mp (if_pos hc) h
    refine E_aload_n dJ0_charAt_5068e_16 rfl rfl ?_
    obtain ⟨hg0, h⟩ := h
    refine E_sval dJ0_charAt_5068e_17 fs_RJ0_9 hg0 ?_
    refine E_iload_n dJ0_charAt_5068e_20 rfl rfl ?_
    exact h.elim
  · have h := Eq.mp (if_neg hc) h
    refine E_aload_n dJ0_charAt_5068e_7 rfl rfl ?_
    obtain ⟨hg0, h⟩ := h
    refine E_sval dJ0_charAt_5068e_8 fs_RJ0_9 hg0 ?_
    refine E_iload_n dJ0_charAt_5068e_11 rfl rfl ?_
    refine E_callS (Y' := Y_J1_charAt_3b067) (as := [vR 51 o0, vI x1]) (st := []) dJ0_charAt_5068e_12 lk_RJ0_495 m_J1_charAt_3b067 (by decide) (Nat.le_refl _) (Nat.le_refl _) rfl rfl (Nat.le_of_ble_eq_true rfl) (s_J1_charAt_3b067 h) (fun r0 B0 σ_3 h => ?_)
    obtain ⟨r_4, rfl, rfl, h⟩ := h
    obtain ⟨hg0, hg1, h⟩ := h
    exact E_cret dJ0_charAt_5068e_15 rfl hg0 hg1 ⟨_, rfl, rfl, h⟩
abbrev Y_X1_sortSizesByHome : My := (yX1_sortSizesByHome, cX1_sortSizesByHome, 3, none)
theorem dX1_sortSizesByHome_0 : decode cX1_sortSizesByHome 0 = .ok (.iconst 0, 1) := by decide +kernel
theorem dX1_sortSizesByHome_1 : decode cX1_sortSizesByHome 1 = .ok (.istore_n 1, 1) := by decide +kernel
theorem dX1_sortSizesByHome_2 : decode cX1_sortSizesByHome 2 = .ok (.iload_n 1, 1) := by decide +kernel
theorem dX1_sortSizesByHome_3 : decode cX1_sortSizesByHome 3 = .ok (.aload_n 0, 1) := by decide +kernel
theorem dX1_sortSizesByHome_4 : decode cX1_sortSizesByHome 4 = .ok (.getfield 29, 3) := by decide +kernel
theorem dX1_sortSizesByHome_7 : decode cX1_sortSizesByHome 7 = .ok (.getfield 80, 3) := by decide +kernel
theorem dX1_sortSizesByHome_10 : decode cX1_sortSizesByHome 10 = .ok (.if_icmp .ge 32, 3) := by decide +kernel
theorem dX1_sortSizesByHome_13 : decode cX1_sortSizesByHome 13 = .ok (.iconst 0, 1) := by decide +kernel
theorem dX1_sortSizesByHome_14 : decode cX1_sortSizesByHome 14 = .ok (.istore_n 2, 1) := by decide +kernel
theorem dX1_sortSizesByHome_15 : decode cX1_sortSizesByHome 15 = .ok (.iload_n 2, 1) := by decide +kernel
theorem dX1_sortSizesByHome_16 : decode cX1_sortSizesByHome 16 = .ok (.bipush 60, 2) := by decide +kernel
theorem dX1_sortSizesByHome_18 : decode cX1_sortSizesByHome 18 = .ok (.if_icmp .gt 18, 3) := by decide +kernel
theorem dX1_sortSizesByHome_21 : decode cX1_sortSizesByHome 21 = .ok (.aload_n 0, 1) := by decide +kernel
theorem dX1_sortSizesByHome_22 : decode cX1_sortSizesByHome 22 = .ok (.getfield 26, 3) := by decide +kernel
theorem dX1_sortSizesByHome_25 : decode cX1_sortSizesByHome 25 = .ok (.iload_n 1, 1) := by decide +kernel
theorem dX1_sortSizesByHome_26 : decode cX1_sortSizesByHome 26 = .ok (.aaload, 1) := by decide +kernel
theorem dX1_sortSizesByHome_27 : decode cX1_sortSizesByHome 27 = .ok (.iload_n 2, 1) := by decide +kernel
theorem dX1_sortSizesByHome_28 : decode cX1_sortSizesByHome 28 = .ok (.iconst 0, 1) := by decide +kernel
theorem dX1_sortSizesByHome_29 : decode cX1_sortSizesByHome 29 = .ok (.iastore, 1) := by decide +kernel
theorem dX1_sortSizesByHome_30 : decode cX1_sortSizesByHome 30 = .ok (.iinc 2 1, 3) := by decide +kernel
theorem dX1_sortSizesByHome_33 : decode cX1_sortSizesByHome 33 = .ok (.goto (-18), 3) := by decide +kernel
theorem dX1_sortSizesByHome_36 : decode cX1_sortSizesByHome 36 = .ok (.iinc 1 1, 3) := by decide +kernel
theorem dX1_sortSizesByHome_39 : decode cX1_sortSizesByHome 39 = .ok (.goto (-37), 3) := by decide +kernel
theorem dX1_sortSizesByHome_42 : decode cX1_sortSizesByHome 42 = .ok (.iconst 0, 1) := by decide +kernel
theorem dX1_sortSizesByHome_43 : decode cX1_sortSizesByHome 43 = .ok (.istore_n 1, 1) := by decide +kernel
theorem dX1_sortSizesByHome_44 : decode cX1_sortSizesByHome 44 = .ok (.iload_n 1, 1) := by decide +kernel
theorem dX1_sortSizesByHome_45 : decode cX1_sortSizesByHome 45 = .ok (.aload_n 0, 1) := by decide +kernel
theorem dX1_sortSizesByHome_46 : decode cX1_sortSizesByHome 46 = .ok (.getfield 29, 3) := by decide +kernel
theorem dX1_sortSizesByHome_49 : decode cX1_sortSizesByHome 49 = .ok (.getfield 48, 3) := by decide +kernel
theorem dX1_sortSizesByHome_52 : decode cX1_sortSizesByHome 52 = .ok (.if_icmp .ge 37, 3) := by decide +kernel
theorem dX1_sortSizesByHome_55 : decode cX1_sortSizesByHome 55 = .ok (.aload_n 0, 1) := by decide +kernel
theorem dX1_sortSizesByHome_56 : decode cX1_sortSizesByHome 56 = .ok (.getfield 26, 3) := by decide +kernel
theorem dX1_sortSizesByHome_59 : decode cX1_sortSizesByHome 59 = .ok (.aload_n 0, 1) := by decide +kernel
theorem dX1_sortSizesByHome_60 : decode cX1_sortSizesByHome 60 = .ok (.getfield 29, 3) := by decide +kernel
theorem dX1_sortSizesByHome_63 : decode cX1_sortSizesByHome 63 = .ok (.getfield 67, 3) := by decide +kernel
theorem dX1_sortSizesByHome_66 : decode cX1_sortSizesByHome 66 = .ok (.iload_n 1, 1) := by decide +kernel
theorem dX1_sortSizesByHome_67 : decode cX1_sortSizesByHome 67 = .ok (.iaload, 1) := by decide +kernel
theorem dX1_sortSizesByHome_68 : decode cX1_sortSizesByHome 68 = .ok (.aaload, 1) := by decide +kernel
theorem dX1_sortSizesByHome_69 : decode cX1_sortSizesByHome 69 = .ok (.aload_n 0, 1) := by decide +kernel
theorem dX1_sortSizesByHome_70 : decode cX1_sortSizesByHome 70 = .ok (.getfield 33, 3) := by decide +kernel
theorem dX1_sortSizesByHome_73 : decode cX1_sortSizesByHome 73 = .ok (.getfield 56, 3) := by decide +kernel
theorem dX1_sortSizesByHome_76 : decode cX1_sortSizesByHome 76 = .ok (.iload_n 1, 1) := by decide +kernel
theorem dX1_sortSizesByHome_77 : decode cX1_sortSizesByHome 77 = .ok (.iaload, 1) := by decide +kernel
theorem dX1_sortSizesByHome_78 : decode cX1_sortSizesByHome 78 = .ok (.dup2, 1) := by decide +kernel
theorem dX1_sortSizesByHome_79 : decode cX1_sortSizesByHome 79 = .ok (.iaload, 1) := by decide +kernel
theorem dX1_sortSizesByHome_80 : decode cX1_sortSizesByHome 80 = .ok (.iconst 1, 1) := by decide +kernel
theorem dX1_sortSizesByHome_81 : decode cX1_sortSizesByHome 81 = .ok (.iadd, 1) := by decide +kernel
theorem dX1_sortSizesByHome_82 : decode cX1_sortSizesByHome 82 = .ok (.iastore, 1) := by decide +kernel
theorem dX1_sortSizesByHome_83 : decode cX1_sortSizesByHome 83 = .ok (.iinc 1 1, 3) := by decide +kernel
theorem dX1_sortSizesByHome_86 : decode cX1_sortSizesByHome 86 = .ok (.goto (-42), 3) := by decide +kernel
theorem dX1_sortSizesByHome_89 : decode cX1_sortSizesByHome 89 = .ok (.return_, 1) := by decide +kernel
theorem fl_RX1_26 : FL RX1 26 1 6 := ⟨inG (i := 433) (by decide +kernel) (by decide +kernel), by decide, by decide⟩
theorem fl_RX1_29 : FL RX1 29 1 0 := ⟨inG (i := 426) (by decide +kernel) (by decide +kernel), by decide, by decide⟩
theorem fl_RX1_33 : FL RX1 33 1 1 := ⟨inG (i := 427) (by decide +kernel) (by decide +kernel), by decide, by decide⟩
theorem fl_RX1_48 : FL RX1 48 8 11 := ⟨inG (i := 221) (by decide +kernel) (by decide +kernel), by decide, by decide⟩
theorem fl_RX1_56 : FL RX1 56 9 2 := ⟨inG (i := 310) (by decide +kernel) (by decide +kernel), by decide, by decide⟩
theorem fl_RX1_67 : FL RX1 67 8 6 := ⟨inG (i := 205) (by decide +kernel) (by decide +kernel), by decide, by decide⟩
theorem fl_RX1_80 : FL RX1 80 8 10 := ⟨inG (i := 216) (by decide +kernel) (by decide +kernel), by decide, by decide⟩
theorem go_1_0 (σ : St) (i : Nat) : go σ 1 i 0 = (8, 0) := rfl
theorem go_1_1 (σ : St) (i : Nat) : go σ 1 i 1 = (9, 0) := rfl
theorem go_1_6 (σ : St) (i : Nat) : go σ 1 i 6 = (206, i) := rfl
theorem go_8_6 (σ : St) (i : Nat) : go σ 8 i 6 = (906, i) := rfl
theorem go_9_2 (σ : St) (i : Nat) : go σ 9 i 2 = (1002, i) := rfl
theorem sh_1002 : shp 1002 = (0, 6) := rfl
theorem sh_206 : shp 206 = (6, 6) := rfl
theorem sh_256 : shp 256 = (0, 61) := rfl
theorem sh_906 : shp 906 = (0, 6) := rfl
def P_X1_sortSizesByHome_L15  (x1 : Int) (K : St → Prop) (Q : St → Prop) : Nat → Int → St → Prop
  | 0, _, _ => False
  | n + 1, x2, σ => (if 60 < x2 then K σ else 0 ≤ x1 ∧ x1 < 6 ∧ 0 ≤ x2 ∧ x2 < 61 ∧ (P_X1_sortSizesByHome_L15 x1 K Q n) (wi (x2 + 1)) (up σ 256 x1.toNat x2 0))
set_option maxRecDepth 20000 in
set_option maxHeartbeats 2000000 in
theorem e_P_X1_sortSizesByHome_L15  {x1 : Int} {K : St → Prop} {Q : St → Prop}  (hK : ∀ σ, K σ → E Y_X1_sortSizesByHome 0 0 0 (QV Q) ww 0 0 36 [some (vR 1 0), some (vI x1), none] [] σ) : ∀ (n : Nat) (x2 : Int) (σ : St), P_X1_sortSizesByHome_L15 x1 K Q n x2 σ → E Y_X1_sortSizesByHome 0 0 0 (QV Q) ww 0 0 15 [some (vR 1 0), some (vI x1), some (vI x2)] [] σ := by
  intro n
  induction n with
  | zero => intro x2 σ h; exact h.elim
  | succ n hR =>
    intro x2 σ h
    unfold P_X1_sortSizesByHome_L15 at h
    refine E_iload_n dX1_sortSizesByHome_15 rfl rfl ?_
    refine E_bp dX1_sortSizesByHome_16 rfl ?_
    refine E_icmp_gt (tgt := 36) dX1_sortSizesByHome_18 (by decide) (fun hc => ?_) (fun hc => ?_)
    · have h := Eq.mp (if_pos hc) h
      refine E_wk2 [some (vR 1 0), some (vI x1), none] ⟨rfl, ⟨rfl, trivial⟩⟩ ?_
      exact hK _ h
    · have h := Eq.mp (if_neg hc) h
      refine E_aload_n dX1_sortSizesByHome_21 rfl rfl ?_
      refine E_getr (i := 0) dX1_sortSizesByHome_22 fl_RX1_26 rfl rfl (go_1_6 _ _) ?_
      refine E_iload_n dX1_sortSizesByHome_25 rfl rfl ?_
      obtain ⟨hg0, hg1, h⟩ := h
      refine E_aald dX1_sortSizesByHome_26 sh_206 (by decide) (by decide) hg0 hg1 (wwA sh_206 hg0 hg1) rfl ?_
      refine E_iload_n dX1_sortSizesByHome_27 rfl rfl ?_
      refine E_ic dX1_sortSizesByHome_28 rfl ?_
      obtain ⟨hg0, hg1, h⟩ := h
      refine E_iast dX1_sortSizesByHome_29 sh_256 hg0 hg1 ?_
      refine E_iinc (ls' := [some (vR 1 0), some (vI x1), some (vI (wi (x2 + 1)))]) dX1_sortSizesByHome_30 rfl (by decide) rfl rfl ?_
      refine E_goto (tgt := 15) dX1_sortSizesByHome_33 (by decide) ?_
      exact hR _ _ h
def P_X1_sortSizesByHome_L2   (K : St → Prop) (Q : St → Prop) : Nat → Int → St → Prop
  | 0, _, _ => False
  | n + 1, x1, σ => (if (σ 8 0 10) ≤ x1 then K σ else P_X1_sortSizesByHome_L15 x1 (fun σ_1 => (P_X1_sortSizesByHome_L2 K Q n) (wi (x1 + 1)) σ_1) Q FU 0 σ)
set_option maxRecDepth 20000 in
set_option maxHeartbeats 2000000 in
theorem e_P_X1_sortSizesByHome_L2   {K : St → Prop} {Q : St → Prop}  (hK : ∀ σ, K σ → E Y_X1_sortSizesByHome 0 0 0 (QV Q) ww 0 0 42 [some (vR 1 0), none, none] [] σ) : ∀ (n : Nat) (x1 : Int) (σ : St), P_X1_sortSizesByHome_L2 K Q n x1 σ → E Y_X1_sortSizesByHome 0 0 0 (QV Q) ww 0 0 2 [some (vR 1 0), some (vI x1), none] [] σ := by
  intro n
  induction n with
  | zero => intro x1 σ h; exact h.elim
  | succ n hR =>
    intro x1 σ h
    unfold P_X1_sortSizesByHome_L2 at h
    refine E_iload_n dX1_sortSizesByHome_2 rfl rfl ?_
    refine E_aload_n dX1_sortSizesByHome_3 rfl rfl ?_
    refine E_getr (i := 0) dX1_sortSizesByHome_4 fl_RX1_29 rfl rfl (go_1_0 _ _) ?_
    refine E_geti (i := 0) dX1_sortSizesByHome_7 fl_RX1_80 rfl ?_
    refine E_icmp_ge (tgt := 42) dX1_sortSizesByHome_10 (by decide) (fun hc => ?_) (fun hc => ?_)
    · have h := Eq.mp (if_pos hc) h
      refine E_wk2 [some (vR 1 0), none, none] ⟨rfl, trivial⟩ ?_
      exact hK _ h
    · have h := Eq.mp (if_neg hc) h
      refine E_ic dX1_sortSizesByHome_13 rfl ?_
      refine E_istore_n (ls' := [some (vR 1 0), some (vI x1), some (vI 0)]) dX1_sortSizesByHome_14 rfl (by decide) rfl ?_
      refine e_P_X1_sortSizesByHome_L15 ?_ _ _ _ h
      · intro σ_1 h
        refine E_iinc (ls' := [some (vR 1 0), some (vI (wi (x1 + 1))), none]) dX1_sortSizesByHome_36 rfl (by decide) rfl rfl ?_
        refine E_goto (tgt := 2) dX1_sortSizesByHome_39 (by decide) ?_
        exact hR _ _ h
def P_X1_sortSizesByHome_L44    (Q : St → Prop) : Nat → Int → St → Prop
  | 0, _, _ => False
  | n + 1, x1, σ => (if (σ 8 0 11) ≤ x1 then Q σ else 0 ≤ x1 ∧ x1 < 6 ∧ 0 ≤ σ 906 0 x1 ∧ σ 906 0 x1 < 6 ∧ 0 ≤ x1 ∧ x1 < 6 ∧ 0 ≤ σ 1002 0 x1 ∧ σ 1002 0 x1 < 61 ∧ 0 ≤ σ 1002 0 x1 ∧ σ 1002 0 x1 < 61 ∧ (P_X1_sortSizesByHome_L44 Q n) (wi (x1 + 1)) (up σ 256 ((σ 906 0 x1).toNat) (σ 1002 0 x1) (wi ((σ 256 ((σ 906 0 x1).toNat) (σ 1002 0 x1)) + 1))))
set_option maxRecDepth 20000 in
set_option maxHeartbeats 2000000 in
theorem e_P_X1_sortSizesByHome_L44    {Q : St → Prop}   : ∀ (n : Nat) (x1 : Int) (σ : St), P_X1_sortSizesByHome_L44 Q n x1 σ → E Y_X1_sortSizesByHome 0 0 0 (QV Q) ww 0 0 44 [some (vR 1 0), some (vI x1), none] [] σ := by
  intro n
  induction n with
  | zero => intro x1 σ h; exact h.elim
  | succ n hR =>
    intro x1 σ h
    unfold P_X1_sortSizesByHome_L44 at h
    refine E_iload_n dX1_sortSizesByHome_44 rfl rfl ?_
    refine E_aload_n dX1_sortSizesByHome_45 rfl rfl ?_
    refine E_getr (i := 0) dX1_sortSizesByHome_46 fl_RX1_29 rfl rfl (go_1_0 _ _) ?_
    refine E_geti (i := 0) dX1_sortSizesByHome_49 fl_RX1_48 rfl ?_
    refine E_icmp_ge (tgt := 89) dX1_sortSizesByHome_52 (by decide) (fun hc => ?_) (fun hc => ?_)
    · have h := Eq.mp (if_pos hc) h
      exact E_vret dX1_sortSizesByHome_89 rfl ⟨rfl, rfl, h⟩
    · have h := Eq.mp (if_neg hc) h
      refine E_aload_n dX1_sortSizesByHome_55 rfl rfl ?_
      refine E_getr (i := 0) dX1_sortSizesByHome_56 fl_RX1_26 rfl rfl (go_1_6 _ _) ?_
      refine E_aload_n dX1_sortSizesByHome_59 rfl rfl ?_
      refine E_getr (i := 0) dX1_sortSizesByHome_60 fl_RX1_29 rfl rfl (go_1_0 _ _) ?_
      refine E_getr (i := 0) dX1_sortSizesByHome_63 fl_RX1_67 rfl rfl (go_8_6 _ _) ?_
      refine E_iload_n dX1_sortSizesByHome_66 rfl rfl ?_
      obtain ⟨hg0, hg1, h⟩ := h
      refine E_iald dX1_sortSizesByHome_67 sh_906 hg0 hg1 ?_
      obtain ⟨hg0, hg1, h⟩ := h
      refine E_aald dX1_sortSizesByHome_68 sh_206 (by decide) (by decide) hg0 hg1 (wwA sh_206 hg0 hg1) rfl ?_
      refine E_aload_n dX1_sortSizesByHome_69 rfl rfl ?_
      refine E_getr (i := 0) dX1_sortSizesByHome_70 fl_RX1_33 rfl rfl (go_1_1 _ _) ?_
      refine E_getr (i := 0) dX1_sortSizesByHome_73 fl_RX1_56 rfl rfl (go_9_2 _ _) ?_
      refine E_iload_n dX1_sortSizesByHome_76 rfl rfl ?_
      obtain ⟨hg0, hg1, h⟩ := h
      refine E_iald dX1_sortSizesByHome_77 sh_1002 hg0 hg1 ?_
      refine E_dup2 dX1_sortSizesByHome_78 (fun _ q => by cases q) (fun _ q => by cases q) ?_
      obtain ⟨hg0, hg1, h⟩ := h
      refine E_iald dX1_sortSizesByHome_79 sh_256 hg0 hg1 ?_
      refine E_ic dX1_sortSizesByHome_80 rfl ?_
      refine E_iadd dX1_sortSizesByHome_81 ?_
      obtain ⟨hg0, hg1, h⟩ := h
      refine E_iast dX1_sortSizesByHome_82 sh_256 hg0 hg1 ?_
      refine E_iinc (ls' := [some (vR 1 0), some (vI (wi (x1 + 1))), none]) dX1_sortSizesByHome_83 rfl (by decide) rfl rfl ?_
      refine E_goto (tgt := 44) dX1_sortSizesByHome_86 (by decide) ?_
      exact hR _ _ h
def P_X1_sortSizesByHome   (σ : St) (Q : St → Prop) : Prop :=
  P_X1_sortSizesByHome_L2 (fun σ_2 => P_X1_sortSizesByHome_L44 Q FU 0 σ_2) Q FU 0 σ
set_option maxRecDepth 20000 in
set_option maxHeartbeats 2000000 in
theorem s_X1_sortSizesByHome    {σ : St} {Q : St → Prop} (h : P_X1_sortSizesByHome  σ Q) : Cn Y_X1_sortSizesByHome 0 0 0 ww σ [vR 1 0] (QV Q) := by
  refine Cn_of [some (vR 1 0), none, none] (by decide) (Nat.le_of_ble_eq_true rfl) rfl ?_
  unfold P_X1_sortSizesByHome at h
  refine E_ic dX1_sortSizesByHome_0 rfl ?_
  refine E_istore_n (ls' := [some (vR 1 0), some (vI 0), none]) dX1_sortSizesByHome_1 rfl (by decide) rfl ?_
  refine e_P_X1_sortSizesByHome_L2 ?_ _ _ _ h
  · intro σ_2 h
    refine E_ic dX1_sortSizesByHome_42 rfl ?_
    refine E_istore_n (ls' := [some (vR 1 0), some (vI 0), none]) dX1_sortSizesByHome_43 rfl (by decide) rfl ?_
    refine e_P_X1_sortSizesByHome_L44  _ _ _ h
abbrev Y_X1_choose : My := (yX1_choose, cX1_choose, 9, none)
theorem dX1_choose_0 : decode cX1_choose 0 = .ok (.aload_n 0, 1) := by decide +kernel
theorem dX1_choose_1 : decode cX1_choose 1 = .ok (.getfield 26, 3) := by decide +kernel
theorem dX1_choose_4 : decode cX1_choose 4 = .ok (.aload_n 0, 1) := by decide +kernel
theorem dX1_choose_5 : decode cX1_choose 5 = .ok (.getfield 29, 3) := by decide +kernel
theorem dX1_choose_8 : decode cX1_choose 8 = .ok (.getfield 90, 3) := by decide +kernel
theorem dX1_choose_11 : decode cX1_choose 11 = .ok (.iload_n 1, 1) := by decide +kernel
theorem dX1_choose_12 : decode cX1_choose 12 = .ok (.iaload, 1) := by decide +kernel
theorem dX1_choose_13 : decode cX1_choose 13 = .ok (.aaload, 1) := by decide +kernel
theorem dX1_choose_14 : decode cX1_choose 14 = .ok (.astore_n 3, 1) := by decide +kernel
theorem dX1_choose_15 : decode cX1_choose 15 = .ok (.aload_n 0, 1) := by decide +kernel
theorem dX1_choose_16 : decode cX1_choose 16 = .ok (.getfield 20, 3) := by decide +kernel
theorem dX1_choose_19 : decode cX1_choose 19 = .ok (.iload_n 1, 1) := by decide +kernel
theorem dX1_choose_20 : decode cX1_choose 20 = .ok (.iconst 1, 1) := by decide +kernel
theorem dX1_choose_21 : decode cX1_choose 21 = .ok (.iadd, 1) := by decide +kernel
theorem dX1_choose_22 : decode cX1_choose 22 = .ok (.aaload, 1) := by decide +kernel
theorem dX1_choose_23 : decode cX1_choose 23 = .ok (.iload_n 2, 1) := by decide +kernel
theorem dX1_choose_24 : decode cX1_choose 24 = .ok (.iaload, 1) := by decide +kernel
theorem dX1_choose_25 : decode cX1_choose 25 = .ok (.istore 4, 2) := by decide +kernel
theorem dX1_choose_27 : decode cX1_choose 27 = .ok (.iconst 0, 1) := by decide +kernel
theorem dX1_choose_28 : decode cX1_choose 28 = .ok (.istore 5, 2) := by decide +kernel
theorem dX1_choose_30 : decode cX1_choose 30 = .ok (.iconst 0, 1) := by decide +kernel
theorem dX1_choose_31 : decode cX1_choose 31 = .ok (.istore 6, 2) := by decide +kernel
theorem dX1_choose_33 : decode cX1_choose 33 = .ok (.iload_n 2, 1) := by decide +kernel
theorem dX1_choose_34 : decode cX1_choose 34 = .ok (.iconst 1, 1) := by decide +kernel
theorem dX1_choose_35 : decode cX1_choose 35 = .ok (.iadd, 1) := by decide +kernel
theorem dX1_choose_36 : decode cX1_choose 36 = .ok (.istore 7, 2) := by decide +kernel
theorem dX1_choose_38 : decode cX1_choose 38 = .ok (.iload 7, 2) := by decide +kernel
theorem dX1_choose_40 : decode cX1_choose 40 = .ok (.bipush 60, 2) := by decide +kernel
theorem dX1_choose_42 : decode cX1_choose 42 = .ok (.if_icmp .gt 49, 3) := by decide +kernel
theorem dX1_choose_45 : decode cX1_choose 45 = .ok (.iload 6, 2) := by decide +kernel
theorem dX1_choose_47 : decode cX1_choose 47 = .ok (.aload_n 3, 1) := by decide +kernel
theorem dX1_choose_48 : decode cX1_choose 48 = .ok (.iload 7, 2) := by decide +kernel
theorem dX1_choose_50 : decode cX1_choose 50 = .ok (.iaload, 1) := by decide +kernel
theorem dX1_choose_51 : decode cX1_choose 51 = .ok (.iadd, 1) := by decide +kernel
theorem dX1_choose_52 : decode cX1_choose 52 = .ok (.istore 6, 2) := by decide +kernel
theorem dX1_choose_54 : decode cX1_choose 54 = .ok (.iload 6, 2) := by decide +kernel
theorem dX1_choose_56 : decode cX1_choose 56 = .ok (.aload_n 0, 1) := by decide +kernel
theorem dX1_choose_57 : decode cX1_choose 57 = .ok (.getfield 20, 3) := by decide +kernel
theorem dX1_choose_60 : decode cX1_choose 60 = .ok (.iload_n 1, 1) := by decide +kernel
theorem dX1_choose_61 : decode cX1_choose 61 = .ok (.iconst 1, 1) := by decide +kernel
theorem dX1_choose_62 : decode cX1_choose 62 = .ok (.iadd, 1) := by decide +kernel
theorem dX1_choose_63 : decode cX1_choose 63 = .ok (.aaload, 1) := by decide +kernel
theorem dX1_choose_64 : decode cX1_choose 64 = .ok (.iload 7, 2) := by decide +kernel
theorem dX1_choose_66 : decode cX1_choose 66 = .ok (.iaload, 1) := by decide +kernel
theorem dX1_choose_67 : decode cX1_choose 67 = .ok (.iadd, 1) := by decide +kernel
theorem dX1_choose_68 : decode cX1_choose 68 = .ok (.istore 8, 2) := by decide +kernel
theorem dX1_choose_70 : decode cX1_choose 70 = .ok (.iload 8, 2) := by decide +kernel
theorem dX1_choose_72 : decode cX1_choose 72 = .ok (.iload 4, 2) := by decide +kernel
theorem dX1_choose_74 : decode cX1_choose 74 = .ok (.if_icmp .le 11, 3) := by decide +kernel
theorem dX1_choose_77 : decode cX1_choose 77 = .ok (.iload 8, 2) := by decide +kernel
theorem dX1_choose_79 : decode cX1_choose 79 = .ok (.istore 4, 2) := by decide +kernel
theorem dX1_choose_81 : decode cX1_choose 81 = .ok (.iload 7, 2) := by decide +kernel
theorem dX1_choose_83 : decode cX1_choose 83 = .ok (.istore 5, 2) := by decide +kernel
theorem dX1_choose_85 : decode cX1_choose 85 = .ok (.iinc 7 1, 3) := by decide +kernel
theorem dX1_choose_88 : decode cX1_choose 88 = .ok (.goto (-50), 3) := by decide +kernel
theorem dX1_choose_91 : decode cX1_choose 91 = .ok (.aload_n 0, 1) := by decide +kernel
theorem dX1_choose_92 : decode cX1_choose 92 = .ok (.getfield 20, 3) := by decide +kernel
theorem dX1_choose_95 : decode cX1_choose 95 = .ok (.iload_n 1, 1) := by decide +kernel
theorem dX1_choose_96 : decode cX1_choose 96 = .ok (.aaload, 1) := by decide +kernel
theorem dX1_choose_97 : decode cX1_choose 97 = .ok (.iload_n 2, 1) := by decide +kernel
theorem dX1_choose_98 : decode cX1_choose 98 = .ok (.iload 4, 2) := by decide +kernel
theorem dX1_choose_100 : decode cX1_choose 100 = .ok (.iastore, 1) := by decide +kernel
theorem dX1_choose_101 : decode cX1_choose 101 = .ok (.aload_n 0, 1) := by decide +kernel
theorem dX1_choose_102 : decode cX1_choose 102 = .ok (.getfield 23, 3) := by decide +kernel
theorem dX1_choose_105 : decode cX1_choose 105 = .ok (.iload_n 1, 1) := by decide +kernel
theorem dX1_choose_106 : decode cX1_choose 106 = .ok (.aaload, 1) := by decide +kernel
theorem dX1_choose_107 : decode cX1_choose 107 = .ok (.iload_n 2, 1) := by decide +kernel
theorem dX1_choose_108 : decode cX1_choose 108 = .ok (.iload 5, 2) := by decide +kernel
theorem dX1_choose_110 : decode cX1_choose 110 = .ok (.iastore, 1) := by decide +kernel
theorem dX1_choose_111 : decode cX1_choose 111 = .ok (.return_, 1) := by decide +kernel
theorem fl_RX1_20 : FL RX1 20 1 4 := ⟨inG (i := 431) (by decide +kernel) (by decide +kernel), by decide, by decide⟩
theorem fl_RX1_23 : FL RX1 23 1 5 := ⟨inG (i := 432) (by decide +kernel) (by decide +kernel), by decide, by decide⟩
theorem fl_RX1_90 : FL RX1 90 8 3 := ⟨inG (i := 197) (by decide +kernel) (by decide +kernel), by decide, by decide⟩
theorem go_1_4 (σ : St) (i : Nat) : go σ 1 i 4 = (204, i) := rfl
theorem go_1_5 (σ : St) (i : Nat) : go σ 1 i 5 = (205, i) := rfl
theorem go_8_3 (σ : St) (i : Nat) : go σ 8 i 3 = (903, i) := rfl
theorem sh_204 : shp 204 = (6, 7) := rfl
theorem sh_205 : shp 205 = (6, 6) := rfl
theorem sh_254 : shp 254 = (0, 61) := rfl
theorem sh_255 : shp 255 = (0, 61) := rfl
theorem sh_903 : shp 903 = (0, 6) := rfl
def P_X1_choose_L38  (x1 : Int) (x2 : Int) (o3 : Nat) (K : Int → Int → St → Prop) (Q : St → Prop) : Nat → Int → Int → Int → Int → St → Prop
  | 0, _, _, _, _, _ => False
  | n + 1, x4, x5, x6, x7, σ => (if 60 < x7 then K x4 x5 σ else 0 ≤ x7 ∧ x7 < 61 ∧ 0 ≤ wi (x1 + 1) ∧ wi (x1 + 1) < 7 ∧ 0 ≤ x7 ∧ x7 < 61 ∧ (if (wi ((wi (x6 + (σ 256 o3 x7))) + (σ 254 ((wi (x1 + 1)).toNat) x7))) ≤ x4 then (P_X1_choose_L38 x1 x2 o3 K Q n) x4 x5 (wi (x6 + (σ 256 o3 x7))) (wi (x7 + 1)) σ else (P_X1_choose_L38 x1 x2 o3 K Q n) (wi ((wi (x6 + (σ 256 o3 x7))) + (σ 254 ((wi (x1 + 1)).toNat) x7))) x7 (wi (x6 + (σ 256 o3 x7))) (wi (x7 + 1)) σ))
set_option maxRecDepth 20000 in
set_option maxHeartbeats 2000000 in
theorem e_P_X1_choose_L38  {x1 : Int} {x2 : Int} {o3 : Nat} {K : Int → Int → St → Prop} {Q : St → Prop}  (hK : ∀ x4 x5 σ, K x4 x5 σ → E Y_X1_choose 0 0 0 (QV Q) ww 0 0 91 [some (vR 1 0), some (vI x1), some (vI x2), none, some (vI x4), some (vI x5), none, none, none] [] σ) : ∀ (n : Nat) (x4 : Int) (x5 : Int) (x6 : Int) (x7 : Int) (σ : St), P_X1_choose_L38 x1 x2 o3 K Q n x4 x5 x6 x7 σ → E Y_X1_choose 0 0 0 (QV Q) ww 0 0 38 [some (vR 1 0), some (vI x1), some (vI x2), some (vR 256 o3), some (vI x4), some (vI x5), some (vI x6), some (vI x7), none] [] σ := by
  intro n
  induction n with
  | zero => intro x4 x5 x6 x7 σ h; exact h.elim
  | succ n hR =>
    intro x4 x5 x6 x7 σ h
    unfold P_X1_choose_L38 at h
    refine E_iload dX1_choose_38 rfl ?_
    refine E_bp dX1_choose_40 rfl ?_
    refine E_icmp_gt (tgt := 91) dX1_choose_42 (by decide) (fun hc => ?_) (fun hc => ?_)
    · have h := Eq.mp (if_pos hc) h
      refine E_wk2 [some (vR 1 0), some (vI x1), some (vI x2), none, some (vI x4), some (vI x5), none, none, none] ⟨rfl, ⟨rfl, ⟨rfl, ⟨rfl, ⟨rfl, trivial⟩⟩⟩⟩⟩ ?_
      exact hK _ _ _ h
    · have h := Eq.mp (if_neg hc) h
      refine E_iload dX1_choose_45 rfl ?_
      refine E_aload_n dX1_choose_47 rfl rfl ?_
      refine E_iload dX1_choose_48 rfl ?_
      obtain ⟨hg0, hg1, h⟩ := h
      refine E_iald dX1_choose_50 sh_256 hg0 hg1 ?_
      refine E_iadd dX1_choose_51 ?_
      refine E_istore (ls' := [some (vR 1 0), some (vI x1), some (vI x2), some (vR 256 o3), some (vI x4), some (vI x5), some (vI (wi (x6 + (σ 256 o3 x7)))), some (vI x7), none]) dX1_choose_52 (by decide) rfl ?_
      refine E_iload dX1_choose_54 rfl ?_
      refine E_aload_n dX1_choose_56 rfl rfl ?_
      refine E_getr (i := 0) dX1_choose_57 fl_RX1_20 rfl rfl (go_1_4 _ _) ?_
      refine E_iload_n dX1_choose_60 rfl rfl ?_
      refine E_ic dX1_choose_61 rfl ?_
      refine E_iadd dX1_choose_62 ?_
      obtain ⟨hg0, hg1, h⟩ := h
      refine E_aald dX1_choose_63 sh_204 (by decide) (by decide) hg0 hg1 (wwA sh_204 hg0 hg1) rfl ?_
      refine E_iload dX1_choose_64 rfl ?_
      obtain ⟨hg0, hg1, h⟩ := h
      refine E_iald dX1_choose_66 sh_254 hg0 hg1 ?_
      refine E_iadd dX1_choose_67 ?_
      refine E_istore (ls' := [some (vR 1 0), some (vI x1), some (vI x2), some (vR 256 o3), some (vI x4), some (vI x5), some (vI (wi (x6 + (σ 256 o3 x7)))), some (vI x7), some (vI (wi ((wi (x6 + (σ 256 o3 x7))) + (σ 254 ((wi (x1 + 1)).toNat) x7))))]) dX1_choose_68 (by decide) rfl ?_
      refine E_iload dX1_choose_70 rfl ?_
      refine E_iload dX1_choose_72 rfl ?_
      refine E_icmp_le (tgt := 85) dX1_choose_74 (by decide) (fun hc => ?_) (fun hc => ?_)
      · have h := Eq.mp (if_pos hc) h
        refine E_iinc (ls' := [some (vR 1 0), some (vI x1), some (vI x2), some (vR 256 o3), some (vI x4), some (vI x5), some (vI (wi (x6 + (σ 256 o3 x7)))), some (vI (wi (x7 + 1))), some (vI (wi ((wi (x6 + (σ 256 o3 x7))) + (σ 254 ((wi (x1 + 1)).toNat) x7))))]) dX1_choose_85 rfl (by decide) rfl rfl ?_
        refine E_goto (tgt := 38) dX1_choose_88 (by decide) ?_
        refine E_wk2 [some (vR 1 0), some (vI x1), some (vI x2), some (vR 256 o3), some (vI x4), some (vI x5), some (vI (wi (x6 + (σ 256 o3 x7)))), some (vI (wi (x7 + 1))), none] ⟨rfl, ⟨rfl, ⟨rfl, ⟨rfl, ⟨rfl, ⟨rfl, ⟨rfl, ⟨rfl, trivial⟩⟩⟩⟩⟩⟩⟩⟩ ?_
        exact hR _ _ _ _ _ h
      · have h := Eq.mp (if_neg hc) h
        refine E_iload dX1_choose_77 rfl ?_
        refine E_istore (ls' := [some (vR 1 0), some (vI x1), some (vI x2), some (vR 256 o3), some (vI (wi ((wi (x6 + (σ 256 o3 x7))) + (σ 254 ((wi (x1 + 1)).toNat) x7)))), some (vI x5), some (vI (wi (x6 + (σ 256 o3 x7)))), some (vI x7), some (vI (wi ((wi (x6 + (σ 256 o3 x7))) + (σ 254 ((wi (x1 + 1)).toNat) x7))))]) dX1_choose_79 (by decide) rfl ?_
        refine E_iload dX1_choose_81 rfl ?_
        refine E_istore (ls' := [some (vR 1 0), some (vI x1), some (vI x2), some (vR 256 o3), some (vI (wi ((wi (x6 + (σ 256 o3 x7))) + (σ 254 ((wi (x1 + 1)).toNat) x7)))), some (vI x7), some (vI (wi (x6 + (σ 256 o3 x7)))), some (vI x7), some (vI (wi ((wi (x6 + (σ 256 o3 x7))) + (σ 254 ((wi (x1 + 1)).toNat) x7))))]) dX1_choose_83 (by decide) rfl ?_
        refine E_iinc (ls' := [some (vR 1 0), some (vI x1), some (vI x2), some (vR 256 o3), some (vI (wi ((wi (x6 + (σ 256 o3 x7))) + (σ 254 ((wi (x1 + 1)).toNat) x7)))), some (vI x7), some (vI (wi (x6 + (σ 256 o3 x7)))), some (vI (wi (x7 + 1))), some (vI (wi ((wi (x6 + (σ 256 o3 x7))) + (σ 254 ((wi (x1 + 1)).toNat) x7))))]) dX1_choose_85 rfl (by decide) rfl rfl ?_
        refine E_goto (tgt := 38) dX1_choose_88 (by decide) ?_
        refine E_wk2 [some (vR 1 0), some (vI x1), some (vI x2), some (vR 256 o3), some (vI (wi ((wi (x6 + (σ 256 o3 x7))) + (σ 254 ((wi (x1 + 1)).toNat) x7)))), some (vI x7), some (vI (wi (x6 + (σ 256 o3 x7)))), some (vI (wi (x7 + 1))), none] ⟨rfl, ⟨rfl, ⟨rfl, ⟨rfl, ⟨rfl, ⟨rfl, ⟨rfl, ⟨rfl, trivial⟩⟩⟩⟩⟩⟩⟩⟩ ?_
        exact hR _ _ _ _ _ h
def P_X1_choose  (x1 : Int) (x2 : Int) (σ : St) (Q : St → Prop) : Prop :=
  0 ≤ x1 ∧ x1 < 6 ∧ 0 ≤ σ 903 0 x1 ∧ σ 903 0 x1 < 6 ∧ 0 ≤ wi (x1 + 1) ∧ wi (x1 + 1) < 7 ∧ 0 ≤ x2 ∧ x2 < 61 ∧ P_X1_choose_L38 x1 x2 ((σ 903 0 x1).toNat) (fun x4_1 x5_2 σ_3 => 0 ≤ x1 ∧ x1 < 7 ∧ 0 ≤ x2 ∧ x2 < 61 ∧ 0 ≤ x1 ∧ x1 < 6 ∧ 0 ≤ x2 ∧ x2 < 61 ∧ Q (up (up σ_3 254 x1.toNat x2 x4_1) 255 x1.toNat x2 x5_2)) Q FU (σ 254 ((wi (x1 + 1)).toNat) x2) 0 0 (wi (x2 + 1)) σ
set_option maxRecDepth 20000 in
set_option maxHeartbeats 2000000 in
theorem s_X1_choose   {x1 : Int} {x2 : Int} {σ : St} {Q : St → Prop} (h : P_X1_choose x1 x2 σ Q) : Cn Y_X1_choose 0 0 0 ww σ [vR 1 0, vI x1, vI x2] (QV Q) := by
  refine Cn_of [some (vR 1 0), some (vI x1), some (vI x2), none, none, none, none, none, none] (by decide) (Nat.le_of_ble_eq_true rfl) rfl ?_
  unfold P_X1_choose at h
  refine E_aload_n dX1_choose_0 rfl rfl ?_
  refine E_getr (i := 0) dX1_choose_1 fl_RX1_26 rfl rfl (go_1_6 _ _) ?_
  refine E_aload_n dX1_choose_4 rfl rfl ?_
  refine E_getr (i := 0) dX1_choose_5 fl_RX1_29 rfl rfl (go_1_0 _ _) ?_
  refine E_getr (i := 0) dX1_choose_8 fl_RX1_90 rfl rfl (go_8_3 _ _) ?_
  refine E_iload_n dX1_choose_11 rfl rfl ?_
  obtain ⟨hg0, hg1, h⟩ := h
  refine E_iald dX1_choose_12 sh_903 hg0 hg1 ?_
  obtain ⟨hg0, hg1, h⟩ := h
  refine E_aald dX1_choose_13 sh_206 (by decide) (by decide) hg0 hg1 (wwA sh_206 hg0 hg1) rfl ?_
  refine E_astore_n (ls' := [some (vR 1 0), some (vI x1), some (vI x2), some (vR 256 ((σ 903 0 x1).toNat)), none, none, none, none, none]) dX1_choose_14 rfl (by decide) rfl ?_
  refine E_aload_n dX1_choose_15 rfl rfl ?_
  refine E_getr (i := 0) dX1_choose_16 fl_RX1_20 rfl rfl (go_1_4 _ _) ?_
  refine E_iload_n dX1_choose_19 rfl rfl ?_
  refine E_ic dX1_choose_20 rfl ?_
  refine E_iadd dX1_choose_21 ?_
  obtain ⟨hg0, hg1, h⟩ := h
  refine E_aald dX1_choose_22 sh_204 (by decide) (by decide) hg0 hg1 (wwA sh_204 hg0 hg1) rfl ?_
  refine E_iload_n dX1_choose_23 rfl rfl ?_
  obtain ⟨hg0, hg1, h⟩ := h
  refine E_iald dX1_choose_24 sh_254 hg0 hg1 ?_
  refine E_istore (ls' := [some (vR 1 0), some (vI x1), some (vI x2), some (vR 256 ((σ 903 0 x1).toNat)), some (vI (σ 254 ((wi (x1 + 1)).toNat) x2)), none, none, none, none]) dX1_choose_25 (by decide) rfl ?_
  refine E_ic dX1_choose_27 rfl ?_
  refine E_istore (ls' := [some (vR 1 0), some (vI x1), some (vI x2), some (vR 256 ((σ 903 0 x1).toNat)), some (vI (σ 254 ((wi (x1 + 1)).toNat) x2)), some (vI 0), none, none, none]) dX1_choose_28 (by decide) rfl ?_
  refine E_ic dX1_choose_30 rfl ?_
  refine E_istore (ls' := [some (vR 1 0), some (vI x1), some (vI x2), some (vR 256 ((σ 903 0 x1).toNat)), some (vI (σ 254 ((wi (x1 + 1)).toNat) x2)), some (vI 0), some (vI 0), none, none]) dX1_choose_31 (by decide) rfl ?_
  refine E_iload_n dX1_choose_33 rfl rfl ?_
  refine E_ic dX1_choose_34 rfl ?_
  refine E_iadd dX1_choose_35 ?_
  refine E_istore (ls' := [some (vR 1 0), some (vI x1), some (vI x2), some (vR 256 ((σ 903 0 x1).toNat)), some (vI (σ 254 ((wi (x1 + 1)).toNat) x2)), some (vI 0), some (vI 0), some (vI (wi (x2 + 1))), none]) dX1_choose_36 (by decide) rfl ?_
  refine e_P_X1_choose_L38 ?_ _ _ _ _ _ _ h
  · intro x4_1 x5_2 σ_3 h
    refine E_aload_n dX1_choose_91 rfl rfl ?_
    refine E_getr (i := 0) dX1_choose_92 fl_RX1_20 rfl rfl (go_1_4 _ _) ?_
    refine E_iload_n dX1_choose_95 rfl rfl ?_
    obtain ⟨hg0, hg1, h⟩ := h
    refine E_aald dX1_choose_96 sh_204 (by decide) (by decide) hg0 hg1 (wwA sh_204 hg0 hg1) rfl ?_
    refine E_iload_n dX1_choose_97 rfl rfl ?_
    refine E_iload dX1_choose_98 rfl ?_
    obtain ⟨hg0, hg1, h⟩ := h
    refine E_iast dX1_choose_100 sh_254 hg0 hg1 ?_
    refine E_aload_n dX1_choose_101 rfl rfl ?_
    refine E_getr (i := 0) dX1_choose_102 fl_RX1_23 rfl rfl (go_1_5 _ _) ?_
    refine E_iload_n dX1_choose_105 rfl rfl ?_
    obtain ⟨hg0, hg1, h⟩ := h
    refine E_aald dX1_choose_106 sh_205 (by decide) (by decide) hg0 hg1 (wwA sh_205 hg0 hg1) rfl ?_
    refine E_iload_n dX1_choose_107 rfl rfl ?_
    refine E_iload dX1_choose_108 rfl ?_
    obtain ⟨hg0, hg1, h⟩ := h
    refine E_iast dX1_choose_110 sh_255 hg0 hg1 ?_
    exact E_vret dX1_choose_111 rfl ⟨rfl, rfl, h⟩
abbrev Y_X2_add : My := (yX2_add, cX2_add, 3, none)
theorem dX2_add_0 : decode cX2_add 0 = .ok (.aload_n 0, 1) := by decide +kernel
theorem dX2_add_1 : decode cX2_add 1 = .ok (.getfield 21, 3) := by decide +kernel
theorem dX2_add_4 : decode cX2_add 4 = .ok (.sipush 1000, 3) := by decide +kernel
theorem dX2_add_7 : decode cX2_add 7 = .ok (.if_icmp .ge 33, 3) := by decide +kernel
theorem dX2_add_10 : decode cX2_add 10 = .ok (.aload_n 0, 1) := by decide +kernel
theorem dX2_add_11 : decode cX2_add 11 = .ok (.getfield 9, 3) := by decide +kernel
theorem dX2_add_14 : decode cX2_add 14 = .ok (.aload_n 0, 1) := by decide +kernel
theorem dX2_add_15 : decode cX2_add 15 = .ok (.getfield 21, 3) := by decide +kernel
theorem dX2_add_18 : decode cX2_add 18 = .ok (.iload_n 1, 1) := by decide +kernel
theorem dX2_add_19 : decode cX2_add 19 = .ok (.iastore, 1) := by decide +kernel
theorem dX2_add_20 : decode cX2_add 20 = .ok (.aload_n 0, 1) := by decide +kernel
theorem dX2_add_21 : decode cX2_add 21 = .ok (.getfield 15, 3) := by decide +kernel
theorem dX2_add_24 : decode cX2_add 24 = .ok (.aload_n 0, 1) := by decide +kernel
theorem dX2_add_25 : decode cX2_add 25 = .ok (.getfield 21, 3) := by decide +kernel
theorem dX2_add_28 : decode cX2_add 28 = .ok (.iload_n 2, 1) := by decide +kernel
theorem dX2_add_29 : decode cX2_add 29 = .ok (.iastore, 1) := by decide +kernel
theorem dX2_add_30 : decode cX2_add 30 = .ok (.aload_n 0, 1) := by decide +kernel
theorem dX2_add_31 : decode cX2_add 31 = .ok (.dup, 1) := by decide +kernel
theorem dX2_add_32 : decode cX2_add 32 = .ok (.getfield 21, 3) := by decide +kernel
theorem dX2_add_35 : decode cX2_add 35 = .ok (.iconst 1, 1) := by decide +kernel
theorem dX2_add_36 : decode cX2_add 36 = .ok (.iadd, 1) := by decide +kernel
theorem dX2_add_37 : decode cX2_add 37 = .ok (.putfield 21, 3) := by decide +kernel
theorem dX2_add_40 : decode cX2_add 40 = .ok (.return_, 1) := by decide +kernel
theorem fl_RX2_15 : FL RX2 15 2 1 := ⟨inG (i := 177) (by decide +kernel) (by decide +kernel), by decide, by decide⟩
theorem fl_RX2_21 : FL RX2 21 2 3 := ⟨inG (i := 179) (by decide +kernel) (by decide +kernel), by decide, by decide⟩
theorem fl_RX2_9 : FL RX2 9 2 0 := ⟨inG (i := 176) (by decide +kernel) (by decide +kernel), by decide, by decide⟩
theorem go_2_0 (σ : St) (i : Nat) : go σ 2 i 0 = (300, i) := rfl
theorem go_2_1 (σ : St) (i : Nat) : go σ 2 i 1 = (301, i) := rfl
theorem sh_300 : shp 300 = (0, 1000) := rfl
theorem sh_301 : shp 301 = (0, 1000) := rfl
def P_X2_add  (o0 : Nat) (x1 : Int) (x2 : Int) (σ : St) (Q : St → Prop) : Prop :=
  (if 1000 ≤ (σ 2 o0 3) then Q σ else 0 ≤ σ 2 o0 3 ∧ σ 2 o0 3 < 1000 ∧ 0 ≤ (up σ 300 o0 (σ 2 o0 3) x1) 2 o0 3 ∧ (up σ 300 o0 (σ 2 o0 3) x1) 2 o0 3 < 1000 ∧ Q (up (up (up σ 300 o0 (σ 2 o0 3) x1) 301 o0 ((up σ 300 o0 (σ 2 o0 3) x1) 2 o0 3) x2) 2 o0 3 (wi (((up (up σ 300 o0 (σ 2 o0 3) x1) 301 o0 ((up σ 300 o0 (σ 2 o0 3) x1) 2 o0 3) x2) 2 o0 3) + 1))))
set_option maxRecDepth 20000 in
set_option maxHeartbeats 2000000 in
theorem s_X2_add   {o0 : Nat} {x1 : Int} {x2 : Int} {σ : St} {Q : St → Prop} (h : P_X2_add o0 x1 x2 σ Q) : Cn Y_X2_add 0 0 0 ww σ [vR 2 o0, vI x1, vI x2] (QV Q) := by
  refine Cn_of [some (vR 2 o0), some (vI x1), some (vI x2)] (by decide) (Nat.le_of_ble_eq_true rfl) rfl ?_
  unfold P_X2_add at h
  refine E_aload_n dX2_add_0 rfl rfl ?_
  refine E_geti (i := o0) dX2_add_1 fl_RX2_21 rfl ?_
  refine E_sp dX2_add_4 rfl ?_
  refine E_icmp_ge (tgt := 40) dX2_add_7 (by decide) (fun hc => ?_) (fun hc => ?_)
  · have h := Eq.mp (if_pos hc) h
    exact E_vret dX2_add_40 rfl ⟨rfl, rfl, h⟩
  · have h := Eq.mp (if_neg hc) h
    refine E_aload_n dX2_add_10 rfl rfl ?_
    refine E_getr (i := o0) dX2_add_11 fl_RX2_9 rfl rfl (go_2_0 _ _) ?_
    refine E_aload_n dX2_add_14 rfl rfl ?_
    refine E_geti (i := o0) dX2_add_15 fl_RX2_21 rfl ?_
    refine E_iload_n dX2_add_18 rfl rfl ?_
    obtain ⟨hg0, hg1, h⟩ := h
    refine E_iast dX2_add_19 sh_300 hg0 hg1 ?_
    refine E_aload_n dX2_add_20 rfl rfl ?_
    refine E_getr (i := o0) dX2_add_21 fl_RX2_15 rfl rfl (go_2_1 _ _) ?_
    refine E_aload_n dX2_add_24 rfl rfl ?_
    refine E_geti (i := o0) dX2_add_25 fl_RX2_21 rfl ?_
    refine E_iload_n dX2_add_28 rfl rfl ?_
    obtain ⟨hg0, hg1, h⟩ := h
    refine E_iast dX2_add_29 sh_301 hg0 hg1 ?_
    refine E_aload_n dX2_add_30 rfl rfl ?_
    refine E_dup dX2_add_31 (fun _ q => by cases q) ?_
    refine E_geti (i := o0) dX2_add_32 fl_RX2_21 rfl ?_
    refine E_ic dX2_add_35 rfl ?_
    refine E_iadd dX2_add_36 ?_
    refine E_puti dX2_add_37 fl_RX2_21 rfl rfl rfl ?_
    exact E_vret dX2_add_40 rfl ⟨rfl, rfl, h⟩
abbrev Y_X2_take : My := (yX2_take, cX2_take, 2, none)
theorem dX2_take_0 : decode cX2_take 0 = .ok (.aload_n 0, 1) := by decide +kernel
theorem dX2_take_1 : decode cX2_take 1 = .ok (.aload_n 1, 1) := by decide +kernel
theorem dX2_take_2 : decode cX2_take 2 = .ok (.getfield 21, 3) := by decide +kernel
theorem dX2_take_5 : decode cX2_take 5 = .ok (.putfield 21, 3) := by decide +kernel
theorem dX2_take_8 : decode cX2_take 8 = .ok (.aload_n 1, 1) := by decide +kernel
theorem dX2_take_9 : decode cX2_take 9 = .ok (.getfield 9, 3) := by decide +kernel
theorem dX2_take_12 : decode cX2_take 12 = .ok (.iconst 0, 1) := by decide +kernel
theorem dX2_take_13 : decode cX2_take 13 = .ok (.aload_n 0, 1) := by decide +kernel
theorem dX2_take_14 : decode cX2_take 14 = .ok (.getfield 9, 3) := by decide +kernel
theorem dX2_take_17 : decode cX2_take 17 = .ok (.iconst 0, 1) := by decide +kernel
theorem dX2_take_18 : decode cX2_take 18 = .ok (.aload_n 0, 1) := by decide +kernel
theorem dX2_take_19 : decode cX2_take 19 = .ok (.getfield 21, 3) := by decide +kernel
theorem dX2_take_22 : decode cX2_take 22 = .ok (.invokestatic 25, 3) := by decide +kernel
theorem dX2_take_25 : decode cX2_take 25 = .ok (.aload_n 1, 1) := by decide +kernel
theorem dX2_take_26 : decode cX2_take 26 = .ok (.getfield 15, 3) := by decide +kernel
theorem dX2_take_29 : decode cX2_take 29 = .ok (.iconst 0, 1) := by decide +kernel
theorem dX2_take_30 : decode cX2_take 30 = .ok (.aload_n 0, 1) := by decide +kernel
theorem dX2_take_31 : decode cX2_take 31 = .ok (.getfield 15, 3) := by decide +kernel
theorem dX2_take_34 : decode cX2_take 34 = .ok (.iconst 0, 1) := by decide +kernel
theorem dX2_take_35 : decode cX2_take 35 = .ok (.aload_n 0, 1) := by decide +kernel
theorem dX2_take_36 : decode cX2_take 36 = .ok (.getfield 21, 3) := by decide +kernel
theorem dX2_take_39 : decode cX2_take 39 = .ok (.invokestatic 25, 3) := by decide +kernel
theorem dX2_take_42 : decode cX2_take 42 = .ok (.return_, 1) := by decide +kernel
theorem lk_RX2_25 : Cond.methodLink RX2 25 arraycopyName ∈ tG := inG (i := 844) (by decide +kernel) (by decide +kernel)
def P_X2_take  (o0 : Nat) (o1 : Nat) (σ : St) (Q : St → Prop) : Prop :=
  0 ≤ (up σ 2 o0 3 (σ 2 o1 3)) 2 o0 3 ∧ 0 + ((up σ 2 o0 3 (σ 2 o1 3)) 2 o0 3) ≤ 1000 ∧ 0 + ((up σ 2 o0 3 (σ 2 o1 3)) 2 o0 3) ≤ 1000 ∧ 0 ≤ (cp (up σ 2 o0 3 (σ 2 o1 3)) 300 o1 0 300 o0 0 ((up σ 2 o0 3 (σ 2 o1 3)) 2 o0 3)) 2 o0 3 ∧ 0 + ((cp (up σ 2 o0 3 (σ 2 o1 3)) 300 o1 0 300 o0 0 ((up σ 2 o0 3 (σ 2 o1 3)) 2 o0 3)) 2 o0 3) ≤ 1000 ∧ 0 + ((cp (up σ 2 o0 3 (σ 2 o1 3)) 300 o1 0 300 o0 0 ((up σ 2 o0 3 (σ 2 o1 3)) 2 o0 3)) 2 o0 3) ≤ 1000 ∧ Q (cp (cp (up σ 2 o0 3 (σ 2 o1 3)) 300 o1 0 300 o0 0 ((up σ 2 o0 3 (σ 2 o1 3)) 2 o0 3)) 301 o1 0 301 o0 0 ((cp (up σ 2 o0 3 (σ 2 o1 3)) 300 o1 0 300 o0 0 ((up σ 2 o0 3 (σ 2 o1 3)) 2 o0 3)) 2 o0 3))
set_option maxRecDepth 20000 in
set_option maxHeartbeats 2000000 in
theorem s_X2_take   {o0 : Nat} {o1 : Nat} {σ : St} {Q : St → Prop} (h : P_X2_take o0 o1 σ Q) : Cn Y_X2_take 1 0 0 ww σ [vR 2 o0, vR 2 o1] (QV Q) := by
  refine Cn_of [some (vR 2 o0), some (vR 2 o1)] (by decide) (Nat.le_of_ble_eq_true rfl) rfl ?_
  unfold P_X2_take at h
  refine E_aload_n dX2_take_0 rfl rfl ?_
  refine E_aload_n dX2_take_1 rfl rfl ?_
  refine E_geti (i := o1) dX2_take_2 fl_RX2_21 rfl ?_
  refine E_puti dX2_take_5 fl_RX2_21 rfl rfl rfl ?_
  refine E_aload_n dX2_take_8 rfl rfl ?_
  refine E_getr (i := o1) dX2_take_9 fl_RX2_9 rfl rfl (go_2_0 _ _) ?_
  refine E_ic dX2_take_12 rfl ?_
  refine E_aload_n dX2_take_13 rfl rfl ?_
  refine E_getr (i := o0) dX2_take_14 fl_RX2_9 rfl rfl (go_2_0 _ _) ?_
  refine E_ic dX2_take_17 rfl ?_
  refine E_aload_n dX2_take_18 rfl rfl ?_
  refine E_geti (i := o0) dX2_take_19 fl_RX2_21 rfl ?_
  obtain ⟨hg0, hg1, hg2, h⟩ := h
  refine E_acpi dX2_take_22 lk_RX2_25 (by decide) (Nat.le_of_ble_eq_true rfl) sh_300 sh_300 (by decide) (by decide) hg0 hg1 hg2 ?_
  refine E_aload_n dX2_take_25 rfl rfl ?_
  refine E_getr (i := o1) dX2_take_26 fl_RX2_15 rfl rfl (go_2_1 _ _) ?_
  refine E_ic dX2_take_29 rfl ?_
  refine E_aload_n dX2_take_30 rfl rfl ?_
  refine E_getr (i := o0) dX2_take_31 fl_RX2_15 rfl rfl (go_2_1 _ _) ?_
  refine E_ic dX2_take_34 rfl ?_
  refine E_aload_n dX2_take_35 rfl rfl ?_
  refine E_geti (i := o0) dX2_take_36 fl_RX2_21 rfl ?_
  obtain ⟨hg0, hg1, hg2, h⟩ := h
  refine E_acpi dX2_take_39 lk_RX2_25 (by decide) (Nat.le_of_ble_eq_true rfl) sh_301 sh_301 (by decide) (by decide) hg0 hg1 hg2 ?_
  exact E_vret dX2_take_42 rfl ⟨rfl, rfl, h⟩
abbrev Y_X2_fact : My := (yX2_fact, cX2_fact, 6, some .int)
theorem dX2_fact_0 : decode cX2_fact 0 = .ok (.aload_n 0, 1) := by decide +kernel
theorem dX2_fact_1 : decode cX2_fact 1 = .ok (.getfield 9, 3) := by decide +kernel
theorem dX2_fact_4 : decode cX2_fact 4 = .ok (.iload_n 1, 1) := by decide +kernel
theorem dX2_fact_5 : decode cX2_fact 5 = .ok (.iaload, 1) := by decide +kernel
theorem dX2_fact_6 : decode cX2_fact 6 = .ok (.tableswitch 40 1 4 #[30, 32, 34, 37], 30) := by decide +kernel
theorem dX2_fact_36 : decode cX2_fact 36 = .ok (.iload_n 2, 1) := by decide +kernel
theorem dX2_fact_37 : decode cX2_fact 37 = .ok (.ireturn, 1) := by decide +kernel
theorem dX2_fact_38 : decode cX2_fact 38 = .ok (.iload_n 3, 1) := by decide +kernel
theorem dX2_fact_39 : decode cX2_fact 39 = .ok (.ireturn, 1) := by decide +kernel
theorem dX2_fact_40 : decode cX2_fact 40 = .ok (.iload 4, 2) := by decide +kernel
theorem dX2_fact_42 : decode cX2_fact 42 = .ok (.ireturn, 1) := by decide +kernel
theorem dX2_fact_43 : decode cX2_fact 43 = .ok (.iload 5, 2) := by decide +kernel
theorem dX2_fact_45 : decode cX2_fact 45 = .ok (.ireturn, 1) := by decide +kernel
theorem dX2_fact_46 : decode cX2_fact 46 = .ok (.aload_n 0, 1) := by decide +kernel
theorem dX2_fact_47 : decode cX2_fact 47 = .ok (.getfield 15, 3) := by decide +kernel
theorem dX2_fact_50 : decode cX2_fact 50 = .ok (.iload_n 1, 1) := by decide +kernel
theorem dX2_fact_51 : decode cX2_fact 51 = .ok (.iaload, 1) := by decide +kernel
theorem dX2_fact_52 : decode cX2_fact 52 = .ok (.ireturn, 1) := by decide +kernel
def P_X2_fact  (o0 : Nat) (x1 : Int) (x2 : Int) (x3 : Int) (x4 : Int) (x5 : Int) (σ : St) (Q : Int → St → Prop) : Prop :=
  0 ≤ x1 ∧ x1 < 1000 ∧ (if (σ 300 o0 x1) = 1 then Q x2 σ else if (σ 300 o0 x1) = 2 then Q x3 σ else if (σ 300 o0 x1) = 3 then Q x4 σ else if (σ 300 o0 x1) = 4 then Q x5 σ else 0 ≤ x1 ∧ x1 < 1000 ∧ Q (σ 301 o0 x1) σ)
set_option maxRecDepth 20000 in
set_option maxHeartbeats 2000000 in
theorem s_X2_fact   {o0 : Nat} {x1 : Int} {x2 : Int} {x3 : Int} {x4 : Int} {x5 : Int} {σ : St} {Q : Int → St → Prop} (h : P_X2_fact o0 x1 x2 x3 x4 x5 σ Q) : Cn Y_X2_fact 0 0 0 ww σ [vR 2 o0, vI x1, vI x2, vI x3, vI x4, vI x5] (QI Q) := by
  refine Cn_of [some (vR 2 o0), some (vI x1), some (vI x2), some (vI x3), some (vI x4), some (vI x5)] (by decide) (Nat.le_of_ble_eq_true rfl) rfl ?_
  unfold P_X2_fact at h
  refine E_aload_n dX2_fact_0 rfl rfl ?_
  refine E_getr (i := o0) dX2_fact_1 fl_RX2_9 rfl rfl (go_2_0 _ _) ?_
  refine E_iload_n dX2_fact_4 rfl rfl ?_
  obtain ⟨hg0, hg1, h⟩ := h
  refine E_iald dX2_fact_5 sh_300 hg0 hg1 ?_
  by_cases hc : (σ 300 o0 x1) = 1
  · have h := Eq.mp (if_pos hc) h
    refine E_tableIn (off := 30) (tgt := 36) dX2_fact_6 (by omega) (by omega) (by rw [hc]; rfl) (by decide) ?_
    refine E_iload_n dX2_fact_36 rfl rfl ?_
    exact E_iret dX2_fact_37 rfl ⟨_, rfl, rfl, h⟩
  have h := Eq.mp (if_neg hc) h
  have hc0 := hc
  clear hc
  by_cases hc : (σ 300 o0 x1) = 2
  · have h := Eq.mp (if_pos hc) h
    refine E_tableIn (off := 32) (tgt := 38) dX2_fact_6 (by omega) (by omega) (by rw [hc]; rfl) (by decide) ?_
    refine E_iload_n dX2_fact_38 rfl rfl ?_
    exact E_iret dX2_fact_39 rfl ⟨_, rfl, rfl, h⟩
  have h := Eq.mp (if_neg hc) h
  have hc1 := hc
  clear hc
  by_cases hc : (σ 300 o0 x1) = 3
  · have h := Eq.mp (if_pos hc) h
    refine E_tableIn (off := 34) (tgt := 40) dX2_fact_6 (by omega) (by omega) (by rw [hc]; rfl) (by decide) ?_
    refine E_iload dX2_fact_40 rfl ?_
    exact E_iret dX2_fact_42 rfl ⟨_, rfl, rfl, h⟩
  have h := Eq.mp (if_neg hc) h
  have hc2 := hc
  clear hc
  by_cases hc : (σ 300 o0 x1) = 4
  · have h := Eq.mp (if_pos hc) h
    refine E_tableIn (off := 37) (tgt := 43) dX2_fact_6 (by omega) (by omega) (by rw [hc]; rfl) (by decide) ?_
    refine E_iload dX2_fact_43 rfl ?_
    exact E_iret dX2_fact_45 rfl ⟨_, rfl, rfl, h⟩
  have h := Eq.mp (if_neg hc) h
  have hc3 := hc
  clear hc
  refine E_tableOut (tgt := 46) dX2_fact_6 (by omega) (by decide) ?_
  refine E_aload_n dX2_fact_46 rfl rfl ?_
  refine E_getr (i := o0) dX2_fact_47 fl_RX2_15 rfl rfl (go_2_1 _ _) ?_
  refine E_iload_n dX2_fact_50 rfl rfl ?_
  obtain ⟨hg0, hg1, h⟩ := h
  refine E_iald dX2_fact_51 sh_301 hg0 hg1 ?_
  exact E_iret dX2_fact_52 rfl ⟨_, rfl, rfl, h⟩
abbrev Y_X2_joined : My := (yX2_joined, cX2_joined, 3, some .int)
theorem dX2_joined_0 : decode cX2_joined 0 = .ok (.iload_n 0, 1) := by decide +kernel
theorem dX2_joined_1 : decode cX2_joined 1 = .ok (.tableswitch 97 6 11 #[39, 53, 67, 78, 89, 93], 39) := by decide +kernel
theorem dX2_joined_40 : decode cX2_joined 40 = .ok (.iload_n 1, 1) := by decide +kernel
theorem dX2_joined_41 : decode cX2_joined 41 = .ok (.ifCond .eq 11, 3) := by decide +kernel
theorem dX2_joined_44 : decode cX2_joined 44 = .ok (.iload_n 2, 1) := by decide +kernel
theorem dX2_joined_45 : decode cX2_joined 45 = .ok (.ifCond .eq 7, 3) := by decide +kernel
theorem dX2_joined_48 : decode cX2_joined 48 = .ok (.iconst 1, 1) := by decide +kernel
theorem dX2_joined_49 : decode cX2_joined 49 = .ok (.goto 4, 3) := by decide +kernel
theorem dX2_joined_52 : decode cX2_joined 52 = .ok (.iconst 0, 1) := by decide +kernel
theorem dX2_joined_53 : decode cX2_joined 53 = .ok (.ireturn, 1) := by decide +kernel
theorem dX2_joined_54 : decode cX2_joined 54 = .ok (.iload_n 1, 1) := by decide +kernel
theorem dX2_joined_55 : decode cX2_joined 55 = .ok (.ifCond .ne 7, 3) := by decide +kernel
theorem dX2_joined_58 : decode cX2_joined 58 = .ok (.iload_n 2, 1) := by decide +kernel
theorem dX2_joined_59 : decode cX2_joined 59 = .ok (.ifCond .eq 7, 3) := by decide +kernel
theorem dX2_joined_62 : decode cX2_joined 62 = .ok (.iconst 1, 1) := by decide +kernel
theorem dX2_joined_63 : decode cX2_joined 63 = .ok (.goto 4, 3) := by decide +kernel
theorem dX2_joined_66 : decode cX2_joined 66 = .ok (.iconst 0, 1) := by decide +kernel
theorem dX2_joined_67 : decode cX2_joined 67 = .ok (.ireturn, 1) := by decide +kernel
theorem dX2_joined_68 : decode cX2_joined 68 = .ok (.iload_n 1, 1) := by decide +kernel
theorem dX2_joined_69 : decode cX2_joined 69 = .ok (.iload_n 2, 1) := by decide +kernel
theorem dX2_joined_70 : decode cX2_joined 70 = .ok (.if_icmp .ge 7, 3) := by decide +kernel
theorem dX2_joined_73 : decode cX2_joined 73 = .ok (.iconst 1, 1) := by decide +kernel
theorem dX2_joined_74 : decode cX2_joined 74 = .ok (.goto 4, 3) := by decide +kernel
theorem dX2_joined_77 : decode cX2_joined 77 = .ok (.iconst 0, 1) := by decide +kernel
theorem dX2_joined_78 : decode cX2_joined 78 = .ok (.ireturn, 1) := by decide +kernel
theorem dX2_joined_79 : decode cX2_joined 79 = .ok (.iload_n 1, 1) := by decide +kernel
theorem dX2_joined_80 : decode cX2_joined 80 = .ok (.iload_n 2, 1) := by decide +kernel
theorem dX2_joined_81 : decode cX2_joined 81 = .ok (.if_icmp .ne 7, 3) := by decide +kernel
theorem dX2_joined_84 : decode cX2_joined 84 = .ok (.iconst 1, 1) := by decide +kernel
theorem dX2_joined_85 : decode cX2_joined 85 = .ok (.goto 4, 3) := by decide +kernel
theorem dX2_joined_88 : decode cX2_joined 88 = .ok (.iconst 0, 1) := by decide +kernel
theorem dX2_joined_89 : decode cX2_joined 89 = .ok (.ireturn, 1) := by decide +kernel
theorem dX2_joined_90 : decode cX2_joined 90 = .ok (.iload_n 1, 1) := by decide +kernel
theorem dX2_joined_91 : decode cX2_joined 91 = .ok (.iload_n 2, 1) := by decide +kernel
theorem dX2_joined_92 : decode cX2_joined 92 = .ok (.iadd, 1) := by decide +kernel
theorem dX2_joined_93 : decode cX2_joined 93 = .ok (.ireturn, 1) := by decide +kernel
theorem dX2_joined_94 : decode cX2_joined 94 = .ok (.iload_n 1, 1) := by decide +kernel
theorem dX2_joined_95 : decode cX2_joined 95 = .ok (.iload_n 2, 1) := by decide +kernel
theorem dX2_joined_96 : decode cX2_joined 96 = .ok (.isub, 1) := by decide +kernel
theorem dX2_joined_97 : decode cX2_joined 97 = .ok (.ireturn, 1) := by decide +kernel
theorem dX2_joined_98 : decode cX2_joined 98 = .ok (.iload_n 1, 1) := by decide +kernel
theorem dX2_joined_99 : decode cX2_joined 99 = .ok (.iload_n 2, 1) := by decide +kernel
theorem dX2_joined_100 : decode cX2_joined 100 = .ok (.imul, 1) := by decide +kernel
theorem dX2_joined_101 : decode cX2_joined 101 = .ok (.ireturn, 1) := by decide +kernel
def P_X2_joined_J52    (Q : Int → St → Prop) (σ : St) : Prop :=
  Q 0 σ
set_option maxRecDepth 20000 in
set_option maxHeartbeats 2000000 in
theorem e_P_X2_joined_J52    {Q : Int → St → Prop} {σ : St}   (h : P_X2_joined_J52  Q σ) : E Y_X2_joined 0 0 0 (QI Q) ww 0 0 52 [none, none, none] [] σ := by
  unfold P_X2_joined_J52 at h
  refine E_ic dX2_joined_52 rfl ?_
  exact E_iret dX2_joined_53 rfl ⟨_, rfl, rfl, h⟩
def P_X2_joined_J62    (Q : Int → St → Prop) (σ : St) : Prop :=
  Q 1 σ
set_option maxRecDepth 20000 in
set_option maxHeartbeats 2000000 in
theorem e_P_X2_joined_J62    {Q : Int → St → Prop} {σ : St}   (h : P_X2_joined_J62  Q σ) : E Y_X2_joined 0 0 0 (QI Q) ww 0 0 62 [none, none, none] [] σ := by
  unfold P_X2_joined_J62 at h
  refine E_ic dX2_joined_62 rfl ?_
  refine E_goto (tgt := 67) dX2_joined_63 (by decide) ?_
  exact E_iret dX2_joined_67 rfl ⟨_, rfl, rfl, h⟩
def P_X2_joined  (x0 : Int) (x1 : Int) (x2 : Int) (σ : St) (Q : Int → St → Prop) : Prop :=
  (if x0 = 6 then (if x1 = 0 then P_X2_joined_J52 Q σ else (if x2 = 0 then P_X2_joined_J52 Q σ else Q 1 σ)) else if x0 = 7 then (if x1 = 0 then (if x2 = 0 then Q 0 σ else P_X2_joined_J62 Q σ) else P_X2_joined_J62 Q σ) else if x0 = 8 then (if x2 ≤ x1 then Q 0 σ else Q 1 σ) else if x0 = 9 then (if x1 = x2 then Q 1 σ else Q 0 σ) else if x0 = 10 then Q (wi (x1 + x2)) σ else if x0 = 11 then Q (wi (x1 - x2)) σ else Q (wi (x1 * x2)) σ)
set_option maxRecDepth 20000 in
set_option maxHeartbeats 2000000 in
theorem s_X2_joined   {x0 : Int} {x1 : Int} {x2 : Int} {σ : St} {Q : Int → St → Prop} (h : P_X2_joined x0 x1 x2 σ Q) : Cn Y_X2_joined 0 0 0 ww σ [vI x0, vI x1, vI x2] (QI Q) := by
  refine Cn_of [some (vI x0), some (vI x1), some (vI x2)] (by decide) (Nat.le_of_ble_eq_true rfl) rfl ?_
  unfold P_X2_joined at h
  refine E_iload_n dX2_joined_0 rfl rfl ?_
  by_cases hc : x0 = 6
  · have h := Eq.mp (if_pos hc) h
    refine E_tableIn (off := 39) (tgt := 40) dX2_joined_1 (by omega) (by omega) (by rw [hc]; rfl) (by decide) ?_
    refine E_iload_n dX2_joined_40 rfl rfl ?_
    refine E_if_eq (tgt := 52) dX2_joined_41 (by decide) (fun hc => ?_) (fun hc => ?_)
    · have h := Eq.mp (if_pos hc) h
      refine E_wk2 [none, none, none] trivial ?_
      exact e_P_X2_joined_J52 h
    · have h := Eq.mp (if_neg hc) h
      refine E_iload_n dX2_joined_44 rfl rfl ?_
      refine E_if_eq (tgt := 52) dX2_joined_45 (by decide) (fun hc => ?_) (fun hc => ?_)
      · have h := Eq.mp (if_pos hc) h
        refine E_wk2 [none, none, none] trivial ?_
        exact e_P_X2_joined_J52 h
      · have h := Eq.mp (if_neg hc) h
        refine E_ic dX2_joined_48 rfl ?_
        refine E_goto (tgt := 53) dX2_joined_49 (by decide) ?_
        exact E_iret dX2_joined_53 rfl ⟨_, rfl, rfl, h⟩
  have h := Eq.mp (if_neg hc) h
  have hc0 := hc
  clear hc
  by_cases hc : x0 = 7
  · have h := Eq.mp (if_pos hc) h
    refine E_tableIn (off := 53) (tgt := 54) dX2_joined_1 (by omega) (by omega) (by rw [hc]; rfl) (by decide) ?_
    refine E_iload_n dX2_joined_54 rfl rfl ?_
    refine E_if_ne (tgt := 62) dX2_joined_55 (by decide) (fun hc => ?_) (fun hc => ?_)
    · have h := Eq.mp (if_neg hc) h
      refine E_wk2 [none, none, none] trivial ?_
      exact e_P_X2_joined_J62 h
    · have h := Eq.mp (if_pos hc) h
      refine E_iload_n dX2_joined_58 rfl rfl ?_
      refine E_if_eq (tgt := 66) dX2_joined_59 (by decide) (fun hc => ?_) (fun hc => ?_)
      · have h := Eq.mp (if_pos hc) h
        refine E_ic dX2_joined_66 rfl ?_
        exact E_iret dX2_joined_67 rfl ⟨_, rfl, rfl, h⟩
      · have h := Eq.mp (if_neg hc) h
        refine E_wk2 [none, none, none] trivial ?_
        exact e_P_X2_joined_J62 h
  have h := Eq.mp (if_neg hc) h
  have hc1 := hc
  clear hc
  by_cases hc : x0 = 8
  · have h := Eq.mp (if_pos hc) h
    refine E_tableIn (off := 67) (tgt := 68) dX2_joined_1 (by omega) (by omega) (by rw [hc]; rfl) (by decide) ?_
    refine E_iload_n dX2_joined_68 rfl rfl ?_
    refine E_iload_n dX2_joined_69 rfl rfl ?_
    refine E_icmp_ge (tgt := 77) dX2_joined_70 (by decide) (fun hc => ?_) (fun hc => ?_)
    · have h := Eq.mp (if_pos hc) h
      refine E_ic dX2_joined_77 rfl ?_
      exact E_iret dX2_joined_78 rfl ⟨_, rfl, rfl, h⟩
    · have h := Eq.mp (if_neg hc) h
      refine E_ic dX2_joined_73 rfl ?_
      refine E_goto (tgt := 78) dX2_joined_74 (by decide) ?_
      exact E_iret dX2_joined_78 rfl ⟨_, rfl, rfl, h⟩
  have h := Eq.mp (if_neg hc) h
  have hc2 := hc
  clear hc
  by_cases hc : x0 = 9
  · have h := Eq.mp (if_pos hc) h
    refine E_tableIn (off := 78) (tgt := 79) dX2_joined_1 (by omega) (by omega) (by rw [hc]; rfl) (by decide) ?_
    refine E_iload_n dX2_joined_79 rfl rfl ?_
    refine E_iload_n dX2_joined_80 rfl rfl ?_
    refine E_icmp_ne (tgt := 88) dX2_joined_81 (by decide) (fun hc => ?_) (fun hc => ?_)
    · have h := Eq.mp (if_neg hc) h
      refine E_ic dX2_joined_88 rfl ?_
      exact E_iret dX2_joined_89 rfl ⟨_, rfl, rfl, h⟩
    · have h := Eq.mp (if_pos hc) h
      refine E_ic dX2_joined_84 rfl ?_
      refine E_goto (tgt := 89) dX2_joined_85 (by decide) ?_
      exact E_iret dX2_joined_89 rfl ⟨_, rfl, rfl, h⟩
  have h := Eq.mp (if_neg hc) h
  have hc3 := hc
  clear hc
  by_cases hc : x0 = 10
  · have h := Eq.mp (if_pos hc) h
    refine E_tableIn (off := 89) (tgt := 90) dX2_joined_1 (by omega) (by omega) (by rw [hc]; rfl) (by decide) ?_
    refine E_iload_n dX2_joined_90 rfl rfl ?_
    refine E_iload_n dX2_joined_91 rfl rfl ?_
    refine E_iadd dX2_joined_92 ?_
    exact E_iret dX2_joined_93 rfl ⟨_, rfl, rfl, h⟩
  have h := Eq.mp (if_neg hc) h
  have hc4 := hc
  clear hc
  by_cases hc : x0 = 11
  · have h := Eq.mp (if_pos hc) h
    refine E_tableIn (off := 93) (tgt := 94) dX2_joined_1 (by omega) (by omega) (by rw [hc]; rfl) (by decide) ?_
    refine E_iload_n dX2_joined_94 rfl rfl ?_
    refine E_iload_n dX2_joined_95 rfl rfl ?_
    refine E_isub dX2_joined_96 ?_
    exact E_iret dX2_joined_97 rfl ⟨_, rfl, rfl, h⟩
  have h := Eq.mp (if_neg hc) h
  have hc5 := hc
  clear hc
  refine E_tableOut (tgt := 98) dX2_joined_1 (by omega) (by decide) ?_
  refine E_iload_n dX2_joined_98 rfl rfl ?_
  refine E_iload_n dX2_joined_99 rfl rfl ?_
  refine E_imul dX2_joined_100 ?_
  exact E_iret dX2_joined_101 rfl ⟨_, rfl, rfl, h⟩
abbrev Y_X3_add : My := (yX3_add, cX3_add, 4, none)
theorem dX3_add_0 : decode cX3_add 0 = .ok (.aload_n 0, 1) := by decide +kernel
theorem dX3_add_1 : decode cX3_add 1 = .ok (.getfield 21, 3) := by decide +kernel
theorem dX3_add_4 : decode cX3_add 4 = .ok (.bipush 40, 2) := by decide +kernel
theorem dX3_add_6 : decode cX3_add 6 = .ok (.if_icmp .ge 43, 3) := by decide +kernel
theorem dX3_add_9 : decode cX3_add 9 = .ok (.aload_n 0, 1) := by decide +kernel
theorem dX3_add_10 : decode cX3_add 10 = .ok (.getfield 9, 3) := by decide +kernel
theorem dX3_add_13 : decode cX3_add 13 = .ok (.aload_n 0, 1) := by decide +kernel
theorem dX3_add_14 : decode cX3_add 14 = .ok (.getfield 21, 3) := by decide +kernel
theorem dX3_add_17 : decode cX3_add 17 = .ok (.iload_n 1, 1) := by decide +kernel
theorem dX3_add_18 : decode cX3_add 18 = .ok (.iastore, 1) := by decide +kernel
theorem dX3_add_19 : decode cX3_add 19 = .ok (.aload_n 0, 1) := by decide +kernel
theorem dX3_add_20 : decode cX3_add 20 = .ok (.getfield 15, 3) := by decide +kernel
theorem dX3_add_23 : decode cX3_add 23 = .ok (.aload_n 0, 1) := by decide +kernel
theorem dX3_add_24 : decode cX3_add 24 = .ok (.getfield 21, 3) := by decide +kernel
theorem dX3_add_27 : decode cX3_add 27 = .ok (.iload_n 2, 1) := by decide +kernel
theorem dX3_add_28 : decode cX3_add 28 = .ok (.iastore, 1) := by decide +kernel
theorem dX3_add_29 : decode cX3_add 29 = .ok (.aload_n 0, 1) := by decide +kernel
theorem dX3_add_30 : decode cX3_add 30 = .ok (.getfield 18, 3) := by decide +kernel
theorem dX3_add_33 : decode cX3_add 33 = .ok (.aload_n 0, 1) := by decide +kernel
theorem dX3_add_34 : decode cX3_add 34 = .ok (.getfield 21, 3) := by decide +kernel
theorem dX3_add_37 : decode cX3_add 37 = .ok (.iload_n 3, 1) := by decide +kernel
theorem dX3_add_38 : decode cX3_add 38 = .ok (.iastore, 1) := by decide +kernel
theorem dX3_add_39 : decode cX3_add 39 = .ok (.aload_n 0, 1) := by decide +kernel
theorem dX3_add_40 : decode cX3_add 40 = .ok (.dup, 1) := by decide +kernel
theorem dX3_add_41 : decode cX3_add 41 = .ok (.getfield 21, 3) := by decide +kernel
theorem dX3_add_44 : decode cX3_add 44 = .ok (.iconst 1, 1) := by decide +kernel
theorem dX3_add_45 : decode cX3_add 45 = .ok (.iadd, 1) := by decide +kernel
theorem dX3_add_46 : decode cX3_add 46 = .ok (.putfield 21, 3) := by decide +kernel
theorem dX3_add_49 : decode cX3_add 49 = .ok (.return_, 1) := by decide +kernel
theorem fl_RX3_15 : FL RX3 15 3 1 := ⟨inG (i := 267) (by decide +kernel) (by decide +kernel), by decide, by decide⟩
theorem fl_RX3_18 : FL RX3 18 3 2 := ⟨inG (i := 268) (by decide +kernel) (by decide +kernel), by decide, by decide⟩
theorem fl_RX3_21 : FL RX3 21 3 3 := ⟨inG (i := 269) (by decide +kernel) (by decide +kernel), by decide, by decide⟩
theorem fl_RX3_9 : FL RX3 9 3 0 := ⟨inG (i := 266) (by decide +kernel) (by decide +kernel), by decide, by decide⟩
theorem go_3_0 (σ : St) (i : Nat) : go σ 3 i 0 = (400, i) := rfl
theorem go_3_1 (σ : St) (i : Nat) : go σ 3 i 1 = (401, i) := rfl
theorem go_3_2 (σ : St) (i : Nat) : go σ 3 i 2 = (402, i) := rfl
theorem sh_400 : shp 400 = (0, 40) := rfl
theorem sh_401 : shp 401 = (0, 40) := rfl
theorem sh_402 : shp 402 = (0, 40) := rfl
def P_X3_add  (o0 : Nat) (x1 : Int) (x2 : Int) (x3 : Int) (σ : St) (Q : St → Prop) : Prop :=
  (if 40 ≤ (σ 3 o0 3) then Q σ else 0 ≤ σ 3 o0 3 ∧ σ 3 o0 3 < 40 ∧ 0 ≤ (up σ 400 o0 (σ 3 o0 3) x1) 3 o0 3 ∧ (up σ 400 o0 (σ 3 o0 3) x1) 3 o0 3 < 40 ∧ 0 ≤ (up (up σ 400 o0 (σ 3 o0 3) x1) 401 o0 ((up σ 400 o0 (σ 3 o0 3) x1) 3 o0 3) x2) 3 o0 3 ∧ (up (up σ 400 o0 (σ 3 o0 3) x1) 401 o0 ((up σ 400 o0 (σ 3 o0 3) x1) 3 o0 3) x2) 3 o0 3 < 40 ∧ Q (up (up (up (up σ 400 o0 (σ 3 o0 3) x1) 401 o0 ((up σ 400 o0 (σ 3 o0 3) x1) 3 o0 3) x2) 402 o0 ((up (up σ 400 o0 (σ 3 o0 3) x1) 401 o0 ((up σ 400 o0 (σ 3 o0 3) x1) 3 o0 3) x2) 3 o0 3) x3) 3 o0 3 (wi (((up (up (up σ 400 o0 (σ 3 o0 3) x1) 401 o0 ((up σ 400 o0 (σ 3 o0 3) x1) 3 o0 3) x2) 402 o0 ((up (up σ 400 o0 (σ 3 o0 3) x1) 401 o0 ((up σ 400 o0 (σ 3 o0 3) x1) 3 o0 3) x2) 3 o0 3) x3) 3 o0 3) + 1))))
set_option maxRecDepth 20000 in
set_option maxHeartbeats 2000000 in
theorem s_X3_add   {o0 : Nat} {x1 : Int} {x2 : Int} {x3 : Int} {σ : St} {Q : St → Prop} (h : P_X3_add o0 x1 x2 x3 σ Q) : Cn Y_X3_add 0 0 0 ww σ [vR 3 o0, vI x1, vI x2, vI x3] (QV Q) := by
  refine Cn_of [some (vR 3 o0), some (vI x1), some (vI x2), some (vI x3)] (by decide) (Nat.le_of_ble_eq_true rfl) rfl ?_
  unfold P_X3_add at h
  refine E_aload_n dX3_add_0 rfl rfl ?_
  refine E_geti (i := o0) dX3_add_1 fl_RX3_21 rfl ?_
  refine E_bp dX3_add_4 rfl ?_
  refine E_icmp_ge (tgt := 49) dX3_add_6 (by decide) (fun hc => ?_) (fun hc => ?_)
  · have h := Eq.mp (if_pos hc) h
    exact E_vret dX3_add_49 rfl ⟨rfl, rfl, h⟩
  · have h := Eq.mp (if_neg hc) h
    refine E_aload_n dX3_add_9 rfl rfl ?_
    refine E_getr (i := o0) dX3_add_10 fl_RX3_9 rfl rfl (go_3_0 _ _) ?_
    refine E_aload_n dX3_add_13 rfl rfl ?_
    refine E_geti (i := o0) dX3_add_14 fl_RX3_21 rfl ?_
    refine E_iload_n dX3_add_17 rfl rfl ?_
    obtain ⟨hg0, hg1, h⟩ := h
    refine E_iast dX3_add_18 sh_400 hg0 hg1 ?_
    refine E_aload_n dX3_add_19 rfl rfl ?_
    refine E_getr (i := o0) dX3_add_20 fl_RX3_15 rfl rfl (go_3_1 _ _) ?_
    refine E_aload_n dX3_add_23 rfl rfl ?_
    refine E_geti (i := o0) dX3_add_24 fl_RX3_21 rfl ?_
    refine E_iload_n dX3_add_27 rfl rfl ?_
    obtain ⟨hg0, hg1, h⟩ := h
    refine E_iast dX3_add_28 sh_401 hg0 hg1 ?_
    refine E_aload_n dX3_add_29 rfl rfl ?_
    refine E_getr (i := o0) dX3_add_30 fl_RX3_18 rfl rfl (go_3_2 _ _) ?_
    refine E_aload_n dX3_add_33 rfl rfl ?_
    refine E_geti (i := o0) dX3_add_34 fl_RX3_21 rfl ?_
    refine E_iload_n dX3_add_37 rfl rfl ?_
    obtain ⟨hg0, hg1, h⟩ := h
    refine E_iast dX3_add_38 sh_402 hg0 hg1 ?_
    refine E_aload_n dX3_add_39 rfl rfl ?_
    refine E_dup dX3_add_40 (fun _ q => by cases q) ?_
    refine E_geti (i := o0) dX3_add_41 fl_RX3_21 rfl ?_
    refine E_ic dX3_add_44 rfl ?_
    refine E_iadd dX3_add_45 ?_
    refine E_puti dX3_add_46 fl_RX3_21 rfl rfl rfl ?_
    exact E_vret dX3_add_49 rfl ⟨rfl, rfl, h⟩
abbrev Y_X3_take : My := (yX3_take, cX3_take, 2, none)
theorem dX3_take_0 : decode cX3_take 0 = .ok (.aload_n 0, 1) := by decide +kernel
theorem dX3_take_1 : decode cX3_take 1 = .ok (.aload_n 1, 1) := by decide +kernel
theorem dX3_take_2 : decode cX3_take 2 = .ok (.getfield 21, 3) := by decide +kernel
theorem dX3_take_5 : decode cX3_take 5 = .ok (.putfield 21, 3) := by decide +kernel
theorem dX3_take_8 : decode cX3_take 8 = .ok (.aload_n 1, 1) := by decide +kernel
theorem dX3_take_9 : decode cX3_take 9 = .ok (.getfield 9, 3) := by decide +kernel
theorem dX3_take_12 : decode cX3_take 12 = .ok (.iconst 0, 1) := by decide +kernel
theorem dX3_take_13 : decode cX3_take 13 = .ok (.aload_n 0, 1) := by decide +kernel
theorem dX3_take_14 : decode cX3_take 14 = .ok (.getfield 9, 3) := by decide +kernel
theorem dX3_take_17 : decode cX3_take 17 = .ok (.iconst 0, 1) := by decide +kernel
theorem dX3_take_18 : decode cX3_take 18 = .ok (.aload_n 0, 1) := by decide +kernel
theorem dX3_take_19 : decode cX3_take 19 = .ok (.getfield 21, 3) := by decide +kernel
theorem dX3_take_22 : decode cX3_take 22 = .ok (.invokestatic 25, 3) := by decide +kernel
theorem dX3_take_25 : decode cX3_take 25 = .ok (.aload_n 1, 1) := by decide +kernel
theorem dX3_take_26 : decode cX3_take 26 = .ok (.getfield 15, 3) := by decide +kernel
theorem dX3_take_29 : decode cX3_take 29 = .ok (.iconst 0, 1) := by decide +kernel
theorem dX3_take_30 : decode cX3_take 30 = .ok (.aload_n 0, 1) := by decide +kernel
theorem dX3_take_31 : decode cX3_take 31 = .ok (.getfield 15, 3) := by decide +kernel
theorem dX3_take_34 : decode cX3_take 34 = .ok (.iconst 0, 1) := by decide +kernel
theorem dX3_take_35 : decode cX3_take 35 = .ok (.aload_n 0, 1) := by decide +kernel
theorem dX3_take_36 : decode cX3_take 36 = .ok (.getfield 21, 3) := by decide +kernel
theorem dX3_take_39 : decode cX3_take 39 = .ok (.invokestatic 25, 3) := by decide +kernel
theorem dX3_take_42 : decode cX3_take 42 = .ok (.aload_n 1, 1) := by decide +kernel
theorem dX3_take_43 : decode cX3_take 43 = .ok (.getfield 18, 3) := by decide +kernel
theorem dX3_take_46 : decode cX3_take 46 = .ok (.iconst 0, 1) := by decide +kernel
theorem dX3_take_47 : decode cX3_take 47 = .ok (.aload_n 0, 1) := by decide +kernel
theorem dX3_take_48 : decode cX3_take 48 = .ok (.getfield 18, 3) := by decide +kernel
theorem dX3_take_51 : decode cX3_take 51 = .ok (.iconst 0, 1) := by decide +kernel
theorem dX3_take_52 : decode cX3_take 52 = .ok (.aload_n 0, 1) := by decide +kernel
theorem dX3_take_53 : decode cX3_take 53 = .ok (.getfield 21, 3) := by decide +kernel
theorem dX3_take_56 : decode cX3_take 56 = .ok (.invokestatic 25, 3) := by decide +kernel
theorem dX3_take_59 : decode cX3_take 59 = .ok (.return_, 1) := by decide +kernel
theorem lk_RX3_25 : Cond.methodLink RX3 25 arraycopyName ∈ tG := inG (i := 882) (by decide +kernel) (by decide +kernel)
def P_X3_take  (o0 : Nat) (o1 : Nat) (σ : St) (Q : St → Prop) : Prop :=
  0 ≤ (up σ 3 o0 3 (σ 3 o1 3)) 3 o0 3 ∧ 0 + ((up σ 3 o0 3 (σ 3 o1 3)) 3 o0 3) ≤ 40 ∧ 0 + ((up σ 3 o0 3 (σ 3 o1 3)) 3 o0 3) ≤ 40 ∧ 0 ≤ (cp (up σ 3 o0 3 (σ 3 o1 3)) 400 o1 0 400 o0 0 ((up σ 3 o0 3 (σ 3 o1 3)) 3 o0 3)) 3 o0 3 ∧ 0 + ((cp (up σ 3 o0 3 (σ 3 o1 3)) 400 o1 0 400 o0 0 ((up σ 3 o0 3 (σ 3 o1 3)) 3 o0 3)) 3 o0 3) ≤ 40 ∧ 0 + ((cp (up σ 3 o0 3 (σ 3 o1 3)) 400 o1 0 400 o0 0 ((up σ 3 o0 3 (σ 3 o1 3)) 3 o0 3)) 3 o0 3) ≤ 40 ∧ 0 ≤ (cp (cp (up σ 3 o0 3 (σ 3 o1 3)) 400 o1 0 400 o0 0 ((up σ 3 o0 3 (σ 3 o1 3)) 3 o0 3)) 401 o1 0 401 o0 0 ((cp (up σ 3 o0 3 (σ 3 o1 3)) 400 o1 0 400 o0 0 ((up σ 3 o0 3 (σ 3 o1 3)) 3 o0 3)) 3 o0 3)) 3 o0 3 ∧ 0 + ((cp (cp (up σ 3 o0 3 (σ 3 o1 3)) 400 o1 0 400 o0 0 ((up σ 3 o0 3 (σ 3 o1 3)) 3 o0 3)) 401 o1 0 401 o0 0 ((cp (up σ 3 o0 3 (σ 3 o1 3)) 400 o1 0 400 o0 0 ((up σ 3 o0 3 (σ 3 o1 3)) 3 o0 3)) 3 o0 3)) 3 o0 3) ≤ 40 ∧ 0 + ((cp (cp (up σ 3 o0 3 (σ 3 o1 3)) 400 o1 0 400 o0 0 ((up σ 3 o0 3 (σ 3 o1 3)) 3 o0 3)) 401 o1 0 401 o0 0 ((cp (up σ 3 o0 3 (σ 3 o1 3)) 400 o1 0 400 o0 0 ((up σ 3 o0 3 (σ 3 o1 3)) 3 o0 3)) 3 o0 3)) 3 o0 3) ≤ 40 ∧ Q (cp (cp (cp (up σ 3 o0 3 (σ 3 o1 3)) 400 o1 0 400 o0 0 ((up σ 3 o0 3 (σ 3 o1 3)) 3 o0 3)) 401 o1 0 401 o0 0 ((cp (up σ 3 o0 3 (σ 3 o1 3)) 400 o1 0 400 o0 0 ((up σ 3 o0 3 (σ 3 o1 3)) 3 o0 3)) 3 o0 3)) 402 o1 0 402 o0 0 ((cp (cp (up σ 3 o0 3 (σ 3 o1 3)) 400 o1 0 400 o0 0 ((up σ 3 o0 3 (σ 3 o1 3)) 3 o0 3)) 401 o1 0 401 o0 0 ((cp (up σ 3 o0 3 (σ 3 o1 3)) 400 o1 0 400 o0 0 ((up σ 3 o0 3 (σ 3 o1 3)) 3 o0 3)) 3 o0 3)) 3 o0 3))
set_option maxRecDepth 20000 in
set_option maxHeartbeats 2000000 in
theorem s_X3_take   {o0 : Nat} {o1 : Nat} {σ : St} {Q : St → Prop} (h : P_X3_take o0 o1 σ Q) : Cn Y_X3_take 1 0 0 ww σ [vR 3 o0, vR 3 o1] (QV Q) := by
  refine Cn_of [some (vR 3 o0), some (vR 3 o1)] (by decide) (Nat.le_of_ble_eq_true rfl) rfl ?_
  unfold P_X3_take at h
  refine E_aload_n dX3_take_0 rfl rfl ?_
  refine E_aload_n dX3_take_1 rfl rfl ?_
  refine E_geti (i := o1) dX3_take_2 fl_RX3_21 rfl ?_
  refine E_puti dX3_take_5 fl_RX3_21 rfl rfl rfl ?_
  refine E_aload_n dX3_take_8 rfl rfl ?_
  refine E_getr (i := o1) dX3_take_9 fl_RX3_9 rfl rfl (go_3_0 _ _) ?_
  refine E_ic dX3_take_12 rfl ?_
  refine E_aload_n dX3_take_13 rfl rfl ?_
  refine E_getr (i := o0) dX3_take_14 fl_RX3_9 rfl rfl (go_3_0 _ _) ?_
  refine E_ic dX3_take_17 rfl ?_
  refine E_aload_n dX3_take_18 rfl rfl ?_
  refine E_geti (i := o0) dX3_take_19 fl_RX3_21 rfl ?_
  obtain ⟨hg0, hg1, hg2, h⟩ := h
  refine E_acpi dX3_take_22 lk_RX3_25 (by decide) (Nat.le_of_ble_eq_true rfl) sh_400 sh_400 (by decide) (by decide) hg0 hg1 hg2 ?_
  refine E_aload_n dX3_take_25 rfl rfl ?_
  refine E_getr (i := o1) dX3_take_26 fl_RX3_15 rfl rfl (go_3_1 _ _) ?_
  refine E_ic dX3_take_29 rfl ?_
  refine E_aload_n dX3_take_30 rfl rfl ?_
  refine E_getr (i := o0) dX3_take_31 fl_RX3_15 rfl rfl (go_3_1 _ _) ?_
  refine E_ic dX3_take_34 rfl ?_
  refine E_aload_n dX3_take_35 rfl rfl ?_
  refine E_geti (i := o0) dX3_take_36 fl_RX3_21 rfl ?_
  obtain ⟨hg0, hg1, hg2, h⟩ := h
  refine E_acpi dX3_take_39 lk_RX3_25 (by decide) (Nat.le_of_ble_eq_true rfl) sh_401 sh_401 (by decide) (by decide) hg0 hg1 hg2 ?_
  refine E_aload_n dX3_take_42 rfl rfl ?_
  refine E_getr (i := o1) dX3_take_43 fl_RX3_18 rfl rfl (go_3_2 _ _) ?_
  refine E_ic dX3_take_46 rfl ?_
  refine E_aload_n dX3_take_47 rfl rfl ?_
  refine E_getr (i := o0) dX3_take_48 fl_RX3_18 rfl rfl (go_3_2 _ _) ?_
  refine E_ic dX3_take_51 rfl ?_
  refine E_aload_n dX3_take_52 rfl rfl ?_
  refine E_geti (i := o0) dX3_take_53 fl_RX3_21 rfl ?_
  obtain ⟨hg0, hg1, hg2, h⟩ := h
  refine E_acpi dX3_take_56 lk_RX3_25 (by decide) (Nat.le_of_ble_eq_true rfl) sh_402 sh_402 (by decide) (by decide) hg0 hg1 hg2 ?_
  exact E_vret dX3_take_59 rfl ⟨rfl, rfl, h⟩
