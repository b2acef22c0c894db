abbrev Y_X12_draws : My := (yX12_draws, cX12_draws, 2, some .int)
theorem dX12_draws_0 : decode cX12_draws 0 = .ok (.aload_n 0, 1) := by decide +kernel
theorem dX12_draws_1 : decode cX12_draws 1 = .ok (.aload_n 0, 1) := by decide +kernel
theorem dX12_draws_2 : decode cX12_draws 2 = .ok (.getfield 480, 3) := by decide +kernel
theorem dX12_draws_5 : decode cX12_draws 5 = .ok (.ldc2_w 483, 3) := by decide +kernel
theorem dX12_draws_8 : decode cX12_draws 8 = .ok (.lmul, 1) := by decide +kernel
theorem dX12_draws_9 : decode cX12_draws 9 = .ok (.ldc2_w 485, 3) := by decide +kernel
theorem dX12_draws_12 : decode cX12_draws 12 = .ok (.ladd, 1) := by decide +kernel
theorem dX12_draws_13 : decode cX12_draws 13 = .ok (.ldc2_w 487, 3) := by decide +kernel
theorem dX12_draws_16 : decode cX12_draws 16 = .ok (.lrem, 1) := by decide +kernel
theorem dX12_draws_17 : decode cX12_draws 17 = .ok (.putfield 480, 3) := by decide +kernel
theorem dX12_draws_20 : decode cX12_draws 20 = .ok (.aload_n 0, 1) := by decide +kernel
theorem dX12_draws_21 : decode cX12_draws 21 = .ok (.getfield 480, 3) := by decide +kernel
theorem dX12_draws_24 : decode cX12_draws 24 = .ok (.ldc2_w 489, 3) := by decide +kernel
theorem dX12_draws_27 : decode cX12_draws 27 = .ok (.ldiv, 1) := by decide +kernel
theorem dX12_draws_28 : decode cX12_draws 28 = .ok (.iload_n 1, 1) := by decide +kernel
theorem dX12_draws_29 : decode cX12_draws 29 = .ok (.i2l, 1) := by decide +kernel
theorem dX12_draws_30 : decode cX12_draws 30 = .ok (.lrem, 1) := by decide +kernel
theorem dX12_draws_31 : decode cX12_draws 31 = .ok (.l2i, 1) := by decide +kernel
theorem dX12_draws_32 : decode cX12_draws 32 = .ok (.ireturn, 1) := by decide +kernel
theorem fl_RX12_480 : FL RX12 480 12 58 := ⟨inG (i := 1458) (by decide +kernel) (by decide +kernel), by decide, by decide⟩
theorem kl_RX12_483 : Cond.constantLong RX12 483 (1103515245) ∈ tG := inG (i := 2043) (by decide +kernel) (by decide +kernel)
theorem kl_RX12_485 : Cond.constantLong RX12 485 (12345) ∈ tG := inG (i := 2044) (by decide +kernel) (by decide +kernel)
theorem kl_RX12_487 : Cond.constantLong RX12 487 (2147483648) ∈ tG := inG (i := 2045) (by decide +kernel) (by decide +kernel)
theorem kl_RX12_489 : Cond.constantLong RX12 489 (65536) ∈ tG := inG (i := 2046) (by decide +kernel) (by decide +kernel)
def P_X12_draws  (x1 : Int) (σ : St) (Q : Int → St → Prop) : Prop :=
  ¬ x1 = 0 ∧ Q (wi ((wj (((up σ 12 0 58 ((wj ((wj ((σ 12 0 58) * 1103515245)) + 12345)).tmod 2147483648)) 12 0 58).tdiv 65536)).tmod x1)) (up σ 12 0 58 ((wj ((wj ((σ 12 0 58) * 1103515245)) + 12345)).tmod 2147483648))
set_option maxRecDepth 20000 in
set_option maxHeartbeats 2000000 in
theorem s_X12_draws   {x1 : Int} {σ : St} {Q : Int → St → Prop} (h : P_X12_draws x1 σ Q) : Cn Y_X12_draws 0 0 0 ww σ [vR 12 0, vI x1] (QI Q) := by
  refine Cn_of [some (vR 12 0), some (vI x1)] (by decide) (Nat.le_of_ble_eq_true rfl) rfl ?_
  unfold P_X12_draws at h
  refine E_aload_n dX12_draws_0 rfl rfl ?_
  refine E_aload_n dX12_draws_1 rfl rfl ?_
  refine E_getl (i := 0) dX12_draws_2 fl_RX12_480 rfl ?_
  refine E_ldc2 (z := 1103515245) dX12_draws_5 kl_RX12_483 (by decide) ?_
  refine E_lmul dX12_draws_8 ?_
  refine E_ldc2 (z := 12345) dX12_draws_9 kl_RX12_485 (by decide) ?_
  refine E_ladd dX12_draws_12 ?_
  refine E_ldc2 (z := 2147483648) dX12_draws_13 kl_RX12_487 (by decide) ?_
  refine E_lrem dX12_draws_16 (by decide) ?_
  refine E_putl dX12_draws_17 fl_RX12_480 rfl rfl rfl ?_
  refine E_aload_n dX12_draws_20 rfl rfl ?_
  refine E_getl (i := 0) dX12_draws_21 fl_RX12_480 rfl ?_
  refine E_ldc2 (z := 65536) dX12_draws_24 kl_RX12_489 (by decide) ?_
  refine E_ldiv dX12_draws_27 (by decide) ?_
  refine E_iload_n dX12_draws_28 rfl rfl ?_
  refine E_i2l dX12_draws_29 ?_
  obtain ⟨hg0, h⟩ := h
  refine E_lrem dX12_draws_30 hg0 ?_
  refine E_l2i dX12_draws_31 ?_
  exact E_iret dX12_draws_32 rfl ⟨_, rfl, rfl, h⟩
abbrev Y_X12_lives : My := (yX12_lives, cX12_lives, 3, none)
theorem dX12_lives_0 : decode cX12_lives 0 = .ok (.aload_n 0, 1) := by decide +kernel
theorem dX12_lives_1 : decode cX12_lives 1 = .ok (.bipush 8, 2) := by decide +kernel
theorem dX12_lives_3 : decode cX12_lives 3 = .ok (.invokevirtual 491, 3) := by decide +kernel
theorem dX12_lives_6 : decode cX12_lives 6 = .ok (.istore_n 1, 1) := by decide +kernel
theorem dX12_lives_7 : decode cX12_lives 7 = .ok (.iload_n 1, 1) := by decide +kernel
theorem dX12_lives_8 : decode cX12_lives 8 = .ok (.iconst 4, 1) := by decide +kernel
theorem dX12_lives_9 : decode cX12_lives 9 = .ok (.if_icmp .ge 30, 3) := by decide +kernel
theorem dX12_lives_12 : decode cX12_lives 12 = .ok (.aload_n 0, 1) := by decide +kernel
theorem dX12_lives_13 : decode cX12_lives 13 = .ok (.aload_n 0, 1) := by decide +kernel
theorem dX12_lives_14 : decode cX12_lives 14 = .ok (.getfield 13, 3) := by decide +kernel
theorem dX12_lives_17 : decode cX12_lives 17 = .ok (.iconst 1, 1) := by decide +kernel
theorem dX12_lives_18 : decode cX12_lives 18 = .ok (.iaload, 1) := by decide +kernel
theorem dX12_lives_19 : decode cX12_lives 19 = .ok (.invokevirtual 491, 3) := by decide +kernel
theorem dX12_lives_22 : decode cX12_lives 22 = .ok (.istore_n 2, 1) := by decide +kernel
theorem dX12_lives_23 : decode cX12_lives 23 = .ok (.aload_n 0, 1) := by decide +kernel
theorem dX12_lives_24 : decode cX12_lives 24 = .ok (.iload_n 2, 1) := by decide +kernel
theorem dX12_lives_25 : decode cX12_lives 25 = .ok (.invokevirtual 413, 3) := by decide +kernel
theorem dX12_lives_28 : decode cX12_lives 28 = .ok (.ifCond .eq 8, 3) := by decide +kernel
theorem dX12_lives_31 : decode cX12_lives 31 = .ok (.aload_n 0, 1) := by decide +kernel
theorem dX12_lives_32 : decode cX12_lives 32 = .ok (.iload_n 2, 1) := by decide +kernel
theorem dX12_lives_33 : decode cX12_lives 33 = .ok (.invokevirtual 419, 3) := by decide +kernel
theorem dX12_lives_36 : decode cX12_lives 36 = .ok (.goto 37, 3) := by decide +kernel
theorem dX12_lives_39 : decode cX12_lives 39 = .ok (.iload_n 1, 1) := by decide +kernel
theorem dX12_lives_40 : decode cX12_lives 40 = .ok (.bipush 7, 2) := by decide +kernel
theorem dX12_lives_42 : decode cX12_lives 42 = .ok (.if_icmp .ne 11, 3) := by decide +kernel
theorem dX12_lives_45 : decode cX12_lives 45 = .ok (.aload_n 0, 1) := by decide +kernel
theorem dX12_lives_46 : decode cX12_lives 46 = .ok (.invokevirtual 425, 3) := by decide +kernel
theorem dX12_lives_49 : decode cX12_lives 49 = .ok (.pop, 1) := by decide +kernel
theorem dX12_lives_50 : decode cX12_lives 50 = .ok (.goto 23, 3) := by decide +kernel
theorem dX12_lives_53 : decode cX12_lives 53 = .ok (.aload_n 0, 1) := by decide +kernel
theorem dX12_lives_54 : decode cX12_lives 54 = .ok (.dup, 1) := by decide +kernel
theorem dX12_lives_55 : decode cX12_lives 55 = .ok (.getfield 382, 3) := by decide +kernel
theorem dX12_lives_58 : decode cX12_lives 58 = .ok (.aload_n 0, 1) := by decide +kernel
theorem dX12_lives_59 : decode cX12_lives 59 = .ok (.aload_n 0, 1) := by decide +kernel
theorem dX12_lives_60 : decode cX12_lives 60 = .ok (.invokevirtual 385, 3) := by decide +kernel
theorem dX12_lives_63 : decode cX12_lives 63 = .ok (.invokevirtual 388, 3) := by decide +kernel
theorem dX12_lives_66 : decode cX12_lives 66 = .ok (.invokestatic 391, 3) := by decide +kernel
theorem dX12_lives_69 : decode cX12_lives 69 = .ok (.iadd, 1) := by decide +kernel
theorem dX12_lives_70 : decode cX12_lives 70 = .ok (.putfield 382, 3) := by decide +kernel
theorem dX12_lives_73 : decode cX12_lives 73 = .ok (.return_, 1) := by decide +kernel
theorem lk_RX12_491 : Cond.methodLink RX12 491 yX12_draws ∈ tG := inG (i := 2039) (by decide +kernel) (by decide +kernel)
theorem m_X12_draws : MV Y_X12_draws 1 12 := ⟨⟨inG (i := 2042) (by decide +kernel) (by decide +kernel), inG (i := 110) (by decide +kernel) (by decide +kernel), by decide, by decide, by decide, by decide +kernel⟩, inG (i := 2041) (by decide +kernel) (by decide +kernel), inG (i := 94) (by decide +kernel) (by decide +kernel), by decide⟩
def P_X12_lives_J36    (Q : St → Prop) (σ : St) : Prop :=
  Q σ
set_option maxRecDepth 20000 in
set_option maxHeartbeats 2000000 in
theorem e_P_X12_lives_J36    {Q : St → Prop} {σ : St}   (h : P_X12_lives_J36  Q σ) : E Y_X12_lives 6 0 0 (QV Q) ww 0 0 36 [none, none, none] [] σ := by
  unfold P_X12_lives_J36 at h
  refine E_goto (tgt := 73) dX12_lives_36 (by decide) ?_
  exact E_vret dX12_lives_73 rfl ⟨rfl, rfl, h⟩
def P_X12_lives   (σ : St) (Q : St → Prop) : Prop :=
  P_X12_draws 8 σ (fun r_2 σ_1 => (if 4 ≤ r_2 then (if r_2 = 7 then P_X12_endsAsTold σ_1 (fun r_10 σ_9 => Q σ_9) else P_X12_passes σ_1 (fun r_4 σ_3 => P_X12_astrayOf r_4 σ_3 (fun r_6 σ_5 => P_X12_bits r_6 σ_5 (fun r_8 σ_7 => Q (up σ_7 12 0 54 (wi ((σ_1 12 0 54) + r_8))))))) else P_X12_draws (σ_1 1310 0 1) σ_1 (fun r_12 σ_11 => P_X12_canSend r_12 σ_11 (fun r_14 σ_13 => (if r_14 = 0 then P_X12_lives_J36 Q σ_13 else P_X12_sends r_12 σ_13 (fun σ_15 => P_X12_lives_J36 Q σ_15))))))
set_option maxRecDepth 20000 in
set_option maxHeartbeats 2000000 in
theorem s_X12_lives    {σ : St} {Q : St → Prop} (h : P_X12_lives  σ Q) : Cn Y_X12_lives 6 0 0 ww σ [vR 12 0] (QV Q) := by
  refine Cn_of [some (vR 12 0), none, none] (by decide) (Nat.le_of_ble_eq_true rfl) rfl ?_
  unfold P_X12_lives at h
  refine E_aload_n dX12_lives_0 rfl rfl ?_
  refine E_bp dX12_lives_1 rfl ?_
  refine E_callV (Y' := Y_X12_draws) (as := [vI 8]) (st := []) dX12_lives_3 lk_RX12_491 m_X12_draws (by decide) (Nat.le_refl _) (Nat.le_refl _) rfl rfl (Nat.le_of_ble_eq_true rfl) (s_X12_draws h) (fun r0 B0 σ_1 h => ?_)
  obtain ⟨r_2, rfl, rfl, h⟩ := h
  refine E_istore_n (ls' := [some (vR 12 0), some (vI r_2), none]) dX12_lives_6 rfl (by decide) rfl ?_
  refine E_iload_n dX12_lives_7 rfl rfl ?_
  refine E_ic dX12_lives_8 rfl ?_
  refine E_icmp_ge (tgt := 39) dX12_lives_9 (by decide) (fun hc => ?_) (fun hc => ?_)
  · have h := Eq.mp (if_pos hc) h
    refine E_iload_n dX12_lives_39 rfl rfl ?_
    refine E_bp dX12_lives_40 rfl ?_
    refine E_icmp_ne (tgt := 53) dX12_lives_42 (by decide) (fun hc => ?_) (fun hc => ?_)
    · have h := Eq.mp (if_neg hc) h
      refine E_aload_n dX12_lives_53 rfl rfl ?_
      refine E_dup dX12_lives_54 (fun _ q => by cases q) ?_
      refine E_geti (i := 0) dX12_lives_55 fl_RX12_382 rfl ?_
      refine E_aload_n dX12_lives_58 rfl rfl ?_
      refine E_aload_n dX12_lives_59 rfl rfl ?_
      refine E_callV (Y' := Y_X12_passes) (as := []) (st := [vR 12 0, vI (σ_1 12 0 54), vR 12 0]) dX12_lives_60 lk_RX12_385 m_X12_passes (by decide) (Nat.le_refl _) (Nat.le_refl _) rfl rfl (Nat.le_of_ble_eq_true rfl) (s_X12_passes h) (fun r0 B0 σ_3 h => ?_)
      obtain ⟨r_4, rfl, rfl, h⟩ := h
      refine E_callV (Y' := Y_X12_astrayOf) (as := [vI r_4]) (st := [vI (σ_1 12 0 54), vR 12 0]) dX12_lives_63 lk_RX12_388 m_X12_astrayOf (by decide) (Nat.le_refl _) (Nat.le_refl _) rfl rfl (Nat.le_of_ble_eq_true rfl) (s_X12_astrayOf h) (fun r0 B0 σ_5 h => ?_)
      obtain ⟨r_6, rfl, rfl, h⟩ := h
      refine E_callS (Y' := Y_X12_bits) (as := [vI r_6]) (st := [vI (σ_1 12 0 54), vR 12 0]) dX12_lives_66 lk_RX12_391 m_X12_bits (by decide) (Nat.le_refl _) (Nat.le_refl _) rfl rfl (Nat.le_of_ble_eq_true rfl) (s_X12_bits h) (fun r0 B0 σ_7 h => ?_)
      obtain ⟨r_8, rfl, rfl, h⟩ := h
      refine E_iadd dX12_lives_69 ?_
      refine E_puti dX12_lives_70 fl_RX12_382 rfl rfl rfl ?_
      exact E_vret dX12_lives_73 rfl ⟨rfl, rfl, h⟩
    · have h := Eq.mp (if_pos hc) h
      refine E_aload_n dX12_lives_45 rfl rfl ?_
      refine E_callV (Y' := Y_X12_endsAsTold) (as := []) (st := []) dX12_lives_46 lk_RX12_425 m_X12_endsAsTold (by decide) (Nat.le_refl _) (Nat.le_refl _) rfl rfl (Nat.le_of_ble_eq_true rfl) (s_X12_endsAsTold h) (fun r0 B0 σ_9 h => ?_)
      obtain ⟨r_10, rfl, rfl, h⟩ := h
      refine E_pop dX12_lives_49 (fun _ q => by cases q) ?_
      refine E_goto (tgt := 73) dX12_lives_50 (by decide) ?_
      exact E_vret dX12_lives_73 rfl ⟨rfl, rfl, h⟩
  · have h := Eq.mp (if_neg hc) h
    refine E_aload_n dX12_lives_12 rfl rfl ?_
    refine E_aload_n dX12_lives_13 rfl rfl ?_
    refine E_getr (i := 0) dX12_lives_14 fl_RX12_13 rfl rfl (go_12_10 _ _) ?_
    refine E_ic dX12_lives_17 rfl ?_
    refine E_iald dX12_lives_18 sh_1310 (by decide) (by decide) ?_
    refine E_callV (Y' := Y_X12_draws) (as := [vI (σ_1 1310 0 1)]) (st := []) dX12_lives_19 lk_RX12_491 m_X12_draws (by decide) (Nat.le_refl _) (Nat.le_refl _) rfl rfl (Nat.le_of_ble_eq_true rfl) (s_X12_draws h) (fun r0 B0 σ_11 h => ?_)
    obtain ⟨r_12, rfl, rfl, h⟩ := h
    refine E_istore_n (ls' := [some (vR 12 0), some (vI r_2), some (vI r_12)]) dX12_lives_22 rfl (by decide) rfl ?_
    refine E_aload_n dX12_lives_23 rfl rfl ?_
    refine E_iload_n dX12_lives_24 rfl rfl ?_
    refine E_callV (Y' := Y_X12_canSend) (as := [vI r_12]) (st := []) dX12_lives_25 lk_RX12_413 m_X12_canSend (by decide) (Nat.le_refl _) (Nat.le_refl _) rfl rfl (Nat.le_of_ble_eq_true rfl) (s_X12_canSend h) (fun r0 B0 σ_13 h => ?_)
    obtain ⟨r_14, rfl, rfl, h⟩ := h
    refine E_if_eq (tgt := 36) dX12_lives_28 (by decide) (fun hc => ?_) (fun hc => ?_)
    · have h := Eq.mp (if_pos hc) h
      refine E_wk2 [none, none, none] trivial ?_
      exact e_P_X12_lives_J36 h
    · have h := Eq.mp (if_neg hc) h
      refine E_aload_n dX12_lives_31 rfl rfl ?_
      refine E_iload_n dX12_lives_32 rfl rfl ?_
      refine E_callV (Y' := Y_X12_sends) (as := [vI r_12]) (st := []) dX12_lives_33 lk_RX12_419 m_X12_sends (by decide) (Nat.le_refl _) (Nat.le_refl _) rfl rfl (Nat.le_of_ble_eq_true rfl) (s_X12_sends h) (fun r0 B0 σ_15 h => ?_)
      obtain ⟨rfl, rfl, h⟩ := h
      refine E_wk2 [none, none, none] trivial ?_
      exact e_P_X12_lives_J36 h
abbrev Y_X12_weeks : My := (yX12_weeks, cX12_weeks, 7, some .int)
theorem dX12_weeks_0 : decode cX12_weeks 0 = .ok (.aload_n 0, 1) := by decide +kernel
theorem dX12_weeks_1 : decode cX12_weeks 1 = .ok (.iconst 0, 1) := by decide +kernel
theorem dX12_weeks_2 : decode cX12_weeks 2 = .ok (.putfield 141, 3) := by decide +kernel
theorem dX12_weeks_5 : decode cX12_weeks 5 = .ok (.iload_n 1, 1) := by decide +kernel
theorem dX12_weeks_6 : decode cX12_weeks 6 = .ok (.iconst 0, 1) := by decide +kernel
theorem dX12_weeks_7 : decode cX12_weeks 7 = .ok (.sipush 9999, 3) := by decide +kernel
theorem dX12_weeks_10 : decode cX12_weeks 10 = .ok (.invokestatic 264, 3) := by decide +kernel
theorem dX12_weeks_13 : decode cX12_weeks 13 = .ok (.ifCond .eq 22, 3) := by decide +kernel
theorem dX12_weeks_16 : decode cX12_weeks 16 = .ok (.iload_n 2, 1) := by decide +kernel
theorem dX12_weeks_17 : decode cX12_weeks 17 = .ok (.iconst 1, 1) := by decide +kernel
theorem dX12_weeks_18 : decode cX12_weeks 18 = .ok (.bipush 99, 2) := by decide +kernel
theorem dX12_weeks_20 : decode cX12_weeks 20 = .ok (.invokestatic 264, 3) := by decide +kernel
theorem dX12_weeks_23 : decode cX12_weeks 23 = .ok (.ifCond .eq 12, 3) := by decide +kernel
theorem dX12_weeks_26 : decode cX12_weeks 26 = .ok (.iload_n 3, 1) := by decide +kernel
theorem dX12_weeks_27 : decode cX12_weeks 27 = .ok (.iconst 0, 1) := by decide +kernel
theorem dX12_weeks_28 : decode cX12_weeks 28 = .ok (.iconst 2, 1) := by decide +kernel
theorem dX12_weeks_29 : decode cX12_weeks 29 = .ok (.invokestatic 264, 3) := by decide +kernel
theorem dX12_weeks_32 : decode cX12_weeks 32 = .ok (.ifCond .ne 5, 3) := by decide +kernel
theorem dX12_weeks_35 : decode cX12_weeks 35 = .ok (.iconst (-1), 1) := by decide +kernel
theorem dX12_weeks_36 : decode cX12_weeks 36 = .ok (.ireturn, 1) := by decide +kernel
theorem dX12_weeks_37 : decode cX12_weeks 37 = .ok (.aload_n 0, 1) := by decide +kernel
theorem dX12_weeks_38 : decode cX12_weeks 38 = .ok (.iload_n 1, 1) := by decide +kernel
theorem dX12_weeks_39 : decode cX12_weeks 39 = .ok (.i2l, 1) := by decide +kernel
theorem dX12_weeks_40 : decode cX12_weeks 40 = .ok (.putfield 480, 3) := by decide +kernel
theorem dX12_weeks_43 : decode cX12_weeks 43 = .ok (.aload_n 0, 1) := by decide +kernel
theorem dX12_weeks_44 : decode cX12_weeks 44 = .ok (.getfield 111, 3) := by decide +kernel
theorem dX12_weeks_47 : decode cX12_weeks 47 = .ok (.iconst 0, 1) := by decide +kernel
theorem dX12_weeks_48 : decode cX12_weeks 48 = .ok (.aload_n 0, 1) := by decide +kernel
theorem dX12_weeks_49 : decode cX12_weeks 49 = .ok (.getfield 114, 3) := by decide +kernel
theorem dX12_weeks_52 : decode cX12_weeks 52 = .ok (.iconst 0, 1) := by decide +kernel
theorem dX12_weeks_53 : decode cX12_weeks 53 = .ok (.invokestatic 409, 3) := by decide +kernel
theorem dX12_weeks_56 : decode cX12_weeks 56 = .ok (.aload_n 0, 1) := by decide +kernel
theorem dX12_weeks_57 : decode cX12_weeks 57 = .ok (.iconst 0, 1) := by decide +kernel
theorem dX12_weeks_58 : decode cX12_weeks 58 = .ok (.putfield 382, 3) := by decide +kernel
theorem dX12_weeks_61 : decode cX12_weeks 61 = .ok (.iconst 0, 1) := by decide +kernel
theorem dX12_weeks_62 : decode cX12_weeks 62 = .ok (.istore 4, 2) := by decide +kernel
theorem dX12_weeks_64 : decode cX12_weeks 64 = .ok (.iload 4, 2) := by decide +kernel
theorem dX12_weeks_66 : decode cX12_weeks 66 = .ok (.iload_n 2, 1) := by decide +kernel
theorem dX12_weeks_67 : decode cX12_weeks 67 = .ok (.if_icmp .ge 22, 3) := by decide +kernel
theorem dX12_weeks_70 : decode cX12_weeks 70 = .ok (.aload_n 0, 1) := by decide +kernel
theorem dX12_weeks_71 : decode cX12_weeks 71 = .ok (.getfield 13, 3) := by decide +kernel
theorem dX12_weeks_74 : decode cX12_weeks 74 = .ok (.iconst 1, 1) := by decide +kernel
theorem dX12_weeks_75 : decode cX12_weeks 75 = .ok (.iaload, 1) := by decide +kernel
theorem dX12_weeks_76 : decode cX12_weeks 76 = .ok (.ifCond .le 13, 3) := by decide +kernel
theorem dX12_weeks_79 : decode cX12_weeks 79 = .ok (.aload_n 0, 1) := by decide +kernel
theorem dX12_weeks_80 : decode cX12_weeks 80 = .ok (.invokevirtual 494, 3) := by decide +kernel
theorem dX12_weeks_83 : decode cX12_weeks 83 = .ok (.iinc 4 1, 3) := by decide +kernel
theorem dX12_weeks_86 : decode cX12_weeks 86 = .ok (.goto (-22), 3) := by decide +kernel
theorem dX12_weeks_89 : decode cX12_weeks 89 = .ok (.aload_n 0, 1) := by decide +kernel
theorem dX12_weeks_90 : decode cX12_weeks 90 = .ok (.invokevirtual 431, 3) := by decide +kernel
theorem dX12_weeks_93 : decode cX12_weeks 93 = .ok (.istore 4, 2) := by decide +kernel
theorem dX12_weeks_95 : decode cX12_weeks 95 = .ok (.iconst 0, 1) := by decide +kernel
theorem dX12_weeks_96 : decode cX12_weeks 96 = .ok (.istore 5, 2) := by decide +kernel
theorem dX12_weeks_98 : decode cX12_weeks 98 = .ok (.iconst 0, 1) := by decide +kernel
theorem dX12_weeks_99 : decode cX12_weeks 99 = .ok (.istore 6, 2) := by decide +kernel
theorem dX12_weeks_101 : decode cX12_weeks 101 = .ok (.iload 6, 2) := by decide +kernel
theorem dX12_weeks_103 : decode cX12_weeks 103 = .ok (.aload_n 0, 1) := by decide +kernel
theorem dX12_weeks_104 : decode cX12_weeks 104 = .ok (.getfield 13, 3) := by decide +kernel
theorem dX12_weeks_107 : decode cX12_weeks 107 = .ok (.iconst 1, 1) := by decide +kernel
theorem dX12_weeks_108 : decode cX12_weeks 108 = .ok (.iaload, 1) := by decide +kernel
theorem dX12_weeks_109 : decode cX12_weeks 109 = .ok (.if_icmp .ge 24, 3) := by decide +kernel
theorem dX12_weeks_112 : decode cX12_weeks 112 = .ok (.iload 5, 2) := by decide +kernel
theorem dX12_weeks_114 : decode cX12_weeks 114 = .ok (.aload_n 0, 1) := by decide +kernel
theorem dX12_weeks_115 : decode cX12_weeks 115 = .ok (.getfield 111, 3) := by decide +kernel
theorem dX12_weeks_118 : decode cX12_weeks 118 = .ok (.bipush 16, 2) := by decide +kernel
theorem dX12_weeks_120 : decode cX12_weeks 120 = .ok (.iload 6, 2) := by decide +kernel
theorem dX12_weeks_122 : decode cX12_weeks 122 = .ok (.iadd, 1) := by decide +kernel
theorem dX12_weeks_123 : decode cX12_weeks 123 = .ok (.iaload, 1) := by decide +kernel
theorem dX12_weeks_124 : decode cX12_weeks 124 = .ok (.iadd, 1) := by decide +kernel
theorem dX12_weeks_125 : decode cX12_weeks 125 = .ok (.istore 5, 2) := by decide +kernel
theorem dX12_weeks_127 : decode cX12_weeks 127 = .ok (.iinc 6 1, 3) := by decide +kernel
theorem dX12_weeks_130 : decode cX12_weeks 130 = .ok (.goto (-29), 3) := by decide +kernel
theorem dX12_weeks_133 : decode cX12_weeks 133 = .ok (.aload_n 0, 1) := by decide +kernel
theorem dX12_weeks_134 : decode cX12_weeks 134 = .ok (.getfield 114, 3) := by decide +kernel
theorem dX12_weeks_137 : decode cX12_weeks 137 = .ok (.iconst 0, 1) := by decide +kernel
theorem dX12_weeks_138 : decode cX12_weeks 138 = .ok (.aload_n 0, 1) := by decide +kernel
theorem dX12_weeks_139 : decode cX12_weeks 139 = .ok (.getfield 111, 3) := by decide +kernel
theorem dX12_weeks_142 : decode cX12_weeks 142 = .ok (.iconst 0, 1) := by decide +kernel
theorem dX12_weeks_143 : decode cX12_weeks 143 = .ok (.invokestatic 409, 3) := by decide +kernel
theorem dX12_weeks_146 : decode cX12_weeks 146 = .ok (.iload_n 3, 1) := by decide +kernel
theorem dX12_weeks_147 : decode cX12_weeks 147 = .ok (.ifCond .ne 10, 3) := by decide +kernel
theorem dX12_weeks_150 : decode cX12_weeks 150 = .ok (.aload_n 0, 1) := by decide +kernel
theorem dX12_weeks_151 : decode cX12_weeks 151 = .ok (.getfield 382, 3) := by decide +kernel
theorem dX12_weeks_154 : decode cX12_weeks 154 = .ok (.goto 15, 3) := by decide +kernel
theorem dX12_weeks_157 : decode cX12_weeks 157 = .ok (.iload_n 3, 1) := by decide +kernel
theorem dX12_weeks_158 : decode cX12_weeks 158 = .ok (.iconst 1, 1) := by decide +kernel
theorem dX12_weeks_159 : decode cX12_weeks 159 = .ok (.if_icmp .ne 8, 3) := by decide +kernel
theorem dX12_weeks_162 : decode cX12_weeks 162 = .ok (.iload 4, 2) := by decide +kernel
theorem dX12_weeks_164 : decode cX12_weeks 164 = .ok (.goto 5, 3) := by decide +kernel
theorem dX12_weeks_167 : decode cX12_weeks 167 = .ok (.iload 5, 2) := by decide +kernel
theorem dX12_weeks_169 : decode cX12_weeks 169 = .ok (.ireturn, 1) := by decide +kernel
theorem lk_RX12_494 : Cond.methodLink RX12 494 yX12_lives ∈ tG := inG (i := 2035) (by decide +kernel) (by decide +kernel)
theorem m_X12_lives : MV Y_X12_lives 0 12 := ⟨⟨inG (i := 2038) (by decide +kernel) (by decide +kernel), inG (i := 110) (by decide +kernel) (by decide +kernel), by decide, by decide, by decide, by decide +kernel⟩, inG (i := 2037) (by decide +kernel) (by decide +kernel), inG (i := 93) (by decide +kernel) (by decide +kernel), by decide⟩
def P_X12_weeks_L64  (x2 : Int) (x3 : Int) (K : St → Prop) (Q : Int → St → Prop) : Nat → Int → St → Prop
  | 0, _, _ => False
  | n + 1, x4, σ => (if x2 ≤ x4 then K σ else (if (σ 1310 0 1) ≤ 0 then K σ else P_X12_lives σ (fun σ_8 => (P_X12_weeks_L64 x2 x3 K Q n) (wi (x4 + 1)) σ_8)))
set_option maxRecDepth 20000 in
set_option maxHeartbeats 2000000 in
theorem e_P_X12_weeks_L64  {x2 : Int} {x3 : Int} {K : St → Prop} {Q : Int → St → Prop}  (hK : ∀ σ, K σ → E Y_X12_weeks 7 0 0 (QI Q) ww 0 0 89 [some (vR 12 0), none, none, some (vI x3), none, none, none] [] σ) : ∀ (n : Nat) (x4 : Int) (σ : St), P_X12_weeks_L64 x2 x3 K Q n x4 σ → E Y_X12_weeks 7 0 0 (QI Q) ww 0 0 64 [some (vR 12 0), none, some (vI x2), some (vI x3), some (vI x4), none, none] [] σ := by
  intro n
  induction n with
  | zero => intro x4 σ h; exact h.elim
  | succ n hR =>
    intro x4 σ h
    unfold P_X12_weeks_L64 at h
    refine E_iload dX12_weeks_64 rfl ?_
    refine E_iload_n dX12_weeks_66 rfl rfl ?_
    refine E_icmp_ge (tgt := 89) dX12_weeks_67 (by decide) (fun hc => ?_) (fun hc => ?_)
    · have h := Eq.mp (if_pos hc) h
      refine E_wk2 [some (vR 12 0), none, none, some (vI x3), none, none, none] ⟨rfl, ⟨rfl, trivial⟩⟩ ?_
      exact hK _ h
    · have h := Eq.mp (if_neg hc) h
      refine E_aload_n dX12_weeks_70 rfl rfl ?_
      refine E_getr (i := 0) dX12_weeks_71 fl_RX12_13 rfl rfl (go_12_10 _ _) ?_
      refine E_ic dX12_weeks_74 rfl ?_
      refine E_iald dX12_weeks_75 sh_1310 (by decide) (by decide) ?_
      refine E_if_le (tgt := 89) dX12_weeks_76 (by decide) (fun hc => ?_) (fun hc => ?_)
      · have h := Eq.mp (if_pos hc) h
        refine E_wk2 [some (vR 12 0), none, none, some (vI x3), none, none, none] ⟨rfl, ⟨rfl, trivial⟩⟩ ?_
        exact hK _ h
      · have h := Eq.mp (if_neg hc) h
        refine E_aload_n dX12_weeks_79 rfl rfl ?_
        refine E_callV (Y' := Y_X12_lives) (as := []) (st := []) dX12_weeks_80 lk_RX12_494 m_X12_lives (by decide) (Nat.le_refl _) (Nat.le_refl _) rfl rfl (Nat.le_of_ble_eq_true rfl) (s_X12_lives h) (fun r0 B0 σ_8 h => ?_)
        obtain ⟨rfl, rfl, h⟩ := h
        refine E_iinc (ls' := [some (vR 12 0), none, some (vI x2), some (vI x3), some (vI (wi (x4 + 1))), none, none]) dX12_weeks_83 rfl (by decide) rfl rfl ?_
        refine E_goto (tgt := 64) dX12_weeks_86 (by decide) ?_
        exact hR _ _ h
def P_X12_weeks_L101  (x3 : Int) (x4 : Int) (K : Int → St → Prop) (Q : Int → St → Prop) : Nat → Int → Int → St → Prop
  | 0, _, _, _ => False
  | n + 1, x5, x6, σ => (if (σ 1310 0 1) ≤ x6 then K x5 σ else 0 ≤ wi (16 + x6) ∧ wi (16 + x6) < 46 ∧ (P_X12_weeks_L101 x3 x4 K Q n) (wi (x5 + (σ 1346 0 (wi (16 + x6))))) (wi (x6 + 1)) σ)
set_option maxRecDepth 20000 in
set_option maxHeartbeats 2000000 in
theorem e_P_X12_weeks_L101  {x3 : Int} {x4 : Int} {K : Int → St → Prop} {Q : Int → St → Prop}  (hK : ∀ x5 σ, K x5 σ → E Y_X12_weeks 7 0 0 (QI Q) ww 0 0 133 [some (vR 12 0), none, none, some (vI x3), some (vI x4), some (vI x5), none] [] σ) : ∀ (n : Nat) (x5 : Int) (x6 : Int) (σ : St), P_X12_weeks_L101 x3 x4 K Q n x5 x6 σ → E Y_X12_weeks 7 0 0 (QI Q) ww 0 0 101 [some (vR 12 0), none, none, some (vI x3), some (vI x4), some (vI x5), some (vI x6)] [] σ := by
  intro n
  induction n with
  | zero => intro x5 x6 σ h; exact h.elim
  | succ n hR =>
    intro x5 x6 σ h
    unfold P_X12_weeks_L101 at h
    refine E_iload dX12_weeks_101 rfl ?_
    refine E_aload_n dX12_weeks_103 rfl rfl ?_
    refine E_getr (i := 0) dX12_weeks_104 fl_RX12_13 rfl rfl (go_12_10 _ _) ?_
    refine E_ic dX12_weeks_107 rfl ?_
    refine E_iald dX12_weeks_108 sh_1310 (by decide) (by decide) ?_
    refine E_icmp_ge (tgt := 133) dX12_weeks_109 (by decide) (fun hc => ?_) (fun hc => ?_)
    · have h := Eq.mp (if_pos hc) h
      refine E_wk2 [some (vR 12 0), none, none, some (vI x3), some (vI x4), some (vI x5), none] ⟨rfl, ⟨rfl, ⟨rfl, ⟨rfl, trivial⟩⟩⟩⟩ ?_
      exact hK _ _ h
    · have h := Eq.mp (if_neg hc) h
      refine E_iload dX12_weeks_112 rfl ?_
      refine E_aload_n dX12_weeks_114 rfl rfl ?_
      refine E_getr (i := 0) dX12_weeks_115 fl_RX12_111 rfl rfl (go_12_46 _ _) ?_
      refine E_bp dX12_weeks_118 rfl ?_
      refine E_iload dX12_weeks_120 rfl ?_
      refine E_iadd dX12_weeks_122 ?_
      obtain ⟨hg0, hg1, h⟩ := h
      refine E_iald dX12_weeks_123 sh_1346 hg0 hg1 ?_
      refine E_iadd dX12_weeks_124 ?_
      refine E_istore (ls' := [some (vR 12 0), none, none, some (vI x3), some (vI x4), some (vI (wi (x5 + (σ 1346 0 (wi (16 + x6)))))), some (vI x6)]) dX12_weeks_125 (by decide) rfl ?_
      refine E_iinc (ls' := [some (vR 12 0), none, none, some (vI x3), some (vI x4), some (vI (wi (x5 + (σ 1346 0 (wi (16 + x6)))))), some (vI (wi (x6 + 1)))]) dX12_weeks_127 rfl (by decide) rfl rfl ?_
      refine E_goto (tgt := 101) dX12_weeks_130 (by decide) ?_
      exact hR _ _ _ h
def P_X12_weeks_J89  (x3 : Int)  (Q : Int → St → Prop) (σ : St) : Prop :=
  P_X12_astrayNow σ (fun r_11 σ_10 => P_X12_weeks_L101 x3 r_11 (fun x5_12 σ_13 => P_X12_copies 1347 0 0 1346 0 0 σ_13 (fun σ_14 => (if x3 = 0 then Q (σ_14 12 0 54) σ_14 else (if x3 = 1 then Q r_11 σ_14 else Q x5_12 σ_14)))) Q FU 0 0 σ_10)
set_option maxRecDepth 20000 in
set_option maxHeartbeats 2000000 in
theorem e_P_X12_weeks_J89  {x3 : Int}  {Q : Int → St → Prop} {σ : St}   (h : P_X12_weeks_J89 x3 Q σ) : E Y_X12_weeks 7 0 0 (QI Q) ww 0 0 89 [some (vR 12 0), none, none, some (vI x3), none, none, none] [] σ := by
  unfold P_X12_weeks_J89 at h
  refine E_aload_n dX12_weeks_89 rfl rfl ?_
  refine E_callV (Y' := Y_X12_astrayNow) (as := []) (st := []) dX12_weeks_90 lk_RX12_431 m_X12_astrayNow (by decide) (Nat.le_refl _) (Nat.le_refl _) rfl rfl (Nat.le_of_ble_eq_true rfl) (s_X12_astrayNow h) (fun r0 B0 σ_10 h => ?_)
  obtain ⟨r_11, rfl, rfl, h⟩ := h
  refine E_istore (ls' := [some (vR 12 0), none, none, some (vI x3), some (vI r_11), none, none]) dX12_weeks_93 (by decide) rfl ?_
  refine E_ic dX12_weeks_95 rfl ?_
  refine E_istore (ls' := [some (vR 12 0), none, none, some (vI x3), some (vI r_11), some (vI 0), none]) dX12_weeks_96 (by decide) rfl ?_
  refine E_ic dX12_weeks_98 rfl ?_
  refine E_istore (ls' := [some (vR 12 0), none, none, some (vI x3), some (vI r_11), some (vI 0), some (vI 0)]) dX12_weeks_99 (by decide) rfl ?_
  refine e_P_X12_weeks_L101 ?_ _ _ _ _ h
  · intro x5_12 σ_13 h
    refine E_aload_n dX12_weeks_133 rfl rfl ?_
    refine E_getr (i := 0) dX12_weeks_134 fl_RX12_114 rfl rfl (go_12_47 _ _) ?_
    refine E_ic dX12_weeks_137 rfl ?_
    refine E_aload_n dX12_weeks_138 rfl rfl ?_
    refine E_getr (i := 0) dX12_weeks_139 fl_RX12_111 rfl rfl (go_12_46 _ _) ?_
    refine E_ic dX12_weeks_142 rfl ?_
    refine E_callS (Y' := Y_X12_copies) (as := [vR 1347 0, vI 0, vR 1346 0, vI 0]) (st := []) dX12_weeks_143 lk_RX12_409 m_X12_copies (by decide) (Nat.le_refl _) (Nat.le_refl _) rfl rfl (Nat.le_of_ble_eq_true rfl) (s_X12_copies h) (fun r0 B0 σ_14 h => ?_)
    obtain ⟨rfl, rfl, h⟩ := h
    refine E_iload_n dX12_weeks_146 rfl rfl ?_
    refine E_if_ne (tgt := 157) dX12_weeks_147 (by decide) (fun hc => ?_) (fun hc => ?_)
    · have h := Eq.mp (if_neg hc) h
      refine E_iload_n dX12_weeks_157 rfl rfl ?_
      refine E_ic dX12_weeks_158 rfl ?_
      refine E_icmp_ne (tgt := 167) dX12_weeks_159 (by decide) (fun hc => ?_) (fun hc => ?_)
      · have h := Eq.mp (if_neg hc) h
        refine E_iload dX12_weeks_167 rfl ?_
        exact E_iret dX12_weeks_169 rfl ⟨_, rfl, rfl, h⟩
      · have h := Eq.mp (if_pos hc) h
        refine E_iload dX12_weeks_162 rfl ?_
        refine E_goto (tgt := 169) dX12_weeks_164 (by decide) ?_
        exact E_iret dX12_weeks_169 rfl ⟨_, rfl, rfl, h⟩
    · have h := Eq.mp (if_pos hc) h
      refine E_aload_n dX12_weeks_150 rfl rfl ?_
      refine E_geti (i := 0) dX12_weeks_151 fl_RX12_382 rfl ?_
      refine E_goto (tgt := 169) dX12_weeks_154 (by decide) ?_
      exact E_iret dX12_weeks_169 rfl ⟨_, rfl, rfl, h⟩
def P_X12_weeks  (x1 : Int) (x2 : Int) (x3 : Int) (σ : St) (Q : Int → St → Prop) : Prop :=
  P_X12_within x1 0 9999 (up σ 12 0 0 0) (fun r_2 σ_1 => (if r_2 = 0 then Q (-1) σ_1 else P_X12_within x2 1 99 σ_1 (fun r_4 σ_3 => (if r_4 = 0 then Q (-1) σ_3 else P_X12_within x3 0 2 σ_3 (fun r_6 σ_5 => (if r_6 = 0 then Q (-1) σ_5 else P_X12_copies 1346 0 0 1347 0 0 (up σ_5 12 0 58 x1) (fun σ_7 => P_X12_weeks_L64 x2 x3 (fun σ_9 => P_X12_weeks_J89 x3 Q σ_9) Q FU 0 (up σ_7 12 0 54 0))))))))
set_option maxRecDepth 20000 in
set_option maxHeartbeats 2000000 in
theorem s_X12_weeks   {x1 : Int} {x2 : Int} {x3 : Int} {σ : St} {Q : Int → St → Prop} (h : P_X12_weeks x1 x2 x3 σ Q) : Cn Y_X12_weeks 7 0 0 ww σ [vR 12 0, vI x1, vI x2, vI x3] (QI Q) := by
  refine Cn_of [some (vR 12 0), some (vI x1), some (vI x2), some (vI x3), none, none, none] (by decide) (Nat.le_of_ble_eq_true rfl) rfl ?_
  unfold P_X12_weeks at h
  refine E_aload_n dX12_weeks_0 rfl rfl ?_
  refine E_ic dX12_weeks_1 rfl ?_
  refine E_puti dX12_weeks_2 fl_RX12_141 rfl rfl rfl ?_
  refine E_iload_n dX12_weeks_5 rfl rfl ?_
  refine E_ic dX12_weeks_6 rfl ?_
  refine E_sp dX12_weeks_7 rfl ?_
  refine E_callS (Y' := Y_X12_within) (as := [vI x1, vI 0, vI 9999]) (st := []) dX12_weeks_10 lk_RX12_264 m_X12_within (by decide) (Nat.le_refl _) (Nat.le_refl _) rfl rfl (Nat.le_of_ble_eq_true rfl) (s_X12_within h) (fun r0 B0 σ_1 h => ?_)
  obtain ⟨r_2, rfl, rfl, h⟩ := h
  refine E_if_eq (tgt := 35) dX12_weeks_13 (by decide) (fun hc => ?_) (fun hc => ?_)
  · have h := Eq.mp (if_pos hc) h
    refine E_ic dX12_weeks_35 rfl ?_
    exact E_iret dX12_weeks_36 rfl ⟨_, rfl, rfl, h⟩
  · have h := Eq.mp (if_neg hc) h
    refine E_iload_n dX12_weeks_16 rfl rfl ?_
    refine E_ic dX12_weeks_17 rfl ?_
    refine E_bp dX12_weeks_18 rfl ?_
    refine E_callS (Y' := Y_X12_within) (as := [vI x2, vI 1, vI 99]) (st := []) dX12_weeks_20 lk_RX12_264 m_X12_within (by decide) (Nat.le_refl _) (Nat.le_refl _) rfl rfl (Nat.le_of_ble_eq_true rfl) (s_X12_within h) (fun r0 B0 σ_3 h => ?_)
    obtain ⟨r_4, rfl, rfl, h⟩ := h
    refine E_if_eq (tgt := 35) dX12_weeks_23 (by decide) (fun hc => ?_) (fun hc => ?_)
    · have h := Eq.mp (if_pos hc) h
      refine E_ic dX12_weeks_35 rfl ?_
      exact E_iret dX12_weeks_36 rfl ⟨_, rfl, rfl, h⟩
    · have h := Eq.mp (if_neg hc) h
      refine E_iload_n dX12_weeks_26 rfl rfl ?_
      refine E_ic dX12_weeks_27 rfl ?_
      refine E_ic dX12_weeks_28 rfl ?_
      refine E_callS (Y' := Y_X12_within) (as := [vI x3, vI 0, vI 2]) (st := []) dX12_weeks_29 lk_RX12_264 m_X12_within (by decide) (Nat.le_refl _) (Nat.le_refl _) rfl rfl (Nat.le_of_ble_eq_true rfl) (s_X12_within h) (fun r0 B0 σ_5 h => ?_)
      obtain ⟨r_6, rfl, rfl, h⟩ := h
      refine E_if_ne (tgt := 37) dX12_weeks_32 (by decide) (fun hc => ?_) (fun hc => ?_)
      · have h := Eq.mp (if_neg hc) h
        refine E_aload_n dX12_weeks_37 rfl rfl ?_
        refine E_iload_n dX12_weeks_38 rfl rfl ?_
        refine E_i2l dX12_weeks_39 ?_
        refine E_putl dX12_weeks_40 fl_RX12_480 rfl rfl rfl ?_
        refine E_aload_n dX12_weeks_43 rfl rfl ?_
        refine E_getr (i := 0) dX12_weeks_44 fl_RX12_111 rfl rfl (go_12_46 _ _) ?_
        refine E_ic dX12_weeks_47 rfl ?_
        refine E_aload_n dX12_weeks_48 rfl rfl ?_
        refine E_getr (i := 0) dX12_weeks_49 fl_RX12_114 rfl rfl (go_12_47 _ _) ?_
        refine E_ic dX12_weeks_52 rfl ?_
        refine E_callS (Y' := Y_X12_copies) (as := [vR 1346 0, vI 0, vR 1347 0, vI 0]) (st := []) dX12_weeks_53 lk_RX12_409 m_X12_copies (by decide) (Nat.le_refl _) (Nat.le_refl _) rfl rfl (Nat.le_of_ble_eq_true rfl) (s_X12_copies h) (fun r0 B0 σ_7 h => ?_)
        obtain ⟨rfl, rfl, h⟩ := h
        refine E_aload_n dX12_weeks_56 rfl rfl ?_
        refine E_ic dX12_weeks_57 rfl ?_
        refine E_puti dX12_weeks_58 fl_RX12_382 rfl rfl rfl ?_
        refine E_ic dX12_weeks_61 rfl ?_
        refine E_istore (ls' := [some (vR 12 0), some (vI x1), some (vI x2), some (vI x3), some (vI 0), none, none]) dX12_weeks_62 (by decide) rfl ?_
        refine E_wk2 [some (vR 12 0), none, some (vI x2), some (vI x3), some (vI 0), none, none] ⟨rfl, ⟨rfl, ⟨rfl, ⟨rfl, trivial⟩⟩⟩⟩ ?_
        refine e_P_X12_weeks_L64 ?_ _ _ _ h
        · intro σ_9 h
          exact e_P_X12_weeks_J89 h
      · have h := Eq.mp (if_pos hc) h
        refine E_ic dX12_weeks_35 rfl ?_
        exact E_iret dX12_weeks_36 rfl ⟨_, rfl, rfl, h⟩
abbrev Y_X12_mark : My := (yX12_mark, cX12_mark, 5, some .boolean)
theorem dX12_mark_0 : decode cX12_mark 0 = .ok (.aload_n 0, 1) := by decide +kernel
theorem dX12_mark_1 : decode cX12_mark 1 = .ok (.iconst 0, 1) := by decide +kernel
theorem dX12_mark_2 : decode cX12_mark 2 = .ok (.putfield 141, 3) := by decide +kernel
theorem dX12_mark_5 : decode cX12_mark 5 = .ok (.iload_n 1, 1) := by decide +kernel
theorem dX12_mark_6 : decode cX12_mark 6 = .ok (.iconst 0, 1) := by decide +kernel
theorem dX12_mark_7 : decode cX12_mark 7 = .ok (.iconst 3, 1) := by decide +kernel
theorem dX12_mark_8 : decode cX12_mark 8 = .ok (.invokestatic 264, 3) := by decide +kernel
theorem dX12_mark_11 : decode cX12_mark 11 = .ok (.ifCond .eq 16, 3) := by decide +kernel
theorem dX12_mark_14 : decode cX12_mark 14 = .ok (.iload_n 2, 1) := by decide +kernel
theorem dX12_mark_15 : decode cX12_mark 15 = .ok (.ifCond .eq 14, 3) := by decide +kernel
theorem dX12_mark_18 : decode cX12_mark 18 = .ok (.aload_n 0, 1) := by decide +kernel
theorem dX12_mark_19 : decode cX12_mark 19 = .ok (.getfield 126, 3) := by decide +kernel
theorem dX12_mark_22 : decode cX12_mark 22 = .ok (.iload_n 1, 1) := by decide +kernel
theorem dX12_mark_23 : decode cX12_mark 23 = .ok (.baload, 1) := by decide +kernel
theorem dX12_mark_24 : decode cX12_mark 24 = .ok (.ifCond .ne 5, 3) := by decide +kernel
theorem dX12_mark_27 : decode cX12_mark 27 = .ok (.iconst 0, 1) := by decide +kernel
theorem dX12_mark_28 : decode cX12_mark 28 = .ok (.ireturn, 1) := by decide +kernel
theorem dX12_mark_29 : decode cX12_mark 29 = .ok (.aload_n 0, 1) := by decide +kernel
theorem dX12_mark_30 : decode cX12_mark 30 = .ok (.getfield 126, 3) := by decide +kernel
theorem dX12_mark_33 : decode cX12_mark 33 = .ok (.iload_n 1, 1) := by decide +kernel
theorem dX12_mark_34 : decode cX12_mark 34 = .ok (.iconst 1, 1) := by decide +kernel
theorem dX12_mark_35 : decode cX12_mark 35 = .ok (.bastore, 1) := by decide +kernel
theorem dX12_mark_36 : decode cX12_mark 36 = .ok (.iload_n 2, 1) := by decide +kernel
theorem dX12_mark_37 : decode cX12_mark 37 = .ok (.ifCond .eq 9, 3) := by decide +kernel
theorem dX12_mark_40 : decode cX12_mark 40 = .ok (.iconst 1, 1) := by decide +kernel
theorem dX12_mark_41 : decode cX12_mark 41 = .ok (.iload_n 1, 1) := by decide +kernel
theorem dX12_mark_42 : decode cX12_mark 42 = .ok (.iadd, 1) := by decide +kernel
theorem dX12_mark_43 : decode cX12_mark 43 = .ok (.goto 4, 3) := by decide +kernel
theorem dX12_mark_46 : decode cX12_mark 46 = .ok (.iconst 0, 1) := by decide +kernel
theorem dX12_mark_47 : decode cX12_mark 47 = .ok (.istore_n 3, 1) := by decide +kernel
theorem dX12_mark_48 : decode cX12_mark 48 = .ok (.iload_n 2, 1) := by decide +kernel
theorem dX12_mark_49 : decode cX12_mark 49 = .ok (.ifCond .eq 7, 3) := by decide +kernel
theorem dX12_mark_52 : decode cX12_mark 52 = .ok (.iconst 0, 1) := by decide +kernel
theorem dX12_mark_53 : decode cX12_mark 53 = .ok (.goto 6, 3) := by decide +kernel
theorem dX12_mark_56 : decode cX12_mark 56 = .ok (.iconst 1, 1) := by decide +kernel
theorem dX12_mark_57 : decode cX12_mark 57 = .ok (.iload_n 1, 1) := by decide +kernel
theorem dX12_mark_58 : decode cX12_mark 58 = .ok (.iadd, 1) := by decide +kernel
theorem dX12_mark_59 : decode cX12_mark 59 = .ok (.istore 4, 2) := by decide +kernel
theorem dX12_mark_61 : decode cX12_mark 61 = .ok (.aload_n 0, 1) := by decide +kernel
theorem dX12_mark_62 : decode cX12_mark 62 = .ok (.iload_n 3, 1) := by decide +kernel
theorem dX12_mark_63 : decode cX12_mark 63 = .ok (.iload 4, 2) := by decide +kernel
theorem dX12_mark_65 : decode cX12_mark 65 = .ok (.invokevirtual 352, 3) := by decide +kernel
theorem dX12_mark_68 : decode cX12_mark 68 = .ok (.aload_n 0, 1) := by decide +kernel
theorem dX12_mark_69 : decode cX12_mark 69 = .ok (.iload_n 3, 1) := by decide +kernel
theorem dX12_mark_70 : decode cX12_mark 70 = .ok (.iload 4, 2) := by decide +kernel
theorem dX12_mark_72 : decode cX12_mark 72 = .ok (.invokevirtual 497, 3) := by decide +kernel
theorem dX12_mark_75 : decode cX12_mark 75 = .ok (.iload_n 2, 1) := by decide +kernel
theorem dX12_mark_76 : decode cX12_mark 76 = .ok (.ifCond .eq 27, 3) := by decide +kernel
theorem dX12_mark_79 : decode cX12_mark 79 = .ok (.aload_n 0, 1) := by decide +kernel
theorem dX12_mark_80 : decode cX12_mark 80 = .ok (.getfield 120, 3) := by decide +kernel
theorem dX12_mark_83 : decode cX12_mark 83 = .ok (.bipush 46, 2) := by decide +kernel
theorem dX12_mark_85 : decode cX12_mark 85 = .ok (.iload_n 1, 1) := by decide +kernel
theorem dX12_mark_86 : decode cX12_mark 86 = .ok (.imul, 1) := by decide +kernel
theorem dX12_mark_87 : decode cX12_mark 87 = .ok (.aload_n 0, 1) := by decide +kernel
theorem dX12_mark_88 : decode cX12_mark 88 = .ok (.getfield 111, 3) := by decide +kernel
theorem dX12_mark_91 : decode cX12_mark 91 = .ok (.iconst 0, 1) := by decide +kernel
theorem dX12_mark_92 : decode cX12_mark 92 = .ok (.invokestatic 409, 3) := by decide +kernel
theorem dX12_mark_95 : decode cX12_mark 95 = .ok (.aload_n 0, 1) := by decide +kernel
theorem dX12_mark_96 : decode cX12_mark 96 = .ok (.iconst 0, 1) := by decide +kernel
theorem dX12_mark_97 : decode cX12_mark 97 = .ok (.putfield 346, 3) := by decide +kernel
theorem dX12_mark_100 : decode cX12_mark 100 = .ok (.goto 19, 3) := by decide +kernel
theorem dX12_mark_103 : decode cX12_mark 103 = .ok (.aload_n 0, 1) := by decide +kernel
theorem dX12_mark_104 : decode cX12_mark 104 = .ok (.getfield 111, 3) := by decide +kernel
theorem dX12_mark_107 : decode cX12_mark 107 = .ok (.iconst 0, 1) := by decide +kernel
theorem dX12_mark_108 : decode cX12_mark 108 = .ok (.aload_n 0, 1) := by decide +kernel
theorem dX12_mark_109 : decode cX12_mark 109 = .ok (.getfield 120, 3) := by decide +kernel
theorem dX12_mark_112 : decode cX12_mark 112 = .ok (.bipush 46, 2) := by decide +kernel
theorem dX12_mark_114 : decode cX12_mark 114 = .ok (.iload_n 1, 1) := by decide +kernel
theorem dX12_mark_115 : decode cX12_mark 115 = .ok (.imul, 1) := by decide +kernel
theorem dX12_mark_116 : decode cX12_mark 116 = .ok (.invokestatic 409, 3) := by decide +kernel
theorem dX12_mark_119 : decode cX12_mark 119 = .ok (.iconst 1, 1) := by decide +kernel
theorem dX12_mark_120 : decode cX12_mark 120 = .ok (.ireturn, 1) := by decide +kernel
theorem fl_RX12_120 : FL RX12 120 12 49 := ⟨inG (i := 1449) (by decide +kernel) (by decide +kernel), by decide, by decide⟩
theorem go_12_49 (σ : St) (i : Nat) : go σ 12 i 49 = (1349, i) := rfl
theorem lk_RX12_497 : Cond.methodLink RX12 497 yX12_laysSeen ∈ tG := inG (i := 2051) (by decide +kernel) (by decide +kernel)
theorem m_X12_laysSeen : MV Y_X12_laysSeen 2 12 := ⟨⟨inG (i := 2054) (by decide +kernel) (by decide +kernel), inG (i := 110) (by decide +kernel) (by decide +kernel), by decide, by decide, by decide, by decide +kernel⟩, inG (i := 2053) (by decide +kernel) (by decide +kernel), inG (i := 95) (by decide +kernel) (by decide +kernel), by decide⟩
def P_X12_mark_J59  (x1 : Int) (x2 : Int) (x3 : Int) (y0 : Int)  (Q : Int → St → Prop) (σ : St) : Prop :=
  P_X12_laysLines x3 y0 σ (fun σ_3 => P_X12_laysSeen x3 y0 σ_3 (fun σ_4 => (if x2 = 0 then P_X12_copies 1346 0 0 1349 0 (wi (46 * x1)) σ_4 (fun σ_5 => Q 1 σ_5) else P_X12_copies 1349 0 (wi (46 * x1)) 1346 0 0 σ_4 (fun σ_6 => Q 1 (up σ_6 12 0 52 0)))))
set_option maxRecDepth 20000 in
set_option maxHeartbeats 2000000 in
theorem e_P_X12_mark_J59  {x1 : Int} {x2 : Int} {x3 : Int} {y0 : Int}  {Q : Int → St → Prop} {σ : St}   (h : P_X12_mark_J59 x1 x2 x3 y0 Q σ) : E Y_X12_mark 1 0 0 (QI Q) ww 0 0 59 [some (vR 12 0), some (vI x1), some (vI x2), some (vI x3), none] [vI y0] σ := by
  unfold P_X12_mark_J59 at h
  refine E_istore (ls' := [some (vR 12 0), some (vI x1), some (vI x2), some (vI x3), some (vI y0)]) dX12_mark_59 (by decide) rfl ?_
  refine E_aload_n dX12_mark_61 rfl rfl ?_
  refine E_iload_n dX12_mark_62 rfl rfl ?_
  refine E_iload dX12_mark_63 rfl ?_
  refine E_callV (Y' := Y_X12_laysLines) (as := [vI x3, vI y0]) (st := []) dX12_mark_65 lk_RX12_352 m_X12_laysLines (by decide) (Nat.le_refl _) (Nat.le_refl _) rfl rfl (Nat.le_of_ble_eq_true rfl) (s_X12_laysLines h) (fun r0 B0 σ_3 h => ?_)
  obtain ⟨rfl, rfl, h⟩ := h
  refine E_aload_n dX12_mark_68 rfl rfl ?_
  refine E_iload_n dX12_mark_69 rfl rfl ?_
  refine E_iload dX12_mark_70 rfl ?_
  refine E_callV (Y' := Y_X12_laysSeen) (as := [vI x3, vI y0]) (st := []) dX12_mark_72 lk_RX12_497 m_X12_laysSeen (by decide) (Nat.le_refl _) (Nat.le_refl _) rfl rfl (Nat.le_of_ble_eq_true rfl) (s_X12_laysSeen h) (fun r0 B0 σ_4 h => ?_)
  obtain ⟨rfl, rfl, h⟩ := h
  refine E_iload_n dX12_mark_75 rfl rfl ?_
  refine E_if_eq (tgt := 103) dX12_mark_76 (by decide) (fun hc => ?_) (fun hc => ?_)
  · have h := Eq.mp (if_pos hc) h
    refine E_aload_n dX12_mark_103 rfl rfl ?_
    refine E_getr (i := 0) dX12_mark_104 fl_RX12_111 rfl rfl (go_12_46 _ _) ?_
    refine E_ic dX12_mark_107 rfl ?_
    refine E_aload_n dX12_mark_108 rfl rfl ?_
    refine E_getr (i := 0) dX12_mark_109 fl_RX12_120 rfl rfl (go_12_49 _ _) ?_
    refine E_bp dX12_mark_112 rfl ?_
    refine E_iload_n dX12_mark_114 rfl rfl ?_
    refine E_imul dX12_mark_115 ?_
    refine E_callS (Y' := Y_X12_copies) (as := [vR 1346 0, vI 0, vR 1349 0, vI (wi (46 * x1))]) (st := []) dX12_mark_116 lk_RX12_409 m_X12_copies (by decide) (Nat.le_refl _) (Nat.le_refl _) rfl rfl (Nat.le_of_ble_eq_true rfl) (s_X12_copies h) (fun r0 B0 σ_5 h => ?_)
    obtain ⟨rfl, rfl, h⟩ := h
    refine E_ic dX12_mark_119 rfl ?_
    exact E_zret dX12_mark_120 rfl (by decide) ⟨_, rfl, rfl, h⟩
  · have h := Eq.mp (if_neg hc) h
    refine E_aload_n dX12_mark_79 rfl rfl ?_
    refine E_getr (i := 0) dX12_mark_80 fl_RX12_120 rfl rfl (go_12_49 _ _) ?_
    refine E_bp dX12_mark_83 rfl ?_
    refine E_iload_n dX12_mark_85 rfl rfl ?_
    refine E_imul dX12_mark_86 ?_
    refine E_aload_n dX12_mark_87 rfl rfl ?_
    refine E_getr (i := 0) dX12_mark_88 fl_RX12_111 rfl rfl (go_12_46 _ _) ?_
    refine E_ic dX12_mark_91 rfl ?_
    refine E_callS (Y' := Y_X12_copies) (as := [vR 1349 0, vI (wi (46 * x1)), vR 1346 0, vI 0]) (st := []) dX12_mark_92 lk_RX12_409 m_X12_copies (by decide) (Nat.le_refl _) (Nat.le_refl _) rfl rfl (Nat.le_of_ble_eq_true rfl) (s_X12_copies h) (fun r0 B0 σ_6 h => ?_)
    obtain ⟨rfl, rfl, h⟩ := h
    refine E_aload_n dX12_mark_95 rfl rfl ?_
    refine E_ic dX12_mark_96 rfl ?_
    refine E_puti dX12_mark_97 fl_RX12_346 rfl rfl rfl ?_
    refine E_goto (tgt := 119) dX12_mark_100 (by decide) ?_
    refine E_ic dX12_mark_119 rfl ?_
    exact E_zret dX12_mark_120 rfl (by decide) ⟨_, rfl, rfl, h⟩
def P_X12_mark_J47  (x1 : Int) (x2 : Int) (y0 : Int)  (Q : Int → St → Prop) (σ : St) : Prop :=
  (if x2 = 0 then P_X12_mark_J59 x1 x2 y0 (wi (1 + x1)) Q σ else P_X12_mark_J59 x1 x2 y0 0 Q σ)
set_option maxRecDepth 20000 in
set_option maxHeartbeats 2000000 in
theorem e_P_X12_mark_J47  {x1 : Int} {x2 : Int} {y0 : Int}  {Q : Int → St → Prop} {σ : St}   (h : P_X12_mark_J47 x1 x2 y0 Q σ) : E Y_X12_mark 1 0 0 (QI Q) ww 0 0 47 [some (vR 12 0), some (vI x1), some (vI x2), none, none] [vI y0] σ := by
  unfold P_X12_mark_J47 at h
  refine E_istore_n (ls' := [some (vR 12 0), some (vI x1), some (vI x2), some (vI y0), none]) dX12_mark_47 rfl (by decide) rfl ?_
  refine E_iload_n dX12_mark_48 rfl rfl ?_
  refine E_if_eq (tgt := 56) dX12_mark_49 (by decide) (fun hc => ?_) (fun hc => ?_)
  · have h := Eq.mp (if_pos hc) h
    refine E_ic dX12_mark_56 rfl ?_
    refine E_iload_n dX12_mark_57 rfl rfl ?_
    refine E_iadd dX12_mark_58 ?_
    exact e_P_X12_mark_J59 h
  · have h := Eq.mp (if_neg hc) h
    refine E_ic dX12_mark_52 rfl ?_
    refine E_goto (tgt := 59) dX12_mark_53 (by decide) ?_
    exact e_P_X12_mark_J59 h
def P_X12_mark_J29  (x1 : Int) (x2 : Int)  (Q : Int → St → Prop) (σ : St) : Prop :=
  0 ≤ x1 ∧ x1 < 4 ∧ (if x2 = 0 then P_X12_mark_J47 x1 x2 0 Q (up σ 1351 0 x1 1) else P_X12_mark_J47 x1 x2 (wi (1 + x1)) Q (up σ 1351 0 x1 1))
set_option maxRecDepth 20000 in
set_option maxHeartbeats 2000000 in
theorem e_P_X12_mark_J29  {x1 : Int} {x2 : Int}  {Q : Int → St → Prop} {σ : St}   (h : P_X12_mark_J29 x1 x2 Q σ) : E Y_X12_mark 1 0 0 (QI Q) ww 0 0 29 [some (vR 12 0), some (vI x1), some (vI x2), none, none] [] σ := by
  unfold P_X12_mark_J29 at h
  refine E_aload_n dX12_mark_29 rfl rfl ?_
  refine E_getr (i := 0) dX12_mark_30 fl_RX12_126 rfl rfl (go_12_51 _ _) ?_
  refine E_iload_n dX12_mark_33 rfl rfl ?_
  refine E_ic dX12_mark_34 rfl ?_
  obtain ⟨hg0, hg1, h⟩ := h
  refine E_zast dX12_mark_35 sh_1351 hg0 hg1 (by decide) ?_
  refine E_iload_n dX12_mark_36 rfl rfl ?_
  refine E_if_eq (tgt := 46) dX12_mark_37 (by decide) (fun hc => ?_) (fun hc => ?_)
  · have h := Eq.mp (if_pos hc) h
    refine E_ic dX12_mark_46 rfl ?_
    exact e_P_X12_mark_J47 h
  · have h := Eq.mp (if_neg hc) h
    refine E_ic dX12_mark_40 rfl ?_
    refine E_iload_n dX12_mark_41 rfl rfl ?_
    refine E_iadd dX12_mark_42 ?_
    refine E_goto (tgt := 47) dX12_mark_43 (by decide) ?_
    exact e_P_X12_mark_J47 h
def P_X12_mark  (x1 : Int) (x2 : Int) (σ : St) (Q : Int → St → Prop) : Prop :=
  P_X12_within x1 0 3 (up σ 12 0 0 0) (fun r_2 σ_1 => (if r_2 = 0 then Q 0 σ_1 else (if x2 = 0 then P_X12_mark_J29 x1 x2 Q σ_1 else 0 ≤ x1 ∧ x1 < 4 ∧ (if (σ_1 1351 0 x1) = 0 then Q 0 σ_1 else P_X12_mark_J29 x1 x2 Q σ_1))))
set_option maxRecDepth 20000 in
set_option maxHeartbeats 2000000 in
theorem s_X12_mark   {x1 : Int} {x2 : Int} {σ : St} {Q : Int → St → Prop} (h : P_X12_mark x1 x2 σ Q) : Cn Y_X12_mark 1 0 0 ww σ [vR 12 0, vI x1, vI x2] (QI Q) := by
  refine Cn_of [some (vR 12 0), some (vI x1), some (vI x2), none, none] (by decide) (Nat.le_of_ble_eq_true rfl) rfl ?_
  unfold P_X12_mark at h
  refine E_aload_n dX12_mark_0 rfl rfl ?_
  refine E_ic dX12_mark_1 rfl ?_
  refine E_puti dX12_mark_2 fl_RX12_141 rfl rfl rfl ?_
  refine E_iload_n dX12_mark_5 rfl rfl ?_
  refine E_ic dX12_mark_6 rfl ?_
  refine E_ic dX12_mark_7 rfl ?_
  refine E_callS (Y' := Y_X12_within) (as := [vI x1, vI 0, vI 3]) (st := []) dX12_mark_8 lk_RX12_264 m_X12_within (by decide) (Nat.le_refl _) (Nat.le_refl _) rfl rfl (Nat.le_of_ble_eq_true rfl) (s_X12_within h) (fun r0 B0 σ_1 h => ?_)
  obtain ⟨r_2, rfl, rfl, h⟩ := h
  refine E_if_eq (tgt := 27) dX12_mark_11 (by decide) (fun hc => ?_) (fun hc => ?_)
  · have h := Eq.mp (if_pos hc) h
    refine E_ic dX12_mark_27 rfl ?_
    exact E_zret dX12_mark_28 rfl (by decide) ⟨_, rfl, rfl, h⟩
  · have h := Eq.mp (if_neg hc) h
    refine E_iload_n dX12_mark_14 rfl rfl ?_
    refine E_if_eq (tgt := 29) dX12_mark_15 (by decide) (fun hc => ?_) (fun hc => ?_)
    · have h := Eq.mp (if_pos hc) h
      exact e_P_X12_mark_J29 h
    · have h := Eq.mp (if_neg hc) h
      refine E_aload_n dX12_mark_18 rfl rfl ?_
      refine E_getr (i := 0) dX12_mark_19 fl_RX12_126 rfl rfl (go_12_51 _ _) ?_
      refine E_iload_n dX12_mark_22 rfl rfl ?_
      obtain ⟨hg0, hg1, h⟩ := h
      refine E_zald dX12_mark_23 sh_1351 hg0 hg1 ?_
      refine E_if_ne (tgt := 29) dX12_mark_24 (by decide) (fun hc => ?_) (fun hc => ?_)
      · have h := Eq.mp (if_neg hc) h
        exact e_P_X12_mark_J29 h
      · have h := Eq.mp (if_pos hc) h
        refine E_ic dX12_mark_27 rfl ?_
        exact E_zret dX12_mark_28 rfl (by decide) ⟨_, rfl, rfl, h⟩
abbrev Y_X12_count : My := (yX12_count, cX12_count, 2, some .int)
theorem dX12_count_0 : decode cX12_count 0 = .ok (.aload_n 0, 1) := by decide +kernel
theorem dX12_count_1 : decode cX12_count 1 = .ok (.iconst 0, 1) := by decide +kernel
theorem dX12_count_2 : decode cX12_count 2 = .ok (.putfield 141, 3) := by decide +kernel
theorem dX12_count_5 : decode cX12_count 5 = .ok (.iload_n 1, 1) := by decide +kernel
theorem dX12_count_6 : decode cX12_count 6 = .ok (.iconst 0, 1) := by decide +kernel
theorem dX12_count_7 : decode cX12_count 7 = .ok (.bipush 13, 2) := by decide +kernel
theorem dX12_count_9 : decode cX12_count 9 = .ok (.invokestatic 264, 3) := by decide +kernel
theorem dX12_count_12 : decode cX12_count 12 = .ok (.ifCond .ne 5, 3) := by decide +kernel
theorem dX12_count_15 : decode cX12_count 15 = .ok (.iconst (-1), 1) := by decide +kernel
theorem dX12_count_16 : decode cX12_count 16 = .ok (.ireturn, 1) := by decide +kernel
theorem dX12_count_17 : decode cX12_count 17 = .ok (.iload_n 1, 1) := by decide +kernel
theorem dX12_count_18 : decode cX12_count 18 = .ok (.iconst 2, 1) := by decide +kernel
theorem dX12_count_19 : decode cX12_count 19 = .ok (.if_icmp .ge 10, 3) := by decide +kernel
theorem dX12_count_22 : decode cX12_count 22 = .ok (.aload_n 0, 1) := by decide +kernel
theorem dX12_count_23 : decode cX12_count 23 = .ok (.getfield 13, 3) := by decide +kernel
theorem dX12_count_26 : decode cX12_count 26 = .ok (.iload_n 1, 1) := by decide +kernel
theorem dX12_count_27 : decode cX12_count 27 = .ok (.iaload, 1) := by decide +kernel
theorem dX12_count_28 : decode cX12_count 28 = .ok (.ireturn, 1) := by decide +kernel
theorem dX12_count_29 : decode cX12_count 29 = .ok (.iload_n 1, 1) := by decide +kernel
theorem dX12_count_30 : decode cX12_count 30 = .ok (.iconst 5, 1) := by decide +kernel
theorem dX12_count_31 : decode cX12_count 31 = .ok (.if_icmp .ge 42, 3) := by decide +kernel
theorem dX12_count_34 : decode cX12_count 34 = .ok (.iload_n 1, 1) := by decide +kernel
theorem dX12_count_35 : decode cX12_count 35 = .ok (.iconst 2, 1) := by decide +kernel
theorem dX12_count_36 : decode cX12_count 36 = .ok (.if_icmp .ne 12, 3) := by decide +kernel
theorem dX12_count_39 : decode cX12_count 39 = .ok (.aload_n 0, 1) := by decide +kernel
theorem dX12_count_40 : decode cX12_count 40 = .ok (.getfield 111, 3) := by decide +kernel
theorem dX12_count_43 : decode cX12_count 43 = .ok (.iconst 0, 1) := by decide +kernel
theorem dX12_count_44 : decode cX12_count 44 = .ok (.iaload, 1) := by decide +kernel
theorem dX12_count_45 : decode cX12_count 45 = .ok (.goto 27, 3) := by decide +kernel
theorem dX12_count_48 : decode cX12_count 48 = .ok (.iload_n 1, 1) := by decide +kernel
theorem dX12_count_49 : decode cX12_count 49 = .ok (.iconst 3, 1) := by decide +kernel
theorem dX12_count_50 : decode cX12_count 50 = .ok (.if_icmp .ne 12, 3) := by decide +kernel
theorem dX12_count_53 : decode cX12_count 53 = .ok (.aload_n 0, 1) := by decide +kernel
theorem dX12_count_54 : decode cX12_count 54 = .ok (.getfield 111, 3) := by decide +kernel
theorem dX12_count_57 : decode cX12_count 57 = .ok (.iconst 1, 1) := by decide +kernel
theorem dX12_count_58 : decode cX12_count 58 = .ok (.iaload, 1) := by decide +kernel
theorem dX12_count_59 : decode cX12_count 59 = .ok (.goto 13, 3) := by decide +kernel
theorem dX12_count_62 : decode cX12_count 62 = .ok (.aload_n 0, 1) := by decide +kernel
theorem dX12_count_63 : decode cX12_count 63 = .ok (.aload_n 0, 1) := by decide +kernel
theorem dX12_count_64 : decode cX12_count 64 = .ok (.getfield 111, 3) := by decide +kernel
theorem dX12_count_67 : decode cX12_count 67 = .ok (.iconst 0, 1) := by decide +kernel
theorem dX12_count_68 : decode cX12_count 68 = .ok (.iaload, 1) := by decide +kernel
theorem dX12_count_69 : decode cX12_count 69 = .ok (.invokevirtual 397, 3) := by decide +kernel
theorem dX12_count_72 : decode cX12_count 72 = .ok (.ireturn, 1) := by decide +kernel
theorem dX12_count_73 : decode cX12_count 73 = .ok (.iload_n 1, 1) := by decide +kernel
theorem dX12_count_74 : decode cX12_count 74 = .ok (.bipush 8, 2) := by decide +kernel
theorem dX12_count_76 : decode cX12_count 76 = .ok (.if_icmp .ge 33, 3) := by decide +kernel
theorem dX12_count_79 : decode cX12_count 79 = .ok (.iload_n 1, 1) := by decide +kernel
theorem dX12_count_80 : decode cX12_count 80 = .ok (.iconst 5, 1) := by decide +kernel
theorem dX12_count_81 : decode cX12_count 81 = .ok (.if_icmp .ne 12, 3) := by decide +kernel
theorem dX12_count_84 : decode cX12_count 84 = .ok (.aload_n 0, 1) := by decide +kernel
theorem dX12_count_85 : decode cX12_count 85 = .ok (.getfield 111, 3) := by decide +kernel
theorem dX12_count_88 : decode cX12_count 88 = .ok (.iconst 3, 1) := by decide +kernel
theorem dX12_count_89 : decode cX12_count 89 = .ok (.iaload, 1) := by decide +kernel
theorem dX12_count_90 : decode cX12_count 90 = .ok (.goto 18, 3) := by decide +kernel
theorem dX12_count_93 : decode cX12_count 93 = .ok (.aload_n 0, 1) := by decide +kernel
theorem dX12_count_94 : decode cX12_count 94 = .ok (.iload_n 1, 1) := by decide +kernel
theorem dX12_count_95 : decode cX12_count 95 = .ok (.bipush 6, 2) := by decide +kernel
theorem dX12_count_97 : decode cX12_count 97 = .ok (.if_icmp .ne 7, 3) := by decide +kernel
theorem dX12_count_100 : decode cX12_count 100 = .ok (.iconst 1, 1) := by decide +kernel
theorem dX12_count_101 : decode cX12_count 101 = .ok (.goto 4, 3) := by decide +kernel
theorem dX12_count_104 : decode cX12_count 104 = .ok (.iconst 3, 1) := by decide +kernel
theorem dX12_count_105 : decode cX12_count 105 = .ok (.invokevirtual 500, 3) := by decide +kernel
theorem dX12_count_108 : decode cX12_count 108 = .ok (.ireturn, 1) := by decide +kernel
theorem dX12_count_109 : decode cX12_count 109 = .ok (.iload_n 1, 1) := by decide +kernel
theorem dX12_count_110 : decode cX12_count 110 = .ok (.bipush 10, 2) := by decide +kernel
theorem dX12_count_112 : decode cX12_count 112 = .ok (.if_icmp .ge 23, 3) := by decide +kernel
theorem dX12_count_115 : decode cX12_count 115 = .ok (.iload_n 1, 1) := by decide +kernel
theorem dX12_count_116 : decode cX12_count 116 = .ok (.bipush 8, 2) := by decide +kernel
theorem dX12_count_118 : decode cX12_count 118 = .ok (.if_icmp .ne 10, 3) := by decide +kernel
theorem dX12_count_121 : decode cX12_count 121 = .ok (.aload_n 0, 1) := by decide +kernel
theorem dX12_count_122 : decode cX12_count 122 = .ok (.invokevirtual 431, 3) := by decide +kernel
theorem dX12_count_125 : decode cX12_count 125 = .ok (.goto 9, 3) := by decide +kernel
theorem dX12_count_128 : decode cX12_count 128 = .ok (.aload_n 0, 1) := by decide +kernel
theorem dX12_count_129 : decode cX12_count 129 = .ok (.getfield 13, 3) := by decide +kernel
theorem dX12_count_132 : decode cX12_count 132 = .ok (.iconst 2, 1) := by decide +kernel
theorem dX12_count_133 : decode cX12_count 133 = .ok (.iaload, 1) := by decide +kernel
theorem dX12_count_134 : decode cX12_count 134 = .ok (.ireturn, 1) := by decide +kernel
theorem dX12_count_135 : decode cX12_count 135 = .ok (.iload_n 1, 1) := by decide +kernel
theorem dX12_count_136 : decode cX12_count 136 = .ok (.bipush 12, 2) := by decide +kernel
theorem dX12_count_138 : decode cX12_count 138 = .ok (.if_icmp .ge 25, 3) := by decide +kernel
theorem dX12_count_141 : decode cX12_count 141 = .ok (.iload_n 1, 1) := by decide +kernel
theorem dX12_count_142 : decode cX12_count 142 = .ok (.bipush 10, 2) := by decide +kernel
theorem dX12_count_144 : decode cX12_count 144 = .ok (.if_icmp .ne 12, 3) := by decide +kernel
theorem dX12_count_147 : decode cX12_count 147 = .ok (.aload_n 0, 1) := by decide +kernel
theorem dX12_count_148 : decode cX12_count 148 = .ok (.getfield 87, 3) := by decide +kernel
theorem dX12_count_151 : decode cX12_count 151 = .ok (.iconst 0, 1) := by decide +kernel
theorem dX12_count_152 : decode cX12_count 152 = .ok (.iaload, 1) := by decide +kernel
theorem dX12_count_153 : decode cX12_count 153 = .ok (.goto 9, 3) := by decide +kernel
theorem dX12_count_156 : decode cX12_count 156 = .ok (.aload_n 0, 1) := by decide +kernel
theorem dX12_count_157 : decode cX12_count 157 = .ok (.getfield 99, 3) := by decide +kernel
theorem dX12_count_160 : decode cX12_count 160 = .ok (.iconst 0, 1) := by decide +kernel
theorem dX12_count_161 : decode cX12_count 161 = .ok (.iaload, 1) := by decide +kernel
theorem dX12_count_162 : decode cX12_count 162 = .ok (.ireturn, 1) := by decide +kernel
theorem dX12_count_163 : decode cX12_count 163 = .ok (.iload_n 1, 1) := by decide +kernel
theorem dX12_count_164 : decode cX12_count 164 = .ok (.bipush 12, 2) := by decide +kernel
theorem dX12_count_166 : decode cX12_count 166 = .ok (.if_icmp .ne 10, 3) := by decide +kernel
theorem dX12_count_169 : decode cX12_count 169 = .ok (.aload_n 0, 1) := by decide +kernel
theorem dX12_count_170 : decode cX12_count 170 = .ok (.getfield 346, 3) := by decide +kernel
theorem dX12_count_173 : decode cX12_count 173 = .ok (.goto 7, 3) := by decide +kernel
theorem dX12_count_176 : decode cX12_count 176 = .ok (.aload_n 0, 1) := by decide +kernel
theorem dX12_count_177 : decode cX12_count 177 = .ok (.getfield 147, 3) := by decide +kernel
theorem dX12_count_180 : decode cX12_count 180 = .ok (.ireturn, 1) := by decide +kernel
theorem lk_RX12_500 : Cond.methodLink RX12 500 yX12_areSo ∈ tG := inG (i := 2059) (by decide +kernel) (by decide +kernel)
theorem m_X12_areSo : MV Y_X12_areSo 1 12 := ⟨⟨inG (i := 2062) (by decide +kernel) (by decide +kernel), inG (i := 110) (by decide +kernel) (by decide +kernel), by decide, by decide, by decide, by decide +kernel⟩, inG (i := 2061) (by decide +kernel) (by decide +kernel), inG (i := 96) (by decide +kernel) (by decide +kernel), by decide⟩
def P_X12_count_J105  (y0 : Int)  (Q : Int → St → Prop) (σ : St) : Prop :=
  P_X12_areSo y0 σ (fun r_6 σ_5 => Q r_6 σ_5)
set_option maxRecDepth 20000 in
set_option maxHeartbeats 2000000 in
theorem e_P_X12_count_J105  {y0 : Int}  {Q : Int → St → Prop} {σ : St}   (h : P_X12_count_J105 y0 Q σ) : E Y_X12_count 2 0 0 (QI Q) ww 0 0 105 [none, none] [vI y0, vR 12 0] σ := by
  unfold P_X12_count_J105 at h
  refine E_callV (Y' := Y_X12_areSo) (as := [vI y0]) (st := []) dX12_count_105 lk_RX12_500 m_X12_areSo (by decide) (Nat.le_refl _) (Nat.le_refl _) rfl rfl (Nat.le_of_ble_eq_true rfl) (s_X12_areSo h) (fun r0 B0 σ_5 h => ?_)
  obtain ⟨r_6, rfl, rfl, h⟩ := h
  exact E_iret dX12_count_108 rfl ⟨_, rfl, rfl, h⟩
def P_X12_count  (x1 : Int) (σ : St) (Q : Int → St → Prop) : Prop :=
  P_X12_within x1 0 13 (up σ 12 0 0 0) (fun r_2 σ_1 => (if r_2 = 0 then Q (-1) σ_1 else (if 2 ≤ x1 then (if 5 ≤ x1 then (if 8 ≤ x1 then (if 10 ≤ x1 then (if 12 ≤ x1 then (if x1 = 12 then Q (σ_1 12 0 52) σ_1 else Q (σ_1 12 0 1) σ_1) else (if x1 = 10 then Q (σ_1 1338 0 0) σ_1 else Q (σ_1 1342 0 0) σ_1)) else (if x1 = 8 then P_X12_astrayNow σ_1 (fun r_4 σ_3 => Q r_4 σ_3) else Q (σ_1 1310 0 2) σ_1)) else (if x1 = 5 then Q (σ_1 1346 0 3) σ_1 else (if x1 = 6 then P_X12_count_J105 1 Q σ_1 else P_X12_count_J105 3 Q σ_1))) else (if x1 = 2 then Q (σ_1 1346 0 0) σ_1 else (if x1 = 3 then Q (σ_1 1346 0 1) σ_1 else P_X12_dampOf (σ_1 1346 0 0) σ_1 (fun r_8 σ_7 => Q r_8 σ_7)))) else 0 ≤ x1 ∧ x1 < 8 ∧ Q (σ_1 1310 0 x1) σ_1)))
set_option maxRecDepth 20000 in
set_option maxHeartbeats 2000000 in
theorem s_X12_count   {x1 : Int} {σ : St} {Q : Int → St → Prop} (h : P_X12_count x1 σ Q) : Cn Y_X12_count 2 0 0 ww σ [vR 12 0, vI x1] (QI Q) := by
  refine Cn_of [some (vR 12 0), some (vI x1)] (by decide) (Nat.le_of_ble_eq_true rfl) rfl ?_
  unfold P_X12_count at h
  refine E_aload_n dX12_count_0 rfl rfl ?_
  refine E_ic dX12_count_1 rfl ?_
  refine E_puti dX12_count_2 fl_RX12_141 rfl rfl rfl ?_
  refine E_iload_n dX12_count_5 rfl rfl ?_
  refine E_ic dX12_count_6 rfl ?_
  refine E_bp dX12_count_7 rfl ?_
  refine E_callS (Y' := Y_X12_within) (as := [vI x1, vI 0, vI 13]) (st := []) dX12_count_9 lk_RX12_264 m_X12_within (by decide) (Nat.le_refl _) (Nat.le_refl _) rfl rfl (Nat.le_of_ble_eq_true rfl) (s_X12_within h) (fun r0 B0 σ_1 h => ?_)
  obtain ⟨r_2, rfl, rfl, h⟩ := h
  refine E_if_ne (tgt := 17) dX12_count_12 (by decide) (fun hc => ?_) (fun hc => ?_)
  · have h := Eq.mp (if_neg hc) h
    refine E_iload_n dX12_count_17 rfl rfl ?_
    refine E_ic dX12_count_18 rfl ?_
    refine E_icmp_ge (tgt := 29) dX12_count_19 (by decide) (fun hc => ?_) (fun hc => ?_)
    · have h := Eq.mp (if_pos hc) h
      refine E_iload_n dX12_count_29 rfl rfl ?_
      refine E_ic dX12_count_30 rfl ?_
      refine E_icmp_ge (tgt := 73) dX12_count_31 (by decide) (fun hc => ?_) (fun hc => ?_)
      · have h := Eq.mp (if_pos hc) h
        refine E_iload_n dX12_count_73 rfl rfl ?_
        refine E_bp dX12_count_74 rfl ?_
        refine E_icmp_ge (tgt := 109) dX12_count_76 (by decide) (fun hc => ?_) (fun hc => ?_)
        · have h := Eq.mp (if_pos hc) h
          refine E_iload_n dX12_count_109 rfl rfl ?_
          refine E_bp dX12_count_110 rfl ?_
          refine E_icmp_ge (tgt := 135) dX12_count_112 (by decide) (fun hc => ?_) (fun hc => ?_)
          · have h := Eq.mp (if_pos hc) h
            refine E_iload_n dX12_count_135 rfl rfl ?_
            refine E_bp dX12_count_136 rfl ?_
            refine E_icmp_ge (tgt := 163) dX12_count_138 (by decide) (fun hc => ?_) (fun hc => ?_)
            · have h := Eq.mp (if_pos hc) h
              refine E_iload_n dX12_count_163 rfl rfl ?_
              refine E_bp dX12_count_164 rfl ?_
              refine E_icmp_ne (tgt := 176) dX12_count_166 (by decide) (fun hc => ?_) (fun hc => ?_)
              · have h := Eq.mp (if_neg hc) h
                refine E_aload_n dX12_count_176 rfl rfl ?_
                refine E_geti (i := 0) dX12_count_177 fl_RX12_147 rfl ?_
                exact E_iret dX12_count_180 rfl ⟨_, rfl, rfl, h⟩
              · have h := Eq.mp (if_pos hc) h
                refine E_aload_n dX12_count_169 rfl rfl ?_
                refine E_geti (i := 0) dX12_count_170 fl_RX12_346 rfl ?_
                refine E_goto (tgt := 180) dX12_count_173 (by decide) ?_
                exact E_iret dX12_count_180 rfl ⟨_, rfl, rfl, h⟩
            · have h := Eq.mp (if_neg hc) h
              refine E_iload_n dX12_count_141 rfl rfl ?_
              refine E_bp dX12_count_142 rfl ?_
              refine E_icmp_ne (tgt := 156) dX12_count_144 (by decide) (fun hc => ?_) (fun hc => ?_)
              · have h := Eq.mp (if_neg hc) h
                refine E_aload_n dX12_count_156 rfl rfl ?_
                refine E_getr (i := 0) dX12_count_157 fl_RX12_99 rfl rfl (go_12_42 _ _) ?_
                refine E_ic dX12_count_160 rfl ?_
                refine E_iald dX12_count_161 sh_1342 (by decide) (by decide) ?_
                exact E_iret dX12_count_162 rfl ⟨_, rfl, rfl, h⟩
              · have h := Eq.mp (if_pos hc) h
                refine E_aload_n dX12_count_147 rfl rfl ?_
                refine E_getr (i := 0) dX12_count_148 fl_RX12_87 rfl rfl (go_12_38 _ _) ?_
                refine E_ic dX12_count_151 rfl ?_
                refine E_iald dX12_count_152 sh_1338 (by decide) (by decide) ?_
                refine E_goto (tgt := 162) dX12_count_153 (by decide) ?_
                exact E_iret dX12_count_162 rfl ⟨_, rfl, rfl, h⟩
          · have h := Eq.mp (if_neg hc) h
            refine E_iload_n dX12_count_115 rfl rfl ?_
            refine E_bp dX12_count_116 rfl ?_
            refine E_icmp_ne (tgt := 128) dX12_count_118 (by decide) (fun hc => ?_) (fun hc => ?_)
            · have h := Eq.mp (if_neg hc) h
              refine E_aload_n dX12_count_128 rfl rfl ?_
              refine E_getr (i := 0) dX12_count_129 fl_RX12_13 rfl rfl (go_12_10 _ _) ?_
              refine E_ic dX12_count_132 rfl ?_
              refine E_iald dX12_count_133 sh_1310 (by decide) (by decide) ?_
              exact E_iret dX12_count_134 rfl ⟨_, rfl, rfl, h⟩
            · have h := Eq.mp (if_pos hc) h
              refine E_aload_n dX12_count_121 rfl rfl ?_
              refine E_callV (Y' := Y_X12_astrayNow) (as := []) (st := []) dX12_count_122 lk_RX12_431 m_X12_astrayNow (by decide) (Nat.le_refl _) (Nat.le_refl _) rfl rfl (Nat.le_of_ble_eq_true rfl) (s_X12_astrayNow h) (fun r0 B0 σ_3 h => ?_)
              obtain ⟨r_4, rfl, rfl, h⟩ := h
              refine E_goto (tgt := 134) dX12_count_125 (by decide) ?_
              exact E_iret dX12_count_134 rfl ⟨_, rfl, rfl, h⟩
        · have h := Eq.mp (if_neg hc) h
          refine E_iload_n dX12_count_79 rfl rfl ?_
          refine E_ic dX12_count_80 rfl ?_
          refine E_icmp_ne (tgt := 93) dX12_count_81 (by decide) (fun hc => ?_) (fun hc => ?_)
          · have h := Eq.mp (if_neg hc) h
            refine E_aload_n dX12_count_93 rfl rfl ?_
            refine E_iload_n dX12_count_94 rfl rfl ?_
            refine E_bp dX12_count_95 rfl ?_
            refine E_icmp_ne (tgt := 104) dX12_count_97 (by decide) (fun hc => ?_) (fun hc => ?_)
            · have h := Eq.mp (if_neg hc) h
              refine E_ic dX12_count_104 rfl ?_
              refine E_wk2 [none, none] trivial ?_
              exact e_P_X12_count_J105 h
            · have h := Eq.mp (if_pos hc) h
              refine E_ic dX12_count_100 rfl ?_
              refine E_goto (tgt := 105) dX12_count_101 (by decide) ?_
              refine E_wk2 [none, none] trivial ?_
              exact e_P_X12_count_J105 h
          · have h := Eq.mp (if_pos hc) h
            refine E_aload_n dX12_count_84 rfl rfl ?_
            refine E_getr (i := 0) dX12_count_85 fl_RX12_111 rfl rfl (go_12_46 _ _) ?_
            refine E_ic dX12_count_88 rfl ?_
            refine E_iald dX12_count_89 sh_1346 (by decide) (by decide) ?_
            refine E_goto (tgt := 108) dX12_count_90 (by decide) ?_
            exact E_iret dX12_count_108 rfl ⟨_, rfl, rfl, h⟩
      · have h := Eq.mp (if_neg hc) h
        refine E_iload_n dX12_count_34 rfl rfl ?_
        refine E_ic dX12_count_35 rfl ?_
        refine E_icmp_ne (tgt := 48) dX12_count_36 (by decide) (fun hc => ?_) (fun hc => ?_)
        · have h := Eq.mp (if_neg hc) h
          refine E_iload_n dX12_count_48 rfl rfl ?_
          refine E_ic dX12_count_49 rfl ?_
          refine E_icmp_ne (tgt := 62) dX12_count_50 (by decide) (fun hc => ?_) (fun hc => ?_)
          · have h := Eq.mp (if_neg hc) h
            refine E_aload_n dX12_count_62 rfl rfl ?_
            refine E_aload_n dX12_count_63 rfl rfl ?_
            refine E_getr (i := 0) dX12_count_64 fl_RX12_111 rfl rfl (go_12_46 _ _) ?_
            refine E_ic dX12_count_67 rfl ?_
            refine E_iald dX12_count_68 sh_1346 (by decide) (by decide) ?_
            refine E_callV (Y' := Y_X12_dampOf) (as := [vI (σ_1 1346 0 0)]) (st := []) dX12_count_69 lk_RX12_397 m_X12_dampOf (by decide) (Nat.le_refl _) (Nat.le_refl _) rfl rfl (Nat.le_of_ble_eq_true rfl) (s_X12_dampOf h) (fun r0 B0 σ_7 h => ?_)
            obtain ⟨r_8, rfl, rfl, h⟩ := h
            exact E_iret dX12_count_72 rfl ⟨_, rfl, rfl, h⟩
          · have h := Eq.mp (if_pos hc) h
            refine E_aload_n dX12_count_53 rfl rfl ?_
            refine E_getr (i := 0) dX12_count_54 fl_RX12_111 rfl rfl (go_12_46 _ _) ?_
            refine E_ic dX12_count_57 rfl ?_
            refine E_iald dX12_count_58 sh_1346 (by decide) (by decide) ?_
            refine E_goto (tgt := 72) dX12_count_59 (by decide) ?_
            exact E_iret dX12_count_72 rfl ⟨_, rfl, rfl, h⟩
        · have h := Eq.mp (if_pos hc) h
          refine E_aload_n dX12_count_39 rfl rfl ?_
          refine E_getr (i := 0) dX12_count_40 fl_RX12_111 rfl rfl (go_12_46 _ _) ?_
          refine E_ic dX12_count_43 rfl ?_
          refine E_iald dX12_count_44 sh_1346 (by decide) (by decide) ?_
          refine E_goto (tgt := 72) dX12_count_45 (by decide) ?_
          exact E_iret dX12_count_72 rfl ⟨_, rfl, rfl, h⟩
    · have h := Eq.mp (if_neg hc) h
      refine E_aload_n dX12_count_22 rfl rfl ?_
      refine E_getr (i := 0) dX12_count_23 fl_RX12_13 rfl rfl (go_12_10 _ _) ?_
      refine E_iload_n dX12_count_26 rfl rfl ?_
      obtain ⟨hg0, hg1, h⟩ := h
      refine E_iald dX12_count_27 sh_1310 hg0 hg1 ?_
      exact E_iret dX12_count_28 rfl ⟨_, rfl, rfl, h⟩
  · have h := Eq.mp (if_pos hc) h
    refine E_ic dX12_count_15 rfl ?_
    exact E_iret dX12_count_16 rfl ⟨_, rfl, rfl, h⟩
abbrev Y_X0_fallAfter : My := (yX0_fallAfter, cX0_fallAfter, 3, some .int)
theorem dX0_fallAfter_0 : decode cX0_fallAfter 0 = .ok (.aload_n 0, 1) := by decide +kernel
theorem dX0_fallAfter_1 : decode cX0_fallAfter 1 = .ok (.getfield 16, 3) := by decide +kernel
theorem dX0_fallAfter_4 : decode cX0_fallAfter 4 = .ok (.aload_n 0, 1) := by decide +kernel
theorem dX0_fallAfter_5 : decode cX0_fallAfter 5 = .ok (.getfield 11, 3) := by decide +kernel
theorem dX0_fallAfter_8 : decode cX0_fallAfter 8 = .ok (.iload_n 1, 1) := by decide +kernel
theorem dX0_fallAfter_9 : decode cX0_fallAfter 9 = .ok (.aaload, 1) := by decide +kernel
theorem dX0_fallAfter_10 : decode cX0_fallAfter 10 = .ok (.iload_n 2, 1) := by decide +kernel
theorem dX0_fallAfter_11 : decode cX0_fallAfter 11 = .ok (.iaload, 1) := by decide +kernel
theorem dX0_fallAfter_12 : decode cX0_fallAfter 12 = .ok (.aload_n 0, 1) := by decide +kernel
theorem dX0_fallAfter_13 : decode cX0_fallAfter 13 = .ok (.getfield 20, 3) := by decide +kernel
theorem dX0_fallAfter_16 : decode cX0_fallAfter 16 = .ok (.getfield 50, 3) := by decide +kernel
theorem dX0_fallAfter_19 : decode cX0_fallAfter 19 = .ok (.invokevirtual 53, 3) := by decide +kernel
theorem dX0_fallAfter_22 : decode cX0_fallAfter 22 = .ok (.ireturn, 1) := by decide +kernel
theorem fl_RX0_11 : FL RX0 11 0 2 := ⟨inG (i := 410) (by decide +kernel) (by decide +kernel), by decide, by decide⟩
theorem fl_RX0_16 : FL RX0 16 0 0 := ⟨inG (i := 407) (by decide +kernel) (by decide +kernel), by decide, by decide⟩
theorem fl_RX0_20 : FL RX0 20 0 1 := ⟨inG (i := 409) (by decide +kernel) (by decide +kernel), by decide, by decide⟩
theorem fl_RX0_50 : FL RX0 50 9 1 := ⟨inG (i := 306) (by decide +kernel) (by decide +kernel), by decide, by decide⟩
theorem go_0_0 (σ : St) (i : Nat) : go σ 0 i 0 = (8, 0) := rfl
theorem go_0_1 (σ : St) (i : Nat) : go σ 0 i 1 = (9, 0) := rfl
theorem go_0_2 (σ : St) (i : Nat) : go σ 0 i 2 = (102, i) := rfl
theorem lk_RX0_53 : Cond.methodLink RX0 53 yX8_fall ∈ tG := inG (i := 1200) (by decide +kernel) (by decide +kernel)
theorem sh_102 : shp 102 = (6, 6) := rfl
theorem sh_152 : shp 152 = (0, 61) := rfl
def P_X0_fallAfter  (x1 : Int) (x2 : Int) (σ : St) (Q : Int → St → Prop) : Prop :=
  0 ≤ x1 ∧ x1 < 6 ∧ 0 ≤ x2 ∧ x2 < 61 ∧ P_X8_fall 0 (σ 152 x1.toNat x2) 1001 0 σ (fun r_2 σ_1 => Q r_2 σ_1)
set_option maxRecDepth 20000 in
set_option maxHeartbeats 2000000 in
theorem s_X0_fallAfter   {x1 : Int} {x2 : Int} {σ : St} {Q : Int → St → Prop} (h : P_X0_fallAfter x1 x2 σ Q) : Cn Y_X0_fallAfter 1 0 0 ww σ [vR 0 0, vI x1, vI x2] (QI Q) := by
  refine Cn_of [some (vR 0 0), some (vI x1), some (vI x2)] (by decide) (Nat.le_of_ble_eq_true rfl) rfl ?_
  unfold P_X0_fallAfter at h
  refine E_aload_n dX0_fallAfter_0 rfl rfl ?_
  refine E_getr (i := 0) dX0_fallAfter_1 fl_RX0_16 rfl rfl (go_0_0 _ _) ?_
  refine E_aload_n dX0_fallAfter_4 rfl rfl ?_
  refine E_getr (i := 0) dX0_fallAfter_5 fl_RX0_11 rfl rfl (go_0_2 _ _) ?_
  refine E_iload_n dX0_fallAfter_8 rfl rfl ?_
  obtain ⟨hg0, hg1, h⟩ := h
  refine E_aald dX0_fallAfter_9 sh_102 (by decide) (by decide) hg0 hg1 (wwA sh_102 hg0 hg1) rfl ?_
  refine E_iload_n dX0_fallAfter_10 rfl rfl ?_
  obtain ⟨hg0, hg1, h⟩ := h
  refine E_iald dX0_fallAfter_11 sh_152 hg0 hg1 ?_
  refine E_aload_n dX0_fallAfter_12 rfl rfl ?_
  refine E_getr (i := 0) dX0_fallAfter_13 fl_RX0_20 rfl rfl (go_0_1 _ _) ?_
  refine E_getr (i := 0) dX0_fallAfter_16 fl_RX0_50 rfl rfl (go_9_1 _ _) ?_
  refine E_callV (Y' := Y_X8_fall) (as := [vI (σ 152 x1.toNat x2), vR 1001 0]) (st := []) dX0_fallAfter_19 lk_RX0_53 m_X8_fall (by decide) (Nat.le_refl _) (Nat.le_refl _) rfl rfl (Nat.le_of_ble_eq_true rfl) (s_X8_fall h) (fun r0 B0 σ_1 h => ?_)
  obtain ⟨r_2, rfl, rfl, h⟩ := h
  exact E_iret dX0_fallAfter_22 rfl ⟨_, rfl, rfl, h⟩
abbrev Y_X0_fallersAfter : My := (yX0_fallersAfter, cX0_fallersAfter, 6, some .int)
theorem dX0_fallersAfter_0 : decode cX0_fallersAfter 0 = .ok (.iconst 0, 1) := by decide +kernel
theorem dX0_fallersAfter_1 : decode cX0_fallersAfter 1 = .ok (.istore 4, 2) := by decide +kernel
theorem dX0_fallersAfter_3 : decode cX0_fallersAfter 3 = .ok (.iconst 0, 1) := by decide +kernel
theorem dX0_fallersAfter_4 : decode cX0_fallersAfter 4 = .ok (.istore 5, 2) := by decide +kernel
theorem dX0_fallersAfter_6 : decode cX0_fallersAfter 6 = .ok (.iload 5, 2) := by decide +kernel
theorem dX0_fallersAfter_8 : decode cX0_fallersAfter 8 = .ok (.aload_n 0, 1) := by decide +kernel
theorem dX0_fallersAfter_9 : decode cX0_fallersAfter 9 = .ok (.getfield 16, 3) := by decide +kernel
theorem dX0_fallersAfter_12 : decode cX0_fallersAfter 12 = .ok (.getfield 85, 3) := by decide +kernel
theorem dX0_fallersAfter_15 : decode cX0_fallersAfter 15 = .ok (.if_icmp .ge 33, 3) := by decide +kernel
theorem dX0_fallersAfter_18 : decode cX0_fallersAfter 18 = .ok (.iload_n 1, 1) := by decide +kernel
theorem dX0_fallersAfter_19 : decode cX0_fallersAfter 19 = .ok (.iload 5, 2) := by decide +kernel
theorem dX0_fallersAfter_21 : decode cX0_fallersAfter 21 = .ok (.ishr, 1) := by decide +kernel
theorem dX0_fallersAfter_22 : decode cX0_fallersAfter 22 = .ok (.iconst 1, 1) := by decide +kernel
theorem dX0_fallersAfter_23 : decode cX0_fallersAfter 23 = .ok (.iand, 1) := by decide +kernel
theorem dX0_fallersAfter_24 : decode cX0_fallersAfter 24 = .ok (.iconst 1, 1) := by decide +kernel
theorem dX0_fallersAfter_25 : decode cX0_fallersAfter 25 = .ok (.if_icmp .ne 17, 3) := by decide +kernel
theorem dX0_fallersAfter_28 : decode cX0_fallersAfter 28 = .ok (.aload_n 0, 1) := by decide +kernel
theorem dX0_fallersAfter_29 : decode cX0_fallersAfter 29 = .ok (.iload 5, 2) := by decide +kernel
theorem dX0_fallersAfter_31 : decode cX0_fallersAfter 31 = .ok (.iload_n 2, 1) := by decide +kernel
theorem dX0_fallersAfter_32 : decode cX0_fallersAfter 32 = .ok (.invokevirtual 61, 3) := by decide +kernel
theorem dX0_fallersAfter_35 : decode cX0_fallersAfter 35 = .ok (.iload_n 3, 1) := by decide +kernel
theorem dX0_fallersAfter_36 : decode cX0_fallersAfter 36 = .ok (.if_icmp .ne 6, 3) := by decide +kernel
theorem dX0_fallersAfter_39 : decode cX0_fallersAfter 39 = .ok (.iinc 4 1, 3) := by decide +kernel
theorem dX0_fallersAfter_42 : decode cX0_fallersAfter 42 = .ok (.iinc 5 1, 3) := by decide +kernel
theorem dX0_fallersAfter_45 : decode cX0_fallersAfter 45 = .ok (.goto (-39), 3) := by decide +kernel
theorem dX0_fallersAfter_48 : decode cX0_fallersAfter 48 = .ok (.iload 4, 2) := by decide +kernel
theorem dX0_fallersAfter_50 : decode cX0_fallersAfter 50 = .ok (.ireturn, 1) := by decide +kernel
theorem fl_RX0_85 : FL RX0 85 8 11 := ⟨inG (i := 223) (by decide +kernel) (by decide +kernel), by decide, by decide⟩
theorem lk_RX0_61 : Cond.methodLink RX0 61 yX0_fallAfter ∈ tG := inG (i := 1196) (by decide +kernel) (by decide +kernel)
theorem m_X0_fallAfter : MV Y_X0_fallAfter 2 0 := ⟨⟨inG (i := 1199) (by decide +kernel) (by decide +kernel), inG (i := 107) (by decide +kernel) (by decide +kernel), by decide, by decide, by decide, by decide +kernel⟩, inG (i := 1197) (by decide +kernel) (by decide +kernel), inG (i := 1198) (by decide +kernel) (by decide +kernel), by decide⟩
def P_X0_fallersAfter_L6  (x1 : Int) (x2 : Int) (x3 : Int)  (Q : Int → St → Prop) : Nat → Int → Int → St → Prop
  | 0, _, _, _ => False
  | n + 1, x4, x5, σ => (if (σ 8 0 11) ≤ x5 then Q x4 σ else (if (bA (bR x1 x5) 1) = 1 then P_X0_fallAfter x5 x2 σ (fun r_2 σ_1 => (if r_2 = x3 then (P_X0_fallersAfter_L6 x1 x2 x3 Q n) (wi (x4 + 1)) (wi (x5 + 1)) σ_1 else (P_X0_fallersAfter_L6 x1 x2 x3 Q n) x4 (wi (x5 + 1)) σ_1)) else (P_X0_fallersAfter_L6 x1 x2 x3 Q n) x4 (wi (x5 + 1)) σ))
set_option maxRecDepth 20000 in
set_option maxHeartbeats 2000000 in
theorem e_P_X0_fallersAfter_L6  {x1 : Int} {x2 : Int} {x3 : Int}  {Q : Int → St → Prop}   : ∀ (n : Nat) (x4 : Int) (x5 : Int) (σ : St), P_X0_fallersAfter_L6 x1 x2 x3 Q n x4 x5 σ → E Y_X0_fallersAfter 2 0 0 (QI Q) ww 0 0 6 [some (vR 0 0), some (vI x1), some (vI x2), some (vI x3), some (vI x4), some (vI x5)] [] σ := by
  intro n
  induction n with
  | zero => intro x4 x5 σ h; exact h.elim
  | succ n hR =>
    intro x4 x5 σ h
    unfold P_X0_fallersAfter_L6 at h
    refine E_iload dX0_fallersAfter_6 rfl ?_
    refine E_aload_n dX0_fallersAfter_8 rfl rfl ?_
    refine E_getr (i := 0) dX0_fallersAfter_9 fl_RX0_16 rfl rfl (go_0_0 _ _) ?_
    refine E_geti (i := 0) dX0_fallersAfter_12 fl_RX0_85 rfl ?_
    refine E_icmp_ge (tgt := 48) dX0_fallersAfter_15 (by decide) (fun hc => ?_) (fun hc => ?_)
    · have h := Eq.mp (if_pos hc) h
      refine E_iload dX0_fallersAfter_48 rfl ?_
      exact E_iret dX0_fallersAfter_50 rfl ⟨_, rfl, rfl, h⟩
    · have h := Eq.mp (if_neg hc) h
      refine E_iload_n dX0_fallersAfter_18 rfl rfl ?_
      refine E_iload dX0_fallersAfter_19 rfl ?_
      refine E_ishr dX0_fallersAfter_21 ?_
      refine E_ic dX0_fallersAfter_22 rfl ?_
      refine E_iand dX0_fallersAfter_23 ?_
      refine E_ic dX0_fallersAfter_24 rfl ?_
      refine E_icmp_ne (tgt := 42) dX0_fallersAfter_25 (by decide) (fun hc => ?_) (fun hc => ?_)
      · have h := Eq.mp (if_neg hc) h
        refine E_iinc (ls' := [some (vR 0 0), some (vI x1), some (vI x2), some (vI x3), some (vI x4), some (vI (wi (x5 + 1)))]) dX0_fallersAfter_42 rfl (by decide) rfl rfl ?_
        refine E_goto (tgt := 6) dX0_fallersAfter_45 (by decide) ?_
        exact hR _ _ _ h
      · have h := Eq.mp (if_pos hc) h
        refine E_aload_n dX0_fallersAfter_28 rfl rfl ?_
        refine E_iload dX0_fallersAfter_29 rfl ?_
        refine E_iload_n dX0_fallersAfter_31 rfl rfl ?_
        refine E_callV (Y' := Y_X0_fallAfter) (as := [vI x5, vI x2]) (st := []) dX0_fallersAfter_32 lk_RX0_61 m_X0_fallAfter (by decide) (Nat.le_refl _) (Nat.le_refl _) rfl rfl (Nat.le_of_ble_eq_true rfl) (s_X0_fallAfter h) (fun r0 B0 σ_1 h => ?_)
        obtain ⟨r_2, rfl, rfl, h⟩ := h
        refine E_iload_n dX0_fallersAfter_35 rfl rfl ?_
        refine E_icmp_ne (tgt := 42) dX0_fallersAfter_36 (by decide) (fun hc => ?_) (fun hc => ?_)
        · have h := Eq.mp (if_neg hc) h
          refine E_iinc (ls' := [some (vR 0 0), some (vI x1), some (vI x2), some (vI x3), some (vI x4), some (vI (wi (x5 + 1)))]) dX0_fallersAfter_42 rfl (by decide) rfl rfl ?_
          refine E_goto (tgt := 6) dX0_fallersAfter_45 (by decide) ?_
          exact hR _ _ _ h
        · have h := Eq.mp (if_pos hc) h
          refine E_iinc (ls' := [some (vR 0 0), some (vI x1), some (vI x2), some (vI x3), some (vI (wi (x4 + 1))), some (vI x5)]) dX0_fallersAfter_39 rfl (by decide) rfl rfl ?_
          refine E_iinc (ls' := [some (vR 0 0), some (vI x1), some (vI x2), some (vI x3), some (vI (wi (x4 + 1))), some (vI (wi (x5 + 1)))]) dX0_fallersAfter_42 rfl (by decide) rfl rfl ?_
          refine E_goto (tgt := 6) dX0_fallersAfter_45 (by decide) ?_
          exact hR _ _ _ h
def P_X0_fallersAfter  (x1 : Int) (x2 : Int) (x3 : Int) (σ : St) (Q : Int → St → Prop) : Prop :=
  P_X0_fallersAfter_L6 x1 x2 x3 Q FU 0 0 σ
set_option maxRecDepth 20000 in
set_option maxHeartbeats 2000000 in
theorem s_X0_fallersAfter   {x1 : Int} {x2 : Int} {x3 : Int} {σ : St} {Q : Int → St → Prop} (h : P_X0_fallersAfter x1 x2 x3 σ Q) : Cn Y_X0_fallersAfter 2 0 0 ww σ [vR 0 0, vI x1, vI x2, vI x3] (QI Q) := by
  refine Cn_of [some (vR 0 0), some (vI x1), some (vI x2), some (vI x3), none, none] (by decide) (Nat.le_of_ble_eq_true rfl) rfl ?_
  unfold P_X0_fallersAfter at h
  refine E_ic dX0_fallersAfter_0 rfl ?_
  refine E_istore (ls' := [some (vR 0 0), some (vI x1), some (vI x2), some (vI x3), some (vI 0), none]) dX0_fallersAfter_1 (by decide) rfl ?_
  refine E_ic dX0_fallersAfter_3 rfl ?_
  refine E_istore (ls' := [some (vR 0 0), some (vI x1), some (vI x2), some (vI x3), some (vI 0), some (vI 0)]) dX0_fallersAfter_4 (by decide) rfl ?_
  refine e_P_X0_fallersAfter_L6  _ _ _ _ h
abbrev Y_X1_least : My := (yX1_least, cX1_least, 3, some .int)
theorem dX1_least_0 : decode cX1_least 0 = .ok (.iconst 1, 1) := by decide +kernel
theorem dX1_least_1 : decode cX1_least 1 = .ok (.istore_n 2, 1) := by decide +kernel
theorem dX1_least_2 : decode cX1_least 2 = .ok (.iload_n 2, 1) := by decide +kernel
theorem dX1_least_3 : decode cX1_least 3 = .ok (.bipush 60, 2) := by decide +kernel
theorem dX1_least_5 : decode cX1_least 5 = .ok (.if_icmp .gt 30, 3) := by decide +kernel
theorem dX1_least_8 : decode cX1_least 8 = .ok (.aload_n 0, 1) := by decide +kernel
theorem dX1_least_9 : decode cX1_least 9 = .ok (.getfield 29, 3) := by decide +kernel
theorem dX1_least_12 : decode cX1_least 12 = .ok (.iload_n 2, 1) := by decide +kernel
theorem dX1_least_13 : decode cX1_least 13 = .ok (.aload_n 0, 1) := by decide +kernel
theorem dX1_least_14 : decode cX1_least 14 = .ok (.getfield 33, 3) := by decide +kernel
theorem dX1_least_17 : decode cX1_least 17 = .ok (.getfield 37, 3) := by decide +kernel
theorem dX1_least_20 : decode cX1_least 20 = .ok (.invokevirtual 42, 3) := by decide +kernel
theorem dX1_least_23 : decode cX1_least 23 = .ok (.iload_n 1, 1) := by decide +kernel
theorem dX1_least_24 : decode cX1_least 24 = .ok (.if_icmp .ne 5, 3) := by decide +kernel
theorem dX1_least_27 : decode cX1_least 27 = .ok (.iload_n 2, 1) := by decide +kernel
theorem dX1_least_28 : decode cX1_least 28 = .ok (.ireturn, 1) := by decide +kernel
theorem dX1_least_29 : decode cX1_least 29 = .ok (.iinc 2 1, 3) := by decide +kernel
theorem dX1_least_32 : decode cX1_least 32 = .ok (.goto (-30), 3) := by decide +kernel
theorem dX1_least_35 : decode cX1_least 35 = .ok (.iconst (-1), 1) := by decide +kernel
theorem dX1_least_36 : decode cX1_least 36 = .ok (.ireturn, 1) := by decide +kernel
theorem fl_RX1_37 : FL RX1 37 9 1 := ⟨inG (i := 305) (by decide +kernel) (by decide +kernel), by decide, by decide⟩
theorem lk_RX1_42 : Cond.methodLink RX1 42 yX8_fall ∈ tG := inG (i := 1078) (by decide +kernel) (by decide +kernel)
def P_X1_least_L2  (x1 : Int)  (Q : Int → St → Prop) : Nat → Int → St → Prop
  | 0, _, _ => False
  | n + 1, x2, σ => (if 60 < x2 then Q (-1) σ else P_X8_fall 0 x2 1001 0 σ (fun r_2 σ_1 => (if r_2 = x1 then Q x2 σ_1 else (P_X1_least_L2 x1 Q n) (wi (x2 + 1)) σ_1)))
set_option maxRecDepth 20000 in
set_option maxHeartbeats 2000000 in
theorem e_P_X1_least_L2  {x1 : Int}  {Q : Int → St → Prop}   : ∀ (n : Nat) (x2 : Int) (σ : St), P_X1_least_L2 x1 Q n x2 σ → E Y_X1_least 1 0 0 (QI Q) ww 0 0 2 [some (vR 1 0), some (vI x1), some (vI x2)] [] σ := by
  intro n
  induction n with
  | zero => intro x2 σ h; exact h.elim
  | succ n hR =>
    intro x2 σ h
    unfold P_X1_least_L2 at h
    refine E_iload_n dX1_least_2 rfl rfl ?_
    refine E_bp dX1_least_3 rfl ?_
    refine E_icmp_gt (tgt := 35) dX1_least_5 (by decide) (fun hc => ?_) (fun hc => ?_)
    · have h := Eq.mp (if_pos hc) h
      refine E_ic dX1_least_35 rfl ?_
      exact E_iret dX1_least_36 rfl ⟨_, rfl, rfl, h⟩
    · have h := Eq.mp (if_neg hc) h
      refine E_aload_n dX1_least_8 rfl rfl ?_
      refine E_getr (i := 0) dX1_least_9 fl_RX1_29 rfl rfl (go_1_0 _ _) ?_
      refine E_iload_n dX1_least_12 rfl rfl ?_
      refine E_aload_n dX1_least_13 rfl rfl ?_
      refine E_getr (i := 0) dX1_least_14 fl_RX1_33 rfl rfl (go_1_1 _ _) ?_
      refine E_getr (i := 0) dX1_least_17 fl_RX1_37 rfl rfl (go_9_1 _ _) ?_
      refine E_callV (Y' := Y_X8_fall) (as := [vI x2, vR 1001 0]) (st := []) dX1_least_20 lk_RX1_42 m_X8_fall (by decide) (Nat.le_refl _) (Nat.le_refl _) rfl rfl (Nat.le_of_ble_eq_true rfl) (s_X8_fall h) (fun r0 B0 σ_1 h => ?_)
      obtain ⟨r_2, rfl, rfl, h⟩ := h
      refine E_iload_n dX1_least_23 rfl rfl ?_
      refine E_icmp_ne (tgt := 29) dX1_least_24 (by decide) (fun hc => ?_) (fun hc => ?_)
      · have h := Eq.mp (if_neg hc) h
        refine E_iinc (ls' := [some (vR 1 0), some (vI x1), some (vI (wi (x2 + 1)))]) dX1_least_29 rfl (by decide) rfl rfl ?_
        refine E_goto (tgt := 2) dX1_least_32 (by decide) ?_
        exact hR _ _ h
      · have h := Eq.mp (if_pos hc) h
        refine E_iload_n dX1_least_27 rfl rfl ?_
        exact E_iret dX1_least_28 rfl ⟨_, rfl, rfl, h⟩
def P_X1_least  (x1 : Int) (σ : St) (Q : Int → St → Prop) : Prop :=
  P_X1_least_L2 x1 Q FU 1 σ
set_option maxRecDepth 20000 in
set_option maxHeartbeats 2000000 in
theorem s_X1_least   {x1 : Int} {σ : St} {Q : Int → St → Prop} (h : P_X1_least x1 σ Q) : Cn Y_X1_least 1 0 0 ww σ [vR 1 0, vI x1] (QI Q) := by
  refine Cn_of [some (vR 1 0), some (vI x1), none] (by decide) (Nat.le_of_ble_eq_true rfl) rfl ?_
  unfold P_X1_least at h
  refine E_ic dX1_least_0 rfl ?_
  refine E_istore_n (ls' := [some (vR 1 0), some (vI x1), some (vI 1)]) dX1_least_1 rfl (by decide) rfl ?_
  refine e_P_X1_least_L2  _ _ _ h
abbrev Y_X1_most : My := (yX1_most, cX1_most, 3, some .int)
theorem dX1_most_0 : decode cX1_most 0 = .ok (.bipush 60, 2) := by decide +kernel
theorem dX1_most_2 : decode cX1_most 2 = .ok (.istore_n 2, 1) := by decide +kernel
theorem dX1_most_3 : decode cX1_most 3 = .ok (.iload_n 2, 1) := by decide +kernel
theorem dX1_most_4 : decode cX1_most 4 = .ok (.iconst 1, 1) := by decide +kernel
theorem dX1_most_5 : decode cX1_most 5 = .ok (.if_icmp .lt 30, 3) := by decide +kernel
theorem dX1_most_8 : decode cX1_most 8 = .ok (.aload_n 0, 1) := by decide +kernel
theorem dX1_most_9 : decode cX1_most 9 = .ok (.getfield 29, 3) := by decide +kernel
theorem dX1_most_12 : decode cX1_most 12 = .ok (.iload_n 2, 1) := by decide +kernel
theorem dX1_most_13 : decode cX1_most 13 = .ok (.aload_n 0, 1) := by decide +kernel
theorem dX1_most_14 : decode cX1_most 14 = .ok (.getfield 33, 3) := by decide +kernel
theorem dX1_most_17 : decode cX1_most 17 = .ok (.getfield 37, 3) := by decide +kernel
theorem dX1_most_20 : decode cX1_most 20 = .ok (.invokevirtual 42, 3) := by decide +kernel
theorem dX1_most_23 : decode cX1_most 23 = .ok (.iload_n 1, 1) := by decide +kernel
theorem dX1_most_24 : decode cX1_most 24 = .ok (.if_icmp .ne 5, 3) := by decide +kernel
theorem dX1_most_27 : decode cX1_most 27 = .ok (.iload_n 2, 1) := by decide +kernel
theorem dX1_most_28 : decode cX1_most 28 = .ok (.ireturn, 1) := by decide +kernel
theorem dX1_most_29 : decode cX1_most 29 = .ok (.iinc 2 (-1), 3) := by decide +kernel
theorem dX1_most_32 : decode cX1_most 32 = .ok (.goto (-29), 3) := by decide +kernel
theorem dX1_most_35 : decode cX1_most 35 = .ok (.iconst (-1), 1) := by decide +kernel
theorem dX1_most_36 : decode cX1_most 36 = .ok (.ireturn, 1) := by decide +kernel
def P_X1_most_L3  (x1 : Int)  (Q : Int → St → Prop) : Nat → Int → St → Prop
  | 0, _, _ => False
  | n + 1, x2, σ => (if x2 < 1 then Q (-1) σ else P_X8_fall 0 x2 1001 0 σ (fun r_2 σ_1 => (if r_2 = x1 then Q x2 σ_1 else (P_X1_most_L3 x1 Q n) (wi (x2 + (-1))) σ_1)))
set_option maxRecDepth 20000 in
set_option maxHeartbeats 2000000 in
theorem e_P_X1_most_L3  {x1 : Int}  {Q : Int → St → Prop}   : ∀ (n : Nat) (x2 : Int) (σ : St), P_X1_most_L3 x1 Q n x2 σ → E Y_X1_most 1 0 0 (QI Q) ww 0 0 3 [some (vR 1 0), some (vI x1), some (vI x2)] [] σ := by
  intro n
  induction n with
  | zero => intro x2 σ h; exact h.elim
  | succ n hR =>
    intro x2 σ h
    unfold P_X1_most_L3 at h
    refine E_iload_n dX1_most_3 rfl rfl ?_
    refine E_ic dX1_most_4 rfl ?_
    refine E_icmp_lt (tgt := 35) dX1_most_5 (by decide) (fun hc => ?_) (fun hc => ?_)
    · have h := Eq.mp (if_pos hc) h
      refine E_ic dX1_most_35 rfl ?_
      exact E_iret dX1_most_36 rfl ⟨_, rfl, rfl, h⟩
    · have h := Eq.mp (if_neg hc) h
      refine E_aload_n dX1_most_8 rfl rfl ?_
      refine E_getr (i := 0) dX1_most_9 fl_RX1_29 rfl rfl (go_1_0 _ _) ?_
      refine E_iload_n dX1_most_12 rfl rfl ?_
      refine E_aload_n dX1_most_13 rfl rfl ?_
      refine E_getr (i := 0) dX1_most_14 fl_RX1_33 rfl rfl (go_1_1 _ _) ?_
      refine E_getr (i := 0) dX1_most_17 fl_RX1_37 rfl rfl (go_9_1 _ _) ?_
      refine E_callV (Y' := Y_X8_fall) (as := [vI x2, vR 1001 0]) (st := []) dX1_most_20 lk_RX1_42 m_X8_fall (by decide) (Nat.le_refl _) (Nat.le_refl _) rfl rfl (Nat.le_of_ble_eq_true rfl) (s_X8_fall h) (fun r0 B0 σ_1 h => ?_)
      obtain ⟨r_2, rfl, rfl, h⟩ := h
      refine E_iload_n dX1_most_23 rfl rfl ?_
      refine E_icmp_ne (tgt := 29) dX1_most_24 (by decide) (fun hc => ?_) (fun hc => ?_)
      · have h := Eq.mp (if_neg hc) h
        refine E_iinc (ls' := [some (vR 1 0), some (vI x1), some (vI (wi (x2 + (-1))))]) dX1_most_29 rfl (by decide) rfl rfl ?_
        refine E_goto (tgt := 3) dX1_most_32 (by decide) ?_
        exact hR _ _ h
      · have h := Eq.mp (if_pos hc) h
        refine E_iload_n dX1_most_27 rfl rfl ?_
        exact E_iret dX1_most_28 rfl ⟨_, rfl, rfl, h⟩
def P_X1_most  (x1 : Int) (σ : St) (Q : Int → St → Prop) : Prop :=
  P_X1_most_L3 x1 Q FU 60 σ
set_option maxRecDepth 20000 in
set_option maxHeartbeats 2000000 in
theorem s_X1_most   {x1 : Int} {σ : St} {Q : Int → St → Prop} (h : P_X1_most x1 σ Q) : Cn Y_X1_most 1 0 0 ww σ [vR 1 0, vI x1] (QI Q) := by
  refine Cn_of [some (vR 1 0), some (vI x1), none] (by decide) (Nat.le_of_ble_eq_true rfl) rfl ?_
  unfold P_X1_most at h
  refine E_bp dX1_most_0 rfl ?_
  refine E_istore_n (ls' := [some (vR 1 0), some (vI x1), some (vI 60)]) dX1_most_2 rfl (by decide) rfl ?_
  refine e_P_X1_most_L3  _ _ _ h
abbrev Y_X1_fallers : My := (yX1_fallers, cX1_fallers, 4, some .int)
theorem dX1_fallers_0 : decode cX1_fallers 0 = .ok (.iconst 0, 1) := by decide +kernel
theorem dX1_fallers_1 : decode cX1_fallers 1 = .ok (.istore_n 2, 1) := by decide +kernel
theorem dX1_fallers_2 : decode cX1_fallers 2 = .ok (.iconst 0, 1) := by decide +kernel
theorem dX1_fallers_3 : decode cX1_fallers 3 = .ok (.istore_n 3, 1) := by decide +kernel
theorem dX1_fallers_4 : decode cX1_fallers 4 = .ok (.iload_n 3, 1) := by decide +kernel
theorem dX1_fallers_5 : decode cX1_fallers 5 = .ok (.aload_n 0, 1) := by decide +kernel
theorem dX1_fallers_6 : decode cX1_fallers 6 = .ok (.getfield 29, 3) := by decide +kernel
theorem dX1_fallers_9 : decode cX1_fallers 9 = .ok (.getfield 48, 3) := by decide +kernel
theorem dX1_fallers_12 : decode cX1_fallers 12 = .ok (.if_icmp .ge 27, 3) := by decide +kernel
theorem dX1_fallers_15 : decode cX1_fallers 15 = .ok (.aload_n 0, 1) := by decide +kernel
theorem dX1_fallers_16 : decode cX1_fallers 16 = .ok (.getfield 33, 3) := by decide +kernel
theorem dX1_fallers_19 : decode cX1_fallers 19 = .ok (.iload_n 3, 1) := by decide +kernel
theorem dX1_fallers_20 : decode cX1_fallers 20 = .ok (.invokevirtual 52, 3) := by decide +kernel
theorem dX1_fallers_23 : decode cX1_fallers 23 = .ok (.iload_n 1, 1) := by decide +kernel
theorem dX1_fallers_24 : decode cX1_fallers 24 = .ok (.if_icmp .ne 9, 3) := by decide +kernel
theorem dX1_fallers_27 : decode cX1_fallers 27 = .ok (.iload_n 2, 1) := by decide +kernel
theorem dX1_fallers_28 : decode cX1_fallers 28 = .ok (.iconst 1, 1) := by decide +kernel
theorem dX1_fallers_29 : decode cX1_fallers 29 = .ok (.iload_n 3, 1) := by decide +kernel
theorem dX1_fallers_30 : decode cX1_fallers 30 = .ok (.ishl, 1) := by decide +kernel
theorem dX1_fallers_31 : decode cX1_fallers 31 = .ok (.ior, 1) := by decide +kernel
theorem dX1_fallers_32 : decode cX1_fallers 32 = .ok (.istore_n 2, 1) := by decide +kernel
theorem dX1_fallers_33 : decode cX1_fallers 33 = .ok (.iinc 3 1, 3) := by decide +kernel
theorem dX1_fallers_36 : decode cX1_fallers 36 = .ok (.goto (-32), 3) := by decide +kernel
theorem dX1_fallers_39 : decode cX1_fallers 39 = .ok (.iload_n 2, 1) := by decide +kernel
theorem dX1_fallers_40 : decode cX1_fallers 40 = .ok (.ireturn, 1) := by decide +kernel
theorem lk_RX1_52 : Cond.methodLink RX1 52 yX9_fallOf ∈ tG := inG (i := 1095) (by decide +kernel) (by decide +kernel)
def P_X1_fallers_L4  (x1 : Int)  (Q : Int → St → Prop) : Nat → Int → Int → St → Prop
  | 0, _, _, _ => False
  | n + 1, x2, x3, σ => (if (σ 8 0 11) ≤ x3 then Q x2 σ else P_X9_fallOf 0 x3 σ (fun r_2 σ_1 => (if r_2 = x1 then (P_X1_fallers_L4 x1 Q n) (bO x2 (bL 1 x3)) (wi (x3 + 1)) σ_1 else (P_X1_fallers_L4 x1 Q n) x2 (wi (x3 + 1)) σ_1)))
set_option maxRecDepth 20000 in
set_option maxHeartbeats 2000000 in
theorem e_P_X1_fallers_L4  {x1 : Int}  {Q : Int → St → Prop}   : ∀ (n : Nat) (x2 : Int) (x3 : Int) (σ : St), P_X1_fallers_L4 x1 Q n x2 x3 σ → E Y_X1_fallers 2 0 0 (QI Q) ww 0 0 4 [some (vR 1 0), some (vI x1), some (vI x2), some (vI x3)] [] σ := by
  intro n
  induction n with
  | zero => intro x2 x3 σ h; exact h.elim
  | succ n hR =>
    intro x2 x3 σ h
    unfold P_X1_fallers_L4 at h
    refine E_iload_n dX1_fallers_4 rfl rfl ?_
    refine E_aload_n dX1_fallers_5 rfl rfl ?_
    refine E_getr (i := 0) dX1_fallers_6 fl_RX1_29 rfl rfl (go_1_0 _ _) ?_
    refine E_geti (i := 0) dX1_fallers_9 fl_RX1_48 rfl ?_
    refine E_icmp_ge (tgt := 39) dX1_fallers_12 (by decide) (fun hc => ?_) (fun hc => ?_)
    · have h := Eq.mp (if_pos hc) h
      refine E_iload_n dX1_fallers_39 rfl rfl ?_
      exact E_iret dX1_fallers_40 rfl ⟨_, rfl, rfl, h⟩
    · have h := Eq.mp (if_neg hc) h
      refine E_aload_n dX1_fallers_15 rfl rfl ?_
      refine E_getr (i := 0) dX1_fallers_16 fl_RX1_33 rfl rfl (go_1_1 _ _) ?_
      refine E_iload_n dX1_fallers_19 rfl rfl ?_
      refine E_callV (Y' := Y_X9_fallOf) (as := [vI x3]) (st := []) dX1_fallers_20 lk_RX1_52 m_X9_fallOf (by decide) (Nat.le_refl _) (Nat.le_refl _) rfl rfl (Nat.le_of_ble_eq_true rfl) (s_X9_fallOf h) (fun r0 B0 σ_1 h => ?_)
      obtain ⟨r_2, rfl, rfl, h⟩ := h
      refine E_iload_n dX1_fallers_23 rfl rfl ?_
      refine E_icmp_ne (tgt := 33) dX1_fallers_24 (by decide) (fun hc => ?_) (fun hc => ?_)
      · have h := Eq.mp (if_neg hc) h
        refine E_iinc (ls' := [some (vR 1 0), some (vI x1), some (vI x2), some (vI (wi (x3 + 1)))]) dX1_fallers_33 rfl (by decide) rfl rfl ?_
        refine E_goto (tgt := 4) dX1_fallers_36 (by decide) ?_
        exact hR _ _ _ h
      · have h := Eq.mp (if_pos hc) h
        refine E_iload_n dX1_fallers_27 rfl rfl ?_
        refine E_ic dX1_fallers_28 rfl ?_
        refine E_iload_n dX1_fallers_29 rfl rfl ?_
        refine E_ishl dX1_fallers_30 ?_
        refine E_ior dX1_fallers_31 ?_
        refine E_istore_n (ls' := [some (vR 1 0), some (vI x1), some (vI (bO x2 (bL 1 x3))), some (vI x3)]) dX1_fallers_32 rfl (by decide) rfl ?_
        refine E_iinc (ls' := [some (vR 1 0), some (vI x1), some (vI (bO x2 (bL 1 x3))), some (vI (wi (x3 + 1)))]) dX1_fallers_33 rfl (by decide) rfl rfl ?_
        refine E_goto (tgt := 4) dX1_fallers_36 (by decide) ?_
        exact hR _ _ _ h
def P_X1_fallers  (x1 : Int) (σ : St) (Q : Int → St → Prop) : Prop :=
  P_X1_fallers_L4 x1 Q FU 0 0 σ
set_option maxRecDepth 20000 in
set_option maxHeartbeats 2000000 in
theorem s_X1_fallers   {x1 : Int} {σ : St} {Q : Int → St → Prop} (h : P_X1_fallers x1 σ Q) : Cn Y_X1_fallers 2 0 0 ww σ [vR 1 0, vI x1] (QI Q) := by
  refine Cn_of [some (vR 1 0), some (vI x1), none, none] (by decide) (Nat.le_of_ble_eq_true rfl) rfl ?_
  unfold P_X1_fallers at h
  refine E_ic dX1_fallers_0 rfl ?_
  refine E_istore_n (ls' := [some (vR 1 0), some (vI x1), some (vI 0), none]) dX1_fallers_1 rfl (by decide) rfl ?_
  refine E_ic dX1_fallers_2 rfl ?_
  refine E_istore_n (ls' := [some (vR 1 0), some (vI x1), some (vI 0), some (vI 0)]) dX1_fallers_3 rfl (by decide) rfl ?_
  refine e_P_X1_fallers_L4  _ _ _ _ h
abbrev Y_X1_wouldGoHome : My := (yX1_wouldGoHome, cX1_wouldGoHome, 3, some .boolean)
theorem dX1_wouldGoHome_0 : decode cX1_wouldGoHome 0 = .ok (.iload_n 2, 1) := by decide +kernel
theorem dX1_wouldGoHome_1 : decode cX1_wouldGoHome 1 = .ok (.iconst 1, 1) := by decide +kernel
theorem dX1_wouldGoHome_2 : decode cX1_wouldGoHome 2 = .ok (.bipush 60, 2) := by decide +kernel
theorem dX1_wouldGoHome_4 : decode cX1_wouldGoHome 4 = .ok (.invokestatic 63, 3) := by decide +kernel
theorem dX1_wouldGoHome_7 : decode cX1_wouldGoHome 7 = .ok (.ifCond .eq 34, 3) := by decide +kernel
theorem dX1_wouldGoHome_10 : decode cX1_wouldGoHome 10 = .ok (.aload_n 0, 1) := by decide +kernel
theorem dX1_wouldGoHome_11 : decode cX1_wouldGoHome 11 = .ok (.getfield 29, 3) := by decide +kernel
theorem dX1_wouldGoHome_14 : decode cX1_wouldGoHome 14 = .ok (.iload_n 2, 1) := by decide +kernel
theorem dX1_wouldGoHome_15 : decode cX1_wouldGoHome 15 = .ok (.aload_n 0, 1) := by decide +kernel
theorem dX1_wouldGoHome_16 : decode cX1_wouldGoHome 16 = .ok (.getfield 33, 3) := by decide +kernel
theorem dX1_wouldGoHome_19 : decode cX1_wouldGoHome 19 = .ok (.getfield 37, 3) := by decide +kernel
theorem dX1_wouldGoHome_22 : decode cX1_wouldGoHome 22 = .ok (.invokevirtual 42, 3) := by decide +kernel
theorem dX1_wouldGoHome_25 : decode cX1_wouldGoHome 25 = .ok (.aload_n 0, 1) := by decide +kernel
theorem dX1_wouldGoHome_26 : decode cX1_wouldGoHome 26 = .ok (.getfield 29, 3) := by decide +kernel
theorem dX1_wouldGoHome_29 : decode cX1_wouldGoHome 29 = .ok (.getfield 67, 3) := by decide +kernel
theorem dX1_wouldGoHome_32 : decode cX1_wouldGoHome 32 = .ok (.iload_n 1, 1) := by decide +kernel
theorem dX1_wouldGoHome_33 : decode cX1_wouldGoHome 33 = .ok (.iaload, 1) := by decide +kernel
theorem dX1_wouldGoHome_34 : decode cX1_wouldGoHome 34 = .ok (.if_icmp .ne 7, 3) := by decide +kernel
theorem dX1_wouldGoHome_37 : decode cX1_wouldGoHome 37 = .ok (.iconst 1, 1) := by decide +kernel
theorem dX1_wouldGoHome_38 : decode cX1_wouldGoHome 38 = .ok (.goto 4, 3) := by decide +kernel
theorem dX1_wouldGoHome_41 : decode cX1_wouldGoHome 41 = .ok (.iconst 0, 1) := by decide +kernel
theorem dX1_wouldGoHome_42 : decode cX1_wouldGoHome 42 = .ok (.ireturn, 1) := by decide +kernel
theorem m_X11_within : MS Y_X11_within 3 := ⟨⟨inG (i := 524) (by decide +kernel) (by decide +kernel), inG (i := 98) (by decide +kernel) (by decide +kernel), by decide, by decide, by decide, by decide +kernel⟩, inG (i := 523) (by decide +kernel) (by decide +kernel)⟩
theorem nk_RX1_63 : Cond.methodLinkNest RX1 63 yX11_within RX11 ∈ nestW := List.mem_filter.mpr ⟨List.mem_of_getElem? (i := 1116) (by decide +kernel), rfl⟩
def P_X1_wouldGoHome_J41    (Q : Int → St → Prop) (σ : St) : Prop :=
  Q 0 σ
set_option maxRecDepth 20000 in
set_option maxHeartbeats 2000000 in
theorem e_P_X1_wouldGoHome_J41    {Q : Int → St → Prop} {σ : St}   (h : P_X1_wouldGoHome_J41  Q σ) : E Y_X1_wouldGoHome 1 0 0 (QI Q) ww 0 0 41 [none, none, none] [] σ := by
  unfold P_X1_wouldGoHome_J41 at h
  refine E_ic dX1_wouldGoHome_41 rfl ?_
  exact E_zret dX1_wouldGoHome_42 rfl (by decide) ⟨_, rfl, rfl, h⟩
def P_X1_wouldGoHome  (x1 : Int) (x2 : Int) (σ : St) (Q : Int → St → Prop) : Prop :=
  P_X11_within x2 1 60 σ (fun r_2 σ_1 => (if r_2 = 0 then P_X1_wouldGoHome_J41 Q σ_1 else P_X8_fall 0 x2 1001 0 σ_1 (fun r_4 σ_3 => 0 ≤ x1 ∧ x1 < 6 ∧ (if r_4 = (σ_3 906 0 x1) then Q 1 σ_3 else P_X1_wouldGoHome_J41 Q σ_3))))
set_option maxRecDepth 20000 in
set_option maxHeartbeats 2000000 in
theorem s_X1_wouldGoHome   {x1 : Int} {x2 : Int} {σ : St} {Q : Int → St → Prop} (h : P_X1_wouldGoHome x1 x2 σ Q) : Cn Y_X1_wouldGoHome 1 0 0 ww σ [vR 1 0, vI x1, vI x2] (QI Q) := by
  refine Cn_of [some (vR 1 0), some (vI x1), some (vI x2)] (by decide) (Nat.le_of_ble_eq_true rfl) rfl ?_
  unfold P_X1_wouldGoHome at h
  refine E_iload_n dX1_wouldGoHome_0 rfl rfl ?_
  refine E_ic dX1_wouldGoHome_1 rfl ?_
  refine E_bp dX1_wouldGoHome_2 rfl ?_
  refine E_callN (Y' := Y_X11_within) (as := [vI x2, vI 1, vI 60]) (st := []) dX1_wouldGoHome_4 nk_RX1_63 m_X11_within (by decide) (Nat.le_refl _) (Nat.le_refl _) rfl rfl (Nat.le_of_ble_eq_true rfl) (s_X11_within h) (fun r0 B0 σ_1 h => ?_)
  obtain ⟨r_2, rfl, rfl, h⟩ := h
  refine E_if_eq (tgt := 41) dX1_wouldGoHome_7 (by decide) (fun hc => ?_) (fun hc => ?_)
  · have h := Eq.mp (if_pos hc) h
    refine E_wk2 [none, none, none] trivial ?_
    exact e_P_X1_wouldGoHome_J41 h
  · have h := Eq.mp (if_neg hc) h
    refine E_aload_n dX1_wouldGoHome_10 rfl rfl ?_
    refine E_getr (i := 0) dX1_wouldGoHome_11 fl_RX1_29 rfl rfl (go_1_0 _ _) ?_
    refine E_iload_n dX1_wouldGoHome_14 rfl rfl ?_
    refine E_aload_n dX1_wouldGoHome_15 rfl rfl ?_
    refine E_getr (i := 0) dX1_wouldGoHome_16 fl_RX1_33 rfl rfl (go_1_1 _ _) ?_
    refine E_getr (i := 0) dX1_wouldGoHome_19 fl_RX1_37 rfl rfl (go_9_1 _ _) ?_
    refine E_callV (Y' := Y_X8_fall) (as := [vI x2, vR 1001 0]) (st := []) dX1_wouldGoHome_22 lk_RX1_42 m_X8_fall (by decide) (Nat.le_refl _) (Nat.le_refl _) rfl rfl (Nat.le_of_ble_eq_true rfl) (s_X8_fall h) (fun r0 B0 σ_3 h => ?_)
    obtain ⟨r_4, rfl, rfl, h⟩ := h
    refine E_aload_n dX1_wouldGoHome_25 rfl rfl ?_
    refine E_getr (i := 0) dX1_wouldGoHome_26 fl_RX1_29 rfl rfl (go_1_0 _ _) ?_
    refine E_getr (i := 0) dX1_wouldGoHome_29 fl_RX1_67 rfl rfl (go_8_6 _ _) ?_
    refine E_iload_n dX1_wouldGoHome_32 rfl rfl ?_
    obtain ⟨hg0, hg1, h⟩ := h
    refine E_iald dX1_wouldGoHome_33 sh_906 hg0 hg1 ?_
    refine E_icmp_ne (tgt := 41) dX1_wouldGoHome_34 (by decide) (fun hc => ?_) (fun hc => ?_)
    · have h := Eq.mp (if_neg hc) h
      refine E_wk2 [none, none, none] trivial ?_
      exact e_P_X1_wouldGoHome_J41 h
    · have h := Eq.mp (if_pos hc) h
      refine E_ic dX1_wouldGoHome_37 rfl ?_
      refine E_goto (tgt := 42) dX1_wouldGoHome_38 (by decide) ?_
      exact E_zret dX1_wouldGoHome_42 rfl (by decide) ⟨_, rfl, rfl, h⟩
