abbrev Y_X10_cutOne : My := (yX10_cutOne, cX10_cutOne, 4, some .int)
theorem dX10_cutOne_0 : decode cX10_cutOne 0 = .ok (.aload_n 0, 1) := by decide +kernel
theorem dX10_cutOne_1 : decode cX10_cutOne 1 = .ok (.getfield 9, 3) := by decide +kernel
theorem dX10_cutOne_4 : decode cX10_cutOne 4 = .ok (.iload_n 2, 1) := by decide +kernel
theorem dX10_cutOne_5 : decode cX10_cutOne 5 = .ok (.caload, 1) := by decide +kernel
theorem dX10_cutOne_6 : decode cX10_cutOne 6 = .ok (.istore_n 3, 1) := by decide +kernel
theorem dX10_cutOne_7 : decode cX10_cutOne 7 = .ok (.iload_n 3, 1) := by decide +kernel
theorem dX10_cutOne_8 : decode cX10_cutOne 8 = .ok (.bipush 97, 2) := by decide +kernel
theorem dX10_cutOne_10 : decode cX10_cutOne 10 = .ok (.bipush 122, 2) := by decide +kernel
theorem dX10_cutOne_12 : decode cX10_cutOne 12 = .ok (.invokestatic 36, 3) := by decide +kernel
theorem dX10_cutOne_15 : decode cX10_cutOne 15 = .ok (.ifCond .eq 10, 3) := by decide +kernel
theorem dX10_cutOne_18 : decode cX10_cutOne 18 = .ok (.aload_n 0, 1) := by decide +kernel
theorem dX10_cutOne_19 : decode cX10_cutOne 19 = .ok (.iload_n 1, 1) := by decide +kernel
theorem dX10_cutOne_20 : decode cX10_cutOne 20 = .ok (.iload_n 2, 1) := by decide +kernel
theorem dX10_cutOne_21 : decode cX10_cutOne 21 = .ok (.invokevirtual 48, 3) := by decide +kernel
theorem dX10_cutOne_24 : decode cX10_cutOne 24 = .ok (.ireturn, 1) := by decide +kernel
theorem dX10_cutOne_25 : decode cX10_cutOne 25 = .ok (.iload_n 3, 1) := by decide +kernel
theorem dX10_cutOne_26 : decode cX10_cutOne 26 = .ok (.bipush 48, 2) := by decide +kernel
theorem dX10_cutOne_28 : decode cX10_cutOne 28 = .ok (.bipush 57, 2) := by decide +kernel
theorem dX10_cutOne_30 : decode cX10_cutOne 30 = .ok (.invokestatic 36, 3) := by decide +kernel
theorem dX10_cutOne_33 : decode cX10_cutOne 33 = .ok (.ifCond .eq 10, 3) := by decide +kernel
theorem dX10_cutOne_36 : decode cX10_cutOne 36 = .ok (.aload_n 0, 1) := by decide +kernel
theorem dX10_cutOne_37 : decode cX10_cutOne 37 = .ok (.iload_n 1, 1) := by decide +kernel
theorem dX10_cutOne_38 : decode cX10_cutOne 38 = .ok (.iload_n 2, 1) := by decide +kernel
theorem dX10_cutOne_39 : decode cX10_cutOne 39 = .ok (.invokevirtual 51, 3) := by decide +kernel
theorem dX10_cutOne_42 : decode cX10_cutOne 42 = .ok (.ireturn, 1) := by decide +kernel
theorem dX10_cutOne_43 : decode cX10_cutOne 43 = .ok (.aload_n 0, 1) := by decide +kernel
theorem dX10_cutOne_44 : decode cX10_cutOne 44 = .ok (.iload_n 1, 1) := by decide +kernel
theorem dX10_cutOne_45 : decode cX10_cutOne 45 = .ok (.ldc 54, 2) := by decide +kernel
theorem dX10_cutOne_47 : decode cX10_cutOne 47 = .ok (.iload_n 3, 1) := by decide +kernel
theorem dX10_cutOne_48 : decode cX10_cutOne 48 = .ok (.invokevirtual 56, 3) := by decide +kernel
theorem dX10_cutOne_51 : decode cX10_cutOne 51 = .ok (.ifCond .lt 7, 3) := by decide +kernel
theorem dX10_cutOne_54 : decode cX10_cutOne 54 = .ok (.iconst 4, 1) := by decide +kernel
theorem dX10_cutOne_55 : decode cX10_cutOne 55 = .ok (.goto 4, 3) := by decide +kernel
theorem dX10_cutOne_58 : decode cX10_cutOne 58 = .ok (.iconst 1, 1) := by decide +kernel
theorem dX10_cutOne_59 : decode cX10_cutOne 59 = .ok (.iload_n 2, 1) := by decide +kernel
theorem dX10_cutOne_60 : decode cX10_cutOne 60 = .ok (.iload_n 3, 1) := by decide +kernel
theorem dX10_cutOne_61 : decode cX10_cutOne 61 = .ok (.i2l, 1) := by decide +kernel
theorem dX10_cutOne_62 : decode cX10_cutOne 62 = .ok (.invokevirtual 44, 3) := by decide +kernel
theorem dX10_cutOne_65 : decode cX10_cutOne 65 = .ok (.iload_n 2, 1) := by decide +kernel
theorem dX10_cutOne_66 : decode cX10_cutOne 66 = .ok (.iconst 1, 1) := by decide +kernel
theorem dX10_cutOne_67 : decode cX10_cutOne 67 = .ok (.iadd, 1) := by decide +kernel
theorem dX10_cutOne_68 : decode cX10_cutOne 68 = .ok (.ireturn, 1) := by decide +kernel
theorem lk_RX10_48 : Cond.methodLink RX10 48 yX10_cutWord ∈ tG := inG (i := 545) (by decide +kernel) (by decide +kernel)
theorem lk_RX10_51 : Cond.methodLink RX10 51 yX10_cutNumber ∈ tG := inG (i := 558) (by decide +kernel) (by decide +kernel)
theorem lk_RX10_56 : Cond.methodLink RX10 56 yJ0_indexOf_0f7a4 ∈ tG := inG (i := 565) (by decide +kernel) (by decide +kernel)
theorem m_J0_indexOf_0f7a4 : MZ Y_J0_indexOf_0f7a4 1 := ⟨⟨inG (i := 568) (by decide +kernel) (by decide +kernel), inG (i := 111) (by decide +kernel) (by decide +kernel), by decide, by decide, by decide, by decide +kernel⟩, inG (i := 566) (by decide +kernel) (by decide +kernel), inG (i := 567) (by decide +kernel) (by decide +kernel)⟩
theorem m_X10_cutNumber : MV Y_X10_cutNumber 2 10 := ⟨⟨inG (i := 561) (by decide +kernel) (by decide +kernel), inG (i := 99) (by decide +kernel) (by decide +kernel), by decide, by decide, by decide, by decide +kernel⟩, inG (i := 560) (by decide +kernel) (by decide +kernel), inG (i := 3) (by decide +kernel) (by decide +kernel), by decide⟩
theorem m_X10_cutWord : MV Y_X10_cutWord 2 10 := ⟨⟨inG (i := 548) (by decide +kernel) (by decide +kernel), inG (i := 99) (by decide +kernel) (by decide +kernel), by decide, by decide, by decide, by decide +kernel⟩, inG (i := 547) (by decide +kernel) (by decide +kernel), inG (i := 1) (by decide +kernel) (by decide +kernel), by decide⟩
def P_X10_cutOne_J59  (x2 : Int) (x3 : Int) (y0 : Int) (y1 : Int)  (Q : Int → St → Prop) (σ : St) : Prop :=
  P_X10_put y1 y0 x2 x3 σ (fun σ_7 => Q (wi (x2 + 1)) σ_7)
set_option maxRecDepth 20000 in
set_option maxHeartbeats 2000000 in
theorem e_P_X10_cutOne_J59  {x2 : Int} {x3 : Int} {y0 : Int} {y1 : Int}  {Q : Int → St → Prop} {σ : St}   (h : P_X10_cutOne_J59 x2 x3 y0 y1 Q σ) : E Y_X10_cutOne 4 0 0 (QI Q) ww 0 0 59 [none, none, some (vI x2), some (vI x3)] [vI y0, vI y1, vR 10 0] σ := by
  unfold P_X10_cutOne_J59 at h
  refine E_iload_n dX10_cutOne_59 rfl rfl ?_
  refine E_iload_n dX10_cutOne_60 rfl rfl ?_
  refine E_i2l dX10_cutOne_61 ?_
  refine E_callV (Y' := Y_X10_put) (as := [vI y1, vI y0, vI x2, vL x3]) (st := []) dX10_cutOne_62 lk_RX10_44 m_X10_put (by decide) (Nat.le_refl _) (Nat.le_refl _) rfl rfl (Nat.le_of_ble_eq_true rfl) (s_X10_put h) (fun r0 B0 σ_7 h => ?_)
  obtain ⟨rfl, rfl, h⟩ := h
  refine E_iload_n dX10_cutOne_65 rfl rfl ?_
  refine E_ic dX10_cutOne_66 rfl ?_
  refine E_iadd dX10_cutOne_67 ?_
  exact E_iret dX10_cutOne_68 rfl ⟨_, rfl, rfl, h⟩
def P_X10_cutOne  (x1 : Int) (x2 : Int) (σ : St) (Q : Int → St → Prop) : Prop :=
  0 ≤ x2 ∧ x2 < 1000 ∧ P_X11_within (σ 1100 0 x2) 97 122 σ (fun r_2 σ_1 => (if r_2 = 0 then P_X11_within (σ 1100 0 x2) 48 57 σ_1 (fun r_4 σ_3 => (if r_4 = 0 then P_J0_indexOf_0f7a4 0 (σ 1100 0 x2) σ_3 (fun r_6 σ_5 => (if r_6 < 0 then P_X10_cutOne_J59 x2 (σ 1100 0 x2) 1 x1 Q σ_5 else P_X10_cutOne_J59 x2 (σ 1100 0 x2) 4 x1 Q σ_5)) else P_X10_cutNumber x1 x2 σ_3 (fun r_9 σ_8 => Q r_9 σ_8))) else P_X10_cutWord x1 x2 σ_1 (fun r_11 σ_10 => Q r_11 σ_10)))
set_option maxRecDepth 20000 in
set_option maxHeartbeats 2000000 in
theorem s_X10_cutOne   {x1 : Int} {x2 : Int} {σ : St} {Q : Int → St → Prop} (h : P_X10_cutOne x1 x2 σ Q) : Cn Y_X10_cutOne 4 0 0 ww σ [vR 10 0, vI x1, vI x2] (QI Q) := by
  refine Cn_of [some (vR 10 0), some (vI x1), some (vI x2), none] (by decide) (Nat.le_of_ble_eq_true rfl) rfl ?_
  unfold P_X10_cutOne at h
  refine E_aload_n dX10_cutOne_0 rfl rfl ?_
  refine E_getr (i := 0) dX10_cutOne_1 fl_RX10_9 rfl rfl (go_10_0 _ _) ?_
  refine E_iload_n dX10_cutOne_4 rfl rfl ?_
  obtain ⟨hg0, hg1, h⟩ := h
  refine E_cald dX10_cutOne_5 sh_1100 hg0 hg1 ?_
  refine E_istore_n (ls' := [some (vR 10 0), some (vI x1), some (vI x2), some (vI (σ 1100 0 x2))]) dX10_cutOne_6 rfl (by decide) rfl ?_
  refine E_iload_n dX10_cutOne_7 rfl rfl ?_
  refine E_bp dX10_cutOne_8 rfl ?_
  refine E_bp dX10_cutOne_10 rfl ?_
  refine E_callN (Y' := Y_X11_within) (as := [vI (σ 1100 0 x2), vI 97, vI 122]) (st := []) dX10_cutOne_12 nk_RX10_36 m_X11_within (by decide) (Nat.le_refl _) (Nat.le_refl _) rfl rfl (Nat.le_of_ble_eq_true rfl) (s_X11_within h) (fun r0 B0 σ_1 h => ?_)
  obtain ⟨r_2, rfl, rfl, h⟩ := h
  refine E_if_eq (tgt := 25) dX10_cutOne_15 (by decide) (fun hc => ?_) (fun hc => ?_)
  · have h := Eq.mp (if_pos hc) h
    refine E_iload_n dX10_cutOne_25 rfl rfl ?_
    refine E_bp dX10_cutOne_26 rfl ?_
    refine E_bp dX10_cutOne_28 rfl ?_
    refine E_callN (Y' := Y_X11_within) (as := [vI (σ 1100 0 x2), vI 48, vI 57]) (st := []) dX10_cutOne_30 nk_RX10_36 m_X11_within (by decide) (Nat.le_refl _) (Nat.le_refl _) rfl rfl (Nat.le_of_ble_eq_true rfl) (s_X11_within h) (fun r0 B0 σ_3 h => ?_)
    obtain ⟨r_4, rfl, rfl, h⟩ := h
    refine E_if_eq (tgt := 43) dX10_cutOne_33 (by decide) (fun hc => ?_) (fun hc => ?_)
    · have h := Eq.mp (if_pos hc) h
      refine E_aload_n dX10_cutOne_43 rfl rfl ?_
      refine E_iload_n dX10_cutOne_44 rfl rfl ?_
      refine E_lds (i := 0) dX10_cutOne_45 (List.mem_of_getElem? (i := 0) rfl) ?_
      refine E_iload_n dX10_cutOne_47 rfl rfl ?_
      refine E_callZ (Y' := Y_J0_indexOf_0f7a4) (as := [vI (σ 1100 0 x2)]) (st := [vI x1, vR 10 0]) dX10_cutOne_48 lk_RX10_56 m_J0_indexOf_0f7a4 (by decide) (by decide) (Nat.le_refl _) (Nat.le_refl _) rfl rfl (Nat.le_of_ble_eq_true rfl) (s_J0_indexOf_0f7a4 h) (fun r0 B0 σ_5 h => ?_)
      obtain ⟨r_6, rfl, rfl, h⟩ := h
      refine E_if_lt (tgt := 58) dX10_cutOne_51 (by decide) (fun hc => ?_) (fun hc => ?_)
      · have h := Eq.mp (if_pos hc) h
        refine E_ic dX10_cutOne_58 rfl ?_
        refine E_wk2 [none, none, some (vI x2), some (vI (σ 1100 0 x2))] ⟨rfl, ⟨rfl, trivial⟩⟩ ?_
        exact e_P_X10_cutOne_J59 h
      · have h := Eq.mp (if_neg hc) h
        refine E_ic dX10_cutOne_54 rfl ?_
        refine E_goto (tgt := 59) dX10_cutOne_55 (by decide) ?_
        refine E_wk2 [none, none, some (vI x2), some (vI (σ 1100 0 x2))] ⟨rfl, ⟨rfl, trivial⟩⟩ ?_
        exact e_P_X10_cutOne_J59 h
    · have h := Eq.mp (if_neg hc) h
      refine E_aload_n dX10_cutOne_36 rfl rfl ?_
      refine E_iload_n dX10_cutOne_37 rfl rfl ?_
      refine E_iload_n dX10_cutOne_38 rfl rfl ?_
      refine E_callV (Y' := Y_X10_cutNumber) (as := [vI x1, vI x2]) (st := []) dX10_cutOne_39 lk_RX10_51 m_X10_cutNumber (by decide) (Nat.le_refl _) (Nat.le_refl _) rfl rfl (Nat.le_of_ble_eq_true rfl) (s_X10_cutNumber h) (fun r0 B0 σ_8 h => ?_)
      obtain ⟨r_9, rfl, rfl, h⟩ := h
      exact E_iret dX10_cutOne_42 rfl ⟨_, rfl, rfl, h⟩
  · have h := Eq.mp (if_neg hc) h
    refine E_aload_n dX10_cutOne_18 rfl rfl ?_
    refine E_iload_n dX10_cutOne_19 rfl rfl ?_
    refine E_iload_n dX10_cutOne_20 rfl rfl ?_
    refine E_callV (Y' := Y_X10_cutWord) (as := [vI x1, vI x2]) (st := []) dX10_cutOne_21 lk_RX10_48 m_X10_cutWord (by decide) (Nat.le_refl _) (Nat.le_refl _) rfl rfl (Nat.le_of_ble_eq_true rfl) (s_X10_cutWord h) (fun r0 B0 σ_10 h => ?_)
    obtain ⟨r_11, rfl, rfl, h⟩ := h
    exact E_iret dX10_cutOne_24 rfl ⟨_, rfl, rfl, h⟩
abbrev Y_X10_takeNumber : My := (yX10_takeNumber, cX10_takeNumber, 4, some .int)
theorem dX10_takeNumber_0 : decode cX10_takeNumber 0 = .ok (.aload_n 0, 1) := by decide +kernel
theorem dX10_takeNumber_1 : decode cX10_takeNumber 1 = .ok (.iload_n 1, 1) := by decide +kernel
theorem dX10_takeNumber_2 : decode cX10_takeNumber 2 = .ok (.iload_n 2, 1) := by decide +kernel
theorem dX10_takeNumber_3 : decode cX10_takeNumber 3 = .ok (.invokevirtual 106, 3) := by decide +kernel
theorem dX10_takeNumber_6 : decode cX10_takeNumber 6 = .ok (.istore_n 3, 1) := by decide +kernel
theorem dX10_takeNumber_7 : decode cX10_takeNumber 7 = .ok (.aload_n 0, 1) := by decide +kernel
theorem dX10_takeNumber_8 : decode cX10_takeNumber 8 = .ok (.invokevirtual 95, 3) := by decide +kernel
theorem dX10_takeNumber_11 : decode cX10_takeNumber 11 = .ok (.iload_n 3, 1) := by decide +kernel
theorem dX10_takeNumber_12 : decode cX10_takeNumber 12 = .ok (.ireturn, 1) := by decide +kernel
theorem lk_RX10_106 : Cond.methodLink RX10 106 yX10_numberHere ∈ tG := inG (i := 742) (by decide +kernel) (by decide +kernel)
theorem m_X10_numberHere : MV Y_X10_numberHere 2 10 := ⟨⟨inG (i := 728) (by decide +kernel) (by decide +kernel), inG (i := 99) (by decide +kernel) (by decide +kernel), by decide, by decide, by decide, by decide +kernel⟩, inG (i := 726) (by decide +kernel) (by decide +kernel), inG (i := 727) (by decide +kernel) (by decide +kernel), by decide⟩
def P_X10_takeNumber  (x1 : Int) (x2 : Int) (σ : St) (Q : Int → St → Prop) : Prop :=
  P_X10_numberHere x1 x2 σ (fun r_2 σ_1 => P_X10_next σ_1 (fun σ_3 => Q r_2 σ_3))
set_option maxRecDepth 20000 in
set_option maxHeartbeats 2000000 in
theorem s_X10_takeNumber   {x1 : Int} {x2 : Int} {σ : St} {Q : Int → St → Prop} (h : P_X10_takeNumber x1 x2 σ Q) : Cn Y_X10_takeNumber 2 0 0 ww σ [vR 10 0, vI x1, vI x2] (QI Q) := by
  refine Cn_of [some (vR 10 0), some (vI x1), some (vI x2), none] (by decide) (Nat.le_of_ble_eq_true rfl) rfl ?_
  unfold P_X10_takeNumber at h
  refine E_aload_n dX10_takeNumber_0 rfl rfl ?_
  refine E_iload_n dX10_takeNumber_1 rfl rfl ?_
  refine E_iload_n dX10_takeNumber_2 rfl rfl ?_
  refine E_callV (Y' := Y_X10_numberHere) (as := [vI x1, vI x2]) (st := []) dX10_takeNumber_3 lk_RX10_106 m_X10_numberHere (by decide) (Nat.le_refl _) (Nat.le_refl _) rfl rfl (Nat.le_of_ble_eq_true rfl) (s_X10_numberHere h) (fun r0 B0 σ_1 h => ?_)
  obtain ⟨r_2, rfl, rfl, h⟩ := h
  refine E_istore_n (ls' := [some (vR 10 0), some (vI x1), some (vI x2), some (vI r_2)]) dX10_takeNumber_6 rfl (by decide) rfl ?_
  refine E_aload_n dX10_takeNumber_7 rfl rfl ?_
  refine E_callV (Y' := Y_X10_next) (as := []) (st := []) dX10_takeNumber_8 lk_RX10_95 m_X10_next (by decide) (Nat.le_refl _) (Nat.le_refl _) rfl rfl (Nat.le_of_ble_eq_true rfl) (s_X10_next h) (fun r0 B0 σ_3 h => ?_)
  obtain ⟨rfl, rfl, h⟩ := h
  refine E_iload_n dX10_takeNumber_11 rfl rfl ?_
  exact E_iret dX10_takeNumber_12 rfl ⟨_, rfl, rfl, h⟩
abbrev Y_X11_judged : My := (yX11_judged, cX11_judged, 6, some .int)
theorem dX11_judged_0 : decode cX11_judged 0 = .ok (.iload_n 1, 1) := by decide +kernel
theorem dX11_judged_1 : decode cX11_judged 1 = .ok (.iconst 0, 1) := by decide +kernel
theorem dX11_judged_2 : decode cX11_judged 2 = .ok (.iconst 2, 1) := by decide +kernel
theorem dX11_judged_3 : decode cX11_judged 3 = .ok (.invokestatic 197, 3) := by decide +kernel
theorem dX11_judged_6 : decode cX11_judged 6 = .ok (.ifCond .ne 6, 3) := by decide +kernel
theorem dX11_judged_9 : decode cX11_judged 9 = .ok (.bipush (-2), 2) := by decide +kernel
theorem dX11_judged_11 : decode cX11_judged 11 = .ok (.ireturn, 1) := by decide +kernel
theorem dX11_judged_12 : decode cX11_judged 12 = .ok (.aload_n 0, 1) := by decide +kernel
theorem dX11_judged_13 : decode cX11_judged 13 = .ok (.getfield 54, 3) := by decide +kernel
theorem dX11_judged_16 : decode cX11_judged 16 = .ok (.invokevirtual 109, 3) := by decide +kernel
theorem dX11_judged_19 : decode cX11_judged 19 = .ok (.iconst (-1), 1) := by decide +kernel
theorem dX11_judged_20 : decode cX11_judged 20 = .ok (.istore_n 2, 1) := by decide +kernel
theorem dX11_judged_21 : decode cX11_judged 21 = .ok (.iconst (-1), 1) := by decide +kernel
theorem dX11_judged_22 : decode cX11_judged 22 = .ok (.istore_n 3, 1) := by decide +kernel
theorem dX11_judged_23 : decode cX11_judged 23 = .ok (.iconst 0, 1) := by decide +kernel
theorem dX11_judged_24 : decode cX11_judged 24 = .ok (.istore 4, 2) := by decide +kernel
theorem dX11_judged_26 : decode cX11_judged 26 = .ok (.iload 4, 2) := by decide +kernel
theorem dX11_judged_28 : decode cX11_judged 28 = .ok (.aload_n 0, 1) := by decide +kernel
theorem dX11_judged_29 : decode cX11_judged 29 = .ok (.getfield 29, 3) := by decide +kernel
theorem dX11_judged_32 : decode cX11_judged 32 = .ok (.getfield 112, 3) := by decide +kernel
theorem dX11_judged_35 : decode cX11_judged 35 = .ok (.if_icmp .ge 55, 3) := by decide +kernel
theorem dX11_judged_38 : decode cX11_judged 38 = .ok (.aload_n 0, 1) := by decide +kernel
theorem dX11_judged_39 : decode cX11_judged 39 = .ok (.getfield 29, 3) := by decide +kernel
theorem dX11_judged_42 : decode cX11_judged 42 = .ok (.iload 4, 2) := by decide +kernel
theorem dX11_judged_44 : decode cX11_judged 44 = .ok (.aload_n 0, 1) := by decide +kernel
theorem dX11_judged_45 : decode cX11_judged 45 = .ok (.getfield 54, 3) := by decide +kernel
theorem dX11_judged_48 : decode cX11_judged 48 = .ok (.invokevirtual 201, 3) := by decide +kernel
theorem dX11_judged_51 : decode cX11_judged 51 = .ok (.istore 5, 2) := by decide +kernel
theorem dX11_judged_53 : decode cX11_judged 53 = .ok (.iload 5, 2) := by decide +kernel
theorem dX11_judged_55 : decode cX11_judged 55 = .ok (.ifCond .ne 11, 3) := by decide +kernel
theorem dX11_judged_58 : decode cX11_judged 58 = .ok (.iload_n 2, 1) := by decide +kernel
theorem dX11_judged_59 : decode cX11_judged 59 = .ok (.iconst (-1), 1) := by decide +kernel
theorem dX11_judged_60 : decode cX11_judged 60 = .ok (.if_icmp .ne 6, 3) := by decide +kernel
theorem dX11_judged_63 : decode cX11_judged 63 = .ok (.iload 4, 2) := by decide +kernel
theorem dX11_judged_65 : decode cX11_judged 65 = .ok (.istore_n 2, 1) := by decide +kernel
theorem dX11_judged_66 : decode cX11_judged 66 = .ok (.iload_n 3, 1) := by decide +kernel
theorem dX11_judged_67 : decode cX11_judged 67 = .ok (.iconst (-1), 1) := by decide +kernel
theorem dX11_judged_68 : decode cX11_judged 68 = .ok (.if_icmp .ne 16, 3) := by decide +kernel
theorem dX11_judged_71 : decode cX11_judged 71 = .ok (.aload_n 0, 1) := by decide +kernel
theorem dX11_judged_72 : decode cX11_judged 72 = .ok (.getfield 54, 3) := by decide +kernel
theorem dX11_judged_75 : decode cX11_judged 75 = .ok (.invokevirtual 205, 3) := by decide +kernel
theorem dX11_judged_78 : decode cX11_judged 78 = .ok (.ifCond .eq 6, 3) := by decide +kernel
theorem dX11_judged_81 : decode cX11_judged 81 = .ok (.iload 4, 2) := by decide +kernel
theorem dX11_judged_83 : decode cX11_judged 83 = .ok (.istore_n 3, 1) := by decide +kernel
theorem dX11_judged_84 : decode cX11_judged 84 = .ok (.iinc 4 1, 3) := by decide +kernel
theorem dX11_judged_87 : decode cX11_judged 87 = .ok (.goto (-61), 3) := by decide +kernel
theorem dX11_judged_90 : decode cX11_judged 90 = .ok (.iload_n 1, 1) := by decide +kernel
theorem dX11_judged_91 : decode cX11_judged 91 = .ok (.iconst 2, 1) := by decide +kernel
theorem dX11_judged_92 : decode cX11_judged 92 = .ok (.if_icmp .ne 14, 3) := by decide +kernel
theorem dX11_judged_95 : decode cX11_judged 95 = .ok (.aload_n 0, 1) := by decide +kernel
theorem dX11_judged_96 : decode cX11_judged 96 = .ok (.getfield 54, 3) := by decide +kernel
theorem dX11_judged_99 : decode cX11_judged 99 = .ok (.invokevirtual 205, 3) := by decide +kernel
theorem dX11_judged_102 : decode cX11_judged 102 = .ok (.invokestatic 208, 3) := by decide +kernel
theorem dX11_judged_105 : decode cX11_judged 105 = .ok (.ireturn, 1) := by decide +kernel
theorem dX11_judged_106 : decode cX11_judged 106 = .ok (.iload_n 1, 1) := by decide +kernel
theorem dX11_judged_107 : decode cX11_judged 107 = .ok (.ifCond .ne 7, 3) := by decide +kernel
theorem dX11_judged_110 : decode cX11_judged 110 = .ok (.iload_n 2, 1) := by decide +kernel
theorem dX11_judged_111 : decode cX11_judged 111 = .ok (.goto 4, 3) := by decide +kernel
theorem dX11_judged_114 : decode cX11_judged 114 = .ok (.iload_n 3, 1) := by decide +kernel
theorem dX11_judged_115 : decode cX11_judged 115 = .ok (.ireturn, 1) := by decide +kernel
theorem lk_RX11_109 : Cond.methodLink RX11 109 yX9_open ∈ tG := inG (i := 848) (by decide +kernel) (by decide +kernel)
theorem lk_RX11_201 : Cond.methodLink RX11 201 yX3_perform ∈ tG := inG (i := 1041) (by decide +kernel) (by decide +kernel)
theorem m_X3_perform : MV Y_X3_perform 2 3 := ⟨⟨inG (i := 1044) (by decide +kernel) (by decide +kernel), inG (i := 102) (by decide +kernel) (by decide +kernel), by decide, by decide, by decide, by decide +kernel⟩, inG (i := 1042) (by decide +kernel) (by decide +kernel), inG (i := 1043) (by decide +kernel) (by decide +kernel), by decide⟩
theorem m_X9_open : MV Y_X9_open 0 9 := ⟨⟨inG (i := 851) (by decide +kernel) (by decide +kernel), inG (i := 104) (by decide +kernel) (by decide +kernel), by decide, by decide, by decide, by decide +kernel⟩, inG (i := 849) (by decide +kernel) (by decide +kernel), inG (i := 850) (by decide +kernel) (by decide +kernel), by decide⟩
def P_X11_judged_J66  (x1 : Int) (x2 : Int) (x3 : Int) (x4 : Int) (R : Int → Int → Int → St → Prop) (K : Int → Int → St → Prop) (Q : Int → St → Prop) (σ : St) : Prop :=
  (if x3 = (-1) then P_X9_astray 1 σ (fun r_7 σ_6 => (if r_7 = 0 then R x2 x3 (wi (x4 + 1)) σ_6 else R x2 x4 (wi (x4 + 1)) σ_6)) else R x2 x3 (wi (x4 + 1)) σ)
set_option maxRecDepth 20000 in
set_option maxHeartbeats 2000000 in
theorem e_P_X11_judged_J66  {x1 : Int} {x2 : Int} {x3 : Int} {x4 : Int} {R : Int → Int → Int → St → Prop} {K : Int → Int → St → Prop} {Q : Int → St → Prop} {σ : St}  (hR : ∀ x2 x3 x4 σ, R x2 x3 x4 σ → E Y_X11_judged 7 0 0 (QI Q) ww 0 0 26 [some (vR 11 0), some (vI x1), some (vI x2), some (vI x3), some (vI x4), none] [] σ) (hK : ∀ x2 x3 σ, K x2 x3 σ → E Y_X11_judged 7 0 0 (QI Q) ww 0 0 90 [some (vR 11 0), some (vI x1), some (vI x2), some (vI x3), none, none] [] σ) (h : P_X11_judged_J66 x1 x2 x3 x4 R K Q σ) : E Y_X11_judged 7 0 0 (QI Q) ww 0 0 66 [some (vR 11 0), some (vI x1), some (vI x2), some (vI x3), some (vI x4), none] [] σ := by
  unfold P_X11_judged_J66 at h
  refine E_iload_n dX11_judged_66 rfl rfl ?_
  refine E_ic dX11_judged_67 rfl ?_
  refine E_icmp_ne (tgt := 84) dX11_judged_68 (by decide) (fun hc => ?_) (fun hc => ?_)
  · have h := Eq.mp (if_neg hc) h
    refine E_iinc (ls' := [some (vR 11 0), some (vI x1), some (vI x2), some (vI x3), some (vI (wi (x4 + 1))), none]) dX11_judged_84 rfl (by decide) rfl rfl ?_
    refine E_goto (tgt := 26) dX11_judged_87 (by decide) ?_
    exact hR _ _ _ _ h
  · have h := Eq.mp (if_pos hc) h
    refine E_aload_n dX11_judged_71 rfl rfl ?_
    refine E_getr (i := 0) dX11_judged_72 fl_RX11_54 rfl rfl (go_11_7 _ _) ?_
    refine E_callV (Y' := Y_X9_astray) (as := []) (st := []) dX11_judged_75 lk_RX11_205 m_X9_astray (by decide) (Nat.le_refl _) (Nat.le_refl _) rfl rfl (Nat.le_of_ble_eq_true rfl) (s_X9_astray h) (fun r0 B0 σ_6 h => ?_)
    obtain ⟨r_7, rfl, rfl, h⟩ := h
    refine E_if_eq (tgt := 84) dX11_judged_78 (by decide) (fun hc => ?_) (fun hc => ?_)
    · have h := Eq.mp (if_pos hc) h
      refine E_iinc (ls' := [some (vR 11 0), some (vI x1), some (vI x2), some (vI x3), some (vI (wi (x4 + 1))), none]) dX11_judged_84 rfl (by decide) rfl rfl ?_
      refine E_goto (tgt := 26) dX11_judged_87 (by decide) ?_
      exact hR _ _ _ _ h
    · have h := Eq.mp (if_neg hc) h
      refine E_iload dX11_judged_81 rfl ?_
      refine E_istore_n (ls' := [some (vR 11 0), some (vI x1), some (vI x2), some (vI x4), some (vI x4), none]) dX11_judged_83 rfl (by decide) rfl ?_
      refine E_iinc (ls' := [some (vR 11 0), some (vI x1), some (vI x2), some (vI x4), some (vI (wi (x4 + 1))), none]) dX11_judged_84 rfl (by decide) rfl rfl ?_
      refine E_goto (tgt := 26) dX11_judged_87 (by decide) ?_
      exact hR _ _ _ _ h
def P_X11_judged_L26  (x1 : Int) (K : Int → Int → St → Prop) (Q : Int → St → Prop) : Nat → Int → Int → Int → St → Prop
  | 0, _, _, _, _ => False
  | n + 1, x2, x3, x4, σ => (if (σ 3 0 3) ≤ x4 then K x2 x3 σ else P_X3_perform 0 x4 1 σ (fun r_5 σ_4 => (if r_5 = 0 then (if x2 = (-1) then P_X11_judged_J66 x1 x4 x3 x4 (P_X11_judged_L26 x1 K Q n) K Q σ_4 else P_X11_judged_J66 x1 x2 x3 x4 (P_X11_judged_L26 x1 K Q n) K Q σ_4) else P_X11_judged_J66 x1 x2 x3 x4 (P_X11_judged_L26 x1 K Q n) K Q σ_4)))
set_option maxRecDepth 20000 in
set_option maxHeartbeats 2000000 in
theorem e_P_X11_judged_L26  {x1 : Int} {K : Int → Int → St → Prop} {Q : Int → St → Prop}  (hK : ∀ x2 x3 σ, K x2 x3 σ → E Y_X11_judged 7 0 0 (QI Q) ww 0 0 90 [some (vR 11 0), some (vI x1), some (vI x2), some (vI x3), none, none] [] σ) : ∀ (n : Nat) (x2 : Int) (x3 : Int) (x4 : Int) (σ : St), P_X11_judged_L26 x1 K Q n x2 x3 x4 σ → E Y_X11_judged 7 0 0 (QI Q) ww 0 0 26 [some (vR 11 0), some (vI x1), some (vI x2), some (vI x3), some (vI x4), none] [] σ := by
  intro n
  induction n with
  | zero => intro x2 x3 x4 σ h; exact h.elim
  | succ n hR =>
    intro x2 x3 x4 σ h
    unfold P_X11_judged_L26 at h
    refine E_iload dX11_judged_26 rfl ?_
    refine E_aload_n dX11_judged_28 rfl rfl ?_
    refine E_getr (i := 0) dX11_judged_29 fl_RX11_29 rfl rfl (go_11_3 _ _) ?_
    refine E_geti (i := 0) dX11_judged_32 fl_RX11_112 rfl ?_
    refine E_icmp_ge (tgt := 90) dX11_judged_35 (by decide) (fun hc => ?_) (fun hc => ?_)
    · have h := Eq.mp (if_pos hc) h
      refine E_wk2 [some (vR 11 0), some (vI x1), some (vI x2), some (vI x3), none, none] ⟨rfl, ⟨rfl, ⟨rfl, ⟨rfl, trivial⟩⟩⟩⟩ ?_
      exact hK _ _ _ h
    · have h := Eq.mp (if_neg hc) h
      refine E_aload_n dX11_judged_38 rfl rfl ?_
      refine E_getr (i := 0) dX11_judged_39 fl_RX11_29 rfl rfl (go_11_3 _ _) ?_
      refine E_iload dX11_judged_42 rfl ?_
      refine E_aload_n dX11_judged_44 rfl rfl ?_
      refine E_getr (i := 0) dX11_judged_45 fl_RX11_54 rfl rfl (go_11_7 _ _) ?_
      refine E_callV (Y' := Y_X3_perform) (as := [vI x4, vR 9 1]) (st := []) dX11_judged_48 lk_RX11_201 m_X3_perform (by decide) (Nat.le_refl _) (Nat.le_refl _) rfl rfl (Nat.le_of_ble_eq_true rfl) (s_X3_perform h) (fun r0 B0 σ_4 h => ?_)
      obtain ⟨r_5, rfl, rfl, h⟩ := h
      refine E_istore (ls' := [some (vR 11 0), some (vI x1), some (vI x2), some (vI x3), some (vI x4), some (vI r_5)]) dX11_judged_51 (by decide) rfl ?_
      refine E_iload dX11_judged_53 rfl ?_
      refine E_if_ne (tgt := 66) dX11_judged_55 (by decide) (fun hc => ?_) (fun hc => ?_)
      · have h := Eq.mp (if_neg hc) h
        refine E_wk2 [some (vR 11 0), some (vI x1), some (vI x2), some (vI x3), some (vI x4), none] ⟨rfl, ⟨rfl, ⟨rfl, ⟨rfl, ⟨rfl, trivial⟩⟩⟩⟩⟩ ?_
        exact e_P_X11_judged_J66 hR hK h
      · have h := Eq.mp (if_pos hc) h
        refine E_iload_n dX11_judged_58 rfl rfl ?_
        refine E_ic dX11_judged_59 rfl ?_
        refine E_icmp_ne (tgt := 66) dX11_judged_60 (by decide) (fun hc => ?_) (fun hc => ?_)
        · have h := Eq.mp (if_neg hc) h
          refine E_wk2 [some (vR 11 0), some (vI x1), some (vI x2), some (vI x3), some (vI x4), none] ⟨rfl, ⟨rfl, ⟨rfl, ⟨rfl, ⟨rfl, trivial⟩⟩⟩⟩⟩ ?_
          exact e_P_X11_judged_J66 hR hK h
        · have h := Eq.mp (if_pos hc) h
          refine E_iload dX11_judged_63 rfl ?_
          refine E_istore_n (ls' := [some (vR 11 0), some (vI x1), some (vI x4), some (vI x3), some (vI x4), some (vI r_5)]) dX11_judged_65 rfl (by decide) rfl ?_
          refine E_wk2 [some (vR 11 0), some (vI x1), some (vI x4), some (vI x3), some (vI x4), none] ⟨rfl, ⟨rfl, ⟨rfl, ⟨rfl, ⟨rfl, trivial⟩⟩⟩⟩⟩ ?_
          exact e_P_X11_judged_J66 hR hK h
def P_X11_judged  (x1 : Int) (σ : St) (Q : Int → St → Prop) : Prop :=
  P_X11_within x1 0 2 σ (fun r_2 σ_1 => (if r_2 = 0 then Q (-2) σ_1 else P_X9_open 1 σ_1 (fun σ_3 => P_X11_judged_L26 x1 (fun x2_8 x3_9 σ_10 => (if x1 = 2 then P_X9_astray 1 σ_10 (fun r_12 σ_11 => P_J6_bitCount_0f7a4 r_12 σ_11 (fun r_14 σ_13 => Q r_14 σ_13)) else (if x1 = 0 then Q x2_8 σ_10 else Q x3_9 σ_10))) Q FU (-1) (-1) 0 σ_3)))
set_option maxRecDepth 20000 in
set_option maxHeartbeats 2000000 in
theorem s_X11_judged   {x1 : Int} {σ : St} {Q : Int → St → Prop} (h : P_X11_judged x1 σ Q) : Cn Y_X11_judged 7 0 0 ww σ [vR 11 0, vI x1] (QI Q) := by
  refine Cn_of [some (vR 11 0), some (vI x1), none, none, none, none] (by decide) (Nat.le_of_ble_eq_true rfl) rfl ?_
  unfold P_X11_judged at h
  refine E_iload_n dX11_judged_0 rfl rfl ?_
  refine E_ic dX11_judged_1 rfl ?_
  refine E_ic dX11_judged_2 rfl ?_
  refine E_callS (Y' := Y_X11_within) (as := [vI x1, vI 0, vI 2]) (st := []) dX11_judged_3 lk_RX11_197 m_X11_within (by decide) (Nat.le_refl _) (Nat.le_refl _) rfl rfl (Nat.le_of_ble_eq_true rfl) (s_X11_within h) (fun r0 B0 σ_1 h => ?_)
  obtain ⟨r_2, rfl, rfl, h⟩ := h
  refine E_if_ne (tgt := 12) dX11_judged_6 (by decide) (fun hc => ?_) (fun hc => ?_)
  · have h := Eq.mp (if_neg hc) h
    refine E_aload_n dX11_judged_12 rfl rfl ?_
    refine E_getr (i := 0) dX11_judged_13 fl_RX11_54 rfl rfl (go_11_7 _ _) ?_
    refine E_callV (Y' := Y_X9_open) (as := []) (st := []) dX11_judged_16 lk_RX11_109 m_X9_open (by decide) (Nat.le_refl _) (Nat.le_refl _) rfl rfl (Nat.le_of_ble_eq_true rfl) (s_X9_open h) (fun r0 B0 σ_3 h => ?_)
    obtain ⟨rfl, rfl, h⟩ := h
    refine E_ic dX11_judged_19 rfl ?_
    refine E_istore_n (ls' := [some (vR 11 0), some (vI x1), some (vI (-1)), none, none, none]) dX11_judged_20 rfl (by decide) rfl ?_
    refine E_ic dX11_judged_21 rfl ?_
    refine E_istore_n (ls' := [some (vR 11 0), some (vI x1), some (vI (-1)), some (vI (-1)), none, none]) dX11_judged_22 rfl (by decide) rfl ?_
    refine E_ic dX11_judged_23 rfl ?_
    refine E_istore (ls' := [some (vR 11 0), some (vI x1), some (vI (-1)), some (vI (-1)), some (vI 0), none]) dX11_judged_24 (by decide) rfl ?_
    refine e_P_X11_judged_L26 ?_ _ _ _ _ _ h
    · intro x2_8 x3_9 σ_10 h
      refine E_iload_n dX11_judged_90 rfl rfl ?_
      refine E_ic dX11_judged_91 rfl ?_
      refine E_icmp_ne (tgt := 106) dX11_judged_92 (by decide) (fun hc => ?_) (fun hc => ?_)
      · have h := Eq.mp (if_neg hc) h
        refine E_iload_n dX11_judged_106 rfl rfl ?_
        refine E_if_ne (tgt := 114) dX11_judged_107 (by decide) (fun hc => ?_) (fun hc => ?_)
        · have h := Eq.mp (if_neg hc) h
          refine E_iload_n dX11_judged_114 rfl rfl ?_
          exact E_iret dX11_judged_115 rfl ⟨_, rfl, rfl, h⟩
        · have h := Eq.mp (if_pos hc) h
          refine E_iload_n dX11_judged_110 rfl rfl ?_
          refine E_goto (tgt := 115) dX11_judged_111 (by decide) ?_
          exact E_iret dX11_judged_115 rfl ⟨_, rfl, rfl, h⟩
      · have h := Eq.mp (if_pos hc) h
        refine E_aload_n dX11_judged_95 rfl rfl ?_
        refine E_getr (i := 0) dX11_judged_96 fl_RX11_54 rfl rfl (go_11_7 _ _) ?_
        refine E_callV (Y' := Y_X9_astray) (as := []) (st := []) dX11_judged_99 lk_RX11_205 m_X9_astray (by decide) (Nat.le_refl _) (Nat.le_refl _) rfl rfl (Nat.le_of_ble_eq_true rfl) (s_X9_astray h) (fun r0 B0 σ_11 h => ?_)
        obtain ⟨r_12, rfl, rfl, h⟩ := h
        refine E_callS (Y' := Y_J6_bitCount_0f7a4) (as := [vI r_12]) (st := []) dX11_judged_102 lk_RX11_208 m_J6_bitCount_0f7a4 (by decide) (Nat.le_refl _) (Nat.le_refl _) rfl rfl (Nat.le_of_ble_eq_true rfl) (s_J6_bitCount_0f7a4 h) (fun r0 B0 σ_13 h => ?_)
        obtain ⟨r_14, rfl, rfl, h⟩ := h
        exact E_iret dX11_judged_105 rfl ⟨_, rfl, rfl, h⟩
  · have h := Eq.mp (if_pos hc) h
    refine E_bp dX11_judged_9 rfl ?_
    exact E_iret dX11_judged_11 rfl ⟨_, rfl, rfl, h⟩
abbrev Y_X11_shave : My := (yX11_shave, cX11_shave, 2, some .int)
theorem dX11_shave_0 : decode cX11_shave 0 = .ok (.aload_n 0, 1) := by decide +kernel
theorem dX11_shave_1 : decode cX11_shave 1 = .ok (.getfield 19, 3) := by decide +kernel
theorem dX11_shave_4 : decode cX11_shave 4 = .ok (.iload_n 1, 1) := by decide +kernel
theorem dX11_shave_5 : decode cX11_shave 5 = .ok (.invokevirtual 142, 3) := by decide +kernel
theorem dX11_shave_8 : decode cX11_shave 8 = .ok (.ifCond .eq 14, 3) := by decide +kernel
theorem dX11_shave_11 : decode cX11_shave 11 = .ok (.aload_n 0, 1) := by decide +kernel
theorem dX11_shave_12 : decode cX11_shave 12 = .ok (.getfield 89, 3) := by decide +kernel
theorem dX11_shave_15 : decode cX11_shave 15 = .ok (.iload_n 1, 1) := by decide +kernel
theorem dX11_shave_16 : decode cX11_shave 16 = .ok (.invokevirtual 232, 3) := by decide +kernel
theorem dX11_shave_19 : decode cX11_shave 19 = .ok (.goto 4, 3) := by decide +kernel
theorem dX11_shave_22 : decode cX11_shave 22 = .ok (.iconst (-1), 1) := by decide +kernel
theorem dX11_shave_23 : decode cX11_shave 23 = .ok (.ireturn, 1) := by decide +kernel
theorem lk_RX11_232 : Cond.methodLink RX11 232 yX1_leastChange ∈ tG := inG (i := 1108) (by decide +kernel) (by decide +kernel)
theorem m_X1_leastChange : MV Y_X1_leastChange 1 1 := ⟨⟨inG (i := 1111) (by decide +kernel) (by decide +kernel), inG (i := 108) (by decide +kernel) (by decide +kernel), by decide, by decide, by decide, by decide +kernel⟩, inG (i := 1109) (by decide +kernel) (by decide +kernel), inG (i := 1110) (by decide +kernel) (by decide +kernel), by decide⟩
def P_X11_shave  (x1 : Int) (σ : St) (Q : Int → St → Prop) : Prop :=
  P_X8_hasBall 0 x1 σ (fun r_2 σ_1 => (if r_2 = 0 then Q (-1) σ_1 else P_X1_leastChange x1 σ_1 (fun r_4 σ_3 => Q r_4 σ_3)))
set_option maxRecDepth 20000 in
set_option maxHeartbeats 2000000 in
theorem s_X11_shave   {x1 : Int} {σ : St} {Q : Int → St → Prop} (h : P_X11_shave x1 σ Q) : Cn Y_X11_shave 3 0 0 ww σ [vR 11 0, vI x1] (QI Q) := by
  refine Cn_of [some (vR 11 0), some (vI x1)] (by decide) (Nat.le_of_ble_eq_true rfl) rfl ?_
  unfold P_X11_shave at h
  refine E_aload_n dX11_shave_0 rfl rfl ?_
  refine E_getr (i := 0) dX11_shave_1 fl_RX11_19 rfl rfl (go_11_1 _ _) ?_
  refine E_iload_n dX11_shave_4 rfl rfl ?_
  refine E_callV (Y' := Y_X8_hasBall) (as := [vI x1]) (st := []) dX11_shave_5 lk_RX11_142 m_X8_hasBall (by decide) (Nat.le_refl _) (Nat.le_refl _) rfl rfl (Nat.le_of_ble_eq_true rfl) (s_X8_hasBall h) (fun r0 B0 σ_1 h => ?_)
  obtain ⟨r_2, rfl, rfl, h⟩ := h
  refine E_if_eq (tgt := 22) dX11_shave_8 (by decide) (fun hc => ?_) (fun hc => ?_)
  · have h := Eq.mp (if_pos hc) h
    refine E_ic dX11_shave_22 rfl ?_
    exact E_iret dX11_shave_23 rfl ⟨_, rfl, rfl, h⟩
  · have h := Eq.mp (if_neg hc) h
    refine E_aload_n dX11_shave_11 rfl rfl ?_
    refine E_getr (i := 0) dX11_shave_12 fl_RX11_89 rfl rfl (go_11_12 _ _) ?_
    refine E_iload_n dX11_shave_15 rfl rfl ?_
    refine E_callV (Y' := Y_X1_leastChange) (as := [vI x1]) (st := []) dX11_shave_16 lk_RX11_232 m_X1_leastChange (by decide) (Nat.le_refl _) (Nat.le_refl _) rfl rfl (Nat.le_of_ble_eq_true rfl) (s_X1_leastChange h) (fun r0 B0 σ_3 h => ?_)
    obtain ⟨r_4, rfl, rfl, h⟩ := h
    refine E_goto (tgt := 23) dX11_shave_19 (by decide) ?_
    exact E_iret dX11_shave_23 rfl ⟨_, rfl, rfl, h⟩
abbrev Y_X0_look : My := (yX0_look, cX0_look, 5, none)
theorem dX0_look_0 : decode cX0_look 0 = .ok (.aload_n 0, 1) := by decide +kernel
theorem dX0_look_1 : decode cX0_look 1 = .ok (.getfield 11, 3) := by decide +kernel
theorem dX0_look_4 : decode cX0_look 4 = .ok (.iload_n 1, 1) := by decide +kernel
theorem dX0_look_5 : decode cX0_look 5 = .ok (.aaload, 1) := by decide +kernel
theorem dX0_look_6 : decode cX0_look 6 = .ok (.astore_n 3, 1) := by decide +kernel
theorem dX0_look_7 : decode cX0_look 7 = .ok (.aload_n 3, 1) := by decide +kernel
theorem dX0_look_8 : decode cX0_look 8 = .ok (.iconst 0, 1) := by decide +kernel
theorem dX0_look_9 : decode cX0_look 9 = .ok (.aload_n 0, 1) := by decide +kernel
theorem dX0_look_10 : decode cX0_look 10 = .ok (.getfield 20, 3) := by decide +kernel
theorem dX0_look_13 : decode cX0_look 13 = .ok (.getfield 24, 3) := by decide +kernel
theorem dX0_look_16 : decode cX0_look 16 = .ok (.iload_n 1, 1) := by decide +kernel
theorem dX0_look_17 : decode cX0_look 17 = .ok (.iaload, 1) := by decide +kernel
theorem dX0_look_18 : decode cX0_look 18 = .ok (.iastore, 1) := by decide +kernel
theorem dX0_look_19 : decode cX0_look 19 = .ok (.iconst 0, 1) := by decide +kernel
theorem dX0_look_20 : decode cX0_look 20 = .ok (.istore 4, 2) := by decide +kernel
theorem dX0_look_22 : decode cX0_look 22 = .ok (.iload 4, 2) := by decide +kernel
theorem dX0_look_24 : decode cX0_look 24 = .ok (.iload_n 2, 1) := by decide +kernel
theorem dX0_look_25 : decode cX0_look 25 = .ok (.if_icmp .ge 50, 3) := by decide +kernel
theorem dX0_look_28 : decode cX0_look 28 = .ok (.iload 4, 2) := by decide +kernel
theorem dX0_look_30 : decode cX0_look 30 = .ok (.bipush 60, 2) := by decide +kernel
theorem dX0_look_32 : decode cX0_look 32 = .ok (.if_icmp .ge 43, 3) := by decide +kernel
theorem dX0_look_35 : decode cX0_look 35 = .ok (.aload_n 3, 1) := by decide +kernel
theorem dX0_look_36 : decode cX0_look 36 = .ok (.iload 4, 2) := by decide +kernel
theorem dX0_look_38 : decode cX0_look 38 = .ok (.iconst 1, 1) := by decide +kernel
theorem dX0_look_39 : decode cX0_look 39 = .ok (.iadd, 1) := by decide +kernel
theorem dX0_look_40 : decode cX0_look 40 = .ok (.aload_n 0, 1) := by decide +kernel
theorem dX0_look_41 : decode cX0_look 41 = .ok (.iload_n 1, 1) := by decide +kernel
theorem dX0_look_42 : decode cX0_look 42 = .ok (.aload_n 3, 1) := by decide +kernel
theorem dX0_look_43 : decode cX0_look 43 = .ok (.iload 4, 2) := by decide +kernel
theorem dX0_look_45 : decode cX0_look 45 = .ok (.iaload, 1) := by decide +kernel
theorem dX0_look_46 : decode cX0_look 46 = .ok (.iload 4, 2) := by decide +kernel
theorem dX0_look_48 : decode cX0_look 48 = .ok (.aload_n 0, 1) := by decide +kernel
theorem dX0_look_49 : decode cX0_look 49 = .ok (.getfield 16, 3) := by decide +kernel
theorem dX0_look_52 : decode cX0_look 52 = .ok (.aload_n 0, 1) := by decide +kernel
theorem dX0_look_53 : decode cX0_look 53 = .ok (.getfield 20, 3) := by decide +kernel
theorem dX0_look_56 : decode cX0_look 56 = .ok (.getfield 29, 3) := by decide +kernel
theorem dX0_look_59 : decode cX0_look 59 = .ok (.iload 4, 2) := by decide +kernel
theorem dX0_look_61 : decode cX0_look 61 = .ok (.iadd, 1) := by decide +kernel
theorem dX0_look_62 : decode cX0_look 62 = .ok (.invokevirtual 33, 3) := by decide +kernel
theorem dX0_look_65 : decode cX0_look 65 = .ok (.invokevirtual 39, 3) := by decide +kernel
theorem dX0_look_68 : decode cX0_look 68 = .ok (.iastore, 1) := by decide +kernel
theorem dX0_look_69 : decode cX0_look 69 = .ok (.iinc 4 1, 3) := by decide +kernel
theorem dX0_look_72 : decode cX0_look 72 = .ok (.goto (-50), 3) := by decide +kernel
theorem dX0_look_75 : decode cX0_look 75 = .ok (.return_, 1) := by decide +kernel
theorem fl_RX0_24 : FL RX0 24 9 2 := ⟨inG (i := 309) (by decide +kernel) (by decide +kernel), by decide, by decide⟩
theorem lk_RX0_33 : Cond.methodLink RX0 33 yX8_dampOn ∈ tG := inG (i := 1181) (by decide +kernel) (by decide +kernel)
def P_X0_look_L22  (x1 : Int) (x2 : Int) (o3 : Nat)  (Q : St → Prop) : Nat → Int → St → Prop
  | 0, _, _ => False
  | n + 1, x4, σ => (if x2 ≤ x4 then Q σ else (if 60 ≤ x4 then Q σ else 0 ≤ x4 ∧ x4 < 61 ∧ P_X8_dampOn 0 (wi ((σ 9 0 10) + x4)) σ (fun r_2 σ_1 => P_X0_sizeNext x1 (σ 152 o3 x4) x4 r_2 σ_1 (fun r_4 σ_3 => 0 ≤ wi (x4 + 1) ∧ wi (x4 + 1) < 61 ∧ (P_X0_look_L22 x1 x2 o3 Q n) (wi (x4 + 1)) (up σ_3 152 o3 (wi (x4 + 1)) r_4)))))
set_option maxRecDepth 20000 in
set_option maxHeartbeats 2000000 in
theorem e_P_X0_look_L22  {x1 : Int} {x2 : Int} {o3 : Nat}  {Q : St → Prop}   : ∀ (n : Nat) (x4 : Int) (σ : St), P_X0_look_L22 x1 x2 o3 Q n x4 σ → E Y_X0_look 4 0 0 (QV Q) ww 0 0 22 [some (vR 0 0), some (vI x1), some (vI x2), some (vR 152 o3), some (vI x4)] [] σ := by
  intro n
  induction n with
  | zero => intro x4 σ h; exact h.elim
  | succ n hR =>
    intro x4 σ h
    unfold P_X0_look_L22 at h
    refine E_iload dX0_look_22 rfl ?_
    refine E_iload_n dX0_look_24 rfl rfl ?_
    refine E_icmp_ge (tgt := 75) dX0_look_25 (by decide) (fun hc => ?_) (fun hc => ?_)
    · have h := Eq.mp (if_pos hc) h
      exact E_vret dX0_look_75 rfl ⟨rfl, rfl, h⟩
    · have h := Eq.mp (if_neg hc) h
      refine E_iload dX0_look_28 rfl ?_
      refine E_bp dX0_look_30 rfl ?_
      refine E_icmp_ge (tgt := 75) dX0_look_32 (by decide) (fun hc => ?_) (fun hc => ?_)
      · have h := Eq.mp (if_pos hc) h
        exact E_vret dX0_look_75 rfl ⟨rfl, rfl, h⟩
      · have h := Eq.mp (if_neg hc) h
        refine E_aload_n dX0_look_35 rfl rfl ?_
        refine E_iload dX0_look_36 rfl ?_
        refine E_ic dX0_look_38 rfl ?_
        refine E_iadd dX0_look_39 ?_
        refine E_aload_n dX0_look_40 rfl rfl ?_
        refine E_iload_n dX0_look_41 rfl rfl ?_
        refine E_aload_n dX0_look_42 rfl rfl ?_
        refine E_iload dX0_look_43 rfl ?_
        obtain ⟨hg0, hg1, h⟩ := h
        refine E_iald dX0_look_45 sh_152 hg0 hg1 ?_
        refine E_iload dX0_look_46 rfl ?_
        refine E_aload_n dX0_look_48 rfl rfl ?_
        refine E_getr (i := 0) dX0_look_49 fl_RX0_16 rfl rfl (go_0_0 _ _) ?_
        refine E_aload_n dX0_look_52 rfl rfl ?_
        refine E_getr (i := 0) dX0_look_53 fl_RX0_20 rfl rfl (go_0_1 _ _) ?_
        refine E_geti (i := 0) dX0_look_56 fl_RX0_29 rfl ?_
        refine E_iload dX0_look_59 rfl ?_
        refine E_iadd dX0_look_61 ?_
        refine E_callV (Y' := Y_X8_dampOn) (as := [vI (wi ((σ 9 0 10) + x4))]) (st := [vI x4, vI (σ 152 o3 x4), vI x1, vR 0 0, vI (wi (x4 + 1)), vR 152 o3]) dX0_look_62 lk_RX0_33 m_X8_dampOn (by decide) (Nat.le_refl _) (Nat.le_refl _) rfl rfl (Nat.le_of_ble_eq_true rfl) (s_X8_dampOn h) (fun r0 B0 σ_1 h => ?_)
        obtain ⟨r_2, rfl, rfl, h⟩ := h
        refine E_callV (Y' := Y_X0_sizeNext) (as := [vI x1, vI (σ 152 o3 x4), vI x4, vI r_2]) (st := [vI (wi (x4 + 1)), vR 152 o3]) dX0_look_65 lk_RX0_39 m_X0_sizeNext (by decide) (Nat.le_refl _) (Nat.le_refl _) rfl rfl (Nat.le_of_ble_eq_true rfl) (s_X0_sizeNext h) (fun r0 B0 σ_3 h => ?_)
        obtain ⟨r_4, rfl, rfl, h⟩ := h
        obtain ⟨hg0, hg1, h⟩ := h
        refine E_iast dX0_look_68 sh_152 hg0 hg1 ?_
        refine E_iinc (ls' := [some (vR 0 0), some (vI x1), some (vI x2), some (vR 152 o3), some (vI (wi (x4 + 1)))]) dX0_look_69 rfl (by decide) rfl rfl ?_
        refine E_goto (tgt := 22) dX0_look_72 (by decide) ?_
        exact hR _ _ h
def P_X0_look  (x1 : Int) (x2 : Int) (σ : St) (Q : St → Prop) : Prop :=
  0 ≤ x1 ∧ x1 < 6 ∧ 0 ≤ x1 ∧ x1 < 6 ∧ P_X0_look_L22 x1 x2 x1.toNat Q FU 0 (up σ 152 x1.toNat 0 (σ 1002 0 x1))
set_option maxRecDepth 20000 in
set_option maxHeartbeats 2000000 in
theorem s_X0_look   {x1 : Int} {x2 : Int} {σ : St} {Q : St → Prop} (h : P_X0_look x1 x2 σ Q) : Cn Y_X0_look 4 0 0 ww σ [vR 0 0, vI x1, vI x2] (QV Q) := by
  refine Cn_of [some (vR 0 0), some (vI x1), some (vI x2), none, none] (by decide) (Nat.le_of_ble_eq_true rfl) rfl ?_
  unfold P_X0_look at h
  refine E_aload_n dX0_look_0 rfl rfl ?_
  refine E_getr (i := 0) dX0_look_1 fl_RX0_11 rfl rfl (go_0_2 _ _) ?_
  refine E_iload_n dX0_look_4 rfl rfl ?_
  obtain ⟨hg0, hg1, h⟩ := h
  refine E_aald dX0_look_5 sh_102 (by decide) (by decide) hg0 hg1 (wwA sh_102 hg0 hg1) rfl ?_
  refine E_astore_n (ls' := [some (vR 0 0), some (vI x1), some (vI x2), some (vR 152 x1.toNat), none]) dX0_look_6 rfl (by decide) rfl ?_
  refine E_aload_n dX0_look_7 rfl rfl ?_
  refine E_ic dX0_look_8 rfl ?_
  refine E_aload_n dX0_look_9 rfl rfl ?_
  refine E_getr (i := 0) dX0_look_10 fl_RX0_20 rfl rfl (go_0_1 _ _) ?_
  refine E_getr (i := 0) dX0_look_13 fl_RX0_24 rfl rfl (go_9_2 _ _) ?_
  refine E_iload_n dX0_look_16 rfl rfl ?_
  obtain ⟨hg0, hg1, h⟩ := h
  refine E_iald dX0_look_17 sh_1002 hg0 hg1 ?_
  refine E_iast dX0_look_18 sh_152 (by decide) (by decide) ?_
  refine E_ic dX0_look_19 rfl ?_
  refine E_istore (ls' := [some (vR 0 0), some (vI x1), some (vI x2), some (vR 152 x1.toNat), some (vI 0)]) dX0_look_20 (by decide) rfl ?_
  refine e_P_X0_look_L22  _ _ _ h
abbrev Y_X0_firstAstray : My := (yX0_firstAstray, cX0_firstAstray, 3, some .int)
theorem dX0_firstAstray_0 : decode cX0_firstAstray 0 = .ok (.aload_n 0, 1) := by decide +kernel
theorem dX0_firstAstray_1 : decode cX0_firstAstray 1 = .ok (.iload_n 1, 1) := by decide +kernel
theorem dX0_firstAstray_2 : decode cX0_firstAstray 2 = .ok (.bipush 60, 2) := by decide +kernel
theorem dX0_firstAstray_4 : decode cX0_firstAstray 4 = .ok (.invokevirtual 57, 3) := by decide +kernel
theorem dX0_firstAstray_7 : decode cX0_firstAstray 7 = .ok (.iconst 0, 1) := by decide +kernel
theorem dX0_firstAstray_8 : decode cX0_firstAstray 8 = .ok (.istore_n 2, 1) := by decide +kernel
theorem dX0_firstAstray_9 : decode cX0_firstAstray 9 = .ok (.iload_n 2, 1) := by decide +kernel
theorem dX0_firstAstray_10 : decode cX0_firstAstray 10 = .ok (.bipush 60, 2) := by decide +kernel
theorem dX0_firstAstray_12 : decode cX0_firstAstray 12 = .ok (.if_icmp .gt 29, 3) := by decide +kernel
theorem dX0_firstAstray_15 : decode cX0_firstAstray 15 = .ok (.aload_n 0, 1) := by decide +kernel
theorem dX0_firstAstray_16 : decode cX0_firstAstray 16 = .ok (.iload_n 1, 1) := by decide +kernel
theorem dX0_firstAstray_17 : decode cX0_firstAstray 17 = .ok (.iload_n 2, 1) := by decide +kernel
theorem dX0_firstAstray_18 : decode cX0_firstAstray 18 = .ok (.invokevirtual 61, 3) := by decide +kernel
theorem dX0_firstAstray_21 : decode cX0_firstAstray 21 = .ok (.aload_n 0, 1) := by decide +kernel
theorem dX0_firstAstray_22 : decode cX0_firstAstray 22 = .ok (.getfield 16, 3) := by decide +kernel
theorem dX0_firstAstray_25 : decode cX0_firstAstray 25 = .ok (.getfield 65, 3) := by decide +kernel
theorem dX0_firstAstray_28 : decode cX0_firstAstray 28 = .ok (.iload_n 1, 1) := by decide +kernel
theorem dX0_firstAstray_29 : decode cX0_firstAstray 29 = .ok (.iaload, 1) := by decide +kernel
theorem dX0_firstAstray_30 : decode cX0_firstAstray 30 = .ok (.if_icmp .eq 5, 3) := by decide +kernel
theorem dX0_firstAstray_33 : decode cX0_firstAstray 33 = .ok (.iload_n 2, 1) := by decide +kernel
theorem dX0_firstAstray_34 : decode cX0_firstAstray 34 = .ok (.ireturn, 1) := by decide +kernel
theorem dX0_firstAstray_35 : decode cX0_firstAstray 35 = .ok (.iinc 2 1, 3) := by decide +kernel
theorem dX0_firstAstray_38 : decode cX0_firstAstray 38 = .ok (.goto (-29), 3) := by decide +kernel
theorem dX0_firstAstray_41 : decode cX0_firstAstray 41 = .ok (.iconst (-1), 1) := by decide +kernel
theorem dX0_firstAstray_42 : decode cX0_firstAstray 42 = .ok (.ireturn, 1) := by decide +kernel
theorem lk_RX0_57 : Cond.methodLink RX0 57 yX0_look ∈ tG := inG (i := 1195) (by decide +kernel) (by decide +kernel)
theorem m_X0_look : MV Y_X0_look 2 0 := ⟨⟨inG (i := 1180) (by decide +kernel) (by decide +kernel), inG (i := 107) (by decide +kernel) (by decide +kernel), by decide, by decide, by decide, by decide +kernel⟩, inG (i := 1178) (by decide +kernel) (by decide +kernel), inG (i := 1179) (by decide +kernel) (by decide +kernel), by decide⟩
def P_X0_firstAstray_L9  (x1 : Int)  (Q : Int → St → Prop) : Nat → Int → St → Prop
  | 0, _, _ => False
  | n + 1, x2, σ => (if 60 < x2 then Q (-1) σ else P_X0_fallAfter x1 x2 σ (fun r_3 σ_2 => 0 ≤ x1 ∧ x1 < 6 ∧ (if r_3 = (σ_2 906 0 x1) then (P_X0_firstAstray_L9 x1 Q n) (wi (x2 + 1)) σ_2 else Q x2 σ_2)))
set_option maxRecDepth 20000 in
set_option maxHeartbeats 2000000 in
theorem e_P_X0_firstAstray_L9  {x1 : Int}  {Q : Int → St → Prop}   : ∀ (n : Nat) (x2 : Int) (σ : St), P_X0_firstAstray_L9 x1 Q n x2 σ → E Y_X0_firstAstray 5 0 0 (QI Q) ww 0 0 9 [some (vR 0 0), some (vI x1), some (vI x2)] [] σ := by
  intro n
  induction n with
  | zero => intro x2 σ h; exact h.elim
  | succ n hR =>
    intro x2 σ h
    unfold P_X0_firstAstray_L9 at h
    refine E_iload_n dX0_firstAstray_9 rfl rfl ?_
    refine E_bp dX0_firstAstray_10 rfl ?_
    refine E_icmp_gt (tgt := 41) dX0_firstAstray_12 (by decide) (fun hc => ?_) (fun hc => ?_)
    · have h := Eq.mp (if_pos hc) h
      refine E_ic dX0_firstAstray_41 rfl ?_
      exact E_iret dX0_firstAstray_42 rfl ⟨_, rfl, rfl, h⟩
    · have h := Eq.mp (if_neg hc) h
      refine E_aload_n dX0_firstAstray_15 rfl rfl ?_
      refine E_iload_n dX0_firstAstray_16 rfl rfl ?_
      refine E_iload_n dX0_firstAstray_17 rfl rfl ?_
      refine E_callV (Y' := Y_X0_fallAfter) (as := [vI x1, vI x2]) (st := []) dX0_firstAstray_18 lk_RX0_61 m_X0_fallAfter (by decide) (Nat.le_refl _) (Nat.le_refl _) rfl rfl (Nat.le_of_ble_eq_true rfl) (s_X0_fallAfter h) (fun r0 B0 σ_2 h => ?_)
      obtain ⟨r_3, rfl, rfl, h⟩ := h
      refine E_aload_n dX0_firstAstray_21 rfl rfl ?_
      refine E_getr (i := 0) dX0_firstAstray_22 fl_RX0_16 rfl rfl (go_0_0 _ _) ?_
      refine E_getr (i := 0) dX0_firstAstray_25 fl_RX0_65 rfl rfl (go_8_6 _ _) ?_
      refine E_iload_n dX0_firstAstray_28 rfl rfl ?_
      obtain ⟨hg0, hg1, h⟩ := h
      refine E_iald dX0_firstAstray_29 sh_906 hg0 hg1 ?_
      refine E_icmp_eq (tgt := 35) dX0_firstAstray_30 (by decide) (fun hc => ?_) (fun hc => ?_)
      · have h := Eq.mp (if_pos hc) h
        refine E_iinc (ls' := [some (vR 0 0), some (vI x1), some (vI (wi (x2 + 1)))]) dX0_firstAstray_35 rfl (by decide) rfl rfl ?_
        refine E_goto (tgt := 9) dX0_firstAstray_38 (by decide) ?_
        exact hR _ _ h
      · have h := Eq.mp (if_neg hc) h
        refine E_iload_n dX0_firstAstray_33 rfl rfl ?_
        exact E_iret dX0_firstAstray_34 rfl ⟨_, rfl, rfl, h⟩
def P_X0_firstAstray  (x1 : Int) (σ : St) (Q : Int → St → Prop) : Prop :=
  P_X0_look x1 60 σ (fun σ_1 => P_X0_firstAstray_L9 x1 Q FU 0 σ_1)
set_option maxRecDepth 20000 in
set_option maxHeartbeats 2000000 in
theorem s_X0_firstAstray   {x1 : Int} {σ : St} {Q : Int → St → Prop} (h : P_X0_firstAstray x1 σ Q) : Cn Y_X0_firstAstray 5 0 0 ww σ [vR 0 0, vI x1] (QI Q) := by
  refine Cn_of [some (vR 0 0), some (vI x1), none] (by decide) (Nat.le_of_ble_eq_true rfl) rfl ?_
  unfold P_X0_firstAstray at h
  refine E_aload_n dX0_firstAstray_0 rfl rfl ?_
  refine E_iload_n dX0_firstAstray_1 rfl rfl ?_
  refine E_bp dX0_firstAstray_2 rfl ?_
  refine E_callV (Y' := Y_X0_look) (as := [vI x1, vI 60]) (st := []) dX0_firstAstray_4 lk_RX0_57 m_X0_look (by decide) (Nat.le_refl _) (Nat.le_refl _) rfl rfl (Nat.le_of_ble_eq_true rfl) (s_X0_look h) (fun r0 B0 σ_1 h => ?_)
  obtain ⟨rfl, rfl, h⟩ := h
  refine E_ic dX0_firstAstray_7 rfl ?_
  refine E_istore_n (ls' := [some (vR 0 0), some (vI x1), some (vI 0)]) dX0_firstAstray_8 rfl (by decide) rfl ?_
  refine e_P_X0_firstAstray_L9  _ _ _ h
abbrev Y_X0_firstAsLarge : My := (yX0_firstAsLarge, cX0_firstAsLarge, 4, some .int)
theorem dX0_firstAsLarge_0 : decode cX0_firstAsLarge 0 = .ok (.aload_n 0, 1) := by decide +kernel
theorem dX0_firstAsLarge_1 : decode cX0_firstAsLarge 1 = .ok (.iload_n 1, 1) := by decide +kernel
theorem dX0_firstAsLarge_2 : decode cX0_firstAsLarge 2 = .ok (.bipush 60, 2) := by decide +kernel
theorem dX0_firstAsLarge_4 : decode cX0_firstAsLarge 4 = .ok (.invokevirtual 57, 3) := by decide +kernel
theorem dX0_firstAsLarge_7 : decode cX0_firstAsLarge 7 = .ok (.iconst 0, 1) := by decide +kernel
theorem dX0_firstAsLarge_8 : decode cX0_firstAsLarge 8 = .ok (.istore_n 3, 1) := by decide +kernel
theorem dX0_firstAsLarge_9 : decode cX0_firstAsLarge 9 = .ok (.iload_n 3, 1) := by decide +kernel
theorem dX0_firstAsLarge_10 : decode cX0_firstAsLarge 10 = .ok (.bipush 60, 2) := by decide +kernel
theorem dX0_firstAsLarge_12 : decode cX0_firstAsLarge 12 = .ok (.if_icmp .gt 23, 3) := by decide +kernel
theorem dX0_firstAsLarge_15 : decode cX0_firstAsLarge 15 = .ok (.aload_n 0, 1) := by decide +kernel
theorem dX0_firstAsLarge_16 : decode cX0_firstAsLarge 16 = .ok (.getfield 11, 3) := by decide +kernel
theorem dX0_firstAsLarge_19 : decode cX0_firstAsLarge 19 = .ok (.iload_n 1, 1) := by decide +kernel
theorem dX0_firstAsLarge_20 : decode cX0_firstAsLarge 20 = .ok (.aaload, 1) := by decide +kernel
theorem dX0_firstAsLarge_21 : decode cX0_firstAsLarge 21 = .ok (.iload_n 3, 1) := by decide +kernel
theorem dX0_firstAsLarge_22 : decode cX0_firstAsLarge 22 = .ok (.iaload, 1) := by decide +kernel
theorem dX0_firstAsLarge_23 : decode cX0_firstAsLarge 23 = .ok (.iload_n 2, 1) := by decide +kernel
theorem dX0_firstAsLarge_24 : decode cX0_firstAsLarge 24 = .ok (.if_icmp .lt 5, 3) := by decide +kernel
theorem dX0_firstAsLarge_27 : decode cX0_firstAsLarge 27 = .ok (.iload_n 3, 1) := by decide +kernel
theorem dX0_firstAsLarge_28 : decode cX0_firstAsLarge 28 = .ok (.ireturn, 1) := by decide +kernel
theorem dX0_firstAsLarge_29 : decode cX0_firstAsLarge 29 = .ok (.iinc 3 1, 3) := by decide +kernel
theorem dX0_firstAsLarge_32 : decode cX0_firstAsLarge 32 = .ok (.goto (-23), 3) := by decide +kernel
theorem dX0_firstAsLarge_35 : decode cX0_firstAsLarge 35 = .ok (.iconst (-1), 1) := by decide +kernel
theorem dX0_firstAsLarge_36 : decode cX0_firstAsLarge 36 = .ok (.ireturn, 1) := by decide +kernel
def P_X0_firstAsLarge_L9  (x1 : Int) (x2 : Int)  (Q : Int → St → Prop) : Nat → Int → St → Prop
  | 0, _, _ => False
  | n + 1, x3, σ => (if 60 < x3 then Q (-1) σ else 0 ≤ x1 ∧ x1 < 6 ∧ 0 ≤ x3 ∧ x3 < 61 ∧ (if (σ 152 x1.toNat x3) < x2 then (P_X0_firstAsLarge_L9 x1 x2 Q n) (wi (x3 + 1)) σ else Q x3 σ))
set_option maxRecDepth 20000 in
set_option maxHeartbeats 2000000 in
theorem e_P_X0_firstAsLarge_L9  {x1 : Int} {x2 : Int}  {Q : Int → St → Prop}   : ∀ (n : Nat) (x3 : Int) (σ : St), P_X0_firstAsLarge_L9 x1 x2 Q n x3 σ → E Y_X0_firstAsLarge 5 0 0 (QI Q) ww 0 0 9 [some (vR 0 0), some (vI x1), some (vI x2), some (vI x3)] [] σ := by
  intro n
  induction n with
  | zero => intro x3 σ h; exact h.elim
  | succ n hR =>
    intro x3 σ h
    unfold P_X0_firstAsLarge_L9 at h
    refine E_iload_n dX0_firstAsLarge_9 rfl rfl ?_
    refine E_bp dX0_firstAsLarge_10 rfl ?_
    refine E_icmp_gt (tgt := 35) dX0_firstAsLarge_12 (by decide) (fun hc => ?_) (fun hc => ?_)
    · have h := Eq.mp (if_pos hc) h
      refine E_ic dX0_firstAsLarge_35 rfl ?_
      exact E_iret dX0_firstAsLarge_36 rfl ⟨_, rfl, rfl, h⟩
    · have h := Eq.mp (if_neg hc) h
      refine E_aload_n dX0_firstAsLarge_15 rfl rfl ?_
      refine E_getr (i := 0) dX0_firstAsLarge_16 fl_RX0_11 rfl rfl (go_0_2 _ _) ?_
      refine E_iload_n dX0_firstAsLarge_19 rfl rfl ?_
      obtain ⟨hg0, hg1, h⟩ := h
      refine E_aald dX0_firstAsLarge_20 sh_102 (by decide) (by decide) hg0 hg1 (wwA sh_102 hg0 hg1) rfl ?_
      refine E_iload_n dX0_firstAsLarge_21 rfl rfl ?_
      obtain ⟨hg0, hg1, h⟩ := h
      refine E_iald dX0_firstAsLarge_22 sh_152 hg0 hg1 ?_
      refine E_iload_n dX0_firstAsLarge_23 rfl rfl ?_
      refine E_icmp_lt (tgt := 29) dX0_firstAsLarge_24 (by decide) (fun hc => ?_) (fun hc => ?_)
      · have h := Eq.mp (if_pos hc) h
        refine E_iinc (ls' := [some (vR 0 0), some (vI x1), some (vI x2), some (vI (wi (x3 + 1)))]) dX0_firstAsLarge_29 rfl (by decide) rfl rfl ?_
        refine E_goto (tgt := 9) dX0_firstAsLarge_32 (by decide) ?_
        exact hR _ _ h
      · have h := Eq.mp (if_neg hc) h
        refine E_iload_n dX0_firstAsLarge_27 rfl rfl ?_
        exact E_iret dX0_firstAsLarge_28 rfl ⟨_, rfl, rfl, h⟩
def P_X0_firstAsLarge  (x1 : Int) (x2 : Int) (σ : St) (Q : Int → St → Prop) : Prop :=
  P_X0_look x1 60 σ (fun σ_1 => P_X0_firstAsLarge_L9 x1 x2 Q FU 0 σ_1)
set_option maxRecDepth 20000 in
set_option maxHeartbeats 2000000 in
theorem s_X0_firstAsLarge   {x1 : Int} {x2 : Int} {σ : St} {Q : Int → St → Prop} (h : P_X0_firstAsLarge x1 x2 σ Q) : Cn Y_X0_firstAsLarge 5 0 0 ww σ [vR 0 0, vI x1, vI x2] (QI Q) := by
  refine Cn_of [some (vR 0 0), some (vI x1), some (vI x2), none] (by decide) (Nat.le_of_ble_eq_true rfl) rfl ?_
  unfold P_X0_firstAsLarge at h
  refine E_aload_n dX0_firstAsLarge_0 rfl rfl ?_
  refine E_iload_n dX0_firstAsLarge_1 rfl rfl ?_
  refine E_bp dX0_firstAsLarge_2 rfl ?_
  refine E_callV (Y' := Y_X0_look) (as := [vI x1, vI 60]) (st := []) dX0_firstAsLarge_4 lk_RX0_57 m_X0_look (by decide) (Nat.le_refl _) (Nat.le_refl _) rfl rfl (Nat.le_of_ble_eq_true rfl) (s_X0_look h) (fun r0 B0 σ_1 h => ?_)
  obtain ⟨rfl, rfl, h⟩ := h
  refine E_ic dX0_firstAsLarge_7 rfl ?_
  refine E_istore_n (ls' := [some (vR 0 0), some (vI x1), some (vI x2), some (vI 0)]) dX0_firstAsLarge_8 rfl (by decide) rfl ?_
  refine e_P_X0_firstAsLarge_L9  _ _ _ h
abbrev Y_X0_millionthsHome : My := (yX0_millionthsHome, cX0_millionthsHome, 6, some .int)
theorem dX0_millionthsHome_0 : decode cX0_millionthsHome 0 = .ok (.aload_n 0, 1) := by decide +kernel
theorem dX0_millionthsHome_1 : decode cX0_millionthsHome 1 = .ok (.iload_n 1, 1) := by decide +kernel
theorem dX0_millionthsHome_2 : decode cX0_millionthsHome 2 = .ok (.aload_n 0, 1) := by decide +kernel
theorem dX0_millionthsHome_3 : decode cX0_millionthsHome 3 = .ok (.getfield 20, 3) := by decide +kernel
theorem dX0_millionthsHome_6 : decode cX0_millionthsHome 6 = .ok (.getfield 24, 3) := by decide +kernel
theorem dX0_millionthsHome_9 : decode cX0_millionthsHome 9 = .ok (.iload_n 1, 1) := by decide +kernel
theorem dX0_millionthsHome_10 : decode cX0_millionthsHome 10 = .ok (.iaload, 1) := by decide +kernel
theorem dX0_millionthsHome_11 : decode cX0_millionthsHome 11 = .ok (.iconst 0, 1) := by decide +kernel
theorem dX0_millionthsHome_12 : decode cX0_millionthsHome 12 = .ok (.iload_n 2, 1) := by decide +kernel
theorem dX0_millionthsHome_13 : decode cX0_millionthsHome 13 = .ok (.iload_n 3, 1) := by decide +kernel
theorem dX0_millionthsHome_14 : decode cX0_millionthsHome 14 = .ok (.invokevirtual 88, 3) := by decide +kernel
theorem dX0_millionthsHome_17 : decode cX0_millionthsHome 17 = .ok (.istore 4, 2) := by decide +kernel
theorem dX0_millionthsHome_19 : decode cX0_millionthsHome 19 = .ok (.iload_n 2, 1) := by decide +kernel
theorem dX0_millionthsHome_20 : decode cX0_millionthsHome 20 = .ok (.istore 5, 2) := by decide +kernel
theorem dX0_millionthsHome_22 : decode cX0_millionthsHome 22 = .ok (.iload 5, 2) := by decide +kernel
theorem dX0_millionthsHome_24 : decode cX0_millionthsHome 24 = .ok (.bipush 6, 2) := by decide +kernel
theorem dX0_millionthsHome_26 : decode cX0_millionthsHome 26 = .ok (.if_icmp .ge 16, 3) := by decide +kernel
theorem dX0_millionthsHome_29 : decode cX0_millionthsHome 29 = .ok (.iload 4, 2) := by decide +kernel
theorem dX0_millionthsHome_31 : decode cX0_millionthsHome 31 = .ok (.bipush 10, 2) := by decide +kernel
theorem dX0_millionthsHome_33 : decode cX0_millionthsHome 33 = .ok (.imul, 1) := by decide +kernel
theorem dX0_millionthsHome_34 : decode cX0_millionthsHome 34 = .ok (.istore 4, 2) := by decide +kernel
theorem dX0_millionthsHome_36 : decode cX0_millionthsHome 36 = .ok (.iinc 5 1, 3) := by decide +kernel
theorem dX0_millionthsHome_39 : decode cX0_millionthsHome 39 = .ok (.goto (-17), 3) := by decide +kernel
theorem dX0_millionthsHome_42 : decode cX0_millionthsHome 42 = .ok (.iload 4, 2) := by decide +kernel
theorem dX0_millionthsHome_44 : decode cX0_millionthsHome 44 = .ok (.ireturn, 1) := by decide +kernel
def P_X0_millionthsHome_L22    (Q : Int → St → Prop) : Nat → Int → Int → St → Prop
  | 0, _, _, _ => False
  | n + 1, x4, x5, σ => (if 6 ≤ x5 then Q x4 σ else (P_X0_millionthsHome_L22 Q n) (wi (x4 * 10)) (wi (x5 + 1)) σ)
set_option maxRecDepth 20000 in
set_option maxHeartbeats 2000000 in
theorem e_P_X0_millionthsHome_L22    {Q : Int → St → Prop}   : ∀ (n : Nat) (x4 : Int) (x5 : Int) (σ : St), P_X0_millionthsHome_L22 Q n x4 x5 σ → E Y_X0_millionthsHome 129 0 0 (QI Q) ww 0 0 22 [none, none, none, none, some (vI x4), some (vI x5)] [] σ := by
  intro n
  induction n with
  | zero => intro x4 x5 σ h; exact h.elim
  | succ n hR =>
    intro x4 x5 σ h
    unfold P_X0_millionthsHome_L22 at h
    refine E_iload dX0_millionthsHome_22 rfl ?_
    refine E_bp dX0_millionthsHome_24 rfl ?_
    refine E_icmp_ge (tgt := 42) dX0_millionthsHome_26 (by decide) (fun hc => ?_) (fun hc => ?_)
    · have h := Eq.mp (if_pos hc) h
      refine E_iload dX0_millionthsHome_42 rfl ?_
      exact E_iret dX0_millionthsHome_44 rfl ⟨_, rfl, rfl, h⟩
    · have h := Eq.mp (if_neg hc) h
      refine E_iload dX0_millionthsHome_29 rfl ?_
      refine E_bp dX0_millionthsHome_31 rfl ?_
      refine E_imul dX0_millionthsHome_33 ?_
      refine E_istore (ls' := [none, none, none, none, some (vI (wi (x4 * 10))), some (vI x5)]) dX0_millionthsHome_34 (by decide) rfl ?_
      refine E_iinc (ls' := [none, none, none, none, some (vI (wi (x4 * 10))), some (vI (wi (x5 + 1)))]) dX0_millionthsHome_36 rfl (by decide) rfl rfl ?_
      refine E_goto (tgt := 22) dX0_millionthsHome_39 (by decide) ?_
      exact hR _ _ _ h
def P_X0_millionthsHome  (x1 : Int) (x2 : Int) (x3 : Int) (σ : St) (Q : Int → St → Prop) : Prop :=
  0 ≤ x1 ∧ x1 < 6 ∧ P_X0_homeByOdds x1 (σ 1002 0 x1) 0 x2 x3 σ (fun r_2 σ_1 => P_X0_millionthsHome_L22 Q FU r_2 x2 σ_1)
set_option maxRecDepth 20000 in
set_option maxHeartbeats 2000000 in
theorem s_X0_millionthsHome   {x1 : Int} {x2 : Int} {x3 : Int} {σ : St} {Q : Int → St → Prop} (h : P_X0_millionthsHome x1 x2 x3 σ Q) : Cn Y_X0_millionthsHome 129 0 0 ww σ [vR 0 0, vI x1, vI x2, vI x3] (QI Q) := by
  refine Cn_of [some (vR 0 0), some (vI x1), some (vI x2), some (vI x3), none, none] (by decide) (Nat.le_of_ble_eq_true rfl) rfl ?_
  unfold P_X0_millionthsHome at h
  refine E_aload_n dX0_millionthsHome_0 rfl rfl ?_
  refine E_iload_n dX0_millionthsHome_1 rfl rfl ?_
  refine E_aload_n dX0_millionthsHome_2 rfl rfl ?_
  refine E_getr (i := 0) dX0_millionthsHome_3 fl_RX0_20 rfl rfl (go_0_1 _ _) ?_
  refine E_getr (i := 0) dX0_millionthsHome_6 fl_RX0_24 rfl rfl (go_9_2 _ _) ?_
  refine E_iload_n dX0_millionthsHome_9 rfl rfl ?_
  obtain ⟨hg0, hg1, h⟩ := h
  refine E_iald dX0_millionthsHome_10 sh_1002 hg0 hg1 ?_
  refine E_ic dX0_millionthsHome_11 rfl ?_
  refine E_iload_n dX0_millionthsHome_12 rfl rfl ?_
  refine E_iload_n dX0_millionthsHome_13 rfl rfl ?_
  refine E_callV (Y' := Y_X0_homeByOdds) (as := [vI x1, vI (σ 1002 0 x1), vI 0, vI x2, vI x3]) (st := []) dX0_millionthsHome_14 lk_RX0_88 m_X0_homeByOdds (by decide) (Nat.le_refl _) (Nat.le_refl _) rfl rfl (Nat.le_of_ble_eq_true rfl) (s_X0_homeByOdds h) (fun r0 B0 σ_1 h => ?_)
  obtain ⟨r_2, rfl, rfl, h⟩ := h
  refine E_istore (ls' := [some (vR 0 0), some (vI x1), some (vI x2), some (vI x3), some (vI r_2), none]) dX0_millionthsHome_17 (by decide) rfl ?_
  refine E_iload_n dX0_millionthsHome_19 rfl rfl ?_
  refine E_istore (ls' := [some (vR 0 0), some (vI x1), some (vI x2), some (vI x3), some (vI r_2), some (vI x2)]) dX0_millionthsHome_20 (by decide) rfl ?_
  refine E_wk2 [none, none, none, none, some (vI r_2), some (vI x2)] ⟨rfl, ⟨rfl, trivial⟩⟩ ?_
  refine e_P_X0_millionthsHome_L22  _ _ _ _ h
abbrev Y_X6_readCounter : My := (yX6_readCounter, cX6_readCounter, 6, none)
theorem dX6_readCounter_0 : decode cX6_readCounter 0 = .ok (.aload_n 1, 1) := by decide +kernel
theorem dX6_readCounter_1 : decode cX6_readCounter 1 = .ok (.getfield 78, 3) := by decide +kernel
theorem dX6_readCounter_4 : decode cX6_readCounter 4 = .ok (.bipush 6, 2) := by decide +kernel
theorem dX6_readCounter_6 : decode cX6_readCounter 6 = .ok (.if_icmp .lt 11, 3) := by decide +kernel
theorem dX6_readCounter_9 : decode cX6_readCounter 9 = .ok (.aload_n 0, 1) := by decide +kernel
theorem dX6_readCounter_10 : decode cX6_readCounter 10 = .ok (.getfield 18, 3) := by decide +kernel
theorem dX6_readCounter_13 : decode cX6_readCounter 13 = .ok (.iconst 5, 1) := by decide +kernel
theorem dX6_readCounter_14 : decode cX6_readCounter 14 = .ok (.invokevirtual 66, 3) := by decide +kernel
theorem dX6_readCounter_17 : decode cX6_readCounter 17 = .ok (.aload_n 0, 1) := by decide +kernel
theorem dX6_readCounter_18 : decode cX6_readCounter 18 = .ok (.getfield 18, 3) := by decide +kernel
theorem dX6_readCounter_21 : decode cX6_readCounter 21 = .ok (.invokevirtual 81, 3) := by decide +kernel
theorem dX6_readCounter_24 : decode cX6_readCounter 24 = .ok (.aload_n 0, 1) := by decide +kernel
theorem dX6_readCounter_25 : decode cX6_readCounter 25 = .ok (.aload_n 1, 1) := by decide +kernel
theorem dX6_readCounter_26 : decode cX6_readCounter 26 = .ok (.invokevirtual 84, 3) := by decide +kernel
theorem dX6_readCounter_29 : decode cX6_readCounter 29 = .ok (.lstore_n 2, 1) := by decide +kernel
theorem dX6_readCounter_30 : decode cX6_readCounter 30 = .ok (.aload_n 0, 1) := by decide +kernel
theorem dX6_readCounter_31 : decode cX6_readCounter 31 = .ok (.getfield 18, 3) := by decide +kernel
theorem dX6_readCounter_34 : decode cX6_readCounter 34 = .ok (.ldc 88, 2) := by decide +kernel
theorem dX6_readCounter_36 : decode cX6_readCounter 36 = .ok (.invokevirtual 90, 3) := by decide +kernel
theorem dX6_readCounter_39 : decode cX6_readCounter 39 = .ok (.aload_n 0, 1) := by decide +kernel
theorem dX6_readCounter_40 : decode cX6_readCounter 40 = .ok (.getfield 18, 3) := by decide +kernel
theorem dX6_readCounter_43 : decode cX6_readCounter 43 = .ok (.iconst 1, 1) := by decide +kernel
theorem dX6_readCounter_44 : decode cX6_readCounter 44 = .ok (.bipush 20, 2) := by decide +kernel
theorem dX6_readCounter_46 : decode cX6_readCounter 46 = .ok (.invokevirtual 94, 3) := by decide +kernel
theorem dX6_readCounter_49 : decode cX6_readCounter 49 = .ok (.istore 4, 2) := by decide +kernel
theorem dX6_readCounter_51 : decode cX6_readCounter 51 = .ok (.aload_n 1, 1) := by decide +kernel
theorem dX6_readCounter_52 : decode cX6_readCounter 52 = .ok (.iload 4, 2) := by decide +kernel
theorem dX6_readCounter_54 : decode cX6_readCounter 54 = .ok (.invokevirtual 98, 3) := by decide +kernel
theorem dX6_readCounter_57 : decode cX6_readCounter 57 = .ok (.ifCond .eq 11, 3) := by decide +kernel
theorem dX6_readCounter_60 : decode cX6_readCounter 60 = .ok (.aload_n 0, 1) := by decide +kernel
theorem dX6_readCounter_61 : decode cX6_readCounter 61 = .ok (.getfield 18, 3) := by decide +kernel
theorem dX6_readCounter_64 : decode cX6_readCounter 64 = .ok (.iconst 3, 1) := by decide +kernel
theorem dX6_readCounter_65 : decode cX6_readCounter 65 = .ok (.invokevirtual 66, 3) := by decide +kernel
theorem dX6_readCounter_68 : decode cX6_readCounter 68 = .ok (.aload_n 0, 1) := by decide +kernel
theorem dX6_readCounter_69 : decode cX6_readCounter 69 = .ok (.getfield 18, 3) := by decide +kernel
theorem dX6_readCounter_72 : decode cX6_readCounter 72 = .ok (.invokevirtual 81, 3) := by decide +kernel
theorem dX6_readCounter_75 : decode cX6_readCounter 75 = .ok (.aload_n 0, 1) := by decide +kernel
theorem dX6_readCounter_76 : decode cX6_readCounter 76 = .ok (.getfield 18, 3) := by decide +kernel
theorem dX6_readCounter_79 : decode cX6_readCounter 79 = .ok (.ldc 102, 2) := by decide +kernel
theorem dX6_readCounter_81 : decode cX6_readCounter 81 = .ok (.invokevirtual 90, 3) := by decide +kernel
theorem dX6_readCounter_84 : decode cX6_readCounter 84 = .ok (.aload_n 0, 1) := by decide +kernel
theorem dX6_readCounter_85 : decode cX6_readCounter 85 = .ok (.getfield 18, 3) := by decide +kernel
theorem dX6_readCounter_88 : decode cX6_readCounter 88 = .ok (.iconst 0, 1) := by decide +kernel
theorem dX6_readCounter_89 : decode cX6_readCounter 89 = .ok (.bipush 60, 2) := by decide +kernel
theorem dX6_readCounter_91 : decode cX6_readCounter 91 = .ok (.invokevirtual 104, 3) := by decide +kernel
theorem dX6_readCounter_94 : decode cX6_readCounter 94 = .ok (.istore 5, 2) := by decide +kernel
theorem dX6_readCounter_96 : decode cX6_readCounter 96 = .ok (.aload_n 1, 1) := by decide +kernel
theorem dX6_readCounter_97 : decode cX6_readCounter 97 = .ok (.lload_n 2, 1) := by decide +kernel
theorem dX6_readCounter_98 : decode cX6_readCounter 98 = .ok (.iload 4, 2) := by decide +kernel
theorem dX6_readCounter_100 : decode cX6_readCounter 100 = .ok (.iload 5, 2) := by decide +kernel
theorem dX6_readCounter_102 : decode cX6_readCounter 102 = .ok (.invokevirtual 107, 3) := by decide +kernel
theorem dX6_readCounter_105 : decode cX6_readCounter 105 = .ok (.return_, 1) := by decide +kernel
theorem fl_RX6_78 : FL RX6 78 8 10 := ⟨inG (i := 214) (by decide +kernel) (by decide +kernel), by decide, by decide⟩
theorem lk_RX6_104 : Cond.methodLink RX6 104 yX10_takeNumber ∈ tG := inG (i := 738) (by decide +kernel) (by decide +kernel)
theorem lk_RX6_107 : Cond.methodLink RX6 107 yX8_addCounter ∈ tG := inG (i := 743) (by decide +kernel) (by decide +kernel)
theorem lk_RX6_84 : Cond.methodLink RX6 84 yX6_takeNewName ∈ tG := inG (i := 694) (by decide +kernel) (by decide +kernel)
theorem lk_RX6_90 : Cond.methodLink RX6 90 yX10_takeWord ∈ tG := inG (i := 718) (by decide +kernel) (by decide +kernel)
theorem lk_RX6_94 : Cond.methodLink RX6 94 yX10_numberHere ∈ tG := inG (i := 725) (by decide +kernel) (by decide +kernel)
theorem lk_RX6_98 : Cond.methodLink RX6 98 yX8_isPlaceTold ∈ tG := inG (i := 733) (by decide +kernel) (by decide +kernel)
theorem m_X10_takeNumber : MV Y_X10_takeNumber 2 10 := ⟨⟨inG (i := 741) (by decide +kernel) (by decide +kernel), inG (i := 99) (by decide +kernel) (by decide +kernel), by decide, by decide, by decide, by decide +kernel⟩, inG (i := 739) (by decide +kernel) (by decide +kernel), inG (i := 740) (by decide +kernel) (by decide +kernel), by decide⟩
theorem m_X10_takeWord : MV Y_X10_takeWord 1 10 := ⟨⟨inG (i := 721) (by decide +kernel) (by decide +kernel), inG (i := 99) (by decide +kernel) (by decide +kernel), by decide, by decide, by decide, by decide +kernel⟩, inG (i := 719) (by decide +kernel) (by decide +kernel), inG (i := 720) (by decide +kernel) (by decide +kernel), by decide⟩
theorem m_X6_takeNewName : MV Y_X6_takeNewName 1 6 := ⟨⟨inG (i := 697) (by decide +kernel) (by decide +kernel), inG (i := 103) (by decide +kernel) (by decide +kernel), by decide, by decide, by decide, by decide +kernel⟩, inG (i := 696) (by decide +kernel) (by decide +kernel), inG (i := 5) (by decide +kernel) (by decide +kernel), by decide⟩
theorem m_X8_addCounter : MV Y_X8_addCounter 3 8 := ⟨⟨inG (i := 746) (by decide +kernel) (by decide +kernel), inG (i := 100) (by decide +kernel) (by decide +kernel), by decide, by decide, by decide, by decide +kernel⟩, inG (i := 744) (by decide +kernel) (by decide +kernel), inG (i := 745) (by decide +kernel) (by decide +kernel), by decide⟩
theorem m_X8_isPlaceTold : MV Y_X8_isPlaceTold 1 8 := ⟨⟨inG (i := 736) (by decide +kernel) (by decide +kernel), inG (i := 100) (by decide +kernel) (by decide +kernel), by decide, by decide, by decide, by decide +kernel⟩, inG (i := 734) (by decide +kernel) (by decide +kernel), inG (i := 735) (by decide +kernel) (by decide +kernel), by decide⟩
def P_X6_readCounter_J68  (o1 : Nat) (x2 : Int) (x4 : Int)  (Q : St → Prop) (σ : St) : Prop :=
  P_X10_next σ (fun σ_9 => P_X10_takeWord 4 σ_9 (fun σ_10 => P_X10_takeNumber 0 60 σ_10 (fun r_12 σ_11 => P_X8_addCounter o1 x2 x4 r_12 σ_11 (fun σ_13 => Q σ_13))))
set_option maxRecDepth 20000 in
set_option maxHeartbeats 2000000 in
theorem e_P_X6_readCounter_J68  {o1 : Nat} {x2 : Int} {x4 : Int}  {Q : St → Prop} {σ : St}   (h : P_X6_readCounter_J68 o1 x2 x4 Q σ) : E Y_X6_readCounter 7 0 0 (QV Q) ww 0 0 68 [some (vR 6 0), some (vR 8 o1), some (vL x2), none, some (vI x4), none] [] σ := by
  unfold P_X6_readCounter_J68 at h
  refine E_aload_n dX6_readCounter_68 rfl rfl ?_
  refine E_getr (i := 0) dX6_readCounter_69 fl_RX6_18 rfl rfl (go_6_0 _ _) ?_
  refine E_callV (Y' := Y_X10_next) (as := []) (st := []) dX6_readCounter_72 lk_RX6_81 m_X10_next (by decide) (Nat.le_refl _) (Nat.le_refl _) rfl rfl (Nat.le_of_ble_eq_true rfl) (s_X10_next h) (fun r0 B0 σ_9 h => ?_)
  obtain ⟨rfl, rfl, h⟩ := h
  refine E_aload_n dX6_readCounter_75 rfl rfl ?_
  refine E_getr (i := 0) dX6_readCounter_76 fl_RX6_18 rfl rfl (go_6_0 _ _) ?_
  refine E_lds (i := 4) dX6_readCounter_79 (List.mem_of_getElem? (i := 4) rfl) ?_
  refine E_callV (Y' := Y_X10_takeWord) (as := [vR 50 4]) (st := []) dX6_readCounter_81 lk_RX6_90 m_X10_takeWord (by decide) (Nat.le_refl _) (Nat.le_refl _) rfl rfl (Nat.le_of_ble_eq_true rfl) (s_X10_takeWord h) (fun r0 B0 σ_10 h => ?_)
  obtain ⟨rfl, rfl, h⟩ := h
  refine E_aload_n dX6_readCounter_84 rfl rfl ?_
  refine E_getr (i := 0) dX6_readCounter_85 fl_RX6_18 rfl rfl (go_6_0 _ _) ?_
  refine E_ic dX6_readCounter_88 rfl ?_
  refine E_bp dX6_readCounter_89 rfl ?_
  refine E_callV (Y' := Y_X10_takeNumber) (as := [vI 0, vI 60]) (st := []) dX6_readCounter_91 lk_RX6_104 m_X10_takeNumber (by decide) (Nat.le_refl _) (Nat.le_refl _) rfl rfl (Nat.le_of_ble_eq_true rfl) (s_X10_takeNumber h) (fun r0 B0 σ_11 h => ?_)
  obtain ⟨r_12, rfl, rfl, h⟩ := h
  refine E_istore (ls' := [some (vR 6 0), some (vR 8 o1), some (vL x2), none, some (vI x4), some (vI r_12)]) dX6_readCounter_94 (by decide) rfl ?_
  refine E_aload_n dX6_readCounter_96 rfl rfl ?_
  refine E_lload_n dX6_readCounter_97 rfl rfl ?_
  refine E_iload dX6_readCounter_98 rfl ?_
  refine E_iload dX6_readCounter_100 rfl ?_
  refine E_callV (Y' := Y_X8_addCounter) (as := [vL x2, vI x4, vI r_12]) (st := []) dX6_readCounter_102 lk_RX6_107 m_X8_addCounter (by decide) (Nat.le_refl _) (Nat.le_refl _) rfl rfl (Nat.le_of_ble_eq_true rfl) (s_X8_addCounter h) (fun r0 B0 σ_13 h => ?_)
  obtain ⟨rfl, rfl, h⟩ := h
  exact E_vret dX6_readCounter_105 rfl ⟨rfl, rfl, h⟩
def P_X6_readCounter_J17  (o1 : Nat)  (Q : St → Prop) (σ : St) : Prop :=
  P_X10_next σ (fun σ_1 => P_X6_takeNewName o1 σ_1 (fun r_3 σ_2 => P_X10_takeWord 3 σ_2 (fun σ_4 => P_X10_numberHere 1 20 σ_4 (fun r_6 σ_5 => P_X8_isPlaceTold o1 r_6 σ_5 (fun r_8 σ_7 => (if r_8 = 0 then P_X6_readCounter_J68 o1 r_3 r_6 Q σ_7 else P_X10_wrong 3 σ_7 (fun σ_14 => P_X6_readCounter_J68 o1 r_3 r_6 Q σ_14)))))))
set_option maxRecDepth 20000 in
set_option maxHeartbeats 2000000 in
theorem e_P_X6_readCounter_J17  {o1 : Nat}  {Q : St → Prop} {σ : St}   (h : P_X6_readCounter_J17 o1 Q σ) : E Y_X6_readCounter 7 0 0 (QV Q) ww 0 0 17 [some (vR 6 0), some (vR 8 o1), none, none, none, none] [] σ := by
  unfold P_X6_readCounter_J17 at h
  refine E_aload_n dX6_readCounter_17 rfl rfl ?_
  refine E_getr (i := 0) dX6_readCounter_18 fl_RX6_18 rfl rfl (go_6_0 _ _) ?_
  refine E_callV (Y' := Y_X10_next) (as := []) (st := []) dX6_readCounter_21 lk_RX6_81 m_X10_next (by decide) (Nat.le_refl _) (Nat.le_refl _) rfl rfl (Nat.le_of_ble_eq_true rfl) (s_X10_next h) (fun r0 B0 σ_1 h => ?_)
  obtain ⟨rfl, rfl, h⟩ := h
  refine E_aload_n dX6_readCounter_24 rfl rfl ?_
  refine E_aload_n dX6_readCounter_25 rfl rfl ?_
  refine E_callV (Y' := Y_X6_takeNewName) (as := [vR 8 o1]) (st := []) dX6_readCounter_26 lk_RX6_84 m_X6_takeNewName (by decide) (Nat.le_refl _) (Nat.le_refl _) rfl rfl (Nat.le_of_ble_eq_true rfl) (s_X6_takeNewName h) (fun r0 B0 σ_2 h => ?_)
  obtain ⟨r_3, rfl, rfl, h⟩ := h
  refine E_lstore_n (ls' := [some (vR 6 0), some (vR 8 o1), some (vL r_3), none, none, none]) dX6_readCounter_29 rfl (by decide) rfl ?_
  refine E_aload_n dX6_readCounter_30 rfl rfl ?_
  refine E_getr (i := 0) dX6_readCounter_31 fl_RX6_18 rfl rfl (go_6_0 _ _) ?_
  refine E_lds (i := 3) dX6_readCounter_34 (List.mem_of_getElem? (i := 3) rfl) ?_
  refine E_callV (Y' := Y_X10_takeWord) (as := [vR 50 3]) (st := []) dX6_readCounter_36 lk_RX6_90 m_X10_takeWord (by decide) (Nat.le_refl _) (Nat.le_refl _) rfl rfl (Nat.le_of_ble_eq_true rfl) (s_X10_takeWord h) (fun r0 B0 σ_4 h => ?_)
  obtain ⟨rfl, rfl, h⟩ := h
  refine E_aload_n dX6_readCounter_39 rfl rfl ?_
  refine E_getr (i := 0) dX6_readCounter_40 fl_RX6_18 rfl rfl (go_6_0 _ _) ?_
  refine E_ic dX6_readCounter_43 rfl ?_
  refine E_bp dX6_readCounter_44 rfl ?_
  refine E_callV (Y' := Y_X10_numberHere) (as := [vI 1, vI 20]) (st := []) dX6_readCounter_46 lk_RX6_94 m_X10_numberHere (by decide) (Nat.le_refl _) (Nat.le_refl _) rfl rfl (Nat.le_of_ble_eq_true rfl) (s_X10_numberHere h) (fun r0 B0 σ_5 h => ?_)
  obtain ⟨r_6, rfl, rfl, h⟩ := h
  refine E_istore (ls' := [some (vR 6 0), some (vR 8 o1), some (vL r_3), none, some (vI r_6), none]) dX6_readCounter_49 (by decide) rfl ?_
  refine E_aload_n dX6_readCounter_51 rfl rfl ?_
  refine E_iload dX6_readCounter_52 rfl ?_
  refine E_callV (Y' := Y_X8_isPlaceTold) (as := [vI r_6]) (st := []) dX6_readCounter_54 lk_RX6_98 m_X8_isPlaceTold (by decide) (Nat.le_refl _) (Nat.le_refl _) rfl rfl (Nat.le_of_ble_eq_true rfl) (s_X8_isPlaceTold h) (fun r0 B0 σ_7 h => ?_)
  obtain ⟨r_8, rfl, rfl, h⟩ := h
  refine E_if_eq (tgt := 68) dX6_readCounter_57 (by decide) (fun hc => ?_) (fun hc => ?_)
  · have h := Eq.mp (if_pos hc) h
    exact e_P_X6_readCounter_J68 h
  · have h := Eq.mp (if_neg hc) h
    refine E_aload_n dX6_readCounter_60 rfl rfl ?_
    refine E_getr (i := 0) dX6_readCounter_61 fl_RX6_18 rfl rfl (go_6_0 _ _) ?_
    refine E_ic dX6_readCounter_64 rfl ?_
    refine E_callV (Y' := Y_X10_wrong) (as := [vI 3]) (st := []) dX6_readCounter_65 lk_RX6_66 m_X10_wrong (by decide) (Nat.le_refl _) (Nat.le_refl _) rfl rfl (Nat.le_of_ble_eq_true rfl) (s_X10_wrong h) (fun r0 B0 σ_14 h => ?_)
    obtain ⟨rfl, rfl, h⟩ := h
    exact e_P_X6_readCounter_J68 h
def P_X6_readCounter  (o1 : Nat) (σ : St) (Q : St → Prop) : Prop :=
  (if (σ 8 o1 10) < 6 then P_X6_readCounter_J17 o1 Q σ else P_X10_wrong 5 σ (fun σ_15 => P_X6_readCounter_J17 o1 Q σ_15))
set_option maxRecDepth 20000 in
set_option maxHeartbeats 2000000 in
theorem s_X6_readCounter   {o1 : Nat} {σ : St} {Q : St → Prop} (h : P_X6_readCounter o1 σ Q) : Cn Y_X6_readCounter 7 0 0 ww σ [vR 6 0, vR 8 o1] (QV Q) := by
  refine Cn_of [some (vR 6 0), some (vR 8 o1), none, none, none, none] (by decide) (Nat.le_of_ble_eq_true rfl) rfl ?_
  unfold P_X6_readCounter at h
  refine E_aload_n dX6_readCounter_0 rfl rfl ?_
  refine E_geti (i := o1) dX6_readCounter_1 fl_RX6_78 rfl ?_
  refine E_bp dX6_readCounter_4 rfl ?_
  refine E_icmp_lt (tgt := 17) dX6_readCounter_6 (by decide) (fun hc => ?_) (fun hc => ?_)
  · have h := Eq.mp (if_pos hc) h
    exact e_P_X6_readCounter_J17 h
  · have h := Eq.mp (if_neg hc) h
    refine E_aload_n dX6_readCounter_9 rfl rfl ?_
    refine E_getr (i := 0) dX6_readCounter_10 fl_RX6_18 rfl rfl (go_6_0 _ _) ?_
    refine E_ic dX6_readCounter_13 rfl ?_
    refine E_callV (Y' := Y_X10_wrong) (as := [vI 5]) (st := []) dX6_readCounter_14 lk_RX6_66 m_X10_wrong (by decide) (Nat.le_refl _) (Nat.le_refl _) rfl rfl (Nat.le_of_ble_eq_true rfl) (s_X10_wrong h) (fun r0 B0 σ_15 h => ?_)
    obtain ⟨rfl, rfl, h⟩ := h
    exact e_P_X6_readCounter_J17 h
abbrev Y_X6_readBall : My := (yX6_readBall, cX6_readBall, 7, none)
theorem dX6_readBall_0 : decode cX6_readBall 0 = .ok (.aload_n 1, 1) := by decide +kernel
theorem dX6_readBall_1 : decode cX6_readBall 1 = .ok (.getfield 111, 3) := by decide +kernel
theorem dX6_readBall_4 : decode cX6_readBall 4 = .ok (.bipush 6, 2) := by decide +kernel
theorem dX6_readBall_6 : decode cX6_readBall 6 = .ok (.if_icmp .lt 11, 3) := by decide +kernel
theorem dX6_readBall_9 : decode cX6_readBall 9 = .ok (.aload_n 0, 1) := by decide +kernel
theorem dX6_readBall_10 : decode cX6_readBall 10 = .ok (.getfield 18, 3) := by decide +kernel
theorem dX6_readBall_13 : decode cX6_readBall 13 = .ok (.iconst 5, 1) := by decide +kernel
theorem dX6_readBall_14 : decode cX6_readBall 14 = .ok (.invokevirtual 66, 3) := by decide +kernel
theorem dX6_readBall_17 : decode cX6_readBall 17 = .ok (.aload_n 0, 1) := by decide +kernel
theorem dX6_readBall_18 : decode cX6_readBall 18 = .ok (.getfield 18, 3) := by decide +kernel
theorem dX6_readBall_21 : decode cX6_readBall 21 = .ok (.invokevirtual 81, 3) := by decide +kernel
theorem dX6_readBall_24 : decode cX6_readBall 24 = .ok (.aload_n 0, 1) := by decide +kernel
theorem dX6_readBall_25 : decode cX6_readBall 25 = .ok (.aload_n 1, 1) := by decide +kernel
theorem dX6_readBall_26 : decode cX6_readBall 26 = .ok (.invokevirtual 84, 3) := by decide +kernel
theorem dX6_readBall_29 : decode cX6_readBall 29 = .ok (.lstore_n 2, 1) := by decide +kernel
theorem dX6_readBall_30 : decode cX6_readBall 30 = .ok (.aload_n 0, 1) := by decide +kernel
theorem dX6_readBall_31 : decode cX6_readBall 31 = .ok (.invokevirtual 114, 3) := by decide +kernel
theorem dX6_readBall_34 : decode cX6_readBall 34 = .ok (.istore 4, 2) := by decide +kernel
theorem dX6_readBall_36 : decode cX6_readBall 36 = .ok (.aload_n 0, 1) := by decide +kernel
theorem dX6_readBall_37 : decode cX6_readBall 37 = .ok (.getfield 18, 3) := by decide +kernel
theorem dX6_readBall_40 : decode cX6_readBall 40 = .ok (.ldc 118, 2) := by decide +kernel
theorem dX6_readBall_42 : decode cX6_readBall 42 = .ok (.invokevirtual 90, 3) := by decide +kernel
theorem dX6_readBall_45 : decode cX6_readBall 45 = .ok (.aload_n 0, 1) := by decide +kernel
theorem dX6_readBall_46 : decode cX6_readBall 46 = .ok (.getfield 18, 3) := by decide +kernel
theorem dX6_readBall_49 : decode cX6_readBall 49 = .ok (.iconst 1, 1) := by decide +kernel
theorem dX6_readBall_50 : decode cX6_readBall 50 = .ok (.bipush 60, 2) := by decide +kernel
theorem dX6_readBall_52 : decode cX6_readBall 52 = .ok (.invokevirtual 104, 3) := by decide +kernel
theorem dX6_readBall_55 : decode cX6_readBall 55 = .ok (.istore 5, 2) := by decide +kernel
theorem dX6_readBall_57 : decode cX6_readBall 57 = .ok (.aload_n 0, 1) := by decide +kernel
theorem dX6_readBall_58 : decode cX6_readBall 58 = .ok (.getfield 18, 3) := by decide +kernel
theorem dX6_readBall_61 : decode cX6_readBall 61 = .ok (.ldc 120, 2) := by decide +kernel
theorem dX6_readBall_63 : decode cX6_readBall 63 = .ok (.invokevirtual 90, 3) := by decide +kernel
theorem dX6_readBall_66 : decode cX6_readBall 66 = .ok (.aload_n 0, 1) := by decide +kernel
theorem dX6_readBall_67 : decode cX6_readBall 67 = .ok (.getfield 18, 3) := by decide +kernel
theorem dX6_readBall_70 : decode cX6_readBall 70 = .ok (.aload_n 1, 1) := by decide +kernel
theorem dX6_readBall_71 : decode cX6_readBall 71 = .ok (.getfield 122, 3) := by decide +kernel
theorem dX6_readBall_74 : decode cX6_readBall 74 = .ok (.aload_n 1, 1) := by decide +kernel
theorem dX6_readBall_75 : decode cX6_readBall 75 = .ok (.getfield 78, 3) := by decide +kernel
theorem dX6_readBall_78 : decode cX6_readBall 78 = .ok (.invokevirtual 126, 3) := by decide +kernel
theorem dX6_readBall_81 : decode cX6_readBall 81 = .ok (.istore 6, 2) := by decide +kernel
theorem dX6_readBall_83 : decode cX6_readBall 83 = .ok (.aload_n 1, 1) := by decide +kernel
theorem dX6_readBall_84 : decode cX6_readBall 84 = .ok (.lload_n 2, 1) := by decide +kernel
theorem dX6_readBall_85 : decode cX6_readBall 85 = .ok (.iload 4, 2) := by decide +kernel
theorem dX6_readBall_87 : decode cX6_readBall 87 = .ok (.iload 5, 2) := by decide +kernel
theorem dX6_readBall_89 : decode cX6_readBall 89 = .ok (.iload 6, 2) := by decide +kernel
theorem dX6_readBall_91 : decode cX6_readBall 91 = .ok (.invokevirtual 130, 3) := by decide +kernel
theorem dX6_readBall_94 : decode cX6_readBall 94 = .ok (.return_, 1) := by decide +kernel
theorem fl_RX6_111 : FL RX6 111 8 11 := ⟨inG (i := 220) (by decide +kernel) (by decide +kernel), by decide, by decide⟩
theorem fl_RX6_122 : FL RX6 122 8 2 := ⟨inG (i := 195) (by decide +kernel) (by decide +kernel), by decide, by decide⟩
theorem lk_RX6_114 : Cond.methodLink RX6 114 yX6_takeKind ∈ tG := inG (i := 756) (by decide +kernel) (by decide +kernel)
theorem lk_RX6_126 : Cond.methodLink RX6 126 yX10_takeTold ∈ tG := inG (i := 766) (by decide +kernel) (by decide +kernel)
theorem lk_RX6_130 : Cond.methodLink RX6 130 yX8_addBall ∈ tG := inG (i := 772) (by decide +kernel) (by decide +kernel)
theorem m_X10_takeTold : MV Y_X10_takeTold 2 10 := ⟨⟨inG (i := 769) (by decide +kernel) (by decide +kernel), inG (i := 99) (by decide +kernel) (by decide +kernel), by decide, by decide, by decide, by decide +kernel⟩, inG (i := 767) (by decide +kernel) (by decide +kernel), inG (i := 768) (by decide +kernel) (by decide +kernel), by decide⟩
theorem m_X6_takeKind : MV Y_X6_takeKind 0 6 := ⟨⟨inG (i := 759) (by decide +kernel) (by decide +kernel), inG (i := 103) (by decide +kernel) (by decide +kernel), by decide, by decide, by decide, by decide +kernel⟩, inG (i := 758) (by decide +kernel) (by decide +kernel), inG (i := 8) (by decide +kernel) (by decide +kernel), by decide⟩
theorem m_X8_addBall : MV Y_X8_addBall 4 8 := ⟨⟨inG (i := 775) (by decide +kernel) (by decide +kernel), inG (i := 100) (by decide +kernel) (by decide +kernel), by decide, by decide, by decide, by decide +kernel⟩, inG (i := 773) (by decide +kernel) (by decide +kernel), inG (i := 774) (by decide +kernel) (by decide +kernel), by decide⟩
def P_X6_readBall_J17  (o1 : Nat)  (Q : St → Prop) (σ : St) : Prop :=
  P_X10_next σ (fun σ_1 => P_X6_takeNewName o1 σ_1 (fun r_3 σ_2 => P_X6_takeKind σ_2 (fun r_5 σ_4 => P_X10_takeWord 10 σ_4 (fun σ_6 => P_X10_takeNumber 1 60 σ_6 (fun r_8 σ_7 => P_X10_takeWord 11 σ_7 (fun σ_9 => P_X10_takeTold 902 o1 (σ_9 8 o1 10) σ_9 (fun r_11 σ_10 => P_X8_addBall o1 r_3 r_5 r_8 r_11 σ_10 (fun σ_12 => Q σ_12))))))))
set_option maxRecDepth 20000 in
set_option maxHeartbeats 2000000 in
theorem e_P_X6_readBall_J17  {o1 : Nat}  {Q : St → Prop} {σ : St}   (h : P_X6_readBall_J17 o1 Q σ) : E Y_X6_readBall 7 0 0 (QV Q) ww 0 0 17 [some (vR 6 0), some (vR 8 o1), none, none, none, none, none] [] σ := by
  unfold P_X6_readBall_J17 at h
  refine E_aload_n dX6_readBall_17 rfl rfl ?_
  refine E_getr (i := 0) dX6_readBall_18 fl_RX6_18 rfl rfl (go_6_0 _ _) ?_
  refine E_callV (Y' := Y_X10_next) (as := []) (st := []) dX6_readBall_21 lk_RX6_81 m_X10_next (by decide) (Nat.le_refl _) (Nat.le_refl _) rfl rfl (Nat.le_of_ble_eq_true rfl) (s_X10_next h) (fun r0 B0 σ_1 h => ?_)
  obtain ⟨rfl, rfl, h⟩ := h
  refine E_aload_n dX6_readBall_24 rfl rfl ?_
  refine E_aload_n dX6_readBall_25 rfl rfl ?_
  refine E_callV (Y' := Y_X6_takeNewName) (as := [vR 8 o1]) (st := []) dX6_readBall_26 lk_RX6_84 m_X6_takeNewName (by decide) (Nat.le_refl _) (Nat.le_refl _) rfl rfl (Nat.le_of_ble_eq_true rfl) (s_X6_takeNewName h) (fun r0 B0 σ_2 h => ?_)
  obtain ⟨r_3, rfl, rfl, h⟩ := h
  refine E_lstore_n (ls' := [some (vR 6 0), some (vR 8 o1), some (vL r_3), none, none, none, none]) dX6_readBall_29 rfl (by decide) rfl ?_
  refine E_aload_n dX6_readBall_30 rfl rfl ?_
  refine E_callV (Y' := Y_X6_takeKind) (as := []) (st := []) dX6_readBall_31 lk_RX6_114 m_X6_takeKind (by decide) (Nat.le_refl _) (Nat.le_refl _) rfl rfl (Nat.le_of_ble_eq_true rfl) (s_X6_takeKind h) (fun r0 B0 σ_4 h => ?_)
  obtain ⟨r_5, rfl, rfl, h⟩ := h
  refine E_istore (ls' := [some (vR 6 0), some (vR 8 o1), some (vL r_3), none, some (vI r_5), none, none]) dX6_readBall_34 (by decide) rfl ?_
  refine E_aload_n dX6_readBall_36 rfl rfl ?_
  refine E_getr (i := 0) dX6_readBall_37 fl_RX6_18 rfl rfl (go_6_0 _ _) ?_
  refine E_lds (i := 10) dX6_readBall_40 (List.mem_of_getElem? (i := 10) rfl) ?_
  refine E_callV (Y' := Y_X10_takeWord) (as := [vR 50 10]) (st := []) dX6_readBall_42 lk_RX6_90 m_X10_takeWord (by decide) (Nat.le_refl _) (Nat.le_refl _) rfl rfl (Nat.le_of_ble_eq_true rfl) (s_X10_takeWord h) (fun r0 B0 σ_6 h => ?_)
  obtain ⟨rfl, rfl, h⟩ := h
  refine E_aload_n dX6_readBall_45 rfl rfl ?_
  refine E_getr (i := 0) dX6_readBall_46 fl_RX6_18 rfl rfl (go_6_0 _ _) ?_
  refine E_ic dX6_readBall_49 rfl ?_
  refine E_bp dX6_readBall_50 rfl ?_
  refine E_callV (Y' := Y_X10_takeNumber) (as := [vI 1, vI 60]) (st := []) dX6_readBall_52 lk_RX6_104 m_X10_takeNumber (by decide) (Nat.le_refl _) (Nat.le_refl _) rfl rfl (Nat.le_of_ble_eq_true rfl) (s_X10_takeNumber h) (fun r0 B0 σ_7 h => ?_)
  obtain ⟨r_8, rfl, rfl, h⟩ := h
  refine E_istore (ls' := [some (vR 6 0), some (vR 8 o1), some (vL r_3), none, some (vI r_5), some (vI r_8), none]) dX6_readBall_55 (by decide) rfl ?_
  refine E_aload_n dX6_readBall_57 rfl rfl ?_
  refine E_getr (i := 0) dX6_readBall_58 fl_RX6_18 rfl rfl (go_6_0 _ _) ?_
  refine E_lds (i := 11) dX6_readBall_61 (List.mem_of_getElem? (i := 11) rfl) ?_
  refine E_callV (Y' := Y_X10_takeWord) (as := [vR 50 11]) (st := []) dX6_readBall_63 lk_RX6_90 m_X10_takeWord (by decide) (Nat.le_refl _) (Nat.le_refl _) rfl rfl (Nat.le_of_ble_eq_true rfl) (s_X10_takeWord h) (fun r0 B0 σ_9 h => ?_)
  obtain ⟨rfl, rfl, h⟩ := h
  refine E_aload_n dX6_readBall_66 rfl rfl ?_
  refine E_getr (i := 0) dX6_readBall_67 fl_RX6_18 rfl rfl (go_6_0 _ _) ?_
  refine E_aload_n dX6_readBall_70 rfl rfl ?_
  refine E_getr (i := o1) dX6_readBall_71 fl_RX6_122 rfl rfl (go_8_2 _ _) ?_
  refine E_aload_n dX6_readBall_74 rfl rfl ?_
  refine E_geti (i := o1) dX6_readBall_75 fl_RX6_78 rfl ?_
  refine E_callV (Y' := Y_X10_takeTold) (as := [vR 902 o1, vI (σ_9 8 o1 10)]) (st := []) dX6_readBall_78 lk_RX6_126 m_X10_takeTold (by decide) (Nat.le_refl _) (Nat.le_refl _) rfl rfl (Nat.le_of_ble_eq_true rfl) (s_X10_takeTold h) (fun r0 B0 σ_10 h => ?_)
  obtain ⟨r_11, rfl, rfl, h⟩ := h
  refine E_istore (ls' := [some (vR 6 0), some (vR 8 o1), some (vL r_3), none, some (vI r_5), some (vI r_8), some (vI r_11)]) dX6_readBall_81 (by decide) rfl ?_
  refine E_aload_n dX6_readBall_83 rfl rfl ?_
  refine E_lload_n dX6_readBall_84 rfl rfl ?_
  refine E_iload dX6_readBall_85 rfl ?_
  refine E_iload dX6_readBall_87 rfl ?_
  refine E_iload dX6_readBall_89 rfl ?_
  refine E_callV (Y' := Y_X8_addBall) (as := [vL r_3, vI r_5, vI r_8, vI r_11]) (st := []) dX6_readBall_91 lk_RX6_130 m_X8_addBall (by decide) (Nat.le_refl _) (Nat.le_refl _) rfl rfl (Nat.le_of_ble_eq_true rfl) (s_X8_addBall h) (fun r0 B0 σ_12 h => ?_)
  obtain ⟨rfl, rfl, h⟩ := h
  exact E_vret dX6_readBall_94 rfl ⟨rfl, rfl, h⟩
def P_X6_readBall  (o1 : Nat) (σ : St) (Q : St → Prop) : Prop :=
  (if (σ 8 o1 11) < 6 then P_X6_readBall_J17 o1 Q σ else P_X10_wrong 5 σ (fun σ_13 => P_X6_readBall_J17 o1 Q σ_13))
set_option maxRecDepth 20000 in
set_option maxHeartbeats 2000000 in
theorem s_X6_readBall   {o1 : Nat} {σ : St} {Q : St → Prop} (h : P_X6_readBall o1 σ Q) : Cn Y_X6_readBall 7 0 0 ww σ [vR 6 0, vR 8 o1] (QV Q) := by
  refine Cn_of [some (vR 6 0), some (vR 8 o1), none, none, none, none, none] (by decide) (Nat.le_of_ble_eq_true rfl) rfl ?_
  unfold P_X6_readBall at h
  refine E_aload_n dX6_readBall_0 rfl rfl ?_
  refine E_geti (i := o1) dX6_readBall_1 fl_RX6_111 rfl ?_
  refine E_bp dX6_readBall_4 rfl ?_
  refine E_icmp_lt (tgt := 17) dX6_readBall_6 (by decide) (fun hc => ?_) (fun hc => ?_)
  · have h := Eq.mp (if_pos hc) h
    exact e_P_X6_readBall_J17 h
  · have h := Eq.mp (if_neg hc) h
    refine E_aload_n dX6_readBall_9 rfl rfl ?_
    refine E_getr (i := 0) dX6_readBall_10 fl_RX6_18 rfl rfl (go_6_0 _ _) ?_
    refine E_ic dX6_readBall_13 rfl ?_
    refine E_callV (Y' := Y_X10_wrong) (as := [vI 5]) (st := []) dX6_readBall_14 lk_RX6_66 m_X10_wrong (by decide) (Nat.le_refl _) (Nat.le_refl _) rfl rfl (Nat.le_of_ble_eq_true rfl) (s_X10_wrong h) (fun r0 B0 σ_13 h => ?_)
    obtain ⟨rfl, rfl, h⟩ := h
    exact e_P_X6_readBall_J17 h
abbrev Y_X6_readDesk : My := (yX6_readDesk, cX6_readDesk, 2, none)
theorem dX6_readDesk_0 : decode cX6_readDesk 0 = .ok (.aload_n 0, 1) := by decide +kernel
theorem dX6_readDesk_1 : decode cX6_readDesk 1 = .ok (.getfield 9, 3) := by decide +kernel
theorem dX6_readDesk_4 : decode cX6_readDesk 4 = .ok (.ifCond .eq 11, 3) := by decide +kernel
theorem dX6_readDesk_7 : decode cX6_readDesk 7 = .ok (.aload_n 0, 1) := by decide +kernel
theorem dX6_readDesk_8 : decode cX6_readDesk 8 = .ok (.getfield 18, 3) := by decide +kernel
theorem dX6_readDesk_11 : decode cX6_readDesk 11 = .ok (.iconst 3, 1) := by decide +kernel
theorem dX6_readDesk_12 : decode cX6_readDesk 12 = .ok (.invokevirtual 66, 3) := by decide +kernel
theorem dX6_readDesk_15 : decode cX6_readDesk 15 = .ok (.aload_n 0, 1) := by decide +kernel
theorem dX6_readDesk_16 : decode cX6_readDesk 16 = .ok (.iconst 1, 1) := by decide +kernel
theorem dX6_readDesk_17 : decode cX6_readDesk 17 = .ok (.putfield 9, 3) := by decide +kernel
theorem dX6_readDesk_20 : decode cX6_readDesk 20 = .ok (.aload_n 0, 1) := by decide +kernel
theorem dX6_readDesk_21 : decode cX6_readDesk 21 = .ok (.getfield 18, 3) := by decide +kernel
theorem dX6_readDesk_24 : decode cX6_readDesk 24 = .ok (.invokevirtual 81, 3) := by decide +kernel
theorem dX6_readDesk_27 : decode cX6_readDesk 27 = .ok (.aload_n 1, 1) := by decide +kernel
theorem dX6_readDesk_28 : decode cX6_readDesk 28 = .ok (.aload_n 0, 1) := by decide +kernel
theorem dX6_readDesk_29 : decode cX6_readDesk 29 = .ok (.getfield 18, 3) := by decide +kernel
theorem dX6_readDesk_32 : decode cX6_readDesk 32 = .ok (.iconst 1, 1) := by decide +kernel
theorem dX6_readDesk_33 : decode cX6_readDesk 33 = .ok (.bipush 9, 2) := by decide +kernel
theorem dX6_readDesk_35 : decode cX6_readDesk 35 = .ok (.invokevirtual 104, 3) := by decide +kernel
theorem dX6_readDesk_38 : decode cX6_readDesk 38 = .ok (.putfield 153, 3) := by decide +kernel
theorem dX6_readDesk_41 : decode cX6_readDesk 41 = .ok (.return_, 1) := by decide +kernel
theorem fl_RX6_153 : FL RX6 153 8 13 := ⟨inG (i := 228) (by decide +kernel) (by decide +kernel), by decide, by decide⟩
theorem fl_RX6_9 : FL RX6 9 6 1 := ⟨inG (i := 288) (by decide +kernel) (by decide +kernel), by decide, by decide⟩
def P_X6_readDesk_J15  (o1 : Nat)  (Q : St → Prop) (σ : St) : Prop :=
  P_X10_next (up σ 6 0 1 1) (fun σ_1 => P_X10_takeNumber 1 9 σ_1 (fun r_3 σ_2 => Q (up σ_2 8 o1 13 r_3)))
set_option maxRecDepth 20000 in
set_option maxHeartbeats 2000000 in
theorem e_P_X6_readDesk_J15  {o1 : Nat}  {Q : St → Prop} {σ : St}   (h : P_X6_readDesk_J15 o1 Q σ) : E Y_X6_readDesk 3 0 0 (QV Q) ww 0 0 15 [some (vR 6 0), some (vR 8 o1)] [] σ := by
  unfold P_X6_readDesk_J15 at h
  refine E_aload_n dX6_readDesk_15 rfl rfl ?_
  refine E_ic dX6_readDesk_16 rfl ?_
  refine E_putz dX6_readDesk_17 fl_RX6_9 rfl rfl rfl (by decide) ?_
  refine E_aload_n dX6_readDesk_20 rfl rfl ?_
  refine E_getr (i := 0) dX6_readDesk_21 fl_RX6_18 rfl rfl (go_6_0 _ _) ?_
  refine E_callV (Y' := Y_X10_next) (as := []) (st := []) dX6_readDesk_24 lk_RX6_81 m_X10_next (by decide) (Nat.le_refl _) (Nat.le_refl _) rfl rfl (Nat.le_of_ble_eq_true rfl) (s_X10_next h) (fun r0 B0 σ_1 h => ?_)
  obtain ⟨rfl, rfl, h⟩ := h
  refine E_aload_n dX6_readDesk_27 rfl rfl ?_
  refine E_aload_n dX6_readDesk_28 rfl rfl ?_
  refine E_getr (i := 0) dX6_readDesk_29 fl_RX6_18 rfl rfl (go_6_0 _ _) ?_
  refine E_ic dX6_readDesk_32 rfl ?_
  refine E_bp dX6_readDesk_33 rfl ?_
  refine E_callV (Y' := Y_X10_takeNumber) (as := [vI 1, vI 9]) (st := [vR 8 o1]) dX6_readDesk_35 lk_RX6_104 m_X10_takeNumber (by decide) (Nat.le_refl _) (Nat.le_refl _) rfl rfl (Nat.le_of_ble_eq_true rfl) (s_X10_takeNumber h) (fun r0 B0 σ_2 h => ?_)
  obtain ⟨r_3, rfl, rfl, h⟩ := h
  refine E_puti dX6_readDesk_38 fl_RX6_153 rfl rfl rfl ?_
  exact E_vret dX6_readDesk_41 rfl ⟨rfl, rfl, h⟩
def P_X6_readDesk  (o1 : Nat) (σ : St) (Q : St → Prop) : Prop :=
  (if (σ 6 0 1) = 0 then P_X6_readDesk_J15 o1 Q σ else P_X10_wrong 3 σ (fun σ_4 => P_X6_readDesk_J15 o1 Q σ_4))
set_option maxRecDepth 20000 in
set_option maxHeartbeats 2000000 in
theorem s_X6_readDesk   {o1 : Nat} {σ : St} {Q : St → Prop} (h : P_X6_readDesk o1 σ Q) : Cn Y_X6_readDesk 3 0 0 ww σ [vR 6 0, vR 8 o1] (QV Q) := by
  refine Cn_of [some (vR 6 0), some (vR 8 o1)] (by decide) (Nat.le_of_ble_eq_true rfl) rfl ?_
  unfold P_X6_readDesk at h
  refine E_aload_n dX6_readDesk_0 rfl rfl ?_
  refine E_geti (i := 0) dX6_readDesk_1 fl_RX6_9 rfl ?_
  refine E_if_eq (tgt := 15) dX6_readDesk_4 (by decide) (fun hc => ?_) (fun hc => ?_)
  · have h := Eq.mp (if_pos hc) h
    exact e_P_X6_readDesk_J15 h
  · have h := Eq.mp (if_neg hc) h
    refine E_aload_n dX6_readDesk_7 rfl rfl ?_
    refine E_getr (i := 0) dX6_readDesk_8 fl_RX6_18 rfl rfl (go_6_0 _ _) ?_
    refine E_ic dX6_readDesk_11 rfl ?_
    refine E_callV (Y' := Y_X10_wrong) (as := [vI 3]) (st := []) dX6_readDesk_12 lk_RX6_66 m_X10_wrong (by decide) (Nat.le_refl _) (Nat.le_refl _) rfl rfl (Nat.le_of_ble_eq_true rfl) (s_X10_wrong h) (fun r0 B0 σ_4 h => ?_)
    obtain ⟨rfl, rfl, h⟩ := h
    exact e_P_X6_readDesk_J15 h
abbrev Y_X6_readDamp : My := (yX6_readDamp, cX6_readDamp, 4, none)
theorem dX6_readDamp_0 : decode cX6_readDamp 0 = .ok (.aload_n 1, 1) := by decide +kernel
theorem dX6_readDamp_1 : decode cX6_readDamp 1 = .ok (.getfield 155, 3) := by decide +kernel
theorem dX6_readDamp_4 : decode cX6_readDamp 4 = .ok (.ifCond .le 11, 3) := by decide +kernel
theorem dX6_readDamp_7 : decode cX6_readDamp 7 = .ok (.aload_n 0, 1) := by decide +kernel
theorem dX6_readDamp_8 : decode cX6_readDamp 8 = .ok (.getfield 18, 3) := by decide +kernel
theorem dX6_readDamp_11 : decode cX6_readDamp 11 = .ok (.iconst 3, 1) := by decide +kernel
theorem dX6_readDamp_12 : decode cX6_readDamp 12 = .ok (.invokevirtual 66, 3) := by decide +kernel
theorem dX6_readDamp_15 : decode cX6_readDamp 15 = .ok (.aload_n 0, 1) := by decide +kernel
theorem dX6_readDamp_16 : decode cX6_readDamp 16 = .ok (.getfield 18, 3) := by decide +kernel
theorem dX6_readDamp_19 : decode cX6_readDamp 19 = .ok (.invokevirtual 81, 3) := by decide +kernel
theorem dX6_readDamp_22 : decode cX6_readDamp 22 = .ok (.aload_n 1, 1) := by decide +kernel
theorem dX6_readDamp_23 : decode cX6_readDamp 23 = .ok (.aload_n 0, 1) := by decide +kernel
theorem dX6_readDamp_24 : decode cX6_readDamp 24 = .ok (.getfield 18, 3) := by decide +kernel
theorem dX6_readDamp_27 : decode cX6_readDamp 27 = .ok (.iconst 0, 1) := by decide +kernel
theorem dX6_readDamp_28 : decode cX6_readDamp 28 = .ok (.bipush 9, 2) := by decide +kernel
theorem dX6_readDamp_30 : decode cX6_readDamp 30 = .ok (.invokevirtual 104, 3) := by decide +kernel
theorem dX6_readDamp_33 : decode cX6_readDamp 33 = .ok (.invokevirtual 158, 3) := by decide +kernel
theorem dX6_readDamp_36 : decode cX6_readDamp 36 = .ok (.iconst 1, 1) := by decide +kernel
theorem dX6_readDamp_37 : decode cX6_readDamp 37 = .ok (.istore_n 2, 1) := by decide +kernel
theorem dX6_readDamp_38 : decode cX6_readDamp 38 = .ok (.iload_n 2, 1) := by decide +kernel
theorem dX6_readDamp_39 : decode cX6_readDamp 39 = .ok (.bipush 12, 2) := by decide +kernel
theorem dX6_readDamp_41 : decode cX6_readDamp 41 = .ok (.if_icmp .gt 66, 3) := by decide +kernel
theorem dX6_readDamp_44 : decode cX6_readDamp 44 = .ok (.aload_n 0, 1) := by decide +kernel
theorem dX6_readDamp_45 : decode cX6_readDamp 45 = .ok (.getfield 18, 3) := by decide +kernel
theorem dX6_readDamp_48 : decode cX6_readDamp 48 = .ok (.invokevirtual 161, 3) := by decide +kernel
theorem dX6_readDamp_51 : decode cX6_readDamp 51 = .ok (.ifCond .eq 56, 3) := by decide +kernel
theorem dX6_readDamp_54 : decode cX6_readDamp 54 = .ok (.aload_n 0, 1) := by decide +kernel
theorem dX6_readDamp_55 : decode cX6_readDamp 55 = .ok (.getfield 18, 3) := by decide +kernel
theorem dX6_readDamp_58 : decode cX6_readDamp 58 = .ok (.invokevirtual 164, 3) := by decide +kernel
theorem dX6_readDamp_61 : decode cX6_readDamp 61 = .ok (.ifCond .eq 46, 3) := by decide +kernel
theorem dX6_readDamp_64 : decode cX6_readDamp 64 = .ok (.aload_n 0, 1) := by decide +kernel
theorem dX6_readDamp_65 : decode cX6_readDamp 65 = .ok (.getfield 18, 3) := by decide +kernel
theorem dX6_readDamp_68 : decode cX6_readDamp 68 = .ok (.iconst 0, 1) := by decide +kernel
theorem dX6_readDamp_69 : decode cX6_readDamp 69 = .ok (.bipush 9, 2) := by decide +kernel
theorem dX6_readDamp_71 : decode cX6_readDamp 71 = .ok (.invokevirtual 94, 3) := by decide +kernel
theorem dX6_readDamp_74 : decode cX6_readDamp 74 = .ok (.istore_n 3, 1) := by decide +kernel
theorem dX6_readDamp_75 : decode cX6_readDamp 75 = .ok (.iload_n 2, 1) := by decide +kernel
theorem dX6_readDamp_76 : decode cX6_readDamp 76 = .ok (.bipush 12, 2) := by decide +kernel
theorem dX6_readDamp_78 : decode cX6_readDamp 78 = .ok (.if_icmp .lt 11, 3) := by decide +kernel
theorem dX6_readDamp_81 : decode cX6_readDamp 81 = .ok (.aload_n 0, 1) := by decide +kernel
theorem dX6_readDamp_82 : decode cX6_readDamp 82 = .ok (.getfield 18, 3) := by decide +kernel
theorem dX6_readDamp_85 : decode cX6_readDamp 85 = .ok (.iconst 5, 1) := by decide +kernel
theorem dX6_readDamp_86 : decode cX6_readDamp 86 = .ok (.invokevirtual 66, 3) := by decide +kernel
theorem dX6_readDamp_89 : decode cX6_readDamp 89 = .ok (.aload_n 0, 1) := by decide +kernel
theorem dX6_readDamp_90 : decode cX6_readDamp 90 = .ok (.getfield 18, 3) := by decide +kernel
theorem dX6_readDamp_93 : decode cX6_readDamp 93 = .ok (.invokevirtual 81, 3) := by decide +kernel
theorem dX6_readDamp_96 : decode cX6_readDamp 96 = .ok (.aload_n 1, 1) := by decide +kernel
theorem dX6_readDamp_97 : decode cX6_readDamp 97 = .ok (.iload_n 3, 1) := by decide +kernel
theorem dX6_readDamp_98 : decode cX6_readDamp 98 = .ok (.invokevirtual 158, 3) := by decide +kernel
theorem dX6_readDamp_101 : decode cX6_readDamp 101 = .ok (.iinc 2 1, 3) := by decide +kernel
theorem dX6_readDamp_104 : decode cX6_readDamp 104 = .ok (.goto (-66), 3) := by decide +kernel
theorem dX6_readDamp_107 : decode cX6_readDamp 107 = .ok (.return_, 1) := by decide +kernel
theorem fl_RX6_155 : FL RX6 155 8 12 := ⟨inG (i := 226) (by decide +kernel) (by decide +kernel), by decide, by decide⟩
theorem lk_RX6_158 : Cond.methodLink RX6 158 yX8_addDamp ∈ tG := inG (i := 786) (by decide +kernel) (by decide +kernel)
theorem m_X8_addDamp : MV Y_X8_addDamp 1 8 := ⟨⟨inG (i := 789) (by decide +kernel) (by decide +kernel), inG (i := 100) (by decide +kernel) (by decide +kernel), by decide, by decide, by decide, by decide +kernel⟩, inG (i := 787) (by decide +kernel) (by decide +kernel), inG (i := 788) (by decide +kernel) (by decide +kernel), by decide⟩
def P_X6_readDamp_J89  (o1 : Nat) (x2 : Int) (x3 : Int) (R : Int → St → Prop) (Q : St → Prop) (σ : St) : Prop :=
  P_X10_next σ (fun σ_11 => P_X8_addDamp o1 x3 σ_11 (fun σ_12 => R (wi (x2 + 1)) σ_12))
set_option maxRecDepth 20000 in
set_option maxHeartbeats 2000000 in
theorem e_P_X6_readDamp_J89  {o1 : Nat} {x2 : Int} {x3 : Int} {R : Int → St → Prop} {Q : St → Prop} {σ : St}  (hR : ∀ x2 σ, R x2 σ → E Y_X6_readDamp 3 0 0 (QV Q) ww 0 0 38 [some (vR 6 0), some (vR 8 o1), some (vI x2), none] [] σ) (h : P_X6_readDamp_J89 o1 x2 x3 R Q σ) : E Y_X6_readDamp 3 0 0 (QV Q) ww 0 0 89 [some (vR 6 0), some (vR 8 o1), some (vI x2), some (vI x3)] [] σ := by
  unfold P_X6_readDamp_J89 at h
  refine E_aload_n dX6_readDamp_89 rfl rfl ?_
  refine E_getr (i := 0) dX6_readDamp_90 fl_RX6_18 rfl rfl (go_6_0 _ _) ?_
  refine E_callV (Y' := Y_X10_next) (as := []) (st := []) dX6_readDamp_93 lk_RX6_81 m_X10_next (by decide) (Nat.le_refl _) (Nat.le_refl _) rfl rfl (Nat.le_of_ble_eq_true rfl) (s_X10_next h) (fun r0 B0 σ_11 h => ?_)
  obtain ⟨rfl, rfl, h⟩ := h
  refine E_aload_n dX6_readDamp_96 rfl rfl ?_
  refine E_iload_n dX6_readDamp_97 rfl rfl ?_
  refine E_callV (Y' := Y_X8_addDamp) (as := [vI x3]) (st := []) dX6_readDamp_98 lk_RX6_158 m_X8_addDamp (by decide) (Nat.le_refl _) (Nat.le_refl _) rfl rfl (Nat.le_of_ble_eq_true rfl) (s_X8_addDamp h) (fun r0 B0 σ_12 h => ?_)
  obtain ⟨rfl, rfl, h⟩ := h
  refine E_iinc (ls' := [some (vR 6 0), some (vR 8 o1), some (vI (wi (x2 + 1))), some (vI x3)]) dX6_readDamp_101 rfl (by decide) rfl rfl ?_
  refine E_goto (tgt := 38) dX6_readDamp_104 (by decide) ?_
  refine E_wk2 [some (vR 6 0), some (vR 8 o1), some (vI (wi (x2 + 1))), none] ⟨rfl, ⟨rfl, ⟨rfl, trivial⟩⟩⟩ ?_
  exact hR _ _ h
def P_X6_readDamp_L38  (o1 : Nat)  (Q : St → Prop) : Nat → Int → St → Prop
  | 0, _, _ => False
  | n + 1, x2, σ => (if 12 < x2 then Q σ else P_X10_isSound σ (fun r_6 σ_5 => (if r_6 = 0 then Q σ_5 else P_X10_isNumber σ_5 (fun r_8 σ_7 => (if r_8 = 0 then Q σ_7 else P_X10_numberHere 0 9 σ_7 (fun r_10 σ_9 => (if x2 < 12 then P_X6_readDamp_J89 o1 x2 r_10 (P_X6_readDamp_L38 o1 Q n) Q σ_9 else P_X10_wrong 5 σ_9 (fun σ_13 => P_X6_readDamp_J89 o1 x2 r_10 (P_X6_readDamp_L38 o1 Q n) Q σ_13))))))))
set_option maxRecDepth 20000 in
set_option maxHeartbeats 2000000 in
theorem e_P_X6_readDamp_L38  {o1 : Nat}  {Q : St → Prop}   : ∀ (n : Nat) (x2 : Int) (σ : St), P_X6_readDamp_L38 o1 Q n x2 σ → E Y_X6_readDamp 3 0 0 (QV Q) ww 0 0 38 [some (vR 6 0), some (vR 8 o1), some (vI x2), none] [] σ := by
  intro n
  induction n with
  | zero => intro x2 σ h; exact h.elim
  | succ n hR =>
    intro x2 σ h
    unfold P_X6_readDamp_L38 at h
    refine E_iload_n dX6_readDamp_38 rfl rfl ?_
    refine E_bp dX6_readDamp_39 rfl ?_
    refine E_icmp_gt (tgt := 107) dX6_readDamp_41 (by decide) (fun hc => ?_) (fun hc => ?_)
    · have h := Eq.mp (if_pos hc) h
      exact E_vret dX6_readDamp_107 rfl ⟨rfl, rfl, h⟩
    · have h := Eq.mp (if_neg hc) h
      refine E_aload_n dX6_readDamp_44 rfl rfl ?_
      refine E_getr (i := 0) dX6_readDamp_45 fl_RX6_18 rfl rfl (go_6_0 _ _) ?_
      refine E_callV (Y' := Y_X10_isSound) (as := []) (st := []) dX6_readDamp_48 lk_RX6_161 m_X10_isSound (by decide) (Nat.le_refl _) (Nat.le_refl _) rfl rfl (Nat.le_of_ble_eq_true rfl) (s_X10_isSound h) (fun r0 B0 σ_5 h => ?_)
      obtain ⟨r_6, rfl, rfl, h⟩ := h
      refine E_if_eq (tgt := 107) dX6_readDamp_51 (by decide) (fun hc => ?_) (fun hc => ?_)
      · have h := Eq.mp (if_pos hc) h
        exact E_vret dX6_readDamp_107 rfl ⟨rfl, rfl, h⟩
      · have h := Eq.mp (if_neg hc) h
        refine E_aload_n dX6_readDamp_54 rfl rfl ?_
        refine E_getr (i := 0) dX6_readDamp_55 fl_RX6_18 rfl rfl (go_6_0 _ _) ?_
        refine E_callV (Y' := Y_X10_isNumber) (as := []) (st := []) dX6_readDamp_58 lk_RX6_164 m_X10_isNumber (by decide) (Nat.le_refl _) (Nat.le_refl _) rfl rfl (Nat.le_of_ble_eq_true rfl) (s_X10_isNumber h) (fun r0 B0 σ_7 h => ?_)
        obtain ⟨r_8, rfl, rfl, h⟩ := h
        refine E_if_eq (tgt := 107) dX6_readDamp_61 (by decide) (fun hc => ?_) (fun hc => ?_)
        · have h := Eq.mp (if_pos hc) h
          exact E_vret dX6_readDamp_107 rfl ⟨rfl, rfl, h⟩
        · have h := Eq.mp (if_neg hc) h
          refine E_aload_n dX6_readDamp_64 rfl rfl ?_
          refine E_getr (i := 0) dX6_readDamp_65 fl_RX6_18 rfl rfl (go_6_0 _ _) ?_
          refine E_ic dX6_readDamp_68 rfl ?_
          refine E_bp dX6_readDamp_69 rfl ?_
          refine E_callV (Y' := Y_X10_numberHere) (as := [vI 0, vI 9]) (st := []) dX6_readDamp_71 lk_RX6_94 m_X10_numberHere (by decide) (Nat.le_refl _) (Nat.le_refl _) rfl rfl (Nat.le_of_ble_eq_true rfl) (s_X10_numberHere h) (fun r0 B0 σ_9 h => ?_)
          obtain ⟨r_10, rfl, rfl, h⟩ := h
          refine E_istore_n (ls' := [some (vR 6 0), some (vR 8 o1), some (vI x2), some (vI r_10)]) dX6_readDamp_74 rfl (by decide) rfl ?_
          refine E_iload_n dX6_readDamp_75 rfl rfl ?_
          refine E_bp dX6_readDamp_76 rfl ?_
          refine E_icmp_lt (tgt := 89) dX6_readDamp_78 (by decide) (fun hc => ?_) (fun hc => ?_)
          · have h := Eq.mp (if_pos hc) h
            exact e_P_X6_readDamp_J89 hR h
          · have h := Eq.mp (if_neg hc) h
            refine E_aload_n dX6_readDamp_81 rfl rfl ?_
            refine E_getr (i := 0) dX6_readDamp_82 fl_RX6_18 rfl rfl (go_6_0 _ _) ?_
            refine E_ic dX6_readDamp_85 rfl ?_
            refine E_callV (Y' := Y_X10_wrong) (as := [vI 5]) (st := []) dX6_readDamp_86 lk_RX6_66 m_X10_wrong (by decide) (Nat.le_refl _) (Nat.le_refl _) rfl rfl (Nat.le_of_ble_eq_true rfl) (s_X10_wrong h) (fun r0 B0 σ_13 h => ?_)
            obtain ⟨rfl, rfl, h⟩ := h
            exact e_P_X6_readDamp_J89 hR h
def P_X6_readDamp_J15  (o1 : Nat)  (Q : St → Prop) (σ : St) : Prop :=
  P_X10_next σ (fun σ_1 => P_X10_takeNumber 0 9 σ_1 (fun r_3 σ_2 => P_X8_addDamp o1 r_3 σ_2 (fun σ_4 => P_X6_readDamp_L38 o1 Q FU 1 σ_4)))
set_option maxRecDepth 20000 in
set_option maxHeartbeats 2000000 in
theorem e_P_X6_readDamp_J15  {o1 : Nat}  {Q : St → Prop} {σ : St}   (h : P_X6_readDamp_J15 o1 Q σ) : E Y_X6_readDamp 3 0 0 (QV Q) ww 0 0 15 [some (vR 6 0), some (vR 8 o1), none, none] [] σ := by
  unfold P_X6_readDamp_J15 at h
  refine E_aload_n dX6_readDamp_15 rfl rfl ?_
  refine E_getr (i := 0) dX6_readDamp_16 fl_RX6_18 rfl rfl (go_6_0 _ _) ?_
  refine E_callV (Y' := Y_X10_next) (as := []) (st := []) dX6_readDamp_19 lk_RX6_81 m_X10_next (by decide) (Nat.le_refl _) (Nat.le_refl _) rfl rfl (Nat.le_of_ble_eq_true rfl) (s_X10_next h) (fun r0 B0 σ_1 h => ?_)
  obtain ⟨rfl, rfl, h⟩ := h
  refine E_aload_n dX6_readDamp_22 rfl rfl ?_
  refine E_aload_n dX6_readDamp_23 rfl rfl ?_
  refine E_getr (i := 0) dX6_readDamp_24 fl_RX6_18 rfl rfl (go_6_0 _ _) ?_
  refine E_ic dX6_readDamp_27 rfl ?_
  refine E_bp dX6_readDamp_28 rfl ?_
  refine E_callV (Y' := Y_X10_takeNumber) (as := [vI 0, vI 9]) (st := [vR 8 o1]) dX6_readDamp_30 lk_RX6_104 m_X10_takeNumber (by decide) (Nat.le_refl _) (Nat.le_refl _) rfl rfl (Nat.le_of_ble_eq_true rfl) (s_X10_takeNumber h) (fun r0 B0 σ_2 h => ?_)
  obtain ⟨r_3, rfl, rfl, h⟩ := h
  refine E_callV (Y' := Y_X8_addDamp) (as := [vI r_3]) (st := []) dX6_readDamp_33 lk_RX6_158 m_X8_addDamp (by decide) (Nat.le_refl _) (Nat.le_refl _) rfl rfl (Nat.le_of_ble_eq_true rfl) (s_X8_addDamp h) (fun r0 B0 σ_4 h => ?_)
  obtain ⟨rfl, rfl, h⟩ := h
  refine E_ic dX6_readDamp_36 rfl ?_
  refine E_istore_n (ls' := [some (vR 6 0), some (vR 8 o1), some (vI 1), none]) dX6_readDamp_37 rfl (by decide) rfl ?_
  refine e_P_X6_readDamp_L38  _ _ _ h
def P_X6_readDamp  (o1 : Nat) (σ : St) (Q : St → Prop) : Prop :=
  (if (σ 8 o1 12) ≤ 0 then P_X6_readDamp_J15 o1 Q σ else P_X10_wrong 3 σ (fun σ_14 => P_X6_readDamp_J15 o1 Q σ_14))
set_option maxRecDepth 20000 in
set_option maxHeartbeats 2000000 in
theorem s_X6_readDamp   {o1 : Nat} {σ : St} {Q : St → Prop} (h : P_X6_readDamp o1 σ Q) : Cn Y_X6_readDamp 3 0 0 ww σ [vR 6 0, vR 8 o1] (QV Q) := by
  refine Cn_of [some (vR 6 0), some (vR 8 o1), none, none] (by decide) (Nat.le_of_ble_eq_true rfl) rfl ?_
  unfold P_X6_readDamp at h
  refine E_aload_n dX6_readDamp_0 rfl rfl ?_
  refine E_geti (i := o1) dX6_readDamp_1 fl_RX6_155 rfl ?_
  refine E_if_le (tgt := 15) dX6_readDamp_4 (by decide) (fun hc => ?_) (fun hc => ?_)
  · have h := Eq.mp (if_pos hc) h
    exact e_P_X6_readDamp_J15 h
  · have h := Eq.mp (if_neg hc) h
    refine E_aload_n dX6_readDamp_7 rfl rfl ?_
    refine E_getr (i := 0) dX6_readDamp_8 fl_RX6_18 rfl rfl (go_6_0 _ _) ?_
    refine E_ic dX6_readDamp_11 rfl ?_
    refine E_callV (Y' := Y_X10_wrong) (as := [vI 3]) (st := []) dX6_readDamp_12 lk_RX6_66 m_X10_wrong (by decide) (Nat.le_refl _) (Nat.le_refl _) rfl rfl (Nat.le_of_ble_eq_true rfl) (s_X10_wrong h) (fun r0 B0 σ_14 h => ?_)
    obtain ⟨rfl, rfl, h⟩ := h
    exact e_P_X6_readDamp_J15 h
abbrev Y_X6_readWears : My := (yX6_readWears, cX6_readWears, 2, none)
theorem dX6_readWears_0 : decode cX6_readWears 0 = .ok (.aload_n 0, 1) := by decide +kernel
theorem dX6_readWears_1 : decode cX6_readWears 1 = .ok (.getfield 15, 3) := by decide +kernel
theorem dX6_readWears_4 : decode cX6_readWears 4 = .ok (.ifCond .eq 11, 3) := by decide +kernel
theorem dX6_readWears_7 : decode cX6_readWears 7 = .ok (.aload_n 0, 1) := by decide +kernel
theorem dX6_readWears_8 : decode cX6_readWears 8 = .ok (.getfield 18, 3) := by decide +kernel
theorem dX6_readWears_11 : decode cX6_readWears 11 = .ok (.iconst 3, 1) := by decide +kernel
theorem dX6_readWears_12 : decode cX6_readWears 12 = .ok (.invokevirtual 66, 3) := by decide +kernel
theorem dX6_readWears_15 : decode cX6_readWears 15 = .ok (.aload_n 0, 1) := by decide +kernel
theorem dX6_readWears_16 : decode cX6_readWears 16 = .ok (.iconst 1, 1) := by decide +kernel
theorem dX6_readWears_17 : decode cX6_readWears 17 = .ok (.putfield 15, 3) := by decide +kernel
theorem dX6_readWears_20 : decode cX6_readWears 20 = .ok (.aload_n 0, 1) := by decide +kernel
theorem dX6_readWears_21 : decode cX6_readWears 21 = .ok (.getfield 18, 3) := by decide +kernel
theorem dX6_readWears_24 : decode cX6_readWears 24 = .ok (.invokevirtual 81, 3) := by decide +kernel
theorem dX6_readWears_27 : decode cX6_readWears 27 = .ok (.aload_n 0, 1) := by decide +kernel
theorem dX6_readWears_28 : decode cX6_readWears 28 = .ok (.iconst 0, 1) := by decide +kernel
theorem dX6_readWears_29 : decode cX6_readWears 29 = .ok (.iconst 0, 1) := by decide +kernel
theorem dX6_readWears_30 : decode cX6_readWears 30 = .ok (.aload_n 1, 1) := by decide +kernel
theorem dX6_readWears_31 : decode cX6_readWears 31 = .ok (.getfield 167, 3) := by decide +kernel
theorem dX6_readWears_34 : decode cX6_readWears 34 = .ok (.invokevirtual 171, 3) := by decide +kernel
theorem dX6_readWears_37 : decode cX6_readWears 37 = .ok (.return_, 1) := by decide +kernel
theorem fl_RX6_15 : FL RX6 15 6 2 := ⟨inG (i := 289) (by decide +kernel) (by decide +kernel), by decide, by decide⟩
theorem fl_RX6_167 : FL RX6 167 8 9 := ⟨inG (i := 211) (by decide +kernel) (by decide +kernel), by decide, by decide⟩
def P_X6_readWears_J15  (o1 : Nat)  (Q : St → Prop) (σ : St) : Prop :=
  P_X10_next (up σ 6 0 2 1) (fun σ_1 => P_X6_readRank 0 0 o1 σ_1 (fun σ_2 => Q σ_2))
set_option maxRecDepth 20000 in
set_option maxHeartbeats 2000000 in
theorem e_P_X6_readWears_J15  {o1 : Nat}  {Q : St → Prop} {σ : St}   (h : P_X6_readWears_J15 o1 Q σ) : E Y_X6_readWears 513 0 0 (QV Q) ww 0 0 15 [some (vR 6 0), some (vR 8 o1)] [] σ := by
  unfold P_X6_readWears_J15 at h
  refine E_aload_n dX6_readWears_15 rfl rfl ?_
  refine E_ic dX6_readWears_16 rfl ?_
  refine E_putz dX6_readWears_17 fl_RX6_15 rfl rfl rfl (by decide) ?_
  refine E_aload_n dX6_readWears_20 rfl rfl ?_
  refine E_getr (i := 0) dX6_readWears_21 fl_RX6_18 rfl rfl (go_6_0 _ _) ?_
  refine E_callV (Y' := Y_X10_next) (as := []) (st := []) dX6_readWears_24 lk_RX6_81 m_X10_next (by decide) (Nat.le_refl _) (Nat.le_refl _) rfl rfl (Nat.le_of_ble_eq_true rfl) (s_X10_next h) (fun r0 B0 σ_1 h => ?_)
  obtain ⟨rfl, rfl, h⟩ := h
  refine E_aload_n dX6_readWears_27 rfl rfl ?_
  refine E_ic dX6_readWears_28 rfl ?_
  refine E_ic dX6_readWears_29 rfl ?_
  refine E_aload_n dX6_readWears_30 rfl rfl ?_
  refine E_getr (i := o1) dX6_readWears_31 fl_RX6_167 rfl rfl (go_8_9 _ _) ?_
  refine E_callV (Y' := Y_X6_readRank) (as := [vI 0, vI 0, vR 2 o1]) (st := []) dX6_readWears_34 lk_RX6_171 m_X6_readRank (by decide) (Nat.le_refl _) (Nat.le_refl _) rfl rfl (Nat.le_of_ble_eq_true rfl) (s_X6_readRank h) (fun r0 B0 σ_2 h => ?_)
  obtain ⟨rfl, rfl, h⟩ := h
  exact E_vret dX6_readWears_37 rfl ⟨rfl, rfl, h⟩
def P_X6_readWears  (o1 : Nat) (σ : St) (Q : St → Prop) : Prop :=
  (if (σ 6 0 2) = 0 then P_X6_readWears_J15 o1 Q σ else P_X10_wrong 3 σ (fun σ_3 => P_X6_readWears_J15 o1 Q σ_3))
set_option maxRecDepth 20000 in
set_option maxHeartbeats 2000000 in
theorem s_X6_readWears   {o1 : Nat} {σ : St} {Q : St → Prop} (h : P_X6_readWears o1 σ Q) : Cn Y_X6_readWears 513 0 0 ww σ [vR 6 0, vR 8 o1] (QV Q) := by
  refine Cn_of [some (vR 6 0), some (vR 8 o1)] (by decide) (Nat.le_of_ble_eq_true rfl) rfl ?_
  unfold P_X6_readWears at h
  refine E_aload_n dX6_readWears_0 rfl rfl ?_
  refine E_geti (i := 0) dX6_readWears_1 fl_RX6_15 rfl ?_
  refine E_if_eq (tgt := 15) dX6_readWears_4 (by decide) (fun hc => ?_) (fun hc => ?_)
  · have h := Eq.mp (if_pos hc) h
    exact e_P_X6_readWears_J15 h
  · have h := Eq.mp (if_neg hc) h
    refine E_aload_n dX6_readWears_7 rfl rfl ?_
    refine E_getr (i := 0) dX6_readWears_8 fl_RX6_18 rfl rfl (go_6_0 _ _) ?_
    refine E_ic dX6_readWears_11 rfl ?_
    refine E_callV (Y' := Y_X10_wrong) (as := [vI 3]) (st := []) dX6_readWears_12 lk_RX6_66 m_X10_wrong (by decide) (Nat.le_refl _) (Nat.le_refl _) rfl rfl (Nat.le_of_ble_eq_true rfl) (s_X10_wrong h) (fun r0 B0 σ_3 h => ?_)
    obtain ⟨rfl, rfl, h⟩ := h
    exact e_P_X6_readWears_J15 h
abbrev Y_X6_readRunLine : My := (yX6_readRunLine, cX6_readRunLine, 6, none)
theorem dX6_readRunLine_0 : decode cX6_readRunLine 0 = .ok (.aload_n 0, 1) := by decide +kernel
theorem dX6_readRunLine_1 : decode cX6_readRunLine 1 = .ok (.invokevirtual 219, 3) := by decide +kernel
theorem dX6_readRunLine_4 : decode cX6_readRunLine 4 = .ok (.istore_n 3, 1) := by decide +kernel
theorem dX6_readRunLine_5 : decode cX6_readRunLine 5 = .ok (.iload_n 3, 1) := by decide +kernel
theorem dX6_readRunLine_6 : decode cX6_readRunLine 6 = .ok (.iconst (-1), 1) := by decide +kernel
theorem dX6_readRunLine_7 : decode cX6_readRunLine 7 = .ok (.if_icmp .ne 14, 3) := by decide +kernel
theorem dX6_readRunLine_10 : decode cX6_readRunLine 10 = .ok (.aload_n 0, 1) := by decide +kernel
theorem dX6_readRunLine_11 : decode cX6_readRunLine 11 = .ok (.getfield 18, 3) := by decide +kernel
theorem dX6_readRunLine_14 : decode cX6_readRunLine 14 = .ok (.iconst 1, 1) := by decide +kernel
theorem dX6_readRunLine_15 : decode cX6_readRunLine 15 = .ok (.invokevirtual 66, 3) := by decide +kernel
theorem dX6_readRunLine_18 : decode cX6_readRunLine 18 = .ok (.goto 20, 3) := by decide +kernel
theorem dX6_readRunLine_21 : decode cX6_readRunLine 21 = .ok (.aload_n 2, 1) := by decide +kernel
theorem dX6_readRunLine_22 : decode cX6_readRunLine 22 = .ok (.getfield 210, 3) := by decide +kernel
theorem dX6_readRunLine_25 : decode cX6_readRunLine 25 = .ok (.bipush 40, 2) := by decide +kernel
theorem dX6_readRunLine_27 : decode cX6_readRunLine 27 = .ok (.if_icmp .lt 11, 3) := by decide +kernel
theorem dX6_readRunLine_30 : decode cX6_readRunLine 30 = .ok (.aload_n 0, 1) := by decide +kernel
theorem dX6_readRunLine_31 : decode cX6_readRunLine 31 = .ok (.getfield 18, 3) := by decide +kernel
theorem dX6_readRunLine_34 : decode cX6_readRunLine 34 = .ok (.iconst 5, 1) := by decide +kernel
theorem dX6_readRunLine_35 : decode cX6_readRunLine 35 = .ok (.invokevirtual 66, 3) := by decide +kernel
theorem dX6_readRunLine_38 : decode cX6_readRunLine 38 = .ok (.aload_n 0, 1) := by decide +kernel
theorem dX6_readRunLine_39 : decode cX6_readRunLine 39 = .ok (.getfield 18, 3) := by decide +kernel
theorem dX6_readRunLine_42 : decode cX6_readRunLine 42 = .ok (.invokevirtual 81, 3) := by decide +kernel
theorem dX6_readRunLine_45 : decode cX6_readRunLine 45 = .ok (.iconst 0, 1) := by decide +kernel
theorem dX6_readRunLine_46 : decode cX6_readRunLine 46 = .ok (.istore 4, 2) := by decide +kernel
theorem dX6_readRunLine_48 : decode cX6_readRunLine 48 = .ok (.iconst 0, 1) := by decide +kernel
theorem dX6_readRunLine_49 : decode cX6_readRunLine 49 = .ok (.istore 5, 2) := by decide +kernel
theorem dX6_readRunLine_51 : decode cX6_readRunLine 51 = .ok (.iload_n 3, 1) := by decide +kernel
theorem dX6_readRunLine_52 : decode cX6_readRunLine 52 = .ok (.iconst 1, 1) := by decide +kernel
theorem dX6_readRunLine_53 : decode cX6_readRunLine 53 = .ok (.if_icmp .eq 8, 3) := by decide +kernel
theorem dX6_readRunLine_56 : decode cX6_readRunLine 56 = .ok (.iload_n 3, 1) := by decide +kernel
theorem dX6_readRunLine_57 : decode cX6_readRunLine 57 = .ok (.iconst 3, 1) := by decide +kernel
theorem dX6_readRunLine_58 : decode cX6_readRunLine 58 = .ok (.if_icmp .ne 20, 3) := by decide +kernel
theorem dX6_readRunLine_61 : decode cX6_readRunLine 61 = .ok (.aload_n 0, 1) := by decide +kernel
theorem dX6_readRunLine_62 : decode cX6_readRunLine 62 = .ok (.getfield 18, 3) := by decide +kernel
theorem dX6_readRunLine_65 : decode cX6_readRunLine 65 = .ok (.aload_n 1, 1) := by decide +kernel
theorem dX6_readRunLine_66 : decode cX6_readRunLine 66 = .ok (.getfield 222, 3) := by decide +kernel
theorem dX6_readRunLine_69 : decode cX6_readRunLine 69 = .ok (.aload_n 1, 1) := by decide +kernel
theorem dX6_readRunLine_70 : decode cX6_readRunLine 70 = .ok (.getfield 111, 3) := by decide +kernel
theorem dX6_readRunLine_73 : decode cX6_readRunLine 73 = .ok (.invokevirtual 126, 3) := by decide +kernel
theorem dX6_readRunLine_76 : decode cX6_readRunLine 76 = .ok (.istore 4, 2) := by decide +kernel
theorem dX6_readRunLine_78 : decode cX6_readRunLine 78 = .ok (.iload_n 3, 1) := by decide +kernel
theorem dX6_readRunLine_79 : decode cX6_readRunLine 79 = .ok (.iconst 3, 1) := by decide +kernel
theorem dX6_readRunLine_80 : decode cX6_readRunLine 80 = .ok (.if_icmp .ne 20, 3) := by decide +kernel
theorem dX6_readRunLine_83 : decode cX6_readRunLine 83 = .ok (.aload_n 0, 1) := by decide +kernel
theorem dX6_readRunLine_84 : decode cX6_readRunLine 84 = .ok (.getfield 18, 3) := by decide +kernel
theorem dX6_readRunLine_87 : decode cX6_readRunLine 87 = .ok (.aload_n 1, 1) := by decide +kernel
theorem dX6_readRunLine_88 : decode cX6_readRunLine 88 = .ok (.getfield 122, 3) := by decide +kernel
theorem dX6_readRunLine_91 : decode cX6_readRunLine 91 = .ok (.aload_n 1, 1) := by decide +kernel
theorem dX6_readRunLine_92 : decode cX6_readRunLine 92 = .ok (.getfield 78, 3) := by decide +kernel
theorem dX6_readRunLine_95 : decode cX6_readRunLine 95 = .ok (.invokevirtual 126, 3) := by decide +kernel
theorem dX6_readRunLine_98 : decode cX6_readRunLine 98 = .ok (.istore 5, 2) := by decide +kernel
theorem dX6_readRunLine_100 : decode cX6_readRunLine 100 = .ok (.iload_n 3, 1) := by decide +kernel
theorem dX6_readRunLine_101 : decode cX6_readRunLine 101 = .ok (.iconst 2, 1) := by decide +kernel
theorem dX6_readRunLine_102 : decode cX6_readRunLine 102 = .ok (.if_icmp .ne 32, 3) := by decide +kernel
theorem dX6_readRunLine_105 : decode cX6_readRunLine 105 = .ok (.aload_n 0, 1) := by decide +kernel
theorem dX6_readRunLine_106 : decode cX6_readRunLine 106 = .ok (.getfield 18, 3) := by decide +kernel
theorem dX6_readRunLine_109 : decode cX6_readRunLine 109 = .ok (.aload_n 1, 1) := by decide +kernel
theorem dX6_readRunLine_110 : decode cX6_readRunLine 110 = .ok (.getfield 122, 3) := by decide +kernel
theorem dX6_readRunLine_113 : decode cX6_readRunLine 113 = .ok (.aload_n 1, 1) := by decide +kernel
theorem dX6_readRunLine_114 : decode cX6_readRunLine 114 = .ok (.getfield 78, 3) := by decide +kernel
theorem dX6_readRunLine_117 : decode cX6_readRunLine 117 = .ok (.invokevirtual 126, 3) := by decide +kernel
theorem dX6_readRunLine_120 : decode cX6_readRunLine 120 = .ok (.istore 4, 2) := by decide +kernel
theorem dX6_readRunLine_122 : decode cX6_readRunLine 122 = .ok (.aload_n 0, 1) := by decide +kernel
theorem dX6_readRunLine_123 : decode cX6_readRunLine 123 = .ok (.getfield 18, 3) := by decide +kernel
theorem dX6_readRunLine_126 : decode cX6_readRunLine 126 = .ok (.iconst 0, 1) := by decide +kernel
theorem dX6_readRunLine_127 : decode cX6_readRunLine 127 = .ok (.bipush 60, 2) := by decide +kernel
theorem dX6_readRunLine_129 : decode cX6_readRunLine 129 = .ok (.invokevirtual 104, 3) := by decide +kernel
theorem dX6_readRunLine_132 : decode cX6_readRunLine 132 = .ok (.istore 5, 2) := by decide +kernel
theorem dX6_readRunLine_134 : decode cX6_readRunLine 134 = .ok (.aload_n 2, 1) := by decide +kernel
theorem dX6_readRunLine_135 : decode cX6_readRunLine 135 = .ok (.iload_n 3, 1) := by decide +kernel
theorem dX6_readRunLine_136 : decode cX6_readRunLine 136 = .ok (.iload 4, 2) := by decide +kernel
theorem dX6_readRunLine_138 : decode cX6_readRunLine 138 = .ok (.iload 5, 2) := by decide +kernel
theorem dX6_readRunLine_140 : decode cX6_readRunLine 140 = .ok (.invokevirtual 225, 3) := by decide +kernel
theorem dX6_readRunLine_143 : decode cX6_readRunLine 143 = .ok (.return_, 1) := by decide +kernel
theorem fl_RX6_210 : FL RX6 210 3 3 := ⟨inG (i := 271) (by decide +kernel) (by decide +kernel), by decide, by decide⟩
theorem fl_RX6_222 : FL RX6 222 8 7 := ⟨inG (i := 208) (by decide +kernel) (by decide +kernel), by decide, by decide⟩
theorem lk_RX6_219 : Cond.methodLink RX6 219 yX6_deedHere ∈ tG := inG (i := 865) (by decide +kernel) (by decide +kernel)
theorem lk_RX6_225 : Cond.methodLink RX6 225 yX3_add ∈ tG := inG (i := 874) (by decide +kernel) (by decide +kernel)
theorem m_X3_add : MV Y_X3_add 3 3 := ⟨⟨inG (i := 877) (by decide +kernel) (by decide +kernel), inG (i := 102) (by decide +kernel) (by decide +kernel), by decide, by decide, by decide, by decide +kernel⟩, inG (i := 875) (by decide +kernel) (by decide +kernel), inG (i := 876) (by decide +kernel) (by decide +kernel), by decide⟩
theorem m_X6_deedHere : MV Y_X6_deedHere 0 6 := ⟨⟨inG (i := 868) (by decide +kernel) (by decide +kernel), inG (i := 103) (by decide +kernel) (by decide +kernel), by decide, by decide, by decide, by decide +kernel⟩, inG (i := 867) (by decide +kernel) (by decide +kernel), inG (i := 17) (by decide +kernel) (by decide +kernel), by decide⟩
def P_X6_readRunLine_J134  (o2 : Nat) (x3 : Int) (x4 : Int) (x5 : Int)  (Q : St → Prop) (σ : St) : Prop :=
  P_X3_add o2 x3 x4 x5 σ (fun σ_6 => Q σ_6)
set_option maxRecDepth 20000 in
set_option maxHeartbeats 2000000 in
theorem e_P_X6_readRunLine_J134  {o2 : Nat} {x3 : Int} {x4 : Int} {x5 : Int}  {Q : St → Prop} {σ : St}   (h : P_X6_readRunLine_J134 o2 x3 x4 x5 Q σ) : E Y_X6_readRunLine 7 0 0 (QV Q) ww 0 0 134 [none, none, some (vR 3 o2), some (vI x3), some (vI x4), some (vI x5)] [] σ := by
  unfold P_X6_readRunLine_J134 at h
  refine E_aload_n dX6_readRunLine_134 rfl rfl ?_
  refine E_iload_n dX6_readRunLine_135 rfl rfl ?_
  refine E_iload dX6_readRunLine_136 rfl ?_
  refine E_iload dX6_readRunLine_138 rfl ?_
  refine E_callV (Y' := Y_X3_add) (as := [vI x3, vI x4, vI x5]) (st := []) dX6_readRunLine_140 lk_RX6_225 m_X3_add (by decide) (Nat.le_refl _) (Nat.le_refl _) rfl rfl (Nat.le_of_ble_eq_true rfl) (s_X3_add h) (fun r0 B0 σ_6 h => ?_)
  obtain ⟨rfl, rfl, h⟩ := h
  exact E_vret dX6_readRunLine_143 rfl ⟨rfl, rfl, h⟩
def P_X6_readRunLine_J100  (o1 : Nat) (o2 : Nat) (x3 : Int) (x4 : Int) (x5 : Int)  (Q : St → Prop) (σ : St) : Prop :=
  (if x3 = 2 then P_X10_takeTold 902 o1 (σ 8 o1 10) σ (fun r_8 σ_7 => P_X10_takeNumber 0 60 σ_7 (fun r_10 σ_9 => P_X6_readRunLine_J134 o2 x3 r_8 r_10 Q σ_9)) else P_X6_readRunLine_J134 o2 x3 x4 x5 Q σ)
set_option maxRecDepth 20000 in
set_option maxHeartbeats 2000000 in
theorem e_P_X6_readRunLine_J100  {o1 : Nat} {o2 : Nat} {x3 : Int} {x4 : Int} {x5 : Int}  {Q : St → Prop} {σ : St}   (h : P_X6_readRunLine_J100 o1 o2 x3 x4 x5 Q σ) : E Y_X6_readRunLine 7 0 0 (QV Q) ww 0 0 100 [some (vR 6 0), some (vR 8 o1), some (vR 3 o2), some (vI x3), some (vI x4), some (vI x5)] [] σ := by
  unfold P_X6_readRunLine_J100 at h
  refine E_iload_n dX6_readRunLine_100 rfl rfl ?_
  refine E_ic dX6_readRunLine_101 rfl ?_
  refine E_icmp_ne (tgt := 134) dX6_readRunLine_102 (by decide) (fun hc => ?_) (fun hc => ?_)
  · have h := Eq.mp (if_neg hc) h
    refine E_wk2 [none, none, some (vR 3 o2), some (vI x3), some (vI x4), some (vI x5)] ⟨rfl, ⟨rfl, ⟨rfl, ⟨rfl, trivial⟩⟩⟩⟩ ?_
    exact e_P_X6_readRunLine_J134 h
  · have h := Eq.mp (if_pos hc) h
    refine E_aload_n dX6_readRunLine_105 rfl rfl ?_
    refine E_getr (i := 0) dX6_readRunLine_106 fl_RX6_18 rfl rfl (go_6_0 _ _) ?_
    refine E_aload_n dX6_readRunLine_109 rfl rfl ?_
    refine E_getr (i := o1) dX6_readRunLine_110 fl_RX6_122 rfl rfl (go_8_2 _ _) ?_
    refine E_aload_n dX6_readRunLine_113 rfl rfl ?_
    refine E_geti (i := o1) dX6_readRunLine_114 fl_RX6_78 rfl ?_
    refine E_callV (Y' := Y_X10_takeTold) (as := [vR 902 o1, vI (σ 8 o1 10)]) (st := []) dX6_readRunLine_117 lk_RX6_126 m_X10_takeTold (by decide) (Nat.le_refl _) (Nat.le_refl _) rfl rfl (Nat.le_of_ble_eq_true rfl) (s_X10_takeTold h) (fun r0 B0 σ_7 h => ?_)
    obtain ⟨r_8, rfl, rfl, h⟩ := h
    refine E_istore (ls' := [some (vR 6 0), some (vR 8 o1), some (vR 3 o2), some (vI x3), some (vI r_8), some (vI x5)]) dX6_readRunLine_120 (by decide) rfl ?_
    refine E_aload_n dX6_readRunLine_122 rfl rfl ?_
    refine E_getr (i := 0) dX6_readRunLine_123 fl_RX6_18 rfl rfl (go_6_0 _ _) ?_
    refine E_ic dX6_readRunLine_126 rfl ?_
    refine E_bp dX6_readRunLine_127 rfl ?_
    refine E_callV (Y' := Y_X10_takeNumber) (as := [vI 0, vI 60]) (st := []) dX6_readRunLine_129 lk_RX6_104 m_X10_takeNumber (by decide) (Nat.le_refl _) (Nat.le_refl _) rfl rfl (Nat.le_of_ble_eq_true rfl) (s_X10_takeNumber h) (fun r0 B0 σ_9 h => ?_)
    obtain ⟨r_10, rfl, rfl, h⟩ := h
    refine E_istore (ls' := [some (vR 6 0), some (vR 8 o1), some (vR 3 o2), some (vI x3), some (vI r_8), some (vI r_10)]) dX6_readRunLine_132 (by decide) rfl ?_
    refine E_wk2 [none, none, some (vR 3 o2), some (vI x3), some (vI r_8), some (vI r_10)] ⟨rfl, ⟨rfl, ⟨rfl, ⟨rfl, trivial⟩⟩⟩⟩ ?_
    exact e_P_X6_readRunLine_J134 h
def P_X6_readRunLine_J78  (o1 : Nat) (o2 : Nat) (x3 : Int) (x4 : Int) (x5 : Int)  (Q : St → Prop) (σ : St) : Prop :=
  (if x3 = 3 then P_X10_takeTold 902 o1 (σ 8 o1 10) σ (fun r_12 σ_11 => P_X6_readRunLine_J100 o1 o2 x3 x4 r_12 Q σ_11) else P_X6_readRunLine_J100 o1 o2 x3 x4 x5 Q σ)
set_option maxRecDepth 20000 in
set_option maxHeartbeats 2000000 in
theorem e_P_X6_readRunLine_J78  {o1 : Nat} {o2 : Nat} {x3 : Int} {x4 : Int} {x5 : Int}  {Q : St → Prop} {σ : St}   (h : P_X6_readRunLine_J78 o1 o2 x3 x4 x5 Q σ) : E Y_X6_readRunLine 7 0 0 (QV Q) ww 0 0 78 [some (vR 6 0), some (vR 8 o1), some (vR 3 o2), some (vI x3), some (vI x4), some (vI x5)] [] σ := by
  unfold P_X6_readRunLine_J78 at h
  refine E_iload_n dX6_readRunLine_78 rfl rfl ?_
  refine E_ic dX6_readRunLine_79 rfl ?_
  refine E_icmp_ne (tgt := 100) dX6_readRunLine_80 (by decide) (fun hc => ?_) (fun hc => ?_)
  · have h := Eq.mp (if_neg hc) h
    exact e_P_X6_readRunLine_J100 h
  · have h := Eq.mp (if_pos hc) h
    refine E_aload_n dX6_readRunLine_83 rfl rfl ?_
    refine E_getr (i := 0) dX6_readRunLine_84 fl_RX6_18 rfl rfl (go_6_0 _ _) ?_
    refine E_aload_n dX6_readRunLine_87 rfl rfl ?_
    refine E_getr (i := o1) dX6_readRunLine_88 fl_RX6_122 rfl rfl (go_8_2 _ _) ?_
    refine E_aload_n dX6_readRunLine_91 rfl rfl ?_
    refine E_geti (i := o1) dX6_readRunLine_92 fl_RX6_78 rfl ?_
    refine E_callV (Y' := Y_X10_takeTold) (as := [vR 902 o1, vI (σ 8 o1 10)]) (st := []) dX6_readRunLine_95 lk_RX6_126 m_X10_takeTold (by decide) (Nat.le_refl _) (Nat.le_refl _) rfl rfl (Nat.le_of_ble_eq_true rfl) (s_X10_takeTold h) (fun r0 B0 σ_11 h => ?_)
    obtain ⟨r_12, rfl, rfl, h⟩ := h
    refine E_istore (ls' := [some (vR 6 0), some (vR 8 o1), some (vR 3 o2), some (vI x3), some (vI x4), some (vI r_12)]) dX6_readRunLine_98 (by decide) rfl ?_
    exact e_P_X6_readRunLine_J100 h
def P_X6_readRunLine_J61  (o1 : Nat) (o2 : Nat) (x3 : Int) (x5 : Int)  (Q : St → Prop) (σ : St) : Prop :=
  P_X10_takeTold 907 o1 (σ 8 o1 11) σ (fun r_5 σ_4 => P_X6_readRunLine_J78 o1 o2 x3 r_5 x5 Q σ_4)
set_option maxRecDepth 20000 in
set_option maxHeartbeats 2000000 in
theorem e_P_X6_readRunLine_J61  {o1 : Nat} {o2 : Nat} {x3 : Int} {x5 : Int}  {Q : St → Prop} {σ : St}   (h : P_X6_readRunLine_J61 o1 o2 x3 x5 Q σ) : E Y_X6_readRunLine 7 0 0 (QV Q) ww 0 0 61 [some (vR 6 0), some (vR 8 o1), some (vR 3 o2), some (vI x3), none, some (vI x5)] [] σ := by
  unfold P_X6_readRunLine_J61 at h
  refine E_aload_n dX6_readRunLine_61 rfl rfl ?_
  refine E_getr (i := 0) dX6_readRunLine_62 fl_RX6_18 rfl rfl (go_6_0 _ _) ?_
  refine E_aload_n dX6_readRunLine_65 rfl rfl ?_
  refine E_getr (i := o1) dX6_readRunLine_66 fl_RX6_222 rfl rfl (go_8_7 _ _) ?_
  refine E_aload_n dX6_readRunLine_69 rfl rfl ?_
  refine E_geti (i := o1) dX6_readRunLine_70 fl_RX6_111 rfl ?_
  refine E_callV (Y' := Y_X10_takeTold) (as := [vR 907 o1, vI (σ 8 o1 11)]) (st := []) dX6_readRunLine_73 lk_RX6_126 m_X10_takeTold (by decide) (Nat.le_refl _) (Nat.le_refl _) rfl rfl (Nat.le_of_ble_eq_true rfl) (s_X10_takeTold h) (fun r0 B0 σ_4 h => ?_)
  obtain ⟨r_5, rfl, rfl, h⟩ := h
  refine E_istore (ls' := [some (vR 6 0), some (vR 8 o1), some (vR 3 o2), some (vI x3), some (vI r_5), some (vI x5)]) dX6_readRunLine_76 (by decide) rfl ?_
  exact e_P_X6_readRunLine_J78 h
def P_X6_readRunLine_J38  (o1 : Nat) (o2 : Nat) (x3 : Int)  (Q : St → Prop) (σ : St) : Prop :=
  P_X10_next σ (fun σ_3 => (if x3 = 1 then P_X6_readRunLine_J61 o1 o2 x3 0 Q σ_3 else (if x3 = 3 then P_X6_readRunLine_J61 o1 o2 x3 0 Q σ_3 else P_X6_readRunLine_J78 o1 o2 x3 0 0 Q σ_3)))
set_option maxRecDepth 20000 in
set_option maxHeartbeats 2000000 in
theorem e_P_X6_readRunLine_J38  {o1 : Nat} {o2 : Nat} {x3 : Int}  {Q : St → Prop} {σ : St}   (h : P_X6_readRunLine_J38 o1 o2 x3 Q σ) : E Y_X6_readRunLine 7 0 0 (QV Q) ww 0 0 38 [some (vR 6 0), some (vR 8 o1), some (vR 3 o2), some (vI x3), none, none] [] σ := by
  unfold P_X6_readRunLine_J38 at h
  refine E_aload_n dX6_readRunLine_38 rfl rfl ?_
  refine E_getr (i := 0) dX6_readRunLine_39 fl_RX6_18 rfl rfl (go_6_0 _ _) ?_
  refine E_callV (Y' := Y_X10_next) (as := []) (st := []) dX6_readRunLine_42 lk_RX6_81 m_X10_next (by decide) (Nat.le_refl _) (Nat.le_refl _) rfl rfl (Nat.le_of_ble_eq_true rfl) (s_X10_next h) (fun r0 B0 σ_3 h => ?_)
  obtain ⟨rfl, rfl, h⟩ := h
  refine E_ic dX6_readRunLine_45 rfl ?_
  refine E_istore (ls' := [some (vR 6 0), some (vR 8 o1), some (vR 3 o2), some (vI x3), some (vI 0), none]) dX6_readRunLine_46 (by decide) rfl ?_
  refine E_ic dX6_readRunLine_48 rfl ?_
  refine E_istore (ls' := [some (vR 6 0), some (vR 8 o1), some (vR 3 o2), some (vI x3), some (vI 0), some (vI 0)]) dX6_readRunLine_49 (by decide) rfl ?_
  refine E_iload_n dX6_readRunLine_51 rfl rfl ?_
  refine E_ic dX6_readRunLine_52 rfl ?_
  refine E_icmp_eq (tgt := 61) dX6_readRunLine_53 (by decide) (fun hc => ?_) (fun hc => ?_)
  · have h := Eq.mp (if_pos hc) h
    refine E_wk2 [some (vR 6 0), some (vR 8 o1), some (vR 3 o2), some (vI x3), none, some (vI 0)] ⟨rfl, ⟨rfl, ⟨rfl, ⟨rfl, ⟨rfl, trivial⟩⟩⟩⟩⟩ ?_
    exact e_P_X6_readRunLine_J61 h
  · have h := Eq.mp (if_neg hc) h
    refine E_iload_n dX6_readRunLine_56 rfl rfl ?_
    refine E_ic dX6_readRunLine_57 rfl ?_
    refine E_icmp_ne (tgt := 78) dX6_readRunLine_58 (by decide) (fun hc => ?_) (fun hc => ?_)
    · have h := Eq.mp (if_neg hc) h
      exact e_P_X6_readRunLine_J78 h
    · have h := Eq.mp (if_pos hc) h
      refine E_wk2 [some (vR 6 0), some (vR 8 o1), some (vR 3 o2), some (vI x3), none, some (vI 0)] ⟨rfl, ⟨rfl, ⟨rfl, ⟨rfl, ⟨rfl, trivial⟩⟩⟩⟩⟩ ?_
      exact e_P_X6_readRunLine_J61 h
def P_X6_readRunLine  (o1 : Nat) (o2 : Nat) (σ : St) (Q : St → Prop) : Prop :=
  P_X6_deedHere σ (fun r_2 σ_1 => (if r_2 = (-1) then P_X10_wrong 1 σ_1 (fun σ_14 => P_X6_readRunLine_J38 o1 o2 r_2 Q σ_14) else (if (σ_1 3 o2 3) < 40 then P_X6_readRunLine_J38 o1 o2 r_2 Q σ_1 else P_X10_wrong 5 σ_1 (fun σ_13 => P_X6_readRunLine_J38 o1 o2 r_2 Q σ_13))))
set_option maxRecDepth 20000 in
set_option maxHeartbeats 2000000 in
theorem s_X6_readRunLine   {o1 : Nat} {o2 : Nat} {σ : St} {Q : St → Prop} (h : P_X6_readRunLine o1 o2 σ Q) : Cn Y_X6_readRunLine 7 0 0 ww σ [vR 6 0, vR 8 o1, vR 3 o2] (QV Q) := by
  refine Cn_of [some (vR 6 0), some (vR 8 o1), some (vR 3 o2), none, none, none] (by decide) (Nat.le_of_ble_eq_true rfl) rfl ?_
  unfold P_X6_readRunLine at h
  refine E_aload_n dX6_readRunLine_0 rfl rfl ?_
  refine E_callV (Y' := Y_X6_deedHere) (as := []) (st := []) dX6_readRunLine_1 lk_RX6_219 m_X6_deedHere (by decide) (Nat.le_refl _) (Nat.le_refl _) rfl rfl (Nat.le_of_ble_eq_true rfl) (s_X6_deedHere h) (fun r0 B0 σ_1 h => ?_)
  obtain ⟨r_2, rfl, rfl, h⟩ := h
  refine E_istore_n (ls' := [some (vR 6 0), some (vR 8 o1), some (vR 3 o2), some (vI r_2), none, none]) dX6_readRunLine_4 rfl (by decide) rfl ?_
  refine E_iload_n dX6_readRunLine_5 rfl rfl ?_
  refine E_ic dX6_readRunLine_6 rfl ?_
  refine E_icmp_ne (tgt := 21) dX6_readRunLine_7 (by decide) (fun hc => ?_) (fun hc => ?_)
  · have h := Eq.mp (if_neg hc) h
    refine E_aload_n dX6_readRunLine_21 rfl rfl ?_
    refine E_geti (i := o2) dX6_readRunLine_22 fl_RX6_210 rfl ?_
    refine E_bp dX6_readRunLine_25 rfl ?_
    refine E_icmp_lt (tgt := 38) dX6_readRunLine_27 (by decide) (fun hc => ?_) (fun hc => ?_)
    · have h := Eq.mp (if_pos hc) h
      exact e_P_X6_readRunLine_J38 h
    · have h := Eq.mp (if_neg hc) h
      refine E_aload_n dX6_readRunLine_30 rfl rfl ?_
      refine E_getr (i := 0) dX6_readRunLine_31 fl_RX6_18 rfl rfl (go_6_0 _ _) ?_
      refine E_ic dX6_readRunLine_34 rfl ?_
      refine E_callV (Y' := Y_X10_wrong) (as := [vI 5]) (st := []) dX6_readRunLine_35 lk_RX6_66 m_X10_wrong (by decide) (Nat.le_refl _) (Nat.le_refl _) rfl rfl (Nat.le_of_ble_eq_true rfl) (s_X10_wrong h) (fun r0 B0 σ_13 h => ?_)
      obtain ⟨rfl, rfl, h⟩ := h
      exact e_P_X6_readRunLine_J38 h
  · have h := Eq.mp (if_pos hc) h
    refine E_aload_n dX6_readRunLine_10 rfl rfl ?_
    refine E_getr (i := 0) dX6_readRunLine_11 fl_RX6_18 rfl rfl (go_6_0 _ _) ?_
    refine E_ic dX6_readRunLine_14 rfl ?_
    refine E_callV (Y' := Y_X10_wrong) (as := [vI 1]) (st := []) dX6_readRunLine_15 lk_RX6_66 m_X10_wrong (by decide) (Nat.le_refl _) (Nat.le_refl _) rfl rfl (Nat.le_of_ble_eq_true rfl) (s_X10_wrong h) (fun r0 B0 σ_14 h => ?_)
    obtain ⟨rfl, rfl, h⟩ := h
    refine E_goto (tgt := 38) dX6_readRunLine_18 (by decide) ?_
    exact e_P_X6_readRunLine_J38 h
