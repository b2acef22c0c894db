abbrev Y_X6_factHere : My := (yX6_factHere, cX6_factHere, 1, some .int)
theorem dX6_factHere_0 : decode cX6_factHere 0 = .ok (.aload_n 0, 1) := by decide +kernel
theorem dX6_factHere_1 : decode cX6_factHere 1 = .ok (.getfield 18, 3) := by decide +kernel
theorem dX6_factHere_4 : decode cX6_factHere 4 = .ok (.invokevirtual 164, 3) := by decide +kernel
theorem dX6_factHere_7 : decode cX6_factHere 7 = .ok (.ifCond .eq 5, 3) := by decide +kernel
theorem dX6_factHere_10 : decode cX6_factHere 10 = .ok (.iconst 0, 1) := by decide +kernel
theorem dX6_factHere_11 : decode cX6_factHere 11 = .ok (.ireturn, 1) := by decide +kernel
theorem dX6_factHere_12 : decode cX6_factHere 12 = .ok (.aload_n 0, 1) := by decide +kernel
theorem dX6_factHere_13 : decode cX6_factHere 13 = .ok (.getfield 18, 3) := by decide +kernel
theorem dX6_factHere_16 : decode cX6_factHere 16 = .ok (.ldc 202, 2) := by decide +kernel
theorem dX6_factHere_18 : decode cX6_factHere 18 = .ok (.invokevirtual 38, 3) := by decide +kernel
theorem dX6_factHere_21 : decode cX6_factHere 21 = .ok (.ifCond .eq 5, 3) := by decide +kernel
theorem dX6_factHere_24 : decode cX6_factHere 24 = .ok (.iconst 1, 1) := by decide +kernel
theorem dX6_factHere_25 : decode cX6_factHere 25 = .ok (.ireturn, 1) := by decide +kernel
theorem dX6_factHere_26 : decode cX6_factHere 26 = .ok (.aload_n 0, 1) := by decide +kernel
theorem dX6_factHere_27 : decode cX6_factHere 27 = .ok (.getfield 18, 3) := by decide +kernel
theorem dX6_factHere_30 : decode cX6_factHere 30 = .ok (.ldc 204, 2) := by decide +kernel
theorem dX6_factHere_32 : decode cX6_factHere 32 = .ok (.invokevirtual 38, 3) := by decide +kernel
theorem dX6_factHere_35 : decode cX6_factHere 35 = .ok (.ifCond .eq 5, 3) := by decide +kernel
theorem dX6_factHere_38 : decode cX6_factHere 38 = .ok (.iconst 2, 1) := by decide +kernel
theorem dX6_factHere_39 : decode cX6_factHere 39 = .ok (.ireturn, 1) := by decide +kernel
theorem dX6_factHere_40 : decode cX6_factHere 40 = .ok (.aload_n 0, 1) := by decide +kernel
theorem dX6_factHere_41 : decode cX6_factHere 41 = .ok (.getfield 18, 3) := by decide +kernel
theorem dX6_factHere_44 : decode cX6_factHere 44 = .ok (.ldc 206, 2) := by decide +kernel
theorem dX6_factHere_46 : decode cX6_factHere 46 = .ok (.invokevirtual 38, 3) := by decide +kernel
theorem dX6_factHere_49 : decode cX6_factHere 49 = .ok (.ifCond .eq 5, 3) := by decide +kernel
theorem dX6_factHere_52 : decode cX6_factHere 52 = .ok (.iconst 3, 1) := by decide +kernel
theorem dX6_factHere_53 : decode cX6_factHere 53 = .ok (.ireturn, 1) := by decide +kernel
theorem dX6_factHere_54 : decode cX6_factHere 54 = .ok (.aload_n 0, 1) := by decide +kernel
theorem dX6_factHere_55 : decode cX6_factHere 55 = .ok (.getfield 18, 3) := by decide +kernel
theorem dX6_factHere_58 : decode cX6_factHere 58 = .ok (.ldc 208, 2) := by decide +kernel
theorem dX6_factHere_60 : decode cX6_factHere 60 = .ok (.invokevirtual 38, 3) := by decide +kernel
theorem dX6_factHere_63 : decode cX6_factHere 63 = .ok (.ifCond .eq 7, 3) := by decide +kernel
theorem dX6_factHere_66 : decode cX6_factHere 66 = .ok (.iconst 4, 1) := by decide +kernel
theorem dX6_factHere_67 : decode cX6_factHere 67 = .ok (.goto 4, 3) := by decide +kernel
theorem dX6_factHere_70 : decode cX6_factHere 70 = .ok (.iconst (-1), 1) := by decide +kernel
theorem dX6_factHere_71 : decode cX6_factHere 71 = .ok (.ireturn, 1) := by decide +kernel
theorem lk_RX6_164 : Cond.methodLink RX6 164 yX10_isNumber ∈ tG := inG (i := 794) (by decide +kernel) (by decide +kernel)
theorem m_X10_isNumber : MV Y_X10_isNumber 0 10 := ⟨⟨inG (i := 732) (by decide +kernel) (by decide +kernel), inG (i := 99) (by decide +kernel) (by decide +kernel), by decide, by decide, by decide, by decide +kernel⟩, inG (i := 730) (by decide +kernel) (by decide +kernel), inG (i := 731) (by decide +kernel) (by decide +kernel), by decide⟩
def P_X6_factHere   (σ : St) (Q : Int → St → Prop) : Prop :=
  P_X10_isNumber σ (fun r_2 σ_1 => (if r_2 = 0 then P_X10_isWord 15 σ_1 (fun r_4 σ_3 => (if r_4 = 0 then P_X10_isWord 16 σ_3 (fun r_6 σ_5 => (if r_6 = 0 then P_X10_isWord 17 σ_5 (fun r_8 σ_7 => (if r_8 = 0 then P_X10_isWord 18 σ_7 (fun r_10 σ_9 => (if r_10 = 0 then Q (-1) σ_9 else Q 4 σ_9)) else Q 3 σ_7)) else Q 2 σ_5)) else Q 1 σ_3)) else Q 0 σ_1))
set_option maxRecDepth 20000 in
set_option maxHeartbeats 2000000 in
theorem s_X6_factHere    {σ : St} {Q : Int → St → Prop} (h : P_X6_factHere  σ Q) : Cn Y_X6_factHere 5 0 0 ww σ [vR 6 0] (QI Q) := by
  refine Cn_of [some (vR 6 0)] (by decide) (Nat.le_of_ble_eq_true rfl) rfl ?_
  unfold P_X6_factHere at h
  refine E_aload_n dX6_factHere_0 rfl rfl ?_
  refine E_getr (i := 0) dX6_factHere_1 fl_RX6_18 rfl rfl (go_6_0 _ _) ?_
  refine E_callV (Y' := Y_X10_isNumber) (as := []) (st := []) dX6_factHere_4 lk_RX6_164 m_X10_isNumber (by decide) (Nat.le_refl _) (Nat.le_refl _) rfl rfl (Nat.le_of_ble_eq_true rfl) (s_X10_isNumber h) (fun r0 B0 σ_1 h => ?_)
  obtain ⟨r_2, rfl, rfl, h⟩ := h
  refine E_if_eq (tgt := 12) dX6_factHere_7 (by decide) (fun hc => ?_) (fun hc => ?_)
  · have h := Eq.mp (if_pos hc) h
    refine E_aload_n dX6_factHere_12 rfl rfl ?_
    refine E_getr (i := 0) dX6_factHere_13 fl_RX6_18 rfl rfl (go_6_0 _ _) ?_
    refine E_lds (i := 15) dX6_factHere_16 (List.mem_of_getElem? (i := 15) rfl) ?_
    refine E_callV (Y' := Y_X10_isWord) (as := [vR 50 15]) (st := []) dX6_factHere_18 lk_RX6_38 m_X10_isWord (by decide) (Nat.le_refl _) (Nat.le_refl _) rfl rfl (Nat.le_of_ble_eq_true rfl) (s_X10_isWord h) (fun r0 B0 σ_3 h => ?_)
    obtain ⟨r_4, rfl, rfl, h⟩ := h
    refine E_if_eq (tgt := 26) dX6_factHere_21 (by decide) (fun hc => ?_) (fun hc => ?_)
    · have h := Eq.mp (if_pos hc) h
      refine E_aload_n dX6_factHere_26 rfl rfl ?_
      refine E_getr (i := 0) dX6_factHere_27 fl_RX6_18 rfl rfl (go_6_0 _ _) ?_
      refine E_lds (i := 16) dX6_factHere_30 (List.mem_of_getElem? (i := 16) rfl) ?_
      refine E_callV (Y' := Y_X10_isWord) (as := [vR 50 16]) (st := []) dX6_factHere_32 lk_RX6_38 m_X10_isWord (by decide) (Nat.le_refl _) (Nat.le_refl _) rfl rfl (Nat.le_of_ble_eq_true rfl) (s_X10_isWord h) (fun r0 B0 σ_5 h => ?_)
      obtain ⟨r_6, rfl, rfl, h⟩ := h
      refine E_if_eq (tgt := 40) dX6_factHere_35 (by decide) (fun hc => ?_) (fun hc => ?_)
      · have h := Eq.mp (if_pos hc) h
        refine E_aload_n dX6_factHere_40 rfl rfl ?_
        refine E_getr (i := 0) dX6_factHere_41 fl_RX6_18 rfl rfl (go_6_0 _ _) ?_
        refine E_lds (i := 17) dX6_factHere_44 (List.mem_of_getElem? (i := 17) rfl) ?_
        refine E_callV (Y' := Y_X10_isWord) (as := [vR 50 17]) (st := []) dX6_factHere_46 lk_RX6_38 m_X10_isWord (by decide) (Nat.le_refl _) (Nat.le_refl _) rfl rfl (Nat.le_of_ble_eq_true rfl) (s_X10_isWord h) (fun r0 B0 σ_7 h => ?_)
        obtain ⟨r_8, rfl, rfl, h⟩ := h
        refine E_if_eq (tgt := 54) dX6_factHere_49 (by decide) (fun hc => ?_) (fun hc => ?_)
        · have h := Eq.mp (if_pos hc) h
          refine E_aload_n dX6_factHere_54 rfl rfl ?_
          refine E_getr (i := 0) dX6_factHere_55 fl_RX6_18 rfl rfl (go_6_0 _ _) ?_
          refine E_lds (i := 18) dX6_factHere_58 (List.mem_of_getElem? (i := 18) rfl) ?_
          refine E_callV (Y' := Y_X10_isWord) (as := [vR 50 18]) (st := []) dX6_factHere_60 lk_RX6_38 m_X10_isWord (by decide) (Nat.le_refl _) (Nat.le_refl _) rfl rfl (Nat.le_of_ble_eq_true rfl) (s_X10_isWord h) (fun r0 B0 σ_9 h => ?_)
          obtain ⟨r_10, rfl, rfl, h⟩ := h
          refine E_if_eq (tgt := 70) dX6_factHere_63 (by decide) (fun hc => ?_) (fun hc => ?_)
          · have h := Eq.mp (if_pos hc) h
            refine E_ic dX6_factHere_70 rfl ?_
            exact E_iret dX6_factHere_71 rfl ⟨_, rfl, rfl, h⟩
          · have h := Eq.mp (if_neg hc) h
            refine E_ic dX6_factHere_66 rfl ?_
            refine E_goto (tgt := 71) dX6_factHere_67 (by decide) ?_
            exact E_iret dX6_factHere_71 rfl ⟨_, rfl, rfl, h⟩
        · have h := Eq.mp (if_neg hc) h
          refine E_ic dX6_factHere_52 rfl ?_
          exact E_iret dX6_factHere_53 rfl ⟨_, rfl, rfl, h⟩
      · have h := Eq.mp (if_neg hc) h
        refine E_ic dX6_factHere_38 rfl ?_
        exact E_iret dX6_factHere_39 rfl ⟨_, rfl, rfl, h⟩
    · have h := Eq.mp (if_neg hc) h
      refine E_ic dX6_factHere_24 rfl ?_
      exact E_iret dX6_factHere_25 rfl ⟨_, rfl, rfl, h⟩
  · have h := Eq.mp (if_neg hc) h
    refine E_ic dX6_factHere_10 rfl ?_
    exact E_iret dX6_factHere_11 rfl ⟨_, rfl, rfl, h⟩
abbrev Y_X6_deedHere : My := (yX6_deedHere, cX6_deedHere, 1, some .int)
theorem dX6_deedHere_0 : decode cX6_deedHere 0 = .ok (.aload_n 0, 1) := by decide +kernel
theorem dX6_deedHere_1 : decode cX6_deedHere 1 = .ok (.getfield 18, 3) := by decide +kernel
theorem dX6_deedHere_4 : decode cX6_deedHere 4 = .ok (.ldc 228, 2) := by decide +kernel
theorem dX6_deedHere_6 : decode cX6_deedHere 6 = .ok (.invokevirtual 38, 3) := by decide +kernel
theorem dX6_deedHere_9 : decode cX6_deedHere 9 = .ok (.ifCond .eq 5, 3) := by decide +kernel
theorem dX6_deedHere_12 : decode cX6_deedHere 12 = .ok (.iconst 0, 1) := by decide +kernel
theorem dX6_deedHere_13 : decode cX6_deedHere 13 = .ok (.ireturn, 1) := by decide +kernel
theorem dX6_deedHere_14 : decode cX6_deedHere 14 = .ok (.aload_n 0, 1) := by decide +kernel
theorem dX6_deedHere_15 : decode cX6_deedHere 15 = .ok (.getfield 18, 3) := by decide +kernel
theorem dX6_deedHere_18 : decode cX6_deedHere 18 = .ok (.ldc 230, 2) := by decide +kernel
theorem dX6_deedHere_20 : decode cX6_deedHere 20 = .ok (.invokevirtual 38, 3) := by decide +kernel
theorem dX6_deedHere_23 : decode cX6_deedHere 23 = .ok (.ifCond .eq 5, 3) := by decide +kernel
theorem dX6_deedHere_26 : decode cX6_deedHere 26 = .ok (.iconst 1, 1) := by decide +kernel
theorem dX6_deedHere_27 : decode cX6_deedHere 27 = .ok (.ireturn, 1) := by decide +kernel
theorem dX6_deedHere_28 : decode cX6_deedHere 28 = .ok (.aload_n 0, 1) := by decide +kernel
theorem dX6_deedHere_29 : decode cX6_deedHere 29 = .ok (.getfield 18, 3) := by decide +kernel
theorem dX6_deedHere_32 : decode cX6_deedHere 32 = .ok (.ldc 232, 2) := by decide +kernel
theorem dX6_deedHere_34 : decode cX6_deedHere 34 = .ok (.invokevirtual 38, 3) := by decide +kernel
theorem dX6_deedHere_37 : decode cX6_deedHere 37 = .ok (.ifCond .eq 5, 3) := by decide +kernel
theorem dX6_deedHere_40 : decode cX6_deedHere 40 = .ok (.iconst 2, 1) := by decide +kernel
theorem dX6_deedHere_41 : decode cX6_deedHere 41 = .ok (.ireturn, 1) := by decide +kernel
theorem dX6_deedHere_42 : decode cX6_deedHere 42 = .ok (.aload_n 0, 1) := by decide +kernel
theorem dX6_deedHere_43 : decode cX6_deedHere 43 = .ok (.getfield 18, 3) := by decide +kernel
theorem dX6_deedHere_46 : decode cX6_deedHere 46 = .ok (.ldc 234, 2) := by decide +kernel
theorem dX6_deedHere_48 : decode cX6_deedHere 48 = .ok (.invokevirtual 38, 3) := by decide +kernel
theorem dX6_deedHere_51 : decode cX6_deedHere 51 = .ok (.ifCond .eq 5, 3) := by decide +kernel
theorem dX6_deedHere_54 : decode cX6_deedHere 54 = .ok (.iconst 3, 1) := by decide +kernel
theorem dX6_deedHere_55 : decode cX6_deedHere 55 = .ok (.ireturn, 1) := by decide +kernel
theorem dX6_deedHere_56 : decode cX6_deedHere 56 = .ok (.aload_n 0, 1) := by decide +kernel
theorem dX6_deedHere_57 : decode cX6_deedHere 57 = .ok (.getfield 18, 3) := by decide +kernel
theorem dX6_deedHere_60 : decode cX6_deedHere 60 = .ok (.ldc 236, 2) := by decide +kernel
theorem dX6_deedHere_62 : decode cX6_deedHere 62 = .ok (.invokevirtual 38, 3) := by decide +kernel
theorem dX6_deedHere_65 : decode cX6_deedHere 65 = .ok (.ifCond .eq 7, 3) := by decide +kernel
theorem dX6_deedHere_68 : decode cX6_deedHere 68 = .ok (.iconst 4, 1) := by decide +kernel
theorem dX6_deedHere_69 : decode cX6_deedHere 69 = .ok (.goto 4, 3) := by decide +kernel
theorem dX6_deedHere_72 : decode cX6_deedHere 72 = .ok (.iconst (-1), 1) := by decide +kernel
theorem dX6_deedHere_73 : decode cX6_deedHere 73 = .ok (.ireturn, 1) := by decide +kernel
def P_X6_deedHere   (σ : St) (Q : Int → St → Prop) : Prop :=
  P_X10_isWord 22 σ (fun r_2 σ_1 => (if r_2 = 0 then P_X10_isWord 23 σ_1 (fun r_4 σ_3 => (if r_4 = 0 then P_X10_isWord 24 σ_3 (fun r_6 σ_5 => (if r_6 = 0 then P_X10_isWord 25 σ_5 (fun r_8 σ_7 => (if r_8 = 0 then P_X10_isWord 26 σ_7 (fun r_10 σ_9 => (if r_10 = 0 then Q (-1) σ_9 else Q 4 σ_9)) else Q 3 σ_7)) else Q 2 σ_5)) else Q 1 σ_3)) else Q 0 σ_1))
set_option maxRecDepth 20000 in
set_option maxHeartbeats 2000000 in
theorem s_X6_deedHere    {σ : St} {Q : Int → St → Prop} (h : P_X6_deedHere  σ Q) : Cn Y_X6_deedHere 5 0 0 ww σ [vR 6 0] (QI Q) := by
  refine Cn_of [some (vR 6 0)] (by decide) (Nat.le_of_ble_eq_true rfl) rfl ?_
  unfold P_X6_deedHere at h
  refine E_aload_n dX6_deedHere_0 rfl rfl ?_
  refine E_getr (i := 0) dX6_deedHere_1 fl_RX6_18 rfl rfl (go_6_0 _ _) ?_
  refine E_lds (i := 22) dX6_deedHere_4 (List.mem_of_getElem? (i := 22) rfl) ?_
  refine E_callV (Y' := Y_X10_isWord) (as := [vR 50 22]) (st := []) dX6_deedHere_6 lk_RX6_38 m_X10_isWord (by decide) (Nat.le_refl _) (Nat.le_refl _) rfl rfl (Nat.le_of_ble_eq_true rfl) (s_X10_isWord h) (fun r0 B0 σ_1 h => ?_)
  obtain ⟨r_2, rfl, rfl, h⟩ := h
  refine E_if_eq (tgt := 14) dX6_deedHere_9 (by decide) (fun hc => ?_) (fun hc => ?_)
  · have h := Eq.mp (if_pos hc) h
    refine E_aload_n dX6_deedHere_14 rfl rfl ?_
    refine E_getr (i := 0) dX6_deedHere_15 fl_RX6_18 rfl rfl (go_6_0 _ _) ?_
    refine E_lds (i := 23) dX6_deedHere_18 (List.mem_of_getElem? (i := 23) rfl) ?_
    refine E_callV (Y' := Y_X10_isWord) (as := [vR 50 23]) (st := []) dX6_deedHere_20 lk_RX6_38 m_X10_isWord (by decide) (Nat.le_refl _) (Nat.le_refl _) rfl rfl (Nat.le_of_ble_eq_true rfl) (s_X10_isWord h) (fun r0 B0 σ_3 h => ?_)
    obtain ⟨r_4, rfl, rfl, h⟩ := h
    refine E_if_eq (tgt := 28) dX6_deedHere_23 (by decide) (fun hc => ?_) (fun hc => ?_)
    · have h := Eq.mp (if_pos hc) h
      refine E_aload_n dX6_deedHere_28 rfl rfl ?_
      refine E_getr (i := 0) dX6_deedHere_29 fl_RX6_18 rfl rfl (go_6_0 _ _) ?_
      refine E_lds (i := 24) dX6_deedHere_32 (List.mem_of_getElem? (i := 24) rfl) ?_
      refine E_callV (Y' := Y_X10_isWord) (as := [vR 50 24]) (st := []) dX6_deedHere_34 lk_RX6_38 m_X10_isWord (by decide) (Nat.le_refl _) (Nat.le_refl _) rfl rfl (Nat.le_of_ble_eq_true rfl) (s_X10_isWord h) (fun r0 B0 σ_5 h => ?_)
      obtain ⟨r_6, rfl, rfl, h⟩ := h
      refine E_if_eq (tgt := 42) dX6_deedHere_37 (by decide) (fun hc => ?_) (fun hc => ?_)
      · have h := Eq.mp (if_pos hc) h
        refine E_aload_n dX6_deedHere_42 rfl rfl ?_
        refine E_getr (i := 0) dX6_deedHere_43 fl_RX6_18 rfl rfl (go_6_0 _ _) ?_
        refine E_lds (i := 25) dX6_deedHere_46 (List.mem_of_getElem? (i := 25) rfl) ?_
        refine E_callV (Y' := Y_X10_isWord) (as := [vR 50 25]) (st := []) dX6_deedHere_48 lk_RX6_38 m_X10_isWord (by decide) (Nat.le_refl _) (Nat.le_refl _) rfl rfl (Nat.le_of_ble_eq_true rfl) (s_X10_isWord h) (fun r0 B0 σ_7 h => ?_)
        obtain ⟨r_8, rfl, rfl, h⟩ := h
        refine E_if_eq (tgt := 56) dX6_deedHere_51 (by decide) (fun hc => ?_) (fun hc => ?_)
        · have h := Eq.mp (if_pos hc) h
          refine E_aload_n dX6_deedHere_56 rfl rfl ?_
          refine E_getr (i := 0) dX6_deedHere_57 fl_RX6_18 rfl rfl (go_6_0 _ _) ?_
          refine E_lds (i := 26) dX6_deedHere_60 (List.mem_of_getElem? (i := 26) rfl) ?_
          refine E_callV (Y' := Y_X10_isWord) (as := [vR 50 26]) (st := []) dX6_deedHere_62 lk_RX6_38 m_X10_isWord (by decide) (Nat.le_refl _) (Nat.le_refl _) rfl rfl (Nat.le_of_ble_eq_true rfl) (s_X10_isWord h) (fun r0 B0 σ_9 h => ?_)
          obtain ⟨r_10, rfl, rfl, h⟩ := h
          refine E_if_eq (tgt := 72) dX6_deedHere_65 (by decide) (fun hc => ?_) (fun hc => ?_)
          · have h := Eq.mp (if_pos hc) h
            refine E_ic dX6_deedHere_72 rfl ?_
            exact E_iret dX6_deedHere_73 rfl ⟨_, rfl, rfl, h⟩
          · have h := Eq.mp (if_neg hc) h
            refine E_ic dX6_deedHere_68 rfl ?_
            refine E_goto (tgt := 73) dX6_deedHere_69 (by decide) ?_
            exact E_iret dX6_deedHere_73 rfl ⟨_, rfl, rfl, h⟩
        · have h := Eq.mp (if_neg hc) h
          refine E_ic dX6_deedHere_54 rfl ?_
          exact E_iret dX6_deedHere_55 rfl ⟨_, rfl, rfl, h⟩
      · have h := Eq.mp (if_neg hc) h
        refine E_ic dX6_deedHere_40 rfl ?_
        exact E_iret dX6_deedHere_41 rfl ⟨_, rfl, rfl, h⟩
    · have h := Eq.mp (if_neg hc) h
      refine E_ic dX6_deedHere_26 rfl ?_
      exact E_iret dX6_deedHere_27 rfl ⟨_, rfl, rfl, h⟩
  · have h := Eq.mp (if_neg hc) h
    refine E_ic dX6_deedHere_12 rfl ?_
    exact E_iret dX6_deedHere_13 rfl ⟨_, rfl, rfl, h⟩
abbrev Y_X7_agrees : My := (yX7_agrees, cX7_agrees, 5, some .boolean)
theorem dX7_agrees_0 : decode cX7_agrees 0 = .ok (.iconst 0, 1) := by decide +kernel
theorem dX7_agrees_1 : decode cX7_agrees 1 = .ok (.istore_n 3, 1) := by decide +kernel
theorem dX7_agrees_2 : decode cX7_agrees 2 = .ok (.iload_n 3, 1) := by decide +kernel
theorem dX7_agrees_3 : decode cX7_agrees 3 = .ok (.aload_n 0, 1) := by decide +kernel
theorem dX7_agrees_4 : decode cX7_agrees 4 = .ok (.getfield 22, 3) := by decide +kernel
theorem dX7_agrees_7 : decode cX7_agrees 7 = .ok (.if_icmp .ge 49, 3) := by decide +kernel
theorem dX7_agrees_10 : decode cX7_agrees 10 = .ok (.aload_n 2, 1) := by decide +kernel
theorem dX7_agrees_11 : decode cX7_agrees 11 = .ok (.iload_n 1, 1) := by decide +kernel
theorem dX7_agrees_12 : decode cX7_agrees 12 = .ok (.aload_n 0, 1) := by decide +kernel
theorem dX7_agrees_13 : decode cX7_agrees 13 = .ok (.getfield 15, 3) := by decide +kernel
theorem dX7_agrees_16 : decode cX7_agrees 16 = .ok (.iload_n 3, 1) := by decide +kernel
theorem dX7_agrees_17 : decode cX7_agrees 17 = .ok (.iaload, 1) := by decide +kernel
theorem dX7_agrees_18 : decode cX7_agrees 18 = .ok (.invokevirtual 45, 3) := by decide +kernel
theorem dX7_agrees_21 : decode cX7_agrees 21 = .ok (.aload_n 0, 1) := by decide +kernel
theorem dX7_agrees_22 : decode cX7_agrees 22 = .ok (.getfield 9, 3) := by decide +kernel
theorem dX7_agrees_25 : decode cX7_agrees 25 = .ok (.iload_n 3, 1) := by decide +kernel
theorem dX7_agrees_26 : decode cX7_agrees 26 = .ok (.iaload, 1) := by decide +kernel
theorem dX7_agrees_27 : decode cX7_agrees 27 = .ok (.if_icmp .ne 7, 3) := by decide +kernel
theorem dX7_agrees_30 : decode cX7_agrees 30 = .ok (.iconst 1, 1) := by decide +kernel
theorem dX7_agrees_31 : decode cX7_agrees 31 = .ok (.goto 4, 3) := by decide +kernel
theorem dX7_agrees_34 : decode cX7_agrees 34 = .ok (.iconst 0, 1) := by decide +kernel
theorem dX7_agrees_35 : decode cX7_agrees 35 = .ok (.istore 4, 2) := by decide +kernel
theorem dX7_agrees_37 : decode cX7_agrees 37 = .ok (.iload 4, 2) := by decide +kernel
theorem dX7_agrees_39 : decode cX7_agrees 39 = .ok (.aload_n 0, 1) := by decide +kernel
theorem dX7_agrees_40 : decode cX7_agrees 40 = .ok (.getfield 18, 3) := by decide +kernel
theorem dX7_agrees_43 : decode cX7_agrees 43 = .ok (.iload_n 3, 1) := by decide +kernel
theorem dX7_agrees_44 : decode cX7_agrees 44 = .ok (.baload, 1) := by decide +kernel
theorem dX7_agrees_45 : decode cX7_agrees 45 = .ok (.if_icmp .eq 5, 3) := by decide +kernel
theorem dX7_agrees_48 : decode cX7_agrees 48 = .ok (.iconst 0, 1) := by decide +kernel
theorem dX7_agrees_49 : decode cX7_agrees 49 = .ok (.ireturn, 1) := by decide +kernel
theorem dX7_agrees_50 : decode cX7_agrees 50 = .ok (.iinc 3 1, 3) := by decide +kernel
theorem dX7_agrees_53 : decode cX7_agrees 53 = .ok (.goto (-51), 3) := by decide +kernel
theorem dX7_agrees_56 : decode cX7_agrees 56 = .ok (.iconst 1, 1) := by decide +kernel
theorem dX7_agrees_57 : decode cX7_agrees 57 = .ok (.ireturn, 1) := by decide +kernel
theorem lk_RX7_45 : Cond.methodLink RX7 45 yX0_fallAfter ∈ tG := inG (i := 1242) (by decide +kernel) (by decide +kernel)
def P_X7_agrees_J35  (o0 : Nat) (x1 : Int) (x3 : Int) (y0 : Int) (R : Int → St → Prop) (Q : Int → St → Prop) (σ : St) : Prop :=
  0 ≤ x3 ∧ x3 < 8 ∧ (if y0 = (σ 802 o0 x3) then R (wi (x3 + 1)) σ else Q 0 σ)
set_option maxRecDepth 20000 in
set_option maxHeartbeats 2000000 in
theorem e_P_X7_agrees_J35  {o0 : Nat} {x1 : Int} {x3 : Int} {y0 : Int} {R : Int → St → Prop} {Q : Int → St → Prop} {σ : St}  (hR : ∀ x3 σ, R x3 σ → E Y_X7_agrees 2 0 0 (QI Q) ww 0 0 2 [some (vR 7 o0), some (vI x1), some (vR 0 0), some (vI x3), none] [] σ) (h : P_X7_agrees_J35 o0 x1 x3 y0 R Q σ) : E Y_X7_agrees 2 0 0 (QI Q) ww 0 0 35 [some (vR 7 o0), some (vI x1), some (vR 0 0), some (vI x3), none] [vI y0] σ := by
  unfold P_X7_agrees_J35 at h
  refine E_istore (ls' := [some (vR 7 o0), some (vI x1), some (vR 0 0), some (vI x3), some (vI y0)]) dX7_agrees_35 (by decide) rfl ?_
  refine E_iload dX7_agrees_37 rfl ?_
  refine E_aload_n dX7_agrees_39 rfl rfl ?_
  refine E_getr (i := o0) dX7_agrees_40 fl_RX7_18 rfl rfl (go_7_2 _ _) ?_
  refine E_iload_n dX7_agrees_43 rfl rfl ?_
  obtain ⟨hg0, hg1, h⟩ := h
  refine E_zald dX7_agrees_44 sh_802 hg0 hg1 ?_
  refine E_icmp_eq (tgt := 50) dX7_agrees_45 (by decide) (fun hc => ?_) (fun hc => ?_)
  · have h := Eq.mp (if_pos hc) h
    refine E_iinc (ls' := [some (vR 7 o0), some (vI x1), some (vR 0 0), some (vI (wi (x3 + 1))), some (vI y0)]) dX7_agrees_50 rfl (by decide) rfl rfl ?_
    refine E_goto (tgt := 2) dX7_agrees_53 (by decide) ?_
    refine E_wk2 [some (vR 7 o0), some (vI x1), some (vR 0 0), some (vI (wi (x3 + 1))), none] ⟨rfl, ⟨rfl, ⟨rfl, ⟨rfl, trivial⟩⟩⟩⟩ ?_
    exact hR _ _ h
  · have h := Eq.mp (if_neg hc) h
    refine E_ic dX7_agrees_48 rfl ?_
    exact E_zret dX7_agrees_49 rfl (by decide) ⟨_, rfl, rfl, h⟩
def P_X7_agrees_L2  (o0 : Nat) (x1 : Int)  (Q : Int → St → Prop) : Nat → Int → St → Prop
  | 0, _, _ => False
  | n + 1, x3, σ => (if (σ 7 o0 3) ≤ x3 then Q 1 σ else 0 ≤ x3 ∧ x3 < 8 ∧ P_X0_fallAfter x1 (σ 801 o0 x3) σ (fun r_2 σ_1 => 0 ≤ x3 ∧ x3 < 8 ∧ (if r_2 = (σ_1 800 o0 x3) then P_X7_agrees_J35 o0 x1 x3 1 (P_X7_agrees_L2 o0 x1 Q n) Q σ_1 else P_X7_agrees_J35 o0 x1 x3 0 (P_X7_agrees_L2 o0 x1 Q n) Q σ_1)))
set_option maxRecDepth 20000 in
set_option maxHeartbeats 2000000 in
theorem e_P_X7_agrees_L2  {o0 : Nat} {x1 : Int}  {Q : Int → St → Prop}   : ∀ (n : Nat) (x3 : Int) (σ : St), P_X7_agrees_L2 o0 x1 Q n x3 σ → E Y_X7_agrees 2 0 0 (QI Q) ww 0 0 2 [some (vR 7 o0), some (vI x1), some (vR 0 0), some (vI x3), none] [] σ := by
  intro n
  induction n with
  | zero => intro x3 σ h; exact h.elim
  | succ n hR =>
    intro x3 σ h
    unfold P_X7_agrees_L2 at h
    refine E_iload_n dX7_agrees_2 rfl rfl ?_
    refine E_aload_n dX7_agrees_3 rfl rfl ?_
    refine E_geti (i := o0) dX7_agrees_4 fl_RX7_22 rfl ?_
    refine E_icmp_ge (tgt := 56) dX7_agrees_7 (by decide) (fun hc => ?_) (fun hc => ?_)
    · have h := Eq.mp (if_pos hc) h
      refine E_ic dX7_agrees_56 rfl ?_
      exact E_zret dX7_agrees_57 rfl (by decide) ⟨_, rfl, rfl, h⟩
    · have h := Eq.mp (if_neg hc) h
      refine E_aload_n dX7_agrees_10 rfl rfl ?_
      refine E_iload_n dX7_agrees_11 rfl rfl ?_
      refine E_aload_n dX7_agrees_12 rfl rfl ?_
      refine E_getr (i := o0) dX7_agrees_13 fl_RX7_15 rfl rfl (go_7_1 _ _) ?_
      refine E_iload_n dX7_agrees_16 rfl rfl ?_
      obtain ⟨hg0, hg1, h⟩ := h
      refine E_iald dX7_agrees_17 sh_801 hg0 hg1 ?_
      refine E_callV (Y' := Y_X0_fallAfter) (as := [vI x1, vI (σ 801 o0 x3)]) (st := []) dX7_agrees_18 lk_RX7_45 m_X0_fallAfter (by decide) (Nat.le_refl _) (Nat.le_refl _) rfl rfl (Nat.le_of_ble_eq_true rfl) (s_X0_fallAfter h) (fun r0 B0 σ_1 h => ?_)
      obtain ⟨r_2, rfl, rfl, h⟩ := h
      refine E_aload_n dX7_agrees_21 rfl rfl ?_
      refine E_getr (i := o0) dX7_agrees_22 fl_RX7_9 rfl rfl (go_7_0 _ _) ?_
      refine E_iload_n dX7_agrees_25 rfl rfl ?_
      obtain ⟨hg0, hg1, h⟩ := h
      refine E_iald dX7_agrees_26 sh_800 hg0 hg1 ?_
      refine E_icmp_ne (tgt := 34) dX7_agrees_27 (by decide) (fun hc => ?_) (fun hc => ?_)
      · have h := Eq.mp (if_neg hc) h
        refine E_ic dX7_agrees_34 rfl ?_
        exact e_P_X7_agrees_J35 hR h
      · have h := Eq.mp (if_pos hc) h
        refine E_ic dX7_agrees_30 rfl ?_
        refine E_goto (tgt := 35) dX7_agrees_31 (by decide) ?_
        exact e_P_X7_agrees_J35 hR h
def P_X7_agrees  (o0 : Nat) (x1 : Int) (σ : St) (Q : Int → St → Prop) : Prop :=
  P_X7_agrees_L2 o0 x1 Q FU 0 σ
set_option maxRecDepth 20000 in
set_option maxHeartbeats 2000000 in
theorem s_X7_agrees   {o0 : Nat} {x1 : Int} {σ : St} {Q : Int → St → Prop} (h : P_X7_agrees o0 x1 σ Q) : Cn Y_X7_agrees 2 0 0 ww σ [vR 7 o0, vI x1, vR 0 0] (QI Q) := by
  refine Cn_of [some (vR 7 o0), some (vI x1), some (vR 0 0), none, none] (by decide) (Nat.le_of_ble_eq_true rfl) rfl ?_
  unfold P_X7_agrees at h
  refine E_ic dX7_agrees_0 rfl ?_
  refine E_istore_n (ls' := [some (vR 7 o0), some (vI x1), some (vR 0 0), some (vI 0), none]) dX7_agrees_1 rfl (by decide) rfl ?_
  refine e_P_X7_agrees_L2  _ _ _ h
abbrev Y_X8_addCounter : My := (yX8_addCounter, cX8_addCounter, 5, none)
theorem dX8_addCounter_0 : decode cX8_addCounter 0 = .ok (.aload_n 0, 1) := by decide +kernel
theorem dX8_addCounter_1 : decode cX8_addCounter 1 = .ok (.getfield 47, 3) := by decide +kernel
theorem dX8_addCounter_4 : decode cX8_addCounter 4 = .ok (.bipush 6, 2) := by decide +kernel
theorem dX8_addCounter_6 : decode cX8_addCounter 6 = .ok (.if_icmp .ge 52, 3) := by decide +kernel
theorem dX8_addCounter_9 : decode cX8_addCounter 9 = .ok (.aload_n 0, 1) := by decide +kernel
theorem dX8_addCounter_10 : decode cX8_addCounter 10 = .ok (.getfield 18, 3) := by decide +kernel
theorem dX8_addCounter_13 : decode cX8_addCounter 13 = .ok (.aload_n 0, 1) := by decide +kernel
theorem dX8_addCounter_14 : decode cX8_addCounter 14 = .ok (.getfield 47, 3) := by decide +kernel
theorem dX8_addCounter_17 : decode cX8_addCounter 17 = .ok (.lload_n 1, 1) := by decide +kernel
theorem dX8_addCounter_18 : decode cX8_addCounter 18 = .ok (.lastore, 1) := by decide +kernel
theorem dX8_addCounter_19 : decode cX8_addCounter 19 = .ok (.aload_n 0, 1) := by decide +kernel
theorem dX8_addCounter_20 : decode cX8_addCounter 20 = .ok (.getfield 9, 3) := by decide +kernel
theorem dX8_addCounter_23 : decode cX8_addCounter 23 = .ok (.aload_n 0, 1) := by decide +kernel
theorem dX8_addCounter_24 : decode cX8_addCounter 24 = .ok (.getfield 47, 3) := by decide +kernel
theorem dX8_addCounter_27 : decode cX8_addCounter 27 = .ok (.iload_n 3, 1) := by decide +kernel
theorem dX8_addCounter_28 : decode cX8_addCounter 28 = .ok (.iastore, 1) := by decide +kernel
theorem dX8_addCounter_29 : decode cX8_addCounter 29 = .ok (.aload_n 0, 1) := by decide +kernel
theorem dX8_addCounter_30 : decode cX8_addCounter 30 = .ok (.getfield 15, 3) := by decide +kernel
theorem dX8_addCounter_33 : decode cX8_addCounter 33 = .ok (.aload_n 0, 1) := by decide +kernel
theorem dX8_addCounter_34 : decode cX8_addCounter 34 = .ok (.getfield 47, 3) := by decide +kernel
theorem dX8_addCounter_37 : decode cX8_addCounter 37 = .ok (.iload 4, 2) := by decide +kernel
theorem dX8_addCounter_39 : decode cX8_addCounter 39 = .ok (.iastore, 1) := by decide +kernel
theorem dX8_addCounter_40 : decode cX8_addCounter 40 = .ok (.aload_n 0, 1) := by decide +kernel
theorem dX8_addCounter_41 : decode cX8_addCounter 41 = .ok (.aload_n 0, 1) := by decide +kernel
theorem dX8_addCounter_42 : decode cX8_addCounter 42 = .ok (.getfield 47, 3) := by decide +kernel
theorem dX8_addCounter_45 : decode cX8_addCounter 45 = .ok (.invokevirtual 73, 3) := by decide +kernel
theorem dX8_addCounter_48 : decode cX8_addCounter 48 = .ok (.aload_n 0, 1) := by decide +kernel
theorem dX8_addCounter_49 : decode cX8_addCounter 49 = .ok (.dup, 1) := by decide +kernel
theorem dX8_addCounter_50 : decode cX8_addCounter 50 = .ok (.getfield 47, 3) := by decide +kernel
theorem dX8_addCounter_53 : decode cX8_addCounter 53 = .ok (.iconst 1, 1) := by decide +kernel
theorem dX8_addCounter_54 : decode cX8_addCounter 54 = .ok (.iadd, 1) := by decide +kernel
theorem dX8_addCounter_55 : decode cX8_addCounter 55 = .ok (.putfield 47, 3) := by decide +kernel
theorem dX8_addCounter_58 : decode cX8_addCounter 58 = .ok (.return_, 1) := by decide +kernel
theorem lk_RX8_73 : Cond.methodLink RX8 73 yX8_putOnRail ∈ tG := inG (i := 747) (by decide +kernel) (by decide +kernel)
theorem m_X8_putOnRail : MV Y_X8_putOnRail 1 8 := ⟨⟨inG (i := 750) (by decide +kernel) (by decide +kernel), inG (i := 100) (by decide +kernel) (by decide +kernel), by decide, by decide, by decide, by decide +kernel⟩, inG (i := 749) (by decide +kernel) (by decide +kernel), inG (i := 6) (by decide +kernel) (by decide +kernel), by decide⟩
def P_X8_addCounter  (o0 : Nat) (x1 : Int) (x3 : Int) (x4 : Int) (σ : St) (Q : St → Prop) : Prop :=
  (if 6 ≤ (σ 8 o0 10) then Q σ else 0 ≤ σ 8 o0 10 ∧ σ 8 o0 10 < 6 ∧ 0 ≤ (up σ 902 o0 (σ 8 o0 10) x1) 8 o0 10 ∧ (up σ 902 o0 (σ 8 o0 10) x1) 8 o0 10 < 6 ∧ 0 ≤ (up (up σ 902 o0 (σ 8 o0 10) x1) 900 o0 ((up σ 902 o0 (σ 8 o0 10) x1) 8 o0 10) x3) 8 o0 10 ∧ (up (up σ 902 o0 (σ 8 o0 10) x1) 900 o0 ((up σ 902 o0 (σ 8 o0 10) x1) 8 o0 10) x3) 8 o0 10 < 6 ∧ P_X8_putOnRail o0 ((up (up (up σ 902 o0 (σ 8 o0 10) x1) 900 o0 ((up σ 902 o0 (σ 8 o0 10) x1) 8 o0 10) x3) 901 o0 ((up (up σ 902 o0 (σ 8 o0 10) x1) 900 o0 ((up σ 902 o0 (σ 8 o0 10) x1) 8 o0 10) x3) 8 o0 10) x4) 8 o0 10) (up (up (up σ 902 o0 (σ 8 o0 10) x1) 900 o0 ((up σ 902 o0 (σ 8 o0 10) x1) 8 o0 10) x3) 901 o0 ((up (up σ 902 o0 (σ 8 o0 10) x1) 900 o0 ((up σ 902 o0 (σ 8 o0 10) x1) 8 o0 10) x3) 8 o0 10) x4) (fun σ_1 => Q (up σ_1 8 o0 10 (wi ((σ_1 8 o0 10) + 1)))))
set_option maxRecDepth 20000 in
set_option maxHeartbeats 2000000 in
theorem s_X8_addCounter   {o0 : Nat} {x1 : Int} {x3 : Int} {x4 : Int} {σ : St} {Q : St → Prop} (h : P_X8_addCounter o0 x1 x3 x4 σ Q) : Cn Y_X8_addCounter 1 0 0 ww σ [vR 8 o0, vL x1, vI x3, vI x4] (QV Q) := by
  refine Cn_of [some (vR 8 o0), some (vL x1), none, some (vI x3), some (vI x4)] (by decide) (Nat.le_of_ble_eq_true rfl) rfl ?_
  unfold P_X8_addCounter at h
  refine E_aload_n dX8_addCounter_0 rfl rfl ?_
  refine E_geti (i := o0) dX8_addCounter_1 fl_RX8_47 rfl ?_
  refine E_bp dX8_addCounter_4 rfl ?_
  refine E_icmp_ge (tgt := 58) dX8_addCounter_6 (by decide) (fun hc => ?_) (fun hc => ?_)
  · have h := Eq.mp (if_pos hc) h
    exact E_vret dX8_addCounter_58 rfl ⟨rfl, rfl, h⟩
  · have h := Eq.mp (if_neg hc) h
    refine E_aload_n dX8_addCounter_9 rfl rfl ?_
    refine E_getr (i := o0) dX8_addCounter_10 fl_RX8_18 rfl rfl (go_8_2 _ _) ?_
    refine E_aload_n dX8_addCounter_13 rfl rfl ?_
    refine E_geti (i := o0) dX8_addCounter_14 fl_RX8_47 rfl ?_
    refine E_lload_n dX8_addCounter_17 rfl rfl ?_
    obtain ⟨hg0, hg1, h⟩ := h
    refine E_last dX8_addCounter_18 sh_902 hg0 hg1 ?_
    refine E_aload_n dX8_addCounter_19 rfl rfl ?_
    refine E_getr (i := o0) dX8_addCounter_20 fl_RX8_9 rfl rfl (go_8_0 _ _) ?_
    refine E_aload_n dX8_addCounter_23 rfl rfl ?_
    refine E_geti (i := o0) dX8_addCounter_24 fl_RX8_47 rfl ?_
    refine E_iload_n dX8_addCounter_27 rfl rfl ?_
    obtain ⟨hg0, hg1, h⟩ := h
    refine E_iast dX8_addCounter_28 sh_900 hg0 hg1 ?_
    refine E_aload_n dX8_addCounter_29 rfl rfl ?_
    refine E_getr (i := o0) dX8_addCounter_30 fl_RX8_15 rfl rfl (go_8_1 _ _) ?_
    refine E_aload_n dX8_addCounter_33 rfl rfl ?_
    refine E_geti (i := o0) dX8_addCounter_34 fl_RX8_47 rfl ?_
    refine E_iload dX8_addCounter_37 rfl ?_
    obtain ⟨hg0, hg1, h⟩ := h
    refine E_iast dX8_addCounter_39 sh_901 hg0 hg1 ?_
    refine E_aload_n dX8_addCounter_40 rfl rfl ?_
    refine E_aload_n dX8_addCounter_41 rfl rfl ?_
    refine E_geti (i := o0) dX8_addCounter_42 fl_RX8_47 rfl ?_
    refine E_callV (Y' := Y_X8_putOnRail) (as := [vI ((up (up (up σ 902 o0 (σ 8 o0 10) x1) 900 o0 ((up σ 902 o0 (σ 8 o0 10) x1) 8 o0 10) x3) 901 o0 ((up (up σ 902 o0 (σ 8 o0 10) x1) 900 o0 ((up σ 902 o0 (σ 8 o0 10) x1) 8 o0 10) x3) 8 o0 10) x4) 8 o0 10)]) (st := []) dX8_addCounter_45 lk_RX8_73 m_X8_putOnRail (by decide) (Nat.le_refl _) (Nat.le_refl _) rfl rfl (Nat.le_of_ble_eq_true rfl) (s_X8_putOnRail h) (fun r0 B0 σ_1 h => ?_)
    obtain ⟨rfl, rfl, h⟩ := h
    refine E_aload_n dX8_addCounter_48 rfl rfl ?_
    refine E_dup dX8_addCounter_49 (fun _ q => by cases q) ?_
    refine E_geti (i := o0) dX8_addCounter_50 fl_RX8_47 rfl ?_
    refine E_ic dX8_addCounter_53 rfl ?_
    refine E_iadd dX8_addCounter_54 ?_
    refine E_puti dX8_addCounter_55 fl_RX8_47 rfl rfl rfl ?_
    exact E_vret dX8_addCounter_58 rfl ⟨rfl, rfl, h⟩
abbrev Y_X8_isNameTold : My := (yX8_isNameTold, cX8_isNameTold, 3, some .boolean)
theorem dX8_isNameTold_0 : decode cX8_isNameTold 0 = .ok (.aload_n 0, 1) := by decide +kernel
theorem dX8_isNameTold_1 : decode cX8_isNameTold 1 = .ok (.getfield 18, 3) := by decide +kernel
theorem dX8_isNameTold_4 : decode cX8_isNameTold 4 = .ok (.aload_n 0, 1) := by decide +kernel
theorem dX8_isNameTold_5 : decode cX8_isNameTold 5 = .ok (.getfield 47, 3) := by decide +kernel
theorem dX8_isNameTold_8 : decode cX8_isNameTold 8 = .ok (.lload_n 1, 1) := by decide +kernel
theorem dX8_isNameTold_9 : decode cX8_isNameTold 9 = .ok (.invokestatic 77, 3) := by decide +kernel
theorem dX8_isNameTold_12 : decode cX8_isNameTold 12 = .ok (.iconst (-1), 1) := by decide +kernel
theorem dX8_isNameTold_13 : decode cX8_isNameTold 13 = .ok (.if_icmp .ne 19, 3) := by decide +kernel
theorem dX8_isNameTold_16 : decode cX8_isNameTold 16 = .ok (.aload_n 0, 1) := by decide +kernel
theorem dX8_isNameTold_17 : decode cX8_isNameTold 17 = .ok (.getfield 34, 3) := by decide +kernel
theorem dX8_isNameTold_20 : decode cX8_isNameTold 20 = .ok (.aload_n 0, 1) := by decide +kernel
theorem dX8_isNameTold_21 : decode cX8_isNameTold 21 = .ok (.getfield 51, 3) := by decide +kernel
theorem dX8_isNameTold_24 : decode cX8_isNameTold 24 = .ok (.lload_n 1, 1) := by decide +kernel
theorem dX8_isNameTold_25 : decode cX8_isNameTold 25 = .ok (.invokestatic 77, 3) := by decide +kernel
theorem dX8_isNameTold_28 : decode cX8_isNameTold 28 = .ok (.iconst (-1), 1) := by decide +kernel
theorem dX8_isNameTold_29 : decode cX8_isNameTold 29 = .ok (.if_icmp .eq 7, 3) := by decide +kernel
theorem dX8_isNameTold_32 : decode cX8_isNameTold 32 = .ok (.iconst 1, 1) := by decide +kernel
theorem dX8_isNameTold_33 : decode cX8_isNameTold 33 = .ok (.goto 4, 3) := by decide +kernel
theorem dX8_isNameTold_36 : decode cX8_isNameTold 36 = .ok (.iconst 0, 1) := by decide +kernel
theorem dX8_isNameTold_37 : decode cX8_isNameTold 37 = .ok (.ireturn, 1) := by decide +kernel
theorem lk_RX8_77 : Cond.methodLink RX8 77 yX10_indexOf ∈ tG := inG (i := 714) (by decide +kernel) (by decide +kernel)
theorem m_X10_indexOf : MS Y_X10_indexOf 3 := ⟨⟨inG (i := 716) (by decide +kernel) (by decide +kernel), inG (i := 99) (by decide +kernel) (by decide +kernel), by decide, by decide, by decide, by decide +kernel⟩, inG (i := 715) (by decide +kernel) (by decide +kernel)⟩
def P_X8_isNameTold_J32    (Q : Int → St → Prop) (σ : St) : Prop :=
  Q 1 σ
set_option maxRecDepth 20000 in
set_option maxHeartbeats 2000000 in
theorem e_P_X8_isNameTold_J32    {Q : Int → St → Prop} {σ : St}   (h : P_X8_isNameTold_J32  Q σ) : E Y_X8_isNameTold 1 0 0 (QI Q) ww 0 0 32 [none, none, none] [] σ := by
  unfold P_X8_isNameTold_J32 at h
  refine E_ic dX8_isNameTold_32 rfl ?_
  refine E_goto (tgt := 37) dX8_isNameTold_33 (by decide) ?_
  exact E_zret dX8_isNameTold_37 rfl (by decide) ⟨_, rfl, rfl, h⟩
def P_X8_isNameTold  (o0 : Nat) (x1 : Int) (σ : St) (Q : Int → St → Prop) : Prop :=
  P_X10_indexOf 902 o0 (σ 8 o0 10) x1 σ (fun r_2 σ_1 => (if r_2 = (-1) then P_X10_indexOf 907 o0 (σ_1 8 o0 11) x1 σ_1 (fun r_4 σ_3 => (if r_4 = (-1) then Q 0 σ_3 else P_X8_isNameTold_J32 Q σ_3)) else P_X8_isNameTold_J32 Q σ_1))
set_option maxRecDepth 20000 in
set_option maxHeartbeats 2000000 in
theorem s_X8_isNameTold   {o0 : Nat} {x1 : Int} {σ : St} {Q : Int → St → Prop} (h : P_X8_isNameTold o0 x1 σ Q) : Cn Y_X8_isNameTold 1 0 0 ww σ [vR 8 o0, vL x1] (QI Q) := by
  refine Cn_of [some (vR 8 o0), some (vL x1), none] (by decide) (Nat.le_of_ble_eq_true rfl) rfl ?_
  unfold P_X8_isNameTold at h
  refine E_aload_n dX8_isNameTold_0 rfl rfl ?_
  refine E_getr (i := o0) dX8_isNameTold_1 fl_RX8_18 rfl rfl (go_8_2 _ _) ?_
  refine E_aload_n dX8_isNameTold_4 rfl rfl ?_
  refine E_geti (i := o0) dX8_isNameTold_5 fl_RX8_47 rfl ?_
  refine E_lload_n dX8_isNameTold_8 rfl rfl ?_
  refine E_callS (Y' := Y_X10_indexOf) (as := [vR 902 o0, vI (σ 8 o0 10), vL x1]) (st := []) dX8_isNameTold_9 lk_RX8_77 m_X10_indexOf (by decide) (Nat.le_refl _) (Nat.le_refl _) rfl rfl (Nat.le_of_ble_eq_true rfl) (s_X10_indexOf h) (fun r0 B0 σ_1 h => ?_)
  obtain ⟨r_2, rfl, rfl, h⟩ := h
  refine E_ic dX8_isNameTold_12 rfl ?_
  refine E_icmp_ne (tgt := 32) dX8_isNameTold_13 (by decide) (fun hc => ?_) (fun hc => ?_)
  · have h := Eq.mp (if_neg hc) h
    refine E_wk2 [none, none, none] trivial ?_
    exact e_P_X8_isNameTold_J32 h
  · have h := Eq.mp (if_pos hc) h
    refine E_aload_n dX8_isNameTold_16 rfl rfl ?_
    refine E_getr (i := o0) dX8_isNameTold_17 fl_RX8_34 rfl rfl (go_8_7 _ _) ?_
    refine E_aload_n dX8_isNameTold_20 rfl rfl ?_
    refine E_geti (i := o0) dX8_isNameTold_21 fl_RX8_51 rfl ?_
    refine E_lload_n dX8_isNameTold_24 rfl rfl ?_
    refine E_callS (Y' := Y_X10_indexOf) (as := [vR 907 o0, vI (σ_1 8 o0 11), vL x1]) (st := []) dX8_isNameTold_25 lk_RX8_77 m_X10_indexOf (by decide) (Nat.le_refl _) (Nat.le_refl _) rfl rfl (Nat.le_of_ble_eq_true rfl) (s_X10_indexOf h) (fun r0 B0 σ_3 h => ?_)
    obtain ⟨r_4, rfl, rfl, h⟩ := h
    refine E_ic dX8_isNameTold_28 rfl ?_
    refine E_icmp_eq (tgt := 36) dX8_isNameTold_29 (by decide) (fun hc => ?_) (fun hc => ?_)
    · have h := Eq.mp (if_pos hc) h
      refine E_ic dX8_isNameTold_36 rfl ?_
      exact E_zret dX8_isNameTold_37 rfl (by decide) ⟨_, rfl, rfl, h⟩
    · have h := Eq.mp (if_neg hc) h
      refine E_wk2 [none, none, none] trivial ?_
      exact e_P_X8_isNameTold_J32 h
abbrev Y_X8_worn : My := (yX8_worn, cX8_worn, 7, some .int)
theorem dX8_worn_0 : decode cX8_worn 0 = .ok (.aload_n 0, 1) := by decide +kernel
theorem dX8_worn_1 : decode cX8_worn 1 = .ok (.getfield 43, 3) := by decide +kernel
theorem dX8_worn_4 : decode cX8_worn 4 = .ok (.iload_n 2, 1) := by decide +kernel
theorem dX8_worn_5 : decode cX8_worn 5 = .ok (.iload_n 3, 1) := by decide +kernel
theorem dX8_worn_6 : decode cX8_worn 6 = .ok (.iload 4, 2) := by decide +kernel
theorem dX8_worn_8 : decode cX8_worn 8 = .ok (.iload 5, 2) := by decide +kernel
theorem dX8_worn_10 : decode cX8_worn 10 = .ok (.invokevirtual 87, 3) := by decide +kernel
theorem dX8_worn_13 : decode cX8_worn 13 = .ok (.bipush (-9), 2) := by decide +kernel
theorem dX8_worn_15 : decode cX8_worn 15 = .ok (.bipush 9, 2) := by decide +kernel
theorem dX8_worn_17 : decode cX8_worn 17 = .ok (.invokestatic 91, 3) := by decide +kernel
theorem dX8_worn_20 : decode cX8_worn 20 = .ok (.istore 6, 2) := by decide +kernel
theorem dX8_worn_22 : decode cX8_worn 22 = .ok (.aload_n 0, 1) := by decide +kernel
theorem dX8_worn_23 : decode cX8_worn 23 = .ok (.getfield 25, 3) := by decide +kernel
theorem dX8_worn_26 : decode cX8_worn 26 = .ok (.iload_n 1, 1) := by decide +kernel
theorem dX8_worn_27 : decode cX8_worn 27 = .ok (.iaload, 1) := by decide +kernel
theorem dX8_worn_28 : decode cX8_worn 28 = .ok (.iconst 1, 1) := by decide +kernel
theorem dX8_worn_29 : decode cX8_worn 29 = .ok (.if_icmp .ne 15, 3) := by decide +kernel
theorem dX8_worn_32 : decode cX8_worn 32 = .ok (.iload 6, 2) := by decide +kernel
theorem dX8_worn_34 : decode cX8_worn 34 = .ok (.iconst (-1), 1) := by decide +kernel
theorem dX8_worn_35 : decode cX8_worn 35 = .ok (.iconst 1, 1) := by decide +kernel
theorem dX8_worn_36 : decode cX8_worn 36 = .ok (.invokestatic 91, 3) := by decide +kernel
theorem dX8_worn_39 : decode cX8_worn 39 = .ok (.istore 6, 2) := by decide +kernel
theorem dX8_worn_41 : decode cX8_worn 41 = .ok (.goto 19, 3) := by decide +kernel
theorem dX8_worn_44 : decode cX8_worn 44 = .ok (.aload_n 0, 1) := by decide +kernel
theorem dX8_worn_45 : decode cX8_worn 45 = .ok (.getfield 25, 3) := by decide +kernel
theorem dX8_worn_48 : decode cX8_worn 48 = .ok (.iload_n 1, 1) := by decide +kernel
theorem dX8_worn_49 : decode cX8_worn 49 = .ok (.iaload, 1) := by decide +kernel
theorem dX8_worn_50 : decode cX8_worn 50 = .ok (.iconst 2, 1) := by decide +kernel
theorem dX8_worn_51 : decode cX8_worn 51 = .ok (.if_icmp .ne 9, 3) := by decide +kernel
theorem dX8_worn_54 : decode cX8_worn 54 = .ok (.iconst 2, 1) := by decide +kernel
theorem dX8_worn_55 : decode cX8_worn 55 = .ok (.iload 6, 2) := by decide +kernel
theorem dX8_worn_57 : decode cX8_worn 57 = .ok (.imul, 1) := by decide +kernel
theorem dX8_worn_58 : decode cX8_worn 58 = .ok (.istore 6, 2) := by decide +kernel
theorem dX8_worn_60 : decode cX8_worn 60 = .ok (.iload_n 2, 1) := by decide +kernel
theorem dX8_worn_61 : decode cX8_worn 61 = .ok (.iload 6, 2) := by decide +kernel
theorem dX8_worn_63 : decode cX8_worn 63 = .ok (.isub, 1) := by decide +kernel
theorem dX8_worn_64 : decode cX8_worn 64 = .ok (.iconst 1, 1) := by decide +kernel
theorem dX8_worn_65 : decode cX8_worn 65 = .ok (.bipush 60, 2) := by decide +kernel
theorem dX8_worn_67 : decode cX8_worn 67 = .ok (.invokestatic 91, 3) := by decide +kernel
theorem dX8_worn_70 : decode cX8_worn 70 = .ok (.ireturn, 1) := by decide +kernel
theorem lk_RX8_87 : Cond.methodLink RX8 87 yX2_worth ∈ tG := inG (i := 1012) (by decide +kernel) (by decide +kernel)
theorem m_X11_limited : MS Y_X11_limited 3 := ⟨⟨inG (i := 1025) (by decide +kernel) (by decide +kernel), inG (i := 98) (by decide +kernel) (by decide +kernel), by decide, by decide, by decide, by decide +kernel⟩, inG (i := 1024) (by decide +kernel) (by decide +kernel)⟩
theorem m_X2_worth : MV Y_X2_worth 4 2 := ⟨⟨inG (i := 1015) (by decide +kernel) (by decide +kernel), inG (i := 101) (by decide +kernel) (by decide +kernel), by decide, by decide, by decide, by decide +kernel⟩, inG (i := 1013) (by decide +kernel) (by decide +kernel), inG (i := 1014) (by decide +kernel) (by decide +kernel), by decide⟩
theorem nk_RX8_91 : Cond.methodLinkNest RX8 91 yX11_limited RX11 ∈ nestW := List.mem_filter.mpr ⟨List.mem_of_getElem? (i := 1023) (by decide +kernel), rfl⟩
def P_X8_worn_J60  (x2 : Int) (x6 : Int)  (Q : Int → St → Prop) (σ : St) : Prop :=
  P_X11_limited (wi (x2 - x6)) 1 60 σ (fun r_6 σ_5 => Q r_6 σ_5)
set_option maxRecDepth 20000 in
set_option maxHeartbeats 2000000 in
theorem e_P_X8_worn_J60  {x2 : Int} {x6 : Int}  {Q : Int → St → Prop} {σ : St}   (h : P_X8_worn_J60 x2 x6 Q σ) : E Y_X8_worn 2 0 0 (QI Q) ww 0 0 60 [none, none, some (vI x2), none, none, none, some (vI x6)] [] σ := by
  unfold P_X8_worn_J60 at h
  refine E_iload_n dX8_worn_60 rfl rfl ?_
  refine E_iload dX8_worn_61 rfl ?_
  refine E_isub dX8_worn_63 ?_
  refine E_ic dX8_worn_64 rfl ?_
  refine E_bp dX8_worn_65 rfl ?_
  refine E_callN (Y' := Y_X11_limited) (as := [vI (wi (x2 - x6)), vI 1, vI 60]) (st := []) dX8_worn_67 nk_RX8_91 m_X11_limited (by decide) (Nat.le_refl _) (Nat.le_refl _) rfl rfl (Nat.le_of_ble_eq_true rfl) (s_X11_limited h) (fun r0 B0 σ_5 h => ?_)
  obtain ⟨r_6, rfl, rfl, h⟩ := h
  exact E_iret dX8_worn_70 rfl ⟨_, rfl, rfl, h⟩
def P_X8_worn  (o0 : Nat) (x1 : Int) (x2 : Int) (x3 : Int) (x4 : Int) (x5 : Int) (σ : St) (Q : Int → St → Prop) : Prop :=
  P_X2_worth o0 x2 x3 x4 x5 σ (fun r_2 σ_1 => P_X11_limited r_2 (-9) 9 σ_1 (fun r_4 σ_3 => 0 ≤ x1 ∧ x1 < 6 ∧ (if (σ_3 904 o0 x1) = 1 then P_X11_limited r_4 (-1) 1 σ_3 (fun r_8 σ_7 => P_X8_worn_J60 x2 r_8 Q σ_7) else 0 ≤ x1 ∧ x1 < 6 ∧ (if (σ_3 904 o0 x1) = 2 then P_X8_worn_J60 x2 (wi (2 * r_4)) Q σ_3 else P_X8_worn_J60 x2 r_4 Q σ_3))))
set_option maxRecDepth 20000 in
set_option maxHeartbeats 2000000 in
theorem s_X8_worn   {o0 : Nat} {x1 : Int} {x2 : Int} {x3 : Int} {x4 : Int} {x5 : Int} {σ : St} {Q : Int → St → Prop} (h : P_X8_worn o0 x1 x2 x3 x4 x5 σ Q) : Cn Y_X8_worn 2 0 0 ww σ [vR 8 o0, vI x1, vI x2, vI x3, vI x4, vI x5] (QI Q) := by
  refine Cn_of [some (vR 8 o0), some (vI x1), some (vI x2), some (vI x3), some (vI x4), some (vI x5), none] (by decide) (Nat.le_of_ble_eq_true rfl) rfl ?_
  unfold P_X8_worn at h
  refine E_aload_n dX8_worn_0 rfl rfl ?_
  refine E_getr (i := o0) dX8_worn_1 fl_RX8_43 rfl rfl (go_8_9 _ _) ?_
  refine E_iload_n dX8_worn_4 rfl rfl ?_
  refine E_iload_n dX8_worn_5 rfl rfl ?_
  refine E_iload dX8_worn_6 rfl ?_
  refine E_iload dX8_worn_8 rfl ?_
  refine E_callV (Y' := Y_X2_worth) (as := [vI x2, vI x3, vI x4, vI x5]) (st := []) dX8_worn_10 lk_RX8_87 m_X2_worth (by decide) (Nat.le_refl _) (Nat.le_refl _) rfl rfl (Nat.le_of_ble_eq_true rfl) (s_X2_worth h) (fun r0 B0 σ_1 h => ?_)
  obtain ⟨r_2, rfl, rfl, h⟩ := h
  refine E_bp dX8_worn_13 rfl ?_
  refine E_bp dX8_worn_15 rfl ?_
  refine E_callN (Y' := Y_X11_limited) (as := [vI r_2, vI (-9), vI 9]) (st := []) dX8_worn_17 nk_RX8_91 m_X11_limited (by decide) (Nat.le_refl _) (Nat.le_refl _) rfl rfl (Nat.le_of_ble_eq_true rfl) (s_X11_limited h) (fun r0 B0 σ_3 h => ?_)
  obtain ⟨r_4, rfl, rfl, h⟩ := h
  refine E_istore (ls' := [some (vR 8 o0), some (vI x1), some (vI x2), some (vI x3), some (vI x4), some (vI x5), some (vI r_4)]) dX8_worn_20 (by decide) rfl ?_
  refine E_aload_n dX8_worn_22 rfl rfl ?_
  refine E_getr (i := o0) dX8_worn_23 fl_RX8_25 rfl rfl (go_8_4 _ _) ?_
  refine E_iload_n dX8_worn_26 rfl rfl ?_
  obtain ⟨hg0, hg1, h⟩ := h
  refine E_iald dX8_worn_27 sh_904 hg0 hg1 ?_
  refine E_ic dX8_worn_28 rfl ?_
  refine E_icmp_ne (tgt := 44) dX8_worn_29 (by decide) (fun hc => ?_) (fun hc => ?_)
  · have h := Eq.mp (if_neg hc) h
    refine E_aload_n dX8_worn_44 rfl rfl ?_
    refine E_getr (i := o0) dX8_worn_45 fl_RX8_25 rfl rfl (go_8_4 _ _) ?_
    refine E_iload_n dX8_worn_48 rfl rfl ?_
    obtain ⟨hg0, hg1, h⟩ := h
    refine E_iald dX8_worn_49 sh_904 hg0 hg1 ?_
    refine E_ic dX8_worn_50 rfl ?_
    refine E_icmp_ne (tgt := 60) dX8_worn_51 (by decide) (fun hc => ?_) (fun hc => ?_)
    · have h := Eq.mp (if_neg hc) h
      refine E_wk2 [none, none, some (vI x2), none, none, none, some (vI r_4)] ⟨rfl, ⟨rfl, trivial⟩⟩ ?_
      exact e_P_X8_worn_J60 h
    · have h := Eq.mp (if_pos hc) h
      refine E_ic dX8_worn_54 rfl ?_
      refine E_iload dX8_worn_55 rfl ?_
      refine E_imul dX8_worn_57 ?_
      refine E_istore (ls' := [some (vR 8 o0), some (vI x1), some (vI x2), some (vI x3), some (vI x4), some (vI x5), some (vI (wi (2 * r_4)))]) dX8_worn_58 (by decide) rfl ?_
      refine E_wk2 [none, none, some (vI x2), none, none, none, some (vI (wi (2 * r_4)))] ⟨rfl, ⟨rfl, trivial⟩⟩ ?_
      exact e_P_X8_worn_J60 h
  · have h := Eq.mp (if_pos hc) h
    refine E_iload dX8_worn_32 rfl ?_
    refine E_ic dX8_worn_34 rfl ?_
    refine E_ic dX8_worn_35 rfl ?_
    refine E_callN (Y' := Y_X11_limited) (as := [vI r_4, vI (-1), vI 1]) (st := []) dX8_worn_36 nk_RX8_91 m_X11_limited (by decide) (Nat.le_refl _) (Nat.le_refl _) rfl rfl (Nat.le_of_ble_eq_true rfl) (s_X11_limited h) (fun r0 B0 σ_7 h => ?_)
    obtain ⟨r_8, rfl, rfl, h⟩ := h
    refine E_istore (ls' := [some (vR 8 o0), some (vI x1), some (vI x2), some (vI x3), some (vI x4), some (vI x5), some (vI r_8)]) dX8_worn_39 (by decide) rfl ?_
    refine E_goto (tgt := 60) dX8_worn_41 (by decide) ?_
    refine E_wk2 [none, none, some (vI x2), none, none, none, some (vI r_8)] ⟨rfl, ⟨rfl, trivial⟩⟩ ?_
    exact e_P_X8_worn_J60 h
abbrev Y_X9_canSet : My := (yX9_canSet, cX9_canSet, 3, some .boolean)
theorem dX9_canSet_0 : decode cX9_canSet 0 = .ok (.aload_n 0, 1) := by decide +kernel
theorem dX9_canSet_1 : decode cX9_canSet 1 = .ok (.getfield 49, 3) := by decide +kernel
theorem dX9_canSet_4 : decode cX9_canSet 4 = .ok (.iload_n 1, 1) := by decide +kernel
theorem dX9_canSet_5 : decode cX9_canSet 5 = .ok (.invokevirtual 87, 3) := by decide +kernel
theorem dX9_canSet_8 : decode cX9_canSet 8 = .ok (.ifCond .eq 17, 3) := by decide +kernel
theorem dX9_canSet_11 : decode cX9_canSet 11 = .ok (.iload_n 2, 1) := by decide +kernel
theorem dX9_canSet_12 : decode cX9_canSet 12 = .ok (.iconst 0, 1) := by decide +kernel
theorem dX9_canSet_13 : decode cX9_canSet 13 = .ok (.bipush 60, 2) := by decide +kernel
theorem dX9_canSet_15 : decode cX9_canSet 15 = .ok (.invokestatic 90, 3) := by decide +kernel
theorem dX9_canSet_18 : decode cX9_canSet 18 = .ok (.ifCond .eq 7, 3) := by decide +kernel
theorem dX9_canSet_21 : decode cX9_canSet 21 = .ok (.iconst 1, 1) := by decide +kernel
theorem dX9_canSet_22 : decode cX9_canSet 22 = .ok (.goto 4, 3) := by decide +kernel
theorem dX9_canSet_25 : decode cX9_canSet 25 = .ok (.iconst 0, 1) := by decide +kernel
theorem dX9_canSet_26 : decode cX9_canSet 26 = .ok (.ireturn, 1) := by decide +kernel
theorem nk_RX9_90 : Cond.methodLinkNest RX9 90 yX11_within RX11 ∈ nestW := List.mem_filter.mpr ⟨List.mem_of_getElem? (i := 968) (by decide +kernel), rfl⟩
def P_X9_canSet_J25    (Q : Int → St → Prop) (σ : St) : Prop :=
  Q 0 σ
set_option maxRecDepth 20000 in
set_option maxHeartbeats 2000000 in
theorem e_P_X9_canSet_J25    {Q : Int → St → Prop} {σ : St}   (h : P_X9_canSet_J25  Q σ) : E Y_X9_canSet 1 0 0 (QI Q) ww 0 0 25 [none, none, none] [] σ := by
  unfold P_X9_canSet_J25 at h
  refine E_ic dX9_canSet_25 rfl ?_
  exact E_zret dX9_canSet_26 rfl (by decide) ⟨_, rfl, rfl, h⟩
def P_X9_canSet  (o0 : Nat) (x1 : Int) (x2 : Int) (σ : St) (Q : Int → St → Prop) : Prop :=
  P_X8_hasCounter 0 x1 σ (fun r_2 σ_1 => (if r_2 = 0 then P_X9_canSet_J25 Q σ_1 else P_X11_within x2 0 60 σ_1 (fun r_4 σ_3 => (if r_4 = 0 then P_X9_canSet_J25 Q σ_3 else Q 1 σ_3))))
set_option maxRecDepth 20000 in
set_option maxHeartbeats 2000000 in
theorem s_X9_canSet   {o0 : Nat} {x1 : Int} {x2 : Int} {σ : St} {Q : Int → St → Prop} (h : P_X9_canSet o0 x1 x2 σ Q) : Cn Y_X9_canSet 1 0 0 ww σ [vR 9 o0, vI x1, vI x2] (QI Q) := by
  refine Cn_of [some (vR 9 o0), some (vI x1), some (vI x2)] (by decide) (Nat.le_of_ble_eq_true rfl) rfl ?_
  unfold P_X9_canSet at h
  refine E_aload_n dX9_canSet_0 rfl rfl ?_
  refine E_getr (i := o0) dX9_canSet_1 fl_RX9_49 rfl rfl (go_9_0 _ _) ?_
  refine E_iload_n dX9_canSet_4 rfl rfl ?_
  refine E_callV (Y' := Y_X8_hasCounter) (as := [vI x1]) (st := []) dX9_canSet_5 lk_RX9_87 m_X8_hasCounter (by decide) (Nat.le_refl _) (Nat.le_refl _) rfl rfl (Nat.le_of_ble_eq_true rfl) (s_X8_hasCounter h) (fun r0 B0 σ_1 h => ?_)
  obtain ⟨r_2, rfl, rfl, h⟩ := h
  refine E_if_eq (tgt := 25) dX9_canSet_8 (by decide) (fun hc => ?_) (fun hc => ?_)
  · have h := Eq.mp (if_pos hc) h
    refine E_wk2 [none, none, none] trivial ?_
    exact e_P_X9_canSet_J25 h
  · have h := Eq.mp (if_neg hc) h
    refine E_iload_n dX9_canSet_11 rfl rfl ?_
    refine E_ic dX9_canSet_12 rfl ?_
    refine E_bp dX9_canSet_13 rfl ?_
    refine E_callN (Y' := Y_X11_within) (as := [vI x2, vI 0, vI 60]) (st := []) dX9_canSet_15 nk_RX9_90 m_X11_within (by decide) (Nat.le_refl _) (Nat.le_refl _) rfl rfl (Nat.le_of_ble_eq_true rfl) (s_X11_within h) (fun r0 B0 σ_3 h => ?_)
    obtain ⟨r_4, rfl, rfl, h⟩ := h
    refine E_if_eq (tgt := 25) dX9_canSet_18 (by decide) (fun hc => ?_) (fun hc => ?_)
    · have h := Eq.mp (if_pos hc) h
      refine E_wk2 [none, none, none] trivial ?_
      exact e_P_X9_canSet_J25 h
    · have h := Eq.mp (if_neg hc) h
      refine E_ic dX9_canSet_21 rfl ?_
      refine E_goto (tgt := 26) dX9_canSet_22 (by decide) ?_
      exact E_zret dX9_canSet_26 rfl (by decide) ⟨_, rfl, rfl, h⟩
abbrev Y_X9_setGap : My := (yX9_setGap, cX9_setGap, 3, some .boolean)
theorem dX9_setGap_0 : decode cX9_setGap 0 = .ok (.aload_n 0, 1) := by decide +kernel
theorem dX9_setGap_1 : decode cX9_setGap 1 = .ok (.iload_n 1, 1) := by decide +kernel
theorem dX9_setGap_2 : decode cX9_setGap 2 = .ok (.iload_n 2, 1) := by decide +kernel
theorem dX9_setGap_3 : decode cX9_setGap 3 = .ok (.invokevirtual 94, 3) := by decide +kernel
theorem dX9_setGap_6 : decode cX9_setGap 6 = .ok (.ifCond .ne 5, 3) := by decide +kernel
theorem dX9_setGap_9 : decode cX9_setGap 9 = .ok (.iconst 0, 1) := by decide +kernel
theorem dX9_setGap_10 : decode cX9_setGap 10 = .ok (.ireturn, 1) := by decide +kernel
theorem dX9_setGap_11 : decode cX9_setGap 11 = .ok (.aload_n 0, 1) := by decide +kernel
theorem dX9_setGap_12 : decode cX9_setGap 12 = .ok (.getfield 9, 3) := by decide +kernel
theorem dX9_setGap_15 : decode cX9_setGap 15 = .ok (.iload_n 1, 1) := by decide +kernel
theorem dX9_setGap_16 : decode cX9_setGap 16 = .ok (.iload_n 2, 1) := by decide +kernel
theorem dX9_setGap_17 : decode cX9_setGap 17 = .ok (.iastore, 1) := by decide +kernel
theorem dX9_setGap_18 : decode cX9_setGap 18 = .ok (.iconst 1, 1) := by decide +kernel
theorem dX9_setGap_19 : decode cX9_setGap 19 = .ok (.ireturn, 1) := by decide +kernel
theorem lk_RX9_94 : Cond.methodLink RX9 94 yX9_canSet ∈ tG := inG (i := 973) (by decide +kernel) (by decide +kernel)
theorem m_X9_canSet : MV Y_X9_canSet 2 9 := ⟨⟨inG (i := 966) (by decide +kernel) (by decide +kernel), inG (i := 104) (by decide +kernel) (by decide +kernel), by decide, by decide, by decide, by decide +kernel⟩, inG (i := 964) (by decide +kernel) (by decide +kernel), inG (i := 965) (by decide +kernel) (by decide +kernel), by decide⟩
def P_X9_setGap  (o0 : Nat) (x1 : Int) (x2 : Int) (σ : St) (Q : Int → St → Prop) : Prop :=
  P_X9_canSet o0 x1 x2 σ (fun r_2 σ_1 => (if r_2 = 0 then Q 0 σ_1 else 0 ≤ x1 ∧ x1 < 6 ∧ Q 1 (up σ_1 1001 o0 x1 x2)))
set_option maxRecDepth 20000 in
set_option maxHeartbeats 2000000 in
theorem s_X9_setGap   {o0 : Nat} {x1 : Int} {x2 : Int} {σ : St} {Q : Int → St → Prop} (h : P_X9_setGap o0 x1 x2 σ Q) : Cn Y_X9_setGap 2 0 0 ww σ [vR 9 o0, vI x1, vI x2] (QI Q) := by
  refine Cn_of [some (vR 9 o0), some (vI x1), some (vI x2)] (by decide) (Nat.le_of_ble_eq_true rfl) rfl ?_
  unfold P_X9_setGap at h
  refine E_aload_n dX9_setGap_0 rfl rfl ?_
  refine E_iload_n dX9_setGap_1 rfl rfl ?_
  refine E_iload_n dX9_setGap_2 rfl rfl ?_
  refine E_callV (Y' := Y_X9_canSet) (as := [vI x1, vI x2]) (st := []) dX9_setGap_3 lk_RX9_94 m_X9_canSet (by decide) (Nat.le_refl _) (Nat.le_refl _) rfl rfl (Nat.le_of_ble_eq_true rfl) (s_X9_canSet h) (fun r0 B0 σ_1 h => ?_)
  obtain ⟨r_2, rfl, rfl, h⟩ := h
  refine E_if_ne (tgt := 11) dX9_setGap_6 (by decide) (fun hc => ?_) (fun hc => ?_)
  · have h := Eq.mp (if_neg hc) h
    refine E_aload_n dX9_setGap_11 rfl rfl ?_
    refine E_getr (i := o0) dX9_setGap_12 fl_RX9_9 rfl rfl (go_9_1 _ _) ?_
    refine E_iload_n dX9_setGap_15 rfl rfl ?_
    refine E_iload_n dX9_setGap_16 rfl rfl ?_
    obtain ⟨hg0, hg1, h⟩ := h
    refine E_iast dX9_setGap_17 sh_1001 hg0 hg1 ?_
    refine E_ic dX9_setGap_18 rfl ?_
    exact E_zret dX9_setGap_19 rfl (by decide) ⟨_, rfl, rfl, h⟩
  · have h := Eq.mp (if_pos hc) h
    refine E_ic dX9_setGap_9 rfl ?_
    exact E_zret dX9_setGap_10 rfl (by decide) ⟨_, rfl, rfl, h⟩
abbrev Y_X9_passBeat : My := (yX9_passBeat, cX9_passBeat, 2, some .int)
theorem dX9_passBeat_0 : decode cX9_passBeat 0 = .ok (.aload_n 0, 1) := by decide +kernel
theorem dX9_passBeat_1 : decode cX9_passBeat 1 = .ok (.invokevirtual 101, 3) := by decide +kernel
theorem dX9_passBeat_4 : decode cX9_passBeat 4 = .ok (.istore_n 1, 1) := by decide +kernel
theorem dX9_passBeat_5 : decode cX9_passBeat 5 = .ok (.aload_n 0, 1) := by decide +kernel
theorem dX9_passBeat_6 : decode cX9_passBeat 6 = .ok (.invokevirtual 105, 3) := by decide +kernel
theorem dX9_passBeat_9 : decode cX9_passBeat 9 = .ok (.aload_n 0, 1) := by decide +kernel
theorem dX9_passBeat_10 : decode cX9_passBeat 10 = .ok (.invokevirtual 108, 3) := by decide +kernel
theorem dX9_passBeat_13 : decode cX9_passBeat 13 = .ok (.aload_n 0, 1) := by decide +kernel
theorem dX9_passBeat_14 : decode cX9_passBeat 14 = .ok (.dup, 1) := by decide +kernel
theorem dX9_passBeat_15 : decode cX9_passBeat 15 = .ok (.getfield 43, 3) := by decide +kernel
theorem dX9_passBeat_18 : decode cX9_passBeat 18 = .ok (.iconst 1, 1) := by decide +kernel
theorem dX9_passBeat_19 : decode cX9_passBeat 19 = .ok (.iadd, 1) := by decide +kernel
theorem dX9_passBeat_20 : decode cX9_passBeat 20 = .ok (.putfield 43, 3) := by decide +kernel
theorem dX9_passBeat_23 : decode cX9_passBeat 23 = .ok (.iload_n 1, 1) := by decide +kernel
theorem dX9_passBeat_24 : decode cX9_passBeat 24 = .ok (.ireturn, 1) := by decide +kernel
theorem lk_RX9_101 : Cond.methodLink RX9 101 yX9_comeBack ∈ tG := inG (i := 939) (by decide +kernel) (by decide +kernel)
theorem lk_RX9_105 : Cond.methodLink RX9 105 yX9_serve ∈ tG := inG (i := 943) (by decide +kernel) (by decide +kernel)
theorem lk_RX9_108 : Cond.methodLink RX9 108 yX9_goOut ∈ tG := inG (i := 955) (by decide +kernel) (by decide +kernel)
theorem m_X9_comeBack : MV Y_X9_comeBack 0 9 := ⟨⟨inG (i := 942) (by decide +kernel) (by decide +kernel), inG (i := 104) (by decide +kernel) (by decide +kernel), by decide, by decide, by decide, by decide +kernel⟩, inG (i := 941) (by decide +kernel) (by decide +kernel), inG (i := 18) (by decide +kernel) (by decide +kernel), by decide⟩
theorem m_X9_goOut : MV Y_X9_goOut 0 9 := ⟨⟨inG (i := 958) (by decide +kernel) (by decide +kernel), inG (i := 104) (by decide +kernel) (by decide +kernel), by decide, by decide, by decide, by decide +kernel⟩, inG (i := 957) (by decide +kernel) (by decide +kernel), inG (i := 20) (by decide +kernel) (by decide +kernel), by decide⟩
theorem m_X9_serve : MV Y_X9_serve 0 9 := ⟨⟨inG (i := 946) (by decide +kernel) (by decide +kernel), inG (i := 104) (by decide +kernel) (by decide +kernel), by decide, by decide, by decide, by decide +kernel⟩, inG (i := 945) (by decide +kernel) (by decide +kernel), inG (i := 19) (by decide +kernel) (by decide +kernel), by decide⟩
def P_X9_passBeat  (o0 : Nat) (σ : St) (Q : Int → St → Prop) : Prop :=
  P_X9_comeBack o0 σ (fun r_2 σ_1 => P_X9_serve o0 σ_1 (fun σ_3 => P_X9_goOut o0 σ_3 (fun σ_4 => Q r_2 (up σ_4 9 o0 11 (wi ((σ_4 9 o0 11) + 1))))))
set_option maxRecDepth 20000 in
set_option maxHeartbeats 2000000 in
theorem s_X9_passBeat   {o0 : Nat} {σ : St} {Q : Int → St → Prop} (h : P_X9_passBeat o0 σ Q) : Cn Y_X9_passBeat 3 0 0 ww σ [vR 9 o0] (QI Q) := by
  refine Cn_of [some (vR 9 o0), none] (by decide) (Nat.le_of_ble_eq_true rfl) rfl ?_
  unfold P_X9_passBeat at h
  refine E_aload_n dX9_passBeat_0 rfl rfl ?_
  refine E_callV (Y' := Y_X9_comeBack) (as := []) (st := []) dX9_passBeat_1 lk_RX9_101 m_X9_comeBack (by decide) (Nat.le_refl _) (Nat.le_refl _) rfl rfl (Nat.le_of_ble_eq_true rfl) (s_X9_comeBack h) (fun r0 B0 σ_1 h => ?_)
  obtain ⟨r_2, rfl, rfl, h⟩ := h
  refine E_istore_n (ls' := [some (vR 9 o0), some (vI r_2)]) dX9_passBeat_4 rfl (by decide) rfl ?_
  refine E_aload_n dX9_passBeat_5 rfl rfl ?_
  refine E_callV (Y' := Y_X9_serve) (as := []) (st := []) dX9_passBeat_6 lk_RX9_105 m_X9_serve (by decide) (Nat.le_refl _) (Nat.le_refl _) rfl rfl (Nat.le_of_ble_eq_true rfl) (s_X9_serve h) (fun r0 B0 σ_3 h => ?_)
  obtain ⟨rfl, rfl, h⟩ := h
  refine E_aload_n dX9_passBeat_9 rfl rfl ?_
  refine E_callV (Y' := Y_X9_goOut) (as := []) (st := []) dX9_passBeat_10 lk_RX9_108 m_X9_goOut (by decide) (Nat.le_refl _) (Nat.le_refl _) rfl rfl (Nat.le_of_ble_eq_true rfl) (s_X9_goOut h) (fun r0 B0 σ_4 h => ?_)
  obtain ⟨rfl, rfl, h⟩ := h
  refine E_aload_n dX9_passBeat_13 rfl rfl ?_
  refine E_dup dX9_passBeat_14 (fun _ q => by cases q) ?_
  refine E_geti (i := o0) dX9_passBeat_15 fl_RX9_43 rfl ?_
  refine E_ic dX9_passBeat_18 rfl ?_
  refine E_iadd dX9_passBeat_19 ?_
  refine E_puti dX9_passBeat_20 fl_RX9_43 rfl rfl rfl ?_
  refine E_iload_n dX9_passBeat_23 rfl rfl ?_
  exact E_iret dX9_passBeat_24 rfl ⟨_, rfl, rfl, h⟩
abbrev Y_X9_passTillRests : My := (yX9_passTillRests, cX9_passTillRests, 3, some .int)
theorem dX9_passTillRests_0 : decode cX9_passTillRests 0 = .ok (.iconst 0, 1) := by decide +kernel
theorem dX9_passTillRests_1 : decode cX9_passTillRests 1 = .ok (.istore_n 2, 1) := by decide +kernel
theorem dX9_passTillRests_2 : decode cX9_passTillRests 2 = .ok (.iload_n 2, 1) := by decide +kernel
theorem dX9_passTillRests_3 : decode cX9_passTillRests 3 = .ok (.sipush 1000, 3) := by decide +kernel
theorem dX9_passTillRests_6 : decode cX9_passTillRests 6 = .ok (.if_icmp .ge 23, 3) := by decide +kernel
theorem dX9_passTillRests_9 : decode cX9_passTillRests 9 = .ok (.aload_n 0, 1) := by decide +kernel
theorem dX9_passTillRests_10 : decode cX9_passTillRests 10 = .ok (.getfield 21, 3) := by decide +kernel
theorem dX9_passTillRests_13 : decode cX9_passTillRests 13 = .ok (.iload_n 1, 1) := by decide +kernel
theorem dX9_passTillRests_14 : decode cX9_passTillRests 14 = .ok (.iaload, 1) := by decide +kernel
theorem dX9_passTillRests_15 : decode cX9_passTillRests 15 = .ok (.ifCond .eq 14, 3) := by decide +kernel
theorem dX9_passTillRests_18 : decode cX9_passTillRests 18 = .ok (.aload_n 0, 1) := by decide +kernel
theorem dX9_passTillRests_19 : decode cX9_passTillRests 19 = .ok (.invokevirtual 118, 3) := by decide +kernel
theorem dX9_passTillRests_22 : decode cX9_passTillRests 22 = .ok (.pop, 1) := by decide +kernel
theorem dX9_passTillRests_23 : decode cX9_passTillRests 23 = .ok (.iinc 2 1, 3) := by decide +kernel
theorem dX9_passTillRests_26 : decode cX9_passTillRests 26 = .ok (.goto (-24), 3) := by decide +kernel
theorem dX9_passTillRests_29 : decode cX9_passTillRests 29 = .ok (.iload_n 2, 1) := by decide +kernel
theorem dX9_passTillRests_30 : decode cX9_passTillRests 30 = .ok (.ireturn, 1) := by decide +kernel
theorem lk_RX9_118 : Cond.methodLink RX9 118 yX9_passBeat ∈ tG := inG (i := 1003) (by decide +kernel) (by decide +kernel)
theorem m_X9_passBeat : MV Y_X9_passBeat 0 9 := ⟨⟨inG (i := 938) (by decide +kernel) (by decide +kernel), inG (i := 104) (by decide +kernel) (by decide +kernel), by decide, by decide, by decide, by decide +kernel⟩, inG (i := 936) (by decide +kernel) (by decide +kernel), inG (i := 937) (by decide +kernel) (by decide +kernel), by decide⟩
def P_X9_passTillRests_L2  (o0 : Nat) (x1 : Int)  (Q : Int → St → Prop) : Nat → Int → St → Prop
  | 0, _, _ => False
  | n + 1, x2, σ => (if 1000 ≤ x2 then Q x2 σ else 0 ≤ x1 ∧ x1 < 6 ∧ (if (σ 1004 o0 x1) = 0 then Q x2 σ else P_X9_passBeat o0 σ (fun r_2 σ_1 => (P_X9_passTillRests_L2 o0 x1 Q n) (wi (x2 + 1)) σ_1)))
set_option maxRecDepth 20000 in
set_option maxHeartbeats 2000000 in
theorem e_P_X9_passTillRests_L2  {o0 : Nat} {x1 : Int}  {Q : Int → St → Prop}   : ∀ (n : Nat) (x2 : Int) (σ : St), P_X9_passTillRests_L2 o0 x1 Q n x2 σ → E Y_X9_passTillRests 4 0 0 (QI Q) ww 0 0 2 [some (vR 9 o0), some (vI x1), some (vI x2)] [] σ := by
  intro n
  induction n with
  | zero => intro x2 σ h; exact h.elim
  | succ n hR =>
    intro x2 σ h
    unfold P_X9_passTillRests_L2 at h
    refine E_iload_n dX9_passTillRests_2 rfl rfl ?_
    refine E_sp dX9_passTillRests_3 rfl ?_
    refine E_icmp_ge (tgt := 29) dX9_passTillRests_6 (by decide) (fun hc => ?_) (fun hc => ?_)
    · have h := Eq.mp (if_pos hc) h
      refine E_iload_n dX9_passTillRests_29 rfl rfl ?_
      exact E_iret dX9_passTillRests_30 rfl ⟨_, rfl, rfl, h⟩
    · have h := Eq.mp (if_neg hc) h
      refine E_aload_n dX9_passTillRests_9 rfl rfl ?_
      refine E_getr (i := o0) dX9_passTillRests_10 fl_RX9_21 rfl rfl (go_9_4 _ _) ?_
      refine E_iload_n dX9_passTillRests_13 rfl rfl ?_
      obtain ⟨hg0, hg1, h⟩ := h
      refine E_iald dX9_passTillRests_14 sh_1004 hg0 hg1 ?_
      refine E_if_eq (tgt := 29) dX9_passTillRests_15 (by decide) (fun hc => ?_) (fun hc => ?_)
      · have h := Eq.mp (if_pos hc) h
        refine E_iload_n dX9_passTillRests_29 rfl rfl ?_
        exact E_iret dX9_passTillRests_30 rfl ⟨_, rfl, rfl, h⟩
      · have h := Eq.mp (if_neg hc) h
        refine E_aload_n dX9_passTillRests_18 rfl rfl ?_
        refine E_callV (Y' := Y_X9_passBeat) (as := []) (st := []) dX9_passTillRests_19 lk_RX9_118 m_X9_passBeat (by decide) (Nat.le_refl _) (Nat.le_refl _) rfl rfl (Nat.le_of_ble_eq_true rfl) (s_X9_passBeat h) (fun r0 B0 σ_1 h => ?_)
        obtain ⟨r_2, rfl, rfl, h⟩ := h
        refine E_pop dX9_passTillRests_22 (fun _ q => by cases q) ?_
        refine E_iinc (ls' := [some (vR 9 o0), some (vI x1), some (vI (wi (x2 + 1)))]) dX9_passTillRests_23 rfl (by decide) rfl rfl ?_
        refine E_goto (tgt := 2) dX9_passTillRests_26 (by decide) ?_
        exact hR _ _ h
def P_X9_passTillRests  (o0 : Nat) (x1 : Int) (σ : St) (Q : Int → St → Prop) : Prop :=
  P_X9_passTillRests_L2 o0 x1 Q FU 0 σ
set_option maxRecDepth 20000 in
set_option maxHeartbeats 2000000 in
theorem s_X9_passTillRests   {o0 : Nat} {x1 : Int} {σ : St} {Q : Int → St → Prop} (h : P_X9_passTillRests o0 x1 σ Q) : Cn Y_X9_passTillRests 4 0 0 ww σ [vR 9 o0, vI x1] (QI Q) := by
  refine Cn_of [some (vR 9 o0), some (vI x1), none] (by decide) (Nat.le_of_ble_eq_true rfl) rfl ?_
  unfold P_X9_passTillRests at h
  refine E_ic dX9_passTillRests_0 rfl ?_
  refine E_istore_n (ls' := [some (vR 9 o0), some (vI x1), some (vI 0)]) dX9_passTillRests_1 rfl (by decide) rfl ?_
  refine e_P_X9_passTillRests_L2  _ _ _ h
abbrev Y_X9_passTillAllRest : My := (yX9_passTillAllRest, cX9_passTillAllRest, 3, some .int)
theorem dX9_passTillAllRest_0 : decode cX9_passTillAllRest 0 = .ok (.iconst 1, 1) := by decide +kernel
theorem dX9_passTillAllRest_1 : decode cX9_passTillAllRest 1 = .ok (.aload_n 0, 1) := by decide +kernel
theorem dX9_passTillAllRest_2 : decode cX9_passTillAllRest 2 = .ok (.getfield 49, 3) := by decide +kernel
theorem dX9_passTillAllRest_5 : decode cX9_passTillAllRest 5 = .ok (.getfield 59, 3) := by decide +kernel
theorem dX9_passTillAllRest_8 : decode cX9_passTillAllRest 8 = .ok (.ishl, 1) := by decide +kernel
theorem dX9_passTillAllRest_9 : decode cX9_passTillAllRest 9 = .ok (.iconst 1, 1) := by decide +kernel
theorem dX9_passTillAllRest_10 : decode cX9_passTillAllRest 10 = .ok (.isub, 1) := by decide +kernel
theorem dX9_passTillAllRest_11 : decode cX9_passTillAllRest 11 = .ok (.istore_n 1, 1) := by decide +kernel
theorem dX9_passTillAllRest_12 : decode cX9_passTillAllRest 12 = .ok (.iconst 0, 1) := by decide +kernel
theorem dX9_passTillAllRest_13 : decode cX9_passTillAllRest 13 = .ok (.istore_n 2, 1) := by decide +kernel
theorem dX9_passTillAllRest_14 : decode cX9_passTillAllRest 14 = .ok (.iload_n 2, 1) := by decide +kernel
theorem dX9_passTillAllRest_15 : decode cX9_passTillAllRest 15 = .ok (.sipush 1000, 3) := by decide +kernel
theorem dX9_passTillAllRest_18 : decode cX9_passTillAllRest 18 = .ok (.if_icmp .ge 23, 3) := by decide +kernel
theorem dX9_passTillAllRest_21 : decode cX9_passTillAllRest 21 = .ok (.aload_n 0, 1) := by decide +kernel
theorem dX9_passTillAllRest_22 : decode cX9_passTillAllRest 22 = .ok (.iconst 0, 1) := by decide +kernel
theorem dX9_passTillAllRest_23 : decode cX9_passTillAllRest 23 = .ok (.invokevirtual 121, 3) := by decide +kernel
theorem dX9_passTillAllRest_26 : decode cX9_passTillAllRest 26 = .ok (.iload_n 1, 1) := by decide +kernel
theorem dX9_passTillAllRest_27 : decode cX9_passTillAllRest 27 = .ok (.if_icmp .eq 14, 3) := by decide +kernel
theorem dX9_passTillAllRest_30 : decode cX9_passTillAllRest 30 = .ok (.aload_n 0, 1) := by decide +kernel
theorem dX9_passTillAllRest_31 : decode cX9_passTillAllRest 31 = .ok (.invokevirtual 118, 3) := by decide +kernel
theorem dX9_passTillAllRest_34 : decode cX9_passTillAllRest 34 = .ok (.pop, 1) := by decide +kernel
theorem dX9_passTillAllRest_35 : decode cX9_passTillAllRest 35 = .ok (.iinc 2 1, 3) := by decide +kernel
theorem dX9_passTillAllRest_38 : decode cX9_passTillAllRest 38 = .ok (.goto (-24), 3) := by decide +kernel
theorem dX9_passTillAllRest_41 : decode cX9_passTillAllRest 41 = .ok (.iload_n 2, 1) := by decide +kernel
theorem dX9_passTillAllRest_42 : decode cX9_passTillAllRest 42 = .ok (.ireturn, 1) := by decide +kernel
theorem lk_RX9_121 : Cond.methodLink RX9 121 yX9_inPhase ∈ tG := inG (i := 999) (by decide +kernel) (by decide +kernel)
def P_X9_passTillAllRest_L14  (o0 : Nat) (x1 : Int)  (Q : Int → St → Prop) : Nat → Int → St → Prop
  | 0, _, _ => False
  | n + 1, x2, σ => (if 1000 ≤ x2 then Q x2 σ else P_X9_inPhase o0 0 σ (fun r_2 σ_1 => (if r_2 = x1 then Q x2 σ_1 else P_X9_passBeat o0 σ_1 (fun r_4 σ_3 => (P_X9_passTillAllRest_L14 o0 x1 Q n) (wi (x2 + 1)) σ_3))))
set_option maxRecDepth 20000 in
set_option maxHeartbeats 2000000 in
theorem e_P_X9_passTillAllRest_L14  {o0 : Nat} {x1 : Int}  {Q : Int → St → Prop}   : ∀ (n : Nat) (x2 : Int) (σ : St), P_X9_passTillAllRest_L14 o0 x1 Q n x2 σ → E Y_X9_passTillAllRest 4 0 0 (QI Q) ww 0 0 14 [some (vR 9 o0), some (vI x1), some (vI x2)] [] σ := by
  intro n
  induction n with
  | zero => intro x2 σ h; exact h.elim
  | succ n hR =>
    intro x2 σ h
    unfold P_X9_passTillAllRest_L14 at h
    refine E_iload_n dX9_passTillAllRest_14 rfl rfl ?_
    refine E_sp dX9_passTillAllRest_15 rfl ?_
    refine E_icmp_ge (tgt := 41) dX9_passTillAllRest_18 (by decide) (fun hc => ?_) (fun hc => ?_)
    · have h := Eq.mp (if_pos hc) h
      refine E_iload_n dX9_passTillAllRest_41 rfl rfl ?_
      exact E_iret dX9_passTillAllRest_42 rfl ⟨_, rfl, rfl, h⟩
    · have h := Eq.mp (if_neg hc) h
      refine E_aload_n dX9_passTillAllRest_21 rfl rfl ?_
      refine E_ic dX9_passTillAllRest_22 rfl ?_
      refine E_callV (Y' := Y_X9_inPhase) (as := [vI 0]) (st := []) dX9_passTillAllRest_23 lk_RX9_121 m_X9_inPhase (by decide) (Nat.le_refl _) (Nat.le_refl _) rfl rfl (Nat.le_of_ble_eq_true rfl) (s_X9_inPhase h) (fun r0 B0 σ_1 h => ?_)
      obtain ⟨r_2, rfl, rfl, h⟩ := h
      refine E_iload_n dX9_passTillAllRest_26 rfl rfl ?_
      refine E_icmp_eq (tgt := 41) dX9_passTillAllRest_27 (by decide) (fun hc => ?_) (fun hc => ?_)
      · have h := Eq.mp (if_pos hc) h
        refine E_iload_n dX9_passTillAllRest_41 rfl rfl ?_
        exact E_iret dX9_passTillAllRest_42 rfl ⟨_, rfl, rfl, h⟩
      · have h := Eq.mp (if_neg hc) h
        refine E_aload_n dX9_passTillAllRest_30 rfl rfl ?_
        refine E_callV (Y' := Y_X9_passBeat) (as := []) (st := []) dX9_passTillAllRest_31 lk_RX9_118 m_X9_passBeat (by decide) (Nat.le_refl _) (Nat.le_refl _) rfl rfl (Nat.le_of_ble_eq_true rfl) (s_X9_passBeat h) (fun r0 B0 σ_3 h => ?_)
        obtain ⟨r_4, rfl, rfl, h⟩ := h
        refine E_pop dX9_passTillAllRest_34 (fun _ q => by cases q) ?_
        refine E_iinc (ls' := [some (vR 9 o0), some (vI x1), some (vI (wi (x2 + 1)))]) dX9_passTillAllRest_35 rfl (by decide) rfl rfl ?_
        refine E_goto (tgt := 14) dX9_passTillAllRest_38 (by decide) ?_
        exact hR _ _ h
def P_X9_passTillAllRest  (o0 : Nat) (σ : St) (Q : Int → St → Prop) : Prop :=
  P_X9_passTillAllRest_L14 o0 (wi ((bL 1 (σ 8 0 11)) - 1)) Q FU 0 σ
set_option maxRecDepth 20000 in
set_option maxHeartbeats 2000000 in
theorem s_X9_passTillAllRest   {o0 : Nat} {σ : St} {Q : Int → St → Prop} (h : P_X9_passTillAllRest o0 σ Q) : Cn Y_X9_passTillAllRest 4 0 0 ww σ [vR 9 o0] (QI Q) := by
  refine Cn_of [some (vR 9 o0), none, none] (by decide) (Nat.le_of_ble_eq_true rfl) rfl ?_
  unfold P_X9_passTillAllRest at h
  refine E_ic dX9_passTillAllRest_0 rfl ?_
  refine E_aload_n dX9_passTillAllRest_1 rfl rfl ?_
  refine E_getr (i := o0) dX9_passTillAllRest_2 fl_RX9_49 rfl rfl (go_9_0 _ _) ?_
  refine E_geti (i := 0) dX9_passTillAllRest_5 fl_RX9_59 rfl ?_
  refine E_ishl dX9_passTillAllRest_8 ?_
  refine E_ic dX9_passTillAllRest_9 rfl ?_
  refine E_isub dX9_passTillAllRest_10 ?_
  refine E_istore_n (ls' := [some (vR 9 o0), some (vI (wi ((bL 1 (σ 8 0 11)) - 1))), none]) dX9_passTillAllRest_11 rfl (by decide) rfl ?_
  refine E_ic dX9_passTillAllRest_12 rfl ?_
  refine E_istore_n (ls' := [some (vR 9 o0), some (vI (wi ((bL 1 (σ 8 0 11)) - 1))), some (vI 0)]) dX9_passTillAllRest_13 rfl (by decide) rfl ?_
  refine e_P_X9_passTillAllRest_L14  _ _ _ h
abbrev Y_X9_passDay : My := (yX9_passDay, cX9_passDay, 4, some .int)
theorem dX9_passDay_0 : decode cX9_passDay 0 = .ok (.aload_n 0, 1) := by decide +kernel
theorem dX9_passDay_1 : decode cX9_passDay 1 = .ok (.invokevirtual 124, 3) := by decide +kernel
theorem dX9_passDay_4 : decode cX9_passDay 4 = .ok (.istore_n 1, 1) := by decide +kernel
theorem dX9_passDay_5 : decode cX9_passDay 5 = .ok (.aload_n 0, 1) := by decide +kernel
theorem dX9_passDay_6 : decode cX9_passDay 6 = .ok (.getfield 49, 3) := by decide +kernel
theorem dX9_passDay_9 : decode cX9_passDay 9 = .ok (.aload_n 0, 1) := by decide +kernel
theorem dX9_passDay_10 : decode cX9_passDay 10 = .ok (.getfield 40, 3) := by decide +kernel
theorem dX9_passDay_13 : decode cX9_passDay 13 = .ok (.invokevirtual 127, 3) := by decide +kernel
theorem dX9_passDay_16 : decode cX9_passDay 16 = .ok (.istore_n 2, 1) := by decide +kernel
theorem dX9_passDay_17 : decode cX9_passDay 17 = .ok (.iconst 0, 1) := by decide +kernel
theorem dX9_passDay_18 : decode cX9_passDay 18 = .ok (.istore_n 3, 1) := by decide +kernel
theorem dX9_passDay_19 : decode cX9_passDay 19 = .ok (.iload_n 3, 1) := by decide +kernel
theorem dX9_passDay_20 : decode cX9_passDay 20 = .ok (.aload_n 0, 1) := by decide +kernel
theorem dX9_passDay_21 : decode cX9_passDay 21 = .ok (.getfield 49, 3) := by decide +kernel
theorem dX9_passDay_24 : decode cX9_passDay 24 = .ok (.getfield 59, 3) := by decide +kernel
theorem dX9_passDay_27 : decode cX9_passDay 27 = .ok (.if_icmp .ge 47, 3) := by decide +kernel
theorem dX9_passDay_30 : decode cX9_passDay 30 = .ok (.aload_n 0, 1) := by decide +kernel
theorem dX9_passDay_31 : decode cX9_passDay 31 = .ok (.getfield 15, 3) := by decide +kernel
theorem dX9_passDay_34 : decode cX9_passDay 34 = .ok (.iload_n 3, 1) := by decide +kernel
theorem dX9_passDay_35 : decode cX9_passDay 35 = .ok (.aload_n 0, 1) := by decide +kernel
theorem dX9_passDay_36 : decode cX9_passDay 36 = .ok (.getfield 49, 3) := by decide +kernel
theorem dX9_passDay_39 : decode cX9_passDay 39 = .ok (.iload_n 3, 1) := by decide +kernel
theorem dX9_passDay_40 : decode cX9_passDay 40 = .ok (.aload_n 0, 1) := by decide +kernel
theorem dX9_passDay_41 : decode cX9_passDay 41 = .ok (.getfield 15, 3) := by decide +kernel
theorem dX9_passDay_44 : decode cX9_passDay 44 = .ok (.iload_n 3, 1) := by decide +kernel
theorem dX9_passDay_45 : decode cX9_passDay 45 = .ok (.iaload, 1) := by decide +kernel
theorem dX9_passDay_46 : decode cX9_passDay 46 = .ok (.aload_n 0, 1) := by decide +kernel
theorem dX9_passDay_47 : decode cX9_passDay 47 = .ok (.getfield 27, 3) := by decide +kernel
theorem dX9_passDay_50 : decode cX9_passDay 50 = .ok (.iload_n 3, 1) := by decide +kernel
theorem dX9_passDay_51 : decode cX9_passDay 51 = .ok (.iaload, 1) := by decide +kernel
theorem dX9_passDay_52 : decode cX9_passDay 52 = .ok (.iload_n 2, 1) := by decide +kernel
theorem dX9_passDay_53 : decode cX9_passDay 53 = .ok (.aload_n 0, 1) := by decide +kernel
theorem dX9_passDay_54 : decode cX9_passDay 54 = .ok (.getfield 40, 3) := by decide +kernel
theorem dX9_passDay_57 : decode cX9_passDay 57 = .ok (.invokevirtual 130, 3) := by decide +kernel
theorem dX9_passDay_60 : decode cX9_passDay 60 = .ok (.iastore, 1) := by decide +kernel
theorem dX9_passDay_61 : decode cX9_passDay 61 = .ok (.aload_n 0, 1) := by decide +kernel
theorem dX9_passDay_62 : decode cX9_passDay 62 = .ok (.getfield 27, 3) := by decide +kernel
theorem dX9_passDay_65 : decode cX9_passDay 65 = .ok (.iload_n 3, 1) := by decide +kernel
theorem dX9_passDay_66 : decode cX9_passDay 66 = .ok (.iconst 0, 1) := by decide +kernel
theorem dX9_passDay_67 : decode cX9_passDay 67 = .ok (.iastore, 1) := by decide +kernel
theorem dX9_passDay_68 : decode cX9_passDay 68 = .ok (.iinc 3 1, 3) := by decide +kernel
theorem dX9_passDay_71 : decode cX9_passDay 71 = .ok (.goto (-52), 3) := by decide +kernel
theorem dX9_passDay_74 : decode cX9_passDay 74 = .ok (.aload_n 0, 1) := by decide +kernel
theorem dX9_passDay_75 : decode cX9_passDay 75 = .ok (.dup, 1) := by decide +kernel
theorem dX9_passDay_76 : decode cX9_passDay 76 = .ok (.getfield 40, 3) := by decide +kernel
theorem dX9_passDay_79 : decode cX9_passDay 79 = .ok (.iconst 1, 1) := by decide +kernel
theorem dX9_passDay_80 : decode cX9_passDay 80 = .ok (.iadd, 1) := by decide +kernel
theorem dX9_passDay_81 : decode cX9_passDay 81 = .ok (.putfield 40, 3) := by decide +kernel
theorem dX9_passDay_84 : decode cX9_passDay 84 = .ok (.aload_n 0, 1) := by decide +kernel
theorem dX9_passDay_85 : decode cX9_passDay 85 = .ok (.iconst 0, 1) := by decide +kernel
theorem dX9_passDay_86 : decode cX9_passDay 86 = .ok (.putfield 43, 3) := by decide +kernel
theorem dX9_passDay_89 : decode cX9_passDay 89 = .ok (.iload_n 1, 1) := by decide +kernel
theorem dX9_passDay_90 : decode cX9_passDay 90 = .ok (.ireturn, 1) := by decide +kernel
theorem lk_RX9_124 : Cond.methodLink RX9 124 yX9_passTillAllRest ∈ tG := inG (i := 995) (by decide +kernel) (by decide +kernel)
theorem lk_RX9_127 : Cond.methodLink RX9 127 yX8_dampOn ∈ tG := inG (i := 1004) (by decide +kernel) (by decide +kernel)
theorem lk_RX9_130 : Cond.methodLink RX9 130 yX8_worn ∈ tG := inG (i := 1008) (by decide +kernel) (by decide +kernel)
theorem m_X8_worn : MV Y_X8_worn 5 8 := ⟨⟨inG (i := 1011) (by decide +kernel) (by decide +kernel), inG (i := 100) (by decide +kernel) (by decide +kernel), by decide, by decide, by decide, by decide +kernel⟩, inG (i := 1009) (by decide +kernel) (by decide +kernel), inG (i := 1010) (by decide +kernel) (by decide +kernel), by decide⟩
theorem m_X9_passTillAllRest : MV Y_X9_passTillAllRest 0 9 := ⟨⟨inG (i := 998) (by decide +kernel) (by decide +kernel), inG (i := 104) (by decide +kernel) (by decide +kernel), by decide, by decide, by decide, by decide +kernel⟩, inG (i := 996) (by decide +kernel) (by decide +kernel), inG (i := 997) (by decide +kernel) (by decide +kernel), by decide⟩
def P_X9_passDay_L19  (o0 : Nat) (x1 : Int) (x2 : Int)  (Q : Int → St → Prop) : Nat → Int → St → Prop
  | 0, _, _ => False
  | n + 1, x3, σ => (if (σ 8 0 11) ≤ x3 then Q x1 (up (up σ 9 o0 10 (wi ((σ 9 o0 10) + 1))) 9 o0 11 0) else 0 ≤ x3 ∧ x3 < 6 ∧ 0 ≤ x3 ∧ x3 < 6 ∧ P_X8_worn 0 x3 (σ 1002 o0 x3) (σ 1006 o0 x3) x2 (σ 9 o0 10) σ (fun r_6 σ_5 => 0 ≤ x3 ∧ x3 < 6 ∧ 0 ≤ x3 ∧ x3 < 6 ∧ (P_X9_passDay_L19 o0 x1 x2 Q n) (wi (x3 + 1)) (up (up σ_5 1002 o0 x3 r_6) 1006 o0 x3 0)))
set_option maxRecDepth 20000 in
set_option maxHeartbeats 2000000 in
theorem e_P_X9_passDay_L19  {o0 : Nat} {x1 : Int} {x2 : Int}  {Q : Int → St → Prop}   : ∀ (n : Nat) (x3 : Int) (σ : St), P_X9_passDay_L19 o0 x1 x2 Q n x3 σ → E Y_X9_passDay 5 0 0 (QI Q) ww 0 0 19 [some (vR 9 o0), some (vI x1), some (vI x2), some (vI x3)] [] σ := by
  intro n
  induction n with
  | zero => intro x3 σ h; exact h.elim
  | succ n hR =>
    intro x3 σ h
    unfold P_X9_passDay_L19 at h
    refine E_iload_n dX9_passDay_19 rfl rfl ?_
    refine E_aload_n dX9_passDay_20 rfl rfl ?_
    refine E_getr (i := o0) dX9_passDay_21 fl_RX9_49 rfl rfl (go_9_0 _ _) ?_
    refine E_geti (i := 0) dX9_passDay_24 fl_RX9_59 rfl ?_
    refine E_icmp_ge (tgt := 74) dX9_passDay_27 (by decide) (fun hc => ?_) (fun hc => ?_)
    · have h := Eq.mp (if_pos hc) h
      refine E_aload_n dX9_passDay_74 rfl rfl ?_
      refine E_dup dX9_passDay_75 (fun _ q => by cases q) ?_
      refine E_geti (i := o0) dX9_passDay_76 fl_RX9_40 rfl ?_
      refine E_ic dX9_passDay_79 rfl ?_
      refine E_iadd dX9_passDay_80 ?_
      refine E_puti dX9_passDay_81 fl_RX9_40 rfl rfl rfl ?_
      refine E_aload_n dX9_passDay_84 rfl rfl ?_
      refine E_ic dX9_passDay_85 rfl ?_
      refine E_puti dX9_passDay_86 fl_RX9_43 rfl rfl rfl ?_
      refine E_iload_n dX9_passDay_89 rfl rfl ?_
      exact E_iret dX9_passDay_90 rfl ⟨_, rfl, rfl, h⟩
    · have h := Eq.mp (if_neg hc) h
      refine E_aload_n dX9_passDay_30 rfl rfl ?_
      refine E_getr (i := o0) dX9_passDay_31 fl_RX9_15 rfl rfl (go_9_2 _ _) ?_
      refine E_iload_n dX9_passDay_34 rfl rfl ?_
      refine E_aload_n dX9_passDay_35 rfl rfl ?_
      refine E_getr (i := o0) dX9_passDay_36 fl_RX9_49 rfl rfl (go_9_0 _ _) ?_
      refine E_iload_n dX9_passDay_39 rfl rfl ?_
      refine E_aload_n dX9_passDay_40 rfl rfl ?_
      refine E_getr (i := o0) dX9_passDay_41 fl_RX9_15 rfl rfl (go_9_2 _ _) ?_
      refine E_iload_n dX9_passDay_44 rfl rfl ?_
      obtain ⟨hg0, hg1, h⟩ := h
      refine E_iald dX9_passDay_45 sh_1002 hg0 hg1 ?_
      refine E_aload_n dX9_passDay_46 rfl rfl ?_
      refine E_getr (i := o0) dX9_passDay_47 fl_RX9_27 rfl rfl (go_9_6 _ _) ?_
      refine E_iload_n dX9_passDay_50 rfl rfl ?_
      obtain ⟨hg0, hg1, h⟩ := h
      refine E_iald dX9_passDay_51 sh_1006 hg0 hg1 ?_
      refine E_iload_n dX9_passDay_52 rfl rfl ?_
      refine E_aload_n dX9_passDay_53 rfl rfl ?_
      refine E_geti (i := o0) dX9_passDay_54 fl_RX9_40 rfl ?_
      refine E_callV (Y' := Y_X8_worn) (as := [vI x3, vI (σ 1002 o0 x3), vI (σ 1006 o0 x3), vI x2, vI (σ 9 o0 10)]) (st := [vI x3, vR 1002 o0]) dX9_passDay_57 lk_RX9_130 m_X8_worn (by decide) (Nat.le_refl _) (Nat.le_refl _) rfl rfl (Nat.le_of_ble_eq_true rfl) (s_X8_worn h) (fun r0 B0 σ_5 h => ?_)
      obtain ⟨r_6, rfl, rfl, h⟩ := h
      obtain ⟨hg0, hg1, h⟩ := h
      refine E_iast dX9_passDay_60 sh_1002 hg0 hg1 ?_
      refine E_aload_n dX9_passDay_61 rfl rfl ?_
      refine E_getr (i := o0) dX9_passDay_62 fl_RX9_27 rfl rfl (go_9_6 _ _) ?_
      refine E_iload_n dX9_passDay_65 rfl rfl ?_
      refine E_ic dX9_passDay_66 rfl ?_
      obtain ⟨hg0, hg1, h⟩ := h
      refine E_iast dX9_passDay_67 sh_1006 hg0 hg1 ?_
      refine E_iinc (ls' := [some (vR 9 o0), some (vI x1), some (vI x2), some (vI (wi (x3 + 1)))]) dX9_passDay_68 rfl (by decide) rfl rfl ?_
      refine E_goto (tgt := 19) dX9_passDay_71 (by decide) ?_
      exact hR _ _ h
def P_X9_passDay  (o0 : Nat) (σ : St) (Q : Int → St → Prop) : Prop :=
  P_X9_passTillAllRest o0 σ (fun r_2 σ_1 => P_X8_dampOn 0 (σ_1 9 o0 10) σ_1 (fun r_4 σ_3 => P_X9_passDay_L19 o0 r_2 r_4 Q FU 0 σ_3))
set_option maxRecDepth 20000 in
set_option maxHeartbeats 2000000 in
theorem s_X9_passDay   {o0 : Nat} {σ : St} {Q : Int → St → Prop} (h : P_X9_passDay o0 σ Q) : Cn Y_X9_passDay 5 0 0 ww σ [vR 9 o0] (QI Q) := by
  refine Cn_of [some (vR 9 o0), none, none, none] (by decide) (Nat.le_of_ble_eq_true rfl) rfl ?_
  unfold P_X9_passDay at h
  refine E_aload_n dX9_passDay_0 rfl rfl ?_
  refine E_callV (Y' := Y_X9_passTillAllRest) (as := []) (st := []) dX9_passDay_1 lk_RX9_124 m_X9_passTillAllRest (by decide) (Nat.le_refl _) (Nat.le_refl _) rfl rfl (Nat.le_of_ble_eq_true rfl) (s_X9_passTillAllRest h) (fun r0 B0 σ_1 h => ?_)
  obtain ⟨r_2, rfl, rfl, h⟩ := h
  refine E_istore_n (ls' := [some (vR 9 o0), some (vI r_2), none, none]) dX9_passDay_4 rfl (by decide) rfl ?_
  refine E_aload_n dX9_passDay_5 rfl rfl ?_
  refine E_getr (i := o0) dX9_passDay_6 fl_RX9_49 rfl rfl (go_9_0 _ _) ?_
  refine E_aload_n dX9_passDay_9 rfl rfl ?_
  refine E_geti (i := o0) dX9_passDay_10 fl_RX9_40 rfl ?_
  refine E_callV (Y' := Y_X8_dampOn) (as := [vI (σ_1 9 o0 10)]) (st := []) dX9_passDay_13 lk_RX9_127 m_X8_dampOn (by decide) (Nat.le_refl _) (Nat.le_refl _) rfl rfl (Nat.le_of_ble_eq_true rfl) (s_X8_dampOn h) (fun r0 B0 σ_3 h => ?_)
  obtain ⟨r_4, rfl, rfl, h⟩ := h
  refine E_istore_n (ls' := [some (vR 9 o0), some (vI r_2), some (vI r_4), none]) dX9_passDay_16 rfl (by decide) rfl ?_
  refine E_ic dX9_passDay_17 rfl ?_
  refine E_istore_n (ls' := [some (vR 9 o0), some (vI r_2), some (vI r_4), some (vI 0)]) dX9_passDay_18 rfl (by decide) rfl ?_
  refine e_P_X9_passDay_L19  _ _ _ h
abbrev Y_X9_passByDraws : My := (yX9_passByDraws, cX9_passByDraws, 7, none)
theorem dX9_passByDraws_0 : decode cX9_passByDraws 0 = .ok (.iload_n 1, 1) := by decide +kernel
theorem dX9_passByDraws_1 : decode cX9_passByDraws 1 = .ok (.i2l, 1) := by decide +kernel
theorem dX9_passByDraws_2 : decode cX9_passByDraws 2 = .ok (.lstore_n 3, 1) := by decide +kernel
theorem dX9_passByDraws_3 : decode cX9_passByDraws 3 = .ok (.iconst 0, 1) := by decide +kernel
theorem dX9_passByDraws_4 : decode cX9_passByDraws 4 = .ok (.istore 5, 2) := by decide +kernel
theorem dX9_passByDraws_6 : decode cX9_passByDraws 6 = .ok (.iload 5, 2) := by decide +kernel
theorem dX9_passByDraws_8 : decode cX9_passByDraws 8 = .ok (.iload_n 2, 1) := by decide +kernel
theorem dX9_passByDraws_9 : decode cX9_passByDraws 9 = .ok (.if_icmp .ge 90, 3) := by decide +kernel
theorem dX9_passByDraws_12 : decode cX9_passByDraws 12 = .ok (.aload_n 0, 1) := by decide +kernel
theorem dX9_passByDraws_13 : decode cX9_passByDraws 13 = .ok (.getfield 49, 3) := by decide +kernel
theorem dX9_passByDraws_16 : decode cX9_passByDraws 16 = .ok (.getfield 59, 3) := by decide +kernel
theorem dX9_passByDraws_19 : decode cX9_passByDraws 19 = .ok (.ifCond .le 80, 3) := by decide +kernel
theorem dX9_passByDraws_22 : decode cX9_passByDraws 22 = .ok (.lload_n 3, 1) := by decide +kernel
theorem dX9_passByDraws_23 : decode cX9_passByDraws 23 = .ok (.invokestatic 134, 3) := by decide +kernel
theorem dX9_passByDraws_26 : decode cX9_passByDraws 26 = .ok (.lstore_n 3, 1) := by decide +kernel
theorem dX9_passByDraws_27 : decode cX9_passByDraws 27 = .ok (.lload_n 3, 1) := by decide +kernel
theorem dX9_passByDraws_28 : decode cX9_passByDraws 28 = .ok (.ldc2_w 138, 3) := by decide +kernel
theorem dX9_passByDraws_31 : decode cX9_passByDraws 31 = .ok (.ldiv, 1) := by decide +kernel
theorem dX9_passByDraws_32 : decode cX9_passByDraws 32 = .ok (.ldc2_w 140, 3) := by decide +kernel
theorem dX9_passByDraws_35 : decode cX9_passByDraws 35 = .ok (.lrem, 1) := by decide +kernel
theorem dX9_passByDraws_36 : decode cX9_passByDraws 36 = .ok (.l2i, 1) := by decide +kernel
theorem dX9_passByDraws_37 : decode cX9_passByDraws 37 = .ok (.istore 6, 2) := by decide +kernel
theorem dX9_passByDraws_39 : decode cX9_passByDraws 39 = .ok (.iload 6, 2) := by decide +kernel
theorem dX9_passByDraws_41 : decode cX9_passByDraws 41 = .ok (.iconst 4, 1) := by decide +kernel
theorem dX9_passByDraws_42 : decode cX9_passByDraws 42 = .ok (.if_icmp .ge 31, 3) := by decide +kernel
theorem dX9_passByDraws_45 : decode cX9_passByDraws 45 = .ok (.lload_n 3, 1) := by decide +kernel
theorem dX9_passByDraws_46 : decode cX9_passByDraws 46 = .ok (.invokestatic 134, 3) := by decide +kernel
theorem dX9_passByDraws_49 : decode cX9_passByDraws 49 = .ok (.lstore_n 3, 1) := by decide +kernel
theorem dX9_passByDraws_50 : decode cX9_passByDraws 50 = .ok (.aload_n 0, 1) := by decide +kernel
theorem dX9_passByDraws_51 : decode cX9_passByDraws 51 = .ok (.lload_n 3, 1) := by decide +kernel
theorem dX9_passByDraws_52 : decode cX9_passByDraws 52 = .ok (.ldc2_w 138, 3) := by decide +kernel
theorem dX9_passByDraws_55 : decode cX9_passByDraws 55 = .ok (.ldiv, 1) := by decide +kernel
theorem dX9_passByDraws_56 : decode cX9_passByDraws 56 = .ok (.aload_n 0, 1) := by decide +kernel
theorem dX9_passByDraws_57 : decode cX9_passByDraws 57 = .ok (.getfield 49, 3) := by decide +kernel
theorem dX9_passByDraws_60 : decode cX9_passByDraws 60 = .ok (.getfield 59, 3) := by decide +kernel
theorem dX9_passByDraws_63 : decode cX9_passByDraws 63 = .ok (.i2l, 1) := by decide +kernel
theorem dX9_passByDraws_64 : decode cX9_passByDraws 64 = .ok (.lrem, 1) := by decide +kernel
theorem dX9_passByDraws_65 : decode cX9_passByDraws 65 = .ok (.l2i, 1) := by decide +kernel
theorem dX9_passByDraws_66 : decode cX9_passByDraws 66 = .ok (.invokevirtual 142, 3) := by decide +kernel
theorem dX9_passByDraws_69 : decode cX9_passByDraws 69 = .ok (.pop, 1) := by decide +kernel
theorem dX9_passByDraws_70 : decode cX9_passByDraws 70 = .ok (.goto 23, 3) := by decide +kernel
theorem dX9_passByDraws_73 : decode cX9_passByDraws 73 = .ok (.iload 6, 2) := by decide +kernel
theorem dX9_passByDraws_75 : decode cX9_passByDraws 75 = .ok (.bipush 7, 2) := by decide +kernel
theorem dX9_passByDraws_77 : decode cX9_passByDraws 77 = .ok (.if_icmp .ne 11, 3) := by decide +kernel
theorem dX9_passByDraws_80 : decode cX9_passByDraws 80 = .ok (.aload_n 0, 1) := by decide +kernel
theorem dX9_passByDraws_81 : decode cX9_passByDraws 81 = .ok (.invokevirtual 145, 3) := by decide +kernel
theorem dX9_passByDraws_84 : decode cX9_passByDraws 84 = .ok (.pop, 1) := by decide +kernel
theorem dX9_passByDraws_85 : decode cX9_passByDraws 85 = .ok (.goto 8, 3) := by decide +kernel
theorem dX9_passByDraws_88 : decode cX9_passByDraws 88 = .ok (.aload_n 0, 1) := by decide +kernel
theorem dX9_passByDraws_89 : decode cX9_passByDraws 89 = .ok (.invokevirtual 118, 3) := by decide +kernel
theorem dX9_passByDraws_92 : decode cX9_passByDraws 92 = .ok (.pop, 1) := by decide +kernel
theorem dX9_passByDraws_93 : decode cX9_passByDraws 93 = .ok (.iinc 5 1, 3) := by decide +kernel
theorem dX9_passByDraws_96 : decode cX9_passByDraws 96 = .ok (.goto (-90), 3) := by decide +kernel
theorem dX9_passByDraws_99 : decode cX9_passByDraws 99 = .ok (.return_, 1) := by decide +kernel
theorem kl_RX9_138 : Cond.constantLong RX9 138 (65536) ∈ tG := inG (i := 1283) (by decide +kernel) (by decide +kernel)
theorem kl_RX9_140 : Cond.constantLong RX9 140 (8) ∈ tG := inG (i := 1284) (by decide +kernel) (by decide +kernel)
theorem lk_RX9_134 : Cond.methodLink RX9 134 yX9_draw ∈ tG := inG (i := 1277) (by decide +kernel) (by decide +kernel)
theorem lk_RX9_142 : Cond.methodLink RX9 142 yX9_sendOff ∈ tG := inG (i := 1285) (by decide +kernel) (by decide +kernel)
theorem lk_RX9_145 : Cond.methodLink RX9 145 yX9_passDay ∈ tG := inG (i := 1286) (by decide +kernel) (by decide +kernel)
theorem m_X9_draw : MS Y_X9_draw 1 := ⟨⟨inG (i := 1279) (by decide +kernel) (by decide +kernel), inG (i := 104) (by decide +kernel) (by decide +kernel), by decide, by decide, by decide, by decide +kernel⟩, inG (i := 1278) (by decide +kernel) (by decide +kernel)⟩
theorem m_X9_passDay : MV Y_X9_passDay 0 9 := ⟨⟨inG (i := 994) (by decide +kernel) (by decide +kernel), inG (i := 104) (by decide +kernel) (by decide +kernel), by decide, by decide, by decide, by decide +kernel⟩, inG (i := 992) (by decide +kernel) (by decide +kernel), inG (i := 993) (by decide +kernel) (by decide +kernel), by decide⟩
theorem m_X9_sendOff : MV Y_X9_sendOff 1 9 := ⟨⟨inG (i := 924) (by decide +kernel) (by decide +kernel), inG (i := 104) (by decide +kernel) (by decide +kernel), by decide, by decide, by decide, by decide +kernel⟩, inG (i := 922) (by decide +kernel) (by decide +kernel), inG (i := 923) (by decide +kernel) (by decide +kernel), by decide⟩
def P_X9_passByDraws_L6  (o0 : Nat) (x2 : Int)  (Q : St → Prop) : Nat → Int → Int → St → Prop
  | 0, _, _, _ => False
  | n + 1, x3, x5, σ => (if x2 ≤ x5 then Q σ else (if (σ 8 0 11) ≤ 0 then Q σ else P_X9_draw x3 σ (fun r_2 σ_1 => (if 4 ≤ (wi ((wj (r_2.tdiv 65536)).tmod 8)) then (if (wi ((wj (r_2.tdiv 65536)).tmod 8)) = 7 then P_X9_passDay o0 σ_1 (fun r_6 σ_5 => (P_X9_passByDraws_L6 o0 x2 Q n) r_2 (wi (x5 + 1)) σ_5) else P_X9_passBeat o0 σ_1 (fun r_4 σ_3 => (P_X9_passByDraws_L6 o0 x2 Q n) r_2 (wi (x5 + 1)) σ_3)) else P_X9_draw r_2 σ_1 (fun r_8 σ_7 => ¬ (σ_7 8 0 11) = 0 ∧ P_X9_sendOff o0 (wi ((wj (r_8.tdiv 65536)).tmod (σ_7 8 0 11))) σ_7 (fun r_10 σ_9 => (P_X9_passByDraws_L6 o0 x2 Q n) r_8 (wi (x5 + 1)) σ_9))))))
set_option maxRecDepth 20000 in
set_option maxHeartbeats 2000000 in
theorem e_P_X9_passByDraws_L6  {o0 : Nat} {x2 : Int}  {Q : St → Prop}   : ∀ (n : Nat) (x3 : Int) (x5 : Int) (σ : St), P_X9_passByDraws_L6 o0 x2 Q n x3 x5 σ → E Y_X9_passByDraws 6 0 0 (QV Q) ww 0 0 6 [some (vR 9 o0), none, some (vI x2), some (vL x3), none, some (vI x5), none] [] σ := by
  intro n
  induction n with
  | zero => intro x3 x5 σ h; exact h.elim
  | succ n hR =>
    intro x3 x5 σ h
    unfold P_X9_passByDraws_L6 at h
    refine E_iload dX9_passByDraws_6 rfl ?_
    refine E_iload_n dX9_passByDraws_8 rfl rfl ?_
    refine E_icmp_ge (tgt := 99) dX9_passByDraws_9 (by decide) (fun hc => ?_) (fun hc => ?_)
    · have h := Eq.mp (if_pos hc) h
      exact E_vret dX9_passByDraws_99 rfl ⟨rfl, rfl, h⟩
    · have h := Eq.mp (if_neg hc) h
      refine E_aload_n dX9_passByDraws_12 rfl rfl ?_
      refine E_getr (i := o0) dX9_passByDraws_13 fl_RX9_49 rfl rfl (go_9_0 _ _) ?_
      refine E_geti (i := 0) dX9_passByDraws_16 fl_RX9_59 rfl ?_
      refine E_if_le (tgt := 99) dX9_passByDraws_19 (by decide) (fun hc => ?_) (fun hc => ?_)
      · have h := Eq.mp (if_pos hc) h
        exact E_vret dX9_passByDraws_99 rfl ⟨rfl, rfl, h⟩
      · have h := Eq.mp (if_neg hc) h
        refine E_lload_n dX9_passByDraws_22 rfl rfl ?_
        refine E_callS (Y' := Y_X9_draw) (as := [vL x3]) (st := []) dX9_passByDraws_23 lk_RX9_134 m_X9_draw (by decide) (Nat.le_refl _) (Nat.le_refl _) rfl rfl (Nat.le_of_ble_eq_true rfl) (s_X9_draw h) (fun r0 B0 σ_1 h => ?_)
        obtain ⟨r_2, rfl, rfl, h⟩ := h
        refine E_lstore_n (ls' := [some (vR 9 o0), none, some (vI x2), some (vL r_2), none, some (vI x5), none]) dX9_passByDraws_26 rfl (by decide) rfl ?_
        refine E_lload_n dX9_passByDraws_27 rfl rfl ?_
        refine E_ldc2 (z := 65536) dX9_passByDraws_28 kl_RX9_138 (by decide) ?_
        refine E_ldiv dX9_passByDraws_31 (by decide) ?_
        refine E_ldc2 (z := 8) dX9_passByDraws_32 kl_RX9_140 (by decide) ?_
        refine E_lrem dX9_passByDraws_35 (by decide) ?_
        refine E_l2i dX9_passByDraws_36 ?_
        refine E_istore (ls' := [some (vR 9 o0), none, some (vI x2), some (vL r_2), none, some (vI x5), some (vI (wi ((wj (r_2.tdiv 65536)).tmod 8)))]) dX9_passByDraws_37 (by decide) rfl ?_
        refine E_iload dX9_passByDraws_39 rfl ?_
        refine E_ic dX9_passByDraws_41 rfl ?_
        refine E_icmp_ge (tgt := 73) dX9_passByDraws_42 (by decide) (fun hc => ?_) (fun hc => ?_)
        · have h := Eq.mp (if_pos hc) h
          refine E_iload dX9_passByDraws_73 rfl ?_
          refine E_bp dX9_passByDraws_75 rfl ?_
          refine E_icmp_ne (tgt := 88) dX9_passByDraws_77 (by decide) (fun hc => ?_) (fun hc => ?_)
          · have h := Eq.mp (if_neg hc) h
            refine E_aload_n dX9_passByDraws_88 rfl rfl ?_
            refine E_callV (Y' := Y_X9_passBeat) (as := []) (st := []) dX9_passByDraws_89 lk_RX9_118 m_X9_passBeat (by decide) (Nat.le_refl _) (Nat.le_refl _) rfl rfl (Nat.le_of_ble_eq_true rfl) (s_X9_passBeat h) (fun r0 B0 σ_3 h => ?_)
            obtain ⟨r_4, rfl, rfl, h⟩ := h
            refine E_pop dX9_passByDraws_92 (fun _ q => by cases q) ?_
            refine E_iinc (ls' := [some (vR 9 o0), none, some (vI x2), some (vL r_2), none, some (vI (wi (x5 + 1))), some (vI (wi ((wj (r_2.tdiv 65536)).tmod 8)))]) dX9_passByDraws_93 rfl (by decide) rfl rfl ?_
            refine E_goto (tgt := 6) dX9_passByDraws_96 (by decide) ?_
            refine E_wk2 [some (vR 9 o0), none, some (vI x2), some (vL r_2), none, some (vI (wi (x5 + 1))), none] ⟨rfl, ⟨rfl, ⟨rfl, ⟨rfl, trivial⟩⟩⟩⟩ ?_
            exact hR _ _ _ h
          · have h := Eq.mp (if_pos hc) h
            refine E_aload_n dX9_passByDraws_80 rfl rfl ?_
            refine E_callV (Y' := Y_X9_passDay) (as := []) (st := []) dX9_passByDraws_81 lk_RX9_145 m_X9_passDay (by decide) (Nat.le_refl _) (Nat.le_refl _) rfl rfl (Nat.le_of_ble_eq_true rfl) (s_X9_passDay h) (fun r0 B0 σ_5 h => ?_)
            obtain ⟨r_6, rfl, rfl, h⟩ := h
            refine E_pop dX9_passByDraws_84 (fun _ q => by cases q) ?_
            refine E_goto (tgt := 93) dX9_passByDraws_85 (by decide) ?_
            refine E_iinc (ls' := [some (vR 9 o0), none, some (vI x2), some (vL r_2), none, some (vI (wi (x5 + 1))), some (vI (wi ((wj (r_2.tdiv 65536)).tmod 8)))]) dX9_passByDraws_93 rfl (by decide) rfl rfl ?_
            refine E_goto (tgt := 6) dX9_passByDraws_96 (by decide) ?_
            refine E_wk2 [some (vR 9 o0), none, some (vI x2), some (vL r_2), none, some (vI (wi (x5 + 1))), none] ⟨rfl, ⟨rfl, ⟨rfl, ⟨rfl, trivial⟩⟩⟩⟩ ?_
            exact hR _ _ _ h
        · have h := Eq.mp (if_neg hc) h
          refine E_lload_n dX9_passByDraws_45 rfl rfl ?_
          refine E_callS (Y' := Y_X9_draw) (as := [vL r_2]) (st := []) dX9_passByDraws_46 lk_RX9_134 m_X9_draw (by decide) (Nat.le_refl _) (Nat.le_refl _) rfl rfl (Nat.le_of_ble_eq_true rfl) (s_X9_draw h) (fun r0 B0 σ_7 h => ?_)
          obtain ⟨r_8, rfl, rfl, h⟩ := h
          refine E_lstore_n (ls' := [some (vR 9 o0), none, some (vI x2), some (vL r_8), none, some (vI x5), some (vI (wi ((wj (r_2.tdiv 65536)).tmod 8)))]) dX9_passByDraws_49 rfl (by decide) rfl ?_
          refine E_aload_n dX9_passByDraws_50 rfl rfl ?_
          refine E_lload_n dX9_passByDraws_51 rfl rfl ?_
          refine E_ldc2 (z := 65536) dX9_passByDraws_52 kl_RX9_138 (by decide) ?_
          refine E_ldiv dX9_passByDraws_55 (by decide) ?_
          refine E_aload_n dX9_passByDraws_56 rfl rfl ?_
          refine E_getr (i := o0) dX9_passByDraws_57 fl_RX9_49 rfl rfl (go_9_0 _ _) ?_
          refine E_geti (i := 0) dX9_passByDraws_60 fl_RX9_59 rfl ?_
          refine E_i2l dX9_passByDraws_63 ?_
          obtain ⟨hg0, h⟩ := h
          refine E_lrem dX9_passByDraws_64 hg0 ?_
          refine E_l2i dX9_passByDraws_65 ?_
          refine E_callV (Y' := Y_X9_sendOff) (as := [vI (wi ((wj (r_8.tdiv 65536)).tmod (σ_7 8 0 11)))]) (st := []) dX9_passByDraws_66 lk_RX9_142 m_X9_sendOff (by decide) (Nat.le_refl _) (Nat.le_refl _) rfl rfl (Nat.le_of_ble_eq_true rfl) (s_X9_sendOff h) (fun r0 B0 σ_9 h => ?_)
          obtain ⟨r_10, rfl, rfl, h⟩ := h
          refine E_pop dX9_passByDraws_69 (fun _ q => by cases q) ?_
          refine E_goto (tgt := 93) dX9_passByDraws_70 (by decide) ?_
          refine E_iinc (ls' := [some (vR 9 o0), none, some (vI x2), some (vL r_8), none, some (vI (wi (x5 + 1))), some (vI (wi ((wj (r_2.tdiv 65536)).tmod 8)))]) dX9_passByDraws_93 rfl (by decide) rfl rfl ?_
          refine E_goto (tgt := 6) dX9_passByDraws_96 (by decide) ?_
          refine E_wk2 [some (vR 9 o0), none, some (vI x2), some (vL r_8), none, some (vI (wi (x5 + 1))), none] ⟨rfl, ⟨rfl, ⟨rfl, ⟨rfl, trivial⟩⟩⟩⟩ ?_
          exact hR _ _ _ h
def P_X9_passByDraws  (o0 : Nat) (x1 : Int) (x2 : Int) (σ : St) (Q : St → Prop) : Prop :=
  P_X9_passByDraws_L6 o0 x2 Q FU x1 0 σ
set_option maxRecDepth 20000 in
set_option maxHeartbeats 2000000 in
theorem s_X9_passByDraws   {o0 : Nat} {x1 : Int} {x2 : Int} {σ : St} {Q : St → Prop} (h : P_X9_passByDraws o0 x1 x2 σ Q) : Cn Y_X9_passByDraws 6 0 0 ww σ [vR 9 o0, vI x1, vI x2] (QV Q) := by
  refine Cn_of [some (vR 9 o0), some (vI x1), some (vI x2), none, none, none, none] (by decide) (Nat.le_of_ble_eq_true rfl) rfl ?_
  unfold P_X9_passByDraws at h
  refine E_iload_n dX9_passByDraws_0 rfl rfl ?_
  refine E_i2l dX9_passByDraws_1 ?_
  refine E_lstore_n (ls' := [some (vR 9 o0), some (vI x1), some (vI x2), some (vL x1), none, none, none]) dX9_passByDraws_2 rfl (by decide) rfl ?_
  refine E_ic dX9_passByDraws_3 rfl ?_
  refine E_istore (ls' := [some (vR 9 o0), some (vI x1), some (vI x2), some (vL x1), none, some (vI 0), none]) dX9_passByDraws_4 (by decide) rfl ?_
  refine E_wk2 [some (vR 9 o0), none, some (vI x2), some (vL x1), none, some (vI 0), none] ⟨rfl, ⟨rfl, ⟨rfl, ⟨rfl, trivial⟩⟩⟩⟩ ?_
  refine e_P_X9_passByDraws_L6  _ _ _ _ h
abbrev Y_X10_addBytes : My := (yX10_addBytes, cX10_addBytes, 6, none)
theorem dX10_addBytes_0 : decode cX10_addBytes 0 = .ok (.bipush 56, 2) := by decide +kernel
theorem dX10_addBytes_2 : decode cX10_addBytes 2 = .ok (.istore_n 3, 1) := by decide +kernel
theorem dX10_addBytes_3 : decode cX10_addBytes 3 = .ok (.iload_n 3, 1) := by decide +kernel
theorem dX10_addBytes_4 : decode cX10_addBytes 4 = .ok (.ifCond .lt 82, 3) := by decide +kernel
theorem dX10_addBytes_7 : decode cX10_addBytes 7 = .ok (.lload_n 1, 1) := by decide +kernel
theorem dX10_addBytes_8 : decode cX10_addBytes 8 = .ok (.iload_n 3, 1) := by decide +kernel
theorem dX10_addBytes_9 : decode cX10_addBytes 9 = .ok (.lushr, 1) := by decide +kernel
theorem dX10_addBytes_10 : decode cX10_addBytes 10 = .ok (.l2i, 1) := by decide +kernel
theorem dX10_addBytes_11 : decode cX10_addBytes 11 = .ok (.sipush 255, 3) := by decide +kernel
theorem dX10_addBytes_14 : decode cX10_addBytes 14 = .ok (.iand, 1) := by decide +kernel
theorem dX10_addBytes_15 : decode cX10_addBytes 15 = .ok (.istore 4, 2) := by decide +kernel
theorem dX10_addBytes_17 : decode cX10_addBytes 17 = .ok (.iload 4, 2) := by decide +kernel
theorem dX10_addBytes_19 : decode cX10_addBytes 19 = .ok (.bipush 10, 2) := by decide +kernel
theorem dX10_addBytes_21 : decode cX10_addBytes 21 = .ok (.if_icmp .eq 15, 3) := by decide +kernel
theorem dX10_addBytes_24 : decode cX10_addBytes 24 = .ok (.iload 4, 2) := by decide +kernel
theorem dX10_addBytes_26 : decode cX10_addBytes 26 = .ok (.bipush 32, 2) := by decide +kernel
theorem dX10_addBytes_28 : decode cX10_addBytes 28 = .ok (.bipush 126, 2) := by decide +kernel
theorem dX10_addBytes_30 : decode cX10_addBytes 30 = .ok (.invokestatic 36, 3) := by decide +kernel
theorem dX10_addBytes_33 : decode cX10_addBytes 33 = .ok (.ifCond .eq 7, 3) := by decide +kernel
theorem dX10_addBytes_36 : decode cX10_addBytes 36 = .ok (.iconst 1, 1) := by decide +kernel
theorem dX10_addBytes_37 : decode cX10_addBytes 37 = .ok (.goto 4, 3) := by decide +kernel
theorem dX10_addBytes_40 : decode cX10_addBytes 40 = .ok (.iconst 0, 1) := by decide +kernel
theorem dX10_addBytes_41 : decode cX10_addBytes 41 = .ok (.istore 5, 2) := by decide +kernel
theorem dX10_addBytes_43 : decode cX10_addBytes 43 = .ok (.iload 5, 2) := by decide +kernel
theorem dX10_addBytes_45 : decode cX10_addBytes 45 = .ok (.ifCond .eq 35, 3) := by decide +kernel
theorem dX10_addBytes_48 : decode cX10_addBytes 48 = .ok (.aload_n 0, 1) := by decide +kernel
theorem dX10_addBytes_49 : decode cX10_addBytes 49 = .ok (.getfield 26, 3) := by decide +kernel
theorem dX10_addBytes_52 : decode cX10_addBytes 52 = .ok (.sipush 1000, 3) := by decide +kernel
theorem dX10_addBytes_55 : decode cX10_addBytes 55 = .ok (.if_icmp .ge 25, 3) := by decide +kernel
theorem dX10_addBytes_58 : decode cX10_addBytes 58 = .ok (.aload_n 0, 1) := by decide +kernel
theorem dX10_addBytes_59 : decode cX10_addBytes 59 = .ok (.getfield 9, 3) := by decide +kernel
theorem dX10_addBytes_62 : decode cX10_addBytes 62 = .ok (.aload_n 0, 1) := by decide +kernel
theorem dX10_addBytes_63 : decode cX10_addBytes 63 = .ok (.getfield 26, 3) := by decide +kernel
theorem dX10_addBytes_66 : decode cX10_addBytes 66 = .ok (.iload 4, 2) := by decide +kernel
theorem dX10_addBytes_68 : decode cX10_addBytes 68 = .ok (.i2c, 1) := by decide +kernel
theorem dX10_addBytes_69 : decode cX10_addBytes 69 = .ok (.castore, 1) := by decide +kernel
theorem dX10_addBytes_70 : decode cX10_addBytes 70 = .ok (.aload_n 0, 1) := by decide +kernel
theorem dX10_addBytes_71 : decode cX10_addBytes 71 = .ok (.dup, 1) := by decide +kernel
theorem dX10_addBytes_72 : decode cX10_addBytes 72 = .ok (.getfield 26, 3) := by decide +kernel
theorem dX10_addBytes_75 : decode cX10_addBytes 75 = .ok (.iconst 1, 1) := by decide +kernel
theorem dX10_addBytes_76 : decode cX10_addBytes 76 = .ok (.iadd, 1) := by decide +kernel
theorem dX10_addBytes_77 : decode cX10_addBytes 77 = .ok (.putfield 26, 3) := by decide +kernel
theorem dX10_addBytes_80 : decode cX10_addBytes 80 = .ok (.iinc 3 (-8), 3) := by decide +kernel
theorem dX10_addBytes_83 : decode cX10_addBytes 83 = .ok (.goto (-80), 3) := by decide +kernel
theorem dX10_addBytes_86 : decode cX10_addBytes 86 = .ok (.return_, 1) := by decide +kernel
theorem fl_RX10_26 : FL RX10 26 10 4 := ⟨inG (i := 141) (by decide +kernel) (by decide +kernel), by decide, by decide⟩
theorem fl_RX10_9 : FL RX10 9 10 0 := ⟨inG (i := 137) (by decide +kernel) (by decide +kernel), by decide, by decide⟩
theorem go_10_0 (σ : St) (i : Nat) : go σ 10 i 0 = (1100, i) := rfl
theorem nk_RX10_36 : Cond.methodLinkNest RX10 36 yX11_within RX11 ∈ nestW := List.mem_filter.mpr ⟨List.mem_of_getElem? (i := 522) (by decide +kernel), rfl⟩
theorem sh_1100 : shp 1100 = (3, 1000) := rfl
def P_X10_addBytes_J41  (x1 : Int) (x3 : Int) (x4 : Int) (y0 : Int) (R : Int → St → Prop) (Q : St → Prop) (σ : St) : Prop :=
  (if y0 = 0 then R (wi (x3 + (-8))) σ else (if 1000 ≤ (σ 10 0 4) then R (wi (x3 + (-8))) σ else 0 ≤ σ 10 0 4 ∧ σ 10 0 4 < 1000 ∧ 0 ≤ ic x4 ∧ ic x4 < 65536 ∧ R (wi (x3 + (-8))) (up (up σ 1100 0 (σ 10 0 4) (ic x4)) 10 0 4 (wi (((up σ 1100 0 (σ 10 0 4) (ic x4)) 10 0 4) + 1)))))
set_option maxRecDepth 20000 in
set_option maxHeartbeats 2000000 in
theorem e_P_X10_addBytes_J41  {x1 : Int} {x3 : Int} {x4 : Int} {y0 : Int} {R : Int → St → Prop} {Q : St → Prop} {σ : St}  (hR : ∀ x3 σ, R x3 σ → E Y_X10_addBytes 1 0 0 (QV Q) ww 0 0 3 [some (vR 10 0), some (vL x1), none, some (vI x3), none, none] [] σ) (h : P_X10_addBytes_J41 x1 x3 x4 y0 R Q σ) : E Y_X10_addBytes 1 0 0 (QV Q) ww 0 0 41 [some (vR 10 0), some (vL x1), none, some (vI x3), some (vI x4), none] [vI y0] σ := by
  unfold P_X10_addBytes_J41 at h
  refine E_istore (ls' := [some (vR 10 0), some (vL x1), none, some (vI x3), some (vI x4), some (vI y0)]) dX10_addBytes_41 (by decide) rfl ?_
  refine E_iload dX10_addBytes_43 rfl ?_
  refine E_if_eq (tgt := 80) dX10_addBytes_45 (by decide) (fun hc => ?_) (fun hc => ?_)
  · have h := Eq.mp (if_pos hc) h
    refine E_iinc (ls' := [some (vR 10 0), some (vL x1), none, some (vI (wi (x3 + (-8)))), some (vI x4), some (vI y0)]) dX10_addBytes_80 rfl (by decide) rfl rfl ?_
    refine E_goto (tgt := 3) dX10_addBytes_83 (by decide) ?_
    refine E_wk2 [some (vR 10 0), some (vL x1), none, some (vI (wi (x3 + (-8)))), none, none] ⟨rfl, ⟨rfl, ⟨rfl, trivial⟩⟩⟩ ?_
    exact hR _ _ h
  · have h := Eq.mp (if_neg hc) h
    refine E_aload_n dX10_addBytes_48 rfl rfl ?_
    refine E_geti (i := 0) dX10_addBytes_49 fl_RX10_26 rfl ?_
    refine E_sp dX10_addBytes_52 rfl ?_
    refine E_icmp_ge (tgt := 80) dX10_addBytes_55 (by decide) (fun hc => ?_) (fun hc => ?_)
    · have h := Eq.mp (if_pos hc) h
      refine E_iinc (ls' := [some (vR 10 0), some (vL x1), none, some (vI (wi (x3 + (-8)))), some (vI x4), some (vI y0)]) dX10_addBytes_80 rfl (by decide) rfl rfl ?_
      refine E_goto (tgt := 3) dX10_addBytes_83 (by decide) ?_
      refine E_wk2 [some (vR 10 0), some (vL x1), none, some (vI (wi (x3 + (-8)))), none, none] ⟨rfl, ⟨rfl, ⟨rfl, trivial⟩⟩⟩ ?_
      exact hR _ _ h
    · have h := Eq.mp (if_neg hc) h
      refine E_aload_n dX10_addBytes_58 rfl rfl ?_
      refine E_getr (i := 0) dX10_addBytes_59 fl_RX10_9 rfl rfl (go_10_0 _ _) ?_
      refine E_aload_n dX10_addBytes_62 rfl rfl ?_
      refine E_geti (i := 0) dX10_addBytes_63 fl_RX10_26 rfl ?_
      refine E_iload dX10_addBytes_66 rfl ?_
      refine E_i2c dX10_addBytes_68 ?_
      obtain ⟨hg0, hg1, hg2, hg3, h⟩ := h
      refine E_cast dX10_addBytes_69 sh_1100 hg0 hg1 hg2 hg3 ?_
      refine E_aload_n dX10_addBytes_70 rfl rfl ?_
      refine E_dup dX10_addBytes_71 (fun _ q => by cases q) ?_
      refine E_geti (i := 0) dX10_addBytes_72 fl_RX10_26 rfl ?_
      refine E_ic dX10_addBytes_75 rfl ?_
      refine E_iadd dX10_addBytes_76 ?_
      refine E_puti dX10_addBytes_77 fl_RX10_26 rfl rfl rfl ?_
      refine E_iinc (ls' := [some (vR 10 0), some (vL x1), none, some (vI (wi (x3 + (-8)))), some (vI x4), some (vI y0)]) dX10_addBytes_80 rfl (by decide) rfl rfl ?_
      refine E_goto (tgt := 3) dX10_addBytes_83 (by decide) ?_
      refine E_wk2 [some (vR 10 0), some (vL x1), none, some (vI (wi (x3 + (-8)))), none, none] ⟨rfl, ⟨rfl, ⟨rfl, trivial⟩⟩⟩ ?_
      exact hR _ _ h
def P_X10_addBytes_J36  (x1 : Int) (x3 : Int) (x4 : Int) (R : Int → St → Prop) (Q : St → Prop) (σ : St) : Prop :=
  P_X10_addBytes_J41 x1 x3 x4 1 R Q σ
set_option maxRecDepth 20000 in
set_option maxHeartbeats 2000000 in
theorem e_P_X10_addBytes_J36  {x1 : Int} {x3 : Int} {x4 : Int} {R : Int → St → Prop} {Q : St → Prop} {σ : St}  (hR : ∀ x3 σ, R x3 σ → E Y_X10_addBytes 1 0 0 (QV Q) ww 0 0 3 [some (vR 10 0), some (vL x1), none, some (vI x3), none, none] [] σ) (h : P_X10_addBytes_J36 x1 x3 x4 R Q σ) : E Y_X10_addBytes 1 0 0 (QV Q) ww 0 0 36 [some (vR 10 0), some (vL x1), none, some (vI x3), some (vI x4), none] [] σ := by
  unfold P_X10_addBytes_J36 at h
  refine E_ic dX10_addBytes_36 rfl ?_
  refine E_goto (tgt := 41) dX10_addBytes_37 (by decide) ?_
  exact e_P_X10_addBytes_J41 hR h
def P_X10_addBytes_L3  (x1 : Int)  (Q : St → Prop) : Nat → Int → St → Prop
  | 0, _, _ => False
  | n + 1, x3, σ => (if x3 < 0 then Q σ else (if (bA (wi (lU x1 x3)) 255) = 10 then P_X10_addBytes_J36 x1 x3 (bA (wi (lU x1 x3)) 255) (P_X10_addBytes_L3 x1 Q n) Q σ else P_X11_within (bA (wi (lU x1 x3)) 255) 32 126 σ (fun r_2 σ_1 => (if r_2 = 0 then P_X10_addBytes_J41 x1 x3 (bA (wi (lU x1 x3)) 255) 0 (P_X10_addBytes_L3 x1 Q n) Q σ_1 else P_X10_addBytes_J36 x1 x3 (bA (wi (lU x1 x3)) 255) (P_X10_addBytes_L3 x1 Q n) Q σ_1))))
set_option maxRecDepth 20000 in
set_option maxHeartbeats 2000000 in
theorem e_P_X10_addBytes_L3  {x1 : Int}  {Q : St → Prop}   : ∀ (n : Nat) (x3 : Int) (σ : St), P_X10_addBytes_L3 x1 Q n x3 σ → E Y_X10_addBytes 1 0 0 (QV Q) ww 0 0 3 [some (vR 10 0), some (vL x1), none, some (vI x3), none, none] [] σ := by
  intro n
  induction n with
  | zero => intro x3 σ h; exact h.elim
  | succ n hR =>
    intro x3 σ h
    unfold P_X10_addBytes_L3 at h
    refine E_iload_n dX10_addBytes_3 rfl rfl ?_
    refine E_if_lt (tgt := 86) dX10_addBytes_4 (by decide) (fun hc => ?_) (fun hc => ?_)
    · have h := Eq.mp (if_pos hc) h
      exact E_vret dX10_addBytes_86 rfl ⟨rfl, rfl, h⟩
    · have h := Eq.mp (if_neg hc) h
      refine E_lload_n dX10_addBytes_7 rfl rfl ?_
      refine E_iload_n dX10_addBytes_8 rfl rfl ?_
      refine E_lushr dX10_addBytes_9 ?_
      refine E_l2i dX10_addBytes_10 ?_
      refine E_sp dX10_addBytes_11 rfl ?_
      refine E_iand dX10_addBytes_14 ?_
      refine E_istore (ls' := [some (vR 10 0), some (vL x1), none, some (vI x3), some (vI (bA (wi (lU x1 x3)) 255)), none]) dX10_addBytes_15 (by decide) rfl ?_
      refine E_iload dX10_addBytes_17 rfl ?_
      refine E_bp dX10_addBytes_19 rfl ?_
      refine E_icmp_eq (tgt := 36) dX10_addBytes_21 (by decide) (fun hc => ?_) (fun hc => ?_)
      · have h := Eq.mp (if_pos hc) h
        exact e_P_X10_addBytes_J36 hR h
      · have h := Eq.mp (if_neg hc) h
        refine E_iload dX10_addBytes_24 rfl ?_
        refine E_bp dX10_addBytes_26 rfl ?_
        refine E_bp dX10_addBytes_28 rfl ?_
        refine E_callN (Y' := Y_X11_within) (as := [vI (bA (wi (lU x1 x3)) 255), vI 32, vI 126]) (st := []) dX10_addBytes_30 nk_RX10_36 m_X11_within (by decide) (Nat.le_refl _) (Nat.le_refl _) rfl rfl (Nat.le_of_ble_eq_true rfl) (s_X11_within h) (fun r0 B0 σ_1 h => ?_)
        obtain ⟨r_2, rfl, rfl, h⟩ := h
        refine E_if_eq (tgt := 40) dX10_addBytes_33 (by decide) (fun hc => ?_) (fun hc => ?_)
        · have h := Eq.mp (if_pos hc) h
          refine E_ic dX10_addBytes_40 rfl ?_
          exact e_P_X10_addBytes_J41 hR h
        · have h := Eq.mp (if_neg hc) h
          exact e_P_X10_addBytes_J36 hR h
def P_X10_addBytes  (x1 : Int) (σ : St) (Q : St → Prop) : Prop :=
  P_X10_addBytes_L3 x1 Q FU 56 σ
set_option maxRecDepth 20000 in
set_option maxHeartbeats 2000000 in
theorem s_X10_addBytes   {x1 : Int} {σ : St} {Q : St → Prop} (h : P_X10_addBytes x1 σ Q) : Cn Y_X10_addBytes 1 0 0 ww σ [vR 10 0, vL x1] (QV Q) := by
  refine Cn_of [some (vR 10 0), some (vL x1), none, none, none, none] (by decide) (Nat.le_of_ble_eq_true rfl) rfl ?_
  unfold P_X10_addBytes at h
  refine E_bp dX10_addBytes_0 rfl ?_
  refine E_istore_n (ls' := [some (vR 10 0), some (vL x1), none, some (vI 56), none, none]) dX10_addBytes_2 rfl (by decide) rfl ?_
  refine e_P_X10_addBytes_L3  _ _ _ h
abbrev Y_X10_cutWord : My := (yX10_cutWord, cX10_cutWord, 6, some .int)
theorem dX10_cutWord_0 : decode cX10_cutWord 0 = .ok (.lconst 0, 1) := by decide +kernel
theorem dX10_cutWord_1 : decode cX10_cutWord 1 = .ok (.lstore_n 3, 1) := by decide +kernel
theorem dX10_cutWord_2 : decode cX10_cutWord 2 = .ok (.iload_n 2, 1) := by decide +kernel
theorem dX10_cutWord_3 : decode cX10_cutWord 3 = .ok (.istore 5, 2) := by decide +kernel
theorem dX10_cutWord_5 : decode cX10_cutWord 5 = .ok (.iload 5, 2) := by decide +kernel
theorem dX10_cutWord_7 : decode cX10_cutWord 7 = .ok (.aload_n 0, 1) := by decide +kernel
theorem dX10_cutWord_8 : decode cX10_cutWord 8 = .ok (.getfield 26, 3) := by decide +kernel
theorem dX10_cutWord_11 : decode cX10_cutWord 11 = .ok (.if_icmp .ge 38, 3) := by decide +kernel
theorem dX10_cutWord_14 : decode cX10_cutWord 14 = .ok (.aload_n 0, 1) := by decide +kernel
theorem dX10_cutWord_15 : decode cX10_cutWord 15 = .ok (.getfield 9, 3) := by decide +kernel
theorem dX10_cutWord_18 : decode cX10_cutWord 18 = .ok (.iload 5, 2) := by decide +kernel
theorem dX10_cutWord_20 : decode cX10_cutWord 20 = .ok (.caload, 1) := by decide +kernel
theorem dX10_cutWord_21 : decode cX10_cutWord 21 = .ok (.bipush 97, 2) := by decide +kernel
theorem dX10_cutWord_23 : decode cX10_cutWord 23 = .ok (.bipush 122, 2) := by decide +kernel
theorem dX10_cutWord_25 : decode cX10_cutWord 25 = .ok (.invokestatic 36, 3) := by decide +kernel
theorem dX10_cutWord_28 : decode cX10_cutWord 28 = .ok (.ifCond .eq 21, 3) := by decide +kernel
theorem dX10_cutWord_31 : decode cX10_cutWord 31 = .ok (.lload_n 3, 1) := by decide +kernel
theorem dX10_cutWord_32 : decode cX10_cutWord 32 = .ok (.aload_n 0, 1) := by decide +kernel
theorem dX10_cutWord_33 : decode cX10_cutWord 33 = .ok (.getfield 9, 3) := by decide +kernel
theorem dX10_cutWord_36 : decode cX10_cutWord 36 = .ok (.iload 5, 2) := by decide +kernel
theorem dX10_cutWord_38 : decode cX10_cutWord 38 = .ok (.caload, 1) := by decide +kernel
theorem dX10_cutWord_39 : decode cX10_cutWord 39 = .ok (.invokestatic 62, 3) := by decide +kernel
theorem dX10_cutWord_42 : decode cX10_cutWord 42 = .ok (.lstore_n 3, 1) := by decide +kernel
theorem dX10_cutWord_43 : decode cX10_cutWord 43 = .ok (.iinc 5 1, 3) := by decide +kernel
theorem dX10_cutWord_46 : decode cX10_cutWord 46 = .ok (.goto (-41), 3) := by decide +kernel
theorem dX10_cutWord_49 : decode cX10_cutWord 49 = .ok (.aload_n 0, 1) := by decide +kernel
theorem dX10_cutWord_50 : decode cX10_cutWord 50 = .ok (.iload_n 1, 1) := by decide +kernel
theorem dX10_cutWord_51 : decode cX10_cutWord 51 = .ok (.iload 5, 2) := by decide +kernel
theorem dX10_cutWord_53 : decode cX10_cutWord 53 = .ok (.iload_n 2, 1) := by decide +kernel
theorem dX10_cutWord_54 : decode cX10_cutWord 54 = .ok (.isub, 1) := by decide +kernel
theorem dX10_cutWord_55 : decode cX10_cutWord 55 = .ok (.bipush 8, 2) := by decide +kernel
theorem dX10_cutWord_57 : decode cX10_cutWord 57 = .ok (.if_icmp .gt 7, 3) := by decide +kernel
theorem dX10_cutWord_60 : decode cX10_cutWord 60 = .ok (.iconst 2, 1) := by decide +kernel
theorem dX10_cutWord_61 : decode cX10_cutWord 61 = .ok (.goto 4, 3) := by decide +kernel
theorem dX10_cutWord_64 : decode cX10_cutWord 64 = .ok (.iconst 1, 1) := by decide +kernel
theorem dX10_cutWord_65 : decode cX10_cutWord 65 = .ok (.iload_n 2, 1) := by decide +kernel
theorem dX10_cutWord_66 : decode cX10_cutWord 66 = .ok (.lload_n 3, 1) := by decide +kernel
theorem dX10_cutWord_67 : decode cX10_cutWord 67 = .ok (.invokevirtual 44, 3) := by decide +kernel
theorem dX10_cutWord_70 : decode cX10_cutWord 70 = .ok (.iload 5, 2) := by decide +kernel
theorem dX10_cutWord_72 : decode cX10_cutWord 72 = .ok (.ireturn, 1) := by decide +kernel
theorem lk_RX10_44 : Cond.methodLink RX10 44 yX10_put ∈ tG := inG (i := 554) (by decide +kernel) (by decide +kernel)
theorem m_X10_put : MV Y_X10_put 4 10 := ⟨⟨inG (i := 557) (by decide +kernel) (by decide +kernel), inG (i := 99) (by decide +kernel) (by decide +kernel), by decide, by decide, by decide, by decide +kernel⟩, inG (i := 556) (by decide +kernel) (by decide +kernel), inG (i := 2) (by decide +kernel) (by decide +kernel), by decide⟩
def P_X10_cutWord_L5  (x1 : Int) (x2 : Int) (K : Int → Int → St → Prop) (Q : Int → St → Prop) : Nat → Int → Int → St → Prop
  | 0, _, _, _ => False
  | n + 1, x3, x5, σ => (if (σ 10 0 4) ≤ x5 then K x3 x5 σ else 0 ≤ x5 ∧ x5 < 1000 ∧ P_X11_within (σ 1100 0 x5) 97 122 σ (fun r_2 σ_1 => (if r_2 = 0 then K x3 x5 σ_1 else 0 ≤ x5 ∧ x5 < 1000 ∧ P_X10_longer x3 (σ_1 1100 0 x5) σ_1 (fun r_4 σ_3 => (P_X10_cutWord_L5 x1 x2 K Q n) r_4 (wi (x5 + 1)) σ_3))))
set_option maxRecDepth 20000 in
set_option maxHeartbeats 2000000 in
theorem e_P_X10_cutWord_L5  {x1 : Int} {x2 : Int} {K : Int → Int → St → Prop} {Q : Int → St → Prop}  (hK : ∀ x3 x5 σ, K x3 x5 σ → E Y_X10_cutWord 1 0 0 (QI Q) ww 0 0 49 [some (vR 10 0), some (vI x1), some (vI x2), some (vL x3), none, some (vI x5)] [] σ) : ∀ (n : Nat) (x3 : Int) (x5 : Int) (σ : St), P_X10_cutWord_L5 x1 x2 K Q n x3 x5 σ → E Y_X10_cutWord 1 0 0 (QI Q) ww 0 0 5 [some (vR 10 0), some (vI x1), some (vI x2), some (vL x3), none, some (vI x5)] [] σ := by
  intro n
  induction n with
  | zero => intro x3 x5 σ h; exact h.elim
  | succ n hR =>
    intro x3 x5 σ h
    unfold P_X10_cutWord_L5 at h
    refine E_iload dX10_cutWord_5 rfl ?_
    refine E_aload_n dX10_cutWord_7 rfl rfl ?_
    refine E_geti (i := 0) dX10_cutWord_8 fl_RX10_26 rfl ?_
    refine E_icmp_ge (tgt := 49) dX10_cutWord_11 (by decide) (fun hc => ?_) (fun hc => ?_)
    · have h := Eq.mp (if_pos hc) h
      exact hK _ _ _ h
    · have h := Eq.mp (if_neg hc) h
      refine E_aload_n dX10_cutWord_14 rfl rfl ?_
      refine E_getr (i := 0) dX10_cutWord_15 fl_RX10_9 rfl rfl (go_10_0 _ _) ?_
      refine E_iload dX10_cutWord_18 rfl ?_
      obtain ⟨hg0, hg1, h⟩ := h
      refine E_cald dX10_cutWord_20 sh_1100 hg0 hg1 ?_
      refine E_bp dX10_cutWord_21 rfl ?_
      refine E_bp dX10_cutWord_23 rfl ?_
      refine E_callN (Y' := Y_X11_within) (as := [vI (σ 1100 0 x5), vI 97, vI 122]) (st := []) dX10_cutWord_25 nk_RX10_36 m_X11_within (by decide) (Nat.le_refl _) (Nat.le_refl _) rfl rfl (Nat.le_of_ble_eq_true rfl) (s_X11_within h) (fun r0 B0 σ_1 h => ?_)
      obtain ⟨r_2, rfl, rfl, h⟩ := h
      refine E_if_eq (tgt := 49) dX10_cutWord_28 (by decide) (fun hc => ?_) (fun hc => ?_)
      · have h := Eq.mp (if_pos hc) h
        exact hK _ _ _ h
      · have h := Eq.mp (if_neg hc) h
        refine E_lload_n dX10_cutWord_31 rfl rfl ?_
        refine E_aload_n dX10_cutWord_32 rfl rfl ?_
        refine E_getr (i := 0) dX10_cutWord_33 fl_RX10_9 rfl rfl (go_10_0 _ _) ?_
        refine E_iload dX10_cutWord_36 rfl ?_
        obtain ⟨hg0, hg1, h⟩ := h
        refine E_cald dX10_cutWord_38 sh_1100 hg0 hg1 ?_
        refine E_callS (Y' := Y_X10_longer) (as := [vL x3, vI (σ_1 1100 0 x5)]) (st := []) dX10_cutWord_39 lk_RX10_62 m_X10_longer (by decide) (Nat.le_refl _) (Nat.le_refl _) rfl rfl (Nat.le_of_ble_eq_true rfl) (s_X10_longer h) (fun r0 B0 σ_3 h => ?_)
        obtain ⟨r_4, rfl, rfl, h⟩ := h
        refine E_lstore_n (ls' := [some (vR 10 0), some (vI x1), some (vI x2), some (vL r_4), none, some (vI x5)]) dX10_cutWord_42 rfl (by decide) rfl ?_
        refine E_iinc (ls' := [some (vR 10 0), some (vI x1), some (vI x2), some (vL r_4), none, some (vI (wi (x5 + 1)))]) dX10_cutWord_43 rfl (by decide) rfl rfl ?_
        refine E_goto (tgt := 5) dX10_cutWord_46 (by decide) ?_
        exact hR _ _ _ h
def P_X10_cutWord_J65  (x2 : Int) (x3 : Int) (x5 : Int) (y0 : Int) (y1 : Int)  (Q : Int → St → Prop) (σ : St) : Prop :=
  P_X10_put y1 y0 x2 x3 σ (fun σ_8 => Q x5 σ_8)
set_option maxRecDepth 20000 in
set_option maxHeartbeats 2000000 in
theorem e_P_X10_cutWord_J65  {x2 : Int} {x3 : Int} {x5 : Int} {y0 : Int} {y1 : Int}  {Q : Int → St → Prop} {σ : St}   (h : P_X10_cutWord_J65 x2 x3 x5 y0 y1 Q σ) : E Y_X10_cutWord 1 0 0 (QI Q) ww 0 0 65 [none, none, some (vI x2), some (vL x3), none, some (vI x5)] [vI y0, vI y1, vR 10 0] σ := by
  unfold P_X10_cutWord_J65 at h
  refine E_iload_n dX10_cutWord_65 rfl rfl ?_
  refine E_lload_n dX10_cutWord_66 rfl rfl ?_
  refine E_callV (Y' := Y_X10_put) (as := [vI y1, vI y0, vI x2, vL x3]) (st := []) dX10_cutWord_67 lk_RX10_44 m_X10_put (by decide) (Nat.le_refl _) (Nat.le_refl _) rfl rfl (Nat.le_of_ble_eq_true rfl) (s_X10_put h) (fun r0 B0 σ_8 h => ?_)
  obtain ⟨rfl, rfl, h⟩ := h
  refine E_iload dX10_cutWord_70 rfl ?_
  exact E_iret dX10_cutWord_72 rfl ⟨_, rfl, rfl, h⟩
def P_X10_cutWord_J49  (x1 : Int) (x2 : Int) (x3 : Int) (x5 : Int)  (Q : Int → St → Prop) (σ : St) : Prop :=
  (if 8 < (wi (x5 - x2)) then P_X10_cutWord_J65 x2 x3 x5 1 x1 Q σ else P_X10_cutWord_J65 x2 x3 x5 2 x1 Q σ)
set_option maxRecDepth 20000 in
set_option maxHeartbeats 2000000 in
theorem e_P_X10_cutWord_J49  {x1 : Int} {x2 : Int} {x3 : Int} {x5 : Int}  {Q : Int → St → Prop} {σ : St}   (h : P_X10_cutWord_J49 x1 x2 x3 x5 Q σ) : E Y_X10_cutWord 1 0 0 (QI Q) ww 0 0 49 [some (vR 10 0), some (vI x1), some (vI x2), some (vL x3), none, some (vI x5)] [] σ := by
  unfold P_X10_cutWord_J49 at h
  refine E_aload_n dX10_cutWord_49 rfl rfl ?_
  refine E_iload_n dX10_cutWord_50 rfl rfl ?_
  refine E_iload dX10_cutWord_51 rfl ?_
  refine E_iload_n dX10_cutWord_53 rfl rfl ?_
  refine E_isub dX10_cutWord_54 ?_
  refine E_bp dX10_cutWord_55 rfl ?_
  refine E_icmp_gt (tgt := 64) dX10_cutWord_57 (by decide) (fun hc => ?_) (fun hc => ?_)
  · have h := Eq.mp (if_pos hc) h
    refine E_ic dX10_cutWord_64 rfl ?_
    refine E_wk2 [none, none, some (vI x2), some (vL x3), none, some (vI x5)] ⟨rfl, ⟨rfl, ⟨rfl, trivial⟩⟩⟩ ?_
    exact e_P_X10_cutWord_J65 h
  · have h := Eq.mp (if_neg hc) h
    refine E_ic dX10_cutWord_60 rfl ?_
    refine E_goto (tgt := 65) dX10_cutWord_61 (by decide) ?_
    refine E_wk2 [none, none, some (vI x2), some (vL x3), none, some (vI x5)] ⟨rfl, ⟨rfl, ⟨rfl, trivial⟩⟩⟩ ?_
    exact e_P_X10_cutWord_J65 h
def P_X10_cutWord  (x1 : Int) (x2 : Int) (σ : St) (Q : Int → St → Prop) : Prop :=
  P_X10_cutWord_L5 x1 x2 (fun x3_5 x5_6 σ_7 => P_X10_cutWord_J49 x1 x2 x3_5 x5_6 Q σ_7) Q FU 0 x2 σ
set_option maxRecDepth 20000 in
set_option maxHeartbeats 2000000 in
theorem s_X10_cutWord   {x1 : Int} {x2 : Int} {σ : St} {Q : Int → St → Prop} (h : P_X10_cutWord x1 x2 σ Q) : Cn Y_X10_cutWord 1 0 0 ww σ [vR 10 0, vI x1, vI x2] (QI Q) := by
  refine Cn_of [some (vR 10 0), some (vI x1), some (vI x2), none, none, none] (by decide) (Nat.le_of_ble_eq_true rfl) rfl ?_
  unfold P_X10_cutWord at h
  refine E_lc dX10_cutWord_0 rfl ?_
  refine E_lstore_n (ls' := [some (vR 10 0), some (vI x1), some (vI x2), some (vL 0), none, none]) dX10_cutWord_1 rfl (by decide) rfl ?_
  refine E_iload_n dX10_cutWord_2 rfl rfl ?_
  refine E_istore (ls' := [some (vR 10 0), some (vI x1), some (vI x2), some (vL 0), none, some (vI x2)]) dX10_cutWord_3 (by decide) rfl ?_
  refine e_P_X10_cutWord_L5 ?_ _ _ _ _ h
  · intro x3_5 x5_6 σ_7 h
    exact e_P_X10_cutWord_J49 h
