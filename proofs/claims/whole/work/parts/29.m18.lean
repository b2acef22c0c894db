abbrev Y_X11_see : My := (yX11_see, cX11_see, 4, some .boolean)
theorem dX11_see_0 : decode cX11_see 0 = .ok (.aload_n 0, 1) := by decide +kernel
theorem dX11_see_1 : decode cX11_see 1 = .ok (.getfield 19, 3) := by decide +kernel
theorem dX11_see_4 : decode cX11_see 4 = .ok (.iload_n 1, 1) := by decide +kernel
theorem dX11_see_5 : decode cX11_see 5 = .ok (.invokevirtual 128, 3) := by decide +kernel
theorem dX11_see_8 : decode cX11_see 8 = .ok (.ifCond .eq 13, 3) := by decide +kernel
theorem dX11_see_11 : decode cX11_see 11 = .ok (.iload_n 2, 1) := by decide +kernel
theorem dX11_see_12 : decode cX11_see 12 = .ok (.iconst 0, 1) := by decide +kernel
theorem dX11_see_13 : decode cX11_see 13 = .ok (.bipush 30, 2) := by decide +kernel
theorem dX11_see_15 : decode cX11_see 15 = .ok (.invokestatic 197, 3) := by decide +kernel
theorem dX11_see_18 : decode cX11_see 18 = .ok (.ifCond .ne 5, 3) := by decide +kernel
theorem dX11_see_21 : decode cX11_see 21 = .ok (.iconst 0, 1) := by decide +kernel
theorem dX11_see_22 : decode cX11_see 22 = .ok (.ireturn, 1) := by decide +kernel
theorem dX11_see_23 : decode cX11_see 23 = .ok (.aload_n 0, 1) := by decide +kernel
theorem dX11_see_24 : decode cX11_see 24 = .ok (.getfield 67, 3) := by decide +kernel
theorem dX11_see_27 : decode cX11_see 27 = .ok (.iload_n 1, 1) := by decide +kernel
theorem dX11_see_28 : decode cX11_see 28 = .ok (.iload_n 2, 1) := by decide +kernel
theorem dX11_see_29 : decode cX11_see 29 = .ok (.iload_n 3, 1) := by decide +kernel
theorem dX11_see_30 : decode cX11_see 30 = .ok (.invokevirtual 275, 3) := by decide +kernel
theorem dX11_see_33 : decode cX11_see 33 = .ok (.ireturn, 1) := by decide +kernel
theorem lk_RX11_275 : Cond.methodLink RX11 275 yX7_note ∈ tG := inG (i := 1225) (by decide +kernel) (by decide +kernel)
theorem m_X7_note : MV Y_X7_note 3 7 := ⟨⟨inG (i := 1228) (by decide +kernel) (by decide +kernel), inG (i := 106) (by decide +kernel) (by decide +kernel), by decide, by decide, by decide, by decide +kernel⟩, inG (i := 1226) (by decide +kernel) (by decide +kernel), inG (i := 1227) (by decide +kernel) (by decide +kernel), by decide⟩
def P_X11_see  (x1 : Int) (x2 : Int) (x3 : Int) (σ : St) (Q : Int → St → Prop) : Prop :=
  P_X8_hasCounter 0 x1 σ (fun r_2 σ_1 => (if r_2 = 0 then Q 0 σ_1 else P_X11_within x2 0 30 σ_1 (fun r_4 σ_3 => (if r_4 = 0 then Q 0 σ_3 else P_X7_note 0 x1 x2 x3 σ_3 (fun r_6 σ_5 => (r_6 = 0 ∨ r_6 = 1) ∧ Q r_6 σ_5)))))
set_option maxRecDepth 20000 in
set_option maxHeartbeats 2000000 in
theorem s_X11_see   {x1 : Int} {x2 : Int} {x3 : Int} {σ : St} {Q : Int → St → Prop} (h : P_X11_see x1 x2 x3 σ Q) : Cn Y_X11_see 1 0 0 ww σ [vR 11 0, vI x1, vI x2, vI x3] (QI Q) := by
  refine Cn_of [some (vR 11 0), some (vI x1), some (vI x2), some (vI x3)] (by decide) (Nat.le_of_ble_eq_true rfl) rfl ?_
  unfold P_X11_see at h
  refine E_aload_n dX11_see_0 rfl rfl ?_
  refine E_getr (i := 0) dX11_see_1 fl_RX11_19 rfl rfl (go_11_1 _ _) ?_
  refine E_iload_n dX11_see_4 rfl rfl ?_
  refine E_callV (Y' := Y_X8_hasCounter) (as := [vI x1]) (st := []) dX11_see_5 lk_RX11_128 m_X8_hasCounter (by decide) (Nat.le_refl _) (Nat.le_refl _) rfl rfl (Nat.le_of_ble_eq_true rfl) (s_X8_hasCounter h) (fun r0 B0 σ_1 h => ?_)
  obtain ⟨r_2, rfl, rfl, h⟩ := h
  refine E_if_eq (tgt := 21) dX11_see_8 (by decide) (fun hc => ?_) (fun hc => ?_)
  · have h := Eq.mp (if_pos hc) h
    refine E_ic dX11_see_21 rfl ?_
    exact E_zret dX11_see_22 rfl (by decide) ⟨_, rfl, rfl, h⟩
  · have h := Eq.mp (if_neg hc) h
    refine E_iload_n dX11_see_11 rfl rfl ?_
    refine E_ic dX11_see_12 rfl ?_
    refine E_bp dX11_see_13 rfl ?_
    refine E_callS (Y' := Y_X11_within) (as := [vI x2, vI 0, vI 30]) (st := []) dX11_see_15 lk_RX11_197 m_X11_within (by decide) (Nat.le_refl _) (Nat.le_refl _) rfl rfl (Nat.le_of_ble_eq_true rfl) (s_X11_within h) (fun r0 B0 σ_3 h => ?_)
    obtain ⟨r_4, rfl, rfl, h⟩ := h
    refine E_if_ne (tgt := 23) dX11_see_18 (by decide) (fun hc => ?_) (fun hc => ?_)
    · have h := Eq.mp (if_neg hc) h
      refine E_aload_n dX11_see_23 rfl rfl ?_
      refine E_getr (i := 0) dX11_see_24 fl_RX11_67 rfl rfl (go_11_9 _ _) ?_
      refine E_iload_n dX11_see_27 rfl rfl ?_
      refine E_iload_n dX11_see_28 rfl rfl ?_
      refine E_iload_n dX11_see_29 rfl rfl ?_
      refine E_callV (Y' := Y_X7_note) (as := [vI x1, vI x2, vI x3]) (st := []) dX11_see_30 lk_RX11_275 m_X7_note (by decide) (Nat.le_refl _) (Nat.le_refl _) rfl rfl (Nat.le_of_ble_eq_true rfl) (s_X7_note h) (fun r0 B0 σ_5 h => ?_)
      obtain ⟨r_6, rfl, rfl, h⟩ := h
      obtain ⟨hg0, h⟩ := h
      exact E_zret dX11_see_33 rfl hg0 ⟨_, rfl, rfl, h⟩
    · have h := Eq.mp (if_pos hc) h
      refine E_ic dX11_see_21 rfl ?_
      exact E_zret dX11_see_22 rfl (by decide) ⟨_, rfl, rfl, h⟩
abbrev Y_X11_weeks : My := (yX11_weeks, cX11_weeks, 4, some .int)
theorem dX11_weeks_0 : decode cX11_weeks 0 = .ok (.iload_n 1, 1) := by decide +kernel
theorem dX11_weeks_1 : decode cX11_weeks 1 = .ok (.iconst 0, 1) := by decide +kernel
theorem dX11_weeks_2 : decode cX11_weeks 2 = .ok (.sipush 9999, 3) := by decide +kernel
theorem dX11_weeks_5 : decode cX11_weeks 5 = .ok (.invokestatic 197, 3) := by decide +kernel
theorem dX11_weeks_8 : decode cX11_weeks 8 = .ok (.ifCond .eq 22, 3) := by decide +kernel
theorem dX11_weeks_11 : decode cX11_weeks 11 = .ok (.iload_n 2, 1) := by decide +kernel
theorem dX11_weeks_12 : decode cX11_weeks 12 = .ok (.iconst 1, 1) := by decide +kernel
theorem dX11_weeks_13 : decode cX11_weeks 13 = .ok (.bipush 99, 2) := by decide +kernel
theorem dX11_weeks_15 : decode cX11_weeks 15 = .ok (.invokestatic 197, 3) := by decide +kernel
theorem dX11_weeks_18 : decode cX11_weeks 18 = .ok (.ifCond .eq 12, 3) := by decide +kernel
theorem dX11_weeks_21 : decode cX11_weeks 21 = .ok (.iload_n 3, 1) := by decide +kernel
theorem dX11_weeks_22 : decode cX11_weeks 22 = .ok (.iconst 0, 1) := by decide +kernel
theorem dX11_weeks_23 : decode cX11_weeks 23 = .ok (.iconst 2, 1) := by decide +kernel
theorem dX11_weeks_24 : decode cX11_weeks 24 = .ok (.invokestatic 197, 3) := by decide +kernel
theorem dX11_weeks_27 : decode cX11_weeks 27 = .ok (.ifCond .ne 5, 3) := by decide +kernel
theorem dX11_weeks_30 : decode cX11_weeks 30 = .ok (.iconst (-1), 1) := by decide +kernel
theorem dX11_weeks_31 : decode cX11_weeks 31 = .ok (.ireturn, 1) := by decide +kernel
theorem dX11_weeks_32 : decode cX11_weeks 32 = .ok (.aload_n 0, 1) := by decide +kernel
theorem dX11_weeks_33 : decode cX11_weeks 33 = .ok (.getfield 54, 3) := by decide +kernel
theorem dX11_weeks_36 : decode cX11_weeks 36 = .ok (.aload_n 0, 1) := by decide +kernel
theorem dX11_weeks_37 : decode cX11_weeks 37 = .ok (.getfield 50, 3) := by decide +kernel
theorem dX11_weeks_40 : decode cX11_weeks 40 = .ok (.invokevirtual 244, 3) := by decide +kernel
theorem dX11_weeks_43 : decode cX11_weeks 43 = .ok (.aload_n 0, 1) := by decide +kernel
theorem dX11_weeks_44 : decode cX11_weeks 44 = .ok (.getfield 54, 3) := by decide +kernel
theorem dX11_weeks_47 : decode cX11_weeks 47 = .ok (.iconst 0, 1) := by decide +kernel
theorem dX11_weeks_48 : decode cX11_weeks 48 = .ok (.putfield 297, 3) := by decide +kernel
theorem dX11_weeks_51 : decode cX11_weeks 51 = .ok (.aload_n 0, 1) := by decide +kernel
theorem dX11_weeks_52 : decode cX11_weeks 52 = .ok (.getfield 54, 3) := by decide +kernel
theorem dX11_weeks_55 : decode cX11_weeks 55 = .ok (.iload_n 1, 1) := by decide +kernel
theorem dX11_weeks_56 : decode cX11_weeks 56 = .ok (.iload_n 2, 1) := by decide +kernel
theorem dX11_weeks_57 : decode cX11_weeks 57 = .ok (.invokevirtual 300, 3) := by decide +kernel
theorem dX11_weeks_60 : decode cX11_weeks 60 = .ok (.iload_n 3, 1) := by decide +kernel
theorem dX11_weeks_61 : decode cX11_weeks 61 = .ok (.lookupswitch 43 #[(0, 27), (1, 35)], 27) := by decide +kernel
theorem dX11_weeks_88 : decode cX11_weeks 88 = .ok (.aload_n 0, 1) := by decide +kernel
theorem dX11_weeks_89 : decode cX11_weeks 89 = .ok (.getfield 54, 3) := by decide +kernel
theorem dX11_weeks_92 : decode cX11_weeks 92 = .ok (.getfield 297, 3) := by decide +kernel
theorem dX11_weeks_95 : decode cX11_weeks 95 = .ok (.ireturn, 1) := by decide +kernel
theorem dX11_weeks_96 : decode cX11_weeks 96 = .ok (.aload_n 0, 1) := by decide +kernel
theorem dX11_weeks_97 : decode cX11_weeks 97 = .ok (.getfield 54, 3) := by decide +kernel
theorem dX11_weeks_100 : decode cX11_weeks 100 = .ok (.invokevirtual 205, 3) := by decide +kernel
theorem dX11_weeks_103 : decode cX11_weeks 103 = .ok (.ireturn, 1) := by decide +kernel
theorem dX11_weeks_104 : decode cX11_weeks 104 = .ok (.aload_n 0, 1) := by decide +kernel
theorem dX11_weeks_105 : decode cX11_weeks 105 = .ok (.getfield 54, 3) := by decide +kernel
theorem dX11_weeks_108 : decode cX11_weeks 108 = .ok (.invokevirtual 303, 3) := by decide +kernel
theorem dX11_weeks_111 : decode cX11_weeks 111 = .ok (.ireturn, 1) := by decide +kernel
theorem fl_RX11_297 : FL RX11 297 9 12 := ⟨inG (i := 331) (by decide +kernel) (by decide +kernel), by decide, by decide⟩
theorem lk_RX11_300 : Cond.methodLink RX11 300 yX9_passByDraws ∈ tG := inG (i := 1273) (by decide +kernel) (by decide +kernel)
theorem lk_RX11_303 : Cond.methodLink RX11 303 yX9_allSizes ∈ tG := inG (i := 1287) (by decide +kernel) (by decide +kernel)
theorem m_X9_allSizes : MV Y_X9_allSizes 0 9 := ⟨⟨inG (i := 1290) (by decide +kernel) (by decide +kernel), inG (i := 104) (by decide +kernel) (by decide +kernel), by decide, by decide, by decide, by decide +kernel⟩, inG (i := 1288) (by decide +kernel) (by decide +kernel), inG (i := 1289) (by decide +kernel) (by decide +kernel), by decide⟩
theorem m_X9_passByDraws : MV Y_X9_passByDraws 2 9 := ⟨⟨inG (i := 1276) (by decide +kernel) (by decide +kernel), inG (i := 104) (by decide +kernel) (by decide +kernel), by decide, by decide, by decide, by decide +kernel⟩, inG (i := 1274) (by decide +kernel) (by decide +kernel), inG (i := 1275) (by decide +kernel) (by decide +kernel), by decide⟩
def P_X11_weeks  (x1 : Int) (x2 : Int) (x3 : Int) (σ : St) (Q : Int → St → Prop) : Prop :=
  P_X11_within x1 0 9999 σ (fun r_2 σ_1 => (if r_2 = 0 then Q (-1) σ_1 else P_X11_within x2 1 99 σ_1 (fun r_4 σ_3 => (if r_4 = 0 then Q (-1) σ_3 else P_X11_within x3 0 2 σ_3 (fun r_6 σ_5 => (if r_6 = 0 then Q (-1) σ_5 else P_X9_take 1 0 σ_5 (fun σ_7 => P_X9_passByDraws 1 x1 x2 (up σ_7 9 1 12 0) (fun σ_8 => (if x3 = 0 then Q (σ_8 9 1 12) σ_8 else if x3 = 1 then P_X9_astray 1 σ_8 (fun r_10 σ_9 => Q r_10 σ_9) else P_X9_allSizes 1 σ_8 (fun r_12 σ_11 => Q r_12 σ_11))))))))))
set_option maxRecDepth 20000 in
set_option maxHeartbeats 2000000 in
theorem s_X11_weeks   {x1 : Int} {x2 : Int} {x3 : Int} {σ : St} {Q : Int → St → Prop} (h : P_X11_weeks x1 x2 x3 σ Q) : Cn Y_X11_weeks 7 0 0 ww σ [vR 11 0, vI x1, vI x2, vI x3] (QI Q) := by
  refine Cn_of [some (vR 11 0), some (vI x1), some (vI x2), some (vI x3)] (by decide) (Nat.le_of_ble_eq_true rfl) rfl ?_
  unfold P_X11_weeks at h
  refine E_iload_n dX11_weeks_0 rfl rfl ?_
  refine E_ic dX11_weeks_1 rfl ?_
  refine E_sp dX11_weeks_2 rfl ?_
  refine E_callS (Y' := Y_X11_within) (as := [vI x1, vI 0, vI 9999]) (st := []) dX11_weeks_5 lk_RX11_197 m_X11_within (by decide) (Nat.le_refl _) (Nat.le_refl _) rfl rfl (Nat.le_of_ble_eq_true rfl) (s_X11_within h) (fun r0 B0 σ_1 h => ?_)
  obtain ⟨r_2, rfl, rfl, h⟩ := h
  refine E_if_eq (tgt := 30) dX11_weeks_8 (by decide) (fun hc => ?_) (fun hc => ?_)
  · have h := Eq.mp (if_pos hc) h
    refine E_ic dX11_weeks_30 rfl ?_
    exact E_iret dX11_weeks_31 rfl ⟨_, rfl, rfl, h⟩
  · have h := Eq.mp (if_neg hc) h
    refine E_iload_n dX11_weeks_11 rfl rfl ?_
    refine E_ic dX11_weeks_12 rfl ?_
    refine E_bp dX11_weeks_13 rfl ?_
    refine E_callS (Y' := Y_X11_within) (as := [vI x2, vI 1, vI 99]) (st := []) dX11_weeks_15 lk_RX11_197 m_X11_within (by decide) (Nat.le_refl _) (Nat.le_refl _) rfl rfl (Nat.le_of_ble_eq_true rfl) (s_X11_within h) (fun r0 B0 σ_3 h => ?_)
    obtain ⟨r_4, rfl, rfl, h⟩ := h
    refine E_if_eq (tgt := 30) dX11_weeks_18 (by decide) (fun hc => ?_) (fun hc => ?_)
    · have h := Eq.mp (if_pos hc) h
      refine E_ic dX11_weeks_30 rfl ?_
      exact E_iret dX11_weeks_31 rfl ⟨_, rfl, rfl, h⟩
    · have h := Eq.mp (if_neg hc) h
      refine E_iload_n dX11_weeks_21 rfl rfl ?_
      refine E_ic dX11_weeks_22 rfl ?_
      refine E_ic dX11_weeks_23 rfl ?_
      refine E_callS (Y' := Y_X11_within) (as := [vI x3, vI 0, vI 2]) (st := []) dX11_weeks_24 lk_RX11_197 m_X11_within (by decide) (Nat.le_refl _) (Nat.le_refl _) rfl rfl (Nat.le_of_ble_eq_true rfl) (s_X11_within h) (fun r0 B0 σ_5 h => ?_)
      obtain ⟨r_6, rfl, rfl, h⟩ := h
      refine E_if_ne (tgt := 32) dX11_weeks_27 (by decide) (fun hc => ?_) (fun hc => ?_)
      · have h := Eq.mp (if_neg hc) h
        refine E_aload_n dX11_weeks_32 rfl rfl ?_
        refine E_getr (i := 0) dX11_weeks_33 fl_RX11_54 rfl rfl (go_11_7 _ _) ?_
        refine E_aload_n dX11_weeks_36 rfl rfl ?_
        refine E_getr (i := 0) dX11_weeks_37 fl_RX11_50 rfl rfl (go_11_6 _ _) ?_
        refine E_callV (Y' := Y_X9_take) (as := [vR 9 0]) (st := []) dX11_weeks_40 lk_RX11_244 m_X9_take (by decide) (Nat.le_refl _) (Nat.le_refl _) rfl rfl (Nat.le_of_ble_eq_true rfl) (s_X9_take h) (fun r0 B0 σ_7 h => ?_)
        obtain ⟨rfl, rfl, h⟩ := h
        refine E_aload_n dX11_weeks_43 rfl rfl ?_
        refine E_getr (i := 0) dX11_weeks_44 fl_RX11_54 rfl rfl (go_11_7 _ _) ?_
        refine E_ic dX11_weeks_47 rfl ?_
        refine E_puti dX11_weeks_48 fl_RX11_297 rfl rfl rfl ?_
        refine E_aload_n dX11_weeks_51 rfl rfl ?_
        refine E_getr (i := 0) dX11_weeks_52 fl_RX11_54 rfl rfl (go_11_7 _ _) ?_
        refine E_iload_n dX11_weeks_55 rfl rfl ?_
        refine E_iload_n dX11_weeks_56 rfl rfl ?_
        refine E_callV (Y' := Y_X9_passByDraws) (as := [vI x1, vI x2]) (st := []) dX11_weeks_57 lk_RX11_300 m_X9_passByDraws (by decide) (Nat.le_refl _) (Nat.le_refl _) rfl rfl (Nat.le_of_ble_eq_true rfl) (s_X9_passByDraws h) (fun r0 B0 σ_8 h => ?_)
        obtain ⟨rfl, rfl, h⟩ := h
        refine E_iload_n dX11_weeks_60 rfl rfl ?_
        by_cases hc : x3 = 0
        · have h := Eq.mp (if_pos hc) h
          refine E_lookup (off := 27) (tgt := 88) dX11_weeks_61 rfl (by rw [hc]; rfl) (by decide) ?_
          refine E_aload_n dX11_weeks_88 rfl rfl ?_
          refine E_getr (i := 0) dX11_weeks_89 fl_RX11_54 rfl rfl (go_11_7 _ _) ?_
          refine E_geti (i := 1) dX11_weeks_92 fl_RX11_297 rfl ?_
          exact E_iret dX11_weeks_95 rfl ⟨_, rfl, rfl, h⟩
        have h := Eq.mp (if_neg hc) h
        have hc0 := hc
        clear hc
        by_cases hc : x3 = 1
        · have h := Eq.mp (if_pos hc) h
          refine E_lookup (off := 35) (tgt := 96) dX11_weeks_61 rfl (by rw [hc]; rfl) (by decide) ?_
          refine E_aload_n dX11_weeks_96 rfl rfl ?_
          refine E_getr (i := 0) dX11_weeks_97 fl_RX11_54 rfl rfl (go_11_7 _ _) ?_
          refine E_callV (Y' := Y_X9_astray) (as := []) (st := []) dX11_weeks_100 lk_RX11_205 m_X9_astray (by decide) (Nat.le_refl _) (Nat.le_refl _) rfl rfl (Nat.le_of_ble_eq_true rfl) (s_X9_astray h) (fun r0 B0 σ_9 h => ?_)
          obtain ⟨r_10, rfl, rfl, h⟩ := h
          exact E_iret dX11_weeks_103 rfl ⟨_, rfl, rfl, h⟩
        have h := Eq.mp (if_neg hc) h
        have hc1 := hc
        clear hc
        refine E_lookup (off := 43) (tgt := 104) dX11_weeks_61 rfl (by simp [Op.lookupswitch.offset, Ne.symm hc0, Ne.symm hc1]) (by decide) ?_
        refine E_aload_n dX11_weeks_104 rfl rfl ?_
        refine E_getr (i := 0) dX11_weeks_105 fl_RX11_54 rfl rfl (go_11_7 _ _) ?_
        refine E_callV (Y' := Y_X9_allSizes) (as := []) (st := []) dX11_weeks_108 lk_RX11_303 m_X9_allSizes (by decide) (Nat.le_refl _) (Nat.le_refl _) rfl rfl (Nat.le_of_ble_eq_true rfl) (s_X9_allSizes h) (fun r0 B0 σ_11 h => ?_)
        obtain ⟨r_12, rfl, rfl, h⟩ := h
        exact E_iret dX11_weeks_111 rfl ⟨_, rfl, rfl, h⟩
      · have h := Eq.mp (if_pos hc) h
        refine E_ic dX11_weeks_30 rfl ?_
        exact E_iret dX11_weeks_31 rfl ⟨_, rfl, rfl, h⟩
abbrev Y_X11_mark : My := (yX11_mark, cX11_mark, 3, some .boolean)
theorem dX11_mark_0 : decode cX11_mark 0 = .ok (.iload_n 1, 1) := by decide +kernel
theorem dX11_mark_1 : decode cX11_mark 1 = .ok (.iconst 0, 1) := by decide +kernel
theorem dX11_mark_2 : decode cX11_mark 2 = .ok (.iconst 3, 1) := by decide +kernel
theorem dX11_mark_3 : decode cX11_mark 3 = .ok (.invokestatic 197, 3) := by decide +kernel
theorem dX11_mark_6 : decode cX11_mark 6 = .ok (.ifCond .ne 5, 3) := by decide +kernel
theorem dX11_mark_9 : decode cX11_mark 9 = .ok (.iconst 0, 1) := by decide +kernel
theorem dX11_mark_10 : decode cX11_mark 10 = .ok (.ireturn, 1) := by decide +kernel
theorem dX11_mark_11 : decode cX11_mark 11 = .ok (.iload_n 2, 1) := by decide +kernel
theorem dX11_mark_12 : decode cX11_mark 12 = .ok (.ifCond .ne 26, 3) := by decide +kernel
theorem dX11_mark_15 : decode cX11_mark 15 = .ok (.aload_n 0, 1) := by decide +kernel
theorem dX11_mark_16 : decode cX11_mark 16 = .ok (.getfield 73, 3) := by decide +kernel
theorem dX11_mark_19 : decode cX11_mark 19 = .ok (.iload_n 1, 1) := by decide +kernel
theorem dX11_mark_20 : decode cX11_mark 20 = .ok (.aaload, 1) := by decide +kernel
theorem dX11_mark_21 : decode cX11_mark 21 = .ok (.aload_n 0, 1) := by decide +kernel
theorem dX11_mark_22 : decode cX11_mark 22 = .ok (.getfield 50, 3) := by decide +kernel
theorem dX11_mark_25 : decode cX11_mark 25 = .ok (.aload_n 0, 1) := by decide +kernel
theorem dX11_mark_26 : decode cX11_mark 26 = .ok (.getfield 29, 3) := by decide +kernel
theorem dX11_mark_29 : decode cX11_mark 29 = .ok (.aload_n 0, 1) := by decide +kernel
theorem dX11_mark_30 : decode cX11_mark 30 = .ok (.getfield 67, 3) := by decide +kernel
theorem dX11_mark_33 : decode cX11_mark 33 = .ok (.invokevirtual 306, 3) := by decide +kernel
theorem dX11_mark_36 : decode cX11_mark 36 = .ok (.iconst 1, 1) := by decide +kernel
theorem dX11_mark_37 : decode cX11_mark 37 = .ok (.ireturn, 1) := by decide +kernel
theorem dX11_mark_38 : decode cX11_mark 38 = .ok (.aload_n 0, 1) := by decide +kernel
theorem dX11_mark_39 : decode cX11_mark 39 = .ok (.getfield 73, 3) := by decide +kernel
theorem dX11_mark_42 : decode cX11_mark 42 = .ok (.iload_n 1, 1) := by decide +kernel
theorem dX11_mark_43 : decode cX11_mark 43 = .ok (.aaload, 1) := by decide +kernel
theorem dX11_mark_44 : decode cX11_mark 44 = .ok (.getfield 117, 3) := by decide +kernel
theorem dX11_mark_47 : decode cX11_mark 47 = .ok (.ifCond .ne 5, 3) := by decide +kernel
theorem dX11_mark_50 : decode cX11_mark 50 = .ok (.iconst 0, 1) := by decide +kernel
theorem dX11_mark_51 : decode cX11_mark 51 = .ok (.ireturn, 1) := by decide +kernel
theorem dX11_mark_52 : decode cX11_mark 52 = .ok (.aload_n 0, 1) := by decide +kernel
theorem dX11_mark_53 : decode cX11_mark 53 = .ok (.getfield 73, 3) := by decide +kernel
theorem dX11_mark_56 : decode cX11_mark 56 = .ok (.iload_n 1, 1) := by decide +kernel
theorem dX11_mark_57 : decode cX11_mark 57 = .ok (.aaload, 1) := by decide +kernel
theorem dX11_mark_58 : decode cX11_mark 58 = .ok (.aload_n 0, 1) := by decide +kernel
theorem dX11_mark_59 : decode cX11_mark 59 = .ok (.getfield 50, 3) := by decide +kernel
theorem dX11_mark_62 : decode cX11_mark 62 = .ok (.aload_n 0, 1) := by decide +kernel
theorem dX11_mark_63 : decode cX11_mark 63 = .ok (.getfield 29, 3) := by decide +kernel
theorem dX11_mark_66 : decode cX11_mark 66 = .ok (.aload_n 0, 1) := by decide +kernel
theorem dX11_mark_67 : decode cX11_mark 67 = .ok (.getfield 67, 3) := by decide +kernel
theorem dX11_mark_70 : decode cX11_mark 70 = .ok (.invokevirtual 310, 3) := by decide +kernel
theorem dX11_mark_73 : decode cX11_mark 73 = .ok (.aload_n 0, 1) := by decide +kernel
theorem dX11_mark_74 : decode cX11_mark 74 = .ok (.getfield 60, 3) := by decide +kernel
theorem dX11_mark_77 : decode cX11_mark 77 = .ok (.iconst 0, 1) := by decide +kernel
theorem dX11_mark_78 : decode cX11_mark 78 = .ok (.putfield 116, 3) := by decide +kernel
theorem dX11_mark_81 : decode cX11_mark 81 = .ok (.iconst 1, 1) := by decide +kernel
theorem dX11_mark_82 : decode cX11_mark 82 = .ok (.ireturn, 1) := by decide +kernel
theorem fl_RX11_117 : FL RX11 117 4 3 := ⟨inG (i := 464) (by decide +kernel) (by decide +kernel), by decide, by decide⟩
theorem fl_RX11_73 : FL RX11 73 11 10 := ⟨inG (i := 484) (by decide +kernel) (by decide +kernel), by decide, by decide⟩
theorem go_11_10 (σ : St) (i : Nat) : go σ 11 i 10 = (1210, i) := rfl
theorem lk_RX11_306 : Cond.methodLink RX11 306 yX4_lay ∈ tG := inG (i := 1295) (by decide +kernel) (by decide +kernel)
theorem lk_RX11_310 : Cond.methodLink RX11 310 yX4_goBack ∈ tG := inG (i := 1305) (by decide +kernel) (by decide +kernel)
theorem m_X4_goBack : MV Y_X4_goBack 3 4 := ⟨⟨inG (i := 1308) (by decide +kernel) (by decide +kernel), inG (i := 109) (by decide +kernel) (by decide +kernel), by decide, by decide, by decide, by decide +kernel⟩, inG (i := 1306) (by decide +kernel) (by decide +kernel), inG (i := 1307) (by decide +kernel) (by decide +kernel), by decide⟩
theorem m_X4_lay : MV Y_X4_lay 3 4 := ⟨⟨inG (i := 1298) (by decide +kernel) (by decide +kernel), inG (i := 109) (by decide +kernel) (by decide +kernel), by decide, by decide, by decide, by decide +kernel⟩, inG (i := 1296) (by decide +kernel) (by decide +kernel), inG (i := 1297) (by decide +kernel) (by decide +kernel), by decide⟩
theorem sh_1210 : shp 1210 = (5, 4) := rfl
def P_X11_mark  (x1 : Int) (x2 : Int) (σ : St) (Q : Int → St → Prop) : Prop :=
  P_X11_within x1 0 3 σ (fun r_2 σ_1 => (if r_2 = 0 then Q 0 σ_1 else (if x2 = 0 then 0 ≤ x1 ∧ x1 < 4 ∧ P_X4_lay x1.toNat 0 0 0 σ_1 (fun σ_4 => Q 1 σ_4) else 0 ≤ x1 ∧ x1 < 4 ∧ (if (σ_1 4 x1.toNat 3) = 0 then Q 0 σ_1 else 0 ≤ x1 ∧ x1 < 4 ∧ P_X4_goBack x1.toNat 0 0 0 σ_1 (fun σ_3 => Q 1 (up σ_3 5 0 1 0))))))
set_option maxRecDepth 20000 in
set_option maxHeartbeats 2000000 in
theorem s_X11_mark   {x1 : Int} {x2 : Int} {σ : St} {Q : Int → St → Prop} (h : P_X11_mark x1 x2 σ Q) : Cn Y_X11_mark 3 0 0 ww σ [vR 11 0, vI x1, vI x2] (QI Q) := by
  refine Cn_of [some (vR 11 0), some (vI x1), some (vI x2)] (by decide) (Nat.le_of_ble_eq_true rfl) rfl ?_
  unfold P_X11_mark at h
  refine E_iload_n dX11_mark_0 rfl rfl ?_
  refine E_ic dX11_mark_1 rfl ?_
  refine E_ic dX11_mark_2 rfl ?_
  refine E_callS (Y' := Y_X11_within) (as := [vI x1, vI 0, vI 3]) (st := []) dX11_mark_3 lk_RX11_197 m_X11_within (by decide) (Nat.le_refl _) (Nat.le_refl _) rfl rfl (Nat.le_of_ble_eq_true rfl) (s_X11_within h) (fun r0 B0 σ_1 h => ?_)
  obtain ⟨r_2, rfl, rfl, h⟩ := h
  refine E_if_ne (tgt := 11) dX11_mark_6 (by decide) (fun hc => ?_) (fun hc => ?_)
  · have h := Eq.mp (if_neg hc) h
    refine E_iload_n dX11_mark_11 rfl rfl ?_
    refine E_if_ne (tgt := 38) dX11_mark_12 (by decide) (fun hc => ?_) (fun hc => ?_)
    · have h := Eq.mp (if_neg hc) h
      refine E_aload_n dX11_mark_38 rfl rfl ?_
      refine E_getr (i := 0) dX11_mark_39 fl_RX11_73 rfl rfl (go_11_10 _ _) ?_
      refine E_iload_n dX11_mark_42 rfl rfl ?_
      obtain ⟨hg0, hg1, h⟩ := h
      refine E_aald dX11_mark_43 sh_1210 (by decide) (by decide) hg0 hg1 (wwA sh_1210 hg0 hg1) rfl ?_
      refine E_geti (i := x1.toNat) dX11_mark_44 fl_RX11_117 rfl ?_
      refine E_if_ne (tgt := 52) dX11_mark_47 (by decide) (fun hc => ?_) (fun hc => ?_)
      · have h := Eq.mp (if_neg hc) h
        refine E_aload_n dX11_mark_52 rfl rfl ?_
        refine E_getr (i := 0) dX11_mark_53 fl_RX11_73 rfl rfl (go_11_10 _ _) ?_
        refine E_iload_n dX11_mark_56 rfl rfl ?_
        obtain ⟨hg0, hg1, h⟩ := h
        refine E_aald dX11_mark_57 sh_1210 (by decide) (by decide) hg0 hg1 (wwA sh_1210 hg0 hg1) rfl ?_
        refine E_aload_n dX11_mark_58 rfl rfl ?_
        refine E_getr (i := 0) dX11_mark_59 fl_RX11_50 rfl rfl (go_11_6 _ _) ?_
        refine E_aload_n dX11_mark_62 rfl rfl ?_
        refine E_getr (i := 0) dX11_mark_63 fl_RX11_29 rfl rfl (go_11_3 _ _) ?_
        refine E_aload_n dX11_mark_66 rfl rfl ?_
        refine E_getr (i := 0) dX11_mark_67 fl_RX11_67 rfl rfl (go_11_9 _ _) ?_
        refine E_callV (Y' := Y_X4_goBack) (as := [vR 9 0, vR 3 0, vR 7 0]) (st := []) dX11_mark_70 lk_RX11_310 m_X4_goBack (by decide) (Nat.le_refl _) (Nat.le_refl _) rfl rfl (Nat.le_of_ble_eq_true rfl) (s_X4_goBack h) (fun r0 B0 σ_3 h => ?_)
        obtain ⟨rfl, rfl, h⟩ := h
        refine E_aload_n dX11_mark_73 rfl rfl ?_
        refine E_getr (i := 0) dX11_mark_74 fl_RX11_60 rfl rfl (go_11_8 _ _) ?_
        refine E_ic dX11_mark_77 rfl ?_
        refine E_puti dX11_mark_78 fl_RX11_116 rfl rfl rfl ?_
        refine E_ic dX11_mark_81 rfl ?_
        exact E_zret dX11_mark_82 rfl (by decide) ⟨_, rfl, rfl, h⟩
      · have h := Eq.mp (if_pos hc) h
        refine E_ic dX11_mark_50 rfl ?_
        exact E_zret dX11_mark_51 rfl (by decide) ⟨_, rfl, rfl, h⟩
    · have h := Eq.mp (if_pos hc) h
      refine E_aload_n dX11_mark_15 rfl rfl ?_
      refine E_getr (i := 0) dX11_mark_16 fl_RX11_73 rfl rfl (go_11_10 _ _) ?_
      refine E_iload_n dX11_mark_19 rfl rfl ?_
      obtain ⟨hg0, hg1, h⟩ := h
      refine E_aald dX11_mark_20 sh_1210 (by decide) (by decide) hg0 hg1 (wwA sh_1210 hg0 hg1) rfl ?_
      refine E_aload_n dX11_mark_21 rfl rfl ?_
      refine E_getr (i := 0) dX11_mark_22 fl_RX11_50 rfl rfl (go_11_6 _ _) ?_
      refine E_aload_n dX11_mark_25 rfl rfl ?_
      refine E_getr (i := 0) dX11_mark_26 fl_RX11_29 rfl rfl (go_11_3 _ _) ?_
      refine E_aload_n dX11_mark_29 rfl rfl ?_
      refine E_getr (i := 0) dX11_mark_30 fl_RX11_67 rfl rfl (go_11_9 _ _) ?_
      refine E_callV (Y' := Y_X4_lay) (as := [vR 9 0, vR 3 0, vR 7 0]) (st := []) dX11_mark_33 lk_RX11_306 m_X4_lay (by decide) (Nat.le_refl _) (Nat.le_refl _) rfl rfl (Nat.le_of_ble_eq_true rfl) (s_X4_lay h) (fun r0 B0 σ_4 h => ?_)
      obtain ⟨rfl, rfl, h⟩ := h
      refine E_ic dX11_mark_36 rfl ?_
      exact E_zret dX11_mark_37 rfl (by decide) ⟨_, rfl, rfl, h⟩
  · have h := Eq.mp (if_pos hc) h
    refine E_ic dX11_mark_9 rfl ?_
    exact E_zret dX11_mark_10 rfl (by decide) ⟨_, rfl, rfl, h⟩
abbrev Y_X11_isRest : My := (yX11_isRest, cX11_isRest, 6, some .boolean)
theorem dX11_isRest_0 : decode cX11_isRest 0 = .ok (.iload_n 0, 1) := by decide +kernel
theorem dX11_isRest_1 : decode cX11_isRest 1 = .ok (.iconst 1, 1) := by decide +kernel
theorem dX11_isRest_2 : decode cX11_isRest 2 = .ok (.ishr, 1) := by decide +kernel
theorem dX11_isRest_3 : decode cX11_isRest 3 = .ok (.istore 4, 2) := by decide +kernel
theorem dX11_isRest_5 : decode cX11_isRest 5 = .ok (.iload_n 0, 1) := by decide +kernel
theorem dX11_isRest_6 : decode cX11_isRest 6 = .ok (.iconst 1, 1) := by decide +kernel
theorem dX11_isRest_7 : decode cX11_isRest 7 = .ok (.iand, 1) := by decide +kernel
theorem dX11_isRest_8 : decode cX11_isRest 8 = .ok (.istore 5, 2) := by decide +kernel
theorem dX11_isRest_10 : decode cX11_isRest 10 = .ok (.iload 4, 2) := by decide +kernel
theorem dX11_isRest_12 : decode cX11_isRest 12 = .ok (.iload 5, 2) := by decide +kernel
theorem dX11_isRest_14 : decode cX11_isRest 14 = .ok (.iload_n 1, 1) := by decide +kernel
theorem dX11_isRest_15 : decode cX11_isRest 15 = .ok (.iload_n 2, 1) := by decide +kernel
theorem dX11_isRest_16 : decode cX11_isRest 16 = .ok (.iload_n 3, 1) := by decide +kernel
theorem dX11_isRest_17 : decode cX11_isRest 17 = .ok (.invokestatic 336, 3) := by decide +kernel
theorem dX11_isRest_20 : decode cX11_isRest 20 = .ok (.iconst 1, 1) := by decide +kernel
theorem dX11_isRest_21 : decode cX11_isRest 21 = .ok (.iload 4, 2) := by decide +kernel
theorem dX11_isRest_23 : decode cX11_isRest 23 = .ok (.isub, 1) := by decide +kernel
theorem dX11_isRest_24 : decode cX11_isRest 24 = .ok (.iload 5, 2) := by decide +kernel
theorem dX11_isRest_26 : decode cX11_isRest 26 = .ok (.iload_n 1, 1) := by decide +kernel
theorem dX11_isRest_27 : decode cX11_isRest 27 = .ok (.iload_n 2, 1) := by decide +kernel
theorem dX11_isRest_28 : decode cX11_isRest 28 = .ok (.iload_n 3, 1) := by decide +kernel
theorem dX11_isRest_29 : decode cX11_isRest 29 = .ok (.invokestatic 336, 3) := by decide +kernel
theorem dX11_isRest_32 : decode cX11_isRest 32 = .ok (.if_icmp .lt 32, 3) := by decide +kernel
theorem dX11_isRest_35 : decode cX11_isRest 35 = .ok (.iload 5, 2) := by decide +kernel
theorem dX11_isRest_37 : decode cX11_isRest 37 = .ok (.iload 4, 2) := by decide +kernel
theorem dX11_isRest_39 : decode cX11_isRest 39 = .ok (.iload_n 1, 1) := by decide +kernel
theorem dX11_isRest_40 : decode cX11_isRest 40 = .ok (.iload_n 2, 1) := by decide +kernel
theorem dX11_isRest_41 : decode cX11_isRest 41 = .ok (.iload_n 3, 1) := by decide +kernel
theorem dX11_isRest_42 : decode cX11_isRest 42 = .ok (.invokestatic 336, 3) := by decide +kernel
theorem dX11_isRest_45 : decode cX11_isRest 45 = .ok (.iconst 1, 1) := by decide +kernel
theorem dX11_isRest_46 : decode cX11_isRest 46 = .ok (.iload 5, 2) := by decide +kernel
theorem dX11_isRest_48 : decode cX11_isRest 48 = .ok (.isub, 1) := by decide +kernel
theorem dX11_isRest_49 : decode cX11_isRest 49 = .ok (.iload 4, 2) := by decide +kernel
theorem dX11_isRest_51 : decode cX11_isRest 51 = .ok (.iload_n 1, 1) := by decide +kernel
theorem dX11_isRest_52 : decode cX11_isRest 52 = .ok (.iload_n 2, 1) := by decide +kernel
theorem dX11_isRest_53 : decode cX11_isRest 53 = .ok (.iload_n 3, 1) := by decide +kernel
theorem dX11_isRest_54 : decode cX11_isRest 54 = .ok (.invokestatic 336, 3) := by decide +kernel
theorem dX11_isRest_57 : decode cX11_isRest 57 = .ok (.if_icmp .lt 7, 3) := by decide +kernel
theorem dX11_isRest_60 : decode cX11_isRest 60 = .ok (.iconst 1, 1) := by decide +kernel
theorem dX11_isRest_61 : decode cX11_isRest 61 = .ok (.goto 4, 3) := by decide +kernel
theorem dX11_isRest_64 : decode cX11_isRest 64 = .ok (.iconst 0, 1) := by decide +kernel
theorem dX11_isRest_65 : decode cX11_isRest 65 = .ok (.ireturn, 1) := by decide +kernel
theorem lk_RX11_336 : Cond.methodLink RX11 336 yX11_gain ∈ tG := inG (i := 1387) (by decide +kernel) (by decide +kernel)
theorem m_X11_gain : MS Y_X11_gain 5 := ⟨⟨inG (i := 1389) (by decide +kernel) (by decide +kernel), inG (i := 98) (by decide +kernel) (by decide +kernel), by decide, by decide, by decide, by decide +kernel⟩, inG (i := 1388) (by decide +kernel) (by decide +kernel)⟩
def P_X11_isRest_J64    (Q : Int → St → Prop) (σ : St) : Prop :=
  Q 0 σ
set_option maxRecDepth 20000 in
set_option maxHeartbeats 2000000 in
theorem e_P_X11_isRest_J64    {Q : Int → St → Prop} {σ : St}   (h : P_X11_isRest_J64  Q σ) : E Y_X11_isRest 1 0 0 (QI Q) ww 0 0 64 [none, none, none, none, none, none] [] σ := by
  unfold P_X11_isRest_J64 at h
  refine E_ic dX11_isRest_64 rfl ?_
  exact E_zret dX11_isRest_65 rfl (by decide) ⟨_, rfl, rfl, h⟩
def P_X11_isRest  (x0 : Int) (x1 : Int) (x2 : Int) (x3 : Int) (σ : St) (Q : Int → St → Prop) : Prop :=
  P_X11_gain (bR x0 1) (bA x0 1) x1 x2 x3 σ (fun r_2 σ_1 => P_X11_gain (wi (1 - (bR x0 1))) (bA x0 1) x1 x2 x3 σ_1 (fun r_4 σ_3 => (if r_2 < r_4 then P_X11_isRest_J64 Q σ_3 else P_X11_gain (bA x0 1) (bR x0 1) x1 x2 x3 σ_3 (fun r_6 σ_5 => P_X11_gain (wi (1 - (bA x0 1))) (bR x0 1) x1 x2 x3 σ_5 (fun r_8 σ_7 => (if r_6 < r_8 then P_X11_isRest_J64 Q σ_7 else Q 1 σ_7))))))
set_option maxRecDepth 20000 in
set_option maxHeartbeats 2000000 in
theorem s_X11_isRest   {x0 : Int} {x1 : Int} {x2 : Int} {x3 : Int} {σ : St} {Q : Int → St → Prop} (h : P_X11_isRest x0 x1 x2 x3 σ Q) : Cn Y_X11_isRest 1 0 0 ww σ [vI x0, vI x1, vI x2, vI x3] (QI Q) := by
  refine Cn_of [some (vI x0), some (vI x1), some (vI x2), some (vI x3), none, none] (by decide) (Nat.le_of_ble_eq_true rfl) rfl ?_
  unfold P_X11_isRest at h
  refine E_iload_n dX11_isRest_0 rfl rfl ?_
  refine E_ic dX11_isRest_1 rfl ?_
  refine E_ishr dX11_isRest_2 ?_
  refine E_istore (ls' := [some (vI x0), some (vI x1), some (vI x2), some (vI x3), some (vI (bR x0 1)), none]) dX11_isRest_3 (by decide) rfl ?_
  refine E_iload_n dX11_isRest_5 rfl rfl ?_
  refine E_ic dX11_isRest_6 rfl ?_
  refine E_iand dX11_isRest_7 ?_
  refine E_istore (ls' := [some (vI x0), some (vI x1), some (vI x2), some (vI x3), some (vI (bR x0 1)), some (vI (bA x0 1))]) dX11_isRest_8 (by decide) rfl ?_
  refine E_iload dX11_isRest_10 rfl ?_
  refine E_iload dX11_isRest_12 rfl ?_
  refine E_iload_n dX11_isRest_14 rfl rfl ?_
  refine E_iload_n dX11_isRest_15 rfl rfl ?_
  refine E_iload_n dX11_isRest_16 rfl rfl ?_
  refine E_callS (Y' := Y_X11_gain) (as := [vI (bR x0 1), vI (bA x0 1), vI x1, vI x2, vI x3]) (st := []) dX11_isRest_17 lk_RX11_336 m_X11_gain (by decide) (Nat.le_refl _) (Nat.le_refl _) rfl rfl (Nat.le_of_ble_eq_true rfl) (s_X11_gain h) (fun r0 B0 σ_1 h => ?_)
  obtain ⟨r_2, rfl, rfl, h⟩ := h
  refine E_ic dX11_isRest_20 rfl ?_
  refine E_iload dX11_isRest_21 rfl ?_
  refine E_isub dX11_isRest_23 ?_
  refine E_iload dX11_isRest_24 rfl ?_
  refine E_iload_n dX11_isRest_26 rfl rfl ?_
  refine E_iload_n dX11_isRest_27 rfl rfl ?_
  refine E_iload_n dX11_isRest_28 rfl rfl ?_
  refine E_callS (Y' := Y_X11_gain) (as := [vI (wi (1 - (bR x0 1))), vI (bA x0 1), vI x1, vI x2, vI x3]) (st := [vI r_2]) dX11_isRest_29 lk_RX11_336 m_X11_gain (by decide) (Nat.le_refl _) (Nat.le_refl _) rfl rfl (Nat.le_of_ble_eq_true rfl) (s_X11_gain h) (fun r0 B0 σ_3 h => ?_)
  obtain ⟨r_4, rfl, rfl, h⟩ := h
  refine E_icmp_lt (tgt := 64) dX11_isRest_32 (by decide) (fun hc => ?_) (fun hc => ?_)
  · have h := Eq.mp (if_pos hc) h
    refine E_wk2 [none, none, none, none, none, none] trivial ?_
    exact e_P_X11_isRest_J64 h
  · have h := Eq.mp (if_neg hc) h
    refine E_iload dX11_isRest_35 rfl ?_
    refine E_iload dX11_isRest_37 rfl ?_
    refine E_iload_n dX11_isRest_39 rfl rfl ?_
    refine E_iload_n dX11_isRest_40 rfl rfl ?_
    refine E_iload_n dX11_isRest_41 rfl rfl ?_
    refine E_callS (Y' := Y_X11_gain) (as := [vI (bA x0 1), vI (bR x0 1), vI x1, vI x2, vI x3]) (st := []) dX11_isRest_42 lk_RX11_336 m_X11_gain (by decide) (Nat.le_refl _) (Nat.le_refl _) rfl rfl (Nat.le_of_ble_eq_true rfl) (s_X11_gain h) (fun r0 B0 σ_5 h => ?_)
    obtain ⟨r_6, rfl, rfl, h⟩ := h
    refine E_ic dX11_isRest_45 rfl ?_
    refine E_iload dX11_isRest_46 rfl ?_
    refine E_isub dX11_isRest_48 ?_
    refine E_iload dX11_isRest_49 rfl ?_
    refine E_iload_n dX11_isRest_51 rfl rfl ?_
    refine E_iload_n dX11_isRest_52 rfl rfl ?_
    refine E_iload_n dX11_isRest_53 rfl rfl ?_
    refine E_callS (Y' := Y_X11_gain) (as := [vI (wi (1 - (bA x0 1))), vI (bR x0 1), vI x1, vI x2, vI x3]) (st := [vI r_6]) dX11_isRest_54 lk_RX11_336 m_X11_gain (by decide) (Nat.le_refl _) (Nat.le_refl _) rfl rfl (Nat.le_of_ble_eq_true rfl) (s_X11_gain h) (fun r0 B0 σ_7 h => ?_)
    obtain ⟨r_8, rfl, rfl, h⟩ := h
    refine E_icmp_lt (tgt := 64) dX11_isRest_57 (by decide) (fun hc => ?_) (fun hc => ?_)
    · have h := Eq.mp (if_pos hc) h
      refine E_wk2 [none, none, none, none, none, none] trivial ?_
      exact e_P_X11_isRest_J64 h
    · have h := Eq.mp (if_neg hc) h
      refine E_ic dX11_isRest_60 rfl ?_
      refine E_goto (tgt := 65) dX11_isRest_61 (by decide) ?_
      exact E_zret dX11_isRest_65 rfl (by decide) ⟨_, rfl, rfl, h⟩
abbrev Y_X0_sizeNext : My := (yX0_sizeNext, cX0_sizeNext, 6, some .int)
theorem dX0_sizeNext_0 : decode cX0_sizeNext 0 = .ok (.iload_n 3, 1) := by decide +kernel
theorem dX0_sizeNext_1 : decode cX0_sizeNext 1 = .ok (.ifCond .ne 15, 3) := by decide +kernel
theorem dX0_sizeNext_4 : decode cX0_sizeNext 4 = .ok (.aload_n 0, 1) := by decide +kernel
theorem dX0_sizeNext_5 : decode cX0_sizeNext 5 = .ok (.getfield 20, 3) := by decide +kernel
theorem dX0_sizeNext_8 : decode cX0_sizeNext 8 = .ok (.getfield 43, 3) := by decide +kernel
theorem dX0_sizeNext_11 : decode cX0_sizeNext 11 = .ok (.iload_n 1, 1) := by decide +kernel
theorem dX0_sizeNext_12 : decode cX0_sizeNext 12 = .ok (.iaload, 1) := by decide +kernel
theorem dX0_sizeNext_13 : decode cX0_sizeNext 13 = .ok (.goto 4, 3) := by decide +kernel
theorem dX0_sizeNext_16 : decode cX0_sizeNext 16 = .ok (.iconst 0, 1) := by decide +kernel
theorem dX0_sizeNext_17 : decode cX0_sizeNext 17 = .ok (.istore 5, 2) := by decide +kernel
theorem dX0_sizeNext_19 : decode cX0_sizeNext 19 = .ok (.aload_n 0, 1) := by decide +kernel
theorem dX0_sizeNext_20 : decode cX0_sizeNext 20 = .ok (.getfield 16, 3) := by decide +kernel
theorem dX0_sizeNext_23 : decode cX0_sizeNext 23 = .ok (.iload_n 1, 1) := by decide +kernel
theorem dX0_sizeNext_24 : decode cX0_sizeNext 24 = .ok (.iload_n 2, 1) := by decide +kernel
theorem dX0_sizeNext_25 : decode cX0_sizeNext 25 = .ok (.iload 5, 2) := by decide +kernel
theorem dX0_sizeNext_27 : decode cX0_sizeNext 27 = .ok (.iload 4, 2) := by decide +kernel
theorem dX0_sizeNext_29 : decode cX0_sizeNext 29 = .ok (.aload_n 0, 1) := by decide +kernel
theorem dX0_sizeNext_30 : decode cX0_sizeNext 30 = .ok (.getfield 20, 3) := by decide +kernel
theorem dX0_sizeNext_33 : decode cX0_sizeNext 33 = .ok (.getfield 29, 3) := by decide +kernel
theorem dX0_sizeNext_36 : decode cX0_sizeNext 36 = .ok (.iload_n 3, 1) := by decide +kernel
theorem dX0_sizeNext_37 : decode cX0_sizeNext 37 = .ok (.iadd, 1) := by decide +kernel
theorem dX0_sizeNext_38 : decode cX0_sizeNext 38 = .ok (.invokevirtual 46, 3) := by decide +kernel
theorem dX0_sizeNext_41 : decode cX0_sizeNext 41 = .ok (.ireturn, 1) := by decide +kernel
theorem fl_RX0_29 : FL RX0 29 9 10 := ⟨inG (i := 326) (by decide +kernel) (by decide +kernel), by decide, by decide⟩
theorem fl_RX0_43 : FL RX0 43 9 6 := ⟨inG (i := 318) (by decide +kernel) (by decide +kernel), by decide, by decide⟩
theorem lk_RX0_46 : Cond.methodLink RX0 46 yX8_worn ∈ tG := inG (i := 1186) (by decide +kernel) (by decide +kernel)
def P_X0_sizeNext_J17  (x1 : Int) (x2 : Int) (x3 : Int) (x4 : Int) (y0 : Int)  (Q : Int → St → Prop) (σ : St) : Prop :=
  P_X8_worn 0 x1 x2 y0 x4 (wi ((σ 9 0 10) + x3)) σ (fun r_2 σ_1 => Q r_2 σ_1)
set_option maxRecDepth 20000 in
set_option maxHeartbeats 2000000 in
theorem e_P_X0_sizeNext_J17  {x1 : Int} {x2 : Int} {x3 : Int} {x4 : Int} {y0 : Int}  {Q : Int → St → Prop} {σ : St}   (h : P_X0_sizeNext_J17 x1 x2 x3 x4 y0 Q σ) : E Y_X0_sizeNext 3 0 0 (QI Q) ww 0 0 17 [some (vR 0 0), some (vI x1), some (vI x2), some (vI x3), some (vI x4), none] [vI y0] σ := by
  unfold P_X0_sizeNext_J17 at h
  refine E_istore (ls' := [some (vR 0 0), some (vI x1), some (vI x2), some (vI x3), some (vI x4), some (vI y0)]) dX0_sizeNext_17 (by decide) rfl ?_
  refine E_aload_n dX0_sizeNext_19 rfl rfl ?_
  refine E_getr (i := 0) dX0_sizeNext_20 fl_RX0_16 rfl rfl (go_0_0 _ _) ?_
  refine E_iload_n dX0_sizeNext_23 rfl rfl ?_
  refine E_iload_n dX0_sizeNext_24 rfl rfl ?_
  refine E_iload dX0_sizeNext_25 rfl ?_
  refine E_iload dX0_sizeNext_27 rfl ?_
  refine E_aload_n dX0_sizeNext_29 rfl rfl ?_
  refine E_getr (i := 0) dX0_sizeNext_30 fl_RX0_20 rfl rfl (go_0_1 _ _) ?_
  refine E_geti (i := 0) dX0_sizeNext_33 fl_RX0_29 rfl ?_
  refine E_iload_n dX0_sizeNext_36 rfl rfl ?_
  refine E_iadd dX0_sizeNext_37 ?_
  refine E_callV (Y' := Y_X8_worn) (as := [vI x1, vI x2, vI y0, vI x4, vI (wi ((σ 9 0 10) + x3))]) (st := []) dX0_sizeNext_38 lk_RX0_46 m_X8_worn (by decide) (Nat.le_refl _) (Nat.le_refl _) rfl rfl (Nat.le_of_ble_eq_true rfl) (s_X8_worn h) (fun r0 B0 σ_1 h => ?_)
  obtain ⟨r_2, rfl, rfl, h⟩ := h
  exact E_iret dX0_sizeNext_41 rfl ⟨_, rfl, rfl, h⟩
def P_X0_sizeNext  (x1 : Int) (x2 : Int) (x3 : Int) (x4 : Int) (σ : St) (Q : Int → St → Prop) : Prop :=
  (if x3 = 0 then 0 ≤ x1 ∧ x1 < 6 ∧ P_X0_sizeNext_J17 x1 x2 x3 x4 (σ 1006 0 x1) Q σ else P_X0_sizeNext_J17 x1 x2 x3 x4 0 Q σ)
set_option maxRecDepth 20000 in
set_option maxHeartbeats 2000000 in
theorem s_X0_sizeNext   {x1 : Int} {x2 : Int} {x3 : Int} {x4 : Int} {σ : St} {Q : Int → St → Prop} (h : P_X0_sizeNext x1 x2 x3 x4 σ Q) : Cn Y_X0_sizeNext 3 0 0 ww σ [vR 0 0, vI x1, vI x2, vI x3, vI x4] (QI Q) := by
  refine Cn_of [some (vR 0 0), some (vI x1), some (vI x2), some (vI x3), some (vI x4), none] (by decide) (Nat.le_of_ble_eq_true rfl) rfl ?_
  unfold P_X0_sizeNext at h
  refine E_iload_n dX0_sizeNext_0 rfl rfl ?_
  refine E_if_ne (tgt := 16) dX0_sizeNext_1 (by decide) (fun hc => ?_) (fun hc => ?_)
  · have h := Eq.mp (if_neg hc) h
    refine E_ic dX0_sizeNext_16 rfl ?_
    exact e_P_X0_sizeNext_J17 h
  · have h := Eq.mp (if_pos hc) h
    refine E_aload_n dX0_sizeNext_4 rfl rfl ?_
    refine E_getr (i := 0) dX0_sizeNext_5 fl_RX0_20 rfl rfl (go_0_1 _ _) ?_
    refine E_getr (i := 0) dX0_sizeNext_8 fl_RX0_43 rfl rfl (go_9_6 _ _) ?_
    refine E_iload_n dX0_sizeNext_11 rfl rfl ?_
    obtain ⟨hg0, hg1, h⟩ := h
    refine E_iald dX0_sizeNext_12 sh_1006 hg0 hg1 ?_
    refine E_goto (tgt := 17) dX0_sizeNext_13 (by decide) ?_
    exact e_P_X0_sizeNext_J17 h
abbrev Y_X0_bestQuestion : My := (yX0_bestQuestion, cX0_bestQuestion, 9, some .int)
theorem dX0_bestQuestion_0 : decode cX0_bestQuestion 0 = .ok (.iload_n 1, 1) := by decide +kernel
theorem dX0_bestQuestion_1 : decode cX0_bestQuestion 1 = .ok (.invokestatic 68, 3) := by decide +kernel
theorem dX0_bestQuestion_4 : decode cX0_bestQuestion 4 = .ok (.istore_n 2, 1) := by decide +kernel
theorem dX0_bestQuestion_5 : decode cX0_bestQuestion 5 = .ok (.iload_n 2, 1) := by decide +kernel
theorem dX0_bestQuestion_6 : decode cX0_bestQuestion 6 = .ok (.istore_n 3, 1) := by decide +kernel
theorem dX0_bestQuestion_7 : decode cX0_bestQuestion 7 = .ok (.iconst (-1), 1) := by decide +kernel
theorem dX0_bestQuestion_8 : decode cX0_bestQuestion 8 = .ok (.istore 4, 2) := by decide +kernel
theorem dX0_bestQuestion_10 : decode cX0_bestQuestion 10 = .ok (.iconst 0, 1) := by decide +kernel
theorem dX0_bestQuestion_11 : decode cX0_bestQuestion 11 = .ok (.istore 5, 2) := by decide +kernel
theorem dX0_bestQuestion_13 : decode cX0_bestQuestion 13 = .ok (.iload 5, 2) := by decide +kernel
theorem dX0_bestQuestion_15 : decode cX0_bestQuestion 15 = .ok (.bipush 30, 2) := by decide +kernel
theorem dX0_bestQuestion_17 : decode cX0_bestQuestion 17 = .ok (.if_icmp .gt 71, 3) := by decide +kernel
theorem dX0_bestQuestion_20 : decode cX0_bestQuestion 20 = .ok (.iconst 0, 1) := by decide +kernel
theorem dX0_bestQuestion_21 : decode cX0_bestQuestion 21 = .ok (.istore 6, 2) := by decide +kernel
theorem dX0_bestQuestion_23 : decode cX0_bestQuestion 23 = .ok (.iload 6, 2) := by decide +kernel
theorem dX0_bestQuestion_25 : decode cX0_bestQuestion 25 = .ok (.aload_n 0, 1) := by decide +kernel
theorem dX0_bestQuestion_26 : decode cX0_bestQuestion 26 = .ok (.getfield 16, 3) := by decide +kernel
theorem dX0_bestQuestion_29 : decode cX0_bestQuestion 29 = .ok (.getfield 73, 3) := by decide +kernel
theorem dX0_bestQuestion_32 : decode cX0_bestQuestion 32 = .ok (.if_icmp .ge 50, 3) := by decide +kernel
theorem dX0_bestQuestion_35 : decode cX0_bestQuestion 35 = .ok (.aload_n 0, 1) := by decide +kernel
theorem dX0_bestQuestion_36 : decode cX0_bestQuestion 36 = .ok (.iload_n 1, 1) := by decide +kernel
theorem dX0_bestQuestion_37 : decode cX0_bestQuestion 37 = .ok (.iload 5, 2) := by decide +kernel
theorem dX0_bestQuestion_39 : decode cX0_bestQuestion 39 = .ok (.iload 6, 2) := by decide +kernel
theorem dX0_bestQuestion_41 : decode cX0_bestQuestion 41 = .ok (.invokevirtual 76, 3) := by decide +kernel
theorem dX0_bestQuestion_44 : decode cX0_bestQuestion 44 = .ok (.istore 7, 2) := by decide +kernel
theorem dX0_bestQuestion_46 : decode cX0_bestQuestion 46 = .ok (.iload 7, 2) := by decide +kernel
theorem dX0_bestQuestion_48 : decode cX0_bestQuestion 48 = .ok (.iload_n 2, 1) := by decide +kernel
theorem dX0_bestQuestion_49 : decode cX0_bestQuestion 49 = .ok (.iload 7, 2) := by decide +kernel
theorem dX0_bestQuestion_51 : decode cX0_bestQuestion 51 = .ok (.isub, 1) := by decide +kernel
theorem dX0_bestQuestion_52 : decode cX0_bestQuestion 52 = .ok (.invokestatic 80, 3) := by decide +kernel
theorem dX0_bestQuestion_55 : decode cX0_bestQuestion 55 = .ok (.istore 8, 2) := by decide +kernel
theorem dX0_bestQuestion_57 : decode cX0_bestQuestion 57 = .ok (.iload 8, 2) := by decide +kernel
theorem dX0_bestQuestion_59 : decode cX0_bestQuestion 59 = .ok (.iload_n 3, 1) := by decide +kernel
theorem dX0_bestQuestion_60 : decode cX0_bestQuestion 60 = .ok (.if_icmp .ge 16, 3) := by decide +kernel
theorem dX0_bestQuestion_63 : decode cX0_bestQuestion 63 = .ok (.iload 8, 2) := by decide +kernel
theorem dX0_bestQuestion_65 : decode cX0_bestQuestion 65 = .ok (.istore_n 3, 1) := by decide +kernel
theorem dX0_bestQuestion_66 : decode cX0_bestQuestion 66 = .ok (.bipush 8, 2) := by decide +kernel
theorem dX0_bestQuestion_68 : decode cX0_bestQuestion 68 = .ok (.iload 5, 2) := by decide +kernel
theorem dX0_bestQuestion_70 : decode cX0_bestQuestion 70 = .ok (.imul, 1) := by decide +kernel
theorem dX0_bestQuestion_71 : decode cX0_bestQuestion 71 = .ok (.iload 6, 2) := by decide +kernel
theorem dX0_bestQuestion_73 : decode cX0_bestQuestion 73 = .ok (.iadd, 1) := by decide +kernel
theorem dX0_bestQuestion_74 : decode cX0_bestQuestion 74 = .ok (.istore 4, 2) := by decide +kernel
theorem dX0_bestQuestion_76 : decode cX0_bestQuestion 76 = .ok (.iinc 6 1, 3) := by decide +kernel
theorem dX0_bestQuestion_79 : decode cX0_bestQuestion 79 = .ok (.goto (-56), 3) := by decide +kernel
theorem dX0_bestQuestion_82 : decode cX0_bestQuestion 82 = .ok (.iinc 5 1, 3) := by decide +kernel
theorem dX0_bestQuestion_85 : decode cX0_bestQuestion 85 = .ok (.goto (-72), 3) := by decide +kernel
theorem dX0_bestQuestion_88 : decode cX0_bestQuestion 88 = .ok (.iload 4, 2) := by decide +kernel
theorem dX0_bestQuestion_90 : decode cX0_bestQuestion 90 = .ok (.ireturn, 1) := by decide +kernel
theorem fl_RX0_73 : FL RX0 73 8 10 := ⟨inG (i := 215) (by decide +kernel) (by decide +kernel), by decide, by decide⟩
theorem lk_RX0_68 : Cond.methodLink RX0 68 yJ6_bitCount_0f7a4 ∈ tG := inG (i := 1251) (by decide +kernel) (by decide +kernel)
theorem lk_RX0_76 : Cond.methodLink RX0 76 yX0_fallersAfter ∈ tG := inG (i := 1252) (by decide +kernel) (by decide +kernel)
theorem lk_RX0_80 : Cond.methodLink RX0 80 Lib.Math.max.name ∈ tG := inG (i := 1256) (by decide +kernel) (by decide +kernel)
theorem m_X0_fallersAfter : MV Y_X0_fallersAfter 3 0 := ⟨⟨inG (i := 1255) (by decide +kernel) (by decide +kernel), inG (i := 107) (by decide +kernel) (by decide +kernel), by decide, by decide, by decide, by decide +kernel⟩, inG (i := 1254) (by decide +kernel) (by decide +kernel), inG (i := 28) (by decide +kernel) (by decide +kernel), by decide⟩
def P_X0_bestQuestion_L23  (x1 : Int) (x2 : Int) (x5 : Int) (K : Int → Int → St → Prop) (Q : Int → St → Prop) : Nat → Int → Int → Int → St → Prop
  | 0, _, _, _, _ => False
  | n + 1, x3, x4, x6, σ => (if (σ 8 0 10) ≤ x6 then K x3 x4 σ else P_X0_fallersAfter x1 x5 x6 σ (fun r_4 σ_3 => (if x3 ≤ (max r_4 (wi (x2 - r_4))) then (P_X0_bestQuestion_L23 x1 x2 x5 K Q n) x3 x4 (wi (x6 + 1)) σ_3 else (P_X0_bestQuestion_L23 x1 x2 x5 K Q n) (max r_4 (wi (x2 - r_4))) (wi ((wi (8 * x5)) + x6)) (wi (x6 + 1)) σ_3)))
set_option maxRecDepth 20000 in
set_option maxHeartbeats 2000000 in
theorem e_P_X0_bestQuestion_L23  {x1 : Int} {x2 : Int} {x5 : Int} {K : Int → Int → St → Prop} {Q : Int → St → Prop}  (hK : ∀ x3 x4 σ, K x3 x4 σ → E Y_X0_bestQuestion 3 0 0 (QI Q) ww 0 0 82 [some (vR 0 0), some (vI x1), some (vI x2), some (vI x3), some (vI x4), some (vI x5), none, none, none] [] σ) : ∀ (n : Nat) (x3 : Int) (x4 : Int) (x6 : Int) (σ : St), P_X0_bestQuestion_L23 x1 x2 x5 K Q n x3 x4 x6 σ → E Y_X0_bestQuestion 3 0 0 (QI Q) ww 0 0 23 [some (vR 0 0), some (vI x1), some (vI x2), some (vI x3), some (vI x4), some (vI x5), some (vI x6), none, none] [] σ := by
  intro n
  induction n with
  | zero => intro x3 x4 x6 σ h; exact h.elim
  | succ n hR =>
    intro x3 x4 x6 σ h
    unfold P_X0_bestQuestion_L23 at h
    refine E_iload dX0_bestQuestion_23 rfl ?_
    refine E_aload_n dX0_bestQuestion_25 rfl rfl ?_
    refine E_getr (i := 0) dX0_bestQuestion_26 fl_RX0_16 rfl rfl (go_0_0 _ _) ?_
    refine E_geti (i := 0) dX0_bestQuestion_29 fl_RX0_73 rfl ?_
    refine E_icmp_ge (tgt := 82) dX0_bestQuestion_32 (by decide) (fun hc => ?_) (fun hc => ?_)
    · have h := Eq.mp (if_pos hc) h
      refine E_wk2 [some (vR 0 0), some (vI x1), some (vI x2), some (vI x3), some (vI x4), some (vI x5), none, none, none] ⟨rfl, ⟨rfl, ⟨rfl, ⟨rfl, ⟨rfl, ⟨rfl, trivial⟩⟩⟩⟩⟩⟩ ?_
      exact hK _ _ _ h
    · have h := Eq.mp (if_neg hc) h
      refine E_aload_n dX0_bestQuestion_35 rfl rfl ?_
      refine E_iload_n dX0_bestQuestion_36 rfl rfl ?_
      refine E_iload dX0_bestQuestion_37 rfl ?_
      refine E_iload dX0_bestQuestion_39 rfl ?_
      refine E_callV (Y' := Y_X0_fallersAfter) (as := [vI x1, vI x5, vI x6]) (st := []) dX0_bestQuestion_41 lk_RX0_76 m_X0_fallersAfter (by decide) (Nat.le_refl _) (Nat.le_refl _) rfl rfl (Nat.le_of_ble_eq_true rfl) (s_X0_fallersAfter h) (fun r0 B0 σ_3 h => ?_)
      obtain ⟨r_4, rfl, rfl, h⟩ := h
      refine E_istore (ls' := [some (vR 0 0), some (vI x1), some (vI x2), some (vI x3), some (vI x4), some (vI x5), some (vI x6), some (vI r_4), none]) dX0_bestQuestion_44 (by decide) rfl ?_
      refine E_iload dX0_bestQuestion_46 rfl ?_
      refine E_iload_n dX0_bestQuestion_48 rfl rfl ?_
      refine E_iload dX0_bestQuestion_49 rfl ?_
      refine E_isub dX0_bestQuestion_51 ?_
      refine E_mmax dX0_bestQuestion_52 lk_RX0_80 (by decide) (Nat.le_refl _) (Nat.le_refl _) (Nat.le_of_ble_eq_true rfl) ?_
      refine E_istore (ls' := [some (vR 0 0), some (vI x1), some (vI x2), some (vI x3), some (vI x4), some (vI x5), some (vI x6), some (vI r_4), some (vI (max r_4 (wi (x2 - r_4))))]) dX0_bestQuestion_55 (by decide) rfl ?_
      refine E_iload dX0_bestQuestion_57 rfl ?_
      refine E_iload_n dX0_bestQuestion_59 rfl rfl ?_
      refine E_icmp_ge (tgt := 76) dX0_bestQuestion_60 (by decide) (fun hc => ?_) (fun hc => ?_)
      · have h := Eq.mp (if_pos hc) h
        refine E_iinc (ls' := [some (vR 0 0), some (vI x1), some (vI x2), some (vI x3), some (vI x4), some (vI x5), some (vI (wi (x6 + 1))), some (vI r_4), some (vI (max r_4 (wi (x2 - r_4))))]) dX0_bestQuestion_76 rfl (by decide) rfl rfl ?_
        refine E_goto (tgt := 23) dX0_bestQuestion_79 (by decide) ?_
        refine E_wk2 [some (vR 0 0), some (vI x1), some (vI x2), some (vI x3), some (vI x4), some (vI x5), some (vI (wi (x6 + 1))), none, none] ⟨rfl, ⟨rfl, ⟨rfl, ⟨rfl, ⟨rfl, ⟨rfl, ⟨rfl, trivial⟩⟩⟩⟩⟩⟩⟩ ?_
        exact hR _ _ _ _ h
      · have h := Eq.mp (if_neg hc) h
        refine E_iload dX0_bestQuestion_63 rfl ?_
        refine E_istore_n (ls' := [some (vR 0 0), some (vI x1), some (vI x2), some (vI (max r_4 (wi (x2 - r_4)))), some (vI x4), some (vI x5), some (vI x6), some (vI r_4), some (vI (max r_4 (wi (x2 - r_4))))]) dX0_bestQuestion_65 rfl (by decide) rfl ?_
        refine E_bp dX0_bestQuestion_66 rfl ?_
        refine E_iload dX0_bestQuestion_68 rfl ?_
        refine E_imul dX0_bestQuestion_70 ?_
        refine E_iload dX0_bestQuestion_71 rfl ?_
        refine E_iadd dX0_bestQuestion_73 ?_
        refine E_istore (ls' := [some (vR 0 0), some (vI x1), some (vI x2), some (vI (max r_4 (wi (x2 - r_4)))), some (vI (wi ((wi (8 * x5)) + x6))), some (vI x5), some (vI x6), some (vI r_4), some (vI (max r_4 (wi (x2 - r_4))))]) dX0_bestQuestion_74 (by decide) rfl ?_
        refine E_iinc (ls' := [some (vR 0 0), some (vI x1), some (vI x2), some (vI (max r_4 (wi (x2 - r_4)))), some (vI (wi ((wi (8 * x5)) + x6))), some (vI x5), some (vI (wi (x6 + 1))), some (vI r_4), some (vI (max r_4 (wi (x2 - r_4))))]) dX0_bestQuestion_76 rfl (by decide) rfl rfl ?_
        refine E_goto (tgt := 23) dX0_bestQuestion_79 (by decide) ?_
        refine E_wk2 [some (vR 0 0), some (vI x1), some (vI x2), some (vI (max r_4 (wi (x2 - r_4)))), some (vI (wi ((wi (8 * x5)) + x6))), some (vI x5), some (vI (wi (x6 + 1))), none, none] ⟨rfl, ⟨rfl, ⟨rfl, ⟨rfl, ⟨rfl, ⟨rfl, ⟨rfl, trivial⟩⟩⟩⟩⟩⟩⟩ ?_
        exact hR _ _ _ _ h
def P_X0_bestQuestion_L13  (x1 : Int) (x2 : Int)  (Q : Int → St → Prop) : Nat → Int → Int → Int → St → Prop
  | 0, _, _, _, _ => False
  | n + 1, x3, x4, x5, σ => (if 30 < x5 then Q x4 σ else P_X0_bestQuestion_L23 x1 x2 x5 (fun x3_5 x4_6 σ_7 => (P_X0_bestQuestion_L13 x1 x2 Q n) x3_5 x4_6 (wi (x5 + 1)) σ_7) Q FU x3 x4 0 σ)
set_option maxRecDepth 20000 in
set_option maxHeartbeats 2000000 in
theorem e_P_X0_bestQuestion_L13  {x1 : Int} {x2 : Int}  {Q : Int → St → Prop}   : ∀ (n : Nat) (x3 : Int) (x4 : Int) (x5 : Int) (σ : St), P_X0_bestQuestion_L13 x1 x2 Q n x3 x4 x5 σ → E Y_X0_bestQuestion 3 0 0 (QI Q) ww 0 0 13 [some (vR 0 0), some (vI x1), some (vI x2), some (vI x3), some (vI x4), some (vI x5), none, none, none] [] σ := by
  intro n
  induction n with
  | zero => intro x3 x4 x5 σ h; exact h.elim
  | succ n hR =>
    intro x3 x4 x5 σ h
    unfold P_X0_bestQuestion_L13 at h
    refine E_iload dX0_bestQuestion_13 rfl ?_
    refine E_bp dX0_bestQuestion_15 rfl ?_
    refine E_icmp_gt (tgt := 88) dX0_bestQuestion_17 (by decide) (fun hc => ?_) (fun hc => ?_)
    · have h := Eq.mp (if_pos hc) h
      refine E_iload dX0_bestQuestion_88 rfl ?_
      exact E_iret dX0_bestQuestion_90 rfl ⟨_, rfl, rfl, h⟩
    · have h := Eq.mp (if_neg hc) h
      refine E_ic dX0_bestQuestion_20 rfl ?_
      refine E_istore (ls' := [some (vR 0 0), some (vI x1), some (vI x2), some (vI x3), some (vI x4), some (vI x5), some (vI 0), none, none]) dX0_bestQuestion_21 (by decide) rfl ?_
      refine e_P_X0_bestQuestion_L23 ?_ _ _ _ _ _ h
      · intro x3_5 x4_6 σ_7 h
        refine E_iinc (ls' := [some (vR 0 0), some (vI x1), some (vI x2), some (vI x3_5), some (vI x4_6), some (vI (wi (x5 + 1))), none, none, none]) dX0_bestQuestion_82 rfl (by decide) rfl rfl ?_
        refine E_goto (tgt := 13) dX0_bestQuestion_85 (by decide) ?_
        exact hR _ _ _ _ h
def P_X0_bestQuestion  (x1 : Int) (σ : St) (Q : Int → St → Prop) : Prop :=
  P_J6_bitCount_0f7a4 x1 σ (fun r_2 σ_1 => P_X0_bestQuestion_L13 x1 r_2 Q FU r_2 (-1) 0 σ_1)
set_option maxRecDepth 20000 in
set_option maxHeartbeats 2000000 in
theorem s_X0_bestQuestion   {x1 : Int} {σ : St} {Q : Int → St → Prop} (h : P_X0_bestQuestion x1 σ Q) : Cn Y_X0_bestQuestion 3 0 0 ww σ [vR 0 0, vI x1] (QI Q) := by
  refine Cn_of [some (vR 0 0), some (vI x1), none, none, none, none, none, none, none] (by decide) (Nat.le_of_ble_eq_true rfl) rfl ?_
  unfold P_X0_bestQuestion at h
  refine E_iload_n dX0_bestQuestion_0 rfl rfl ?_
  refine E_callS (Y' := Y_J6_bitCount_0f7a4) (as := [vI x1]) (st := []) dX0_bestQuestion_1 lk_RX0_68 m_J6_bitCount_0f7a4 (by decide) (Nat.le_refl _) (Nat.le_refl _) rfl rfl (Nat.le_of_ble_eq_true rfl) (s_J6_bitCount_0f7a4 h) (fun r0 B0 σ_1 h => ?_)
  obtain ⟨r_2, rfl, rfl, h⟩ := h
  refine E_istore_n (ls' := [some (vR 0 0), some (vI x1), some (vI r_2), none, none, none, none, none, none]) dX0_bestQuestion_4 rfl (by decide) rfl ?_
  refine E_iload_n dX0_bestQuestion_5 rfl rfl ?_
  refine E_istore_n (ls' := [some (vR 0 0), some (vI x1), some (vI r_2), some (vI r_2), none, none, none, none, none]) dX0_bestQuestion_6 rfl (by decide) rfl ?_
  refine E_ic dX0_bestQuestion_7 rfl ?_
  refine E_istore (ls' := [some (vR 0 0), some (vI x1), some (vI r_2), some (vI r_2), some (vI (-1)), none, none, none, none]) dX0_bestQuestion_8 (by decide) rfl ?_
  refine E_ic dX0_bestQuestion_10 rfl ?_
  refine E_istore (ls' := [some (vR 0 0), some (vI x1), some (vI r_2), some (vI r_2), some (vI (-1)), some (vI 0), none, none, none]) dX0_bestQuestion_11 (by decide) rfl ?_
  refine e_P_X0_bestQuestion_L13  _ _ _ _ _ h
abbrev Y_X0_homeByOdds : My := (yX0_homeByOdds, cX0_homeByOdds, 8, some .int)
theorem dX0_homeByOdds_0 : decode cX0_homeByOdds 0 = .ok (.iload 4, 2) := by decide +kernel
theorem dX0_homeByOdds_2 : decode cX0_homeByOdds 2 = .ok (.ifCond .gt 36, 3) := by decide +kernel
theorem dX0_homeByOdds_5 : decode cX0_homeByOdds 5 = .ok (.aload_n 0, 1) := by decide +kernel
theorem dX0_homeByOdds_6 : decode cX0_homeByOdds 6 = .ok (.getfield 16, 3) := by decide +kernel
theorem dX0_homeByOdds_9 : decode cX0_homeByOdds 9 = .ok (.iload_n 2, 1) := by decide +kernel
theorem dX0_homeByOdds_10 : decode cX0_homeByOdds 10 = .ok (.aload_n 0, 1) := by decide +kernel
theorem dX0_homeByOdds_11 : decode cX0_homeByOdds 11 = .ok (.getfield 20, 3) := by decide +kernel
theorem dX0_homeByOdds_14 : decode cX0_homeByOdds 14 = .ok (.getfield 50, 3) := by decide +kernel
theorem dX0_homeByOdds_17 : decode cX0_homeByOdds 17 = .ok (.invokevirtual 53, 3) := by decide +kernel
theorem dX0_homeByOdds_20 : decode cX0_homeByOdds 20 = .ok (.aload_n 0, 1) := by decide +kernel
theorem dX0_homeByOdds_21 : decode cX0_homeByOdds 21 = .ok (.getfield 16, 3) := by decide +kernel
theorem dX0_homeByOdds_24 : decode cX0_homeByOdds 24 = .ok (.getfield 65, 3) := by decide +kernel
theorem dX0_homeByOdds_27 : decode cX0_homeByOdds 27 = .ok (.iload_n 1, 1) := by decide +kernel
theorem dX0_homeByOdds_28 : decode cX0_homeByOdds 28 = .ok (.iaload, 1) := by decide +kernel
theorem dX0_homeByOdds_29 : decode cX0_homeByOdds 29 = .ok (.if_icmp .ne 7, 3) := by decide +kernel
theorem dX0_homeByOdds_32 : decode cX0_homeByOdds 32 = .ok (.iconst 1, 1) := by decide +kernel
theorem dX0_homeByOdds_33 : decode cX0_homeByOdds 33 = .ok (.goto 4, 3) := by decide +kernel
theorem dX0_homeByOdds_36 : decode cX0_homeByOdds 36 = .ok (.iconst 0, 1) := by decide +kernel
theorem dX0_homeByOdds_37 : decode cX0_homeByOdds 37 = .ok (.ireturn, 1) := by decide +kernel
theorem dX0_homeByOdds_38 : decode cX0_homeByOdds 38 = .ok (.aload_n 0, 1) := by decide +kernel
theorem dX0_homeByOdds_39 : decode cX0_homeByOdds 39 = .ok (.iload_n 1, 1) := by decide +kernel
theorem dX0_homeByOdds_40 : decode cX0_homeByOdds 40 = .ok (.iload_n 2, 1) := by decide +kernel
theorem dX0_homeByOdds_41 : decode cX0_homeByOdds 41 = .ok (.iload_n 3, 1) := by decide +kernel
theorem dX0_homeByOdds_42 : decode cX0_homeByOdds 42 = .ok (.bipush 9, 2) := by decide +kernel
theorem dX0_homeByOdds_44 : decode cX0_homeByOdds 44 = .ok (.invokevirtual 39, 3) := by decide +kernel
theorem dX0_homeByOdds_47 : decode cX0_homeByOdds 47 = .ok (.istore 6, 2) := by decide +kernel
theorem dX0_homeByOdds_49 : decode cX0_homeByOdds 49 = .ok (.aload_n 0, 1) := by decide +kernel
theorem dX0_homeByOdds_50 : decode cX0_homeByOdds 50 = .ok (.iload_n 1, 1) := by decide +kernel
theorem dX0_homeByOdds_51 : decode cX0_homeByOdds 51 = .ok (.iload_n 2, 1) := by decide +kernel
theorem dX0_homeByOdds_52 : decode cX0_homeByOdds 52 = .ok (.iload_n 3, 1) := by decide +kernel
theorem dX0_homeByOdds_53 : decode cX0_homeByOdds 53 = .ok (.iconst 0, 1) := by decide +kernel
theorem dX0_homeByOdds_54 : decode cX0_homeByOdds 54 = .ok (.invokevirtual 39, 3) := by decide +kernel
theorem dX0_homeByOdds_57 : decode cX0_homeByOdds 57 = .ok (.istore 7, 2) := by decide +kernel
theorem dX0_homeByOdds_59 : decode cX0_homeByOdds 59 = .ok (.iload 5, 2) := by decide +kernel
theorem dX0_homeByOdds_61 : decode cX0_homeByOdds 61 = .ok (.aload_n 0, 1) := by decide +kernel
theorem dX0_homeByOdds_62 : decode cX0_homeByOdds 62 = .ok (.iload_n 1, 1) := by decide +kernel
theorem dX0_homeByOdds_63 : decode cX0_homeByOdds 63 = .ok (.iload 6, 2) := by decide +kernel
theorem dX0_homeByOdds_65 : decode cX0_homeByOdds 65 = .ok (.iload_n 3, 1) := by decide +kernel
theorem dX0_homeByOdds_66 : decode cX0_homeByOdds 66 = .ok (.iconst 1, 1) := by decide +kernel
theorem dX0_homeByOdds_67 : decode cX0_homeByOdds 67 = .ok (.iadd, 1) := by decide +kernel
theorem dX0_homeByOdds_68 : decode cX0_homeByOdds 68 = .ok (.iload 4, 2) := by decide +kernel
theorem dX0_homeByOdds_70 : decode cX0_homeByOdds 70 = .ok (.iconst 1, 1) := by decide +kernel
theorem dX0_homeByOdds_71 : decode cX0_homeByOdds 71 = .ok (.isub, 1) := by decide +kernel
theorem dX0_homeByOdds_72 : decode cX0_homeByOdds 72 = .ok (.iload 5, 2) := by decide +kernel
theorem dX0_homeByOdds_74 : decode cX0_homeByOdds 74 = .ok (.invokevirtual 88, 3) := by decide +kernel
theorem dX0_homeByOdds_77 : decode cX0_homeByOdds 77 = .ok (.imul, 1) := by decide +kernel
theorem dX0_homeByOdds_78 : decode cX0_homeByOdds 78 = .ok (.bipush 10, 2) := by decide +kernel
theorem dX0_homeByOdds_80 : decode cX0_homeByOdds 80 = .ok (.iload 5, 2) := by decide +kernel
theorem dX0_homeByOdds_82 : decode cX0_homeByOdds 82 = .ok (.isub, 1) := by decide +kernel
theorem dX0_homeByOdds_83 : decode cX0_homeByOdds 83 = .ok (.aload_n 0, 1) := by decide +kernel
theorem dX0_homeByOdds_84 : decode cX0_homeByOdds 84 = .ok (.iload_n 1, 1) := by decide +kernel
theorem dX0_homeByOdds_85 : decode cX0_homeByOdds 85 = .ok (.iload 7, 2) := by decide +kernel
theorem dX0_homeByOdds_87 : decode cX0_homeByOdds 87 = .ok (.iload_n 3, 1) := by decide +kernel
theorem dX0_homeByOdds_88 : decode cX0_homeByOdds 88 = .ok (.iconst 1, 1) := by decide +kernel
theorem dX0_homeByOdds_89 : decode cX0_homeByOdds 89 = .ok (.iadd, 1) := by decide +kernel
theorem dX0_homeByOdds_90 : decode cX0_homeByOdds 90 = .ok (.iload 4, 2) := by decide +kernel
theorem dX0_homeByOdds_92 : decode cX0_homeByOdds 92 = .ok (.iconst 1, 1) := by decide +kernel
theorem dX0_homeByOdds_93 : decode cX0_homeByOdds 93 = .ok (.isub, 1) := by decide +kernel
theorem dX0_homeByOdds_94 : decode cX0_homeByOdds 94 = .ok (.iload 5, 2) := by decide +kernel
theorem dX0_homeByOdds_96 : decode cX0_homeByOdds 96 = .ok (.invokevirtual 88, 3) := by decide +kernel
theorem dX0_homeByOdds_99 : decode cX0_homeByOdds 99 = .ok (.imul, 1) := by decide +kernel
theorem dX0_homeByOdds_100 : decode cX0_homeByOdds 100 = .ok (.iadd, 1) := by decide +kernel
theorem dX0_homeByOdds_101 : decode cX0_homeByOdds 101 = .ok (.ireturn, 1) := by decide +kernel
theorem fl_RX0_65 : FL RX0 65 8 6 := ⟨inG (i := 204) (by decide +kernel) (by decide +kernel), by decide, by decide⟩
theorem lk_RX0_39 : Cond.methodLink RX0 39 yX0_sizeNext ∈ tG := inG (i := 1182) (by decide +kernel) (by decide +kernel)
theorem lk_RX0_88 : Cond.methodLink RX0 88 yX0_homeByOdds ∈ tG := inG (i := 1265) (by decide +kernel) (by decide +kernel)
theorem m_X0_homeByOdds : MV Y_X0_homeByOdds 5 0 := ⟨⟨inG (i := 1268) (by decide +kernel) (by decide +kernel), inG (i := 107) (by decide +kernel) (by decide +kernel), by decide, by decide, by decide, by decide +kernel⟩, inG (i := 1267) (by decide +kernel) (by decide +kernel), inG (i := 29) (by decide +kernel) (by decide +kernel), by decide⟩
theorem m_X0_sizeNext : MV Y_X0_sizeNext 4 0 := ⟨⟨inG (i := 1185) (by decide +kernel) (by decide +kernel), inG (i := 107) (by decide +kernel) (by decide +kernel), by decide, by decide, by decide, by decide +kernel⟩, inG (i := 1184) (by decide +kernel) (by decide +kernel), inG (i := 26) (by decide +kernel) (by decide +kernel), by decide⟩
def P_X0_homeByOdds_F (HB : Int → Int → Int → Int → Int → St → (Int → St → Prop) → Prop) (x1 : Int) (x2 : Int) (x3 : Int) (x4 : Int) (x5 : Int) (σ : St) (Q : Int → St → Prop) : Prop :=
  (if 0 < x4 then P_X0_sizeNext x1 x2 x3 9 σ (fun r_2 σ_1 => P_X0_sizeNext x1 x2 x3 0 σ_1 (fun r_4 σ_3 => HB x1 r_2 (wi (x3 + 1)) (wi (x4 - 1)) x5 σ_3 (fun r_6 σ_5 => HB x1 r_4 (wi (x3 + 1)) (wi (x4 - 1)) x5 σ_5 (fun r_8 σ_7 => Q (wi ((wi (x5 * r_6)) + (wi ((wi (10 - x5)) * r_8)))) σ_7)))) else P_X8_fall 0 x2 1001 0 σ (fun r_10 σ_9 => 0 ≤ x1 ∧ x1 < 6 ∧ (if r_10 = (σ_9 906 0 x1) then Q 1 σ_9 else Q 0 σ_9)))
set_option maxRecDepth 20000 in
set_option maxHeartbeats 2000000 in
theorem s_X0_homeByOdds_F {d : Nat} {HB : Int → Int → Int → Int → Int → St → (Int → St → Prop) → Prop} (hHB : ∀ x1 x2 x3 x4 x5 σ Q, HB x1 x2 x3 x4 x5 σ Q → Cn Y_X0_homeByOdds d 0 0 ww σ [vR 0 0, vI x1, vI x2, vI x3, vI x4, vI x5] (QI Q)) {x1 : Int} {x2 : Int} {x3 : Int} {x4 : Int} {x5 : Int} {σ : St} {Q : Int → St → Prop} (h : P_X0_homeByOdds_F HB x1 x2 x3 x4 x5 σ Q) : Cn Y_X0_homeByOdds (d + 8) 0 0 ww σ [vR 0 0, vI x1, vI x2, vI x3, vI x4, vI x5] (QI Q) := by
  refine Cn_of [some (vR 0 0), some (vI x1), some (vI x2), some (vI x3), some (vI x4), some (vI x5), none, none] (by decide) (Nat.le_of_ble_eq_true rfl) rfl ?_
  unfold P_X0_homeByOdds_F at h
  refine E_iload dX0_homeByOdds_0 rfl ?_
  refine E_if_gt (tgt := 38) dX0_homeByOdds_2 (by decide) (fun hc => ?_) (fun hc => ?_)
  · have h := Eq.mp (if_pos hc) h
    refine E_aload_n dX0_homeByOdds_38 rfl rfl ?_
    refine E_iload_n dX0_homeByOdds_39 rfl rfl ?_
    refine E_iload_n dX0_homeByOdds_40 rfl rfl ?_
    refine E_iload_n dX0_homeByOdds_41 rfl rfl ?_
    refine E_bp dX0_homeByOdds_42 rfl ?_
    refine E_callV (Y' := Y_X0_sizeNext) (as := [vI x1, vI x2, vI x3, vI 9]) (st := []) dX0_homeByOdds_44 lk_RX0_39 m_X0_sizeNext (by omega) (Nat.le_refl _) (Nat.le_refl _) rfl rfl (Nat.le_of_ble_eq_true rfl) (s_X0_sizeNext h) (fun r0 B0 σ_1 h => ?_)
    obtain ⟨r_2, rfl, rfl, h⟩ := h
    refine E_istore (ls' := [some (vR 0 0), some (vI x1), some (vI x2), some (vI x3), some (vI x4), some (vI x5), some (vI r_2), none]) dX0_homeByOdds_47 (by decide) rfl ?_
    refine E_aload_n dX0_homeByOdds_49 rfl rfl ?_
    refine E_iload_n dX0_homeByOdds_50 rfl rfl ?_
    refine E_iload_n dX0_homeByOdds_51 rfl rfl ?_
    refine E_iload_n dX0_homeByOdds_52 rfl rfl ?_
    refine E_ic dX0_homeByOdds_53 rfl ?_
    refine E_callV (Y' := Y_X0_sizeNext) (as := [vI x1, vI x2, vI x3, vI 0]) (st := []) dX0_homeByOdds_54 lk_RX0_39 m_X0_sizeNext (by omega) (Nat.le_refl _) (Nat.le_refl _) rfl rfl (Nat.le_of_ble_eq_true rfl) (s_X0_sizeNext h) (fun r0 B0 σ_3 h => ?_)
    obtain ⟨r_4, rfl, rfl, h⟩ := h
    refine E_istore (ls' := [some (vR 0 0), some (vI x1), some (vI x2), some (vI x3), some (vI x4), some (vI x5), some (vI r_2), some (vI r_4)]) dX0_homeByOdds_57 (by decide) rfl ?_
    refine E_iload dX0_homeByOdds_59 rfl ?_
    refine E_aload_n dX0_homeByOdds_61 rfl rfl ?_
    refine E_iload_n dX0_homeByOdds_62 rfl rfl ?_
    refine E_iload dX0_homeByOdds_63 rfl ?_
    refine E_iload_n dX0_homeByOdds_65 rfl rfl ?_
    refine E_ic dX0_homeByOdds_66 rfl ?_
    refine E_iadd dX0_homeByOdds_67 ?_
    refine E_iload dX0_homeByOdds_68 rfl ?_
    refine E_ic dX0_homeByOdds_70 rfl ?_
    refine E_isub dX0_homeByOdds_71 ?_
    refine E_iload dX0_homeByOdds_72 rfl ?_
    refine E_callV (Y' := Y_X0_homeByOdds) (as := [vI x1, vI r_2, vI (wi (x3 + 1)), vI (wi (x4 - 1)), vI x5]) (st := [vI x5]) dX0_homeByOdds_74 lk_RX0_88 m_X0_homeByOdds (by omega) (Nat.le_refl _) (Nat.le_refl _) rfl rfl (Nat.le_of_ble_eq_true rfl) (hHB _ _ _ _ _ _ _ h) (fun r0 B0 σ_5 h => ?_)
    obtain ⟨r_6, rfl, rfl, h⟩ := h
    refine E_imul dX0_homeByOdds_77 ?_
    refine E_bp dX0_homeByOdds_78 rfl ?_
    refine E_iload dX0_homeByOdds_80 rfl ?_
    refine E_isub dX0_homeByOdds_82 ?_
    refine E_aload_n dX0_homeByOdds_83 rfl rfl ?_
    refine E_iload_n dX0_homeByOdds_84 rfl rfl ?_
    refine E_iload dX0_homeByOdds_85 rfl ?_
    refine E_iload_n dX0_homeByOdds_87 rfl rfl ?_
    refine E_ic dX0_homeByOdds_88 rfl ?_
    refine E_iadd dX0_homeByOdds_89 ?_
    refine E_iload dX0_homeByOdds_90 rfl ?_
    refine E_ic dX0_homeByOdds_92 rfl ?_
    refine E_isub dX0_homeByOdds_93 ?_
    refine E_iload dX0_homeByOdds_94 rfl ?_
    refine E_callV (Y' := Y_X0_homeByOdds) (as := [vI x1, vI r_4, vI (wi (x3 + 1)), vI (wi (x4 - 1)), vI x5]) (st := [vI (wi (10 - x5)), vI (wi (x5 * r_6))]) dX0_homeByOdds_96 lk_RX0_88 m_X0_homeByOdds (by omega) (Nat.le_refl _) (Nat.le_refl _) rfl rfl (Nat.le_of_ble_eq_true rfl) (hHB _ _ _ _ _ _ _ h) (fun r0 B0 σ_7 h => ?_)
    obtain ⟨r_8, rfl, rfl, h⟩ := h
    refine E_imul dX0_homeByOdds_99 ?_
    refine E_iadd dX0_homeByOdds_100 ?_
    exact E_iret dX0_homeByOdds_101 rfl ⟨_, rfl, rfl, h⟩
  · have h := Eq.mp (if_neg hc) h
    refine E_aload_n dX0_homeByOdds_5 rfl rfl ?_
    refine E_getr (i := 0) dX0_homeByOdds_6 fl_RX0_16 rfl rfl (go_0_0 _ _) ?_
    refine E_iload_n dX0_homeByOdds_9 rfl rfl ?_
    refine E_aload_n dX0_homeByOdds_10 rfl rfl ?_
    refine E_getr (i := 0) dX0_homeByOdds_11 fl_RX0_20 rfl rfl (go_0_1 _ _) ?_
    refine E_getr (i := 0) dX0_homeByOdds_14 fl_RX0_50 rfl rfl (go_9_1 _ _) ?_
    refine E_callV (Y' := Y_X8_fall) (as := [vI x2, vR 1001 0]) (st := []) dX0_homeByOdds_17 lk_RX0_53 m_X8_fall (by omega) (Nat.le_refl _) (Nat.le_refl _) rfl rfl (Nat.le_of_ble_eq_true rfl) (s_X8_fall h) (fun r0 B0 σ_9 h => ?_)
    obtain ⟨r_10, rfl, rfl, h⟩ := h
    refine E_aload_n dX0_homeByOdds_20 rfl rfl ?_
    refine E_getr (i := 0) dX0_homeByOdds_21 fl_RX0_16 rfl rfl (go_0_0 _ _) ?_
    refine E_getr (i := 0) dX0_homeByOdds_24 fl_RX0_65 rfl rfl (go_8_6 _ _) ?_
    refine E_iload_n dX0_homeByOdds_27 rfl rfl ?_
    obtain ⟨hg0, hg1, h⟩ := h
    refine E_iald dX0_homeByOdds_28 sh_906 hg0 hg1 ?_
    refine E_icmp_ne (tgt := 36) dX0_homeByOdds_29 (by decide) (fun hc => ?_) (fun hc => ?_)
    · have h := Eq.mp (if_neg hc) h
      refine E_ic dX0_homeByOdds_36 rfl ?_
      exact E_iret dX0_homeByOdds_37 rfl ⟨_, rfl, rfl, h⟩
    · have h := Eq.mp (if_pos hc) h
      refine E_ic dX0_homeByOdds_32 rfl ?_
      refine E_goto (tgt := 37) dX0_homeByOdds_33 (by decide) ?_
      exact E_iret dX0_homeByOdds_37 rfl ⟨_, rfl, rfl, h⟩
def PHB : Nat → Int → Int → Int → Int → Int → St → (Int → St → Prop) → Prop
  | 0 => fun _ _ _ _ _ _ _ => False
  | f + 1 => P_X0_homeByOdds_F (PHB f)
theorem sHB : ∀ (f : Nat) x1 x2 x3 x4 x5 σ Q, PHB f x1 x2 x3 x4 x5 σ Q → Cn Y_X0_homeByOdds (8 * f) 0 0 ww σ [vR 0 0, vI x1, vI x2, vI x3, vI x4, vI x5] (QI Q)
  | 0, _, _, _, _, _, _, _, h => h.elim
  | f + 1, _, _, _, _, _, _, _, h => s_X0_homeByOdds_F (d := 8 * f) (sHB f) h
def P_X0_homeByOdds (x1 x2 x3 x4 x5 : Int) (σ : St) (Q : Int → St → Prop) : Prop := PHB 16 x1 x2 x3 x4 x5 σ Q
theorem s_X0_homeByOdds {x1 x2 x3 x4 x5 : Int} {σ : St} {Q : Int → St → Prop} (h : P_X0_homeByOdds x1 x2 x3 x4 x5 σ Q) : Cn Y_X0_homeByOdds 128 0 0 ww σ [vR 0 0, vI x1, vI x2, vI x3, vI x4, vI x5] (QI Q) := sHB 16 _ _ _ _ _ _ _ h
abbrev Y_X1_leastChange : My := (yX1_leastChange, cX1_leastChange, 3, some .int)
theorem dX1_leastChange_0 : decode cX1_leastChange 0 = .ok (.iconst 0, 1) := by decide +kernel
theorem dX1_leastChange_1 : decode cX1_leastChange 1 = .ok (.istore_n 2, 1) := by decide +kernel
theorem dX1_leastChange_2 : decode cX1_leastChange 2 = .ok (.iload_n 2, 1) := by decide +kernel
theorem dX1_leastChange_3 : decode cX1_leastChange 3 = .ok (.bipush 60, 2) := by decide +kernel
theorem dX1_leastChange_5 : decode cX1_leastChange 5 = .ok (.if_icmp .ge 49, 3) := by decide +kernel
theorem dX1_leastChange_8 : decode cX1_leastChange 8 = .ok (.aload_n 0, 1) := by decide +kernel
theorem dX1_leastChange_9 : decode cX1_leastChange 9 = .ok (.iload_n 1, 1) := by decide +kernel
theorem dX1_leastChange_10 : decode cX1_leastChange 10 = .ok (.aload_n 0, 1) := by decide +kernel
theorem dX1_leastChange_11 : decode cX1_leastChange 11 = .ok (.getfield 33, 3) := by decide +kernel
theorem dX1_leastChange_14 : decode cX1_leastChange 14 = .ok (.getfield 56, 3) := by decide +kernel
theorem dX1_leastChange_17 : decode cX1_leastChange 17 = .ok (.iload_n 1, 1) := by decide +kernel
theorem dX1_leastChange_18 : decode cX1_leastChange 18 = .ok (.iaload, 1) := by decide +kernel
theorem dX1_leastChange_19 : decode cX1_leastChange 19 = .ok (.iload_n 2, 1) := by decide +kernel
theorem dX1_leastChange_20 : decode cX1_leastChange 20 = .ok (.isub, 1) := by decide +kernel
theorem dX1_leastChange_21 : decode cX1_leastChange 21 = .ok (.invokevirtual 59, 3) := by decide +kernel
theorem dX1_leastChange_24 : decode cX1_leastChange 24 = .ok (.ifCond .ne 22, 3) := by decide +kernel
theorem dX1_leastChange_27 : decode cX1_leastChange 27 = .ok (.aload_n 0, 1) := by decide +kernel
theorem dX1_leastChange_28 : decode cX1_leastChange 28 = .ok (.iload_n 1, 1) := by decide +kernel
theorem dX1_leastChange_29 : decode cX1_leastChange 29 = .ok (.aload_n 0, 1) := by decide +kernel
theorem dX1_leastChange_30 : decode cX1_leastChange 30 = .ok (.getfield 33, 3) := by decide +kernel
theorem dX1_leastChange_33 : decode cX1_leastChange 33 = .ok (.getfield 56, 3) := by decide +kernel
theorem dX1_leastChange_36 : decode cX1_leastChange 36 = .ok (.iload_n 1, 1) := by decide +kernel
theorem dX1_leastChange_37 : decode cX1_leastChange 37 = .ok (.iaload, 1) := by decide +kernel
theorem dX1_leastChange_38 : decode cX1_leastChange 38 = .ok (.iload_n 2, 1) := by decide +kernel
theorem dX1_leastChange_39 : decode cX1_leastChange 39 = .ok (.iadd, 1) := by decide +kernel
theorem dX1_leastChange_40 : decode cX1_leastChange 40 = .ok (.invokevirtual 59, 3) := by decide +kernel
theorem dX1_leastChange_43 : decode cX1_leastChange 43 = .ok (.ifCond .eq 5, 3) := by decide +kernel
theorem dX1_leastChange_46 : decode cX1_leastChange 46 = .ok (.iload_n 2, 1) := by decide +kernel
theorem dX1_leastChange_47 : decode cX1_leastChange 47 = .ok (.ireturn, 1) := by decide +kernel
theorem dX1_leastChange_48 : decode cX1_leastChange 48 = .ok (.iinc 2 1, 3) := by decide +kernel
theorem dX1_leastChange_51 : decode cX1_leastChange 51 = .ok (.goto (-49), 3) := by decide +kernel
theorem dX1_leastChange_54 : decode cX1_leastChange 54 = .ok (.iconst (-1), 1) := by decide +kernel
theorem dX1_leastChange_55 : decode cX1_leastChange 55 = .ok (.ireturn, 1) := by decide +kernel
theorem lk_RX1_59 : Cond.methodLink RX1 59 yX1_wouldGoHome ∈ tG := inG (i := 1112) (by decide +kernel) (by decide +kernel)
theorem m_X1_wouldGoHome : MV Y_X1_wouldGoHome 2 1 := ⟨⟨inG (i := 1115) (by decide +kernel) (by decide +kernel), inG (i := 108) (by decide +kernel) (by decide +kernel), by decide, by decide, by decide, by decide +kernel⟩, inG (i := 1114) (by decide +kernel) (by decide +kernel), inG (i := 22) (by decide +kernel) (by decide +kernel), by decide⟩
def P_X1_leastChange_L2  (x1 : Int)  (Q : Int → St → Prop) : Nat → Int → St → Prop
  | 0, _, _ => False
  | n + 1, x2, σ => (if 60 ≤ x2 then Q (-1) σ else 0 ≤ x1 ∧ x1 < 6 ∧ P_X1_wouldGoHome x1 (wi ((σ 1002 0 x1) - x2)) σ (fun r_2 σ_1 => (if r_2 = 0 then 0 ≤ x1 ∧ x1 < 6 ∧ P_X1_wouldGoHome x1 (wi ((σ_1 1002 0 x1) + x2)) σ_1 (fun r_4 σ_3 => (if r_4 = 0 then (P_X1_leastChange_L2 x1 Q n) (wi (x2 + 1)) σ_3 else Q x2 σ_3)) else Q x2 σ_1)))
set_option maxRecDepth 20000 in
set_option maxHeartbeats 2000000 in
theorem e_P_X1_leastChange_L2  {x1 : Int}  {Q : Int → St → Prop}   : ∀ (n : Nat) (x2 : Int) (σ : St), P_X1_leastChange_L2 x1 Q n x2 σ → E Y_X1_leastChange 2 0 0 (QI Q) ww 0 0 2 [some (vR 1 0), some (vI x1), some (vI x2)] [] σ := by
  intro n
  induction n with
  | zero => intro x2 σ h; exact h.elim
  | succ n hR =>
    intro x2 σ h
    unfold P_X1_leastChange_L2 at h
    refine E_iload_n dX1_leastChange_2 rfl rfl ?_
    refine E_bp dX1_leastChange_3 rfl ?_
    refine E_icmp_ge (tgt := 54) dX1_leastChange_5 (by decide) (fun hc => ?_) (fun hc => ?_)
    · have h := Eq.mp (if_pos hc) h
      refine E_ic dX1_leastChange_54 rfl ?_
      exact E_iret dX1_leastChange_55 rfl ⟨_, rfl, rfl, h⟩
    · have h := Eq.mp (if_neg hc) h
      refine E_aload_n dX1_leastChange_8 rfl rfl ?_
      refine E_iload_n dX1_leastChange_9 rfl rfl ?_
      refine E_aload_n dX1_leastChange_10 rfl rfl ?_
      refine E_getr (i := 0) dX1_leastChange_11 fl_RX1_33 rfl rfl (go_1_1 _ _) ?_
      refine E_getr (i := 0) dX1_leastChange_14 fl_RX1_56 rfl rfl (go_9_2 _ _) ?_
      refine E_iload_n dX1_leastChange_17 rfl rfl ?_
      obtain ⟨hg0, hg1, h⟩ := h
      refine E_iald dX1_leastChange_18 sh_1002 hg0 hg1 ?_
      refine E_iload_n dX1_leastChange_19 rfl rfl ?_
      refine E_isub dX1_leastChange_20 ?_
      refine E_callV (Y' := Y_X1_wouldGoHome) (as := [vI x1, vI (wi ((σ 1002 0 x1) - x2))]) (st := []) dX1_leastChange_21 lk_RX1_59 m_X1_wouldGoHome (by decide) (Nat.le_refl _) (Nat.le_refl _) rfl rfl (Nat.le_of_ble_eq_true rfl) (s_X1_wouldGoHome h) (fun r0 B0 σ_1 h => ?_)
      obtain ⟨r_2, rfl, rfl, h⟩ := h
      refine E_if_ne (tgt := 46) dX1_leastChange_24 (by decide) (fun hc => ?_) (fun hc => ?_)
      · have h := Eq.mp (if_neg hc) h
        refine E_iload_n dX1_leastChange_46 rfl rfl ?_
        exact E_iret dX1_leastChange_47 rfl ⟨_, rfl, rfl, h⟩
      · have h := Eq.mp (if_pos hc) h
        refine E_aload_n dX1_leastChange_27 rfl rfl ?_
        refine E_iload_n dX1_leastChange_28 rfl rfl ?_
        refine E_aload_n dX1_leastChange_29 rfl rfl ?_
        refine E_getr (i := 0) dX1_leastChange_30 fl_RX1_33 rfl rfl (go_1_1 _ _) ?_
        refine E_getr (i := 0) dX1_leastChange_33 fl_RX1_56 rfl rfl (go_9_2 _ _) ?_
        refine E_iload_n dX1_leastChange_36 rfl rfl ?_
        obtain ⟨hg0, hg1, h⟩ := h
        refine E_iald dX1_leastChange_37 sh_1002 hg0 hg1 ?_
        refine E_iload_n dX1_leastChange_38 rfl rfl ?_
        refine E_iadd dX1_leastChange_39 ?_
        refine E_callV (Y' := Y_X1_wouldGoHome) (as := [vI x1, vI (wi ((σ_1 1002 0 x1) + x2))]) (st := []) dX1_leastChange_40 lk_RX1_59 m_X1_wouldGoHome (by decide) (Nat.le_refl _) (Nat.le_refl _) rfl rfl (Nat.le_of_ble_eq_true rfl) (s_X1_wouldGoHome h) (fun r0 B0 σ_3 h => ?_)
        obtain ⟨r_4, rfl, rfl, h⟩ := h
        refine E_if_eq (tgt := 48) dX1_leastChange_43 (by decide) (fun hc => ?_) (fun hc => ?_)
        · have h := Eq.mp (if_pos hc) h
          refine E_iinc (ls' := [some (vR 1 0), some (vI x1), some (vI (wi (x2 + 1)))]) dX1_leastChange_48 rfl (by decide) rfl rfl ?_
          refine E_goto (tgt := 2) dX1_leastChange_51 (by decide) ?_
          exact hR _ _ h
        · have h := Eq.mp (if_neg hc) h
          refine E_iload_n dX1_leastChange_46 rfl rfl ?_
          exact E_iret dX1_leastChange_47 rfl ⟨_, rfl, rfl, h⟩
def P_X1_leastChange  (x1 : Int) (σ : St) (Q : Int → St → Prop) : Prop :=
  P_X1_leastChange_L2 x1 Q FU 0 σ
set_option maxRecDepth 20000 in
set_option maxHeartbeats 2000000 in
theorem s_X1_leastChange   {x1 : Int} {σ : St} {Q : Int → St → Prop} (h : P_X1_leastChange x1 σ Q) : Cn Y_X1_leastChange 2 0 0 ww σ [vR 1 0, vI x1] (QI Q) := by
  refine Cn_of [some (vR 1 0), some (vI x1), none] (by decide) (Nat.le_of_ble_eq_true rfl) rfl ?_
  unfold P_X1_leastChange at h
  refine E_ic dX1_leastChange_0 rfl ?_
  refine E_istore_n (ls' := [some (vR 1 0), some (vI x1), some (vI 0)]) dX1_leastChange_1 rfl (by decide) rfl ?_
  refine e_P_X1_leastChange_L2  _ _ _ h
abbrev Y_X3_perform : My := (yX3_perform, cX3_perform, 5, some .boolean)
theorem dX3_perform_0 : decode cX3_perform 0 = .ok (.aload_n 0, 1) := by decide +kernel
theorem dX3_perform_1 : decode cX3_perform 1 = .ok (.getfield 15, 3) := by decide +kernel
theorem dX3_perform_4 : decode cX3_perform 4 = .ok (.iload_n 1, 1) := by decide +kernel
theorem dX3_perform_5 : decode cX3_perform 5 = .ok (.iaload, 1) := by decide +kernel
theorem dX3_perform_6 : decode cX3_perform 6 = .ok (.istore_n 3, 1) := by decide +kernel
theorem dX3_perform_7 : decode cX3_perform 7 = .ok (.aload_n 0, 1) := by decide +kernel
theorem dX3_perform_8 : decode cX3_perform 8 = .ok (.getfield 18, 3) := by decide +kernel
theorem dX3_perform_11 : decode cX3_perform 11 = .ok (.iload_n 1, 1) := by decide +kernel
theorem dX3_perform_12 : decode cX3_perform 12 = .ok (.iaload, 1) := by decide +kernel
theorem dX3_perform_13 : decode cX3_perform 13 = .ok (.istore 4, 2) := by decide +kernel
theorem dX3_perform_15 : decode cX3_perform 15 = .ok (.aload_n 0, 1) := by decide +kernel
theorem dX3_perform_16 : decode cX3_perform 16 = .ok (.getfield 9, 3) := by decide +kernel
theorem dX3_perform_19 : decode cX3_perform 19 = .ok (.iload_n 1, 1) := by decide +kernel
theorem dX3_perform_20 : decode cX3_perform 20 = .ok (.iaload, 1) := by decide +kernel
theorem dX3_perform_21 : decode cX3_perform 21 = .ok (.tableswitch 60 1 4 #[31, 37, 45, 53], 31) := by decide +kernel
theorem dX3_perform_52 : decode cX3_perform 52 = .ok (.aload_n 2, 1) := by decide +kernel
theorem dX3_perform_53 : decode cX3_perform 53 = .ok (.iload_n 3, 1) := by decide +kernel
theorem dX3_perform_54 : decode cX3_perform 54 = .ok (.invokevirtual 31, 3) := by decide +kernel
theorem dX3_perform_57 : decode cX3_perform 57 = .ok (.ireturn, 1) := by decide +kernel
theorem dX3_perform_58 : decode cX3_perform 58 = .ok (.aload_n 2, 1) := by decide +kernel
theorem dX3_perform_59 : decode cX3_perform 59 = .ok (.iload_n 3, 1) := by decide +kernel
theorem dX3_perform_60 : decode cX3_perform 60 = .ok (.iload 4, 2) := by decide +kernel
theorem dX3_perform_62 : decode cX3_perform 62 = .ok (.invokevirtual 37, 3) := by decide +kernel
theorem dX3_perform_65 : decode cX3_perform 65 = .ok (.ireturn, 1) := by decide +kernel
theorem dX3_perform_66 : decode cX3_perform 66 = .ok (.aload_n 2, 1) := by decide +kernel
theorem dX3_perform_67 : decode cX3_perform 67 = .ok (.iload_n 3, 1) := by decide +kernel
theorem dX3_perform_68 : decode cX3_perform 68 = .ok (.iload 4, 2) := by decide +kernel
theorem dX3_perform_70 : decode cX3_perform 70 = .ok (.invokevirtual 41, 3) := by decide +kernel
theorem dX3_perform_73 : decode cX3_perform 73 = .ok (.ireturn, 1) := by decide +kernel
theorem dX3_perform_74 : decode cX3_perform 74 = .ok (.aload_n 2, 1) := by decide +kernel
theorem dX3_perform_75 : decode cX3_perform 75 = .ok (.invokevirtual 44, 3) := by decide +kernel
theorem dX3_perform_78 : decode cX3_perform 78 = .ok (.pop, 1) := by decide +kernel
theorem dX3_perform_79 : decode cX3_perform 79 = .ok (.iconst 1, 1) := by decide +kernel
theorem dX3_perform_80 : decode cX3_perform 80 = .ok (.ireturn, 1) := by decide +kernel
theorem dX3_perform_81 : decode cX3_perform 81 = .ok (.aload_n 2, 1) := by decide +kernel
theorem dX3_perform_82 : decode cX3_perform 82 = .ok (.invokevirtual 48, 3) := by decide +kernel
theorem dX3_perform_85 : decode cX3_perform 85 = .ok (.pop, 1) := by decide +kernel
theorem dX3_perform_86 : decode cX3_perform 86 = .ok (.iconst 1, 1) := by decide +kernel
theorem dX3_perform_87 : decode cX3_perform 87 = .ok (.ireturn, 1) := by decide +kernel
theorem lk_RX3_31 : Cond.methodLink RX3 31 yX9_sendOff ∈ tG := inG (i := 1045) (by decide +kernel) (by decide +kernel)
theorem lk_RX3_37 : Cond.methodLink RX3 37 yX9_setGap ∈ tG := inG (i := 1046) (by decide +kernel) (by decide +kernel)
theorem lk_RX3_41 : Cond.methodLink RX3 41 yX9_carryTo ∈ tG := inG (i := 1047) (by decide +kernel) (by decide +kernel)
theorem lk_RX3_44 : Cond.methodLink RX3 44 yX9_passDay ∈ tG := inG (i := 1048) (by decide +kernel) (by decide +kernel)
theorem lk_RX3_48 : Cond.methodLink RX3 48 yX9_passBeat ∈ tG := inG (i := 1049) (by decide +kernel) (by decide +kernel)
def P_X3_perform  (o0 : Nat) (x1 : Int) (o2 : Nat) (σ : St) (Q : Int → St → Prop) : Prop :=
  0 ≤ x1 ∧ x1 < 40 ∧ 0 ≤ x1 ∧ x1 < 40 ∧ 0 ≤ x1 ∧ x1 < 40 ∧ (if (σ 400 o0 x1) = 1 then P_X9_sendOff o2 (σ 401 o0 x1) σ (fun r_2 σ_1 => (r_2 = 0 ∨ r_2 = 1) ∧ Q r_2 σ_1) else if (σ 400 o0 x1) = 2 then P_X9_setGap o2 (σ 401 o0 x1) (σ 402 o0 x1) σ (fun r_4 σ_3 => (r_4 = 0 ∨ r_4 = 1) ∧ Q r_4 σ_3) else if (σ 400 o0 x1) = 3 then P_X9_carryTo o2 (σ 401 o0 x1) (σ 402 o0 x1) σ (fun r_6 σ_5 => (r_6 = 0 ∨ r_6 = 1) ∧ Q r_6 σ_5) else if (σ 400 o0 x1) = 4 then P_X9_passDay o2 σ (fun r_8 σ_7 => Q 1 σ_7) else P_X9_passBeat o2 σ (fun r_10 σ_9 => Q 1 σ_9))
set_option maxRecDepth 20000 in
set_option maxHeartbeats 2000000 in
theorem s_X3_perform   {o0 : Nat} {x1 : Int} {o2 : Nat} {σ : St} {Q : Int → St → Prop} (h : P_X3_perform o0 x1 o2 σ Q) : Cn Y_X3_perform 6 0 0 ww σ [vR 3 o0, vI x1, vR 9 o2] (QI Q) := by
  refine Cn_of [some (vR 3 o0), some (vI x1), some (vR 9 o2), none, none] (by decide) (Nat.le_of_ble_eq_true rfl) rfl ?_
  unfold P_X3_perform at h
  refine E_aload_n dX3_perform_0 rfl rfl ?_
  refine E_getr (i := o0) dX3_perform_1 fl_RX3_15 rfl rfl (go_3_1 _ _) ?_
  refine E_iload_n dX3_perform_4 rfl rfl ?_
  obtain ⟨hg0, hg1, h⟩ := h
  refine E_iald dX3_perform_5 sh_401 hg0 hg1 ?_
  refine E_istore_n (ls' := [some (vR 3 o0), some (vI x1), some (vR 9 o2), some (vI (σ 401 o0 x1)), none]) dX3_perform_6 rfl (by decide) rfl ?_
  refine E_aload_n dX3_perform_7 rfl rfl ?_
  refine E_getr (i := o0) dX3_perform_8 fl_RX3_18 rfl rfl (go_3_2 _ _) ?_
  refine E_iload_n dX3_perform_11 rfl rfl ?_
  obtain ⟨hg0, hg1, h⟩ := h
  refine E_iald dX3_perform_12 sh_402 hg0 hg1 ?_
  refine E_istore (ls' := [some (vR 3 o0), some (vI x1), some (vR 9 o2), some (vI (σ 401 o0 x1)), some (vI (σ 402 o0 x1))]) dX3_perform_13 (by decide) rfl ?_
  refine E_aload_n dX3_perform_15 rfl rfl ?_
  refine E_getr (i := o0) dX3_perform_16 fl_RX3_9 rfl rfl (go_3_0 _ _) ?_
  refine E_iload_n dX3_perform_19 rfl rfl ?_
  obtain ⟨hg0, hg1, h⟩ := h
  refine E_iald dX3_perform_20 sh_400 hg0 hg1 ?_
  by_cases hc : (σ 400 o0 x1) = 1
  · have h := Eq.mp (if_pos hc) h
    refine E_tableIn (off := 31) (tgt := 52) dX3_perform_21 (by omega) (by omega) (by rw [hc]; rfl) (by decide) ?_
    refine E_aload_n dX3_perform_52 rfl rfl ?_
    refine E_iload_n dX3_perform_53 rfl rfl ?_
    refine E_callV (Y' := Y_X9_sendOff) (as := [vI (σ 401 o0 x1)]) (st := []) dX3_perform_54 lk_RX3_31 m_X9_sendOff (by decide) (Nat.le_refl _) (Nat.le_refl _) rfl rfl (Nat.le_of_ble_eq_true rfl) (s_X9_sendOff h) (fun r0 B0 σ_1 h => ?_)
    obtain ⟨r_2, rfl, rfl, h⟩ := h
    obtain ⟨hg0, h⟩ := h
    exact E_zret dX3_perform_57 rfl hg0 ⟨_, rfl, rfl, h⟩
  have h := Eq.mp (if_neg hc) h
  have hc0 := hc
  clear hc
  by_cases hc : (σ 400 o0 x1) = 2
  · have h := Eq.mp (if_pos hc) h
    refine E_tableIn (off := 37) (tgt := 58) dX3_perform_21 (by omega) (by omega) (by rw [hc]; rfl) (by decide) ?_
    refine E_aload_n dX3_perform_58 rfl rfl ?_
    refine E_iload_n dX3_perform_59 rfl rfl ?_
    refine E_iload dX3_perform_60 rfl ?_
    refine E_callV (Y' := Y_X9_setGap) (as := [vI (σ 401 o0 x1), vI (σ 402 o0 x1)]) (st := []) dX3_perform_62 lk_RX3_37 m_X9_setGap (by decide) (Nat.le_refl _) (Nat.le_refl _) rfl rfl (Nat.le_of_ble_eq_true rfl) (s_X9_setGap h) (fun r0 B0 σ_3 h => ?_)
    obtain ⟨r_4, rfl, rfl, h⟩ := h
    obtain ⟨hg0, h⟩ := h
    exact E_zret dX3_perform_65 rfl hg0 ⟨_, rfl, rfl, h⟩
  have h := Eq.mp (if_neg hc) h
  have hc1 := hc
  clear hc
  by_cases hc : (σ 400 o0 x1) = 3
  · have h := Eq.mp (if_pos hc) h
    refine E_tableIn (off := 45) (tgt := 66) dX3_perform_21 (by omega) (by omega) (by rw [hc]; rfl) (by decide) ?_
    refine E_aload_n dX3_perform_66 rfl rfl ?_
    refine E_iload_n dX3_perform_67 rfl rfl ?_
    refine E_iload dX3_perform_68 rfl ?_
    refine E_callV (Y' := Y_X9_carryTo) (as := [vI (σ 401 o0 x1), vI (σ 402 o0 x1)]) (st := []) dX3_perform_70 lk_RX3_41 m_X9_carryTo (by decide) (Nat.le_refl _) (Nat.le_refl _) rfl rfl (Nat.le_of_ble_eq_true rfl) (s_X9_carryTo h) (fun r0 B0 σ_5 h => ?_)
    obtain ⟨r_6, rfl, rfl, h⟩ := h
    obtain ⟨hg0, h⟩ := h
    exact E_zret dX3_perform_73 rfl hg0 ⟨_, rfl, rfl, h⟩
  have h := Eq.mp (if_neg hc) h
  have hc2 := hc
  clear hc
  by_cases hc : (σ 400 o0 x1) = 4
  · have h := Eq.mp (if_pos hc) h
    refine E_tableIn (off := 53) (tgt := 74) dX3_perform_21 (by omega) (by omega) (by rw [hc]; rfl) (by decide) ?_
    refine E_aload_n dX3_perform_74 rfl rfl ?_
    refine E_callV (Y' := Y_X9_passDay) (as := []) (st := []) dX3_perform_75 lk_RX3_44 m_X9_passDay (by decide) (Nat.le_refl _) (Nat.le_refl _) rfl rfl (Nat.le_of_ble_eq_true rfl) (s_X9_passDay h) (fun r0 B0 σ_7 h => ?_)
    obtain ⟨r_8, rfl, rfl, h⟩ := h
    refine E_pop dX3_perform_78 (fun _ q => by cases q) ?_
    refine E_ic dX3_perform_79 rfl ?_
    exact E_zret dX3_perform_80 rfl (by decide) ⟨_, rfl, rfl, h⟩
  have h := Eq.mp (if_neg hc) h
  have hc3 := hc
  clear hc
  refine E_tableOut (tgt := 81) dX3_perform_21 (by omega) (by decide) ?_
  refine E_aload_n dX3_perform_81 rfl rfl ?_
  refine E_callV (Y' := Y_X9_passBeat) (as := []) (st := []) dX3_perform_82 lk_RX3_48 m_X9_passBeat (by decide) (Nat.le_refl _) (Nat.le_refl _) rfl rfl (Nat.le_of_ble_eq_true rfl) (s_X9_passBeat h) (fun r0 B0 σ_9 h => ?_)
  obtain ⟨r_10, rfl, rfl, h⟩ := h
  refine E_pop dX3_perform_85 (fun _ q => by cases q) ?_
  refine E_ic dX3_perform_86 rfl ?_
  exact E_zret dX3_perform_87 rfl (by decide) ⟨_, rfl, rfl, h⟩
abbrev Y_X6_takeNewName : My := (yX6_takeNewName, cX6_takeNewName, 4, some .long)
theorem dX6_takeNewName_0 : decode cX6_takeNewName 0 = .ok (.aload_n 0, 1) := by decide +kernel
theorem dX6_takeNewName_1 : decode cX6_takeNewName 1 = .ok (.getfield 18, 3) := by decide +kernel
theorem dX6_takeNewName_4 : decode cX6_takeNewName 4 = .ok (.invokevirtual 134, 3) := by decide +kernel
theorem dX6_takeNewName_7 : decode cX6_takeNewName 7 = .ok (.lstore_n 2, 1) := by decide +kernel
theorem dX6_takeNewName_8 : decode cX6_takeNewName 8 = .ok (.aload_n 0, 1) := by decide +kernel
theorem dX6_takeNewName_9 : decode cX6_takeNewName 9 = .ok (.getfield 18, 3) := by decide +kernel
theorem dX6_takeNewName_12 : decode cX6_takeNewName 12 = .ok (.invokevirtual 138, 3) := by decide +kernel
theorem dX6_takeNewName_15 : decode cX6_takeNewName 15 = .ok (.ifCond .ne 14, 3) := by decide +kernel
theorem dX6_takeNewName_18 : decode cX6_takeNewName 18 = .ok (.aload_n 0, 1) := by decide +kernel
theorem dX6_takeNewName_19 : decode cX6_takeNewName 19 = .ok (.getfield 18, 3) := by decide +kernel
theorem dX6_takeNewName_22 : decode cX6_takeNewName 22 = .ok (.iconst 1, 1) := by decide +kernel
theorem dX6_takeNewName_23 : decode cX6_takeNewName 23 = .ok (.invokevirtual 66, 3) := by decide +kernel
theorem dX6_takeNewName_26 : decode cX6_takeNewName 26 = .ok (.goto 19, 3) := by decide +kernel
theorem dX6_takeNewName_29 : decode cX6_takeNewName 29 = .ok (.aload_n 1, 1) := by decide +kernel
theorem dX6_takeNewName_30 : decode cX6_takeNewName 30 = .ok (.lload_n 2, 1) := by decide +kernel
theorem dX6_takeNewName_31 : decode cX6_takeNewName 31 = .ok (.invokevirtual 141, 3) := by decide +kernel
theorem dX6_takeNewName_34 : decode cX6_takeNewName 34 = .ok (.ifCond .eq 11, 3) := by decide +kernel
theorem dX6_takeNewName_37 : decode cX6_takeNewName 37 = .ok (.aload_n 0, 1) := by decide +kernel
theorem dX6_takeNewName_38 : decode cX6_takeNewName 38 = .ok (.getfield 18, 3) := by decide +kernel
theorem dX6_takeNewName_41 : decode cX6_takeNewName 41 = .ok (.iconst 3, 1) := by decide +kernel
theorem dX6_takeNewName_42 : decode cX6_takeNewName 42 = .ok (.invokevirtual 66, 3) := by decide +kernel
theorem dX6_takeNewName_45 : decode cX6_takeNewName 45 = .ok (.aload_n 0, 1) := by decide +kernel
theorem dX6_takeNewName_46 : decode cX6_takeNewName 46 = .ok (.getfield 18, 3) := by decide +kernel
theorem dX6_takeNewName_49 : decode cX6_takeNewName 49 = .ok (.invokevirtual 81, 3) := by decide +kernel
theorem dX6_takeNewName_52 : decode cX6_takeNewName 52 = .ok (.lload_n 2, 1) := by decide +kernel
theorem dX6_takeNewName_53 : decode cX6_takeNewName 53 = .ok (.lreturn, 1) := by decide +kernel
theorem lk_RX6_134 : Cond.methodLink RX6 134 yX10_value ∈ tG := inG (i := 698) (by decide +kernel) (by decide +kernel)
theorem lk_RX6_138 : Cond.methodLink RX6 138 yX10_isName ∈ tG := inG (i := 702) (by decide +kernel) (by decide +kernel)
theorem lk_RX6_141 : Cond.methodLink RX6 141 yX8_isNameTold ∈ tG := inG (i := 710) (by decide +kernel) (by decide +kernel)
theorem m_X10_value : MV Y_X10_value 0 10 := ⟨⟨inG (i := 701) (by decide +kernel) (by decide +kernel), inG (i := 99) (by decide +kernel) (by decide +kernel), by decide, by decide, by decide, by decide +kernel⟩, inG (i := 699) (by decide +kernel) (by decide +kernel), inG (i := 700) (by decide +kernel) (by decide +kernel), by decide⟩
theorem m_X8_isNameTold : MV Y_X8_isNameTold 1 8 := ⟨⟨inG (i := 713) (by decide +kernel) (by decide +kernel), inG (i := 100) (by decide +kernel) (by decide +kernel), by decide, by decide, by decide, by decide +kernel⟩, inG (i := 711) (by decide +kernel) (by decide +kernel), inG (i := 712) (by decide +kernel) (by decide +kernel), by decide⟩
def P_X6_takeNewName_J45  (x2 : Int)  (Q : Int → St → Prop) (σ : St) : Prop :=
  P_X10_next σ (fun σ_7 => Q x2 σ_7)
set_option maxRecDepth 20000 in
set_option maxHeartbeats 2000000 in
theorem e_P_X6_takeNewName_J45  {x2 : Int}  {Q : Int → St → Prop} {σ : St}   (h : P_X6_takeNewName_J45 x2 Q σ) : E Y_X6_takeNewName 6 0 0 (QL Q) ww 0 0 45 [some (vR 6 0), none, some (vL x2), none] [] σ := by
  unfold P_X6_takeNewName_J45 at h
  refine E_aload_n dX6_takeNewName_45 rfl rfl ?_
  refine E_getr (i := 0) dX6_takeNewName_46 fl_RX6_18 rfl rfl (go_6_0 _ _) ?_
  refine E_callV (Y' := Y_X10_next) (as := []) (st := []) dX6_takeNewName_49 lk_RX6_81 m_X10_next (by decide) (Nat.le_refl _) (Nat.le_refl _) rfl rfl (Nat.le_of_ble_eq_true rfl) (s_X10_next h) (fun r0 B0 σ_7 h => ?_)
  obtain ⟨rfl, rfl, h⟩ := h
  refine E_lload_n dX6_takeNewName_52 rfl rfl ?_
  exact E_lret dX6_takeNewName_53 rfl ⟨_, rfl, rfl, h⟩
def P_X6_takeNewName  (o1 : Nat) (σ : St) (Q : Int → St → Prop) : Prop :=
  P_X10_value σ (fun r_2 σ_1 => P_X10_isName σ_1 (fun r_4 σ_3 => (if r_4 = 0 then P_X10_wrong 1 σ_3 (fun σ_9 => P_X6_takeNewName_J45 r_2 Q σ_9) else P_X8_isNameTold o1 r_2 σ_3 (fun r_6 σ_5 => (if r_6 = 0 then P_X6_takeNewName_J45 r_2 Q σ_5 else P_X10_wrong 3 σ_5 (fun σ_8 => P_X6_takeNewName_J45 r_2 Q σ_8))))))
set_option maxRecDepth 20000 in
set_option maxHeartbeats 2000000 in
theorem s_X6_takeNewName   {o1 : Nat} {σ : St} {Q : Int → St → Prop} (h : P_X6_takeNewName o1 σ Q) : Cn Y_X6_takeNewName 6 0 0 ww σ [vR 6 0, vR 8 o1] (QL Q) := by
  refine Cn_of [some (vR 6 0), some (vR 8 o1), none, none] (by decide) (Nat.le_of_ble_eq_true rfl) rfl ?_
  unfold P_X6_takeNewName at h
  refine E_aload_n dX6_takeNewName_0 rfl rfl ?_
  refine E_getr (i := 0) dX6_takeNewName_1 fl_RX6_18 rfl rfl (go_6_0 _ _) ?_
  refine E_callV (Y' := Y_X10_value) (as := []) (st := []) dX6_takeNewName_4 lk_RX6_134 m_X10_value (by decide) (Nat.le_refl _) (Nat.le_refl _) rfl rfl (Nat.le_of_ble_eq_true rfl) (s_X10_value h) (fun r0 B0 σ_1 h => ?_)
  obtain ⟨r_2, rfl, rfl, h⟩ := h
  refine E_lstore_n (ls' := [some (vR 6 0), some (vR 8 o1), some (vL r_2), none]) dX6_takeNewName_7 rfl (by decide) rfl ?_
  refine E_aload_n dX6_takeNewName_8 rfl rfl ?_
  refine E_getr (i := 0) dX6_takeNewName_9 fl_RX6_18 rfl rfl (go_6_0 _ _) ?_
  refine E_callV (Y' := Y_X10_isName) (as := []) (st := []) dX6_takeNewName_12 lk_RX6_138 m_X10_isName (by decide) (Nat.le_refl _) (Nat.le_refl _) rfl rfl (Nat.le_of_ble_eq_true rfl) (s_X10_isName h) (fun r0 B0 σ_3 h => ?_)
  obtain ⟨r_4, rfl, rfl, h⟩ := h
  refine E_if_ne (tgt := 29) dX6_takeNewName_15 (by decide) (fun hc => ?_) (fun hc => ?_)
  · have h := Eq.mp (if_neg hc) h
    refine E_aload_n dX6_takeNewName_29 rfl rfl ?_
    refine E_lload_n dX6_takeNewName_30 rfl rfl ?_
    refine E_callV (Y' := Y_X8_isNameTold) (as := [vL r_2]) (st := []) dX6_takeNewName_31 lk_RX6_141 m_X8_isNameTold (by decide) (Nat.le_refl _) (Nat.le_refl _) rfl rfl (Nat.le_of_ble_eq_true rfl) (s_X8_isNameTold h) (fun r0 B0 σ_5 h => ?_)
    obtain ⟨r_6, rfl, rfl, h⟩ := h
    refine E_if_eq (tgt := 45) dX6_takeNewName_34 (by decide) (fun hc => ?_) (fun hc => ?_)
    · have h := Eq.mp (if_pos hc) h
      refine E_wk2 [some (vR 6 0), none, some (vL r_2), none] ⟨rfl, ⟨rfl, trivial⟩⟩ ?_
      exact e_P_X6_takeNewName_J45 h
    · have h := Eq.mp (if_neg hc) h
      refine E_aload_n dX6_takeNewName_37 rfl rfl ?_
      refine E_getr (i := 0) dX6_takeNewName_38 fl_RX6_18 rfl rfl (go_6_0 _ _) ?_
      refine E_ic dX6_takeNewName_41 rfl ?_
      refine E_callV (Y' := Y_X10_wrong) (as := [vI 3]) (st := []) dX6_takeNewName_42 lk_RX6_66 m_X10_wrong (by decide) (Nat.le_refl _) (Nat.le_refl _) rfl rfl (Nat.le_of_ble_eq_true rfl) (s_X10_wrong h) (fun r0 B0 σ_8 h => ?_)
      obtain ⟨rfl, rfl, h⟩ := h
      refine E_wk2 [some (vR 6 0), none, some (vL r_2), none] ⟨rfl, ⟨rfl, trivial⟩⟩ ?_
      exact e_P_X6_takeNewName_J45 h
  · have h := Eq.mp (if_pos hc) h
    refine E_aload_n dX6_takeNewName_18 rfl rfl ?_
    refine E_getr (i := 0) dX6_takeNewName_19 fl_RX6_18 rfl rfl (go_6_0 _ _) ?_
    refine E_ic dX6_takeNewName_22 rfl ?_
    refine E_callV (Y' := Y_X10_wrong) (as := [vI 1]) (st := []) dX6_takeNewName_23 lk_RX6_66 m_X10_wrong (by decide) (Nat.le_refl _) (Nat.le_refl _) rfl rfl (Nat.le_of_ble_eq_true rfl) (s_X10_wrong h) (fun r0 B0 σ_9 h => ?_)
    obtain ⟨rfl, rfl, h⟩ := h
    refine E_goto (tgt := 45) dX6_takeNewName_26 (by decide) ?_
    refine E_wk2 [some (vR 6 0), none, some (vL r_2), none] ⟨rfl, ⟨rfl, trivial⟩⟩ ?_
    exact e_P_X6_takeNewName_J45 h
abbrev Y_X6_readRank : My := (yX6_readRank, cX6_readRank, 6, none)
theorem dX6_readRank_0 : decode cX6_readRank 0 = .ok (.iload_n 1, 1) := by decide +kernel
theorem dX6_readRank_1 : decode cX6_readRank 1 = .ok (.iconst 4, 1) := by decide +kernel
theorem dX6_readRank_2 : decode cX6_readRank 2 = .ok (.if_icmp .lt 10, 3) := by decide +kernel
theorem dX6_readRank_5 : decode cX6_readRank 5 = .ok (.aload_n 0, 1) := by decide +kernel
theorem dX6_readRank_6 : decode cX6_readRank 6 = .ok (.iload_n 2, 1) := by decide +kernel
theorem dX6_readRank_7 : decode cX6_readRank 7 = .ok (.aload_n 3, 1) := by decide +kernel
theorem dX6_readRank_8 : decode cX6_readRank 8 = .ok (.invokevirtual 175, 3) := by decide +kernel
theorem dX6_readRank_11 : decode cX6_readRank 11 = .ok (.return_, 1) := by decide +kernel
theorem dX6_readRank_12 : decode cX6_readRank 12 = .ok (.aload_n 0, 1) := by decide +kernel
theorem dX6_readRank_13 : decode cX6_readRank 13 = .ok (.iload_n 1, 1) := by decide +kernel
theorem dX6_readRank_14 : decode cX6_readRank 14 = .ok (.iconst 1, 1) := by decide +kernel
theorem dX6_readRank_15 : decode cX6_readRank 15 = .ok (.iadd, 1) := by decide +kernel
theorem dX6_readRank_16 : decode cX6_readRank 16 = .ok (.iload_n 2, 1) := by decide +kernel
theorem dX6_readRank_17 : decode cX6_readRank 17 = .ok (.aload_n 3, 1) := by decide +kernel
theorem dX6_readRank_18 : decode cX6_readRank 18 = .ok (.invokevirtual 171, 3) := by decide +kernel
theorem dX6_readRank_21 : decode cX6_readRank 21 = .ok (.aload_n 0, 1) := by decide +kernel
theorem dX6_readRank_22 : decode cX6_readRank 22 = .ok (.iload_n 1, 1) := by decide +kernel
theorem dX6_readRank_23 : decode cX6_readRank 23 = .ok (.invokevirtual 179, 3) := by decide +kernel
theorem dX6_readRank_26 : decode cX6_readRank 26 = .ok (.istore 4, 2) := by decide +kernel
theorem dX6_readRank_28 : decode cX6_readRank 28 = .ok (.iconst 0, 1) := by decide +kernel
theorem dX6_readRank_29 : decode cX6_readRank 29 = .ok (.istore 5, 2) := by decide +kernel
theorem dX6_readRank_31 : decode cX6_readRank 31 = .ok (.iload 5, 2) := by decide +kernel
theorem dX6_readRank_33 : decode cX6_readRank 33 = .ok (.sipush 1000, 3) := by decide +kernel
theorem dX6_readRank_36 : decode cX6_readRank 36 = .ok (.if_icmp .ge 54, 3) := by decide +kernel
theorem dX6_readRank_39 : decode cX6_readRank 39 = .ok (.iload 4, 2) := by decide +kernel
theorem dX6_readRank_41 : decode cX6_readRank 41 = .ok (.iconst (-1), 1) := by decide +kernel
theorem dX6_readRank_42 : decode cX6_readRank 42 = .ok (.if_icmp .eq 48, 3) := by decide +kernel
theorem dX6_readRank_45 : decode cX6_readRank 45 = .ok (.aload_n 0, 1) := by decide +kernel
theorem dX6_readRank_46 : decode cX6_readRank 46 = .ok (.getfield 18, 3) := by decide +kernel
theorem dX6_readRank_49 : decode cX6_readRank 49 = .ok (.invokevirtual 81, 3) := by decide +kernel
theorem dX6_readRank_52 : decode cX6_readRank 52 = .ok (.aload_n 0, 1) := by decide +kernel
theorem dX6_readRank_53 : decode cX6_readRank 53 = .ok (.iload_n 1, 1) := by decide +kernel
theorem dX6_readRank_54 : decode cX6_readRank 54 = .ok (.iconst 1, 1) := by decide +kernel
theorem dX6_readRank_55 : decode cX6_readRank 55 = .ok (.iadd, 1) := by decide +kernel
theorem dX6_readRank_56 : decode cX6_readRank 56 = .ok (.iload_n 2, 1) := by decide +kernel
theorem dX6_readRank_57 : decode cX6_readRank 57 = .ok (.aload_n 3, 1) := by decide +kernel
theorem dX6_readRank_58 : decode cX6_readRank 58 = .ok (.invokevirtual 171, 3) := by decide +kernel
theorem dX6_readRank_61 : decode cX6_readRank 61 = .ok (.aload_n 3, 1) := by decide +kernel
theorem dX6_readRank_62 : decode cX6_readRank 62 = .ok (.iload 4, 2) := by decide +kernel
theorem dX6_readRank_64 : decode cX6_readRank 64 = .ok (.iconst 0, 1) := by decide +kernel
theorem dX6_readRank_65 : decode cX6_readRank 65 = .ok (.invokevirtual 183, 3) := by decide +kernel
theorem dX6_readRank_68 : decode cX6_readRank 68 = .ok (.iload_n 1, 1) := by decide +kernel
theorem dX6_readRank_69 : decode cX6_readRank 69 = .ok (.iconst 1, 1) := by decide +kernel
theorem dX6_readRank_70 : decode cX6_readRank 70 = .ok (.if_icmp .ne 7, 3) := by decide +kernel
theorem dX6_readRank_73 : decode cX6_readRank 73 = .ok (.iconst (-1), 1) := by decide +kernel
theorem dX6_readRank_74 : decode cX6_readRank 74 = .ok (.goto 8, 3) := by decide +kernel
theorem dX6_readRank_77 : decode cX6_readRank 77 = .ok (.aload_n 0, 1) := by decide +kernel
theorem dX6_readRank_78 : decode cX6_readRank 78 = .ok (.iload_n 1, 1) := by decide +kernel
theorem dX6_readRank_79 : decode cX6_readRank 79 = .ok (.invokevirtual 179, 3) := by decide +kernel
theorem dX6_readRank_82 : decode cX6_readRank 82 = .ok (.istore 4, 2) := by decide +kernel
theorem dX6_readRank_84 : decode cX6_readRank 84 = .ok (.iinc 5 1, 3) := by decide +kernel
theorem dX6_readRank_87 : decode cX6_readRank 87 = .ok (.goto (-56), 3) := by decide +kernel
theorem dX6_readRank_90 : decode cX6_readRank 90 = .ok (.return_, 1) := by decide +kernel
abbrev Y_X6_readPart : My := (yX6_readPart, cX6_readPart, 7, none)
theorem dX6_readPart_0 : decode cX6_readPart 0 = .ok (.aload_n 0, 1) := by decide +kernel
theorem dX6_readPart_1 : decode cX6_readPart 1 = .ok (.invokevirtual 197, 3) := by decide +kernel
theorem dX6_readPart_4 : decode cX6_readPart 4 = .ok (.istore_n 3, 1) := by decide +kernel
theorem dX6_readPart_5 : decode cX6_readPart 5 = .ok (.aload_n 0, 1) := by decide +kernel
theorem dX6_readPart_6 : decode cX6_readPart 6 = .ok (.getfield 18, 3) := by decide +kernel
theorem dX6_readPart_9 : decode cX6_readPart 9 = .ok (.ldc 200, 2) := by decide +kernel
theorem dX6_readPart_11 : decode cX6_readPart 11 = .ok (.invokevirtual 38, 3) := by decide +kernel
theorem dX6_readPart_14 : decode cX6_readPart 14 = .ok (.istore 4, 2) := by decide +kernel
theorem dX6_readPart_16 : decode cX6_readPart 16 = .ok (.aload_n 0, 1) := by decide +kernel
theorem dX6_readPart_17 : decode cX6_readPart 17 = .ok (.getfield 18, 3) := by decide +kernel
theorem dX6_readPart_20 : decode cX6_readPart 20 = .ok (.bipush 40, 2) := by decide +kernel
theorem dX6_readPart_22 : decode cX6_readPart 22 = .ok (.invokevirtual 193, 3) := by decide +kernel
theorem dX6_readPart_25 : decode cX6_readPart 25 = .ok (.istore 5, 2) := by decide +kernel
theorem dX6_readPart_27 : decode cX6_readPart 27 = .ok (.iload_n 3, 1) := by decide +kernel
theorem dX6_readPart_28 : decode cX6_readPart 28 = .ok (.iconst (-1), 1) := by decide +kernel
theorem dX6_readPart_29 : decode cX6_readPart 29 = .ok (.if_icmp .ne 24, 3) := by decide +kernel
theorem dX6_readPart_32 : decode cX6_readPart 32 = .ok (.iload 4, 2) := by decide +kernel
theorem dX6_readPart_34 : decode cX6_readPart 34 = .ok (.ifCond .ne 19, 3) := by decide +kernel
theorem dX6_readPart_37 : decode cX6_readPart 37 = .ok (.iload 5, 2) := by decide +kernel
theorem dX6_readPart_39 : decode cX6_readPart 39 = .ok (.ifCond .ne 14, 3) := by decide +kernel
theorem dX6_readPart_42 : decode cX6_readPart 42 = .ok (.aload_n 0, 1) := by decide +kernel
theorem dX6_readPart_43 : decode cX6_readPart 43 = .ok (.getfield 18, 3) := by decide +kernel
theorem dX6_readPart_46 : decode cX6_readPart 46 = .ok (.iconst 1, 1) := by decide +kernel
theorem dX6_readPart_47 : decode cX6_readPart 47 = .ok (.invokevirtual 66, 3) := by decide +kernel
theorem dX6_readPart_50 : decode cX6_readPart 50 = .ok (.goto 16, 3) := by decide +kernel
theorem dX6_readPart_53 : decode cX6_readPart 53 = .ok (.iload_n 1, 1) := by decide +kernel
theorem dX6_readPart_54 : decode cX6_readPart 54 = .ok (.iconst 5, 1) := by decide +kernel
theorem dX6_readPart_55 : decode cX6_readPart 55 = .ok (.if_icmp .lt 11, 3) := by decide +kernel
theorem dX6_readPart_58 : decode cX6_readPart 58 = .ok (.aload_n 0, 1) := by decide +kernel
theorem dX6_readPart_59 : decode cX6_readPart 59 = .ok (.getfield 18, 3) := by decide +kernel
theorem dX6_readPart_62 : decode cX6_readPart 62 = .ok (.iconst 5, 1) := by decide +kernel
theorem dX6_readPart_63 : decode cX6_readPart 63 = .ok (.invokevirtual 66, 3) := by decide +kernel
theorem dX6_readPart_66 : decode cX6_readPart 66 = .ok (.aload_n 0, 1) := by decide +kernel
theorem dX6_readPart_67 : decode cX6_readPart 67 = .ok (.getfield 18, 3) := by decide +kernel
theorem dX6_readPart_70 : decode cX6_readPart 70 = .ok (.invokevirtual 161, 3) := by decide +kernel
theorem dX6_readPart_73 : decode cX6_readPart 73 = .ok (.ifCond .ne 4, 3) := by decide +kernel
theorem dX6_readPart_76 : decode cX6_readPart 76 = .ok (.return_, 1) := by decide +kernel
theorem dX6_readPart_77 : decode cX6_readPart 77 = .ok (.iload_n 3, 1) := by decide +kernel
theorem dX6_readPart_78 : decode cX6_readPart 78 = .ok (.ifCond .ne 14, 3) := by decide +kernel
theorem dX6_readPart_81 : decode cX6_readPart 81 = .ok (.aload_n 0, 1) := by decide +kernel
theorem dX6_readPart_82 : decode cX6_readPart 82 = .ok (.getfield 18, 3) := by decide +kernel
theorem dX6_readPart_85 : decode cX6_readPart 85 = .ok (.invokevirtual 134, 3) := by decide +kernel
theorem dX6_readPart_88 : decode cX6_readPart 88 = .ok (.l2i, 1) := by decide +kernel
theorem dX6_readPart_89 : decode cX6_readPart 89 = .ok (.goto 4, 3) := by decide +kernel
theorem dX6_readPart_92 : decode cX6_readPart 92 = .ok (.iconst 0, 1) := by decide +kernel
theorem dX6_readPart_93 : decode cX6_readPart 93 = .ok (.istore 6, 2) := by decide +kernel
theorem dX6_readPart_95 : decode cX6_readPart 95 = .ok (.aload_n 0, 1) := by decide +kernel
theorem dX6_readPart_96 : decode cX6_readPart 96 = .ok (.getfield 18, 3) := by decide +kernel
theorem dX6_readPart_99 : decode cX6_readPart 99 = .ok (.invokevirtual 81, 3) := by decide +kernel
theorem dX6_readPart_102 : decode cX6_readPart 102 = .ok (.iload 4, 2) := by decide +kernel
theorem dX6_readPart_104 : decode cX6_readPart 104 = .ok (.ifCond .eq 20, 3) := by decide +kernel
theorem dX6_readPart_107 : decode cX6_readPart 107 = .ok (.aload_n 0, 1) := by decide +kernel
theorem dX6_readPart_108 : decode cX6_readPart 108 = .ok (.iload_n 1, 1) := by decide +kernel
theorem dX6_readPart_109 : decode cX6_readPart 109 = .ok (.iconst 1, 1) := by decide +kernel
theorem dX6_readPart_110 : decode cX6_readPart 110 = .ok (.iadd, 1) := by decide +kernel
theorem dX6_readPart_111 : decode cX6_readPart 111 = .ok (.aload_n 2, 1) := by decide +kernel
theorem dX6_readPart_112 : decode cX6_readPart 112 = .ok (.invokevirtual 175, 3) := by decide +kernel
theorem dX6_readPart_115 : decode cX6_readPart 115 = .ok (.aload_n 2, 1) := by decide +kernel
theorem dX6_readPart_116 : decode cX6_readPart 116 = .ok (.iconst 5, 1) := by decide +kernel
theorem dX6_readPart_117 : decode cX6_readPart 117 = .ok (.iconst 0, 1) := by decide +kernel
theorem dX6_readPart_118 : decode cX6_readPart 118 = .ok (.invokevirtual 183, 3) := by decide +kernel
theorem dX6_readPart_121 : decode cX6_readPart 121 = .ok (.goto 36, 3) := by decide +kernel
theorem dX6_readPart_124 : decode cX6_readPart 124 = .ok (.iload 5, 2) := by decide +kernel
theorem dX6_readPart_126 : decode cX6_readPart 126 = .ok (.ifCond .eq 24, 3) := by decide +kernel
theorem dX6_readPart_129 : decode cX6_readPart 129 = .ok (.aload_n 0, 1) := by decide +kernel
theorem dX6_readPart_130 : decode cX6_readPart 130 = .ok (.iconst 0, 1) := by decide +kernel
theorem dX6_readPart_131 : decode cX6_readPart 131 = .ok (.iload_n 1, 1) := by decide +kernel
theorem dX6_readPart_132 : decode cX6_readPart 132 = .ok (.iconst 1, 1) := by decide +kernel
theorem dX6_readPart_133 : decode cX6_readPart 133 = .ok (.iadd, 1) := by decide +kernel
theorem dX6_readPart_134 : decode cX6_readPart 134 = .ok (.aload_n 2, 1) := by decide +kernel
theorem dX6_readPart_135 : decode cX6_readPart 135 = .ok (.invokevirtual 171, 3) := by decide +kernel
theorem dX6_readPart_138 : decode cX6_readPart 138 = .ok (.aload_n 0, 1) := by decide +kernel
theorem dX6_readPart_139 : decode cX6_readPart 139 = .ok (.getfield 18, 3) := by decide +kernel
theorem dX6_readPart_142 : decode cX6_readPart 142 = .ok (.bipush 41, 2) := by decide +kernel
theorem dX6_readPart_144 : decode cX6_readPart 144 = .ok (.invokevirtual 70, 3) := by decide +kernel
theorem dX6_readPart_147 : decode cX6_readPart 147 = .ok (.goto 10, 3) := by decide +kernel
theorem dX6_readPart_150 : decode cX6_readPart 150 = .ok (.aload_n 2, 1) := by decide +kernel
theorem dX6_readPart_151 : decode cX6_readPart 151 = .ok (.iload_n 3, 1) := by decide +kernel
theorem dX6_readPart_152 : decode cX6_readPart 152 = .ok (.iload 6, 2) := by decide +kernel
theorem dX6_readPart_154 : decode cX6_readPart 154 = .ok (.invokevirtual 183, 3) := by decide +kernel
theorem dX6_readPart_157 : decode cX6_readPart 157 = .ok (.return_, 1) := by decide +kernel
theorem lk_RX6_171 : Cond.methodLink RX6 171 yX6_readRank ∈ tG := inG (i := 800) (by decide +kernel) (by decide +kernel)
theorem lk_RX6_175 : Cond.methodLink RX6 175 yX6_readPart ∈ tG := inG (i := 804) (by decide +kernel) (by decide +kernel)
theorem lk_RX6_179 : Cond.methodLink RX6 179 yX6_joiner ∈ tG := inG (i := 830) (by decide +kernel) (by decide +kernel)
theorem lk_RX6_183 : Cond.methodLink RX6 183 yX2_add ∈ tG := inG (i := 821) (by decide +kernel) (by decide +kernel)
theorem lk_RX6_197 : Cond.methodLink RX6 197 yX6_factHere ∈ tG := inG (i := 808) (by decide +kernel) (by decide +kernel)
theorem lk_RX6_70 : Cond.methodLink RX6 70 yX10_takeSign ∈ tG := inG (i := 825) (by decide +kernel) (by decide +kernel)
theorem m_X10_takeSign : MV Y_X10_takeSign 1 10 := ⟨⟨inG (i := 828) (by decide +kernel) (by decide +kernel), inG (i := 99) (by decide +kernel) (by decide +kernel), by decide, by decide, by decide, by decide +kernel⟩, inG (i := 826) (by decide +kernel) (by decide +kernel), inG (i := 827) (by decide +kernel) (by decide +kernel), by decide⟩
theorem m_X2_add : MV Y_X2_add 2 2 := ⟨⟨inG (i := 824) (by decide +kernel) (by decide +kernel), inG (i := 101) (by decide +kernel) (by decide +kernel), by decide, by decide, by decide, by decide +kernel⟩, inG (i := 822) (by decide +kernel) (by decide +kernel), inG (i := 823) (by decide +kernel) (by decide +kernel), by decide⟩
theorem m_X6_factHere : MV Y_X6_factHere 0 6 := ⟨⟨inG (i := 811) (by decide +kernel) (by decide +kernel), inG (i := 103) (by decide +kernel) (by decide +kernel), by decide, by decide, by decide, by decide +kernel⟩, inG (i := 810) (by decide +kernel) (by decide +kernel), inG (i := 14) (by decide +kernel) (by decide +kernel), by decide⟩
theorem m_X6_joiner : MV Y_X6_joiner 1 6 := ⟨⟨inG (i := 833) (by decide +kernel) (by decide +kernel), inG (i := 103) (by decide +kernel) (by decide +kernel), by decide, by decide, by decide, by decide +kernel⟩, inG (i := 832) (by decide +kernel) (by decide +kernel), inG (i := 15) (by decide +kernel) (by decide +kernel), by decide⟩
theorem m_X6_readPart : MV Y_X6_readPart 2 6 := ⟨⟨inG (i := 807) (by decide +kernel) (by decide +kernel), inG (i := 103) (by decide +kernel) (by decide +kernel), by decide, by decide, by decide, by decide +kernel⟩, inG (i := 806) (by decide +kernel) (by decide +kernel), inG (i := 13) (by decide +kernel) (by decide +kernel), by decide⟩
theorem m_X6_readRank : MV Y_X6_readRank 3 6 := ⟨⟨inG (i := 803) (by decide +kernel) (by decide +kernel), inG (i := 103) (by decide +kernel) (by decide +kernel), by decide, by decide, by decide, by decide +kernel⟩, inG (i := 802) (by decide +kernel) (by decide +kernel), inG (i := 12) (by decide +kernel) (by decide +kernel), by decide⟩
def P_X6_readRank_L31 (RK : Int → Int → Nat → St → (St → Prop) → Prop) (PT : Int → Nat → St → (St → Prop) → Prop) (x1 : Int) (x2 : Int) (o3 : Nat)  (Q : St → Prop) : Nat → Int → Int → St → Prop
  | 0, _, _, _ => False
  | n + 1, x4, x5, σ => (if 1000 ≤ x5 then Q σ else (if x4 = (-1) then Q σ else P_X10_next σ (fun σ_4 => RK (wi (x1 + 1)) x2 o3 σ_4 (fun σ_5 => P_X2_add o3 x4 0 σ_5 (fun σ_6 => (if x1 = 1 then (P_X6_readRank_L31 RK PT x1 x2 o3 Q n) (-1) (wi (x5 + 1)) σ_6 else P_X6_joiner x1 σ_6 (fun r_8 σ_7 => (P_X6_readRank_L31 RK PT x1 x2 o3 Q n) r_8 (wi (x5 + 1)) σ_7)))))))
set_option maxRecDepth 20000 in
set_option maxHeartbeats 2000000 in
theorem e_P_X6_readRank_L31 {d : Nat} {RK : Int → Int → Nat → St → (St → Prop) → Prop} {PT : Int → Nat → St → (St → Prop) → Prop} {x1 : Int} {x2 : Int} {o3 : Nat}  {Q : St → Prop} (hRK : ∀ x1 x2 o3 σ Q, RK x1 x2 o3 σ Q → Cn Y_X6_readRank d 0 0 ww σ [vR 6 0, vI x1, vI x2, vR 2 o3] (QV Q)) (hPT : ∀ x1 o2 σ Q, PT x1 o2 σ Q → Cn Y_X6_readPart d 0 0 ww σ [vR 6 0, vI x1, vR 2 o2] (QV Q))  : ∀ (n : Nat) (x4 : Int) (x5 : Int) (σ : St), P_X6_readRank_L31 RK PT x1 x2 o3 Q n x4 x5 σ → E Y_X6_readRank (d + 8) 0 0 (QV Q) ww 0 0 31 [some (vR 6 0), some (vI x1), some (vI x2), some (vR 2 o3), some (vI x4), some (vI x5)] [] σ := by
  intro n
  induction n with
  | zero => intro x4 x5 σ h; exact h.elim
  | succ n hR =>
    intro x4 x5 σ h
    unfold P_X6_readRank_L31 at h
    refine E_iload dX6_readRank_31 rfl ?_
    refine E_sp dX6_readRank_33 rfl ?_
    refine E_icmp_ge (tgt := 90) dX6_readRank_36 (by decide) (fun hc => ?_) (fun hc => ?_)
    · have h := Eq.mp (if_pos hc) h
      exact E_vret dX6_readRank_90 rfl ⟨rfl, rfl, h⟩
    · have h := Eq.mp (if_neg hc) h
      refine E_iload dX6_readRank_39 rfl ?_
      refine E_ic dX6_readRank_41 rfl ?_
      refine E_icmp_eq (tgt := 90) dX6_readRank_42 (by decide) (fun hc => ?_) (fun hc => ?_)
      · have h := Eq.mp (if_pos hc) h
        exact E_vret dX6_readRank_90 rfl ⟨rfl, rfl, h⟩
      · have h := Eq.mp (if_neg hc) h
        refine E_aload_n dX6_readRank_45 rfl rfl ?_
        refine E_getr (i := 0) dX6_readRank_46 fl_RX6_18 rfl rfl (go_6_0 _ _) ?_
        refine E_callV (Y' := Y_X10_next) (as := []) (st := []) dX6_readRank_49 lk_RX6_81 m_X10_next (by omega) (Nat.le_refl _) (Nat.le_refl _) rfl rfl (Nat.le_of_ble_eq_true rfl) (s_X10_next h) (fun r0 B0 σ_4 h => ?_)
        obtain ⟨rfl, rfl, h⟩ := h
        refine E_aload_n dX6_readRank_52 rfl rfl ?_
        refine E_iload_n dX6_readRank_53 rfl rfl ?_
        refine E_ic dX6_readRank_54 rfl ?_
        refine E_iadd dX6_readRank_55 ?_
        refine E_iload_n dX6_readRank_56 rfl rfl ?_
        refine E_aload_n dX6_readRank_57 rfl rfl ?_
        refine E_callV (Y' := Y_X6_readRank) (as := [vI (wi (x1 + 1)), vI x2, vR 2 o3]) (st := []) dX6_readRank_58 lk_RX6_171 m_X6_readRank (by omega) (Nat.le_refl _) (Nat.le_refl _) rfl rfl (Nat.le_of_ble_eq_true rfl) (hRK _ _ _ _ _ h) (fun r0 B0 σ_5 h => ?_)
        obtain ⟨rfl, rfl, h⟩ := h
        refine E_aload_n dX6_readRank_61 rfl rfl ?_
        refine E_iload dX6_readRank_62 rfl ?_
        refine E_ic dX6_readRank_64 rfl ?_
        refine E_callV (Y' := Y_X2_add) (as := [vI x4, vI 0]) (st := []) dX6_readRank_65 lk_RX6_183 m_X2_add (by omega) (Nat.le_refl _) (Nat.le_refl _) rfl rfl (Nat.le_of_ble_eq_true rfl) (s_X2_add h) (fun r0 B0 σ_6 h => ?_)
        obtain ⟨rfl, rfl, h⟩ := h
        refine E_iload_n dX6_readRank_68 rfl rfl ?_
        refine E_ic dX6_readRank_69 rfl ?_
        refine E_icmp_ne (tgt := 77) dX6_readRank_70 (by decide) (fun hc => ?_) (fun hc => ?_)
        · have h := Eq.mp (if_neg hc) h
          refine E_aload_n dX6_readRank_77 rfl rfl ?_
          refine E_iload_n dX6_readRank_78 rfl rfl ?_
          refine E_callV (Y' := Y_X6_joiner) (as := [vI x1]) (st := []) dX6_readRank_79 lk_RX6_179 m_X6_joiner (by omega) (Nat.le_refl _) (Nat.le_refl _) rfl rfl (Nat.le_of_ble_eq_true rfl) (s_X6_joiner h) (fun r0 B0 σ_7 h => ?_)
          obtain ⟨r_8, rfl, rfl, h⟩ := h
          refine E_istore (ls' := [some (vR 6 0), some (vI x1), some (vI x2), some (vR 2 o3), some (vI r_8), some (vI x5)]) dX6_readRank_82 (by decide) rfl ?_
          refine E_iinc (ls' := [some (vR 6 0), some (vI x1), some (vI x2), some (vR 2 o3), some (vI r_8), some (vI (wi (x5 + 1)))]) dX6_readRank_84 rfl (by decide) rfl rfl ?_
          refine E_goto (tgt := 31) dX6_readRank_87 (by decide) ?_
          exact hR _ _ _ h
        · have h := Eq.mp (if_pos hc) h
          refine E_ic dX6_readRank_73 rfl ?_
          refine E_goto (tgt := 82) dX6_readRank_74 (by decide) ?_
          refine E_istore (ls' := [some (vR 6 0), some (vI x1), some (vI x2), some (vR 2 o3), some (vI (-1)), some (vI x5)]) dX6_readRank_82 (by decide) rfl ?_
          refine E_iinc (ls' := [some (vR 6 0), some (vI x1), some (vI x2), some (vR 2 o3), some (vI (-1)), some (vI (wi (x5 + 1)))]) dX6_readRank_84 rfl (by decide) rfl rfl ?_
          refine E_goto (tgt := 31) dX6_readRank_87 (by decide) ?_
          exact hR _ _ _ h
def P_X6_readRank_F (RK : Int → Int → Nat → St → (St → Prop) → Prop) (PT : Int → Nat → St → (St → Prop) → Prop) (x1 : Int) (x2 : Int) (o3 : Nat) (σ : St) (Q : St → Prop) : Prop :=
  (if x1 < 4 then RK (wi (x1 + 1)) x2 o3 σ (fun σ_1 => P_X6_joiner x1 σ_1 (fun r_3 σ_2 => P_X6_readRank_L31 RK PT x1 x2 o3 Q FU r_3 0 σ_2)) else PT x2 o3 σ (fun σ_9 => Q σ_9))
set_option maxRecDepth 20000 in
set_option maxHeartbeats 2000000 in
theorem s_X6_readRank_F {d : Nat} {RK : Int → Int → Nat → St → (St → Prop) → Prop} {PT : Int → Nat → St → (St → Prop) → Prop} (hRK : ∀ x1 x2 o3 σ Q, RK x1 x2 o3 σ Q → Cn Y_X6_readRank d 0 0 ww σ [vR 6 0, vI x1, vI x2, vR 2 o3] (QV Q)) (hPT : ∀ x1 o2 σ Q, PT x1 o2 σ Q → Cn Y_X6_readPart d 0 0 ww σ [vR 6 0, vI x1, vR 2 o2] (QV Q)) {x1 : Int} {x2 : Int} {o3 : Nat} {σ : St} {Q : St → Prop} (h : P_X6_readRank_F RK PT x1 x2 o3 σ Q) : Cn Y_X6_readRank (d + 8) 0 0 ww σ [vR 6 0, vI x1, vI x2, vR 2 o3] (QV Q) := by
  refine Cn_of [some (vR 6 0), some (vI x1), some (vI x2), some (vR 2 o3), none, none] (by decide) (Nat.le_of_ble_eq_true rfl) rfl ?_
  unfold P_X6_readRank_F at h
  refine E_iload_n dX6_readRank_0 rfl rfl ?_
  refine E_ic dX6_readRank_1 rfl ?_
  refine E_icmp_lt (tgt := 12) dX6_readRank_2 (by decide) (fun hc => ?_) (fun hc => ?_)
  · have h := Eq.mp (if_pos hc) h
    refine E_aload_n dX6_readRank_12 rfl rfl ?_
    refine E_iload_n dX6_readRank_13 rfl rfl ?_
    refine E_ic dX6_readRank_14 rfl ?_
    refine E_iadd dX6_readRank_15 ?_
    refine E_iload_n dX6_readRank_16 rfl rfl ?_
    refine E_aload_n dX6_readRank_17 rfl rfl ?_
    refine E_callV (Y' := Y_X6_readRank) (as := [vI (wi (x1 + 1)), vI x2, vR 2 o3]) (st := []) dX6_readRank_18 lk_RX6_171 m_X6_readRank (by omega) (Nat.le_refl _) (Nat.le_refl _) rfl rfl (Nat.le_of_ble_eq_true rfl) (hRK _ _ _ _ _ h) (fun r0 B0 σ_1 h => ?_)
    obtain ⟨rfl, rfl, h⟩ := h
    refine E_aload_n dX6_readRank_21 rfl rfl ?_
    refine E_iload_n dX6_readRank_22 rfl rfl ?_
    refine E_callV (Y' := Y_X6_joiner) (as := [vI x1]) (st := []) dX6_readRank_23 lk_RX6_179 m_X6_joiner (by omega) (Nat.le_refl _) (Nat.le_refl _) rfl rfl (Nat.le_of_ble_eq_true rfl) (s_X6_joiner h) (fun r0 B0 σ_2 h => ?_)
    obtain ⟨r_3, rfl, rfl, h⟩ := h
    refine E_istore (ls' := [some (vR 6 0), some (vI x1), some (vI x2), some (vR 2 o3), some (vI r_3), none]) dX6_readRank_26 (by decide) rfl ?_
    refine E_ic dX6_readRank_28 rfl ?_
    refine E_istore (ls' := [some (vR 6 0), some (vI x1), some (vI x2), some (vR 2 o3), some (vI r_3), some (vI 0)]) dX6_readRank_29 (by decide) rfl ?_
    refine e_P_X6_readRank_L31 hRK hPT  _ _ _ _ h
  · have h := Eq.mp (if_neg hc) h
    refine E_aload_n dX6_readRank_5 rfl rfl ?_
    refine E_iload_n dX6_readRank_6 rfl rfl ?_
    refine E_aload_n dX6_readRank_7 rfl rfl ?_
    refine E_callV (Y' := Y_X6_readPart) (as := [vI x2, vR 2 o3]) (st := []) dX6_readRank_8 lk_RX6_175 m_X6_readPart (by omega) (Nat.le_refl _) (Nat.le_refl _) rfl rfl (Nat.le_of_ble_eq_true rfl) (hPT _ _ _ _ h) (fun r0 B0 σ_9 h => ?_)
    obtain ⟨rfl, rfl, h⟩ := h
    exact E_vret dX6_readRank_11 rfl ⟨rfl, rfl, h⟩
def P_X6_readPart_J93 (RK : Int → Int → Nat → St → (St → Prop) → Prop) (PT : Int → Nat → St → (St → Prop) → Prop) (x1 : Int) (o2 : Nat) (x3 : Int) (x4 : Int) (x5 : Int) (y0 : Int)  (Q : St → Prop) (σ : St) : Prop :=
  P_X10_next σ (fun σ_9 => (if x4 = 0 then (if x5 = 0 then P_X2_add o2 x3 y0 σ_9 (fun σ_10 => Q σ_10) else RK 0 (wi (x1 + 1)) o2 σ_9 (fun σ_11 => P_X10_takeSign 41 σ_11 (fun σ_12 => Q σ_12))) else PT (wi (x1 + 1)) o2 σ_9 (fun σ_13 => P_X2_add o2 5 0 σ_13 (fun σ_14 => Q σ_14))))
set_option maxRecDepth 20000 in
set_option maxHeartbeats 2000000 in
theorem e_P_X6_readPart_J93 {d : Nat} {RK : Int → Int → Nat → St → (St → Prop) → Prop} {PT : Int → Nat → St → (St → Prop) → Prop} {x1 : Int} {o2 : Nat} {x3 : Int} {x4 : Int} {x5 : Int} {y0 : Int}  {Q : St → Prop} {σ : St} (hRK : ∀ x1 x2 o3 σ Q, RK x1 x2 o3 σ Q → Cn Y_X6_readRank d 0 0 ww σ [vR 6 0, vI x1, vI x2, vR 2 o3] (QV Q)) (hPT : ∀ x1 o2 σ Q, PT x1 o2 σ Q → Cn Y_X6_readPart d 0 0 ww σ [vR 6 0, vI x1, vR 2 o2] (QV Q))  (h : P_X6_readPart_J93 RK PT x1 o2 x3 x4 x5 y0 Q σ) : E Y_X6_readPart (d + 8) 0 0 (QV Q) ww 0 0 93 [some (vR 6 0), some (vI x1), some (vR 2 o2), some (vI x3), some (vI x4), some (vI x5), none] [vI y0] σ := by
  unfold P_X6_readPart_J93 at h
  refine E_istore (ls' := [some (vR 6 0), some (vI x1), some (vR 2 o2), some (vI x3), some (vI x4), some (vI x5), some (vI y0)]) dX6_readPart_93 (by decide) rfl ?_
  refine E_aload_n dX6_readPart_95 rfl rfl ?_
  refine E_getr (i := 0) dX6_readPart_96 fl_RX6_18 rfl rfl (go_6_0 _ _) ?_
  refine E_callV (Y' := Y_X10_next) (as := []) (st := []) dX6_readPart_99 lk_RX6_81 m_X10_next (by omega) (Nat.le_refl _) (Nat.le_refl _) rfl rfl (Nat.le_of_ble_eq_true rfl) (s_X10_next h) (fun r0 B0 σ_9 h => ?_)
  obtain ⟨rfl, rfl, h⟩ := h
  refine E_iload dX6_readPart_102 rfl ?_
  refine E_if_eq (tgt := 124) dX6_readPart_104 (by decide) (fun hc => ?_) (fun hc => ?_)
  · have h := Eq.mp (if_pos hc) h
    refine E_iload dX6_readPart_124 rfl ?_
    refine E_if_eq (tgt := 150) dX6_readPart_126 (by decide) (fun hc => ?_) (fun hc => ?_)
    · have h := Eq.mp (if_pos hc) h
      refine E_aload_n dX6_readPart_150 rfl rfl ?_
      refine E_iload_n dX6_readPart_151 rfl rfl ?_
      refine E_iload dX6_readPart_152 rfl ?_
      refine E_callV (Y' := Y_X2_add) (as := [vI x3, vI y0]) (st := []) dX6_readPart_154 lk_RX6_183 m_X2_add (by omega) (Nat.le_refl _) (Nat.le_refl _) rfl rfl (Nat.le_of_ble_eq_true rfl) (s_X2_add h) (fun r0 B0 σ_10 h => ?_)
      obtain ⟨rfl, rfl, h⟩ := h
      exact E_vret dX6_readPart_157 rfl ⟨rfl, rfl, h⟩
    · have h := Eq.mp (if_neg hc) h
      refine E_aload_n dX6_readPart_129 rfl rfl ?_
      refine E_ic dX6_readPart_130 rfl ?_
      refine E_iload_n dX6_readPart_131 rfl rfl ?_
      refine E_ic dX6_readPart_132 rfl ?_
      refine E_iadd dX6_readPart_133 ?_
      refine E_aload_n dX6_readPart_134 rfl rfl ?_
      refine E_callV (Y' := Y_X6_readRank) (as := [vI 0, vI (wi (x1 + 1)), vR 2 o2]) (st := []) dX6_readPart_135 lk_RX6_171 m_X6_readRank (by omega) (Nat.le_refl _) (Nat.le_refl _) rfl rfl (Nat.le_of_ble_eq_true rfl) (hRK _ _ _ _ _ h) (fun r0 B0 σ_11 h => ?_)
      obtain ⟨rfl, rfl, h⟩ := h
      refine E_aload_n dX6_readPart_138 rfl rfl ?_
      refine E_getr (i := 0) dX6_readPart_139 fl_RX6_18 rfl rfl (go_6_0 _ _) ?_
      refine E_bp dX6_readPart_142 rfl ?_
      refine E_callV (Y' := Y_X10_takeSign) (as := [vI 41]) (st := []) dX6_readPart_144 lk_RX6_70 m_X10_takeSign (by omega) (Nat.le_refl _) (Nat.le_refl _) rfl rfl (Nat.le_of_ble_eq_true rfl) (s_X10_takeSign h) (fun r0 B0 σ_12 h => ?_)
      obtain ⟨rfl, rfl, h⟩ := h
      refine E_goto (tgt := 157) dX6_readPart_147 (by decide) ?_
      exact E_vret dX6_readPart_157 rfl ⟨rfl, rfl, h⟩
  · have h := Eq.mp (if_neg hc) h
    refine E_aload_n dX6_readPart_107 rfl rfl ?_
    refine E_iload_n dX6_readPart_108 rfl rfl ?_
    refine E_ic dX6_readPart_109 rfl ?_
    refine E_iadd dX6_readPart_110 ?_
    refine E_aload_n dX6_readPart_111 rfl rfl ?_
    refine E_callV (Y' := Y_X6_readPart) (as := [vI (wi (x1 + 1)), vR 2 o2]) (st := []) dX6_readPart_112 lk_RX6_175 m_X6_readPart (by omega) (Nat.le_refl _) (Nat.le_refl _) rfl rfl (Nat.le_of_ble_eq_true rfl) (hPT _ _ _ _ h) (fun r0 B0 σ_13 h => ?_)
    obtain ⟨rfl, rfl, h⟩ := h
    refine E_aload_n dX6_readPart_115 rfl rfl ?_
    refine E_ic dX6_readPart_116 rfl ?_
    refine E_ic dX6_readPart_117 rfl ?_
    refine E_callV (Y' := Y_X2_add) (as := [vI 5, vI 0]) (st := []) dX6_readPart_118 lk_RX6_183 m_X2_add (by omega) (Nat.le_refl _) (Nat.le_refl _) rfl rfl (Nat.le_of_ble_eq_true rfl) (s_X2_add h) (fun r0 B0 σ_14 h => ?_)
    obtain ⟨rfl, rfl, h⟩ := h
    refine E_goto (tgt := 157) dX6_readPart_121 (by decide) ?_
    exact E_vret dX6_readPart_157 rfl ⟨rfl, rfl, h⟩
def P_X6_readPart_J66 (RK : Int → Int → Nat → St → (St → Prop) → Prop) (PT : Int → Nat → St → (St → Prop) → Prop) (x1 : Int) (o2 : Nat) (x3 : Int) (x4 : Int) (x5 : Int)  (Q : St → Prop) (σ : St) : Prop :=
  P_X10_isSound σ (fun r_8 σ_7 => (if r_8 = 0 then Q σ_7 else (if x3 = 0 then P_X10_value σ_7 (fun r_16 σ_15 => P_X6_readPart_J93 RK PT x1 o2 x3 x4 x5 (wi r_16) Q σ_15) else P_X6_readPart_J93 RK PT x1 o2 x3 x4 x5 0 Q σ_7)))
set_option maxRecDepth 20000 in
set_option maxHeartbeats 2000000 in
theorem e_P_X6_readPart_J66 {d : Nat} {RK : Int → Int → Nat → St → (St → Prop) → Prop} {PT : Int → Nat → St → (St → Prop) → Prop} {x1 : Int} {o2 : Nat} {x3 : Int} {x4 : Int} {x5 : Int}  {Q : St → Prop} {σ : St} (hRK : ∀ x1 x2 o3 σ Q, RK x1 x2 o3 σ Q → Cn Y_X6_readRank d 0 0 ww σ [vR 6 0, vI x1, vI x2, vR 2 o3] (QV Q)) (hPT : ∀ x1 o2 σ Q, PT x1 o2 σ Q → Cn Y_X6_readPart d 0 0 ww σ [vR 6 0, vI x1, vR 2 o2] (QV Q))  (h : P_X6_readPart_J66 RK PT x1 o2 x3 x4 x5 Q σ) : E Y_X6_readPart (d + 8) 0 0 (QV Q) ww 0 0 66 [some (vR 6 0), some (vI x1), some (vR 2 o2), some (vI x3), some (vI x4), some (vI x5), none] [] σ := by
  unfold P_X6_readPart_J66 at h
  refine E_aload_n dX6_readPart_66 rfl rfl ?_
  refine E_getr (i := 0) dX6_readPart_67 fl_RX6_18 rfl rfl (go_6_0 _ _) ?_
  refine E_callV (Y' := Y_X10_isSound) (as := []) (st := []) dX6_readPart_70 lk_RX6_161 m_X10_isSound (by omega) (Nat.le_refl _) (Nat.le_refl _) rfl rfl (Nat.le_of_ble_eq_true rfl) (s_X10_isSound h) (fun r0 B0 σ_7 h => ?_)
  obtain ⟨r_8, rfl, rfl, h⟩ := h
  refine E_if_ne (tgt := 77) dX6_readPart_73 (by decide) (fun hc => ?_) (fun hc => ?_)
  · have h := Eq.mp (if_neg hc) h
    refine E_iload_n dX6_readPart_77 rfl rfl ?_
    refine E_if_ne (tgt := 92) dX6_readPart_78 (by decide) (fun hc => ?_) (fun hc => ?_)
    · have h := Eq.mp (if_neg hc) h
      refine E_ic dX6_readPart_92 rfl ?_
      exact e_P_X6_readPart_J93 hRK hPT h
    · have h := Eq.mp (if_pos hc) h
      refine E_aload_n dX6_readPart_81 rfl rfl ?_
      refine E_getr (i := 0) dX6_readPart_82 fl_RX6_18 rfl rfl (go_6_0 _ _) ?_
      refine E_callV (Y' := Y_X10_value) (as := []) (st := []) dX6_readPart_85 lk_RX6_134 m_X10_value (by omega) (Nat.le_refl _) (Nat.le_refl _) rfl rfl (Nat.le_of_ble_eq_true rfl) (s_X10_value h) (fun r0 B0 σ_15 h => ?_)
      obtain ⟨r_16, rfl, rfl, h⟩ := h
      refine E_l2i dX6_readPart_88 ?_
      refine E_goto (tgt := 93) dX6_readPart_89 (by decide) ?_
      exact e_P_X6_readPart_J93 hRK hPT h
  · have h := Eq.mp (if_pos hc) h
    exact E_vret dX6_readPart_76 rfl ⟨rfl, rfl, h⟩
def P_X6_readPart_J53 (RK : Int → Int → Nat → St → (St → Prop) → Prop) (PT : Int → Nat → St → (St → Prop) → Prop) (x1 : Int) (o2 : Nat) (x3 : Int) (x4 : Int) (x5 : Int)  (Q : St → Prop) (σ : St) : Prop :=
  (if x1 < 5 then P_X6_readPart_J66 RK PT x1 o2 x3 x4 x5 Q σ else P_X10_wrong 5 σ (fun σ_17 => P_X6_readPart_J66 RK PT x1 o2 x3 x4 x5 Q σ_17))
set_option maxRecDepth 20000 in
set_option maxHeartbeats 2000000 in
theorem e_P_X6_readPart_J53 {d : Nat} {RK : Int → Int → Nat → St → (St → Prop) → Prop} {PT : Int → Nat → St → (St → Prop) → Prop} {x1 : Int} {o2 : Nat} {x3 : Int} {x4 : Int} {x5 : Int}  {Q : St → Prop} {σ : St} (hRK : ∀ x1 x2 o3 σ Q, RK x1 x2 o3 σ Q → Cn Y_X6_readRank d 0 0 ww σ [vR 6 0, vI x1, vI x2, vR 2 o3] (QV Q)) (hPT : ∀ x1 o2 σ Q, PT x1 o2 σ Q → Cn Y_X6_readPart d 0 0 ww σ [vR 6 0, vI x1, vR 2 o2] (QV Q))  (h : P_X6_readPart_J53 RK PT x1 o2 x3 x4 x5 Q σ) : E Y_X6_readPart (d + 8) 0 0 (QV Q) ww 0 0 53 [some (vR 6 0), some (vI x1), some (vR 2 o2), some (vI x3), some (vI x4), some (vI x5), none] [] σ := by
  unfold P_X6_readPart_J53 at h
  refine E_iload_n dX6_readPart_53 rfl rfl ?_
  refine E_ic dX6_readPart_54 rfl ?_
  refine E_icmp_lt (tgt := 66) dX6_readPart_55 (by decide) (fun hc => ?_) (fun hc => ?_)
  · have h := Eq.mp (if_pos hc) h
    exact e_P_X6_readPart_J66 hRK hPT h
  · have h := Eq.mp (if_neg hc) h
    refine E_aload_n dX6_readPart_58 rfl rfl ?_
    refine E_getr (i := 0) dX6_readPart_59 fl_RX6_18 rfl rfl (go_6_0 _ _) ?_
    refine E_ic dX6_readPart_62 rfl ?_
    refine E_callV (Y' := Y_X10_wrong) (as := [vI 5]) (st := []) dX6_readPart_63 lk_RX6_66 m_X10_wrong (by omega) (Nat.le_refl _) (Nat.le_refl _) rfl rfl (Nat.le_of_ble_eq_true rfl) (s_X10_wrong h) (fun r0 B0 σ_17 h => ?_)
    obtain ⟨rfl, rfl, h⟩ := h
    exact e_P_X6_readPart_J66 hRK hPT h
def P_X6_readPart_F (RK : Int → Int → Nat → St → (St → Prop) → Prop) (PT : Int → Nat → St → (St → Prop) → Prop) (x1 : Int) (o2 : Nat) (σ : St) (Q : St → Prop) : Prop :=
  P_X6_factHere σ (fun r_2 σ_1 => P_X10_isWord 19 σ_1 (fun r_4 σ_3 => P_X10_isSign 40 σ_3 (fun r_6 σ_5 => (if r_2 = (-1) then (if r_4 = 0 then (if r_6 = 0 then P_X10_wrong 1 σ_5 (fun σ_18 => P_X6_readPart_J66 RK PT x1 o2 r_2 r_4 r_6 Q σ_18) else P_X6_readPart_J53 RK PT x1 o2 r_2 r_4 r_6 Q σ_5) else P_X6_readPart_J53 RK PT x1 o2 r_2 r_4 r_6 Q σ_5) else P_X6_readPart_J53 RK PT x1 o2 r_2 r_4 r_6 Q σ_5))))
set_option maxRecDepth 20000 in
set_option maxHeartbeats 2000000 in
theorem s_X6_readPart_F {d : Nat} {RK : Int → Int → Nat → St → (St → Prop) → Prop} {PT : Int → Nat → St → (St → Prop) → Prop} (hRK : ∀ x1 x2 o3 σ Q, RK x1 x2 o3 σ Q → Cn Y_X6_readRank d 0 0 ww σ [vR 6 0, vI x1, vI x2, vR 2 o3] (QV Q)) (hPT : ∀ x1 o2 σ Q, PT x1 o2 σ Q → Cn Y_X6_readPart d 0 0 ww σ [vR 6 0, vI x1, vR 2 o2] (QV Q)) {x1 : Int} {o2 : Nat} {σ : St} {Q : St → Prop} (h : P_X6_readPart_F RK PT x1 o2 σ Q) : Cn Y_X6_readPart (d + 8) 0 0 ww σ [vR 6 0, vI x1, vR 2 o2] (QV Q) := by
  refine Cn_of [some (vR 6 0), some (vI x1), some (vR 2 o2), none, none, none, none] (by decide) (Nat.le_of_ble_eq_true rfl) rfl ?_
  unfold P_X6_readPart_F at h
  refine E_aload_n dX6_readPart_0 rfl rfl ?_
  refine E_callV (Y' := Y_X6_factHere) (as := []) (st := []) dX6_readPart_1 lk_RX6_197 m_X6_factHere (by omega) (Nat.le_refl _) (Nat.le_refl _) rfl rfl (Nat.le_of_ble_eq_true rfl) (s_X6_factHere h) (fun r0 B0 σ_1 h => ?_)
  obtain ⟨r_2, rfl, rfl, h⟩ := h
  refine E_istore_n (ls' := [some (vR 6 0), some (vI x1), some (vR 2 o2), some (vI r_2), none, none, none]) dX6_readPart_4 rfl (by decide) rfl ?_
  refine E_aload_n dX6_readPart_5 rfl rfl ?_
  refine E_getr (i := 0) dX6_readPart_6 fl_RX6_18 rfl rfl (go_6_0 _ _) ?_
  refine E_lds (i := 19) dX6_readPart_9 (List.mem_of_getElem? (i := 19) rfl) ?_
  refine E_callV (Y' := Y_X10_isWord) (as := [vR 50 19]) (st := []) dX6_readPart_11 lk_RX6_38 m_X10_isWord (by omega) (Nat.le_refl _) (Nat.le_refl _) rfl rfl (Nat.le_of_ble_eq_true rfl) (s_X10_isWord h) (fun r0 B0 σ_3 h => ?_)
  obtain ⟨r_4, rfl, rfl, h⟩ := h
  refine E_istore (ls' := [some (vR 6 0), some (vI x1), some (vR 2 o2), some (vI r_2), some (vI r_4), none, none]) dX6_readPart_14 (by decide) rfl ?_
  refine E_aload_n dX6_readPart_16 rfl rfl ?_
  refine E_getr (i := 0) dX6_readPart_17 fl_RX6_18 rfl rfl (go_6_0 _ _) ?_
  refine E_bp dX6_readPart_20 rfl ?_
  refine E_callV (Y' := Y_X10_isSign) (as := [vI 40]) (st := []) dX6_readPart_22 lk_RX6_193 m_X10_isSign (by omega) (Nat.le_refl _) (Nat.le_refl _) rfl rfl (Nat.le_of_ble_eq_true rfl) (s_X10_isSign h) (fun r0 B0 σ_5 h => ?_)
  obtain ⟨r_6, rfl, rfl, h⟩ := h
  refine E_istore (ls' := [some (vR 6 0), some (vI x1), some (vR 2 o2), some (vI r_2), some (vI r_4), some (vI r_6), none]) dX6_readPart_25 (by decide) rfl ?_
  refine E_iload_n dX6_readPart_27 rfl rfl ?_
  refine E_ic dX6_readPart_28 rfl ?_
  refine E_icmp_ne (tgt := 53) dX6_readPart_29 (by decide) (fun hc => ?_) (fun hc => ?_)
  · have h := Eq.mp (if_neg hc) h
    exact e_P_X6_readPart_J53 hRK hPT h
  · have h := Eq.mp (if_pos hc) h
    refine E_iload dX6_readPart_32 rfl ?_
    refine E_if_ne (tgt := 53) dX6_readPart_34 (by decide) (fun hc => ?_) (fun hc => ?_)
    · have h := Eq.mp (if_neg hc) h
      exact e_P_X6_readPart_J53 hRK hPT h
    · have h := Eq.mp (if_pos hc) h
      refine E_iload dX6_readPart_37 rfl ?_
      refine E_if_ne (tgt := 53) dX6_readPart_39 (by decide) (fun hc => ?_) (fun hc => ?_)
      · have h := Eq.mp (if_neg hc) h
        exact e_P_X6_readPart_J53 hRK hPT h
      · have h := Eq.mp (if_pos hc) h
        refine E_aload_n dX6_readPart_42 rfl rfl ?_
        refine E_getr (i := 0) dX6_readPart_43 fl_RX6_18 rfl rfl (go_6_0 _ _) ?_
        refine E_ic dX6_readPart_46 rfl ?_
        refine E_callV (Y' := Y_X10_wrong) (as := [vI 1]) (st := []) dX6_readPart_47 lk_RX6_66 m_X10_wrong (by omega) (Nat.le_refl _) (Nat.le_refl _) rfl rfl (Nat.le_of_ble_eq_true rfl) (s_X10_wrong h) (fun r0 B0 σ_18 h => ?_)
        obtain ⟨rfl, rfl, h⟩ := h
        refine E_goto (tgt := 66) dX6_readPart_50 (by decide) ?_
        exact e_P_X6_readPart_J66 hRK hPT h
def PRP : Nat → (Int → Int → Nat → St → (St → Prop) → Prop) × (Int → Nat → St → (St → Prop) → Prop)
  | 0 => (fun _ _ _ _ _ => False, fun _ _ _ _ => False)
  | f + 1 => (P_X6_readRank_F (PRP f).1 (PRP f).2, P_X6_readPart_F (PRP f).1 (PRP f).2)
theorem sRP : ∀ (f : Nat), (∀ x1 x2 o3 σ Q, (PRP f).1 x1 x2 o3 σ Q → Cn Y_X6_readRank (8 * f) 0 0 ww σ [vR 6 0, vI x1, vI x2, vR 2 o3] (QV Q)) ∧ (∀ x1 o2 σ Q, (PRP f).2 x1 o2 σ Q → Cn Y_X6_readPart (8 * f) 0 0 ww σ [vR 6 0, vI x1, vR 2 o2] (QV Q))
  | 0 => ⟨fun _ _ _ _ _ h => h.elim, fun _ _ _ _ h => h.elim⟩
  | f + 1 => ⟨fun _ _ _ _ _ h => s_X6_readRank_F (d := 8 * f) (sRP f).1 (sRP f).2 h, fun _ _ _ _ h => s_X6_readPart_F (d := 8 * f) (sRP f).1 (sRP f).2 h⟩
def P_X6_readRank (x1 x2 : Int) (o3 : Nat) (σ : St) (Q : St → Prop) : Prop := (PRP 64).1 x1 x2 o3 σ Q
theorem s_X6_readRank {x1 x2 : Int} {o3 : Nat} {σ : St} {Q : St → Prop} (h : P_X6_readRank x1 x2 o3 σ Q) : Cn Y_X6_readRank 512 0 0 ww σ [vR 6 0, vI x1, vI x2, vR 2 o3] (QV Q) := (sRP 64).1 _ _ _ _ _ h
