abbrev Y_X11_counter : My := (yX11_counter, cX11_counter, 3, some .int)
theorem dX11_counter_0 : decode cX11_counter 0 = .ok (.aload_n 0, 1) := by decide +kernel
theorem dX11_counter_1 : decode cX11_counter 1 = .ok (.getfield 19, 3) := by decide +kernel
theorem dX11_counter_4 : decode cX11_counter 4 = .ok (.iload_n 1, 1) := by decide +kernel
theorem dX11_counter_5 : decode cX11_counter 5 = .ok (.invokevirtual 128, 3) := by decide +kernel
theorem dX11_counter_8 : decode cX11_counter 8 = .ok (.ifCond .ne 5, 3) := by decide +kernel
theorem dX11_counter_11 : decode cX11_counter 11 = .ok (.iconst (-1), 1) := by decide +kernel
theorem dX11_counter_12 : decode cX11_counter 12 = .ok (.ireturn, 1) := by decide +kernel
theorem dX11_counter_13 : decode cX11_counter 13 = .ok (.iload_n 2, 1) := by decide +kernel
theorem dX11_counter_14 : decode cX11_counter 14 = .ok (.tableswitch 55 0 2 #[26, 36, 46], 26) := by decide +kernel
theorem dX11_counter_40 : decode cX11_counter 40 = .ok (.aload_n 0, 1) := by decide +kernel
theorem dX11_counter_41 : decode cX11_counter 41 = .ok (.getfield 19, 3) := by decide +kernel
theorem dX11_counter_44 : decode cX11_counter 44 = .ok (.getfield 132, 3) := by decide +kernel
theorem dX11_counter_47 : decode cX11_counter 47 = .ok (.iload_n 1, 1) := by decide +kernel
theorem dX11_counter_48 : decode cX11_counter 48 = .ok (.iaload, 1) := by decide +kernel
theorem dX11_counter_49 : decode cX11_counter 49 = .ok (.ireturn, 1) := by decide +kernel
theorem dX11_counter_50 : decode cX11_counter 50 = .ok (.aload_n 0, 1) := by decide +kernel
theorem dX11_counter_51 : decode cX11_counter 51 = .ok (.getfield 50, 3) := by decide +kernel
theorem dX11_counter_54 : decode cX11_counter 54 = .ok (.getfield 136, 3) := by decide +kernel
theorem dX11_counter_57 : decode cX11_counter 57 = .ok (.iload_n 1, 1) := by decide +kernel
theorem dX11_counter_58 : decode cX11_counter 58 = .ok (.iaload, 1) := by decide +kernel
theorem dX11_counter_59 : decode cX11_counter 59 = .ok (.ireturn, 1) := by decide +kernel
theorem dX11_counter_60 : decode cX11_counter 60 = .ok (.aload_n 0, 1) := by decide +kernel
theorem dX11_counter_61 : decode cX11_counter 61 = .ok (.getfield 50, 3) := by decide +kernel
theorem dX11_counter_64 : decode cX11_counter 64 = .ok (.iload_n 1, 1) := by decide +kernel
theorem dX11_counter_65 : decode cX11_counter 65 = .ok (.invokevirtual 138, 3) := by decide +kernel
theorem dX11_counter_68 : decode cX11_counter 68 = .ok (.ireturn, 1) := by decide +kernel
theorem dX11_counter_69 : decode cX11_counter 69 = .ok (.iconst (-1), 1) := by decide +kernel
theorem dX11_counter_70 : decode cX11_counter 70 = .ok (.ireturn, 1) := by decide +kernel
theorem fl_RX11_132 : FL RX11 132 8 0 := ⟨inG (i := 191) (by decide +kernel) (by decide +kernel), by decide, by decide⟩
theorem fl_RX11_136 : FL RX11 136 9 1 := ⟨inG (i := 307) (by decide +kernel) (by decide +kernel), by decide, by decide⟩
theorem fl_RX11_19 : FL RX11 19 11 1 := ⟨inG (i := 475) (by decide +kernel) (by decide +kernel), by decide, by decide⟩
theorem fl_RX11_50 : FL RX11 50 11 6 := ⟨inG (i := 480) (by decide +kernel) (by decide +kernel), by decide, by decide⟩
theorem go_11_1 (σ : St) (i : Nat) : go σ 11 i 1 = (8, 0) := rfl
theorem go_11_6 (σ : St) (i : Nat) : go σ 11 i 6 = (9, 0) := rfl
theorem lk_RX11_128 : Cond.methodLink RX11 128 yX8_hasCounter ∈ tG := inG (i := 887) (by decide +kernel) (by decide +kernel)
theorem lk_RX11_138 : Cond.methodLink RX11 138 yX9_basket ∈ tG := inG (i := 891) (by decide +kernel) (by decide +kernel)
theorem m_X9_basket : MV Y_X9_basket 1 9 := ⟨⟨inG (i := 894) (by decide +kernel) (by decide +kernel), inG (i := 104) (by decide +kernel) (by decide +kernel), by decide, by decide, by decide, by decide +kernel⟩, inG (i := 892) (by decide +kernel) (by decide +kernel), inG (i := 893) (by decide +kernel) (by decide +kernel), by decide⟩
def P_X11_counter (x1 : Int) (x2 : Int) (σ : St) (Q : Int → St → Prop) : Prop :=
  P_X8_hasCounter 0 x1 σ (fun r_2 σ_1 => (if r_2 = 0 then Q (-1) σ_1 else (if x2 = 0 then 0 ≤ x1 ∧ x1 < 6 ∧ Q (σ_1 900 0 x1) σ_1 else if x2 = 1 then 0 ≤ x1 ∧ x1 < 6 ∧ Q (σ_1 1001 0 x1) σ_1 else if x2 = 2 then P_X9_basket 0 x1 σ_1 (fun r_4 σ_3 => Q r_4 σ_3) else Q (-1) σ_1)))
set_option maxRecDepth 20000 in
set_option maxHeartbeats 2000000 in
theorem s_X11_counter {x1 : Int} {x2 : Int} {σ : St} {Q : Int → St → Prop} (h : P_X11_counter x1 x2 σ Q) : Cn Y_X11_counter 1 0 0 ww σ [vR 11 0, vI x1, vI x2] (QI Q) := by
  refine Cn_of [some (vR 11 0), some (vI x1), some (vI x2)] (by decide) (Nat.le_of_ble_eq_true rfl) rfl ?_
  unfold P_X11_counter at h
  refine E_aload_n dX11_counter_0 rfl rfl ?_
  refine E_getr (i := 0) dX11_counter_1 fl_RX11_19 rfl rfl (go_11_1 _ _) ?_
  refine E_iload_n dX11_counter_4 rfl rfl ?_
  refine E_callV (Y' := Y_X8_hasCounter) (as := [vI x1]) (st := []) dX11_counter_5 lk_RX11_128 m_X8_hasCounter (by decide) (Nat.le_refl _) (Nat.le_refl _) rfl rfl (Nat.le_of_ble_eq_true rfl) (s_X8_hasCounter h) (fun r0 B0 σ_1 h => ?_)
  obtain ⟨r_2, rfl, rfl, h⟩ := h
  refine E_if_ne (tgt := 13) dX11_counter_8 (by decide) (fun hc => ?_) (fun hc => ?_)
  · have h := Eq.mp (if_neg hc) h
    refine E_iload_n dX11_counter_13 rfl rfl ?_
    by_cases hc : x2 = 0
    · have h := Eq.mp (if_pos hc) h
      refine E_tableIn (off := 26) (tgt := 40) dX11_counter_14 (by omega) (by omega) (by rw [hc]; rfl) (by decide) ?_
      refine E_aload_n dX11_counter_40 rfl rfl ?_
      refine E_getr (i := 0) dX11_counter_41 fl_RX11_19 rfl rfl (go_11_1 _ _) ?_
      refine E_getr (i := 0) dX11_counter_44 fl_RX11_132 rfl rfl (go_8_0 _ _) ?_
      refine E_iload_n dX11_counter_47 rfl rfl ?_
      obtain ⟨hg0, hg1, h⟩ := h
      refine E_iald dX11_counter_48 sh_900 hg0 hg1 ?_
      exact E_iret dX11_counter_49 rfl ⟨_, rfl, rfl, h⟩
    have h := Eq.mp (if_neg hc) h
    have hc0 := hc
    clear hc
    by_cases hc : x2 = 1
    · have h := Eq.mp (if_pos hc) h
      refine E_tableIn (off := 36) (tgt := 50) dX11_counter_14 (by omega) (by omega) (by rw [hc]; rfl) (by decide) ?_
      refine E_aload_n dX11_counter_50 rfl rfl ?_
      refine E_getr (i := 0) dX11_counter_51 fl_RX11_50 rfl rfl (go_11_6 _ _) ?_
      refine E_getr (i := 0) dX11_counter_54 fl_RX11_136 rfl rfl (go_9_1 _ _) ?_
      refine E_iload_n dX11_counter_57 rfl rfl ?_
      obtain ⟨hg0, hg1, h⟩ := h
      refine E_iald dX11_counter_58 sh_1001 hg0 hg1 ?_
      exact E_iret dX11_counter_59 rfl ⟨_, rfl, rfl, h⟩
    have h := Eq.mp (if_neg hc) h
    have hc1 := hc
    clear hc
    by_cases hc : x2 = 2
    · have h := Eq.mp (if_pos hc) h
      refine E_tableIn (off := 46) (tgt := 60) dX11_counter_14 (by omega) (by omega) (by rw [hc]; rfl) (by decide) ?_
      refine E_aload_n dX11_counter_60 rfl rfl ?_
      refine E_getr (i := 0) dX11_counter_61 fl_RX11_50 rfl rfl (go_11_6 _ _) ?_
      refine E_iload_n dX11_counter_64 rfl rfl ?_
      refine E_callV (Y' := Y_X9_basket) (as := [vI x1]) (st := []) dX11_counter_65 lk_RX11_138 m_X9_basket (by decide) (Nat.le_refl _) (Nat.le_refl _) rfl rfl (Nat.le_of_ble_eq_true rfl) (s_X9_basket h) (fun r0 B0 σ_3 h => ?_)
      obtain ⟨r_4, rfl, rfl, h⟩ := h
      exact E_iret dX11_counter_68 rfl ⟨_, rfl, rfl, h⟩
    have h := Eq.mp (if_neg hc) h
    have hc2 := hc
    clear hc
    refine E_tableOut (tgt := 69) dX11_counter_14 (by omega) (by decide) ?_
    refine E_ic dX11_counter_69 rfl ?_
    exact E_iret dX11_counter_70 rfl ⟨_, rfl, rfl, h⟩
  · have h := Eq.mp (if_pos hc) h
    refine E_ic dX11_counter_11 rfl ?_
    exact E_iret dX11_counter_12 rfl ⟨_, rfl, rfl, h⟩
abbrev Y_X11_ball : My := (yX11_ball, cX11_ball, 3, some .int)
theorem dX11_ball_0 : decode cX11_ball 0 = .ok (.aload_n 0, 1) := by decide +kernel
theorem dX11_ball_1 : decode cX11_ball 1 = .ok (.getfield 19, 3) := by decide +kernel
theorem dX11_ball_4 : decode cX11_ball 4 = .ok (.iload_n 1, 1) := by decide +kernel
theorem dX11_ball_5 : decode cX11_ball 5 = .ok (.invokevirtual 142, 3) := by decide +kernel
theorem dX11_ball_8 : decode cX11_ball 8 = .ok (.ifCond .ne 6, 3) := by decide +kernel
theorem dX11_ball_11 : decode cX11_ball 11 = .ok (.bipush (-2), 2) := by decide +kernel
theorem dX11_ball_13 : decode cX11_ball 13 = .ok (.ireturn, 1) := by decide +kernel
theorem dX11_ball_14 : decode cX11_ball 14 = .ok (.iload_n 2, 1) := by decide +kernel
theorem dX11_ball_15 : decode cX11_ball 15 = .ok (.tableswitch 113 0 5 #[37, 47, 57, 67, 93, 103], 37) := by decide +kernel
theorem dX11_ball_52 : decode cX11_ball 52 = .ok (.aload_n 0, 1) := by decide +kernel
theorem dX11_ball_53 : decode cX11_ball 53 = .ok (.getfield 19, 3) := by decide +kernel
theorem dX11_ball_56 : decode cX11_ball 56 = .ok (.getfield 145, 3) := by decide +kernel
theorem dX11_ball_59 : decode cX11_ball 59 = .ok (.iload_n 1, 1) := by decide +kernel
theorem dX11_ball_60 : decode cX11_ball 60 = .ok (.iaload, 1) := by decide +kernel
theorem dX11_ball_61 : decode cX11_ball 61 = .ok (.ireturn, 1) := by decide +kernel
theorem dX11_ball_62 : decode cX11_ball 62 = .ok (.aload_n 0, 1) := by decide +kernel
theorem dX11_ball_63 : decode cX11_ball 63 = .ok (.getfield 50, 3) := by decide +kernel
theorem dX11_ball_66 : decode cX11_ball 66 = .ok (.getfield 148, 3) := by decide +kernel
theorem dX11_ball_69 : decode cX11_ball 69 = .ok (.iload_n 1, 1) := by decide +kernel
theorem dX11_ball_70 : decode cX11_ball 70 = .ok (.iaload, 1) := by decide +kernel
theorem dX11_ball_71 : decode cX11_ball 71 = .ok (.ireturn, 1) := by decide +kernel
theorem dX11_ball_72 : decode cX11_ball 72 = .ok (.aload_n 0, 1) := by decide +kernel
theorem dX11_ball_73 : decode cX11_ball 73 = .ok (.getfield 19, 3) := by decide +kernel
theorem dX11_ball_76 : decode cX11_ball 76 = .ok (.getfield 151, 3) := by decide +kernel
theorem dX11_ball_79 : decode cX11_ball 79 = .ok (.iload_n 1, 1) := by decide +kernel
theorem dX11_ball_80 : decode cX11_ball 80 = .ok (.iaload, 1) := by decide +kernel
theorem dX11_ball_81 : decode cX11_ball 81 = .ok (.ireturn, 1) := by decide +kernel
theorem dX11_ball_82 : decode cX11_ball 82 = .ok (.aload_n 0, 1) := by decide +kernel
theorem dX11_ball_83 : decode cX11_ball 83 = .ok (.getfield 50, 3) := by decide +kernel
theorem dX11_ball_86 : decode cX11_ball 86 = .ok (.getfield 154, 3) := by decide +kernel
theorem dX11_ball_89 : decode cX11_ball 89 = .ok (.iload_n 1, 1) := by decide +kernel
theorem dX11_ball_90 : decode cX11_ball 90 = .ok (.iaload, 1) := by decide +kernel
theorem dX11_ball_91 : decode cX11_ball 91 = .ok (.ifCond .ne 15, 3) := by decide +kernel
theorem dX11_ball_94 : decode cX11_ball 94 = .ok (.aload_n 0, 1) := by decide +kernel
theorem dX11_ball_95 : decode cX11_ball 95 = .ok (.getfield 50, 3) := by decide +kernel
theorem dX11_ball_98 : decode cX11_ball 98 = .ok (.getfield 157, 3) := by decide +kernel
theorem dX11_ball_101 : decode cX11_ball 101 = .ok (.iload_n 1, 1) := by decide +kernel
theorem dX11_ball_102 : decode cX11_ball 102 = .ok (.iaload, 1) := by decide +kernel
theorem dX11_ball_103 : decode cX11_ball 103 = .ok (.goto 4, 3) := by decide +kernel
theorem dX11_ball_106 : decode cX11_ball 106 = .ok (.iconst (-1), 1) := by decide +kernel
theorem dX11_ball_107 : decode cX11_ball 107 = .ok (.ireturn, 1) := by decide +kernel
theorem dX11_ball_108 : decode cX11_ball 108 = .ok (.aload_n 0, 1) := by decide +kernel
theorem dX11_ball_109 : decode cX11_ball 109 = .ok (.getfield 50, 3) := by decide +kernel
theorem dX11_ball_112 : decode cX11_ball 112 = .ok (.getfield 154, 3) := by decide +kernel
theorem dX11_ball_115 : decode cX11_ball 115 = .ok (.iload_n 1, 1) := by decide +kernel
theorem dX11_ball_116 : decode cX11_ball 116 = .ok (.iaload, 1) := by decide +kernel
theorem dX11_ball_117 : decode cX11_ball 117 = .ok (.ireturn, 1) := by decide +kernel
theorem dX11_ball_118 : decode cX11_ball 118 = .ok (.aload_n 0, 1) := by decide +kernel
theorem dX11_ball_119 : decode cX11_ball 119 = .ok (.getfield 50, 3) := by decide +kernel
theorem dX11_ball_122 : decode cX11_ball 122 = .ok (.getfield 160, 3) := by decide +kernel
theorem dX11_ball_125 : decode cX11_ball 125 = .ok (.iload_n 1, 1) := by decide +kernel
theorem dX11_ball_126 : decode cX11_ball 126 = .ok (.iaload, 1) := by decide +kernel
theorem dX11_ball_127 : decode cX11_ball 127 = .ok (.ireturn, 1) := by decide +kernel
theorem dX11_ball_128 : decode cX11_ball 128 = .ok (.bipush (-2), 2) := by decide +kernel
theorem dX11_ball_130 : decode cX11_ball 130 = .ok (.ireturn, 1) := by decide +kernel
theorem fl_RX11_145 : FL RX11 145 8 4 := ⟨inG (i := 199) (by decide +kernel) (by decide +kernel), by decide, by decide⟩
theorem fl_RX11_148 : FL RX11 148 9 2 := ⟨inG (i := 311) (by decide +kernel) (by decide +kernel), by decide, by decide⟩
theorem fl_RX11_151 : FL RX11 151 8 6 := ⟨inG (i := 206) (by decide +kernel) (by decide +kernel), by decide, by decide⟩
theorem fl_RX11_154 : FL RX11 154 9 4 := ⟨inG (i := 315) (by decide +kernel) (by decide +kernel), by decide, by decide⟩
theorem fl_RX11_157 : FL RX11 157 9 3 := ⟨inG (i := 313) (by decide +kernel) (by decide +kernel), by decide, by decide⟩
theorem fl_RX11_160 : FL RX11 160 9 6 := ⟨inG (i := 319) (by decide +kernel) (by decide +kernel), by decide, by decide⟩
theorem lk_RX11_142 : Cond.methodLink RX11 142 yX8_hasBall ∈ tG := inG (i := 899) (by decide +kernel) (by decide +kernel)
def P_X11_ball (x1 : Int) (x2 : Int) (σ : St) (Q : Int → St → Prop) : Prop :=
  P_X8_hasBall 0 x1 σ (fun r_2 σ_1 => (if r_2 = 0 then Q (-2) σ_1 else (if x2 = 0 then 0 ≤ x1 ∧ x1 < 6 ∧ Q (σ_1 904 0 x1) σ_1 else if x2 = 1 then 0 ≤ x1 ∧ x1 < 6 ∧ Q (σ_1 1002 0 x1) σ_1 else if x2 = 2 then 0 ≤ x1 ∧ x1 < 6 ∧ Q (σ_1 906 0 x1) σ_1 else if x2 = 3 then 0 ≤ x1 ∧ x1 < 6 ∧ (if (σ_1 1004 0 x1) = 0 then 0 ≤ x1 ∧ x1 < 6 ∧ Q (σ_1 1003 0 x1) σ_1 else Q (-1) σ_1) else if x2 = 4 then 0 ≤ x1 ∧ x1 < 6 ∧ Q (σ_1 1004 0 x1) σ_1 else if x2 = 5 then 0 ≤ x1 ∧ x1 < 6 ∧ Q (σ_1 1006 0 x1) σ_1 else Q (-2) σ_1)))
set_option maxRecDepth 20000 in
set_option maxHeartbeats 2000000 in
theorem s_X11_ball {x1 : Int} {x2 : Int} {σ : St} {Q : Int → St → Prop} (h : P_X11_ball x1 x2 σ Q) : Cn Y_X11_ball 1 0 0 ww σ [vR 11 0, vI x1, vI x2] (QI Q) := by
  refine Cn_of [some (vR 11 0), some (vI x1), some (vI x2)] (by decide) (Nat.le_of_ble_eq_true rfl) rfl ?_
  unfold P_X11_ball at h
  refine E_aload_n dX11_ball_0 rfl rfl ?_
  refine E_getr (i := 0) dX11_ball_1 fl_RX11_19 rfl rfl (go_11_1 _ _) ?_
  refine E_iload_n dX11_ball_4 rfl rfl ?_
  refine E_callV (Y' := Y_X8_hasBall) (as := [vI x1]) (st := []) dX11_ball_5 lk_RX11_142 m_X8_hasBall (by decide) (Nat.le_refl _) (Nat.le_refl _) rfl rfl (Nat.le_of_ble_eq_true rfl) (s_X8_hasBall h) (fun r0 B0 σ_1 h => ?_)
  obtain ⟨r_2, rfl, rfl, h⟩ := h
  refine E_if_ne (tgt := 14) dX11_ball_8 (by decide) (fun hc => ?_) (fun hc => ?_)
  · have h := Eq.mp (if_neg hc) h
    refine E_iload_n dX11_ball_14 rfl rfl ?_
    by_cases hc : x2 = 0
    · have h := Eq.mp (if_pos hc) h
      refine E_tableIn (off := 37) (tgt := 52) dX11_ball_15 (by omega) (by omega) (by rw [hc]; rfl) (by decide) ?_
      refine E_aload_n dX11_ball_52 rfl rfl ?_
      refine E_getr (i := 0) dX11_ball_53 fl_RX11_19 rfl rfl (go_11_1 _ _) ?_
      refine E_getr (i := 0) dX11_ball_56 fl_RX11_145 rfl rfl (go_8_4 _ _) ?_
      refine E_iload_n dX11_ball_59 rfl rfl ?_
      obtain ⟨hg0, hg1, h⟩ := h
      refine E_iald dX11_ball_60 sh_904 hg0 hg1 ?_
      exact E_iret dX11_ball_61 rfl ⟨_, rfl, rfl, h⟩
    have h := Eq.mp (if_neg hc) h
    have hc0 := hc
    clear hc
    by_cases hc : x2 = 1
    · have h := Eq.mp (if_pos hc) h
      refine E_tableIn (off := 47) (tgt := 62) dX11_ball_15 (by omega) (by omega) (by rw [hc]; rfl) (by decide) ?_
      refine E_aload_n dX11_ball_62 rfl rfl ?_
      refine E_getr (i := 0) dX11_ball_63 fl_RX11_50 rfl rfl (go_11_6 _ _) ?_
      refine E_getr (i := 0) dX11_ball_66 fl_RX11_148 rfl rfl (go_9_2 _ _) ?_
      refine E_iload_n dX11_ball_69 rfl rfl ?_
      obtain ⟨hg0, hg1, h⟩ := h
      refine E_iald dX11_ball_70 sh_1002 hg0 hg1 ?_
      exact E_iret dX11_ball_71 rfl ⟨_, rfl, rfl, h⟩
    have h := Eq.mp (if_neg hc) h
    have hc1 := hc
    clear hc
    by_cases hc : x2 = 2
    · have h := Eq.mp (if_pos hc) h
      refine E_tableIn (off := 57) (tgt := 72) dX11_ball_15 (by omega) (by omega) (by rw [hc]; rfl) (by decide) ?_
      refine E_aload_n dX11_ball_72 rfl rfl ?_
      refine E_getr (i := 0) dX11_ball_73 fl_RX11_19 rfl rfl (go_11_1 _ _) ?_
      refine E_getr (i := 0) dX11_ball_76 fl_RX11_151 rfl rfl (go_8_6 _ _) ?_
      refine E_iload_n dX11_ball_79 rfl rfl ?_
      obtain ⟨hg0, hg1, h⟩ := h
      refine E_iald dX11_ball_80 sh_906 hg0 hg1 ?_
      exact E_iret dX11_ball_81 rfl ⟨_, rfl, rfl, h⟩
    have h := Eq.mp (if_neg hc) h
    have hc2 := hc
    clear hc
    by_cases hc : x2 = 3
    · have h := Eq.mp (if_pos hc) h
      refine E_tableIn (off := 67) (tgt := 82) dX11_ball_15 (by omega) (by omega) (by rw [hc]; rfl) (by decide) ?_
      refine E_aload_n dX11_ball_82 rfl rfl ?_
      refine E_getr (i := 0) dX11_ball_83 fl_RX11_50 rfl rfl (go_11_6 _ _) ?_
      refine E_getr (i := 0) dX11_ball_86 fl_RX11_154 rfl rfl (go_9_4 _ _) ?_
      refine E_iload_n dX11_ball_89 rfl rfl ?_
      obtain ⟨hg0, hg1, h⟩ := h
      refine E_iald dX11_ball_90 sh_1004 hg0 hg1 ?_
      refine E_if_ne (tgt := 106) dX11_ball_91 (by decide) (fun hc => ?_) (fun hc => ?_)
      · have h := Eq.mp (if_neg hc) h
        refine E_ic dX11_ball_106 rfl ?_
        exact E_iret dX11_ball_107 rfl ⟨_, rfl, rfl, h⟩
      · have h := Eq.mp (if_pos hc) h
        refine E_aload_n dX11_ball_94 rfl rfl ?_
        refine E_getr (i := 0) dX11_ball_95 fl_RX11_50 rfl rfl (go_11_6 _ _) ?_
        refine E_getr (i := 0) dX11_ball_98 fl_RX11_157 rfl rfl (go_9_3 _ _) ?_
        refine E_iload_n dX11_ball_101 rfl rfl ?_
        obtain ⟨hg0, hg1, h⟩ := h
        refine E_iald dX11_ball_102 sh_1003 hg0 hg1 ?_
        refine E_goto (tgt := 107) dX11_ball_103 (by decide) ?_
        exact E_iret dX11_ball_107 rfl ⟨_, rfl, rfl, h⟩
    have h := Eq.mp (if_neg hc) h
    have hc3 := hc
    clear hc
    by_cases hc : x2 = 4
    · have h := Eq.mp (if_pos hc) h
      refine E_tableIn (off := 93) (tgt := 108) dX11_ball_15 (by omega) (by omega) (by rw [hc]; rfl) (by decide) ?_
      refine E_aload_n dX11_ball_108 rfl rfl ?_
      refine E_getr (i := 0) dX11_ball_109 fl_RX11_50 rfl rfl (go_11_6 _ _) ?_
      refine E_getr (i := 0) dX11_ball_112 fl_RX11_154 rfl rfl (go_9_4 _ _) ?_
      refine E_iload_n dX11_ball_115 rfl rfl ?_
      obtain ⟨hg0, hg1, h⟩ := h
      refine E_iald dX11_ball_116 sh_1004 hg0 hg1 ?_
      exact E_iret dX11_ball_117 rfl ⟨_, rfl, rfl, h⟩
    have h := Eq.mp (if_neg hc) h
    have hc4 := hc
    clear hc
    by_cases hc : x2 = 5
    · have h := Eq.mp (if_pos hc) h
      refine E_tableIn (off := 103) (tgt := 118) dX11_ball_15 (by omega) (by omega) (by rw [hc]; rfl) (by decide) ?_
      refine E_aload_n dX11_ball_118 rfl rfl ?_
      refine E_getr (i := 0) dX11_ball_119 fl_RX11_50 rfl rfl (go_11_6 _ _) ?_
      refine E_getr (i := 0) dX11_ball_122 fl_RX11_160 rfl rfl (go_9_6 _ _) ?_
      refine E_iload_n dX11_ball_125 rfl rfl ?_
      obtain ⟨hg0, hg1, h⟩ := h
      refine E_iald dX11_ball_126 sh_1006 hg0 hg1 ?_
      exact E_iret dX11_ball_127 rfl ⟨_, rfl, rfl, h⟩
    have h := Eq.mp (if_neg hc) h
    have hc5 := hc
    clear hc
    refine E_tableOut (tgt := 128) dX11_ball_15 (by omega) (by decide) ?_
    refine E_bp dX11_ball_128 rfl ?_
    exact E_iret dX11_ball_130 rfl ⟨_, rfl, rfl, h⟩
  · have h := Eq.mp (if_pos hc) h
    refine E_bp dX11_ball_11 rfl ?_
    exact E_iret dX11_ball_13 rfl ⟨_, rfl, rfl, h⟩
abbrev Y_X11_falls : My := (yX11_falls, cX11_falls, 2, some .int)
theorem dX11_falls_0 : decode cX11_falls 0 = .ok (.aload_n 0, 1) := by decide +kernel
theorem dX11_falls_1 : decode cX11_falls 1 = .ok (.getfield 19, 3) := by decide +kernel
theorem dX11_falls_4 : decode cX11_falls 4 = .ok (.iload_n 1, 1) := by decide +kernel
theorem dX11_falls_5 : decode cX11_falls 5 = .ok (.invokevirtual 142, 3) := by decide +kernel
theorem dX11_falls_8 : decode cX11_falls 8 = .ok (.ifCond .eq 14, 3) := by decide +kernel
theorem dX11_falls_11 : decode cX11_falls 11 = .ok (.aload_n 0, 1) := by decide +kernel
theorem dX11_falls_12 : decode cX11_falls 12 = .ok (.getfield 50, 3) := by decide +kernel
theorem dX11_falls_15 : decode cX11_falls 15 = .ok (.iload_n 1, 1) := by decide +kernel
theorem dX11_falls_16 : decode cX11_falls 16 = .ok (.invokevirtual 213, 3) := by decide +kernel
theorem dX11_falls_19 : decode cX11_falls 19 = .ok (.goto 4, 3) := by decide +kernel
theorem dX11_falls_22 : decode cX11_falls 22 = .ok (.iconst (-1), 1) := by decide +kernel
theorem dX11_falls_23 : decode cX11_falls 23 = .ok (.ireturn, 1) := by decide +kernel
theorem lk_RX11_213 : Cond.methodLink RX11 213 yX9_fallOf ∈ tG := inG (i := 1064) (by decide +kernel) (by decide +kernel)
def P_X11_falls (x1 : Int) (σ : St) (Q : Int → St → Prop) : Prop :=
  P_X8_hasBall 0 x1 σ (fun r_2 σ_1 => (if r_2 = 0 then Q (-1) σ_1 else P_X9_fallOf 0 x1 σ_1 (fun r_4 σ_3 => Q r_4 σ_3)))
set_option maxRecDepth 20000 in
set_option maxHeartbeats 2000000 in
theorem s_X11_falls {x1 : Int} {σ : St} {Q : Int → St → Prop} (h : P_X11_falls x1 σ Q) : Cn Y_X11_falls 2 0 0 ww σ [vR 11 0, vI x1] (QI Q) := by
  refine Cn_of [some (vR 11 0), some (vI x1)] (by decide) (Nat.le_of_ble_eq_true rfl) rfl ?_
  unfold P_X11_falls at h
  refine E_aload_n dX11_falls_0 rfl rfl ?_
  refine E_getr (i := 0) dX11_falls_1 fl_RX11_19 rfl rfl (go_11_1 _ _) ?_
  refine E_iload_n dX11_falls_4 rfl rfl ?_
  refine E_callV (Y' := Y_X8_hasBall) (as := [vI x1]) (st := []) dX11_falls_5 lk_RX11_142 m_X8_hasBall (by decide) (Nat.le_refl _) (Nat.le_refl _) rfl rfl (Nat.le_of_ble_eq_true rfl) (s_X8_hasBall h) (fun r0 B0 σ_1 h => ?_)
  obtain ⟨r_2, rfl, rfl, h⟩ := h
  refine E_if_eq (tgt := 22) dX11_falls_8 (by decide) (fun hc => ?_) (fun hc => ?_)
  · have h := Eq.mp (if_pos hc) h
    refine E_ic dX11_falls_22 rfl ?_
    exact E_iret dX11_falls_23 rfl ⟨_, rfl, rfl, h⟩
  · have h := Eq.mp (if_neg hc) h
    refine E_aload_n dX11_falls_11 rfl rfl ?_
    refine E_getr (i := 0) dX11_falls_12 fl_RX11_50 rfl rfl (go_11_6 _ _) ?_
    refine E_iload_n dX11_falls_15 rfl rfl ?_
    refine E_callV (Y' := Y_X9_fallOf) (as := [vI x1]) (st := []) dX11_falls_16 lk_RX11_213 m_X9_fallOf (by decide) (Nat.le_refl _) (Nat.le_refl _) rfl rfl (Nat.le_of_ble_eq_true rfl) (s_X9_fallOf h) (fun r0 B0 σ_3 h => ?_)
    obtain ⟨r_4, rfl, rfl, h⟩ := h
    refine E_goto (tgt := 23) dX11_falls_19 (by decide) ?_
    exact E_iret dX11_falls_23 rfl ⟨_, rfl, rfl, h⟩
abbrev Y_X11_row : My := (yX11_row, cX11_row, 2, some .int)
theorem dX11_row_0 : decode cX11_row 0 = .ok (.iload_n 1, 1) := by decide +kernel
theorem dX11_row_1 : decode cX11_row 1 = .ok (.ifCond .lt 26, 3) := by decide +kernel
theorem dX11_row_4 : decode cX11_row 4 = .ok (.iload_n 1, 1) := by decide +kernel
theorem dX11_row_5 : decode cX11_row 5 = .ok (.aload_n 0, 1) := by decide +kernel
theorem dX11_row_6 : decode cX11_row 6 = .ok (.getfield 50, 3) := by decide +kernel
theorem dX11_row_9 : decode cX11_row 9 = .ok (.getfield 252, 3) := by decide +kernel
theorem dX11_row_12 : decode cX11_row 12 = .ok (.if_icmp .ge 15, 3) := by decide +kernel
theorem dX11_row_15 : decode cX11_row 15 = .ok (.aload_n 0, 1) := by decide +kernel
theorem dX11_row_16 : decode cX11_row 16 = .ok (.getfield 50, 3) := by decide +kernel
theorem dX11_row_19 : decode cX11_row 19 = .ok (.getfield 255, 3) := by decide +kernel
theorem dX11_row_22 : decode cX11_row 22 = .ok (.iload_n 1, 1) := by decide +kernel
theorem dX11_row_23 : decode cX11_row 23 = .ok (.iaload, 1) := by decide +kernel
theorem dX11_row_24 : decode cX11_row 24 = .ok (.goto 4, 3) := by decide +kernel
theorem dX11_row_27 : decode cX11_row 27 = .ok (.iconst (-1), 1) := by decide +kernel
theorem dX11_row_28 : decode cX11_row 28 = .ok (.ireturn, 1) := by decide +kernel
theorem fl_RX11_252 : FL RX11 252 9 8 := ⟨inG (i := 323) (by decide +kernel) (by decide +kernel), by decide, by decide⟩
theorem fl_RX11_255 : FL RX11 255 9 7 := ⟨inG (i := 321) (by decide +kernel) (by decide +kernel), by decide, by decide⟩
def P_X11_row_J27   (Q : Int → St → Prop) (σ : St) : Prop :=
  Q (-1) σ
set_option maxRecDepth 20000 in
set_option maxHeartbeats 2000000 in
theorem e_P_X11_row_J27   {Q : Int → St → Prop} {σ : St}  (h : P_X11_row_J27  Q σ) : E Y_X11_row 0 0 0 (QI Q) ww 0 0 27 [none, none] [] σ := by
  unfold P_X11_row_J27 at h
  refine E_ic dX11_row_27 rfl ?_
  exact E_iret dX11_row_28 rfl ⟨_, rfl, rfl, h⟩
def P_X11_row (x1 : Int) (σ : St) (Q : Int → St → Prop) : Prop :=
  (if x1 < 0 then P_X11_row_J27 Q σ else (if (σ 9 0 8) ≤ x1 then P_X11_row_J27 Q σ else 0 ≤ x1 ∧ x1 < 6 ∧ Q (σ 1007 0 x1) σ))
set_option maxRecDepth 20000 in
set_option maxHeartbeats 2000000 in
theorem s_X11_row {x1 : Int} {σ : St} {Q : Int → St → Prop} (h : P_X11_row x1 σ Q) : Cn Y_X11_row 0 0 0 ww σ [vR 11 0, vI x1] (QI Q) := by
  refine Cn_of [some (vR 11 0), some (vI x1)] (by decide) (Nat.le_of_ble_eq_true rfl) rfl ?_
  unfold P_X11_row at h
  refine E_iload_n dX11_row_0 rfl rfl ?_
  refine E_if_lt (tgt := 27) dX11_row_1 (by decide) (fun hc => ?_) (fun hc => ?_)
  · have h := Eq.mp (if_pos hc) h
    refine E_wk2 [none, none] trivial ?_
    exact e_P_X11_row_J27 h
  · have h := Eq.mp (if_neg hc) h
    refine E_iload_n dX11_row_4 rfl rfl ?_
    refine E_aload_n dX11_row_5 rfl rfl ?_
    refine E_getr (i := 0) dX11_row_6 fl_RX11_50 rfl rfl (go_11_6 _ _) ?_
    refine E_geti (i := 0) dX11_row_9 fl_RX11_252 rfl ?_
    refine E_icmp_ge (tgt := 27) dX11_row_12 (by decide) (fun hc => ?_) (fun hc => ?_)
    · have h := Eq.mp (if_pos hc) h
      refine E_wk2 [none, none] trivial ?_
      exact e_P_X11_row_J27 h
    · have h := Eq.mp (if_neg hc) h
      refine E_aload_n dX11_row_15 rfl rfl ?_
      refine E_getr (i := 0) dX11_row_16 fl_RX11_50 rfl rfl (go_11_6 _ _) ?_
      refine E_getr (i := 0) dX11_row_19 fl_RX11_255 rfl rfl (go_9_7 _ _) ?_
      refine E_iload_n dX11_row_22 rfl rfl ?_
      obtain ⟨hg0, hg1, h⟩ := h
      refine E_iald dX11_row_23 sh_1007 hg0 hg1 ?_
      refine E_goto (tgt := 28) dX11_row_24 (by decide) ?_
      exact E_iret dX11_row_28 rfl ⟨_, rfl, rfl, h⟩
abbrev Y_X11_count : My := (yX11_count, cX11_count, 2, some .int)
theorem dX11_count_0 : decode cX11_count 0 = .ok (.iload_n 1, 1) := by decide +kernel
theorem dX11_count_1 : decode cX11_count 1 = .ok (.tableswitch 192 0 13 #[71, 79, 87, 95, 103, 118, 126, 135, 144, 152, 160, 168, 176, 184], 71) := by decide +kernel
theorem dX11_count_72 : decode cX11_count 72 = .ok (.aload_n 0, 1) := by decide +kernel
theorem dX11_count_73 : decode cX11_count 73 = .ok (.getfield 19, 3) := by decide +kernel
theorem dX11_count_76 : decode cX11_count 76 = .ok (.getfield 226, 3) := by decide +kernel
theorem dX11_count_79 : decode cX11_count 79 = .ok (.ireturn, 1) := by decide +kernel
theorem dX11_count_80 : decode cX11_count 80 = .ok (.aload_n 0, 1) := by decide +kernel
theorem dX11_count_81 : decode cX11_count 81 = .ok (.getfield 19, 3) := by decide +kernel
theorem dX11_count_84 : decode cX11_count 84 = .ok (.getfield 258, 3) := by decide +kernel
theorem dX11_count_87 : decode cX11_count 87 = .ok (.ireturn, 1) := by decide +kernel
theorem dX11_count_88 : decode cX11_count 88 = .ok (.aload_n 0, 1) := by decide +kernel
theorem dX11_count_89 : decode cX11_count 89 = .ok (.getfield 50, 3) := by decide +kernel
theorem dX11_count_92 : decode cX11_count 92 = .ok (.getfield 313, 3) := by decide +kernel
theorem dX11_count_95 : decode cX11_count 95 = .ok (.ireturn, 1) := by decide +kernel
theorem dX11_count_96 : decode cX11_count 96 = .ok (.aload_n 0, 1) := by decide +kernel
theorem dX11_count_97 : decode cX11_count 97 = .ok (.getfield 50, 3) := by decide +kernel
theorem dX11_count_100 : decode cX11_count 100 = .ok (.getfield 316, 3) := by decide +kernel
theorem dX11_count_103 : decode cX11_count 103 = .ok (.ireturn, 1) := by decide +kernel
theorem dX11_count_104 : decode cX11_count 104 = .ok (.aload_n 0, 1) := by decide +kernel
theorem dX11_count_105 : decode cX11_count 105 = .ok (.getfield 19, 3) := by decide +kernel
theorem dX11_count_108 : decode cX11_count 108 = .ok (.aload_n 0, 1) := by decide +kernel
theorem dX11_count_109 : decode cX11_count 109 = .ok (.getfield 50, 3) := by decide +kernel
theorem dX11_count_112 : decode cX11_count 112 = .ok (.getfield 313, 3) := by decide +kernel
theorem dX11_count_115 : decode cX11_count 115 = .ok (.invokevirtual 319, 3) := by decide +kernel
theorem dX11_count_118 : decode cX11_count 118 = .ok (.ireturn, 1) := by decide +kernel
theorem dX11_count_119 : decode cX11_count 119 = .ok (.aload_n 0, 1) := by decide +kernel
theorem dX11_count_120 : decode cX11_count 120 = .ok (.getfield 50, 3) := by decide +kernel
theorem dX11_count_123 : decode cX11_count 123 = .ok (.getfield 252, 3) := by decide +kernel
theorem dX11_count_126 : decode cX11_count 126 = .ok (.ireturn, 1) := by decide +kernel
theorem dX11_count_127 : decode cX11_count 127 = .ok (.aload_n 0, 1) := by decide +kernel
theorem dX11_count_128 : decode cX11_count 128 = .ok (.getfield 50, 3) := by decide +kernel
theorem dX11_count_131 : decode cX11_count 131 = .ok (.iconst 1, 1) := by decide +kernel
theorem dX11_count_132 : decode cX11_count 132 = .ok (.invokevirtual 322, 3) := by decide +kernel
theorem dX11_count_135 : decode cX11_count 135 = .ok (.ireturn, 1) := by decide +kernel
theorem dX11_count_136 : decode cX11_count 136 = .ok (.aload_n 0, 1) := by decide +kernel
theorem dX11_count_137 : decode cX11_count 137 = .ok (.getfield 50, 3) := by decide +kernel
theorem dX11_count_140 : decode cX11_count 140 = .ok (.iconst 3, 1) := by decide +kernel
theorem dX11_count_141 : decode cX11_count 141 = .ok (.invokevirtual 322, 3) := by decide +kernel
theorem dX11_count_144 : decode cX11_count 144 = .ok (.ireturn, 1) := by decide +kernel
theorem dX11_count_145 : decode cX11_count 145 = .ok (.aload_n 0, 1) := by decide +kernel
theorem dX11_count_146 : decode cX11_count 146 = .ok (.getfield 50, 3) := by decide +kernel
theorem dX11_count_149 : decode cX11_count 149 = .ok (.invokevirtual 205, 3) := by decide +kernel
theorem dX11_count_152 : decode cX11_count 152 = .ok (.ireturn, 1) := by decide +kernel
theorem dX11_count_153 : decode cX11_count 153 = .ok (.aload_n 0, 1) := by decide +kernel
theorem dX11_count_154 : decode cX11_count 154 = .ok (.getfield 19, 3) := by decide +kernel
theorem dX11_count_157 : decode cX11_count 157 = .ok (.getfield 325, 3) := by decide +kernel
theorem dX11_count_160 : decode cX11_count 160 = .ok (.ireturn, 1) := by decide +kernel
theorem dX11_count_161 : decode cX11_count 161 = .ok (.aload_n 0, 1) := by decide +kernel
theorem dX11_count_162 : decode cX11_count 162 = .ok (.getfield 29, 3) := by decide +kernel
theorem dX11_count_165 : decode cX11_count 165 = .ok (.getfield 112, 3) := by decide +kernel
theorem dX11_count_168 : decode cX11_count 168 = .ok (.ireturn, 1) := by decide +kernel
theorem dX11_count_169 : decode cX11_count 169 = .ok (.aload_n 0, 1) := by decide +kernel
theorem dX11_count_170 : decode cX11_count 170 = .ok (.getfield 67, 3) := by decide +kernel
theorem dX11_count_173 : decode cX11_count 173 = .ok (.getfield 115, 3) := by decide +kernel
theorem dX11_count_176 : decode cX11_count 176 = .ok (.ireturn, 1) := by decide +kernel
theorem dX11_count_177 : decode cX11_count 177 = .ok (.aload_n 0, 1) := by decide +kernel
theorem dX11_count_178 : decode cX11_count 178 = .ok (.getfield 60, 3) := by decide +kernel
theorem dX11_count_181 : decode cX11_count 181 = .ok (.getfield 116, 3) := by decide +kernel
theorem dX11_count_184 : decode cX11_count 184 = .ok (.ireturn, 1) := by decide +kernel
theorem dX11_count_185 : decode cX11_count 185 = .ok (.aload_n 0, 1) := by decide +kernel
theorem dX11_count_186 : decode cX11_count 186 = .ok (.getfield 10, 3) := by decide +kernel
theorem dX11_count_189 : decode cX11_count 189 = .ok (.getfield 98, 3) := by decide +kernel
theorem dX11_count_192 : decode cX11_count 192 = .ok (.ireturn, 1) := by decide +kernel
theorem dX11_count_193 : decode cX11_count 193 = .ok (.iconst (-1), 1) := by decide +kernel
theorem dX11_count_194 : decode cX11_count 194 = .ok (.ireturn, 1) := by decide +kernel
theorem fl_RX11_10 : FL RX11 10 11 0 := ⟨inG (i := 474) (by decide +kernel) (by decide +kernel), by decide, by decide⟩
theorem fl_RX11_112 : FL RX11 112 3 3 := ⟨inG (i := 270) (by decide +kernel) (by decide +kernel), by decide, by decide⟩
theorem fl_RX11_115 : FL RX11 115 7 3 := ⟨inG (i := 386) (by decide +kernel) (by decide +kernel), by decide, by decide⟩
theorem fl_RX11_116 : FL RX11 116 5 1 := ⟨inG (i := 370) (by decide +kernel) (by decide +kernel), by decide, by decide⟩
theorem fl_RX11_226 : FL RX11 226 8 10 := ⟨inG (i := 217) (by decide +kernel) (by decide +kernel), by decide, by decide⟩
theorem fl_RX11_258 : FL RX11 258 8 11 := ⟨inG (i := 224) (by decide +kernel) (by decide +kernel), by decide, by decide⟩
theorem fl_RX11_29 : FL RX11 29 11 3 := ⟨inG (i := 477) (by decide +kernel) (by decide +kernel), by decide, by decide⟩
theorem fl_RX11_313 : FL RX11 313 9 10 := ⟨inG (i := 327) (by decide +kernel) (by decide +kernel), by decide, by decide⟩
theorem fl_RX11_316 : FL RX11 316 9 11 := ⟨inG (i := 329) (by decide +kernel) (by decide +kernel), by decide, by decide⟩
theorem fl_RX11_325 : FL RX11 325 8 13 := ⟨inG (i := 230) (by decide +kernel) (by decide +kernel), by decide, by decide⟩
theorem fl_RX11_60 : FL RX11 60 11 8 := ⟨inG (i := 482) (by decide +kernel) (by decide +kernel), by decide, by decide⟩
theorem fl_RX11_67 : FL RX11 67 11 9 := ⟨inG (i := 483) (by decide +kernel) (by decide +kernel), by decide, by decide⟩
theorem fl_RX11_98 : FL RX11 98 10 4 := ⟨inG (i := 142) (by decide +kernel) (by decide +kernel), by decide, by decide⟩
theorem go_11_0 (σ : St) (i : Nat) : go σ 11 i 0 = (10, 0) := rfl
theorem go_11_3 (σ : St) (i : Nat) : go σ 11 i 3 = (3, 0) := rfl
theorem go_11_8 (σ : St) (i : Nat) : go σ 11 i 8 = (5, 0) := rfl
theorem go_11_9 (σ : St) (i : Nat) : go σ 11 i 9 = (7, 0) := rfl
theorem lk_RX11_205 : Cond.methodLink RX11 205 yX9_astray ∈ tG := inG (i := 1050) (by decide +kernel) (by decide +kernel)
theorem lk_RX11_319 : Cond.methodLink RX11 319 yX8_dampOn ∈ tG := inG (i := 1313) (by decide +kernel) (by decide +kernel)
theorem lk_RX11_322 : Cond.methodLink RX11 322 yX9_inPhase ∈ tG := inG (i := 1314) (by decide +kernel) (by decide +kernel)
theorem m_X8_dampOn : MV Y_X8_dampOn 1 8 := ⟨⟨inG (i := 1007) (by decide +kernel) (by decide +kernel), inG (i := 100) (by decide +kernel) (by decide +kernel), by decide, by decide, by decide, by decide +kernel⟩, inG (i := 1005) (by decide +kernel) (by decide +kernel), inG (i := 1006) (by decide +kernel) (by decide +kernel), by decide⟩
theorem m_X9_astray : MV Y_X9_astray 0 9 := ⟨⟨inG (i := 1053) (by decide +kernel) (by decide +kernel), inG (i := 104) (by decide +kernel) (by decide +kernel), by decide, by decide, by decide, by decide +kernel⟩, inG (i := 1051) (by decide +kernel) (by decide +kernel), inG (i := 1052) (by decide +kernel) (by decide +kernel), by decide⟩
theorem m_X9_inPhase : MV Y_X9_inPhase 1 9 := ⟨⟨inG (i := 1002) (by decide +kernel) (by decide +kernel), inG (i := 104) (by decide +kernel) (by decide +kernel), by decide, by decide, by decide, by decide +kernel⟩, inG (i := 1000) (by decide +kernel) (by decide +kernel), inG (i := 1001) (by decide +kernel) (by decide +kernel), by decide⟩
def P_X11_count (x1 : Int) (σ : St) (Q : Int → St → Prop) : Prop :=
  (if x1 = 0 then Q (σ 8 0 10) σ else if x1 = 1 then Q (σ 8 0 11) σ else if x1 = 2 then Q (σ 9 0 10) σ else if x1 = 3 then Q (σ 9 0 11) σ else if x1 = 4 then P_X8_dampOn 0 (σ 9 0 10) σ (fun r_2 σ_1 => Q r_2 σ_1) else if x1 = 5 then Q (σ 9 0 8) σ else if x1 = 6 then P_X9_inPhase 0 1 σ (fun r_4 σ_3 => Q r_4 σ_3) else if x1 = 7 then P_X9_inPhase 0 3 σ (fun r_6 σ_5 => Q r_6 σ_5) else if x1 = 8 then P_X9_astray 0 σ (fun r_8 σ_7 => Q r_8 σ_7) else if x1 = 9 then Q (σ 8 0 13) σ else if x1 = 10 then Q (σ 3 0 3) σ else if x1 = 11 then Q (σ 7 0 3) σ else if x1 = 12 then Q (σ 5 0 1) σ else if x1 = 13 then Q (σ 10 0 4) σ else Q (-1) σ)
set_option maxRecDepth 20000 in
set_option maxHeartbeats 2000000 in
theorem s_X11_count {x1 : Int} {σ : St} {Q : Int → St → Prop} (h : P_X11_count x1 σ Q) : Cn Y_X11_count 1 0 0 ww σ [vR 11 0, vI x1] (QI Q) := by
  refine Cn_of [some (vR 11 0), some (vI x1)] (by decide) (Nat.le_of_ble_eq_true rfl) rfl ?_
  unfold P_X11_count at h
  refine E_iload_n dX11_count_0 rfl rfl ?_
  by_cases hc : x1 = 0
  · have h := Eq.mp (if_pos hc) h
    refine E_tableIn (off := 71) (tgt := 72) dX11_count_1 (by omega) (by omega) (by rw [hc]; rfl) (by decide) ?_
    refine E_aload_n dX11_count_72 rfl rfl ?_
    refine E_getr (i := 0) dX11_count_73 fl_RX11_19 rfl rfl (go_11_1 _ _) ?_
    refine E_geti (i := 0) dX11_count_76 fl_RX11_226 rfl ?_
    exact E_iret dX11_count_79 rfl ⟨_, rfl, rfl, h⟩
  have h := Eq.mp (if_neg hc) h
  have hc0 := hc
  clear hc
  by_cases hc : x1 = 1
  · have h := Eq.mp (if_pos hc) h
    refine E_tableIn (off := 79) (tgt := 80) dX11_count_1 (by omega) (by omega) (by rw [hc]; rfl) (by decide) ?_
    refine E_aload_n dX11_count_80 rfl rfl ?_
    refine E_getr (i := 0) dX11_count_81 fl_RX11_19 rfl rfl (go_11_1 _ _) ?_
    refine E_geti (i := 0) dX11_count_84 fl_RX11_258 rfl ?_
    exact E_iret dX11_count_87 rfl ⟨_, rfl, rfl, h⟩
  have h := Eq.mp (if_neg hc) h
  have hc1 := hc
  clear hc
  by_cases hc : x1 = 2
  · have h := Eq.mp (if_pos hc) h
    refine E_tableIn (off := 87) (tgt := 88) dX11_count_1 (by omega) (by omega) (by rw [hc]; rfl) (by decide) ?_
    refine E_aload_n dX11_count_88 rfl rfl ?_
    refine E_getr (i := 0) dX11_count_89 fl_RX11_50 rfl rfl (go_11_6 _ _) ?_
    refine E_geti (i := 0) dX11_count_92 fl_RX11_313 rfl ?_
    exact E_iret dX11_count_95 rfl ⟨_, rfl, rfl, h⟩
  have h := Eq.mp (if_neg hc) h
  have hc2 := hc
  clear hc
  by_cases hc : x1 = 3
  · have h := Eq.mp (if_pos hc) h
    refine E_tableIn (off := 95) (tgt := 96) dX11_count_1 (by omega) (by omega) (by rw [hc]; rfl) (by decide) ?_
    refine E_aload_n dX11_count_96 rfl rfl ?_
    refine E_getr (i := 0) dX11_count_97 fl_RX11_50 rfl rfl (go_11_6 _ _) ?_
    refine E_geti (i := 0) dX11_count_100 fl_RX11_316 rfl ?_
    exact E_iret dX11_count_103 rfl ⟨_, rfl, rfl, h⟩
  have h := Eq.mp (if_neg hc) h
  have hc3 := hc
  clear hc
  by_cases hc : x1 = 4
  · have h := Eq.mp (if_pos hc) h
    refine E_tableIn (off := 103) (tgt := 104) dX11_count_1 (by omega) (by omega) (by rw [hc]; rfl) (by decide) ?_
    refine E_aload_n dX11_count_104 rfl rfl ?_
    refine E_getr (i := 0) dX11_count_105 fl_RX11_19 rfl rfl (go_11_1 _ _) ?_
    refine E_aload_n dX11_count_108 rfl rfl ?_
    refine E_getr (i := 0) dX11_count_109 fl_RX11_50 rfl rfl (go_11_6 _ _) ?_
    refine E_geti (i := 0) dX11_count_112 fl_RX11_313 rfl ?_
    refine E_callV (Y' := Y_X8_dampOn) (as := [vI (σ 9 0 10)]) (st := []) dX11_count_115 lk_RX11_319 m_X8_dampOn (by decide) (Nat.le_refl _) (Nat.le_refl _) rfl rfl (Nat.le_of_ble_eq_true rfl) (s_X8_dampOn h) (fun r0 B0 σ_1 h => ?_)
    obtain ⟨r_2, rfl, rfl, h⟩ := h
    exact E_iret dX11_count_118 rfl ⟨_, rfl, rfl, h⟩
  have h := Eq.mp (if_neg hc) h
  have hc4 := hc
  clear hc
  by_cases hc : x1 = 5
  · have h := Eq.mp (if_pos hc) h
    refine E_tableIn (off := 118) (tgt := 119) dX11_count_1 (by omega) (by omega) (by rw [hc]; rfl) (by decide) ?_
    refine E_aload_n dX11_count_119 rfl rfl ?_
    refine E_getr (i := 0) dX11_count_120 fl_RX11_50 rfl rfl (go_11_6 _ _) ?_
    refine E_geti (i := 0) dX11_count_123 fl_RX11_252 rfl ?_
    exact E_iret dX11_count_126 rfl ⟨_, rfl, rfl, h⟩
  have h := Eq.mp (if_neg hc) h
  have hc5 := hc
  clear hc
  by_cases hc : x1 = 6
  · have h := Eq.mp (if_pos hc) h
    refine E_tableIn (off := 126) (tgt := 127) dX11_count_1 (by omega) (by omega) (by rw [hc]; rfl) (by decide) ?_
    refine E_aload_n dX11_count_127 rfl rfl ?_
    refine E_getr (i := 0) dX11_count_128 fl_RX11_50 rfl rfl (go_11_6 _ _) ?_
    refine E_ic dX11_count_131 rfl ?_
    refine E_callV (Y' := Y_X9_inPhase) (as := [vI 1]) (st := []) dX11_count_132 lk_RX11_322 m_X9_inPhase (by decide) (Nat.le_refl _) (Nat.le_refl _) rfl rfl (Nat.le_of_ble_eq_true rfl) (s_X9_inPhase h) (fun r0 B0 σ_3 h => ?_)
    obtain ⟨r_4, rfl, rfl, h⟩ := h
    exact E_iret dX11_count_135 rfl ⟨_, rfl, rfl, h⟩
  have h := Eq.mp (if_neg hc) h
  have hc6 := hc
  clear hc
  by_cases hc : x1 = 7
  · have h := Eq.mp (if_pos hc) h
    refine E_tableIn (off := 135) (tgt := 136) dX11_count_1 (by omega) (by omega) (by rw [hc]; rfl) (by decide) ?_
    refine E_aload_n dX11_count_136 rfl rfl ?_
    refine E_getr (i := 0) dX11_count_137 fl_RX11_50 rfl rfl (go_11_6 _ _) ?_
    refine E_ic dX11_count_140 rfl ?_
    refine E_callV (Y' := Y_X9_inPhase) (as := [vI 3]) (st := []) dX11_count_141 lk_RX11_322 m_X9_inPhase (by decide) (Nat.le_refl _) (Nat.le_refl _) rfl rfl (Nat.le_of_ble_eq_true rfl) (s_X9_inPhase h) (fun r0 B0 σ_5 h => ?_)
    obtain ⟨r_6, rfl, rfl, h⟩ := h
    exact E_iret dX11_count_144 rfl ⟨_, rfl, rfl, h⟩
  have h := Eq.mp (if_neg hc) h
  have hc7 := hc
  clear hc
  by_cases hc : x1 = 8
  · have h := Eq.mp (if_pos hc) h
    refine E_tableIn (off := 144) (tgt := 145) dX11_count_1 (by omega) (by omega) (by rw [hc]; rfl) (by decide) ?_
    refine E_aload_n dX11_count_145 rfl rfl ?_
    refine E_getr (i := 0) dX11_count_146 fl_RX11_50 rfl rfl (go_11_6 _ _) ?_
    refine E_callV (Y' := Y_X9_astray) (as := []) (st := []) dX11_count_149 lk_RX11_205 m_X9_astray (by decide) (Nat.le_refl _) (Nat.le_refl _) rfl rfl (Nat.le_of_ble_eq_true rfl) (s_X9_astray h) (fun r0 B0 σ_7 h => ?_)
    obtain ⟨r_8, rfl, rfl, h⟩ := h
    exact E_iret dX11_count_152 rfl ⟨_, rfl, rfl, h⟩
  have h := Eq.mp (if_neg hc) h
  have hc8 := hc
  clear hc
  by_cases hc : x1 = 9
  · have h := Eq.mp (if_pos hc) h
    refine E_tableIn (off := 152) (tgt := 153) dX11_count_1 (by omega) (by omega) (by rw [hc]; rfl) (by decide) ?_
    refine E_aload_n dX11_count_153 rfl rfl ?_
    refine E_getr (i := 0) dX11_count_154 fl_RX11_19 rfl rfl (go_11_1 _ _) ?_
    refine E_geti (i := 0) dX11_count_157 fl_RX11_325 rfl ?_
    exact E_iret dX11_count_160 rfl ⟨_, rfl, rfl, h⟩
  have h := Eq.mp (if_neg hc) h
  have hc9 := hc
  clear hc
  by_cases hc : x1 = 10
  · have h := Eq.mp (if_pos hc) h
    refine E_tableIn (off := 160) (tgt := 161) dX11_count_1 (by omega) (by omega) (by rw [hc]; rfl) (by decide) ?_
    refine E_aload_n dX11_count_161 rfl rfl ?_
    refine E_getr (i := 0) dX11_count_162 fl_RX11_29 rfl rfl (go_11_3 _ _) ?_
    refine E_geti (i := 0) dX11_count_165 fl_RX11_112 rfl ?_
    exact E_iret dX11_count_168 rfl ⟨_, rfl, rfl, h⟩
  have h := Eq.mp (if_neg hc) h
  have hc10 := hc
  clear hc
  by_cases hc : x1 = 11
  · have h := Eq.mp (if_pos hc) h
    refine E_tableIn (off := 168) (tgt := 169) dX11_count_1 (by omega) (by omega) (by rw [hc]; rfl) (by decide) ?_
    refine E_aload_n dX11_count_169 rfl rfl ?_
    refine E_getr (i := 0) dX11_count_170 fl_RX11_67 rfl rfl (go_11_9 _ _) ?_
    refine E_geti (i := 0) dX11_count_173 fl_RX11_115 rfl ?_
    exact E_iret dX11_count_176 rfl ⟨_, rfl, rfl, h⟩
  have h := Eq.mp (if_neg hc) h
  have hc11 := hc
  clear hc
  by_cases hc : x1 = 12
  · have h := Eq.mp (if_pos hc) h
    refine E_tableIn (off := 176) (tgt := 177) dX11_count_1 (by omega) (by omega) (by rw [hc]; rfl) (by decide) ?_
    refine E_aload_n dX11_count_177 rfl rfl ?_
    refine E_getr (i := 0) dX11_count_178 fl_RX11_60 rfl rfl (go_11_8 _ _) ?_
    refine E_geti (i := 0) dX11_count_181 fl_RX11_116 rfl ?_
    exact E_iret dX11_count_184 rfl ⟨_, rfl, rfl, h⟩
  have h := Eq.mp (if_neg hc) h
  have hc12 := hc
  clear hc
  by_cases hc : x1 = 13
  · have h := Eq.mp (if_pos hc) h
    refine E_tableIn (off := 184) (tgt := 185) dX11_count_1 (by omega) (by omega) (by rw [hc]; rfl) (by decide) ?_
    refine E_aload_n dX11_count_185 rfl rfl ?_
    refine E_getr (i := 0) dX11_count_186 fl_RX11_10 rfl rfl (go_11_0 _ _) ?_
    refine E_geti (i := 0) dX11_count_189 fl_RX11_98 rfl ?_
    exact E_iret dX11_count_192 rfl ⟨_, rfl, rfl, h⟩
  have h := Eq.mp (if_neg hc) h
  have hc13 := hc
  clear hc
  refine E_tableOut (tgt := 193) dX11_count_1 (by omega) (by decide) ?_
  refine E_ic dX11_count_193 rfl ?_
  exact E_iret dX11_count_194 rfl ⟨_, rfl, rfl, h⟩
abbrev Y_X11_within : My := (yX11_within, cX11_within, 3, some .boolean)
theorem dX11_within_0 : decode cX11_within 0 = .ok (.iload_n 0, 1) := by decide +kernel
theorem dX11_within_1 : decode cX11_within 1 = .ok (.iload_n 1, 1) := by decide +kernel
theorem dX11_within_2 : decode cX11_within 2 = .ok (.if_icmp .lt 12, 3) := by decide +kernel
theorem dX11_within_5 : decode cX11_within 5 = .ok (.iload_n 0, 1) := by decide +kernel
theorem dX11_within_6 : decode cX11_within 6 = .ok (.iload_n 2, 1) := by decide +kernel
theorem dX11_within_7 : decode cX11_within 7 = .ok (.if_icmp .gt 7, 3) := by decide +kernel
theorem dX11_within_10 : decode cX11_within 10 = .ok (.iconst 1, 1) := by decide +kernel
theorem dX11_within_11 : decode cX11_within 11 = .ok (.goto 4, 3) := by decide +kernel
theorem dX11_within_14 : decode cX11_within 14 = .ok (.iconst 0, 1) := by decide +kernel
theorem dX11_within_15 : decode cX11_within 15 = .ok (.ireturn, 1) := by decide +kernel
def P_X11_within_J14   (Q : Int → St → Prop) (σ : St) : Prop :=
  Q 0 σ
set_option maxRecDepth 20000 in
set_option maxHeartbeats 2000000 in
theorem e_P_X11_within_J14   {Q : Int → St → Prop} {σ : St}  (h : P_X11_within_J14  Q σ) : E Y_X11_within 0 0 0 (QI Q) ww 0 0 14 [none, none, none] [] σ := by
  unfold P_X11_within_J14 at h
  refine E_ic dX11_within_14 rfl ?_
  exact E_zret dX11_within_15 rfl (by decide) ⟨_, rfl, rfl, h⟩
def P_X11_within (x0 : Int) (x1 : Int) (x2 : Int) (σ : St) (Q : Int → St → Prop) : Prop :=
  (if x0 < x1 then P_X11_within_J14 Q σ else (if x2 < x0 then P_X11_within_J14 Q σ else Q 1 σ))
set_option maxRecDepth 20000 in
set_option maxHeartbeats 2000000 in
theorem s_X11_within {x0 : Int} {x1 : Int} {x2 : Int} {σ : St} {Q : Int → St → Prop} (h : P_X11_within x0 x1 x2 σ Q) : Cn Y_X11_within 0 0 0 ww σ [vI x0, vI x1, vI x2] (QI Q) := by
  refine Cn_of [some (vI x0), some (vI x1), some (vI x2)] (by decide) (Nat.le_of_ble_eq_true rfl) rfl ?_
  unfold P_X11_within at h
  refine E_iload_n dX11_within_0 rfl rfl ?_
  refine E_iload_n dX11_within_1 rfl rfl ?_
  refine E_icmp_lt (tgt := 14) dX11_within_2 (by decide) (fun hc => ?_) (fun hc => ?_)
  · have h := Eq.mp (if_pos hc) h
    refine E_wk2 [none, none, none] trivial ?_
    exact e_P_X11_within_J14 h
  · have h := Eq.mp (if_neg hc) h
    refine E_iload_n dX11_within_5 rfl rfl ?_
    refine E_iload_n dX11_within_6 rfl rfl ?_
    refine E_icmp_gt (tgt := 14) dX11_within_7 (by decide) (fun hc => ?_) (fun hc => ?_)
    · have h := Eq.mp (if_pos hc) h
      refine E_wk2 [none, none, none] trivial ?_
      exact e_P_X11_within_J14 h
    · have h := Eq.mp (if_neg hc) h
      refine E_ic dX11_within_10 rfl ?_
      refine E_goto (tgt := 15) dX11_within_11 (by decide) ?_
      exact E_zret dX11_within_15 rfl (by decide) ⟨_, rfl, rfl, h⟩
abbrev Y_X11_limited : My := (yX11_limited, cX11_limited, 3, some .int)
theorem dX11_limited_0 : decode cX11_limited 0 = .ok (.iload_n 1, 1) := by decide +kernel
theorem dX11_limited_1 : decode cX11_limited 1 = .ok (.iload_n 2, 1) := by decide +kernel
theorem dX11_limited_2 : decode cX11_limited 2 = .ok (.iload_n 0, 1) := by decide +kernel
theorem dX11_limited_3 : decode cX11_limited 3 = .ok (.invokestatic 328, 3) := by decide +kernel
theorem dX11_limited_6 : decode cX11_limited 6 = .ok (.invokestatic 333, 3) := by decide +kernel
theorem dX11_limited_9 : decode cX11_limited 9 = .ok (.ireturn, 1) := by decide +kernel
theorem lk_RX11_328 : Cond.methodLink RX11 328 Lib.Math.min.name ∈ tG := inG (i := 1026) (by decide +kernel) (by decide +kernel)
theorem lk_RX11_333 : Cond.methodLink RX11 333 Lib.Math.max.name ∈ tG := inG (i := 1027) (by decide +kernel) (by decide +kernel)
def P_X11_limited (x0 : Int) (x1 : Int) (x2 : Int) (σ : St) (Q : Int → St → Prop) : Prop :=
  Q (max x1 (min x2 x0)) σ
set_option maxRecDepth 20000 in
set_option maxHeartbeats 2000000 in
theorem s_X11_limited {x0 : Int} {x1 : Int} {x2 : Int} {σ : St} {Q : Int → St → Prop} (h : P_X11_limited x0 x1 x2 σ Q) : Cn Y_X11_limited 1 0 0 ww σ [vI x0, vI x1, vI x2] (QI Q) := by
  refine Cn_of [some (vI x0), some (vI x1), some (vI x2)] (by decide) (Nat.le_of_ble_eq_true rfl) rfl ?_
  unfold P_X11_limited at h
  refine E_iload_n dX11_limited_0 rfl rfl ?_
  refine E_iload_n dX11_limited_1 rfl rfl ?_
  refine E_iload_n dX11_limited_2 rfl rfl ?_
  refine E_mmin dX11_limited_3 lk_RX11_328 (by decide) (Nat.le_refl _) (Nat.le_refl _) (Nat.le_of_ble_eq_true rfl) ?_
  refine E_mmax dX11_limited_6 lk_RX11_333 (by decide) (Nat.le_refl _) (Nat.le_refl _) (Nat.le_of_ble_eq_true rfl) ?_
  exact E_iret dX11_limited_9 rfl ⟨_, rfl, rfl, h⟩
abbrev Y_X11_gain : My := (yX11_gain, cX11_gain, 5, some .int)
theorem dX11_gain_0 : decode cX11_gain 0 = .ok (.iload_n 0, 1) := by decide +kernel
theorem dX11_gain_1 : decode cX11_gain 1 = .ok (.iconst 1, 1) := by decide +kernel
theorem dX11_gain_2 : decode cX11_gain 2 = .ok (.if_icmp .ne 15, 3) := by decide +kernel
theorem dX11_gain_5 : decode cX11_gain 5 = .ok (.iload_n 1, 1) := by decide +kernel
theorem dX11_gain_6 : decode cX11_gain 6 = .ok (.iconst 1, 1) := by decide +kernel
theorem dX11_gain_7 : decode cX11_gain 7 = .ok (.if_icmp .ne 8, 3) := by decide +kernel
theorem dX11_gain_10 : decode cX11_gain 10 = .ok (.iload_n 2, 1) := by decide +kernel
theorem dX11_gain_11 : decode cX11_gain 11 = .ok (.ineg, 1) := by decide +kernel
theorem dX11_gain_12 : decode cX11_gain 12 = .ok (.goto 4, 3) := by decide +kernel
theorem dX11_gain_15 : decode cX11_gain 15 = .ok (.iload_n 3, 1) := by decide +kernel
theorem dX11_gain_16 : decode cX11_gain 16 = .ok (.ireturn, 1) := by decide +kernel
theorem dX11_gain_17 : decode cX11_gain 17 = .ok (.iload_n 1, 1) := by decide +kernel
theorem dX11_gain_18 : decode cX11_gain 18 = .ok (.iconst 1, 1) := by decide +kernel
theorem dX11_gain_19 : decode cX11_gain 19 = .ok (.if_icmp .ne 8, 3) := by decide +kernel
theorem dX11_gain_22 : decode cX11_gain 22 = .ok (.iload 4, 2) := by decide +kernel
theorem dX11_gain_24 : decode cX11_gain 24 = .ok (.goto 4, 3) := by decide +kernel
theorem dX11_gain_27 : decode cX11_gain 27 = .ok (.iconst 0, 1) := by decide +kernel
theorem dX11_gain_28 : decode cX11_gain 28 = .ok (.ireturn, 1) := by decide +kernel
def P_X11_gain (x0 : Int) (x1 : Int) (x2 : Int) (x3 : Int) (x4 : Int) (σ : St) (Q : Int → St → Prop) : Prop :=
  (if x0 = 1 then (if x1 = 1 then Q (wi (-x2)) σ else Q x3 σ) else (if x1 = 1 then Q x4 σ else Q 0 σ))
set_option maxRecDepth 20000 in
set_option maxHeartbeats 2000000 in
theorem s_X11_gain {x0 : Int} {x1 : Int} {x2 : Int} {x3 : Int} {x4 : Int} {σ : St} {Q : Int → St → Prop} (h : P_X11_gain x0 x1 x2 x3 x4 σ Q) : Cn Y_X11_gain 0 0 0 ww σ [vI x0, vI x1, vI x2, vI x3, vI x4] (QI Q) := by
  refine Cn_of [some (vI x0), some (vI x1), some (vI x2), some (vI x3), some (vI x4)] (by decide) (Nat.le_of_ble_eq_true rfl) rfl ?_
  unfold P_X11_gain at h
  refine E_iload_n dX11_gain_0 rfl rfl ?_
  refine E_ic dX11_gain_1 rfl ?_
  refine E_icmp_ne (tgt := 17) dX11_gain_2 (by decide) (fun hc => ?_) (fun hc => ?_)
  · have h := Eq.mp (if_neg hc) h
    refine E_iload_n dX11_gain_17 rfl rfl ?_
    refine E_ic dX11_gain_18 rfl ?_
    refine E_icmp_ne (tgt := 27) dX11_gain_19 (by decide) (fun hc => ?_) (fun hc => ?_)
    · have h := Eq.mp (if_neg hc) h
      refine E_ic dX11_gain_27 rfl ?_
      exact E_iret dX11_gain_28 rfl ⟨_, rfl, rfl, h⟩
    · have h := Eq.mp (if_pos hc) h
      refine E_iload dX11_gain_22 rfl ?_
      refine E_goto (tgt := 28) dX11_gain_24 (by decide) ?_
      exact E_iret dX11_gain_28 rfl ⟨_, rfl, rfl, h⟩
  · have h := Eq.mp (if_pos hc) h
    refine E_iload_n dX11_gain_5 rfl rfl ?_
    refine E_ic dX11_gain_6 rfl ?_
    refine E_icmp_ne (tgt := 15) dX11_gain_7 (by decide) (fun hc => ?_) (fun hc => ?_)
    · have h := Eq.mp (if_neg hc) h
      refine E_iload_n dX11_gain_15 rfl rfl ?_
      exact E_iret dX11_gain_16 rfl ⟨_, rfl, rfl, h⟩
    · have h := Eq.mp (if_pos hc) h
      refine E_iload_n dX11_gain_10 rfl rfl ?_
      refine E_ineg dX11_gain_11 ?_
      refine E_goto (tgt := 16) dX11_gain_12 (by decide) ?_
      exact E_iret dX11_gain_16 rfl ⟨_, rfl, rfl, h⟩
abbrev Y_X12_thrown : My := (yX12_thrown, cX12_thrown, 1, some .int)
theorem dX12_thrown_0 : decode cX12_thrown 0 = .ok (.aload_n 0, 1) := by decide +kernel
theorem dX12_thrown_1 : decode cX12_thrown 1 = .ok (.getfield 141, 3) := by decide +kernel
theorem dX12_thrown_4 : decode cX12_thrown 4 = .ok (.ireturn, 1) := by decide +kernel
theorem fl_RX12_141 : FL RX12 141 12 0 := ⟨inG (i := 1400) (by decide +kernel) (by decide +kernel), by decide, by decide⟩
def P_X12_thrown  (σ : St) (Q : Int → St → Prop) : Prop :=
  Q (σ 12 0 0) σ
set_option maxRecDepth 20000 in
set_option maxHeartbeats 2000000 in
theorem s_X12_thrown  {σ : St} {Q : Int → St → Prop} (h : P_X12_thrown  σ Q) : Cn Y_X12_thrown 0 0 0 ww σ [vR 12 0] (QI Q) := by
  refine Cn_of [some (vR 12 0)] (by decide) (Nat.le_of_ble_eq_true rfl) rfl ?_
  unfold P_X12_thrown at h
  refine E_aload_n dX12_thrown_0 rfl rfl ?_
  refine E_geti (i := 0) dX12_thrown_1 fl_RX12_141 rfl ?_
  exact E_iret dX12_thrown_4 rfl ⟨_, rfl, rfl, h⟩
abbrev Y_X12_within : My := (yX12_within, cX12_within, 3, some .boolean)
theorem dX12_within_0 : decode cX12_within 0 = .ok (.iload_n 0, 1) := by decide +kernel
theorem dX12_within_1 : decode cX12_within 1 = .ok (.iload_n 1, 1) := by decide +kernel
theorem dX12_within_2 : decode cX12_within 2 = .ok (.if_icmp .lt 12, 3) := by decide +kernel
theorem dX12_within_5 : decode cX12_within 5 = .ok (.iload_n 0, 1) := by decide +kernel
theorem dX12_within_6 : decode cX12_within 6 = .ok (.iload_n 2, 1) := by decide +kernel
theorem dX12_within_7 : decode cX12_within 7 = .ok (.if_icmp .gt 7, 3) := by decide +kernel
theorem dX12_within_10 : decode cX12_within 10 = .ok (.iconst 1, 1) := by decide +kernel
theorem dX12_within_11 : decode cX12_within 11 = .ok (.goto 4, 3) := by decide +kernel
theorem dX12_within_14 : decode cX12_within 14 = .ok (.iconst 0, 1) := by decide +kernel
theorem dX12_within_15 : decode cX12_within 15 = .ok (.ireturn, 1) := by decide +kernel
def P_X12_within_J14   (Q : Int → St → Prop) (σ : St) : Prop :=
  Q 0 σ
set_option maxRecDepth 20000 in
set_option maxHeartbeats 2000000 in
theorem e_P_X12_within_J14   {Q : Int → St → Prop} {σ : St}  (h : P_X12_within_J14  Q σ) : E Y_X12_within 0 0 0 (QI Q) ww 0 0 14 [none, none, none] [] σ := by
  unfold P_X12_within_J14 at h
  refine E_ic dX12_within_14 rfl ?_
  exact E_zret dX12_within_15 rfl (by decide) ⟨_, rfl, rfl, h⟩
def P_X12_within (x0 : Int) (x1 : Int) (x2 : Int) (σ : St) (Q : Int → St → Prop) : Prop :=
  (if x0 < x1 then P_X12_within_J14 Q σ else (if x2 < x0 then P_X12_within_J14 Q σ else Q 1 σ))
set_option maxRecDepth 20000 in
set_option maxHeartbeats 2000000 in
theorem s_X12_within {x0 : Int} {x1 : Int} {x2 : Int} {σ : St} {Q : Int → St → Prop} (h : P_X12_within x0 x1 x2 σ Q) : Cn Y_X12_within 0 0 0 ww σ [vI x0, vI x1, vI x2] (QI Q) := by
  refine Cn_of [some (vI x0), some (vI x1), some (vI x2)] (by decide) (Nat.le_of_ble_eq_true rfl) rfl ?_
  unfold P_X12_within at h
  refine E_iload_n dX12_within_0 rfl rfl ?_
  refine E_iload_n dX12_within_1 rfl rfl ?_
  refine E_icmp_lt (tgt := 14) dX12_within_2 (by decide) (fun hc => ?_) (fun hc => ?_)
  · have h := Eq.mp (if_pos hc) h
    refine E_wk2 [none, none, none] trivial ?_
    exact e_P_X12_within_J14 h
  · have h := Eq.mp (if_neg hc) h
    refine E_iload_n dX12_within_5 rfl rfl ?_
    refine E_iload_n dX12_within_6 rfl rfl ?_
    refine E_icmp_gt (tgt := 14) dX12_within_7 (by decide) (fun hc => ?_) (fun hc => ?_)
    · have h := Eq.mp (if_pos hc) h
      refine E_wk2 [none, none, none] trivial ?_
      exact e_P_X12_within_J14 h
    · have h := Eq.mp (if_neg hc) h
      refine E_ic dX12_within_10 rfl ?_
      refine E_goto (tgt := 15) dX12_within_11 (by decide) ?_
      exact E_zret dX12_within_15 rfl (by decide) ⟨_, rfl, rfl, h⟩
abbrev Y_X12_between : My := (yX12_between, cX12_between, 3, some .int)
theorem dX12_between_0 : decode cX12_between 0 = .ok (.iload_n 0, 1) := by decide +kernel
theorem dX12_between_1 : decode cX12_between 1 = .ok (.iload_n 1, 1) := by decide +kernel
theorem dX12_between_2 : decode cX12_between 2 = .ok (.if_icmp .ge 7, 3) := by decide +kernel
theorem dX12_between_5 : decode cX12_between 5 = .ok (.iload_n 1, 1) := by decide +kernel
theorem dX12_between_6 : decode cX12_between 6 = .ok (.goto 13, 3) := by decide +kernel
theorem dX12_between_9 : decode cX12_between 9 = .ok (.iload_n 0, 1) := by decide +kernel
theorem dX12_between_10 : decode cX12_between 10 = .ok (.iload_n 2, 1) := by decide +kernel
theorem dX12_between_11 : decode cX12_between 11 = .ok (.if_icmp .le 7, 3) := by decide +kernel
theorem dX12_between_14 : decode cX12_between 14 = .ok (.iload_n 2, 1) := by decide +kernel
theorem dX12_between_15 : decode cX12_between 15 = .ok (.goto 4, 3) := by decide +kernel
theorem dX12_between_18 : decode cX12_between 18 = .ok (.iload_n 0, 1) := by decide +kernel
theorem dX12_between_19 : decode cX12_between 19 = .ok (.ireturn, 1) := by decide +kernel
def P_X12_between (x0 : Int) (x1 : Int) (x2 : Int) (σ : St) (Q : Int → St → Prop) : Prop :=
  (if x1 ≤ x0 then (if x0 ≤ x2 then Q x0 σ else Q x2 σ) else Q x1 σ)
set_option maxRecDepth 20000 in
set_option maxHeartbeats 2000000 in
theorem s_X12_between {x0 : Int} {x1 : Int} {x2 : Int} {σ : St} {Q : Int → St → Prop} (h : P_X12_between x0 x1 x2 σ Q) : Cn Y_X12_between 0 0 0 ww σ [vI x0, vI x1, vI x2] (QI Q) := by
  refine Cn_of [some (vI x0), some (vI x1), some (vI x2)] (by decide) (Nat.le_of_ble_eq_true rfl) rfl ?_
  unfold P_X12_between at h
  refine E_iload_n dX12_between_0 rfl rfl ?_
  refine E_iload_n dX12_between_1 rfl rfl ?_
  refine E_icmp_ge (tgt := 9) dX12_between_2 (by decide) (fun hc => ?_) (fun hc => ?_)
  · have h := Eq.mp (if_pos hc) h
    refine E_iload_n dX12_between_9 rfl rfl ?_
    refine E_iload_n dX12_between_10 rfl rfl ?_
    refine E_icmp_le (tgt := 18) dX12_between_11 (by decide) (fun hc => ?_) (fun hc => ?_)
    · have h := Eq.mp (if_pos hc) h
      refine E_iload_n dX12_between_18 rfl rfl ?_
      exact E_iret dX12_between_19 rfl ⟨_, rfl, rfl, h⟩
    · have h := Eq.mp (if_neg hc) h
      refine E_iload_n dX12_between_14 rfl rfl ?_
      refine E_goto (tgt := 19) dX12_between_15 (by decide) ?_
      exact E_iret dX12_between_19 rfl ⟨_, rfl, rfl, h⟩
  · have h := Eq.mp (if_neg hc) h
    refine E_iload_n dX12_between_5 rfl rfl ?_
    refine E_goto (tgt := 19) dX12_between_6 (by decide) ?_
    exact E_iret dX12_between_19 rfl ⟨_, rfl, rfl, h⟩
abbrev Y_X12_bits : My := (yX12_bits, cX12_bits, 3, some .int)
theorem dX12_bits_0 : decode cX12_bits 0 = .ok (.iconst 0, 1) := by decide +kernel
theorem dX12_bits_1 : decode cX12_bits 1 = .ok (.istore_n 1, 1) := by decide +kernel
theorem dX12_bits_2 : decode cX12_bits 2 = .ok (.iconst 0, 1) := by decide +kernel
theorem dX12_bits_3 : decode cX12_bits 3 = .ok (.istore_n 2, 1) := by decide +kernel
theorem dX12_bits_4 : decode cX12_bits 4 = .ok (.iload_n 2, 1) := by decide +kernel
theorem dX12_bits_5 : decode cX12_bits 5 = .ok (.bipush 6, 2) := by decide +kernel
theorem dX12_bits_7 : decode cX12_bits 7 = .ok (.if_icmp .ge 17, 3) := by decide +kernel
theorem dX12_bits_10 : decode cX12_bits 10 = .ok (.iload_n 1, 1) := by decide +kernel
theorem dX12_bits_11 : decode cX12_bits 11 = .ok (.iload_n 0, 1) := by decide +kernel
theorem dX12_bits_12 : decode cX12_bits 12 = .ok (.iload_n 2, 1) := by decide +kernel
theorem dX12_bits_13 : decode cX12_bits 13 = .ok (.ishr, 1) := by decide +kernel
theorem dX12_bits_14 : decode cX12_bits 14 = .ok (.iconst 1, 1) := by decide +kernel
theorem dX12_bits_15 : decode cX12_bits 15 = .ok (.iand, 1) := by decide +kernel
theorem dX12_bits_16 : decode cX12_bits 16 = .ok (.iadd, 1) := by decide +kernel
theorem dX12_bits_17 : decode cX12_bits 17 = .ok (.istore_n 1, 1) := by decide +kernel
theorem dX12_bits_18 : decode cX12_bits 18 = .ok (.iinc 2 1, 3) := by decide +kernel
theorem dX12_bits_21 : decode cX12_bits 21 = .ok (.goto (-17), 3) := by decide +kernel
theorem dX12_bits_24 : decode cX12_bits 24 = .ok (.iload_n 1, 1) := by decide +kernel
theorem dX12_bits_25 : decode cX12_bits 25 = .ok (.ireturn, 1) := by decide +kernel
def P_X12_bits_L4 (x0 : Int)  (Q : Int → St → Prop) : Nat → Int → Int → St → Prop
  | 0, _, _, _ => False
  | n + 1, x1, x2, σ => (if 6 ≤ x2 then Q x1 σ else (P_X12_bits_L4 x0 Q n) (wi (x1 + (bA (bR x0 x2) 1))) (wi (x2 + 1)) σ)
set_option maxRecDepth 20000 in
set_option maxHeartbeats 2000000 in
theorem e_P_X12_bits_L4 {x0 : Int}  {Q : Int → St → Prop}  : ∀ (n : Nat) (x1 : Int) (x2 : Int) (σ : St), P_X12_bits_L4 x0 Q n x1 x2 σ → E Y_X12_bits 0 0 0 (QI Q) ww 0 0 4 [some (vI x0), some (vI x1), some (vI x2)] [] σ := by
  intro n
  induction n with
  | zero => intro x1 x2 σ h; exact h.elim
  | succ n hR =>
    intro x1 x2 σ h
    unfold P_X12_bits_L4 at h
    refine E_iload_n dX12_bits_4 rfl rfl ?_
    refine E_bp dX12_bits_5 rfl ?_
    refine E_icmp_ge (tgt := 24) dX12_bits_7 (by decide) (fun hc => ?_) (fun hc => ?_)
    · have h := Eq.mp (if_pos hc) h
      refine E_iload_n dX12_bits_24 rfl rfl ?_
      exact E_iret dX12_bits_25 rfl ⟨_, rfl, rfl, h⟩
    · have h := Eq.mp (if_neg hc) h
      refine E_iload_n dX12_bits_10 rfl rfl ?_
      refine E_iload_n dX12_bits_11 rfl rfl ?_
      refine E_iload_n dX12_bits_12 rfl rfl ?_
      refine E_ishr dX12_bits_13 ?_
      refine E_ic dX12_bits_14 rfl ?_
      refine E_iand dX12_bits_15 ?_
      refine E_iadd dX12_bits_16 ?_
      refine E_istore_n (ls' := [some (vI x0), some (vI (wi (x1 + (bA (bR x0 x2) 1)))), some (vI x2)]) dX12_bits_17 rfl (by decide) rfl ?_
      refine E_iinc (ls' := [some (vI x0), some (vI (wi (x1 + (bA (bR x0 x2) 1)))), some (vI (wi (x2 + 1)))]) dX12_bits_18 rfl (by decide) rfl rfl ?_
      refine E_goto (tgt := 4) dX12_bits_21 (by decide) ?_
      exact hR _ _ _ h
def P_X12_bits (x0 : Int) (σ : St) (Q : Int → St → Prop) : Prop :=
  P_X12_bits_L4 x0 Q FU 0 0 σ
set_option maxRecDepth 20000 in
set_option maxHeartbeats 2000000 in
theorem s_X12_bits {x0 : Int} {σ : St} {Q : Int → St → Prop} (h : P_X12_bits x0 σ Q) : Cn Y_X12_bits 0 0 0 ww σ [vI x0] (QI Q) := by
  refine Cn_of [some (vI x0), none, none] (by decide) (Nat.le_of_ble_eq_true rfl) rfl ?_
  unfold P_X12_bits at h
  refine E_ic dX12_bits_0 rfl ?_
  refine E_istore_n (ls' := [some (vI x0), some (vI 0), none]) dX12_bits_1 rfl (by decide) rfl ?_
  refine E_ic dX12_bits_2 rfl ?_
  refine E_istore_n (ls' := [some (vI x0), some (vI 0), some (vI 0)]) dX12_bits_3 rfl (by decide) rfl ?_
  refine e_P_X12_bits_L4  _ _ _ _ h
abbrev Y_X12_feed : My := (yX12_feed, cX12_feed, 11, some .int)
theorem dX12_feed_0 : decode cX12_feed 0 = .ok (.aload_n 0, 1) := by decide +kernel
theorem dX12_feed_1 : decode cX12_feed 1 = .ok (.iconst 0, 1) := by decide +kernel
theorem dX12_feed_2 : decode cX12_feed 2 = .ok (.putfield 141, 3) := by decide +kernel
theorem dX12_feed_5 : decode cX12_feed 5 = .ok (.iconst 0, 1) := by decide +kernel
theorem dX12_feed_6 : decode cX12_feed 6 = .ok (.istore 7, 2) := by decide +kernel
theorem dX12_feed_8 : decode cX12_feed 8 = .ok (.iload 7, 2) := by decide +kernel
theorem dX12_feed_10 : decode cX12_feed 10 = .ok (.bipush 24, 2) := by decide +kernel
theorem dX12_feed_12 : decode cX12_feed 12 = .ok (.if_icmp .ge 108, 3) := by decide +kernel
theorem dX12_feed_15 : decode cX12_feed 15 = .ok (.iload 7, 2) := by decide +kernel
theorem dX12_feed_17 : decode cX12_feed 17 = .ok (.bipush 8, 2) := by decide +kernel
theorem dX12_feed_19 : decode cX12_feed 19 = .ok (.if_icmp .ge 7, 3) := by decide +kernel
theorem dX12_feed_22 : decode cX12_feed 22 = .ok (.lload_n 1, 1) := by decide +kernel
theorem dX12_feed_23 : decode cX12_feed 23 = .ok (.goto 16, 3) := by decide +kernel
theorem dX12_feed_26 : decode cX12_feed 26 = .ok (.iload 7, 2) := by decide +kernel
theorem dX12_feed_28 : decode cX12_feed 28 = .ok (.bipush 16, 2) := by decide +kernel
theorem dX12_feed_30 : decode cX12_feed 30 = .ok (.if_icmp .ge 7, 3) := by decide +kernel
theorem dX12_feed_33 : decode cX12_feed 33 = .ok (.lload_n 3, 1) := by decide +kernel
theorem dX12_feed_34 : decode cX12_feed 34 = .ok (.goto 5, 3) := by decide +kernel
theorem dX12_feed_37 : decode cX12_feed 37 = .ok (.lload 5, 2) := by decide +kernel
theorem dX12_feed_39 : decode cX12_feed 39 = .ok (.lstore 8, 2) := by decide +kernel
theorem dX12_feed_41 : decode cX12_feed 41 = .ok (.lload 8, 2) := by decide +kernel
theorem dX12_feed_43 : decode cX12_feed 43 = .ok (.bipush 56, 2) := by decide +kernel
theorem dX12_feed_45 : decode cX12_feed 45 = .ok (.bipush 8, 2) := by decide +kernel
theorem dX12_feed_47 : decode cX12_feed 47 = .ok (.iload 7, 2) := by decide +kernel
theorem dX12_feed_49 : decode cX12_feed 49 = .ok (.bipush 7, 2) := by decide +kernel
theorem dX12_feed_51 : decode cX12_feed 51 = .ok (.iand, 1) := by decide +kernel
theorem dX12_feed_52 : decode cX12_feed 52 = .ok (.imul, 1) := by decide +kernel
theorem dX12_feed_53 : decode cX12_feed 53 = .ok (.isub, 1) := by decide +kernel
theorem dX12_feed_54 : decode cX12_feed 54 = .ok (.lushr, 1) := by decide +kernel
theorem dX12_feed_55 : decode cX12_feed 55 = .ok (.ldc2_w 145, 3) := by decide +kernel
theorem dX12_feed_58 : decode cX12_feed 58 = .ok (.land, 1) := by decide +kernel
theorem dX12_feed_59 : decode cX12_feed 59 = .ok (.l2i, 1) := by decide +kernel
theorem dX12_feed_60 : decode cX12_feed 60 = .ok (.istore 10, 2) := by decide +kernel
theorem dX12_feed_62 : decode cX12_feed 62 = .ok (.aload_n 0, 1) := by decide +kernel
theorem dX12_feed_63 : decode cX12_feed 63 = .ok (.getfield 147, 3) := by decide +kernel
theorem dX12_feed_66 : decode cX12_feed 66 = .ok (.sipush 1000, 3) := by decide +kernel
theorem dX12_feed_69 : decode cX12_feed 69 = .ok (.if_icmp .ge 45, 3) := by decide +kernel
theorem dX12_feed_72 : decode cX12_feed 72 = .ok (.iload 10, 2) := by decide +kernel
theorem dX12_feed_74 : decode cX12_feed 74 = .ok (.bipush 10, 2) := by decide +kernel
theorem dX12_feed_76 : decode cX12_feed 76 = .ok (.if_icmp .eq 17, 3) := by decide +kernel
theorem dX12_feed_79 : decode cX12_feed 79 = .ok (.iload 10, 2) := by decide +kernel
theorem dX12_feed_81 : decode cX12_feed 81 = .ok (.bipush 32, 2) := by decide +kernel
theorem dX12_feed_83 : decode cX12_feed 83 = .ok (.if_icmp .lt 31, 3) := by decide +kernel
theorem dX12_feed_86 : decode cX12_feed 86 = .ok (.iload 10, 2) := by decide +kernel
theorem dX12_feed_88 : decode cX12_feed 88 = .ok (.bipush 126, 2) := by decide +kernel
theorem dX12_feed_90 : decode cX12_feed 90 = .ok (.if_icmp .gt 24, 3) := by decide +kernel
theorem dX12_feed_93 : decode cX12_feed 93 = .ok (.aload_n 0, 1) := by decide +kernel
theorem dX12_feed_94 : decode cX12_feed 94 = .ok (.getfield 7, 3) := by decide +kernel
theorem dX12_feed_97 : decode cX12_feed 97 = .ok (.aload_n 0, 1) := by decide +kernel
theorem dX12_feed_98 : decode cX12_feed 98 = .ok (.getfield 147, 3) := by decide +kernel
theorem dX12_feed_101 : decode cX12_feed 101 = .ok (.iload 10, 2) := by decide +kernel
theorem dX12_feed_103 : decode cX12_feed 103 = .ok (.iastore, 1) := by decide +kernel
theorem dX12_feed_104 : decode cX12_feed 104 = .ok (.aload_n 0, 1) := by decide +kernel
theorem dX12_feed_105 : decode cX12_feed 105 = .ok (.dup, 1) := by decide +kernel
theorem dX12_feed_106 : decode cX12_feed 106 = .ok (.getfield 147, 3) := by decide +kernel
theorem dX12_feed_109 : decode cX12_feed 109 = .ok (.iconst 1, 1) := by decide +kernel
theorem dX12_feed_110 : decode cX12_feed 110 = .ok (.iadd, 1) := by decide +kernel
theorem dX12_feed_111 : decode cX12_feed 111 = .ok (.putfield 147, 3) := by decide +kernel
theorem dX12_feed_114 : decode cX12_feed 114 = .ok (.iinc 7 1, 3) := by decide +kernel
theorem dX12_feed_117 : decode cX12_feed 117 = .ok (.goto (-109), 3) := by decide +kernel
theorem dX12_feed_120 : decode cX12_feed 120 = .ok (.aload_n 0, 1) := by decide +kernel
theorem dX12_feed_121 : decode cX12_feed 121 = .ok (.getfield 147, 3) := by decide +kernel
theorem dX12_feed_124 : decode cX12_feed 124 = .ok (.ireturn, 1) := by decide +kernel
theorem fl_RX12_147 : FL RX12 147 12 1 := ⟨inG (i := 1401) (by decide +kernel) (by decide +kernel), by decide, by decide⟩
theorem fl_RX12_7 : FL RX12 7 12 2 := ⟨inG (i := 1402) (by decide +kernel) (by decide +kernel), by decide, by decide⟩
theorem go_12_2 (σ : St) (i : Nat) : go σ 12 i 2 = (1302, i) := rfl
theorem kl_RX12_145 : Cond.constantLong RX12 145 (255) ∈ tG := inG (i := 1586) (by decide +kernel) (by decide +kernel)
theorem sh_1302 : shp 1302 = (0, 1000) := rfl
def P_X12_feed_J93 (x1 : Int) (x3 : Int) (x5 : Int) (x7 : Int) (x10 : Int) (R : Int → St → Prop) (Q : Int → St → Prop) (σ : St) : Prop :=
  0 ≤ σ 12 0 1 ∧ σ 12 0 1 < 1000 ∧ R (wi (x7 + 1)) (up (up σ 1302 0 (σ 12 0 1) x10) 12 0 1 (wi (((up σ 1302 0 (σ 12 0 1) x10) 12 0 1) + 1)))
set_option maxRecDepth 20000 in
set_option maxHeartbeats 2000000 in
theorem e_P_X12_feed_J93 {x1 : Int} {x3 : Int} {x5 : Int} {x7 : Int} {x10 : Int} {R : Int → St → Prop} {Q : Int → St → Prop} {σ : St} (hR : ∀ x7 σ, R x7 σ → E Y_X12_feed 0 0 0 (QI Q) ww 0 0 8 [some (vR 12 0), some (vL x1), none, some (vL x3), none, some (vL x5), none, some (vI x7), none, none, none] [] σ) (h : P_X12_feed_J93 x1 x3 x5 x7 x10 R Q σ) : E Y_X12_feed 0 0 0 (QI Q) ww 0 0 93 [some (vR 12 0), some (vL x1), none, some (vL x3), none, some (vL x5), none, some (vI x7), none, none, some (vI x10)] [] σ := by
  unfold P_X12_feed_J93 at h
  refine E_aload_n dX12_feed_93 rfl rfl ?_
  refine E_getr (i := 0) dX12_feed_94 fl_RX12_7 rfl rfl (go_12_2 _ _) ?_
  refine E_aload_n dX12_feed_97 rfl rfl ?_
  refine E_geti (i := 0) dX12_feed_98 fl_RX12_147 rfl ?_
  refine E_iload dX12_feed_101 rfl ?_
  obtain ⟨hg0, hg1, h⟩ := h
  refine E_iast dX12_feed_103 sh_1302 hg0 hg1 ?_
  refine E_aload_n dX12_feed_104 rfl rfl ?_
  refine E_dup dX12_feed_105 (fun _ q => by cases q) ?_
  refine E_geti (i := 0) dX12_feed_106 fl_RX12_147 rfl ?_
  refine E_ic dX12_feed_109 rfl ?_
  refine E_iadd dX12_feed_110 ?_
  refine E_puti dX12_feed_111 fl_RX12_147 rfl rfl rfl ?_
  refine E_iinc (ls' := [some (vR 12 0), some (vL x1), none, some (vL x3), none, some (vL x5), none, some (vI (wi (x7 + 1))), none, none, some (vI x10)]) dX12_feed_114 rfl (by decide) rfl rfl ?_
  refine E_goto (tgt := 8) dX12_feed_117 (by decide) ?_
  refine E_wk2 [some (vR 12 0), some (vL x1), none, some (vL x3), none, some (vL x5), none, some (vI (wi (x7 + 1))), none, none, none] ⟨rfl, ⟨rfl, ⟨rfl, ⟨rfl, ⟨rfl, trivial⟩⟩⟩⟩⟩ ?_
  exact hR _ _ h
def P_X12_feed_J39 (x1 : Int) (x3 : Int) (x5 : Int) (x7 : Int) (y0 : Int) (R : Int → St → Prop) (Q : Int → St → Prop) (σ : St) : Prop :=
  (if 1000 ≤ (σ 12 0 1) then R (wi (x7 + 1)) σ else (if (wi (lA (lU y0 (wi (56 - (wi (8 * (bA x7 7)))))) 255)) = 10 then P_X12_feed_J93 x1 x3 x5 x7 (wi (lA (lU y0 (wi (56 - (wi (8 * (bA x7 7)))))) 255)) R Q σ else (if (wi (lA (lU y0 (wi (56 - (wi (8 * (bA x7 7)))))) 255)) < 32 then R (wi (x7 + 1)) σ else (if 126 < (wi (lA (lU y0 (wi (56 - (wi (8 * (bA x7 7)))))) 255)) then R (wi (x7 + 1)) σ else P_X12_feed_J93 x1 x3 x5 x7 (wi (lA (lU y0 (wi (56 - (wi (8 * (bA x7 7)))))) 255)) R Q σ))))
set_option maxRecDepth 20000 in
set_option maxHeartbeats 2000000 in
theorem e_P_X12_feed_J39 {x1 : Int} {x3 : Int} {x5 : Int} {x7 : Int} {y0 : Int} {R : Int → St → Prop} {Q : Int → St → Prop} {σ : St} (hR : ∀ x7 σ, R x7 σ → E Y_X12_feed 0 0 0 (QI Q) ww 0 0 8 [some (vR 12 0), some (vL x1), none, some (vL x3), none, some (vL x5), none, some (vI x7), none, none, none] [] σ) (h : P_X12_feed_J39 x1 x3 x5 x7 y0 R Q σ) : E Y_X12_feed 0 0 0 (QI Q) ww 0 0 39 [some (vR 12 0), some (vL x1), none, some (vL x3), none, some (vL x5), none, some (vI x7), none, none, none] [vL y0] σ := by
  unfold P_X12_feed_J39 at h
  refine E_lstore (ls' := [some (vR 12 0), some (vL x1), none, some (vL x3), none, some (vL x5), none, some (vI x7), some (vL y0), none, none]) dX12_feed_39 (by decide) rfl ?_
  refine E_lload dX12_feed_41 rfl ?_
  refine E_bp dX12_feed_43 rfl ?_
  refine E_bp dX12_feed_45 rfl ?_
  refine E_iload dX12_feed_47 rfl ?_
  refine E_bp dX12_feed_49 rfl ?_
  refine E_iand dX12_feed_51 ?_
  refine E_imul dX12_feed_52 ?_
  refine E_isub dX12_feed_53 ?_
  refine E_lushr dX12_feed_54 ?_
  refine E_ldc2 (z := 255) dX12_feed_55 kl_RX12_145 (by decide) ?_
  refine E_land dX12_feed_58 ?_
  refine E_l2i dX12_feed_59 ?_
  refine E_istore (ls' := [some (vR 12 0), some (vL x1), none, some (vL x3), none, some (vL x5), none, some (vI x7), some (vL y0), none, some (vI (wi (lA (lU y0 (wi (56 - (wi (8 * (bA x7 7)))))) 255)))]) dX12_feed_60 (by decide) rfl ?_
  refine E_aload_n dX12_feed_62 rfl rfl ?_
  refine E_geti (i := 0) dX12_feed_63 fl_RX12_147 rfl ?_
  refine E_sp dX12_feed_66 rfl ?_
  refine E_icmp_ge (tgt := 114) dX12_feed_69 (by decide) (fun hc => ?_) (fun hc => ?_)
  · have h := Eq.mp (if_pos hc) h
    refine E_iinc (ls' := [some (vR 12 0), some (vL x1), none, some (vL x3), none, some (vL x5), none, some (vI (wi (x7 + 1))), some (vL y0), none, some (vI (wi (lA (lU y0 (wi (56 - (wi (8 * (bA x7 7)))))) 255)))]) dX12_feed_114 rfl (by decide) rfl rfl ?_
    refine E_goto (tgt := 8) dX12_feed_117 (by decide) ?_
    refine E_wk2 [some (vR 12 0), some (vL x1), none, some (vL x3), none, some (vL x5), none, some (vI (wi (x7 + 1))), none, none, none] ⟨rfl, ⟨rfl, ⟨rfl, ⟨rfl, ⟨rfl, trivial⟩⟩⟩⟩⟩ ?_
    exact hR _ _ h
  · have h := Eq.mp (if_neg hc) h
    refine E_iload dX12_feed_72 rfl ?_
    refine E_bp dX12_feed_74 rfl ?_
    refine E_icmp_eq (tgt := 93) dX12_feed_76 (by decide) (fun hc => ?_) (fun hc => ?_)
    · have h := Eq.mp (if_pos hc) h
      refine E_wk2 [some (vR 12 0), some (vL x1), none, some (vL x3), none, some (vL x5), none, some (vI x7), none, none, some (vI (wi (lA (lU y0 (wi (56 - (wi (8 * (bA x7 7)))))) 255)))] ⟨rfl, ⟨rfl, ⟨rfl, ⟨rfl, ⟨rfl, ⟨rfl, trivial⟩⟩⟩⟩⟩⟩ ?_
      exact e_P_X12_feed_J93 hR h
    · have h := Eq.mp (if_neg hc) h
      refine E_iload dX12_feed_79 rfl ?_
      refine E_bp dX12_feed_81 rfl ?_
      refine E_icmp_lt (tgt := 114) dX12_feed_83 (by decide) (fun hc => ?_) (fun hc => ?_)
      · have h := Eq.mp (if_pos hc) h
        refine E_iinc (ls' := [some (vR 12 0), some (vL x1), none, some (vL x3), none, some (vL x5), none, some (vI (wi (x7 + 1))), some (vL y0), none, some (vI (wi (lA (lU y0 (wi (56 - (wi (8 * (bA x7 7)))))) 255)))]) dX12_feed_114 rfl (by decide) rfl rfl ?_
        refine E_goto (tgt := 8) dX12_feed_117 (by decide) ?_
        refine E_wk2 [some (vR 12 0), some (vL x1), none, some (vL x3), none, some (vL x5), none, some (vI (wi (x7 + 1))), none, none, none] ⟨rfl, ⟨rfl, ⟨rfl, ⟨rfl, ⟨rfl, trivial⟩⟩⟩⟩⟩ ?_
        exact hR _ _ h
      · have h := Eq.mp (if_neg hc) h
        refine E_iload dX12_feed_86 rfl ?_
        refine E_bp dX12_feed_88 rfl ?_
        refine E_icmp_gt (tgt := 114) dX12_feed_90 (by decide) (fun hc => ?_) (fun hc => ?_)
        · have h := Eq.mp (if_pos hc) h
          refine E_iinc (ls' := [some (vR 12 0), some (vL x1), none, some (vL x3), none, some (vL x5), none, some (vI (wi (x7 + 1))), some (vL y0), none, some (vI (wi (lA (lU y0 (wi (56 - (wi (8 * (bA x7 7)))))) 255)))]) dX12_feed_114 rfl (by decide) rfl rfl ?_
          refine E_goto (tgt := 8) dX12_feed_117 (by decide) ?_
          refine E_wk2 [some (vR 12 0), some (vL x1), none, some (vL x3), none, some (vL x5), none, some (vI (wi (x7 + 1))), none, none, none] ⟨rfl, ⟨rfl, ⟨rfl, ⟨rfl, ⟨rfl, trivial⟩⟩⟩⟩⟩ ?_
          exact hR _ _ h
        · have h := Eq.mp (if_neg hc) h
          refine E_wk2 [some (vR 12 0), some (vL x1), none, some (vL x3), none, some (vL x5), none, some (vI x7), none, none, some (vI (wi (lA (lU y0 (wi (56 - (wi (8 * (bA x7 7)))))) 255)))] ⟨rfl, ⟨rfl, ⟨rfl, ⟨rfl, ⟨rfl, ⟨rfl, trivial⟩⟩⟩⟩⟩⟩ ?_
          exact e_P_X12_feed_J93 hR h
def P_X12_feed_L8 (x1 : Int) (x3 : Int) (x5 : Int)  (Q : Int → St → Prop) : Nat → Int → St → Prop
  | 0, _, _ => False
  | n + 1, x7, σ => (if 24 ≤ x7 then Q (σ 12 0 1) σ else (if 8 ≤ x7 then (if 16 ≤ x7 then P_X12_feed_J39 x1 x3 x5 x7 x5 (P_X12_feed_L8 x1 x3 x5 Q n) Q σ else P_X12_feed_J39 x1 x3 x5 x7 x3 (P_X12_feed_L8 x1 x3 x5 Q n) Q σ) else P_X12_feed_J39 x1 x3 x5 x7 x1 (P_X12_feed_L8 x1 x3 x5 Q n) Q σ))
set_option maxRecDepth 20000 in
set_option maxHeartbeats 2000000 in
theorem e_P_X12_feed_L8 {x1 : Int} {x3 : Int} {x5 : Int}  {Q : Int → St → Prop}  : ∀ (n : Nat) (x7 : Int) (σ : St), P_X12_feed_L8 x1 x3 x5 Q n x7 σ → E Y_X12_feed 0 0 0 (QI Q) ww 0 0 8 [some (vR 12 0), some (vL x1), none, some (vL x3), none, some (vL x5), none, some (vI x7), none, none, none] [] σ := by
  intro n
  induction n with
  | zero => intro x7 σ h; exact h.elim
  | succ n hR =>
    intro x7 σ h
    unfold P_X12_feed_L8 at h
    refine E_iload dX12_feed_8 rfl ?_
    refine E_bp dX12_feed_10 rfl ?_
    refine E_icmp_ge (tgt := 120) dX12_feed_12 (by decide) (fun hc => ?_) (fun hc => ?_)
    · have h := Eq.mp (if_pos hc) h
      refine E_aload_n dX12_feed_120 rfl rfl ?_
      refine E_geti (i := 0) dX12_feed_121 fl_RX12_147 rfl ?_
      exact E_iret dX12_feed_124 rfl ⟨_, rfl, rfl, h⟩
    · have h := Eq.mp (if_neg hc) h
      refine E_iload dX12_feed_15 rfl ?_
      refine E_bp dX12_feed_17 rfl ?_
      refine E_icmp_ge (tgt := 26) dX12_feed_19 (by decide) (fun hc => ?_) (fun hc => ?_)
      · have h := Eq.mp (if_pos hc) h
        refine E_iload dX12_feed_26 rfl ?_
        refine E_bp dX12_feed_28 rfl ?_
        refine E_icmp_ge (tgt := 37) dX12_feed_30 (by decide) (fun hc => ?_) (fun hc => ?_)
        · have h := Eq.mp (if_pos hc) h
          refine E_lload dX12_feed_37 rfl ?_
          exact e_P_X12_feed_J39 hR h
        · have h := Eq.mp (if_neg hc) h
          refine E_lload_n dX12_feed_33 rfl rfl ?_
          refine E_goto (tgt := 39) dX12_feed_34 (by decide) ?_
          exact e_P_X12_feed_J39 hR h
      · have h := Eq.mp (if_neg hc) h
        refine E_lload_n dX12_feed_22 rfl rfl ?_
        refine E_goto (tgt := 39) dX12_feed_23 (by decide) ?_
        exact e_P_X12_feed_J39 hR h
def P_X12_feed (x1 : Int) (x3 : Int) (x5 : Int) (σ : St) (Q : Int → St → Prop) : Prop :=
  P_X12_feed_L8 x1 x3 x5 Q FU 0 (up σ 12 0 0 0)
set_option maxRecDepth 20000 in
set_option maxHeartbeats 2000000 in
theorem s_X12_feed {x1 : Int} {x3 : Int} {x5 : Int} {σ : St} {Q : Int → St → Prop} (h : P_X12_feed x1 x3 x5 σ Q) : Cn Y_X12_feed 0 0 0 ww σ [vR 12 0, vL x1, vL x3, vL x5] (QI Q) := by
  refine Cn_of [some (vR 12 0), some (vL x1), none, some (vL x3), none, some (vL x5), none, none, none, none, none] (by decide) (Nat.le_of_ble_eq_true rfl) rfl ?_
  unfold P_X12_feed at h
  refine E_aload_n dX12_feed_0 rfl rfl ?_
  refine E_ic dX12_feed_1 rfl ?_
  refine E_puti dX12_feed_2 fl_RX12_141 rfl rfl rfl ?_
  refine E_ic dX12_feed_5 rfl ?_
  refine E_istore (ls' := [some (vR 12 0), some (vL x1), none, some (vL x3), none, some (vL x5), none, some (vI 0), none, none, none]) dX12_feed_6 (by decide) rfl ?_
  refine e_P_X12_feed_L8  _ _ _ h
abbrev Y_X12_signAt : My := (yX12_signAt, cX12_signAt, 2, some .int)
theorem dX12_signAt_0 : decode cX12_signAt 0 = .ok (.iload_n 1, 1) := by decide +kernel
theorem dX12_signAt_1 : decode cX12_signAt 1 = .ok (.aload_n 0, 1) := by decide +kernel
theorem dX12_signAt_2 : decode cX12_signAt 2 = .ok (.getfield 150, 3) := by decide +kernel
theorem dX12_signAt_5 : decode cX12_signAt 5 = .ok (.if_icmp .ge 12, 3) := by decide +kernel
theorem dX12_signAt_8 : decode cX12_signAt 8 = .ok (.aload_n 0, 1) := by decide +kernel
theorem dX12_signAt_9 : decode cX12_signAt 9 = .ok (.getfield 7, 3) := by decide +kernel
theorem dX12_signAt_12 : decode cX12_signAt 12 = .ok (.iload_n 1, 1) := by decide +kernel
theorem dX12_signAt_13 : decode cX12_signAt 13 = .ok (.iaload, 1) := by decide +kernel
theorem dX12_signAt_14 : decode cX12_signAt 14 = .ok (.goto 4, 3) := by decide +kernel
theorem dX12_signAt_17 : decode cX12_signAt 17 = .ok (.iconst 0, 1) := by decide +kernel
theorem dX12_signAt_18 : decode cX12_signAt 18 = .ok (.ireturn, 1) := by decide +kernel
theorem fl_RX12_150 : FL RX12 150 12 3 := ⟨inG (i := 1403) (by decide +kernel) (by decide +kernel), by decide, by decide⟩
def P_X12_signAt (x1 : Int) (σ : St) (Q : Int → St → Prop) : Prop :=
  (if (σ 12 0 3) ≤ x1 then Q 0 σ else 0 ≤ x1 ∧ x1 < 1000 ∧ Q (σ 1302 0 x1) σ)
set_option maxRecDepth 20000 in
set_option maxHeartbeats 2000000 in
theorem s_X12_signAt {x1 : Int} {σ : St} {Q : Int → St → Prop} (h : P_X12_signAt x1 σ Q) : Cn Y_X12_signAt 0 0 0 ww σ [vR 12 0, vI x1] (QI Q) := by
  refine Cn_of [some (vR 12 0), some (vI x1)] (by decide) (Nat.le_of_ble_eq_true rfl) rfl ?_
  unfold P_X12_signAt at h
  refine E_iload_n dX12_signAt_0 rfl rfl ?_
  refine E_aload_n dX12_signAt_1 rfl rfl ?_
  refine E_geti (i := 0) dX12_signAt_2 fl_RX12_150 rfl ?_
  refine E_icmp_ge (tgt := 17) dX12_signAt_5 (by decide) (fun hc => ?_) (fun hc => ?_)
  · have h := Eq.mp (if_pos hc) h
    refine E_ic dX12_signAt_17 rfl ?_
    exact E_iret dX12_signAt_18 rfl ⟨_, rfl, rfl, h⟩
  · have h := Eq.mp (if_neg hc) h
    refine E_aload_n dX12_signAt_8 rfl rfl ?_
    refine E_getr (i := 0) dX12_signAt_9 fl_RX12_7 rfl rfl (go_12_2 _ _) ?_
    refine E_iload_n dX12_signAt_12 rfl rfl ?_
    obtain ⟨hg0, hg1, h⟩ := h
    refine E_iald dX12_signAt_13 sh_1302 hg0 hg1 ?_
    refine E_goto (tgt := 18) dX12_signAt_14 (by decide) ?_
    exact E_iret dX12_signAt_18 rfl ⟨_, rfl, rfl, h⟩
abbrev Y_X12_nextToken : My := (yX12_nextToken, cX12_nextToken, 2, none)
theorem dX12_nextToken_0 : decode cX12_nextToken 0 = .ok (.aload_n 0, 1) := by decide +kernel
theorem dX12_nextToken_1 : decode cX12_nextToken 1 = .ok (.getfield 153, 3) := by decide +kernel
theorem dX12_nextToken_4 : decode cX12_nextToken 4 = .ok (.aload_n 0, 1) := by decide +kernel
theorem dX12_nextToken_5 : decode cX12_nextToken 5 = .ok (.getfield 150, 3) := by decide +kernel
theorem dX12_nextToken_8 : decode cX12_nextToken 8 = .ok (.if_icmp .ge 44, 3) := by decide +kernel
theorem dX12_nextToken_11 : decode cX12_nextToken 11 = .ok (.aload_n 0, 1) := by decide +kernel
theorem dX12_nextToken_12 : decode cX12_nextToken 12 = .ok (.getfield 7, 3) := by decide +kernel
theorem dX12_nextToken_15 : decode cX12_nextToken 15 = .ok (.aload_n 0, 1) := by decide +kernel
theorem dX12_nextToken_16 : decode cX12_nextToken 16 = .ok (.getfield 153, 3) := by decide +kernel
theorem dX12_nextToken_19 : decode cX12_nextToken 19 = .ok (.iaload, 1) := by decide +kernel
theorem dX12_nextToken_20 : decode cX12_nextToken 20 = .ok (.bipush 32, 2) := by decide +kernel
theorem dX12_nextToken_22 : decode cX12_nextToken 22 = .ok (.if_icmp .eq 17, 3) := by decide +kernel
theorem dX12_nextToken_25 : decode cX12_nextToken 25 = .ok (.aload_n 0, 1) := by decide +kernel
theorem dX12_nextToken_26 : decode cX12_nextToken 26 = .ok (.getfield 7, 3) := by decide +kernel
theorem dX12_nextToken_29 : decode cX12_nextToken 29 = .ok (.aload_n 0, 1) := by decide +kernel
theorem dX12_nextToken_30 : decode cX12_nextToken 30 = .ok (.getfield 153, 3) := by decide +kernel
theorem dX12_nextToken_33 : decode cX12_nextToken 33 = .ok (.iaload, 1) := by decide +kernel
theorem dX12_nextToken_34 : decode cX12_nextToken 34 = .ok (.bipush 10, 2) := by decide +kernel
theorem dX12_nextToken_36 : decode cX12_nextToken 36 = .ok (.if_icmp .ne 16, 3) := by decide +kernel
theorem dX12_nextToken_39 : decode cX12_nextToken 39 = .ok (.aload_n 0, 1) := by decide +kernel
theorem dX12_nextToken_40 : decode cX12_nextToken 40 = .ok (.dup, 1) := by decide +kernel
theorem dX12_nextToken_41 : decode cX12_nextToken 41 = .ok (.getfield 153, 3) := by decide +kernel
theorem dX12_nextToken_44 : decode cX12_nextToken 44 = .ok (.iconst 1, 1) := by decide +kernel
theorem dX12_nextToken_45 : decode cX12_nextToken 45 = .ok (.iadd, 1) := by decide +kernel
theorem dX12_nextToken_46 : decode cX12_nextToken 46 = .ok (.putfield 153, 3) := by decide +kernel
theorem dX12_nextToken_49 : decode cX12_nextToken 49 = .ok (.goto (-49), 3) := by decide +kernel
theorem dX12_nextToken_52 : decode cX12_nextToken 52 = .ok (.aload_n 0, 1) := by decide +kernel
theorem dX12_nextToken_53 : decode cX12_nextToken 53 = .ok (.aload_n 0, 1) := by decide +kernel
theorem dX12_nextToken_54 : decode cX12_nextToken 54 = .ok (.getfield 153, 3) := by decide +kernel
theorem dX12_nextToken_57 : decode cX12_nextToken 57 = .ok (.putfield 156, 3) := by decide +kernel
theorem dX12_nextToken_60 : decode cX12_nextToken 60 = .ok (.aload_n 0, 1) := by decide +kernel
theorem dX12_nextToken_61 : decode cX12_nextToken 61 = .ok (.lconst 0, 1) := by decide +kernel
theorem dX12_nextToken_62 : decode cX12_nextToken 62 = .ok (.putfield 159, 3) := by decide +kernel
theorem dX12_nextToken_65 : decode cX12_nextToken 65 = .ok (.aload_n 0, 1) := by decide +kernel
theorem dX12_nextToken_66 : decode cX12_nextToken 66 = .ok (.iconst 0, 1) := by decide +kernel
theorem dX12_nextToken_67 : decode cX12_nextToken 67 = .ok (.putfield 163, 3) := by decide +kernel
theorem dX12_nextToken_70 : decode cX12_nextToken 70 = .ok (.aload_n 0, 1) := by decide +kernel
theorem dX12_nextToken_71 : decode cX12_nextToken 71 = .ok (.getfield 153, 3) := by decide +kernel
theorem dX12_nextToken_74 : decode cX12_nextToken 74 = .ok (.aload_n 0, 1) := by decide +kernel
theorem dX12_nextToken_75 : decode cX12_nextToken 75 = .ok (.getfield 150, 3) := by decide +kernel
theorem dX12_nextToken_78 : decode cX12_nextToken 78 = .ok (.if_icmp .ne 9, 3) := by decide +kernel
theorem dX12_nextToken_81 : decode cX12_nextToken 81 = .ok (.aload_n 0, 1) := by decide +kernel
theorem dX12_nextToken_82 : decode cX12_nextToken 82 = .ok (.iconst 0, 1) := by decide +kernel
theorem dX12_nextToken_83 : decode cX12_nextToken 83 = .ok (.putfield 166, 3) := by decide +kernel
theorem dX12_nextToken_86 : decode cX12_nextToken 86 = .ok (.return_, 1) := by decide +kernel
theorem dX12_nextToken_87 : decode cX12_nextToken 87 = .ok (.aload_n 0, 1) := by decide +kernel
theorem dX12_nextToken_88 : decode cX12_nextToken 88 = .ok (.getfield 7, 3) := by decide +kernel
theorem dX12_nextToken_91 : decode cX12_nextToken 91 = .ok (.aload_n 0, 1) := by decide +kernel
theorem dX12_nextToken_92 : decode cX12_nextToken 92 = .ok (.getfield 153, 3) := by decide +kernel
theorem dX12_nextToken_95 : decode cX12_nextToken 95 = .ok (.iaload, 1) := by decide +kernel
theorem dX12_nextToken_96 : decode cX12_nextToken 96 = .ok (.istore_n 1, 1) := by decide +kernel
theorem dX12_nextToken_97 : decode cX12_nextToken 97 = .ok (.iload_n 1, 1) := by decide +kernel
theorem dX12_nextToken_98 : decode cX12_nextToken 98 = .ok (.bipush 97, 2) := by decide +kernel
theorem dX12_nextToken_100 : decode cX12_nextToken 100 = .ok (.if_icmp .lt 112, 3) := by decide +kernel
theorem dX12_nextToken_103 : decode cX12_nextToken 103 = .ok (.iload_n 1, 1) := by decide +kernel
theorem dX12_nextToken_104 : decode cX12_nextToken 104 = .ok (.bipush 122, 2) := by decide +kernel
theorem dX12_nextToken_106 : decode cX12_nextToken 106 = .ok (.if_icmp .gt 106, 3) := by decide +kernel
theorem dX12_nextToken_109 : decode cX12_nextToken 109 = .ok (.aload_n 0, 1) := by decide +kernel
theorem dX12_nextToken_110 : decode cX12_nextToken 110 = .ok (.aload_n 0, 1) := by decide +kernel
theorem dX12_nextToken_111 : decode cX12_nextToken 111 = .ok (.getfield 153, 3) := by decide +kernel
theorem dX12_nextToken_114 : decode cX12_nextToken 114 = .ok (.invokevirtual 169, 3) := by decide +kernel
theorem dX12_nextToken_117 : decode cX12_nextToken 117 = .ok (.bipush 97, 2) := by decide +kernel
theorem dX12_nextToken_119 : decode cX12_nextToken 119 = .ok (.if_icmp .lt 69, 3) := by decide +kernel
theorem dX12_nextToken_122 : decode cX12_nextToken 122 = .ok (.aload_n 0, 1) := by decide +kernel
theorem dX12_nextToken_123 : decode cX12_nextToken 123 = .ok (.aload_n 0, 1) := by decide +kernel
theorem dX12_nextToken_124 : decode cX12_nextToken 124 = .ok (.getfield 153, 3) := by decide +kernel
theorem dX12_nextToken_127 : decode cX12_nextToken 127 = .ok (.invokevirtual 169, 3) := by decide +kernel
theorem dX12_nextToken_130 : decode cX12_nextToken 130 = .ok (.bipush 122, 2) := by decide +kernel
theorem dX12_nextToken_132 : decode cX12_nextToken 132 = .ok (.if_icmp .gt 56, 3) := by decide +kernel
theorem dX12_nextToken_135 : decode cX12_nextToken 135 = .ok (.aload_n 0, 1) := by decide +kernel
theorem dX12_nextToken_136 : decode cX12_nextToken 136 = .ok (.getfield 153, 3) := by decide +kernel
theorem dX12_nextToken_139 : decode cX12_nextToken 139 = .ok (.aload_n 0, 1) := by decide +kernel
theorem dX12_nextToken_140 : decode cX12_nextToken 140 = .ok (.getfield 156, 3) := by decide +kernel
theorem dX12_nextToken_143 : decode cX12_nextToken 143 = .ok (.isub, 1) := by decide +kernel
theorem dX12_nextToken_144 : decode cX12_nextToken 144 = .ok (.bipush 8, 2) := by decide +kernel
theorem dX12_nextToken_146 : decode cX12_nextToken 146 = .ok (.if_icmp .ge 29, 3) := by decide +kernel
theorem dX12_nextToken_149 : decode cX12_nextToken 149 = .ok (.aload_n 0, 1) := by decide +kernel
theorem dX12_nextToken_150 : decode cX12_nextToken 150 = .ok (.aload_n 0, 1) := by decide +kernel
theorem dX12_nextToken_151 : decode cX12_nextToken 151 = .ok (.getfield 159, 3) := by decide +kernel
theorem dX12_nextToken_154 : decode cX12_nextToken 154 = .ok (.ldc2_w 173, 3) := by decide +kernel
theorem dX12_nextToken_157 : decode cX12_nextToken 157 = .ok (.lmul, 1) := by decide +kernel
theorem dX12_nextToken_158 : decode cX12_nextToken 158 = .ok (.aload_n 0, 1) := by decide +kernel
theorem dX12_nextToken_159 : decode cX12_nextToken 159 = .ok (.aload_n 0, 1) := by decide +kernel
theorem dX12_nextToken_160 : decode cX12_nextToken 160 = .ok (.getfield 153, 3) := by decide +kernel
theorem dX12_nextToken_163 : decode cX12_nextToken 163 = .ok (.invokevirtual 169, 3) := by decide +kernel
theorem dX12_nextToken_166 : decode cX12_nextToken 166 = .ok (.i2l, 1) := by decide +kernel
theorem dX12_nextToken_167 : decode cX12_nextToken 167 = .ok (.ladd, 1) := by decide +kernel
theorem dX12_nextToken_168 : decode cX12_nextToken 168 = .ok (.ldc2_w 175, 3) := by decide +kernel
theorem dX12_nextToken_171 : decode cX12_nextToken 171 = .ok (.lsub, 1) := by decide +kernel
theorem dX12_nextToken_172 : decode cX12_nextToken 172 = .ok (.putfield 159, 3) := by decide +kernel
theorem dX12_nextToken_175 : decode cX12_nextToken 175 = .ok (.aload_n 0, 1) := by decide +kernel
theorem dX12_nextToken_176 : decode cX12_nextToken 176 = .ok (.dup, 1) := by decide +kernel
theorem dX12_nextToken_177 : decode cX12_nextToken 177 = .ok (.getfield 153, 3) := by decide +kernel
theorem dX12_nextToken_180 : decode cX12_nextToken 180 = .ok (.iconst 1, 1) := by decide +kernel
theorem dX12_nextToken_181 : decode cX12_nextToken 181 = .ok (.iadd, 1) := by decide +kernel
theorem dX12_nextToken_182 : decode cX12_nextToken 182 = .ok (.putfield 153, 3) := by decide +kernel
theorem dX12_nextToken_185 : decode cX12_nextToken 185 = .ok (.goto (-76), 3) := by decide +kernel
theorem dX12_nextToken_188 : decode cX12_nextToken 188 = .ok (.aload_n 0, 1) := by decide +kernel
theorem dX12_nextToken_189 : decode cX12_nextToken 189 = .ok (.aload_n 0, 1) := by decide +kernel
theorem dX12_nextToken_190 : decode cX12_nextToken 190 = .ok (.getfield 153, 3) := by decide +kernel
theorem dX12_nextToken_193 : decode cX12_nextToken 193 = .ok (.aload_n 0, 1) := by decide +kernel
theorem dX12_nextToken_194 : decode cX12_nextToken 194 = .ok (.getfield 156, 3) := by decide +kernel
theorem dX12_nextToken_197 : decode cX12_nextToken 197 = .ok (.isub, 1) := by decide +kernel
theorem dX12_nextToken_198 : decode cX12_nextToken 198 = .ok (.bipush 8, 2) := by decide +kernel
theorem dX12_nextToken_200 : decode cX12_nextToken 200 = .ok (.if_icmp .le 7, 3) := by decide +kernel
theorem dX12_nextToken_203 : decode cX12_nextToken 203 = .ok (.iconst 4, 1) := by decide +kernel
theorem dX12_nextToken_204 : decode cX12_nextToken 204 = .ok (.goto 4, 3) := by decide +kernel
theorem dX12_nextToken_207 : decode cX12_nextToken 207 = .ok (.iconst 1, 1) := by decide +kernel
theorem dX12_nextToken_208 : decode cX12_nextToken 208 = .ok (.putfield 166, 3) := by decide +kernel
theorem dX12_nextToken_211 : decode cX12_nextToken 211 = .ok (.return_, 1) := by decide +kernel
theorem dX12_nextToken_212 : decode cX12_nextToken 212 = .ok (.iload_n 1, 1) := by decide +kernel
theorem dX12_nextToken_213 : decode cX12_nextToken 213 = .ok (.bipush 48, 2) := by decide +kernel
theorem dX12_nextToken_215 : decode cX12_nextToken 215 = .ok (.if_icmp .lt 107, 3) := by decide +kernel
theorem dX12_nextToken_218 : decode cX12_nextToken 218 = .ok (.iload_n 1, 1) := by decide +kernel
theorem dX12_nextToken_219 : decode cX12_nextToken 219 = .ok (.bipush 57, 2) := by decide +kernel
theorem dX12_nextToken_221 : decode cX12_nextToken 221 = .ok (.if_icmp .gt 101, 3) := by decide +kernel
theorem dX12_nextToken_224 : decode cX12_nextToken 224 = .ok (.aload_n 0, 1) := by decide +kernel
theorem dX12_nextToken_225 : decode cX12_nextToken 225 = .ok (.aload_n 0, 1) := by decide +kernel
theorem dX12_nextToken_226 : decode cX12_nextToken 226 = .ok (.getfield 153, 3) := by decide +kernel
theorem dX12_nextToken_229 : decode cX12_nextToken 229 = .ok (.invokevirtual 169, 3) := by decide +kernel
theorem dX12_nextToken_232 : decode cX12_nextToken 232 = .ok (.bipush 48, 2) := by decide +kernel
theorem dX12_nextToken_234 : decode cX12_nextToken 234 = .ok (.if_icmp .lt 65, 3) := by decide +kernel
theorem dX12_nextToken_237 : decode cX12_nextToken 237 = .ok (.aload_n 0, 1) := by decide +kernel
theorem dX12_nextToken_238 : decode cX12_nextToken 238 = .ok (.aload_n 0, 1) := by decide +kernel
theorem dX12_nextToken_239 : decode cX12_nextToken 239 = .ok (.getfield 153, 3) := by decide +kernel
theorem dX12_nextToken_242 : decode cX12_nextToken 242 = .ok (.invokevirtual 169, 3) := by decide +kernel
theorem dX12_nextToken_245 : decode cX12_nextToken 245 = .ok (.bipush 57, 2) := by decide +kernel
theorem dX12_nextToken_247 : decode cX12_nextToken 247 = .ok (.if_icmp .gt 52, 3) := by decide +kernel
theorem dX12_nextToken_250 : decode cX12_nextToken 250 = .ok (.aload_n 0, 1) := by decide +kernel
theorem dX12_nextToken_251 : decode cX12_nextToken 251 = .ok (.getfield 153, 3) := by decide +kernel
theorem dX12_nextToken_254 : decode cX12_nextToken 254 = .ok (.aload_n 0, 1) := by decide +kernel
theorem dX12_nextToken_255 : decode cX12_nextToken 255 = .ok (.getfield 156, 3) := by decide +kernel
theorem dX12_nextToken_258 : decode cX12_nextToken 258 = .ok (.isub, 1) := by decide +kernel
theorem dX12_nextToken_259 : decode cX12_nextToken 259 = .ok (.iconst 4, 1) := by decide +kernel
theorem dX12_nextToken_260 : decode cX12_nextToken 260 = .ok (.if_icmp .ge 26, 3) := by decide +kernel
theorem dX12_nextToken_263 : decode cX12_nextToken 263 = .ok (.aload_n 0, 1) := by decide +kernel
theorem dX12_nextToken_264 : decode cX12_nextToken 264 = .ok (.aload_n 0, 1) := by decide +kernel
theorem dX12_nextToken_265 : decode cX12_nextToken 265 = .ok (.getfield 163, 3) := by decide +kernel
theorem dX12_nextToken_268 : decode cX12_nextToken 268 = .ok (.bipush 10, 2) := by decide +kernel
theorem dX12_nextToken_270 : decode cX12_nextToken 270 = .ok (.imul, 1) := by decide +kernel
theorem dX12_nextToken_271 : decode cX12_nextToken 271 = .ok (.aload_n 0, 1) := by decide +kernel
theorem dX12_nextToken_272 : decode cX12_nextToken 272 = .ok (.aload_n 0, 1) := by decide +kernel
theorem dX12_nextToken_273 : decode cX12_nextToken 273 = .ok (.getfield 153, 3) := by decide +kernel
theorem dX12_nextToken_276 : decode cX12_nextToken 276 = .ok (.invokevirtual 169, 3) := by decide +kernel
theorem dX12_nextToken_279 : decode cX12_nextToken 279 = .ok (.iadd, 1) := by decide +kernel
theorem dX12_nextToken_280 : decode cX12_nextToken 280 = .ok (.bipush 48, 2) := by decide +kernel
theorem dX12_nextToken_282 : decode cX12_nextToken 282 = .ok (.isub, 1) := by decide +kernel
theorem dX12_nextToken_283 : decode cX12_nextToken 283 = .ok (.putfield 163, 3) := by decide +kernel
theorem dX12_nextToken_286 : decode cX12_nextToken 286 = .ok (.aload_n 0, 1) := by decide +kernel
theorem dX12_nextToken_287 : decode cX12_nextToken 287 = .ok (.dup, 1) := by decide +kernel
theorem dX12_nextToken_288 : decode cX12_nextToken 288 = .ok (.getfield 153, 3) := by decide +kernel
theorem dX12_nextToken_291 : decode cX12_nextToken 291 = .ok (.iconst 1, 1) := by decide +kernel
theorem dX12_nextToken_292 : decode cX12_nextToken 292 = .ok (.iadd, 1) := by decide +kernel
theorem dX12_nextToken_293 : decode cX12_nextToken 293 = .ok (.putfield 153, 3) := by decide +kernel
theorem dX12_nextToken_296 : decode cX12_nextToken 296 = .ok (.goto (-72), 3) := by decide +kernel
theorem dX12_nextToken_299 : decode cX12_nextToken 299 = .ok (.aload_n 0, 1) := by decide +kernel
theorem dX12_nextToken_300 : decode cX12_nextToken 300 = .ok (.aload_n 0, 1) := by decide +kernel
theorem dX12_nextToken_301 : decode cX12_nextToken 301 = .ok (.getfield 153, 3) := by decide +kernel
theorem dX12_nextToken_304 : decode cX12_nextToken 304 = .ok (.aload_n 0, 1) := by decide +kernel
theorem dX12_nextToken_305 : decode cX12_nextToken 305 = .ok (.getfield 156, 3) := by decide +kernel
theorem dX12_nextToken_308 : decode cX12_nextToken 308 = .ok (.isub, 1) := by decide +kernel
theorem dX12_nextToken_309 : decode cX12_nextToken 309 = .ok (.iconst 4, 1) := by decide +kernel
theorem dX12_nextToken_310 : decode cX12_nextToken 310 = .ok (.if_icmp .le 7, 3) := by decide +kernel
theorem dX12_nextToken_313 : decode cX12_nextToken 313 = .ok (.iconst 4, 1) := by decide +kernel
theorem dX12_nextToken_314 : decode cX12_nextToken 314 = .ok (.goto 4, 3) := by decide +kernel
theorem dX12_nextToken_317 : decode cX12_nextToken 317 = .ok (.iconst 2, 1) := by decide +kernel
theorem dX12_nextToken_318 : decode cX12_nextToken 318 = .ok (.putfield 166, 3) := by decide +kernel
theorem dX12_nextToken_321 : decode cX12_nextToken 321 = .ok (.return_, 1) := by decide +kernel
theorem dX12_nextToken_322 : decode cX12_nextToken 322 = .ok (.aload_n 0, 1) := by decide +kernel
theorem dX12_nextToken_323 : decode cX12_nextToken 323 = .ok (.dup, 1) := by decide +kernel
theorem dX12_nextToken_324 : decode cX12_nextToken 324 = .ok (.getfield 153, 3) := by decide +kernel
theorem dX12_nextToken_327 : decode cX12_nextToken 327 = .ok (.iconst 1, 1) := by decide +kernel
theorem dX12_nextToken_328 : decode cX12_nextToken 328 = .ok (.iadd, 1) := by decide +kernel
theorem dX12_nextToken_329 : decode cX12_nextToken 329 = .ok (.putfield 153, 3) := by decide +kernel
theorem dX12_nextToken_332 : decode cX12_nextToken 332 = .ok (.aload_n 0, 1) := by decide +kernel
theorem dX12_nextToken_333 : decode cX12_nextToken 333 = .ok (.iload_n 1, 1) := by decide +kernel
theorem dX12_nextToken_334 : decode cX12_nextToken 334 = .ok (.bipush 40, 2) := by decide +kernel
theorem dX12_nextToken_336 : decode cX12_nextToken 336 = .ok (.if_icmp .lt 9, 3) := by decide +kernel
theorem dX12_nextToken_339 : decode cX12_nextToken 339 = .ok (.iload_n 1, 1) := by decide +kernel
theorem dX12_nextToken_340 : decode cX12_nextToken 340 = .ok (.bipush 43, 2) := by decide +kernel
theorem dX12_nextToken_342 : decode cX12_nextToken 342 = .ok (.if_icmp .le 21, 3) := by decide +kernel
theorem dX12_nextToken_345 : decode cX12_nextToken 345 = .ok (.iload_n 1, 1) := by decide +kernel
theorem dX12_nextToken_346 : decode cX12_nextToken 346 = .ok (.bipush 45, 2) := by decide +kernel
theorem dX12_nextToken_348 : decode cX12_nextToken 348 = .ok (.if_icmp .eq 15, 3) := by decide +kernel
theorem dX12_nextToken_351 : decode cX12_nextToken 351 = .ok (.iload_n 1, 1) := by decide +kernel
theorem dX12_nextToken_352 : decode cX12_nextToken 352 = .ok (.bipush 59, 2) := by decide +kernel
theorem dX12_nextToken_354 : decode cX12_nextToken 354 = .ok (.if_icmp .lt 13, 3) := by decide +kernel
theorem dX12_nextToken_357 : decode cX12_nextToken 357 = .ok (.iload_n 1, 1) := by decide +kernel
theorem dX12_nextToken_358 : decode cX12_nextToken 358 = .ok (.bipush 61, 2) := by decide +kernel
theorem dX12_nextToken_360 : decode cX12_nextToken 360 = .ok (.if_icmp .gt 7, 3) := by decide +kernel
theorem dX12_nextToken_363 : decode cX12_nextToken 363 = .ok (.iconst 3, 1) := by decide +kernel
theorem dX12_nextToken_364 : decode cX12_nextToken 364 = .ok (.goto 4, 3) := by decide +kernel
theorem dX12_nextToken_367 : decode cX12_nextToken 367 = .ok (.iconst 4, 1) := by decide +kernel
theorem dX12_nextToken_368 : decode cX12_nextToken 368 = .ok (.putfield 166, 3) := by decide +kernel
theorem dX12_nextToken_371 : decode cX12_nextToken 371 = .ok (.return_, 1) := by decide +kernel
theorem fl_RX12_153 : FL RX12 153 12 4 := ⟨inG (i := 1404) (by decide +kernel) (by decide +kernel), by decide, by decide⟩
theorem fl_RX12_156 : FL RX12 156 12 5 := ⟨inG (i := 1405) (by decide +kernel) (by decide +kernel), by decide, by decide⟩
theorem fl_RX12_159 : FL RX12 159 12 7 := ⟨inG (i := 1407) (by decide +kernel) (by decide +kernel), by decide, by decide⟩
theorem fl_RX12_163 : FL RX12 163 12 8 := ⟨inG (i := 1408) (by decide +kernel) (by decide +kernel), by decide, by decide⟩
theorem fl_RX12_166 : FL RX12 166 12 6 := ⟨inG (i := 1406) (by decide +kernel) (by decide +kernel), by decide, by decide⟩
theorem kl_RX12_173 : Cond.constantLong RX12 173 (27) ∈ tG := inG (i := 1607) (by decide +kernel) (by decide +kernel)
theorem kl_RX12_175 : Cond.constantLong RX12 175 (96) ∈ tG := inG (i := 1608) (by decide +kernel) (by decide +kernel)
theorem lk_RX12_169 : Cond.methodLink RX12 169 yX12_signAt ∈ tG := inG (i := 1603) (by decide +kernel) (by decide +kernel)
theorem m_X12_signAt : MV Y_X12_signAt 1 12 := ⟨⟨inG (i := 1606) (by decide +kernel) (by decide +kernel), inG (i := 110) (by decide +kernel) (by decide +kernel), by decide, by decide, by decide, by decide +kernel⟩, inG (i := 1605) (by decide +kernel) (by decide +kernel), inG (i := 35) (by decide +kernel) (by decide +kernel), by decide⟩
def P_X12_nextToken_J39  (R : St → Prop) (K : St → Prop) (Q : St → Prop) (σ : St) : Prop :=
  R (up σ 12 0 4 (wi ((σ 12 0 4) + 1)))
set_option maxRecDepth 20000 in
set_option maxHeartbeats 2000000 in
theorem e_P_X12_nextToken_J39  {R : St → Prop} {K : St → Prop} {Q : St → Prop} {σ : St} (hR : ∀ σ, R σ → E Y_X12_nextToken 1 0 0 (QV Q) ww 0 0 0 [some (vR 12 0), none] [] σ) (hK : ∀ σ, K σ → E Y_X12_nextToken 1 0 0 (QV Q) ww 0 0 52 [some (vR 12 0), none] [] σ) (h : P_X12_nextToken_J39 R K Q σ) : E Y_X12_nextToken 1 0 0 (QV Q) ww 0 0 39 [some (vR 12 0), none] [] σ := by
  unfold P_X12_nextToken_J39 at h
  refine E_aload_n dX12_nextToken_39 rfl rfl ?_
  refine E_dup dX12_nextToken_40 (fun _ q => by cases q) ?_
  refine E_geti (i := 0) dX12_nextToken_41 fl_RX12_153 rfl ?_
  refine E_ic dX12_nextToken_44 rfl ?_
  refine E_iadd dX12_nextToken_45 ?_
  refine E_puti dX12_nextToken_46 fl_RX12_153 rfl rfl rfl ?_
  refine E_goto (tgt := 0) dX12_nextToken_49 (by decide) ?_
  exact hR _ h
def P_X12_nextToken_L0  (K : St → Prop) (Q : St → Prop) : Nat → St → Prop
  | 0, _ => False
  | n + 1, σ => (if (σ 12 0 3) ≤ (σ 12 0 4) then K σ else 0 ≤ σ 12 0 4 ∧ σ 12 0 4 < 1000 ∧ (if (σ 1302 0 (σ 12 0 4)) = 32 then P_X12_nextToken_J39 (P_X12_nextToken_L0 K Q n) K Q σ else 0 ≤ σ 12 0 4 ∧ σ 12 0 4 < 1000 ∧ (if (σ 1302 0 (σ 12 0 4)) = 10 then P_X12_nextToken_J39 (P_X12_nextToken_L0 K Q n) K Q σ else K σ)))
set_option maxRecDepth 20000 in
set_option maxHeartbeats 2000000 in
theorem e_P_X12_nextToken_L0  {K : St → Prop} {Q : St → Prop} (hK : ∀ σ, K σ → E Y_X12_nextToken 1 0 0 (QV Q) ww 0 0 52 [some (vR 12 0), none] [] σ) : ∀ (n : Nat) (σ : St), P_X12_nextToken_L0 K Q n  σ → E Y_X12_nextToken 1 0 0 (QV Q) ww 0 0 0 [some (vR 12 0), none] [] σ := by
  intro n
  induction n with
  | zero => intro  σ h; exact h.elim
  | succ n hR =>
    intro  σ h
    unfold P_X12_nextToken_L0 at h
    refine E_aload_n dX12_nextToken_0 rfl rfl ?_
    refine E_geti (i := 0) dX12_nextToken_1 fl_RX12_153 rfl ?_
    refine E_aload_n dX12_nextToken_4 rfl rfl ?_
    refine E_geti (i := 0) dX12_nextToken_5 fl_RX12_150 rfl ?_
    refine E_icmp_ge (tgt := 52) dX12_nextToken_8 (by decide) (fun hc => ?_) (fun hc => ?_)
    · have h := Eq.mp (if_pos hc) h
      exact hK _ h
    · have h := Eq.mp (if_neg hc) h
      refine E_aload_n dX12_nextToken_11 rfl rfl ?_
      refine E_getr (i := 0) dX12_nextToken_12 fl_RX12_7 rfl rfl (go_12_2 _ _) ?_
      refine E_aload_n dX12_nextToken_15 rfl rfl ?_
      refine E_geti (i := 0) dX12_nextToken_16 fl_RX12_153 rfl ?_
      obtain ⟨hg0, hg1, h⟩ := h
      refine E_iald dX12_nextToken_19 sh_1302 hg0 hg1 ?_
      refine E_bp dX12_nextToken_20 rfl ?_
      refine E_icmp_eq (tgt := 39) dX12_nextToken_22 (by decide) (fun hc => ?_) (fun hc => ?_)
      · have h := Eq.mp (if_pos hc) h
        exact e_P_X12_nextToken_J39 hR hK h
      · have h := Eq.mp (if_neg hc) h
        refine E_aload_n dX12_nextToken_25 rfl rfl ?_
        refine E_getr (i := 0) dX12_nextToken_26 fl_RX12_7 rfl rfl (go_12_2 _ _) ?_
        refine E_aload_n dX12_nextToken_29 rfl rfl ?_
        refine E_geti (i := 0) dX12_nextToken_30 fl_RX12_153 rfl ?_
        obtain ⟨hg0, hg1, h⟩ := h
        refine E_iald dX12_nextToken_33 sh_1302 hg0 hg1 ?_
        refine E_bp dX12_nextToken_34 rfl ?_
        refine E_icmp_ne (tgt := 52) dX12_nextToken_36 (by decide) (fun hc => ?_) (fun hc => ?_)
        · have h := Eq.mp (if_neg hc) h
          exact hK _ h
        · have h := Eq.mp (if_pos hc) h
          exact e_P_X12_nextToken_J39 hR hK h
def P_X12_nextToken_J368 (y0 : Int)  (Q : St → Prop) (σ : St) : Prop :=
  Q (up σ 12 0 6 y0)
set_option maxRecDepth 20000 in
set_option maxHeartbeats 2000000 in
theorem e_P_X12_nextToken_J368 {y0 : Int}  {Q : St → Prop} {σ : St}  (h : P_X12_nextToken_J368 y0 Q σ) : E Y_X12_nextToken 1 0 0 (QV Q) ww 0 0 368 [none, none] [vI y0, vR 12 0] σ := by
  unfold P_X12_nextToken_J368 at h
  refine E_puti dX12_nextToken_368 fl_RX12_166 rfl rfl rfl ?_
  exact E_vret dX12_nextToken_371 rfl ⟨rfl, rfl, h⟩
def P_X12_nextToken_J363   (Q : St → Prop) (σ : St) : Prop :=
  P_X12_nextToken_J368 3 Q σ
set_option maxRecDepth 20000 in
set_option maxHeartbeats 2000000 in
theorem e_P_X12_nextToken_J363   {Q : St → Prop} {σ : St}  (h : P_X12_nextToken_J363  Q σ) : E Y_X12_nextToken 1 0 0 (QV Q) ww 0 0 363 [none, none] [vR 12 0] σ := by
  unfold P_X12_nextToken_J363 at h
  refine E_ic dX12_nextToken_363 rfl ?_
  refine E_goto (tgt := 368) dX12_nextToken_364 (by decide) ?_
  exact e_P_X12_nextToken_J368 h
def P_X12_nextToken_J367   (Q : St → Prop) (σ : St) : Prop :=
  P_X12_nextToken_J368 4 Q σ
set_option maxRecDepth 20000 in
set_option maxHeartbeats 2000000 in
theorem e_P_X12_nextToken_J367   {Q : St → Prop} {σ : St}  (h : P_X12_nextToken_J367  Q σ) : E Y_X12_nextToken 1 0 0 (QV Q) ww 0 0 367 [none, none] [vR 12 0] σ := by
  unfold P_X12_nextToken_J367 at h
  refine E_ic dX12_nextToken_367 rfl ?_
  exact e_P_X12_nextToken_J368 h
def P_X12_nextToken_J345 (x1 : Int)  (Q : St → Prop) (σ : St) : Prop :=
  (if x1 = 45 then P_X12_nextToken_J363 Q σ else (if x1 < 59 then P_X12_nextToken_J367 Q σ else (if 61 < x1 then P_X12_nextToken_J367 Q σ else P_X12_nextToken_J363 Q σ)))
set_option maxRecDepth 20000 in
set_option maxHeartbeats 2000000 in
theorem e_P_X12_nextToken_J345 {x1 : Int}  {Q : St → Prop} {σ : St}  (h : P_X12_nextToken_J345 x1 Q σ) : E Y_X12_nextToken 1 0 0 (QV Q) ww 0 0 345 [none, some (vI x1)] [vR 12 0] σ := by
  unfold P_X12_nextToken_J345 at h
  refine E_iload_n dX12_nextToken_345 rfl rfl ?_
  refine E_bp dX12_nextToken_346 rfl ?_
  refine E_icmp_eq (tgt := 363) dX12_nextToken_348 (by decide) (fun hc => ?_) (fun hc => ?_)
  · have h := Eq.mp (if_pos hc) h
    refine E_wk2 [none, none] trivial ?_
    exact e_P_X12_nextToken_J363 h
  · have h := Eq.mp (if_neg hc) h
    refine E_iload_n dX12_nextToken_351 rfl rfl ?_
    refine E_bp dX12_nextToken_352 rfl ?_
    refine E_icmp_lt (tgt := 367) dX12_nextToken_354 (by decide) (fun hc => ?_) (fun hc => ?_)
    · have h := Eq.mp (if_pos hc) h
      refine E_wk2 [none, none] trivial ?_
      exact e_P_X12_nextToken_J367 h
    · have h := Eq.mp (if_neg hc) h
      refine E_iload_n dX12_nextToken_357 rfl rfl ?_
      refine E_bp dX12_nextToken_358 rfl ?_
      refine E_icmp_gt (tgt := 367) dX12_nextToken_360 (by decide) (fun hc => ?_) (fun hc => ?_)
      · have h := Eq.mp (if_pos hc) h
        refine E_wk2 [none, none] trivial ?_
        exact e_P_X12_nextToken_J367 h
      · have h := Eq.mp (if_neg hc) h
        refine E_wk2 [none, none] trivial ?_
        exact e_P_X12_nextToken_J363 h
def P_X12_nextToken_J322 (x1 : Int)  (Q : St → Prop) (σ : St) : Prop :=
  (if x1 < 40 then P_X12_nextToken_J345 x1 Q (up σ 12 0 4 (wi ((σ 12 0 4) + 1))) else (if x1 ≤ 43 then P_X12_nextToken_J363 Q (up σ 12 0 4 (wi ((σ 12 0 4) + 1))) else P_X12_nextToken_J345 x1 Q (up σ 12 0 4 (wi ((σ 12 0 4) + 1)))))
set_option maxRecDepth 20000 in
set_option maxHeartbeats 2000000 in
theorem e_P_X12_nextToken_J322 {x1 : Int}  {Q : St → Prop} {σ : St}  (h : P_X12_nextToken_J322 x1 Q σ) : E Y_X12_nextToken 1 0 0 (QV Q) ww 0 0 322 [some (vR 12 0), some (vI x1)] [] σ := by
  unfold P_X12_nextToken_J322 at h
  refine E_aload_n dX12_nextToken_322 rfl rfl ?_
  refine E_dup dX12_nextToken_323 (fun _ q => by cases q) ?_
  refine E_geti (i := 0) dX12_nextToken_324 fl_RX12_153 rfl ?_
  refine E_ic dX12_nextToken_327 rfl ?_
  refine E_iadd dX12_nextToken_328 ?_
  refine E_puti dX12_nextToken_329 fl_RX12_153 rfl rfl rfl ?_
  refine E_aload_n dX12_nextToken_332 rfl rfl ?_
  refine E_iload_n dX12_nextToken_333 rfl rfl ?_
  refine E_bp dX12_nextToken_334 rfl ?_
  refine E_icmp_lt (tgt := 345) dX12_nextToken_336 (by decide) (fun hc => ?_) (fun hc => ?_)
  · have h := Eq.mp (if_pos hc) h
    refine E_wk2 [none, some (vI x1)] ⟨rfl, trivial⟩ ?_
    exact e_P_X12_nextToken_J345 h
  · have h := Eq.mp (if_neg hc) h
    refine E_iload_n dX12_nextToken_339 rfl rfl ?_
    refine E_bp dX12_nextToken_340 rfl ?_
    refine E_icmp_le (tgt := 363) dX12_nextToken_342 (by decide) (fun hc => ?_) (fun hc => ?_)
    · have h := Eq.mp (if_pos hc) h
      refine E_wk2 [none, none] trivial ?_
      exact e_P_X12_nextToken_J363 h
    · have h := Eq.mp (if_neg hc) h
      refine E_wk2 [none, some (vI x1)] ⟨rfl, trivial⟩ ?_
      exact e_P_X12_nextToken_J345 h
def P_X12_nextToken_J286  (R : St → Prop) (K : St → Prop) (Q : St → Prop) (σ : St) : Prop :=
  R (up σ 12 0 4 (wi ((σ 12 0 4) + 1)))
set_option maxRecDepth 20000 in
set_option maxHeartbeats 2000000 in
theorem e_P_X12_nextToken_J286  {R : St → Prop} {K : St → Prop} {Q : St → Prop} {σ : St} (hR : ∀ σ, R σ → E Y_X12_nextToken 1 0 0 (QV Q) ww 0 0 224 [some (vR 12 0), none] [] σ) (hK : ∀ σ, K σ → E Y_X12_nextToken 1 0 0 (QV Q) ww 0 0 299 [some (vR 12 0), none] [] σ) (h : P_X12_nextToken_J286 R K Q σ) : E Y_X12_nextToken 1 0 0 (QV Q) ww 0 0 286 [some (vR 12 0), none] [] σ := by
  unfold P_X12_nextToken_J286 at h
  refine E_aload_n dX12_nextToken_286 rfl rfl ?_
  refine E_dup dX12_nextToken_287 (fun _ q => by cases q) ?_
  refine E_geti (i := 0) dX12_nextToken_288 fl_RX12_153 rfl ?_
  refine E_ic dX12_nextToken_291 rfl ?_
  refine E_iadd dX12_nextToken_292 ?_
  refine E_puti dX12_nextToken_293 fl_RX12_153 rfl rfl rfl ?_
  refine E_goto (tgt := 224) dX12_nextToken_296 (by decide) ?_
  exact hR _ h
def P_X12_nextToken_L224  (K : St → Prop) (Q : St → Prop) : Nat → St → Prop
  | 0, _ => False
  | n + 1, σ => P_X12_signAt (σ 12 0 4) σ (fun r_3 σ_2 => (if r_3 < 48 then K σ_2 else P_X12_signAt (σ_2 12 0 4) σ_2 (fun r_5 σ_4 => (if 57 < r_5 then K σ_4 else (if 4 ≤ (wi ((σ_4 12 0 4) - (σ_4 12 0 5))) then P_X12_nextToken_J286 (P_X12_nextToken_L224 K Q n) K Q σ_4 else P_X12_signAt (σ_4 12 0 4) σ_4 (fun r_7 σ_6 => P_X12_nextToken_J286 (P_X12_nextToken_L224 K Q n) K Q (up σ_6 12 0 8 (wi ((wi ((wi ((σ_4 12 0 8) * 10)) + r_7)) - 48)))))))))
set_option maxRecDepth 20000 in
set_option maxHeartbeats 2000000 in
theorem e_P_X12_nextToken_L224  {K : St → Prop} {Q : St → Prop} (hK : ∀ σ, K σ → E Y_X12_nextToken 1 0 0 (QV Q) ww 0 0 299 [some (vR 12 0), none] [] σ) : ∀ (n : Nat) (σ : St), P_X12_nextToken_L224 K Q n  σ → E Y_X12_nextToken 1 0 0 (QV Q) ww 0 0 224 [some (vR 12 0), none] [] σ := by
  intro n
  induction n with
  | zero => intro  σ h; exact h.elim
  | succ n hR =>
    intro  σ h
    unfold P_X12_nextToken_L224 at h
    refine E_aload_n dX12_nextToken_224 rfl rfl ?_
    refine E_aload_n dX12_nextToken_225 rfl rfl ?_
    refine E_geti (i := 0) dX12_nextToken_226 fl_RX12_153 rfl ?_
    refine E_callV (Y' := Y_X12_signAt) (as := [vI (σ 12 0 4)]) (st := []) dX12_nextToken_229 lk_RX12_169 m_X12_signAt (by decide) (Nat.le_refl _) (Nat.le_refl _) rfl rfl (Nat.le_of_ble_eq_true rfl) (s_X12_signAt h) (fun r0 B0 σ_2 h => ?_)
    obtain ⟨r_3, rfl, rfl, h⟩ := h
    refine E_bp dX12_nextToken_232 rfl ?_
    refine E_icmp_lt (tgt := 299) dX12_nextToken_234 (by decide) (fun hc => ?_) (fun hc => ?_)
    · have h := Eq.mp (if_pos hc) h
      exact hK _ h
    · have h := Eq.mp (if_neg hc) h
      refine E_aload_n dX12_nextToken_237 rfl rfl ?_
      refine E_aload_n dX12_nextToken_238 rfl rfl ?_
      refine E_geti (i := 0) dX12_nextToken_239 fl_RX12_153 rfl ?_
      refine E_callV (Y' := Y_X12_signAt) (as := [vI (σ_2 12 0 4)]) (st := []) dX12_nextToken_242 lk_RX12_169 m_X12_signAt (by decide) (Nat.le_refl _) (Nat.le_refl _) rfl rfl (Nat.le_of_ble_eq_true rfl) (s_X12_signAt h) (fun r0 B0 σ_4 h => ?_)
      obtain ⟨r_5, rfl, rfl, h⟩ := h
      refine E_bp dX12_nextToken_245 rfl ?_
      refine E_icmp_gt (tgt := 299) dX12_nextToken_247 (by decide) (fun hc => ?_) (fun hc => ?_)
      · have h := Eq.mp (if_pos hc) h
        exact hK _ h
      · have h := Eq.mp (if_neg hc) h
        refine E_aload_n dX12_nextToken_250 rfl rfl ?_
        refine E_geti (i := 0) dX12_nextToken_251 fl_RX12_153 rfl ?_
        refine E_aload_n dX12_nextToken_254 rfl rfl ?_
        refine E_geti (i := 0) dX12_nextToken_255 fl_RX12_156 rfl ?_
        refine E_isub dX12_nextToken_258 ?_
        refine E_ic dX12_nextToken_259 rfl ?_
        refine E_icmp_ge (tgt := 286) dX12_nextToken_260 (by decide) (fun hc => ?_) (fun hc => ?_)
        · have h := Eq.mp (if_pos hc) h
          exact e_P_X12_nextToken_J286 hR hK h
        · have h := Eq.mp (if_neg hc) h
          refine E_aload_n dX12_nextToken_263 rfl rfl ?_
          refine E_aload_n dX12_nextToken_264 rfl rfl ?_
          refine E_geti (i := 0) dX12_nextToken_265 fl_RX12_163 rfl ?_
          refine E_bp dX12_nextToken_268 rfl ?_
          refine E_imul dX12_nextToken_270 ?_
          refine E_aload_n dX12_nextToken_271 rfl rfl ?_
          refine E_aload_n dX12_nextToken_272 rfl rfl ?_
          refine E_geti (i := 0) dX12_nextToken_273 fl_RX12_153 rfl ?_
          refine E_callV (Y' := Y_X12_signAt) (as := [vI (σ_4 12 0 4)]) (st := [vI (wi ((σ_4 12 0 8) * 10)), vR 12 0]) dX12_nextToken_276 lk_RX12_169 m_X12_signAt (by decide) (Nat.le_refl _) (Nat.le_refl _) rfl rfl (Nat.le_of_ble_eq_true rfl) (s_X12_signAt h) (fun r0 B0 σ_6 h => ?_)
          obtain ⟨r_7, rfl, rfl, h⟩ := h
          refine E_iadd dX12_nextToken_279 ?_
          refine E_bp dX12_nextToken_280 rfl ?_
          refine E_isub dX12_nextToken_282 ?_
          refine E_puti dX12_nextToken_283 fl_RX12_163 rfl rfl rfl ?_
          exact e_P_X12_nextToken_J286 hR hK h
def P_X12_nextToken_J318 (y0 : Int)  (Q : St → Prop) (σ : St) : Prop :=
  Q (up σ 12 0 6 y0)
set_option maxRecDepth 20000 in
set_option maxHeartbeats 2000000 in
theorem e_P_X12_nextToken_J318 {y0 : Int}  {Q : St → Prop} {σ : St}  (h : P_X12_nextToken_J318 y0 Q σ) : E Y_X12_nextToken 1 0 0 (QV Q) ww 0 0 318 [none, none] [vI y0, vR 12 0] σ := by
  unfold P_X12_nextToken_J318 at h
  refine E_puti dX12_nextToken_318 fl_RX12_166 rfl rfl rfl ?_
  exact E_vret dX12_nextToken_321 rfl ⟨rfl, rfl, h⟩
def P_X12_nextToken_J299   (Q : St → Prop) (σ : St) : Prop :=
  (if (wi ((σ 12 0 4) - (σ 12 0 5))) ≤ 4 then P_X12_nextToken_J318 2 Q σ else P_X12_nextToken_J318 4 Q σ)
set_option maxRecDepth 20000 in
set_option maxHeartbeats 2000000 in
theorem e_P_X12_nextToken_J299   {Q : St → Prop} {σ : St}  (h : P_X12_nextToken_J299  Q σ) : E Y_X12_nextToken 1 0 0 (QV Q) ww 0 0 299 [some (vR 12 0), none] [] σ := by
  unfold P_X12_nextToken_J299 at h
  refine E_aload_n dX12_nextToken_299 rfl rfl ?_
  refine E_aload_n dX12_nextToken_300 rfl rfl ?_
  refine E_geti (i := 0) dX12_nextToken_301 fl_RX12_153 rfl ?_
  refine E_aload_n dX12_nextToken_304 rfl rfl ?_
  refine E_geti (i := 0) dX12_nextToken_305 fl_RX12_156 rfl ?_
  refine E_isub dX12_nextToken_308 ?_
  refine E_ic dX12_nextToken_309 rfl ?_
  refine E_icmp_le (tgt := 317) dX12_nextToken_310 (by decide) (fun hc => ?_) (fun hc => ?_)
  · have h := Eq.mp (if_pos hc) h
    refine E_ic dX12_nextToken_317 rfl ?_
    refine E_wk2 [none, none] trivial ?_
    exact e_P_X12_nextToken_J318 h
  · have h := Eq.mp (if_neg hc) h
    refine E_ic dX12_nextToken_313 rfl ?_
    refine E_goto (tgt := 318) dX12_nextToken_314 (by decide) ?_
    refine E_wk2 [none, none] trivial ?_
    exact e_P_X12_nextToken_J318 h
def P_X12_nextToken_J212 (x1 : Int)  (Q : St → Prop) (σ : St) : Prop :=
  (if x1 < 48 then P_X12_nextToken_J322 x1 Q σ else (if 57 < x1 then P_X12_nextToken_J322 x1 Q σ else P_X12_nextToken_L224 (fun σ_8 => P_X12_nextToken_J299 Q σ_8) Q FU σ))
set_option maxRecDepth 20000 in
set_option maxHeartbeats 2000000 in
theorem e_P_X12_nextToken_J212 {x1 : Int}  {Q : St → Prop} {σ : St}  (h : P_X12_nextToken_J212 x1 Q σ) : E Y_X12_nextToken 1 0 0 (QV Q) ww 0 0 212 [some (vR 12 0), some (vI x1)] [] σ := by
  unfold P_X12_nextToken_J212 at h
  refine E_iload_n dX12_nextToken_212 rfl rfl ?_
  refine E_bp dX12_nextToken_213 rfl ?_
  refine E_icmp_lt (tgt := 322) dX12_nextToken_215 (by decide) (fun hc => ?_) (fun hc => ?_)
  · have h := Eq.mp (if_pos hc) h
    exact e_P_X12_nextToken_J322 h
  · have h := Eq.mp (if_neg hc) h
    refine E_iload_n dX12_nextToken_218 rfl rfl ?_
    refine E_bp dX12_nextToken_219 rfl ?_
    refine E_icmp_gt (tgt := 322) dX12_nextToken_221 (by decide) (fun hc => ?_) (fun hc => ?_)
    · have h := Eq.mp (if_pos hc) h
      exact e_P_X12_nextToken_J322 h
    · have h := Eq.mp (if_neg hc) h
      refine E_wk2 [some (vR 12 0), none] ⟨rfl, trivial⟩ ?_
      refine e_P_X12_nextToken_L224 ?_ _ _ h
      · intro σ_8 h
        exact e_P_X12_nextToken_J299 h
def P_X12_nextToken_J175  (R : St → Prop) (K : St → Prop) (Q : St → Prop) (σ : St) : Prop :=
  R (up σ 12 0 4 (wi ((σ 12 0 4) + 1)))
set_option maxRecDepth 20000 in
set_option maxHeartbeats 2000000 in
theorem e_P_X12_nextToken_J175  {R : St → Prop} {K : St → Prop} {Q : St → Prop} {σ : St} (hR : ∀ σ, R σ → E Y_X12_nextToken 1 0 0 (QV Q) ww 0 0 109 [some (vR 12 0), none] [] σ) (hK : ∀ σ, K σ → E Y_X12_nextToken 1 0 0 (QV Q) ww 0 0 188 [some (vR 12 0), none] [] σ) (h : P_X12_nextToken_J175 R K Q σ) : E Y_X12_nextToken 1 0 0 (QV Q) ww 0 0 175 [some (vR 12 0), none] [] σ := by
  unfold P_X12_nextToken_J175 at h
  refine E_aload_n dX12_nextToken_175 rfl rfl ?_
  refine E_dup dX12_nextToken_176 (fun _ q => by cases q) ?_
  refine E_geti (i := 0) dX12_nextToken_177 fl_RX12_153 rfl ?_
  refine E_ic dX12_nextToken_180 rfl ?_
  refine E_iadd dX12_nextToken_181 ?_
  refine E_puti dX12_nextToken_182 fl_RX12_153 rfl rfl rfl ?_
  refine E_goto (tgt := 109) dX12_nextToken_185 (by decide) ?_
  exact hR _ h
def P_X12_nextToken_L109  (K : St → Prop) (Q : St → Prop) : Nat → St → Prop
  | 0, _ => False
  | n + 1, σ => P_X12_signAt (σ 12 0 4) σ (fun r_10 σ_9 => (if r_10 < 97 then K σ_9 else P_X12_signAt (σ_9 12 0 4) σ_9 (fun r_12 σ_11 => (if 122 < r_12 then K σ_11 else (if 8 ≤ (wi ((σ_11 12 0 4) - (σ_11 12 0 5))) then P_X12_nextToken_J175 (P_X12_nextToken_L109 K Q n) K Q σ_11 else P_X12_signAt (σ_11 12 0 4) σ_11 (fun r_14 σ_13 => P_X12_nextToken_J175 (P_X12_nextToken_L109 K Q n) K Q (up σ_13 12 0 7 (wj ((wj ((wj ((σ_11 12 0 7) * 27)) + r_14)) - 96)))))))))
set_option maxRecDepth 20000 in
set_option maxHeartbeats 2000000 in
theorem e_P_X12_nextToken_L109  {K : St → Prop} {Q : St → Prop} (hK : ∀ σ, K σ → E Y_X12_nextToken 1 0 0 (QV Q) ww 0 0 188 [some (vR 12 0), none] [] σ) : ∀ (n : Nat) (σ : St), P_X12_nextToken_L109 K Q n  σ → E Y_X12_nextToken 1 0 0 (QV Q) ww 0 0 109 [some (vR 12 0), none] [] σ := by
  intro n
  induction n with
  | zero => intro  σ h; exact h.elim
  | succ n hR =>
    intro  σ h
    unfold P_X12_nextToken_L109 at h
    refine E_aload_n dX12_nextToken_109 rfl rfl ?_
    refine E_aload_n dX12_nextToken_110 rfl rfl ?_
    refine E_geti (i := 0) dX12_nextToken_111 fl_RX12_153 rfl ?_
    refine E_callV (Y' := Y_X12_signAt) (as := [vI (σ 12 0 4)]) (st := []) dX12_nextToken_114 lk_RX12_169 m_X12_signAt (by decide) (Nat.le_refl _) (Nat.le_refl _) rfl rfl (Nat.le_of_ble_eq_true rfl) (s_X12_signAt h) (fun r0 B0 σ_9 h => ?_)
    obtain ⟨r_10, rfl, rfl, h⟩ := h
    refine E_bp dX12_nextToken_117 rfl ?_
    refine E_icmp_lt (tgt := 188) dX12_nextToken_119 (by decide) (fun hc => ?_) (fun hc => ?_)
    · have h := Eq.mp (if_pos hc) h
      exact hK _ h
    · have h := Eq.mp (if_neg hc) h
      refine E_aload_n dX12_nextToken_122 rfl rfl ?_
      refine E_aload_n dX12_nextToken_123 rfl rfl ?_
      refine E_geti (i := 0) dX12_nextToken_124 fl_RX12_153 rfl ?_
      refine E_callV (Y' := Y_X12_signAt) (as := [vI (σ_9 12 0 4)]) (st := []) dX12_nextToken_127 lk_RX12_169 m_X12_signAt (by decide) (Nat.le_refl _) (Nat.le_refl _) rfl rfl (Nat.le_of_ble_eq_true rfl) (s_X12_signAt h) (fun r0 B0 σ_11 h => ?_)
      obtain ⟨r_12, rfl, rfl, h⟩ := h
      refine E_bp dX12_nextToken_130 rfl ?_
      refine E_icmp_gt (tgt := 188) dX12_nextToken_132 (by decide) (fun hc => ?_) (fun hc => ?_)
      · have h := Eq.mp (if_pos hc) h
        exact hK _ h
      · have h := Eq.mp (if_neg hc) h
        refine E_aload_n dX12_nextToken_135 rfl rfl ?_
        refine E_geti (i := 0) dX12_nextToken_136 fl_RX12_153 rfl ?_
        refine E_aload_n dX12_nextToken_139 rfl rfl ?_
        refine E_geti (i := 0) dX12_nextToken_140 fl_RX12_156 rfl ?_
        refine E_isub dX12_nextToken_143 ?_
        refine E_bp dX12_nextToken_144 rfl ?_
        refine E_icmp_ge (tgt := 175) dX12_nextToken_146 (by decide) (fun hc => ?_) (fun hc => ?_)
        · have h := Eq.mp (if_pos hc) h
          exact e_P_X12_nextToken_J175 hR hK h
        · have h := Eq.mp (if_neg hc) h
          refine E_aload_n dX12_nextToken_149 rfl rfl ?_
          refine E_aload_n dX12_nextToken_150 rfl rfl ?_
          refine E_getl (i := 0) dX12_nextToken_151 fl_RX12_159 rfl ?_
          refine E_ldc2 (z := 27) dX12_nextToken_154 kl_RX12_173 (by decide) ?_
          refine E_lmul dX12_nextToken_157 ?_
          refine E_aload_n dX12_nextToken_158 rfl rfl ?_
          refine E_aload_n dX12_nextToken_159 rfl rfl ?_
          refine E_geti (i := 0) dX12_nextToken_160 fl_RX12_153 rfl ?_
          refine E_callV (Y' := Y_X12_signAt) (as := [vI (σ_11 12 0 4)]) (st := [vL (wj ((σ_11 12 0 7) * 27)), vR 12 0]) dX12_nextToken_163 lk_RX12_169 m_X12_signAt (by decide) (Nat.le_refl _) (Nat.le_refl _) rfl rfl (Nat.le_of_ble_eq_true rfl) (s_X12_signAt h) (fun r0 B0 σ_13 h => ?_)
          obtain ⟨r_14, rfl, rfl, h⟩ := h
          refine E_i2l dX12_nextToken_166 ?_
          refine E_ladd dX12_nextToken_167 ?_
          refine E_ldc2 (z := 96) dX12_nextToken_168 kl_RX12_175 (by decide) ?_
          refine E_lsub dX12_nextToken_171 ?_
          refine E_putl dX12_nextToken_172 fl_RX12_159 rfl rfl rfl ?_
          exact e_P_X12_nextToken_J175 hR hK h
def P_X12_nextToken_J208 (y0 : Int)  (Q : St → Prop) (σ : St) : Prop :=
  Q (up σ 12 0 6 y0)
set_option maxRecDepth 20000 in
set_option maxHeartbeats 2000000 in
theorem e_P_X12_nextToken_J208 {y0 : Int}  {Q : St → Prop} {σ : St}  (h : P_X12_nextToken_J208 y0 Q σ) : E Y_X12_nextToken 1 0 0 (QV Q) ww 0 0 208 [none, none] [vI y0, vR 12 0] σ := by
  unfold P_X12_nextToken_J208 at h
  refine E_puti dX12_nextToken_208 fl_RX12_166 rfl rfl rfl ?_
  exact E_vret dX12_nextToken_211 rfl ⟨rfl, rfl, h⟩
def P_X12_nextToken_J188   (Q : St → Prop) (σ : St) : Prop :=
  (if (wi ((σ 12 0 4) - (σ 12 0 5))) ≤ 8 then P_X12_nextToken_J208 1 Q σ else P_X12_nextToken_J208 4 Q σ)
set_option maxRecDepth 20000 in
set_option maxHeartbeats 2000000 in
theorem e_P_X12_nextToken_J188   {Q : St → Prop} {σ : St}  (h : P_X12_nextToken_J188  Q σ) : E Y_X12_nextToken 1 0 0 (QV Q) ww 0 0 188 [some (vR 12 0), none] [] σ := by
  unfold P_X12_nextToken_J188 at h
  refine E_aload_n dX12_nextToken_188 rfl rfl ?_
  refine E_aload_n dX12_nextToken_189 rfl rfl ?_
  refine E_geti (i := 0) dX12_nextToken_190 fl_RX12_153 rfl ?_
  refine E_aload_n dX12_nextToken_193 rfl rfl ?_
  refine E_geti (i := 0) dX12_nextToken_194 fl_RX12_156 rfl ?_
  refine E_isub dX12_nextToken_197 ?_
  refine E_bp dX12_nextToken_198 rfl ?_
  refine E_icmp_le (tgt := 207) dX12_nextToken_200 (by decide) (fun hc => ?_) (fun hc => ?_)
  · have h := Eq.mp (if_pos hc) h
    refine E_ic dX12_nextToken_207 rfl ?_
    refine E_wk2 [none, none] trivial ?_
    exact e_P_X12_nextToken_J208 h
  · have h := Eq.mp (if_neg hc) h
    refine E_ic dX12_nextToken_203 rfl ?_
    refine E_goto (tgt := 208) dX12_nextToken_204 (by decide) ?_
    refine E_wk2 [none, none] trivial ?_
    exact e_P_X12_nextToken_J208 h
def P_X12_nextToken_J52   (Q : St → Prop) (σ : St) : Prop :=
  (if ((up (up (up σ 12 0 5 (σ 12 0 4)) 12 0 7 0) 12 0 8 0) 12 0 4) = ((up (up (up σ 12 0 5 (σ 12 0 4)) 12 0 7 0) 12 0 8 0) 12 0 3) then Q (up (up (up (up σ 12 0 5 (σ 12 0 4)) 12 0 7 0) 12 0 8 0) 12 0 6 0) else 0 ≤ (up (up (up σ 12 0 5 (σ 12 0 4)) 12 0 7 0) 12 0 8 0) 12 0 4 ∧ (up (up (up σ 12 0 5 (σ 12 0 4)) 12 0 7 0) 12 0 8 0) 12 0 4 < 1000 ∧ (if ((up (up (up σ 12 0 5 (σ 12 0 4)) 12 0 7 0) 12 0 8 0) 1302 0 ((up (up (up σ 12 0 5 (σ 12 0 4)) 12 0 7 0) 12 0 8 0) 12 0 4)) < 97 then P_X12_nextToken_J212 ((up (up (up σ 12 0 5 (σ 12 0 4)) 12 0 7 0) 12 0 8 0) 1302 0 ((up (up (up σ 12 0 5 (σ 12 0 4)) 12 0 7 0) 12 0 8 0) 12 0 4)) Q (up (up (up σ 12 0 5 (σ 12 0 4)) 12 0 7 0) 12 0 8 0) else (if 122 < ((up (up (up σ 12 0 5 (σ 12 0 4)) 12 0 7 0) 12 0 8 0) 1302 0 ((up (up (up σ 12 0 5 (σ 12 0 4)) 12 0 7 0) 12 0 8 0) 12 0 4)) then P_X12_nextToken_J212 ((up (up (up σ 12 0 5 (σ 12 0 4)) 12 0 7 0) 12 0 8 0) 1302 0 ((up (up (up σ 12 0 5 (σ 12 0 4)) 12 0 7 0) 12 0 8 0) 12 0 4)) Q (up (up (up σ 12 0 5 (σ 12 0 4)) 12 0 7 0) 12 0 8 0) else P_X12_nextToken_L109 (fun σ_15 => P_X12_nextToken_J188 Q σ_15) Q FU (up (up (up σ 12 0 5 (σ 12 0 4)) 12 0 7 0) 12 0 8 0))))
set_option maxRecDepth 20000 in
set_option maxHeartbeats 2000000 in
theorem e_P_X12_nextToken_J52   {Q : St → Prop} {σ : St}  (h : P_X12_nextToken_J52  Q σ) : E Y_X12_nextToken 1 0 0 (QV Q) ww 0 0 52 [some (vR 12 0), none] [] σ := by
  unfold P_X12_nextToken_J52 at h
  refine E_aload_n dX12_nextToken_52 rfl rfl ?_
  refine E_aload_n dX12_nextToken_53 rfl rfl ?_
  refine E_geti (i := 0) dX12_nextToken_54 fl_RX12_153 rfl ?_
  refine E_puti dX12_nextToken_57 fl_RX12_156 rfl rfl rfl ?_
  refine E_aload_n dX12_nextToken_60 rfl rfl ?_
  refine E_lc dX12_nextToken_61 rfl ?_
  refine E_putl dX12_nextToken_62 fl_RX12_159 rfl rfl rfl ?_
  refine E_aload_n dX12_nextToken_65 rfl rfl ?_
  refine E_ic dX12_nextToken_66 rfl ?_
  refine E_puti dX12_nextToken_67 fl_RX12_163 rfl rfl rfl ?_
  refine E_aload_n dX12_nextToken_70 rfl rfl ?_
  refine E_geti (i := 0) dX12_nextToken_71 fl_RX12_153 rfl ?_
  refine E_aload_n dX12_nextToken_74 rfl rfl ?_
  refine E_geti (i := 0) dX12_nextToken_75 fl_RX12_150 rfl ?_
  refine E_icmp_ne (tgt := 87) dX12_nextToken_78 (by decide) (fun hc => ?_) (fun hc => ?_)
  · have h := Eq.mp (if_neg hc) h
    refine E_aload_n dX12_nextToken_87 rfl rfl ?_
    refine E_getr (i := 0) dX12_nextToken_88 fl_RX12_7 rfl rfl (go_12_2 _ _) ?_
    refine E_aload_n dX12_nextToken_91 rfl rfl ?_
    refine E_geti (i := 0) dX12_nextToken_92 fl_RX12_153 rfl ?_
    obtain ⟨hg0, hg1, h⟩ := h
    refine E_iald dX12_nextToken_95 sh_1302 hg0 hg1 ?_
    refine E_istore_n (ls' := [some (vR 12 0), some (vI ((up (up (up σ 12 0 5 (σ 12 0 4)) 12 0 7 0) 12 0 8 0) 1302 0 ((up (up (up σ 12 0 5 (σ 12 0 4)) 12 0 7 0) 12 0 8 0) 12 0 4)))]) dX12_nextToken_96 rfl (by decide) rfl ?_
    refine E_iload_n dX12_nextToken_97 rfl rfl ?_
    refine E_bp dX12_nextToken_98 rfl ?_
    refine E_icmp_lt (tgt := 212) dX12_nextToken_100 (by decide) (fun hc => ?_) (fun hc => ?_)
    · have h := Eq.mp (if_pos hc) h
      exact e_P_X12_nextToken_J212 h
    · have h := Eq.mp (if_neg hc) h
      refine E_iload_n dX12_nextToken_103 rfl rfl ?_
      refine E_bp dX12_nextToken_104 rfl ?_
      refine E_icmp_gt (tgt := 212) dX12_nextToken_106 (by decide) (fun hc => ?_) (fun hc => ?_)
      · have h := Eq.mp (if_pos hc) h
        exact e_P_X12_nextToken_J212 h
      · have h := Eq.mp (if_neg hc) h
        refine E_wk2 [some (vR 12 0), none] ⟨rfl, trivial⟩ ?_
        refine e_P_X12_nextToken_L109 ?_ _ _ h
        · intro σ_15 h
          exact e_P_X12_nextToken_J188 h
  · have h := Eq.mp (if_pos hc) h
    refine E_aload_n dX12_nextToken_81 rfl rfl ?_
    refine E_ic dX12_nextToken_82 rfl ?_
    refine E_puti dX12_nextToken_83 fl_RX12_166 rfl rfl rfl ?_
    exact E_vret dX12_nextToken_86 rfl ⟨rfl, rfl, h⟩
def P_X12_nextToken  (σ : St) (Q : St → Prop) : Prop :=
  P_X12_nextToken_L0 (fun σ_1 => P_X12_nextToken_J52 Q σ_1) Q FU σ
set_option maxRecDepth 20000 in
set_option maxHeartbeats 2000000 in
theorem s_X12_nextToken  {σ : St} {Q : St → Prop} (h : P_X12_nextToken  σ Q) : Cn Y_X12_nextToken 1 0 0 ww σ [vR 12 0] (QV Q) := by
  refine Cn_of [some (vR 12 0), none] (by decide) (Nat.le_of_ble_eq_true rfl) rfl ?_
  unfold P_X12_nextToken at h
  refine e_P_X12_nextToken_L0 ?_ _ _ h
  · intro σ_1 h
    exact e_P_X12_nextToken_J52 h
