abbrev Y_X11_day : My := (yX11_day, cX11_day, 1, some .int)
theorem dX11_day_0 : decode cX11_day 0 = .ok (.aload_n 0, 1) := by decide +kernel
theorem dX11_day_1 : decode cX11_day 1 = .ok (.getfield 60, 3) := by decide +kernel
theorem dX11_day_4 : decode cX11_day 4 = .ok (.aload_n 0, 1) := by decide +kernel
theorem dX11_day_5 : decode cX11_day 5 = .ok (.getfield 50, 3) := by decide +kernel
theorem dX11_day_8 : decode cX11_day 8 = .ok (.invokevirtual 166, 3) := by decide +kernel
theorem dX11_day_11 : decode cX11_day 11 = .ok (.aload_n 0, 1) := by decide +kernel
theorem dX11_day_12 : decode cX11_day 12 = .ok (.getfield 50, 3) := by decide +kernel
theorem dX11_day_15 : decode cX11_day 15 = .ok (.invokevirtual 190, 3) := by decide +kernel
theorem dX11_day_18 : decode cX11_day 18 = .ok (.ireturn, 1) := by decide +kernel
theorem lk_RX11_190 : Cond.methodLink RX11 190 yX9_passDay ∈ tG := inG (i := 991) (by decide +kernel) (by decide +kernel)
def P_X11_day  (σ : St) (Q : Int → St → Prop) : Prop :=
  P_X5_keep 0 σ (fun σ_1 => P_X9_passDay 0 σ_1 (fun r_3 σ_2 => Q r_3 σ_2))
set_option maxRecDepth 20000 in
set_option maxHeartbeats 2000000 in
theorem s_X11_day  {σ : St} {Q : Int → St → Prop} (h : P_X11_day  σ Q) : Cn Y_X11_day 6 0 0 ww σ [vR 11 0] (QI Q) := by
  refine Cn_of [some (vR 11 0)] (by decide) (Nat.le_of_ble_eq_true rfl) rfl ?_
  unfold P_X11_day at h
  refine E_aload_n dX11_day_0 rfl rfl ?_
  refine E_getr (i := 0) dX11_day_1 fl_RX11_60 rfl rfl (go_11_8 _ _) ?_
  refine E_aload_n dX11_day_4 rfl rfl ?_
  refine E_getr (i := 0) dX11_day_5 fl_RX11_50 rfl rfl (go_11_6 _ _) ?_
  refine E_callV (Y' := Y_X5_keep) (as := [vR 9 0]) (st := []) dX11_day_8 lk_RX11_166 m_X5_keep (by decide) (Nat.le_refl _) (Nat.le_refl _) rfl rfl (Nat.le_of_ble_eq_true rfl) (s_X5_keep h) (fun r0 B0 σ_1 h => ?_)
  obtain ⟨rfl, rfl, h⟩ := h
  refine E_aload_n dX11_day_11 rfl rfl ?_
  refine E_getr (i := 0) dX11_day_12 fl_RX11_50 rfl rfl (go_11_6 _ _) ?_
  refine E_callV (Y' := Y_X9_passDay) (as := []) (st := []) dX11_day_15 lk_RX11_190 m_X9_passDay (by decide) (Nat.le_refl _) (Nat.le_refl _) rfl rfl (Nat.le_of_ble_eq_true rfl) (s_X9_passDay h) (fun r0 B0 σ_2 h => ?_)
  obtain ⟨r_3, rfl, rfl, h⟩ := h
  exact E_iret dX11_day_18 rfl ⟨_, rfl, rfl, h⟩
abbrev Y_X11_undo : My := (yX11_undo, cX11_undo, 1, some .boolean)
theorem dX11_undo_0 : decode cX11_undo 0 = .ok (.aload_n 0, 1) := by decide +kernel
theorem dX11_undo_1 : decode cX11_undo 1 = .ok (.getfield 60, 3) := by decide +kernel
theorem dX11_undo_4 : decode cX11_undo 4 = .ok (.aload_n 0, 1) := by decide +kernel
theorem dX11_undo_5 : decode cX11_undo 5 = .ok (.getfield 50, 3) := by decide +kernel
theorem dX11_undo_8 : decode cX11_undo 8 = .ok (.invokevirtual 193, 3) := by decide +kernel
theorem dX11_undo_11 : decode cX11_undo 11 = .ok (.ireturn, 1) := by decide +kernel
theorem lk_RX11_193 : Cond.methodLink RX11 193 yX5_giveBack ∈ tG := inG (i := 1032) (by decide +kernel) (by decide +kernel)
theorem m_X5_giveBack : MV Y_X5_giveBack 1 5 := ⟨⟨inG (i := 1035) (by decide +kernel) (by decide +kernel), inG (i := 105) (by decide +kernel) (by decide +kernel), by decide, by decide, by decide, by decide +kernel⟩, inG (i := 1033) (by decide +kernel) (by decide +kernel), inG (i := 1034) (by decide +kernel) (by decide +kernel), by decide⟩
def P_X11_undo  (σ : St) (Q : Int → St → Prop) : Prop :=
  P_X5_giveBack 0 σ (fun r_2 σ_1 => (r_2 = 0 ∨ r_2 = 1) ∧ Q r_2 σ_1)
set_option maxRecDepth 20000 in
set_option maxHeartbeats 2000000 in
theorem s_X11_undo  {σ : St} {Q : Int → St → Prop} (h : P_X11_undo  σ Q) : Cn Y_X11_undo 3 0 0 ww σ [vR 11 0] (QI Q) := by
  refine Cn_of [some (vR 11 0)] (by decide) (Nat.le_of_ble_eq_true rfl) rfl ?_
  unfold P_X11_undo at h
  refine E_aload_n dX11_undo_0 rfl rfl ?_
  refine E_getr (i := 0) dX11_undo_1 fl_RX11_60 rfl rfl (go_11_8 _ _) ?_
  refine E_aload_n dX11_undo_4 rfl rfl ?_
  refine E_getr (i := 0) dX11_undo_5 fl_RX11_50 rfl rfl (go_11_6 _ _) ?_
  refine E_callV (Y' := Y_X5_giveBack) (as := [vR 9 0]) (st := []) dX11_undo_8 lk_RX11_193 m_X5_giveBack (by decide) (Nat.le_refl _) (Nat.le_refl _) rfl rfl (Nat.le_of_ble_eq_true rfl) (s_X5_giveBack h) (fun r0 B0 σ_1 h => ?_)
  obtain ⟨r_2, rfl, rfl, h⟩ := h
  obtain ⟨hg0, h⟩ := h
  exact E_zret dX11_undo_11 rfl hg0 ⟨_, rfl, rfl, h⟩
abbrev Y_X11_catches : My := (yX11_catches, cX11_catches, 2, some .int)
theorem dX11_catches_0 : decode cX11_catches 0 = .ok (.iload_n 1, 1) := by decide +kernel
theorem dX11_catches_1 : decode cX11_catches 1 = .ok (.iconst 1, 1) := by decide +kernel
theorem dX11_catches_2 : decode cX11_catches 2 = .ok (.bipush 60, 2) := by decide +kernel
theorem dX11_catches_4 : decode cX11_catches 4 = .ok (.invokestatic 197, 3) := by decide +kernel
theorem dX11_catches_7 : decode cX11_catches 7 = .ok (.ifCond .eq 21, 3) := by decide +kernel
theorem dX11_catches_10 : decode cX11_catches 10 = .ok (.aload_n 0, 1) := by decide +kernel
theorem dX11_catches_11 : decode cX11_catches 11 = .ok (.getfield 19, 3) := by decide +kernel
theorem dX11_catches_14 : decode cX11_catches 14 = .ok (.iload_n 1, 1) := by decide +kernel
theorem dX11_catches_15 : decode cX11_catches 15 = .ok (.aload_n 0, 1) := by decide +kernel
theorem dX11_catches_16 : decode cX11_catches 16 = .ok (.getfield 50, 3) := by decide +kernel
theorem dX11_catches_19 : decode cX11_catches 19 = .ok (.getfield 136, 3) := by decide +kernel
theorem dX11_catches_22 : decode cX11_catches 22 = .ok (.invokevirtual 216, 3) := by decide +kernel
theorem dX11_catches_25 : decode cX11_catches 25 = .ok (.goto 4, 3) := by decide +kernel
theorem dX11_catches_28 : decode cX11_catches 28 = .ok (.iconst (-1), 1) := by decide +kernel
theorem dX11_catches_29 : decode cX11_catches 29 = .ok (.ireturn, 1) := by decide +kernel
theorem lk_RX11_197 : Cond.methodLink RX11 197 yX11_within ∈ tG := inG (i := 1040) (by decide +kernel) (by decide +kernel)
theorem lk_RX11_216 : Cond.methodLink RX11 216 yX8_fall ∈ tG := inG (i := 1069) (by decide +kernel) (by decide +kernel)
def P_X11_catches (x1 : Int) (σ : St) (Q : Int → St → Prop) : Prop :=
  P_X11_within x1 1 60 σ (fun r_2 σ_1 => (if r_2 = 0 then Q (-1) σ_1 else P_X8_fall 0 x1 1001 0 σ_1 (fun r_4 σ_3 => Q r_4 σ_3)))
set_option maxRecDepth 20000 in
set_option maxHeartbeats 2000000 in
theorem s_X11_catches {x1 : Int} {σ : St} {Q : Int → St → Prop} (h : P_X11_catches x1 σ Q) : Cn Y_X11_catches 1 0 0 ww σ [vR 11 0, vI x1] (QI Q) := by
  refine Cn_of [some (vR 11 0), some (vI x1)] (by decide) (Nat.le_of_ble_eq_true rfl) rfl ?_
  unfold P_X11_catches at h
  refine E_iload_n dX11_catches_0 rfl rfl ?_
  refine E_ic dX11_catches_1 rfl ?_
  refine E_bp dX11_catches_2 rfl ?_
  refine E_callS (Y' := Y_X11_within) (as := [vI x1, vI 1, vI 60]) (st := []) dX11_catches_4 lk_RX11_197 m_X11_within (by decide) (Nat.le_refl _) (Nat.le_refl _) rfl rfl (Nat.le_of_ble_eq_true rfl) (s_X11_within h) (fun r0 B0 σ_1 h => ?_)
  obtain ⟨r_2, rfl, rfl, h⟩ := h
  refine E_if_eq (tgt := 28) dX11_catches_7 (by decide) (fun hc => ?_) (fun hc => ?_)
  · have h := Eq.mp (if_pos hc) h
    refine E_ic dX11_catches_28 rfl ?_
    exact E_iret dX11_catches_29 rfl ⟨_, rfl, rfl, h⟩
  · have h := Eq.mp (if_neg hc) h
    refine E_aload_n dX11_catches_10 rfl rfl ?_
    refine E_getr (i := 0) dX11_catches_11 fl_RX11_19 rfl rfl (go_11_1 _ _) ?_
    refine E_iload_n dX11_catches_14 rfl rfl ?_
    refine E_aload_n dX11_catches_15 rfl rfl ?_
    refine E_getr (i := 0) dX11_catches_16 fl_RX11_50 rfl rfl (go_11_6 _ _) ?_
    refine E_getr (i := 0) dX11_catches_19 fl_RX11_136 rfl rfl (go_9_1 _ _) ?_
    refine E_callV (Y' := Y_X8_fall) (as := [vI x1, vR 1001 0]) (st := []) dX11_catches_22 lk_RX11_216 m_X8_fall (by decide) (Nat.le_refl _) (Nat.le_refl _) rfl rfl (Nat.le_of_ble_eq_true rfl) (s_X8_fall h) (fun r0 B0 σ_3 h => ?_)
    obtain ⟨r_4, rfl, rfl, h⟩ := h
    refine E_goto (tgt := 29) dX11_catches_25 (by decide) ?_
    exact E_iret dX11_catches_29 rfl ⟨_, rfl, rfl, h⟩
abbrev Y_X11_span : My := (yX11_span, cX11_span, 3, some .int)
theorem dX11_span_0 : decode cX11_span 0 = .ok (.aload_n 0, 1) := by decide +kernel
theorem dX11_span_1 : decode cX11_span 1 = .ok (.getfield 19, 3) := by decide +kernel
theorem dX11_span_4 : decode cX11_span 4 = .ok (.iload_n 1, 1) := by decide +kernel
theorem dX11_span_5 : decode cX11_span 5 = .ok (.invokevirtual 128, 3) := by decide +kernel
theorem dX11_span_8 : decode cX11_span 8 = .ok (.ifCond .eq 12, 3) := by decide +kernel
theorem dX11_span_11 : decode cX11_span 11 = .ok (.iload_n 2, 1) := by decide +kernel
theorem dX11_span_12 : decode cX11_span 12 = .ok (.iconst 0, 1) := by decide +kernel
theorem dX11_span_13 : decode cX11_span 13 = .ok (.iconst 1, 1) := by decide +kernel
theorem dX11_span_14 : decode cX11_span 14 = .ok (.invokestatic 197, 3) := by decide +kernel
theorem dX11_span_17 : decode cX11_span 17 = .ok (.ifCond .ne 5, 3) := by decide +kernel
theorem dX11_span_20 : decode cX11_span 20 = .ok (.iconst (-1), 1) := by decide +kernel
theorem dX11_span_21 : decode cX11_span 21 = .ok (.ireturn, 1) := by decide +kernel
theorem dX11_span_22 : decode cX11_span 22 = .ok (.iload_n 2, 1) := by decide +kernel
theorem dX11_span_23 : decode cX11_span 23 = .ok (.ifCond .ne 14, 3) := by decide +kernel
theorem dX11_span_26 : decode cX11_span 26 = .ok (.aload_n 0, 1) := by decide +kernel
theorem dX11_span_27 : decode cX11_span 27 = .ok (.getfield 89, 3) := by decide +kernel
theorem dX11_span_30 : decode cX11_span 30 = .ok (.iload_n 1, 1) := by decide +kernel
theorem dX11_span_31 : decode cX11_span 31 = .ok (.invokevirtual 220, 3) := by decide +kernel
theorem dX11_span_34 : decode cX11_span 34 = .ok (.goto 11, 3) := by decide +kernel
theorem dX11_span_37 : decode cX11_span 37 = .ok (.aload_n 0, 1) := by decide +kernel
theorem dX11_span_38 : decode cX11_span 38 = .ok (.getfield 89, 3) := by decide +kernel
theorem dX11_span_41 : decode cX11_span 41 = .ok (.iload_n 1, 1) := by decide +kernel
theorem dX11_span_42 : decode cX11_span 42 = .ok (.invokevirtual 223, 3) := by decide +kernel
theorem dX11_span_45 : decode cX11_span 45 = .ok (.ireturn, 1) := by decide +kernel
theorem fl_RX11_89 : FL RX11 89 11 12 := ⟨inG (i := 486) (by decide +kernel) (by decide +kernel), by decide, by decide⟩
theorem go_11_12 (σ : St) (i : Nat) : go σ 11 i 12 = (1, 0) := rfl
theorem lk_RX11_220 : Cond.methodLink RX11 220 yX1_least ∈ tG := inG (i := 1074) (by decide +kernel) (by decide +kernel)
theorem lk_RX11_223 : Cond.methodLink RX11 223 yX1_most ∈ tG := inG (i := 1079) (by decide +kernel) (by decide +kernel)
theorem m_X1_least : MV Y_X1_least 1 1 := ⟨⟨inG (i := 1077) (by decide +kernel) (by decide +kernel), inG (i := 108) (by decide +kernel) (by decide +kernel), by decide, by decide, by decide, by decide +kernel⟩, inG (i := 1075) (by decide +kernel) (by decide +kernel), inG (i := 1076) (by decide +kernel) (by decide +kernel), by decide⟩
theorem m_X1_most : MV Y_X1_most 1 1 := ⟨⟨inG (i := 1082) (by decide +kernel) (by decide +kernel), inG (i := 108) (by decide +kernel) (by decide +kernel), by decide, by decide, by decide, by decide +kernel⟩, inG (i := 1080) (by decide +kernel) (by decide +kernel), inG (i := 1081) (by decide +kernel) (by decide +kernel), by decide⟩
def P_X11_span (x1 : Int) (x2 : Int) (σ : St) (Q : Int → St → Prop) : Prop :=
  P_X8_hasCounter 0 x1 σ (fun r_2 σ_1 => (if r_2 = 0 then Q (-1) σ_1 else P_X11_within x2 0 1 σ_1 (fun r_4 σ_3 => (if r_4 = 0 then Q (-1) σ_3 else (if x2 = 0 then P_X1_least x1 σ_3 (fun r_8 σ_7 => Q r_8 σ_7) else P_X1_most x1 σ_3 (fun r_6 σ_5 => Q r_6 σ_5))))))
set_option maxRecDepth 20000 in
set_option maxHeartbeats 2000000 in
theorem s_X11_span {x1 : Int} {x2 : Int} {σ : St} {Q : Int → St → Prop} (h : P_X11_span x1 x2 σ Q) : Cn Y_X11_span 2 0 0 ww σ [vR 11 0, vI x1, vI x2] (QI Q) := by
  refine Cn_of [some (vR 11 0), some (vI x1), some (vI x2)] (by decide) (Nat.le_of_ble_eq_true rfl) rfl ?_
  unfold P_X11_span at h
  refine E_aload_n dX11_span_0 rfl rfl ?_
  refine E_getr (i := 0) dX11_span_1 fl_RX11_19 rfl rfl (go_11_1 _ _) ?_
  refine E_iload_n dX11_span_4 rfl rfl ?_
  refine E_callV (Y' := Y_X8_hasCounter) (as := [vI x1]) (st := []) dX11_span_5 lk_RX11_128 m_X8_hasCounter (by decide) (Nat.le_refl _) (Nat.le_refl _) rfl rfl (Nat.le_of_ble_eq_true rfl) (s_X8_hasCounter h) (fun r0 B0 σ_1 h => ?_)
  obtain ⟨r_2, rfl, rfl, h⟩ := h
  refine E_if_eq (tgt := 20) dX11_span_8 (by decide) (fun hc => ?_) (fun hc => ?_)
  · have h := Eq.mp (if_pos hc) h
    refine E_ic dX11_span_20 rfl ?_
    exact E_iret dX11_span_21 rfl ⟨_, rfl, rfl, h⟩
  · have h := Eq.mp (if_neg hc) h
    refine E_iload_n dX11_span_11 rfl rfl ?_
    refine E_ic dX11_span_12 rfl ?_
    refine E_ic dX11_span_13 rfl ?_
    refine E_callS (Y' := Y_X11_within) (as := [vI x2, vI 0, vI 1]) (st := []) dX11_span_14 lk_RX11_197 m_X11_within (by decide) (Nat.le_refl _) (Nat.le_refl _) rfl rfl (Nat.le_of_ble_eq_true rfl) (s_X11_within h) (fun r0 B0 σ_3 h => ?_)
    obtain ⟨r_4, rfl, rfl, h⟩ := h
    refine E_if_ne (tgt := 22) dX11_span_17 (by decide) (fun hc => ?_) (fun hc => ?_)
    · have h := Eq.mp (if_neg hc) h
      refine E_iload_n dX11_span_22 rfl rfl ?_
      refine E_if_ne (tgt := 37) dX11_span_23 (by decide) (fun hc => ?_) (fun hc => ?_)
      · have h := Eq.mp (if_neg hc) h
        refine E_aload_n dX11_span_37 rfl rfl ?_
        refine E_getr (i := 0) dX11_span_38 fl_RX11_89 rfl rfl (go_11_12 _ _) ?_
        refine E_iload_n dX11_span_41 rfl rfl ?_
        refine E_callV (Y' := Y_X1_most) (as := [vI x1]) (st := []) dX11_span_42 lk_RX11_223 m_X1_most (by decide) (Nat.le_refl _) (Nat.le_refl _) rfl rfl (Nat.le_of_ble_eq_true rfl) (s_X1_most h) (fun r0 B0 σ_5 h => ?_)
        obtain ⟨r_6, rfl, rfl, h⟩ := h
        exact E_iret dX11_span_45 rfl ⟨_, rfl, rfl, h⟩
      · have h := Eq.mp (if_pos hc) h
        refine E_aload_n dX11_span_26 rfl rfl ?_
        refine E_getr (i := 0) dX11_span_27 fl_RX11_89 rfl rfl (go_11_12 _ _) ?_
        refine E_iload_n dX11_span_30 rfl rfl ?_
        refine E_callV (Y' := Y_X1_least) (as := [vI x1]) (st := []) dX11_span_31 lk_RX11_220 m_X1_least (by decide) (Nat.le_refl _) (Nat.le_refl _) rfl rfl (Nat.le_of_ble_eq_true rfl) (s_X1_least h) (fun r0 B0 σ_7 h => ?_)
        obtain ⟨r_8, rfl, rfl, h⟩ := h
        refine E_goto (tgt := 45) dX11_span_34 (by decide) ?_
        exact E_iret dX11_span_45 rfl ⟨_, rfl, rfl, h⟩
    · have h := Eq.mp (if_pos hc) h
      refine E_ic dX11_span_20 rfl ?_
      exact E_iret dX11_span_21 rfl ⟨_, rfl, rfl, h⟩
abbrev Y_X11_idle : My := (yX11_idle, cX11_idle, 3, some .int)
theorem dX11_idle_0 : decode cX11_idle 0 = .ok (.iconst 0, 1) := by decide +kernel
theorem dX11_idle_1 : decode cX11_idle 1 = .ok (.istore_n 1, 1) := by decide +kernel
theorem dX11_idle_2 : decode cX11_idle 2 = .ok (.iconst 0, 1) := by decide +kernel
theorem dX11_idle_3 : decode cX11_idle 3 = .ok (.istore_n 2, 1) := by decide +kernel
theorem dX11_idle_4 : decode cX11_idle 4 = .ok (.iload_n 2, 1) := by decide +kernel
theorem dX11_idle_5 : decode cX11_idle 5 = .ok (.aload_n 0, 1) := by decide +kernel
theorem dX11_idle_6 : decode cX11_idle 6 = .ok (.getfield 19, 3) := by decide +kernel
theorem dX11_idle_9 : decode cX11_idle 9 = .ok (.getfield 226, 3) := by decide +kernel
theorem dX11_idle_12 : decode cX11_idle 12 = .ok (.if_icmp .ge 27, 3) := by decide +kernel
theorem dX11_idle_15 : decode cX11_idle 15 = .ok (.aload_n 0, 1) := by decide +kernel
theorem dX11_idle_16 : decode cX11_idle 16 = .ok (.getfield 89, 3) := by decide +kernel
theorem dX11_idle_19 : decode cX11_idle 19 = .ok (.iload_n 2, 1) := by decide +kernel
theorem dX11_idle_20 : decode cX11_idle 20 = .ok (.invokevirtual 220, 3) := by decide +kernel
theorem dX11_idle_23 : decode cX11_idle 23 = .ok (.iconst (-1), 1) := by decide +kernel
theorem dX11_idle_24 : decode cX11_idle 24 = .ok (.if_icmp .ne 9, 3) := by decide +kernel
theorem dX11_idle_27 : decode cX11_idle 27 = .ok (.iload_n 1, 1) := by decide +kernel
theorem dX11_idle_28 : decode cX11_idle 28 = .ok (.iconst 1, 1) := by decide +kernel
theorem dX11_idle_29 : decode cX11_idle 29 = .ok (.iload_n 2, 1) := by decide +kernel
theorem dX11_idle_30 : decode cX11_idle 30 = .ok (.ishl, 1) := by decide +kernel
theorem dX11_idle_31 : decode cX11_idle 31 = .ok (.ior, 1) := by decide +kernel
theorem dX11_idle_32 : decode cX11_idle 32 = .ok (.istore_n 1, 1) := by decide +kernel
theorem dX11_idle_33 : decode cX11_idle 33 = .ok (.iinc 2 1, 3) := by decide +kernel
theorem dX11_idle_36 : decode cX11_idle 36 = .ok (.goto (-32), 3) := by decide +kernel
theorem dX11_idle_39 : decode cX11_idle 39 = .ok (.iload_n 1, 1) := by decide +kernel
theorem dX11_idle_40 : decode cX11_idle 40 = .ok (.ireturn, 1) := by decide +kernel
def P_X11_idle_L4   (Q : Int → St → Prop) : Nat → Int → Int → St → Prop
  | 0, _, _, _ => False
  | n + 1, x1, x2, σ => (if (σ 8 0 10) ≤ x2 then Q x1 σ else P_X1_least x2 σ (fun r_2 σ_1 => (if r_2 = (-1) then (P_X11_idle_L4 Q n) (bO x1 (bL 1 x2)) (wi (x2 + 1)) σ_1 else (P_X11_idle_L4 Q n) x1 (wi (x2 + 1)) σ_1)))
set_option maxRecDepth 20000 in
set_option maxHeartbeats 2000000 in
theorem e_P_X11_idle_L4   {Q : Int → St → Prop}  : ∀ (n : Nat) (x1 : Int) (x2 : Int) (σ : St), P_X11_idle_L4 Q n x1 x2 σ → E Y_X11_idle 2 0 0 (QI Q) ww 0 0 4 [some (vR 11 0), some (vI x1), some (vI x2)] [] σ := by
  intro n
  induction n with
  | zero => intro x1 x2 σ h; exact h.elim
  | succ n hR =>
    intro x1 x2 σ h
    unfold P_X11_idle_L4 at h
    refine E_iload_n dX11_idle_4 rfl rfl ?_
    refine E_aload_n dX11_idle_5 rfl rfl ?_
    refine E_getr (i := 0) dX11_idle_6 fl_RX11_19 rfl rfl (go_11_1 _ _) ?_
    refine E_geti (i := 0) dX11_idle_9 fl_RX11_226 rfl ?_
    refine E_icmp_ge (tgt := 39) dX11_idle_12 (by decide) (fun hc => ?_) (fun hc => ?_)
    · have h := Eq.mp (if_pos hc) h
      refine E_iload_n dX11_idle_39 rfl rfl ?_
      exact E_iret dX11_idle_40 rfl ⟨_, rfl, rfl, h⟩
    · have h := Eq.mp (if_neg hc) h
      refine E_aload_n dX11_idle_15 rfl rfl ?_
      refine E_getr (i := 0) dX11_idle_16 fl_RX11_89 rfl rfl (go_11_12 _ _) ?_
      refine E_iload_n dX11_idle_19 rfl rfl ?_
      refine E_callV (Y' := Y_X1_least) (as := [vI x2]) (st := []) dX11_idle_20 lk_RX11_220 m_X1_least (by decide) (Nat.le_refl _) (Nat.le_refl _) rfl rfl (Nat.le_of_ble_eq_true rfl) (s_X1_least h) (fun r0 B0 σ_1 h => ?_)
      obtain ⟨r_2, rfl, rfl, h⟩ := h
      refine E_ic dX11_idle_23 rfl ?_
      refine E_icmp_ne (tgt := 33) dX11_idle_24 (by decide) (fun hc => ?_) (fun hc => ?_)
      · have h := Eq.mp (if_neg hc) h
        refine E_iinc (ls' := [some (vR 11 0), some (vI x1), some (vI (wi (x2 + 1)))]) dX11_idle_33 rfl (by decide) rfl rfl ?_
        refine E_goto (tgt := 4) dX11_idle_36 (by decide) ?_
        exact hR _ _ _ h
      · have h := Eq.mp (if_pos hc) h
        refine E_iload_n dX11_idle_27 rfl rfl ?_
        refine E_ic dX11_idle_28 rfl ?_
        refine E_iload_n dX11_idle_29 rfl rfl ?_
        refine E_ishl dX11_idle_30 ?_
        refine E_ior dX11_idle_31 ?_
        refine E_istore_n (ls' := [some (vR 11 0), some (vI (bO x1 (bL 1 x2))), some (vI x2)]) dX11_idle_32 rfl (by decide) rfl ?_
        refine E_iinc (ls' := [some (vR 11 0), some (vI (bO x1 (bL 1 x2))), some (vI (wi (x2 + 1)))]) dX11_idle_33 rfl (by decide) rfl rfl ?_
        refine E_goto (tgt := 4) dX11_idle_36 (by decide) ?_
        exact hR _ _ _ h
def P_X11_idle  (σ : St) (Q : Int → St → Prop) : Prop :=
  P_X11_idle_L4 Q FU 0 0 σ
set_option maxRecDepth 20000 in
set_option maxHeartbeats 2000000 in
theorem s_X11_idle  {σ : St} {Q : Int → St → Prop} (h : P_X11_idle  σ Q) : Cn Y_X11_idle 2 0 0 ww σ [vR 11 0] (QI Q) := by
  refine Cn_of [some (vR 11 0), none, none] (by decide) (Nat.le_of_ble_eq_true rfl) rfl ?_
  unfold P_X11_idle at h
  refine E_ic dX11_idle_0 rfl ?_
  refine E_istore_n (ls' := [some (vR 11 0), some (vI 0), none]) dX11_idle_1 rfl (by decide) rfl ?_
  refine E_ic dX11_idle_2 rfl ?_
  refine E_istore_n (ls' := [some (vR 11 0), some (vI 0), some (vI 0)]) dX11_idle_3 rfl (by decide) rfl ?_
  refine e_P_X11_idle_L4  _ _ _ _ h
abbrev Y_X11_lost : My := (yX11_lost, cX11_lost, 1, some .int)
theorem dX11_lost_0 : decode cX11_lost 0 = .ok (.aload_n 0, 1) := by decide +kernel
theorem dX11_lost_1 : decode cX11_lost 1 = .ok (.getfield 89, 3) := by decide +kernel
theorem dX11_lost_4 : decode cX11_lost 4 = .ok (.bipush 6, 2) := by decide +kernel
theorem dX11_lost_6 : decode cX11_lost 6 = .ok (.invokevirtual 229, 3) := by decide +kernel
theorem dX11_lost_9 : decode cX11_lost 9 = .ok (.ireturn, 1) := by decide +kernel
theorem lk_RX11_229 : Cond.methodLink RX11 229 yX1_fallers ∈ tG := inG (i := 1091) (by decide +kernel) (by decide +kernel)
theorem m_X1_fallers : MV Y_X1_fallers 1 1 := ⟨⟨inG (i := 1094) (by decide +kernel) (by decide +kernel), inG (i := 108) (by decide +kernel) (by decide +kernel), by decide, by decide, by decide, by decide +kernel⟩, inG (i := 1092) (by decide +kernel) (by decide +kernel), inG (i := 1093) (by decide +kernel) (by decide +kernel), by decide⟩
def P_X11_lost  (σ : St) (Q : Int → St → Prop) : Prop :=
  P_X1_fallers 6 σ (fun r_2 σ_1 => Q r_2 σ_1)
set_option maxRecDepth 20000 in
set_option maxHeartbeats 2000000 in
theorem s_X11_lost  {σ : St} {Q : Int → St → Prop} (h : P_X11_lost  σ Q) : Cn Y_X11_lost 3 0 0 ww σ [vR 11 0] (QI Q) := by
  refine Cn_of [some (vR 11 0)] (by decide) (Nat.le_of_ble_eq_true rfl) rfl ?_
  unfold P_X11_lost at h
  refine E_aload_n dX11_lost_0 rfl rfl ?_
  refine E_getr (i := 0) dX11_lost_1 fl_RX11_89 rfl rfl (go_11_12 _ _) ?_
  refine E_bp dX11_lost_4 rfl ?_
  refine E_callV (Y' := Y_X1_fallers) (as := [vI 6]) (st := []) dX11_lost_6 lk_RX11_229 m_X1_fallers (by decide) (Nat.le_refl _) (Nat.le_refl _) rfl rfl (Nat.le_of_ble_eq_true rfl) (s_X1_fallers h) (fun r0 B0 σ_1 h => ?_)
  obtain ⟨r_2, rfl, rfl, h⟩ := h
  exact E_iret dX11_lost_9 rfl ⟨_, rfl, rfl, h⟩
abbrev Y_X11_trim : My := (yX11_trim, cX11_trim, 3, some .int)
theorem dX11_trim_0 : decode cX11_trim 0 = .ok (.iload_n 1, 1) := by decide +kernel
theorem dX11_trim_1 : decode cX11_trim 1 = .ok (.iconst (-1), 1) := by decide +kernel
theorem dX11_trim_2 : decode cX11_trim 2 = .ok (.if_icmp .eq 17, 3) := by decide +kernel
theorem dX11_trim_5 : decode cX11_trim 5 = .ok (.aload_n 0, 1) := by decide +kernel
theorem dX11_trim_6 : decode cX11_trim 6 = .ok (.getfield 19, 3) := by decide +kernel
theorem dX11_trim_9 : decode cX11_trim 9 = .ok (.iload_n 1, 1) := by decide +kernel
theorem dX11_trim_10 : decode cX11_trim 10 = .ok (.invokevirtual 128, 3) := by decide +kernel
theorem dX11_trim_13 : decode cX11_trim 13 = .ok (.ifCond .ne 6, 3) := by decide +kernel
theorem dX11_trim_16 : decode cX11_trim 16 = .ok (.bipush (-2), 2) := by decide +kernel
theorem dX11_trim_18 : decode cX11_trim 18 = .ok (.ireturn, 1) := by decide +kernel
theorem dX11_trim_19 : decode cX11_trim 19 = .ok (.aload_n 0, 1) := by decide +kernel
theorem dX11_trim_20 : decode cX11_trim 20 = .ok (.getfield 89, 3) := by decide +kernel
theorem dX11_trim_23 : decode cX11_trim 23 = .ok (.invokevirtual 235, 3) := by decide +kernel
theorem dX11_trim_26 : decode cX11_trim 26 = .ok (.istore_n 2, 1) := by decide +kernel
theorem dX11_trim_27 : decode cX11_trim 27 = .ok (.iload_n 1, 1) := by decide +kernel
theorem dX11_trim_28 : decode cX11_trim 28 = .ok (.iconst (-1), 1) := by decide +kernel
theorem dX11_trim_29 : decode cX11_trim 29 = .ok (.if_icmp .ne 7, 3) := by decide +kernel
theorem dX11_trim_32 : decode cX11_trim 32 = .ok (.iload_n 2, 1) := by decide +kernel
theorem dX11_trim_33 : decode cX11_trim 33 = .ok (.goto 12, 3) := by decide +kernel
theorem dX11_trim_36 : decode cX11_trim 36 = .ok (.aload_n 0, 1) := by decide +kernel
theorem dX11_trim_37 : decode cX11_trim 37 = .ok (.getfield 89, 3) := by decide +kernel
theorem dX11_trim_40 : decode cX11_trim 40 = .ok (.getfield 238, 3) := by decide +kernel
theorem dX11_trim_43 : decode cX11_trim 43 = .ok (.iload_n 1, 1) := by decide +kernel
theorem dX11_trim_44 : decode cX11_trim 44 = .ok (.iaload, 1) := by decide +kernel
theorem dX11_trim_45 : decode cX11_trim 45 = .ok (.ireturn, 1) := by decide +kernel
theorem fl_RX11_238 : FL RX11 238 1 2 := ⟨inG (i := 429) (by decide +kernel) (by decide +kernel), by decide, by decide⟩
theorem lk_RX11_235 : Cond.methodLink RX11 235 yX1_plan ∈ tG := inG (i := 1121) (by decide +kernel) (by decide +kernel)
theorem m_X1_plan : MV Y_X1_plan 0 1 := ⟨⟨inG (i := 1124) (by decide +kernel) (by decide +kernel), inG (i := 108) (by decide +kernel) (by decide +kernel), by decide, by decide, by decide, by decide +kernel⟩, inG (i := 1122) (by decide +kernel) (by decide +kernel), inG (i := 1123) (by decide +kernel) (by decide +kernel), by decide⟩
def P_X11_trim_J19 (x1 : Int)  (Q : Int → St → Prop) (σ : St) : Prop :=
  P_X1_plan σ (fun r_2 σ_1 => (if x1 = (-1) then Q r_2 σ_1 else 0 ≤ x1 ∧ x1 < 6 ∧ Q (σ_1 202 0 x1) σ_1))
set_option maxRecDepth 20000 in
set_option maxHeartbeats 2000000 in
theorem e_P_X11_trim_J19 {x1 : Int}  {Q : Int → St → Prop} {σ : St}  (h : P_X11_trim_J19 x1 Q σ) : E Y_X11_trim 2 0 0 (QI Q) ww 0 0 19 [some (vR 11 0), some (vI x1), none] [] σ := by
  unfold P_X11_trim_J19 at h
  refine E_aload_n dX11_trim_19 rfl rfl ?_
  refine E_getr (i := 0) dX11_trim_20 fl_RX11_89 rfl rfl (go_11_12 _ _) ?_
  refine E_callV (Y' := Y_X1_plan) (as := []) (st := []) dX11_trim_23 lk_RX11_235 m_X1_plan (by decide) (Nat.le_refl _) (Nat.le_refl _) rfl rfl (Nat.le_of_ble_eq_true rfl) (s_X1_plan h) (fun r0 B0 σ_1 h => ?_)
  obtain ⟨r_2, rfl, rfl, h⟩ := h
  refine E_istore_n (ls' := [some (vR 11 0), some (vI x1), some (vI r_2)]) dX11_trim_26 rfl (by decide) rfl ?_
  refine E_iload_n dX11_trim_27 rfl rfl ?_
  refine E_ic dX11_trim_28 rfl ?_
  refine E_icmp_ne (tgt := 36) dX11_trim_29 (by decide) (fun hc => ?_) (fun hc => ?_)
  · have h := Eq.mp (if_neg hc) h
    refine E_aload_n dX11_trim_36 rfl rfl ?_
    refine E_getr (i := 0) dX11_trim_37 fl_RX11_89 rfl rfl (go_11_12 _ _) ?_
    refine E_getr (i := 0) dX11_trim_40 fl_RX11_238 rfl rfl (go_1_2 _ _) ?_
    refine E_iload_n dX11_trim_43 rfl rfl ?_
    obtain ⟨hg0, hg1, h⟩ := h
    refine E_iald dX11_trim_44 sh_202 hg0 hg1 ?_
    exact E_iret dX11_trim_45 rfl ⟨_, rfl, rfl, h⟩
  · have h := Eq.mp (if_pos hc) h
    refine E_iload_n dX11_trim_32 rfl rfl ?_
    refine E_goto (tgt := 45) dX11_trim_33 (by decide) ?_
    exact E_iret dX11_trim_45 rfl ⟨_, rfl, rfl, h⟩
def P_X11_trim (x1 : Int) (σ : St) (Q : Int → St → Prop) : Prop :=
  (if x1 = (-1) then P_X11_trim_J19 x1 Q σ else P_X8_hasCounter 0 x1 σ (fun r_4 σ_3 => (if r_4 = 0 then Q (-2) σ_3 else P_X11_trim_J19 x1 Q σ_3)))
set_option maxRecDepth 20000 in
set_option maxHeartbeats 2000000 in
theorem s_X11_trim {x1 : Int} {σ : St} {Q : Int → St → Prop} (h : P_X11_trim x1 σ Q) : Cn Y_X11_trim 2 0 0 ww σ [vR 11 0, vI x1] (QI Q) := by
  refine Cn_of [some (vR 11 0), some (vI x1), none] (by decide) (Nat.le_of_ble_eq_true rfl) rfl ?_
  unfold P_X11_trim at h
  refine E_iload_n dX11_trim_0 rfl rfl ?_
  refine E_ic dX11_trim_1 rfl ?_
  refine E_icmp_eq (tgt := 19) dX11_trim_2 (by decide) (fun hc => ?_) (fun hc => ?_)
  · have h := Eq.mp (if_pos hc) h
    exact e_P_X11_trim_J19 h
  · have h := Eq.mp (if_neg hc) h
    refine E_aload_n dX11_trim_5 rfl rfl ?_
    refine E_getr (i := 0) dX11_trim_6 fl_RX11_19 rfl rfl (go_11_1 _ _) ?_
    refine E_iload_n dX11_trim_9 rfl rfl ?_
    refine E_callV (Y' := Y_X8_hasCounter) (as := [vI x1]) (st := []) dX11_trim_10 lk_RX11_128 m_X8_hasCounter (by decide) (Nat.le_refl _) (Nat.le_refl _) rfl rfl (Nat.le_of_ble_eq_true rfl) (s_X8_hasCounter h) (fun r0 B0 σ_3 h => ?_)
    obtain ⟨r_4, rfl, rfl, h⟩ := h
    refine E_if_ne (tgt := 19) dX11_trim_13 (by decide) (fun hc => ?_) (fun hc => ?_)
    · have h := Eq.mp (if_neg hc) h
      exact e_P_X11_trim_J19 h
    · have h := Eq.mp (if_pos hc) h
      refine E_bp dX11_trim_16 rfl ?_
      exact E_iret dX11_trim_18 rfl ⟨_, rfl, rfl, h⟩
abbrev Y_X11_swap : My := (yX11_swap, cX11_swap, 1, some .int)
theorem dX11_swap_0 : decode cX11_swap 0 = .ok (.aload_n 0, 1) := by decide +kernel
theorem dX11_swap_1 : decode cX11_swap 1 = .ok (.getfield 89, 3) := by decide +kernel
theorem dX11_swap_4 : decode cX11_swap 4 = .ok (.invokevirtual 241, 3) := by decide +kernel
theorem dX11_swap_7 : decode cX11_swap 7 = .ok (.ireturn, 1) := by decide +kernel
theorem lk_RX11_241 : Cond.methodLink RX11 241 yX1_bestExchange ∈ tG := inG (i := 1138) (by decide +kernel) (by decide +kernel)
theorem m_X1_bestExchange : MV Y_X1_bestExchange 0 1 := ⟨⟨inG (i := 1141) (by decide +kernel) (by decide +kernel), inG (i := 108) (by decide +kernel) (by decide +kernel), by decide, by decide, by decide, by decide +kernel⟩, inG (i := 1139) (by decide +kernel) (by decide +kernel), inG (i := 1140) (by decide +kernel) (by decide +kernel), by decide⟩
def P_X11_swap  (σ : St) (Q : Int → St → Prop) : Prop :=
  P_X1_bestExchange σ (fun r_2 σ_1 => Q r_2 σ_1)
set_option maxRecDepth 20000 in
set_option maxHeartbeats 2000000 in
theorem s_X11_swap  {σ : St} {Q : Int → St → Prop} (h : P_X11_swap  σ Q) : Cn Y_X11_swap 3 0 0 ww σ [vR 11 0] (QI Q) := by
  refine Cn_of [some (vR 11 0)] (by decide) (Nat.le_of_ble_eq_true rfl) rfl ?_
  unfold P_X11_swap at h
  refine E_aload_n dX11_swap_0 rfl rfl ?_
  refine E_getr (i := 0) dX11_swap_1 fl_RX11_89 rfl rfl (go_11_12 _ _) ?_
  refine E_callV (Y' := Y_X1_bestExchange) (as := []) (st := []) dX11_swap_4 lk_RX11_241 m_X1_bestExchange (by decide) (Nat.le_refl _) (Nat.le_refl _) rfl rfl (Nat.le_of_ble_eq_true rfl) (s_X1_bestExchange h) (fun r0 B0 σ_1 h => ?_)
  obtain ⟨r_2, rfl, rfl, h⟩ := h
  exact E_iret dX11_swap_7 rfl ⟨_, rfl, rfl, h⟩
abbrev Y_X11_back : My := (yX11_back, cX11_back, 2, some .int)
theorem dX11_back_0 : decode cX11_back 0 = .ok (.aload_n 0, 1) := by decide +kernel
theorem dX11_back_1 : decode cX11_back 1 = .ok (.getfield 19, 3) := by decide +kernel
theorem dX11_back_4 : decode cX11_back 4 = .ok (.iload_n 1, 1) := by decide +kernel
theorem dX11_back_5 : decode cX11_back 5 = .ok (.invokevirtual 142, 3) := by decide +kernel
theorem dX11_back_8 : decode cX11_back 8 = .ok (.ifCond .ne 5, 3) := by decide +kernel
theorem dX11_back_11 : decode cX11_back 11 = .ok (.iconst (-1), 1) := by decide +kernel
theorem dX11_back_12 : decode cX11_back 12 = .ok (.ireturn, 1) := by decide +kernel
theorem dX11_back_13 : decode cX11_back 13 = .ok (.aload_n 0, 1) := by decide +kernel
theorem dX11_back_14 : decode cX11_back 14 = .ok (.getfield 54, 3) := by decide +kernel
theorem dX11_back_17 : decode cX11_back 17 = .ok (.aload_n 0, 1) := by decide +kernel
theorem dX11_back_18 : decode cX11_back 18 = .ok (.getfield 50, 3) := by decide +kernel
theorem dX11_back_21 : decode cX11_back 21 = .ok (.invokevirtual 244, 3) := by decide +kernel
theorem dX11_back_24 : decode cX11_back 24 = .ok (.aload_n 0, 1) := by decide +kernel
theorem dX11_back_25 : decode cX11_back 25 = .ok (.getfield 54, 3) := by decide +kernel
theorem dX11_back_28 : decode cX11_back 28 = .ok (.iload_n 1, 1) := by decide +kernel
theorem dX11_back_29 : decode cX11_back 29 = .ok (.invokevirtual 246, 3) := by decide +kernel
theorem dX11_back_32 : decode cX11_back 32 = .ok (.ireturn, 1) := by decide +kernel
theorem fl_RX11_54 : FL RX11 54 11 7 := ⟨inG (i := 481) (by decide +kernel) (by decide +kernel), by decide, by decide⟩
theorem go_11_7 (σ : St) (i : Nat) : go σ 11 i 7 = (9, 1) := rfl
theorem lk_RX11_244 : Cond.methodLink RX11 244 yX9_take ∈ tG := inG (i := 1151) (by decide +kernel) (by decide +kernel)
theorem lk_RX11_246 : Cond.methodLink RX11 246 yX9_passTillRests ∈ tG := inG (i := 1152) (by decide +kernel) (by decide +kernel)
theorem m_X9_passTillRests : MV Y_X9_passTillRests 1 9 := ⟨⟨inG (i := 1155) (by decide +kernel) (by decide +kernel), inG (i := 104) (by decide +kernel) (by decide +kernel), by decide, by decide, by decide, by decide +kernel⟩, inG (i := 1153) (by decide +kernel) (by decide +kernel), inG (i := 1154) (by decide +kernel) (by decide +kernel), by decide⟩
def P_X11_back (x1 : Int) (σ : St) (Q : Int → St → Prop) : Prop :=
  P_X8_hasBall 0 x1 σ (fun r_2 σ_1 => (if r_2 = 0 then Q (-1) σ_1 else P_X9_take 1 0 σ_1 (fun σ_3 => P_X9_passTillRests 1 x1 σ_3 (fun r_5 σ_4 => Q r_5 σ_4))))
set_option maxRecDepth 20000 in
set_option maxHeartbeats 2000000 in
theorem s_X11_back {x1 : Int} {σ : St} {Q : Int → St → Prop} (h : P_X11_back x1 σ Q) : Cn Y_X11_back 5 0 0 ww σ [vR 11 0, vI x1] (QI Q) := by
  refine Cn_of [some (vR 11 0), some (vI x1)] (by decide) (Nat.le_of_ble_eq_true rfl) rfl ?_
  unfold P_X11_back at h
  refine E_aload_n dX11_back_0 rfl rfl ?_
  refine E_getr (i := 0) dX11_back_1 fl_RX11_19 rfl rfl (go_11_1 _ _) ?_
  refine E_iload_n dX11_back_4 rfl rfl ?_
  refine E_callV (Y' := Y_X8_hasBall) (as := [vI x1]) (st := []) dX11_back_5 lk_RX11_142 m_X8_hasBall (by decide) (Nat.le_refl _) (Nat.le_refl _) rfl rfl (Nat.le_of_ble_eq_true rfl) (s_X8_hasBall h) (fun r0 B0 σ_1 h => ?_)
  obtain ⟨r_2, rfl, rfl, h⟩ := h
  refine E_if_ne (tgt := 13) dX11_back_8 (by decide) (fun hc => ?_) (fun hc => ?_)
  · have h := Eq.mp (if_neg hc) h
    refine E_aload_n dX11_back_13 rfl rfl ?_
    refine E_getr (i := 0) dX11_back_14 fl_RX11_54 rfl rfl (go_11_7 _ _) ?_
    refine E_aload_n dX11_back_17 rfl rfl ?_
    refine E_getr (i := 0) dX11_back_18 fl_RX11_50 rfl rfl (go_11_6 _ _) ?_
    refine E_callV (Y' := Y_X9_take) (as := [vR 9 0]) (st := []) dX11_back_21 lk_RX11_244 m_X9_take (by decide) (Nat.le_refl _) (Nat.le_refl _) rfl rfl (Nat.le_of_ble_eq_true rfl) (s_X9_take h) (fun r0 B0 σ_3 h => ?_)
    obtain ⟨rfl, rfl, h⟩ := h
    refine E_aload_n dX11_back_24 rfl rfl ?_
    refine E_getr (i := 0) dX11_back_25 fl_RX11_54 rfl rfl (go_11_7 _ _) ?_
    refine E_iload_n dX11_back_28 rfl rfl ?_
    refine E_callV (Y' := Y_X9_passTillRests) (as := [vI x1]) (st := []) dX11_back_29 lk_RX11_246 m_X9_passTillRests (by decide) (Nat.le_refl _) (Nat.le_refl _) rfl rfl (Nat.le_of_ble_eq_true rfl) (s_X9_passTillRests h) (fun r0 B0 σ_4 h => ?_)
    obtain ⟨r_5, rfl, rfl, h⟩ := h
    exact E_iret dX11_back_32 rfl ⟨_, rfl, rfl, h⟩
  · have h := Eq.mp (if_pos hc) h
    refine E_ic dX11_back_11 rfl ?_
    exact E_iret dX11_back_12 rfl ⟨_, rfl, rfl, h⟩
abbrev Y_X11_trip : My := (yX11_trip, cX11_trip, 2, some .int)
theorem dX11_trip_0 : decode cX11_trip 0 = .ok (.aload_n 0, 1) := by decide +kernel
theorem dX11_trip_1 : decode cX11_trip 1 = .ok (.getfield 50, 3) := by decide +kernel
theorem dX11_trip_4 : decode cX11_trip 4 = .ok (.iload_n 1, 1) := by decide +kernel
theorem dX11_trip_5 : decode cX11_trip 5 = .ok (.invokevirtual 163, 3) := by decide +kernel
theorem dX11_trip_8 : decode cX11_trip 8 = .ok (.ifCond .ne 5, 3) := by decide +kernel
theorem dX11_trip_11 : decode cX11_trip 11 = .ok (.iconst (-1), 1) := by decide +kernel
theorem dX11_trip_12 : decode cX11_trip 12 = .ok (.ireturn, 1) := by decide +kernel
theorem dX11_trip_13 : decode cX11_trip 13 = .ok (.aload_n 0, 1) := by decide +kernel
theorem dX11_trip_14 : decode cX11_trip 14 = .ok (.getfield 54, 3) := by decide +kernel
theorem dX11_trip_17 : decode cX11_trip 17 = .ok (.aload_n 0, 1) := by decide +kernel
theorem dX11_trip_18 : decode cX11_trip 18 = .ok (.getfield 50, 3) := by decide +kernel
theorem dX11_trip_21 : decode cX11_trip 21 = .ok (.invokevirtual 244, 3) := by decide +kernel
theorem dX11_trip_24 : decode cX11_trip 24 = .ok (.aload_n 0, 1) := by decide +kernel
theorem dX11_trip_25 : decode cX11_trip 25 = .ok (.getfield 54, 3) := by decide +kernel
theorem dX11_trip_28 : decode cX11_trip 28 = .ok (.iload_n 1, 1) := by decide +kernel
theorem dX11_trip_29 : decode cX11_trip 29 = .ok (.invokevirtual 170, 3) := by decide +kernel
theorem dX11_trip_32 : decode cX11_trip 32 = .ok (.pop, 1) := by decide +kernel
theorem dX11_trip_33 : decode cX11_trip 33 = .ok (.aload_n 0, 1) := by decide +kernel
theorem dX11_trip_34 : decode cX11_trip 34 = .ok (.getfield 54, 3) := by decide +kernel
theorem dX11_trip_37 : decode cX11_trip 37 = .ok (.iload_n 1, 1) := by decide +kernel
theorem dX11_trip_38 : decode cX11_trip 38 = .ok (.invokevirtual 246, 3) := by decide +kernel
theorem dX11_trip_41 : decode cX11_trip 41 = .ok (.ireturn, 1) := by decide +kernel
def P_X11_trip (x1 : Int) (σ : St) (Q : Int → St → Prop) : Prop :=
  P_X9_canSend 0 x1 σ (fun r_2 σ_1 => (if r_2 = 0 then Q (-1) σ_1 else P_X9_take 1 0 σ_1 (fun σ_3 => P_X9_sendOff 1 x1 σ_3 (fun r_5 σ_4 => P_X9_passTillRests 1 x1 σ_4 (fun r_7 σ_6 => Q r_7 σ_6)))))
set_option maxRecDepth 20000 in
set_option maxHeartbeats 2000000 in
theorem s_X11_trip {x1 : Int} {σ : St} {Q : Int → St → Prop} (h : P_X11_trip x1 σ Q) : Cn Y_X11_trip 5 0 0 ww σ [vR 11 0, vI x1] (QI Q) := by
  refine Cn_of [some (vR 11 0), some (vI x1)] (by decide) (Nat.le_of_ble_eq_true rfl) rfl ?_
  unfold P_X11_trip at h
  refine E_aload_n dX11_trip_0 rfl rfl ?_
  refine E_getr (i := 0) dX11_trip_1 fl_RX11_50 rfl rfl (go_11_6 _ _) ?_
  refine E_iload_n dX11_trip_4 rfl rfl ?_
  refine E_callV (Y' := Y_X9_canSend) (as := [vI x1]) (st := []) dX11_trip_5 lk_RX11_163 m_X9_canSend (by decide) (Nat.le_refl _) (Nat.le_refl _) rfl rfl (Nat.le_of_ble_eq_true rfl) (s_X9_canSend h) (fun r0 B0 σ_1 h => ?_)
  obtain ⟨r_2, rfl, rfl, h⟩ := h
  refine E_if_ne (tgt := 13) dX11_trip_8 (by decide) (fun hc => ?_) (fun hc => ?_)
  · have h := Eq.mp (if_neg hc) h
    refine E_aload_n dX11_trip_13 rfl rfl ?_
    refine E_getr (i := 0) dX11_trip_14 fl_RX11_54 rfl rfl (go_11_7 _ _) ?_
    refine E_aload_n dX11_trip_17 rfl rfl ?_
    refine E_getr (i := 0) dX11_trip_18 fl_RX11_50 rfl rfl (go_11_6 _ _) ?_
    refine E_callV (Y' := Y_X9_take) (as := [vR 9 0]) (st := []) dX11_trip_21 lk_RX11_244 m_X9_take (by decide) (Nat.le_refl _) (Nat.le_refl _) rfl rfl (Nat.le_of_ble_eq_true rfl) (s_X9_take h) (fun r0 B0 σ_3 h => ?_)
    obtain ⟨rfl, rfl, h⟩ := h
    refine E_aload_n dX11_trip_24 rfl rfl ?_
    refine E_getr (i := 0) dX11_trip_25 fl_RX11_54 rfl rfl (go_11_7 _ _) ?_
    refine E_iload_n dX11_trip_28 rfl rfl ?_
    refine E_callV (Y' := Y_X9_sendOff) (as := [vI x1]) (st := []) dX11_trip_29 lk_RX11_170 m_X9_sendOff (by decide) (Nat.le_refl _) (Nat.le_refl _) rfl rfl (Nat.le_of_ble_eq_true rfl) (s_X9_sendOff h) (fun r0 B0 σ_4 h => ?_)
    obtain ⟨r_5, rfl, rfl, h⟩ := h
    refine E_pop dX11_trip_32 (fun _ q => by cases q) ?_
    refine E_aload_n dX11_trip_33 rfl rfl ?_
    refine E_getr (i := 0) dX11_trip_34 fl_RX11_54 rfl rfl (go_11_7 _ _) ?_
    refine E_iload_n dX11_trip_37 rfl rfl ?_
    refine E_callV (Y' := Y_X9_passTillRests) (as := [vI x1]) (st := []) dX11_trip_38 lk_RX11_246 m_X9_passTillRests (by decide) (Nat.le_refl _) (Nat.le_refl _) rfl rfl (Nat.le_of_ble_eq_true rfl) (s_X9_passTillRests h) (fun r0 B0 σ_6 h => ?_)
    obtain ⟨r_7, rfl, rfl, h⟩ := h
    exact E_iret dX11_trip_41 rfl ⟨_, rfl, rfl, h⟩
  · have h := Eq.mp (if_pos hc) h
    refine E_ic dX11_trip_11 rfl ?_
    exact E_iret dX11_trip_12 rfl ⟨_, rfl, rfl, h⟩
abbrev Y_X11_rest : My := (yX11_rest, cX11_rest, 1, some .int)
theorem dX11_rest_0 : decode cX11_rest 0 = .ok (.aload_n 0, 1) := by decide +kernel
theorem dX11_rest_1 : decode cX11_rest 1 = .ok (.getfield 54, 3) := by decide +kernel
theorem dX11_rest_4 : decode cX11_rest 4 = .ok (.aload_n 0, 1) := by decide +kernel
theorem dX11_rest_5 : decode cX11_rest 5 = .ok (.getfield 50, 3) := by decide +kernel
theorem dX11_rest_8 : decode cX11_rest 8 = .ok (.invokevirtual 244, 3) := by decide +kernel
theorem dX11_rest_11 : decode cX11_rest 11 = .ok (.aload_n 0, 1) := by decide +kernel
theorem dX11_rest_12 : decode cX11_rest 12 = .ok (.getfield 54, 3) := by decide +kernel
theorem dX11_rest_15 : decode cX11_rest 15 = .ok (.invokevirtual 249, 3) := by decide +kernel
theorem dX11_rest_18 : decode cX11_rest 18 = .ok (.ireturn, 1) := by decide +kernel
theorem lk_RX11_249 : Cond.methodLink RX11 249 yX9_passTillAllRest ∈ tG := inG (i := 1164) (by decide +kernel) (by decide +kernel)
def P_X11_rest  (σ : St) (Q : Int → St → Prop) : Prop :=
  P_X9_take 1 0 σ (fun σ_1 => P_X9_passTillAllRest 1 σ_1 (fun r_3 σ_2 => Q r_3 σ_2))
set_option maxRecDepth 20000 in
set_option maxHeartbeats 2000000 in
theorem s_X11_rest  {σ : St} {Q : Int → St → Prop} (h : P_X11_rest  σ Q) : Cn Y_X11_rest 5 0 0 ww σ [vR 11 0] (QI Q) := by
  refine Cn_of [some (vR 11 0)] (by decide) (Nat.le_of_ble_eq_true rfl) rfl ?_
  unfold P_X11_rest at h
  refine E_aload_n dX11_rest_0 rfl rfl ?_
  refine E_getr (i := 0) dX11_rest_1 fl_RX11_54 rfl rfl (go_11_7 _ _) ?_
  refine E_aload_n dX11_rest_4 rfl rfl ?_
  refine E_getr (i := 0) dX11_rest_5 fl_RX11_50 rfl rfl (go_11_6 _ _) ?_
  refine E_callV (Y' := Y_X9_take) (as := [vR 9 0]) (st := []) dX11_rest_8 lk_RX11_244 m_X9_take (by decide) (Nat.le_refl _) (Nat.le_refl _) rfl rfl (Nat.le_of_ble_eq_true rfl) (s_X9_take h) (fun r0 B0 σ_1 h => ?_)
  obtain ⟨rfl, rfl, h⟩ := h
  refine E_aload_n dX11_rest_11 rfl rfl ?_
  refine E_getr (i := 0) dX11_rest_12 fl_RX11_54 rfl rfl (go_11_7 _ _) ?_
  refine E_callV (Y' := Y_X9_passTillAllRest) (as := []) (st := []) dX11_rest_15 lk_RX11_249 m_X9_passTillAllRest (by decide) (Nat.le_refl _) (Nat.le_refl _) rfl rfl (Nat.le_of_ble_eq_true rfl) (s_X9_passTillAllRest h) (fun r0 B0 σ_2 h => ?_)
  obtain ⟨r_3, rfl, rfl, h⟩ := h
  exact E_iret dX11_rest_18 rfl ⟨_, rfl, rfl, h⟩
abbrev Y_X11_last : My := (yX11_last, cX11_last, 5, some .int)
theorem dX11_last_0 : decode cX11_last 0 = .ok (.iconst (-1), 1) := by decide +kernel
theorem dX11_last_1 : decode cX11_last 1 = .ok (.istore_n 1, 1) := by decide +kernel
theorem dX11_last_2 : decode cX11_last 2 = .ok (.iconst 0, 1) := by decide +kernel
theorem dX11_last_3 : decode cX11_last 3 = .ok (.istore_n 2, 1) := by decide +kernel
theorem dX11_last_4 : decode cX11_last 4 = .ok (.iconst 0, 1) := by decide +kernel
theorem dX11_last_5 : decode cX11_last 5 = .ok (.istore_n 3, 1) := by decide +kernel
theorem dX11_last_6 : decode cX11_last 6 = .ok (.iload_n 3, 1) := by decide +kernel
theorem dX11_last_7 : decode cX11_last 7 = .ok (.aload_n 0, 1) := by decide +kernel
theorem dX11_last_8 : decode cX11_last 8 = .ok (.getfield 19, 3) := by decide +kernel
theorem dX11_last_11 : decode cX11_last 11 = .ok (.getfield 258, 3) := by decide +kernel
theorem dX11_last_14 : decode cX11_last 14 = .ok (.if_icmp .ge 41, 3) := by decide +kernel
theorem dX11_last_17 : decode cX11_last 17 = .ok (.aload_n 0, 1) := by decide +kernel
theorem dX11_last_18 : decode cX11_last 18 = .ok (.getfield 54, 3) := by decide +kernel
theorem dX11_last_21 : decode cX11_last 21 = .ok (.aload_n 0, 1) := by decide +kernel
theorem dX11_last_22 : decode cX11_last 22 = .ok (.getfield 50, 3) := by decide +kernel
theorem dX11_last_25 : decode cX11_last 25 = .ok (.invokevirtual 244, 3) := by decide +kernel
theorem dX11_last_28 : decode cX11_last 28 = .ok (.aload_n 0, 1) := by decide +kernel
theorem dX11_last_29 : decode cX11_last 29 = .ok (.getfield 54, 3) := by decide +kernel
theorem dX11_last_32 : decode cX11_last 32 = .ok (.iload_n 3, 1) := by decide +kernel
theorem dX11_last_33 : decode cX11_last 33 = .ok (.invokevirtual 246, 3) := by decide +kernel
theorem dX11_last_36 : decode cX11_last 36 = .ok (.istore 4, 2) := by decide +kernel
theorem dX11_last_38 : decode cX11_last 38 = .ok (.iload 4, 2) := by decide +kernel
theorem dX11_last_40 : decode cX11_last 40 = .ok (.iload_n 2, 1) := by decide +kernel
theorem dX11_last_41 : decode cX11_last 41 = .ok (.if_icmp .le 8, 3) := by decide +kernel
theorem dX11_last_44 : decode cX11_last 44 = .ok (.iload 4, 2) := by decide +kernel
theorem dX11_last_46 : decode cX11_last 46 = .ok (.istore_n 2, 1) := by decide +kernel
theorem dX11_last_47 : decode cX11_last 47 = .ok (.iload_n 3, 1) := by decide +kernel
theorem dX11_last_48 : decode cX11_last 48 = .ok (.istore_n 1, 1) := by decide +kernel
theorem dX11_last_49 : decode cX11_last 49 = .ok (.iinc 3 1, 3) := by decide +kernel
theorem dX11_last_52 : decode cX11_last 52 = .ok (.goto (-46), 3) := by decide +kernel
theorem dX11_last_55 : decode cX11_last 55 = .ok (.iload_n 1, 1) := by decide +kernel
theorem dX11_last_56 : decode cX11_last 56 = .ok (.ireturn, 1) := by decide +kernel
def P_X11_last_L6   (Q : Int → St → Prop) : Nat → Int → Int → Int → St → Prop
  | 0, _, _, _, _ => False
  | n + 1, x1, x2, x3, σ => (if (σ 8 0 11) ≤ x3 then Q x1 σ else P_X9_take 1 0 σ (fun σ_1 => P_X9_passTillRests 1 x3 σ_1 (fun r_3 σ_2 => (if r_3 ≤ x2 then (P_X11_last_L6 Q n) x1 x2 (wi (x3 + 1)) σ_2 else (P_X11_last_L6 Q n) x3 r_3 (wi (x3 + 1)) σ_2))))
set_option maxRecDepth 20000 in
set_option maxHeartbeats 2000000 in
theorem e_P_X11_last_L6   {Q : Int → St → Prop}  : ∀ (n : Nat) (x1 : Int) (x2 : Int) (x3 : Int) (σ : St), P_X11_last_L6 Q n x1 x2 x3 σ → E Y_X11_last 5 0 0 (QI Q) ww 0 0 6 [some (vR 11 0), some (vI x1), some (vI x2), some (vI x3), none] [] σ := by
  intro n
  induction n with
  | zero => intro x1 x2 x3 σ h; exact h.elim
  | succ n hR =>
    intro x1 x2 x3 σ h
    unfold P_X11_last_L6 at h
    refine E_iload_n dX11_last_6 rfl rfl ?_
    refine E_aload_n dX11_last_7 rfl rfl ?_
    refine E_getr (i := 0) dX11_last_8 fl_RX11_19 rfl rfl (go_11_1 _ _) ?_
    refine E_geti (i := 0) dX11_last_11 fl_RX11_258 rfl ?_
    refine E_icmp_ge (tgt := 55) dX11_last_14 (by decide) (fun hc => ?_) (fun hc => ?_)
    · have h := Eq.mp (if_pos hc) h
      refine E_iload_n dX11_last_55 rfl rfl ?_
      exact E_iret dX11_last_56 rfl ⟨_, rfl, rfl, h⟩
    · have h := Eq.mp (if_neg hc) h
      refine E_aload_n dX11_last_17 rfl rfl ?_
      refine E_getr (i := 0) dX11_last_18 fl_RX11_54 rfl rfl (go_11_7 _ _) ?_
      refine E_aload_n dX11_last_21 rfl rfl ?_
      refine E_getr (i := 0) dX11_last_22 fl_RX11_50 rfl rfl (go_11_6 _ _) ?_
      refine E_callV (Y' := Y_X9_take) (as := [vR 9 0]) (st := []) dX11_last_25 lk_RX11_244 m_X9_take (by decide) (Nat.le_refl _) (Nat.le_refl _) rfl rfl (Nat.le_of_ble_eq_true rfl) (s_X9_take h) (fun r0 B0 σ_1 h => ?_)
      obtain ⟨rfl, rfl, h⟩ := h
      refine E_aload_n dX11_last_28 rfl rfl ?_
      refine E_getr (i := 0) dX11_last_29 fl_RX11_54 rfl rfl (go_11_7 _ _) ?_
      refine E_iload_n dX11_last_32 rfl rfl ?_
      refine E_callV (Y' := Y_X9_passTillRests) (as := [vI x3]) (st := []) dX11_last_33 lk_RX11_246 m_X9_passTillRests (by decide) (Nat.le_refl _) (Nat.le_refl _) rfl rfl (Nat.le_of_ble_eq_true rfl) (s_X9_passTillRests h) (fun r0 B0 σ_2 h => ?_)
      obtain ⟨r_3, rfl, rfl, h⟩ := h
      refine E_istore (ls' := [some (vR 11 0), some (vI x1), some (vI x2), some (vI x3), some (vI r_3)]) dX11_last_36 (by decide) rfl ?_
      refine E_iload dX11_last_38 rfl ?_
      refine E_iload_n dX11_last_40 rfl rfl ?_
      refine E_icmp_le (tgt := 49) dX11_last_41 (by decide) (fun hc => ?_) (fun hc => ?_)
      · have h := Eq.mp (if_pos hc) h
        refine E_iinc (ls' := [some (vR 11 0), some (vI x1), some (vI x2), some (vI (wi (x3 + 1))), some (vI r_3)]) dX11_last_49 rfl (by decide) rfl rfl ?_
        refine E_goto (tgt := 6) dX11_last_52 (by decide) ?_
        refine E_wk2 [some (vR 11 0), some (vI x1), some (vI x2), some (vI (wi (x3 + 1))), none] ⟨rfl, ⟨rfl, ⟨rfl, ⟨rfl, trivial⟩⟩⟩⟩ ?_
        exact hR _ _ _ _ h
      · have h := Eq.mp (if_neg hc) h
        refine E_iload dX11_last_44 rfl ?_
        refine E_istore_n (ls' := [some (vR 11 0), some (vI x1), some (vI r_3), some (vI x3), some (vI r_3)]) dX11_last_46 rfl (by decide) rfl ?_
        refine E_iload_n dX11_last_47 rfl rfl ?_
        refine E_istore_n (ls' := [some (vR 11 0), some (vI x3), some (vI r_3), some (vI x3), some (vI r_3)]) dX11_last_48 rfl (by decide) rfl ?_
        refine E_iinc (ls' := [some (vR 11 0), some (vI x3), some (vI r_3), some (vI (wi (x3 + 1))), some (vI r_3)]) dX11_last_49 rfl (by decide) rfl rfl ?_
        refine E_goto (tgt := 6) dX11_last_52 (by decide) ?_
        refine E_wk2 [some (vR 11 0), some (vI x3), some (vI r_3), some (vI (wi (x3 + 1))), none] ⟨rfl, ⟨rfl, ⟨rfl, ⟨rfl, trivial⟩⟩⟩⟩ ?_
        exact hR _ _ _ _ h
def P_X11_last  (σ : St) (Q : Int → St → Prop) : Prop :=
  P_X11_last_L6 Q FU (-1) 0 0 σ
set_option maxRecDepth 20000 in
set_option maxHeartbeats 2000000 in
theorem s_X11_last  {σ : St} {Q : Int → St → Prop} (h : P_X11_last  σ Q) : Cn Y_X11_last 5 0 0 ww σ [vR 11 0] (QI Q) := by
  refine Cn_of [some (vR 11 0), none, none, none, none] (by decide) (Nat.le_of_ble_eq_true rfl) rfl ?_
  unfold P_X11_last at h
  refine E_ic dX11_last_0 rfl ?_
  refine E_istore_n (ls' := [some (vR 11 0), some (vI (-1)), none, none, none]) dX11_last_1 rfl (by decide) rfl ?_
  refine E_ic dX11_last_2 rfl ?_
  refine E_istore_n (ls' := [some (vR 11 0), some (vI (-1)), some (vI 0), none, none]) dX11_last_3 rfl (by decide) rfl ?_
  refine E_ic dX11_last_4 rfl ?_
  refine E_istore_n (ls' := [some (vR 11 0), some (vI (-1)), some (vI 0), some (vI 0), none]) dX11_last_5 rfl (by decide) rfl ?_
  refine e_P_X11_last_L6  _ _ _ _ _ h
abbrev Y_X11_see : My := (yX11_see, cX11_see, 4, some .boolean)
theorem dX11_see_0 : decode cX11_see 0 = .ok (.aload_n 0, 1) := by decide +kernel
theorem dX11_see_1 : decode cX11_see 1 = .ok (.getfield 19, 3) := by decide +kernel
theorem dX11_see_4 : decode cX11_see 4 = .ok (.iload_n 1, 1) := by decide +kernel
theorem dX11_see_5 : decode cX11_see 5 = .ok (.invokevirtual 128, 3) := by decide +kernel
theorem dX11_see_8 : decode cX11_see 8 = .ok (.ifCond .eq 13, 3) := by decide +kernel
theorem dX11_see_11 : decode cX11_see 11 = .ok (.iload_n 2, 1) := by decide +kernel
theorem dX11_see_12 : decode cX11_see 12 = .ok (.iconst 0, 1) := by decide +kernel
theorem dX11_see_13 : decode cX11_see 13 = .ok (.bipush 30, 2) := by decide +kernel
theorem dX11_see_15 : decode cX11_see 15 = .ok (.invokestatic 197, 3) := by decide +kernel
theorem dX11_see_18 : decode cX11_see 18 = .ok (.ifCond .ne 5, 3) := by decide +kernel
theorem dX11_see_21 : decode cX11_see 21 = .ok (.iconst 0, 1) := by decide +kernel
theorem dX11_see_22 : decode cX11_see 22 = .ok (.ireturn, 1) := by decide +kernel
theorem dX11_see_23 : decode cX11_see 23 = .ok (.aload_n 0, 1) := by decide +kernel
theorem dX11_see_24 : decode cX11_see 24 = .ok (.getfield 67, 3) := by decide +kernel
theorem dX11_see_27 : decode cX11_see 27 = .ok (.iload_n 1, 1) := by decide +kernel
theorem dX11_see_28 : decode cX11_see 28 = .ok (.iload_n 2, 1) := by decide +kernel
theorem dX11_see_29 : decode cX11_see 29 = .ok (.iload_n 3, 1) := by decide +kernel
theorem dX11_see_30 : decode cX11_see 30 = .ok (.invokevirtual 275, 3) := by decide +kernel
theorem dX11_see_33 : decode cX11_see 33 = .ok (.ireturn, 1) := by decide +kernel
theorem lk_RX11_275 : Cond.methodLink RX11 275 yX7_note ∈ tG := inG (i := 1225) (by decide +kernel) (by decide +kernel)
theorem m_X7_note : MV Y_X7_note 3 7 := ⟨⟨inG (i := 1228) (by decide +kernel) (by decide +kernel), inG (i := 106) (by decide +kernel) (by decide +kernel), by decide, by decide, by decide, by decide +kernel⟩, inG (i := 1226) (by decide +kernel) (by decide +kernel), inG (i := 1227) (by decide +kernel) (by decide +kernel), by decide⟩
def P_X11_see (x1 : Int) (x2 : Int) (x3 : Int) (σ : St) (Q : Int → St → Prop) : Prop :=
  P_X8_hasCounter 0 x1 σ (fun r_2 σ_1 => (if r_2 = 0 then Q 0 σ_1 else P_X11_within x2 0 30 σ_1 (fun r_4 σ_3 => (if r_4 = 0 then Q 0 σ_3 else P_X7_note 0 x1 x2 x3 σ_3 (fun r_6 σ_5 => (r_6 = 0 ∨ r_6 = 1) ∧ Q r_6 σ_5)))))
set_option maxRecDepth 20000 in
set_option maxHeartbeats 2000000 in
theorem s_X11_see {x1 : Int} {x2 : Int} {x3 : Int} {σ : St} {Q : Int → St → Prop} (h : P_X11_see x1 x2 x3 σ Q) : Cn Y_X11_see 1 0 0 ww σ [vR 11 0, vI x1, vI x2, vI x3] (QI Q) := by
  refine Cn_of [some (vR 11 0), some (vI x1), some (vI x2), some (vI x3)] (by decide) (Nat.le_of_ble_eq_true rfl) rfl ?_
  unfold P_X11_see at h
  refine E_aload_n dX11_see_0 rfl rfl ?_
  refine E_getr (i := 0) dX11_see_1 fl_RX11_19 rfl rfl (go_11_1 _ _) ?_
  refine E_iload_n dX11_see_4 rfl rfl ?_
  refine E_callV (Y' := Y_X8_hasCounter) (as := [vI x1]) (st := []) dX11_see_5 lk_RX11_128 m_X8_hasCounter (by decide) (Nat.le_refl _) (Nat.le_refl _) rfl rfl (Nat.le_of_ble_eq_true rfl) (s_X8_hasCounter h) (fun r0 B0 σ_1 h => ?_)
  obtain ⟨r_2, rfl, rfl, h⟩ := h
  refine E_if_eq (tgt := 21) dX11_see_8 (by decide) (fun hc => ?_) (fun hc => ?_)
  · have h := Eq.mp (if_pos hc) h
    refine E_ic dX11_see_21 rfl ?_
    exact E_zret dX11_see_22 rfl (by decide) ⟨_, rfl, rfl, h⟩
  · have h := Eq.mp (if_neg hc) h
    refine E_iload_n dX11_see_11 rfl rfl ?_
    refine E_ic dX11_see_12 rfl ?_
    refine E_bp dX11_see_13 rfl ?_
    refine E_callS (Y' := Y_X11_within) (as := [vI x2, vI 0, vI 30]) (st := []) dX11_see_15 lk_RX11_197 m_X11_within (by decide) (Nat.le_refl _) (Nat.le_refl _) rfl rfl (Nat.le_of_ble_eq_true rfl) (s_X11_within h) (fun r0 B0 σ_3 h => ?_)
    obtain ⟨r_4, rfl, rfl, h⟩ := h
    refine E_if_ne (tgt := 23) dX11_see_18 (by decide) (fun hc => ?_) (fun hc => ?_)
    · have h := Eq.mp (if_neg hc) h
      refine E_aload_n dX11_see_23 rfl rfl ?_
      refine E_getr (i := 0) dX11_see_24 fl_RX11_67 rfl rfl (go_11_9 _ _) ?_
      refine E_iload_n dX11_see_27 rfl rfl ?_
      refine E_iload_n dX11_see_28 rfl rfl ?_
      refine E_iload_n dX11_see_29 rfl rfl ?_
      refine E_callV (Y' := Y_X7_note) (as := [vI x1, vI x2, vI x3]) (st := []) dX11_see_30 lk_RX11_275 m_X7_note (by decide) (Nat.le_refl _) (Nat.le_refl _) rfl rfl (Nat.le_of_ble_eq_true rfl) (s_X7_note h) (fun r0 B0 σ_5 h => ?_)
      obtain ⟨r_6, rfl, rfl, h⟩ := h
      obtain ⟨hg0, h⟩ := h
      exact E_zret dX11_see_33 rfl hg0 ⟨_, rfl, rfl, h⟩
    · have h := Eq.mp (if_pos hc) h
      refine E_ic dX11_see_21 rfl ?_
      exact E_zret dX11_see_22 rfl (by decide) ⟨_, rfl, rfl, h⟩
abbrev Y_X11_weeks : My := (yX11_weeks, cX11_weeks, 4, some .int)
theorem dX11_weeks_0 : decode cX11_weeks 0 = .ok (.iload_n 1, 1) := by decide +kernel
theorem dX11_weeks_1 : decode cX11_weeks 1 = .ok (.iconst 0, 1) := by decide +kernel
theorem dX11_weeks_2 : decode cX11_weeks 2 = .ok (.sipush 9999, 3) := by decide +kernel
theorem dX11_weeks_5 : decode cX11_weeks 5 = .ok (.invokestatic 197, 3) := by decide +kernel
theorem dX11_weeks_8 : decode cX11_weeks 8 = .ok (.ifCond .eq 22, 3) := by decide +kernel
theorem dX11_weeks_11 : decode cX11_weeks 11 = .ok (.iload_n 2, 1) := by decide +kernel
theorem dX11_weeks_12 : decode cX11_weeks 12 = .ok (.iconst 1, 1) := by decide +kernel
theorem dX11_weeks_13 : decode cX11_weeks 13 = .ok (.bipush 99, 2) := by decide +kernel
theorem dX11_weeks_15 : decode cX11_weeks 15 = .ok (.invokestatic 197, 3) := by decide +kernel
theorem dX11_weeks_18 : decode cX11_weeks 18 = .ok (.ifCond .eq 12, 3) := by decide +kernel
theorem dX11_weeks_21 : decode cX11_weeks 21 = .ok (.iload_n 3, 1) := by decide +kernel
theorem dX11_weeks_22 : decode cX11_weeks 22 = .ok (.iconst 0, 1) := by decide +kernel
theorem dX11_weeks_23 : decode cX11_weeks 23 = .ok (.iconst 2, 1) := by decide +kernel
theorem dX11_weeks_24 : decode cX11_weeks 24 = .ok (.invokestatic 197, 3) := by decide +kernel
theorem dX11_weeks_27 : decode cX11_weeks 27 = .ok (.ifCond .ne 5, 3) := by decide +kernel
theorem dX11_weeks_30 : decode cX11_weeks 30 = .ok (.iconst (-1), 1) := by decide +kernel
theorem dX11_weeks_31 : decode cX11_weeks 31 = .ok (.ireturn, 1) := by decide +kernel
theorem dX11_weeks_32 : decode cX11_weeks 32 = .ok (.aload_n 0, 1) := by decide +kernel
theorem dX11_weeks_33 : decode cX11_weeks 33 = .ok (.getfield 54, 3) := by decide +kernel
theorem dX11_weeks_36 : decode cX11_weeks 36 = .ok (.aload_n 0, 1) := by decide +kernel
theorem dX11_weeks_37 : decode cX11_weeks 37 = .ok (.getfield 50, 3) := by decide +kernel
theorem dX11_weeks_40 : decode cX11_weeks 40 = .ok (.invokevirtual 244, 3) := by decide +kernel
theorem dX11_weeks_43 : decode cX11_weeks 43 = .ok (.aload_n 0, 1) := by decide +kernel
theorem dX11_weeks_44 : decode cX11_weeks 44 = .ok (.getfield 54, 3) := by decide +kernel
theorem dX11_weeks_47 : decode cX11_weeks 47 = .ok (.iconst 0, 1) := by decide +kernel
theorem dX11_weeks_48 : decode cX11_weeks 48 = .ok (.putfield 297, 3) := by decide +kernel
theorem dX11_weeks_51 : decode cX11_weeks 51 = .ok (.aload_n 0, 1) := by decide +kernel
theorem dX11_weeks_52 : decode cX11_weeks 52 = .ok (.getfield 54, 3) := by decide +kernel
theorem dX11_weeks_55 : decode cX11_weeks 55 = .ok (.iload_n 1, 1) := by decide +kernel
theorem dX11_weeks_56 : decode cX11_weeks 56 = .ok (.iload_n 2, 1) := by decide +kernel
theorem dX11_weeks_57 : decode cX11_weeks 57 = .ok (.invokevirtual 300, 3) := by decide +kernel
theorem dX11_weeks_60 : decode cX11_weeks 60 = .ok (.iload_n 3, 1) := by decide +kernel
theorem dX11_weeks_61 : decode cX11_weeks 61 = .ok (.lookupswitch 43 #[(0, 27), (1, 35)], 27) := by decide +kernel
theorem dX11_weeks_88 : decode cX11_weeks 88 = .ok (.aload_n 0, 1) := by decide +kernel
theorem dX11_weeks_89 : decode cX11_weeks 89 = .ok (.getfield 54, 3) := by decide +kernel
theorem dX11_weeks_92 : decode cX11_weeks 92 = .ok (.getfield 297, 3) := by decide +kernel
theorem dX11_weeks_95 : decode cX11_weeks 95 = .ok (.ireturn, 1) := by decide +kernel
theorem dX11_weeks_96 : decode cX11_weeks 96 = .ok (.aload_n 0, 1) := by decide +kernel
theorem dX11_weeks_97 : decode cX11_weeks 97 = .ok (.getfield 54, 3) := by decide +kernel
theorem dX11_weeks_100 : decode cX11_weeks 100 = .ok (.invokevirtual 205, 3) := by decide +kernel
theorem dX11_weeks_103 : decode cX11_weeks 103 = .ok (.ireturn, 1) := by decide +kernel
theorem dX11_weeks_104 : decode cX11_weeks 104 = .ok (.aload_n 0, 1) := by decide +kernel
theorem dX11_weeks_105 : decode cX11_weeks 105 = .ok (.getfield 54, 3) := by decide +kernel
theorem dX11_weeks_108 : decode cX11_weeks 108 = .ok (.invokevirtual 303, 3) := by decide +kernel
theorem dX11_weeks_111 : decode cX11_weeks 111 = .ok (.ireturn, 1) := by decide +kernel
theorem fl_RX11_297 : FL RX11 297 9 12 := ⟨inG (i := 331) (by decide +kernel) (by decide +kernel), by decide, by decide⟩
theorem lk_RX11_300 : Cond.methodLink RX11 300 yX9_passByDraws ∈ tG := inG (i := 1273) (by decide +kernel) (by decide +kernel)
theorem lk_RX11_303 : Cond.methodLink RX11 303 yX9_allSizes ∈ tG := inG (i := 1287) (by decide +kernel) (by decide +kernel)
theorem m_X9_allSizes : MV Y_X9_allSizes 0 9 := ⟨⟨inG (i := 1290) (by decide +kernel) (by decide +kernel), inG (i := 104) (by decide +kernel) (by decide +kernel), by decide, by decide, by decide, by decide +kernel⟩, inG (i := 1288) (by decide +kernel) (by decide +kernel), inG (i := 1289) (by decide +kernel) (by decide +kernel), by decide⟩
theorem m_X9_passByDraws : MV Y_X9_passByDraws 2 9 := ⟨⟨inG (i := 1276) (by decide +kernel) (by decide +kernel), inG (i := 104) (by decide +kernel) (by decide +kernel), by decide, by decide, by decide, by decide +kernel⟩, inG (i := 1274) (by decide +kernel) (by decide +kernel), inG (i := 1275) (by decide +kernel) (by decide +kernel), by decide⟩
def P_X11_weeks (x1 : Int) (x2 : Int) (x3 : Int) (σ : St) (Q : Int → St → Prop) : Prop :=
  P_X11_within x1 0 9999 σ (fun r_2 σ_1 => (if r_2 = 0 then Q (-1) σ_1 else P_X11_within x2 1 99 σ_1 (fun r_4 σ_3 => (if r_4 = 0 then Q (-1) σ_3 else P_X11_within x3 0 2 σ_3 (fun r_6 σ_5 => (if r_6 = 0 then Q (-1) σ_5 else P_X9_take 1 0 σ_5 (fun σ_7 => P_X9_passByDraws 1 x1 x2 (up σ_7 9 1 12 0) (fun σ_8 => (if x3 = 0 then Q (σ_8 9 1 12) σ_8 else if x3 = 1 then P_X9_astray 1 σ_8 (fun r_10 σ_9 => Q r_10 σ_9) else P_X9_allSizes 1 σ_8 (fun r_12 σ_11 => Q r_12 σ_11))))))))))
set_option maxRecDepth 20000 in
set_option maxHeartbeats 2000000 in
theorem s_X11_weeks {x1 : Int} {x2 : Int} {x3 : Int} {σ : St} {Q : Int → St → Prop} (h : P_X11_weeks x1 x2 x3 σ Q) : Cn Y_X11_weeks 7 0 0 ww σ [vR 11 0, vI x1, vI x2, vI x3] (QI Q) := by
  refine Cn_of [some (vR 11 0), some (vI x1), some (vI x2), some (vI x3)] (by decide) (Nat.le_of_ble_eq_true rfl) rfl ?_
  unfold P_X11_weeks at h
  refine E_iload_n dX11_weeks_0 rfl rfl ?_
  refine E_ic dX11_weeks_1 rfl ?_
  refine E_sp dX11_weeks_2 rfl ?_
  refine E_callS (Y' := Y_X11_within) (as := [vI x1, vI 0, vI 9999]) (st := []) dX11_weeks_5 lk_RX11_197 m_X11_within (by decide) (Nat.le_refl _) (Nat.le_refl _) rfl rfl (Nat.le_of_ble_eq_true rfl) (s_X11_within h) (fun r0 B0 σ_1 h => ?_)
  obtain ⟨r_2, rfl, rfl, h⟩ := h
  refine E_if_eq (tgt := 30) dX11_weeks_8 (by decide) (fun hc => ?_) (fun hc => ?_)
  · have h := Eq.mp (if_pos hc) h
    refine E_ic dX11_weeks_30 rfl ?_
    exact E_iret dX11_weeks_31 rfl ⟨_, rfl, rfl, h⟩
  · have h := Eq.mp (if_neg hc) h
    refine E_iload_n dX11_weeks_11 rfl rfl ?_
    refine E_ic dX11_weeks_12 rfl ?_
    refine E_bp dX11_weeks_13 rfl ?_
    refine E_callS (Y' := Y_X11_within) (as := [vI x2, vI 1, vI 99]) (st := []) dX11_weeks_15 lk_RX11_197 m_X11_within (by decide) (Nat.le_refl _) (Nat.le_refl _) rfl rfl (Nat.le_of_ble_eq_true rfl) (s_X11_within h) (fun r0 B0 σ_3 h => ?_)
    obtain ⟨r_4, rfl, rfl, h⟩ := h
    refine E_if_eq (tgt := 30) dX11_weeks_18 (by decide) (fun hc => ?_) (fun hc => ?_)
    · have h := Eq.mp (if_pos hc) h
      refine E_ic dX11_weeks_30 rfl ?_
      exact E_iret dX11_weeks_31 rfl ⟨_, rfl, rfl, h⟩
    · have h := Eq.mp (if_neg hc) h
      refine E_iload_n dX11_weeks_21 rfl rfl ?_
      refine E_ic dX11_weeks_22 rfl ?_
      refine E_ic dX11_weeks_23 rfl ?_
      refine E_callS (Y' := Y_X11_within) (as := [vI x3, vI 0, vI 2]) (st := []) dX11_weeks_24 lk_RX11_197 m_X11_within (by decide) (Nat.le_refl _) (Nat.le_refl _) rfl rfl (Nat.le_of_ble_eq_true rfl) (s_X11_within h) (fun r0 B0 σ_5 h => ?_)
      obtain ⟨r_6, rfl, rfl, h⟩ := h
      refine E_if_ne (tgt := 32) dX11_weeks_27 (by decide) (fun hc => ?_) (fun hc => ?_)
      · have h := Eq.mp (if_neg hc) h
        refine E_aload_n dX11_weeks_32 rfl rfl ?_
        refine E_getr (i := 0) dX11_weeks_33 fl_RX11_54 rfl rfl (go_11_7 _ _) ?_
        refine E_aload_n dX11_weeks_36 rfl rfl ?_
        refine E_getr (i := 0) dX11_weeks_37 fl_RX11_50 rfl rfl (go_11_6 _ _) ?_
        refine E_callV (Y' := Y_X9_take) (as := [vR 9 0]) (st := []) dX11_weeks_40 lk_RX11_244 m_X9_take (by decide) (Nat.le_refl _) (Nat.le_refl _) rfl rfl (Nat.le_of_ble_eq_true rfl) (s_X9_take h) (fun r0 B0 σ_7 h => ?_)
        obtain ⟨rfl, rfl, h⟩ := h
        refine E_aload_n dX11_weeks_43 rfl rfl ?_
        refine E_getr (i := 0) dX11_weeks_44 fl_RX11_54 rfl rfl (go_11_7 _ _) ?_
        refine E_ic dX11_weeks_47 rfl ?_
        refine E_puti dX11_weeks_48 fl_RX11_297 rfl rfl rfl ?_
        refine E_aload_n dX11_weeks_51 rfl rfl ?_
        refine E_getr (i := 0) dX11_weeks_52 fl_RX11_54 rfl rfl (go_11_7 _ _) ?_
        refine E_iload_n dX11_weeks_55 rfl rfl ?_
        refine E_iload_n dX11_weeks_56 rfl rfl ?_
        refine E_callV (Y' := Y_X9_passByDraws) (as := [vI x1, vI x2]) (st := []) dX11_weeks_57 lk_RX11_300 m_X9_passByDraws (by decide) (Nat.le_refl _) (Nat.le_refl _) rfl rfl (Nat.le_of_ble_eq_true rfl) (s_X9_passByDraws h) (fun r0 B0 σ_8 h => ?_)
        obtain ⟨rfl, rfl, h⟩ := h
        refine E_iload_n dX11_weeks_60 rfl rfl ?_
        by_cases hc : x3 = 0
        · have h := Eq.mp (if_pos hc) h
          refine E_lookup (off := 27) (tgt := 88) dX11_weeks_61 rfl (by rw [hc]; rfl) (by decide) ?_
          refine E_aload_n dX11_weeks_88 rfl rfl ?_
          refine E_getr (i := 0) dX11_weeks_89 fl_RX11_54 rfl rfl (go_11_7 _ _) ?_
          refine E_geti (i := 1) dX11_weeks_92 fl_RX11_297 rfl ?_
          exact E_iret dX11_weeks_95 rfl ⟨_, rfl, rfl, h⟩
        have h := Eq.mp (if_neg hc) h
        have hc0 := hc
        clear hc
        by_cases hc : x3 = 1
        · have h := Eq.mp (if_pos hc) h
          refine E_lookup (off := 35) (tgt := 96) dX11_weeks_61 rfl (by rw [hc]; rfl) (by decide) ?_
          refine E_aload_n dX11_weeks_96 rfl rfl ?_
          refine E_getr (i := 0) dX11_weeks_97 fl_RX11_54 rfl rfl (go_11_7 _ _) ?_
          refine E_callV (Y' := Y_X9_astray) (as := []) (st := []) dX11_weeks_100 lk_RX11_205 m_X9_astray (by decide) (Nat.le_refl _) (Nat.le_refl _) rfl rfl (Nat.le_of_ble_eq_true rfl) (s_X9_astray h) (fun r0 B0 σ_9 h => ?_)
          obtain ⟨r_10, rfl, rfl, h⟩ := h
          exact E_iret dX11_weeks_103 rfl ⟨_, rfl, rfl, h⟩
        have h := Eq.mp (if_neg hc) h
        have hc1 := hc
        clear hc
        refine E_lookup (off := 43) (tgt := 104) dX11_weeks_61 rfl (by simp [Op.lookupswitch.offset, hc0, hc1]) (by decide) ?_
        refine E_aload_n dX11_weeks_104 rfl rfl ?_
        refine E_getr (i := 0) dX11_weeks_105 fl_RX11_54 rfl rfl (go_11_7 _ _) ?_
        refine E_callV (Y' := Y_X9_allSizes) (as := []) (st := []) dX11_weeks_108 lk_RX11_303 m_X9_allSizes (by decide) (Nat.le_refl _) (Nat.le_refl _) rfl rfl (Nat.le_of_ble_eq_true rfl) (s_X9_allSizes h) (fun r0 B0 σ_11 h => ?_)
        obtain ⟨r_12, rfl, rfl, h⟩ := h
        exact E_iret dX11_weeks_111 rfl ⟨_, rfl, rfl, h⟩
      · have h := Eq.mp (if_pos hc) h
        refine E_ic dX11_weeks_30 rfl ?_
        exact E_iret dX11_weeks_31 rfl ⟨_, rfl, rfl, h⟩
abbrev Y_X11_mark : My := (yX11_mark, cX11_mark, 3, some .boolean)
theorem dX11_mark_0 : decode cX11_mark 0 = .ok (.iload_n 1, 1) := by decide +kernel
theorem dX11_mark_1 : decode cX11_mark 1 = .ok (.iconst 0, 1) := by decide +kernel
theorem dX11_mark_2 : decode cX11_mark 2 = .ok (.iconst 3, 1) := by decide +kernel
theorem dX11_mark_3 : decode cX11_mark 3 = .ok (.invokestatic 197, 3) := by decide +kernel
theorem dX11_mark_6 : decode cX11_mark 6 = .ok (.ifCond .ne 5, 3) := by decide +kernel
theorem dX11_mark_9 : decode cX11_mark 9 = .ok (.iconst 0, 1) := by decide +kernel
theorem dX11_mark_10 : decode cX11_mark 10 = .ok (.ireturn, 1) := by decide +kernel
theorem dX11_mark_11 : decode cX11_mark 11 = .ok (.iload_n 2, 1) := by decide +kernel
theorem dX11_mark_12 : decode cX11_mark 12 = .ok (.ifCond .ne 26, 3) := by decide +kernel
theorem dX11_mark_15 : decode cX11_mark 15 = .ok (.aload_n 0, 1) := by decide +kernel
theorem dX11_mark_16 : decode cX11_mark 16 = .ok (.getfield 73, 3) := by decide +kernel
theorem dX11_mark_19 : decode cX11_mark 19 = .ok (.iload_n 1, 1) := by decide +kernel
theorem dX11_mark_20 : decode cX11_mark 20 = .ok (.aaload, 1) := by decide +kernel
theorem dX11_mark_21 : decode cX11_mark 21 = .ok (.aload_n 0, 1) := by decide +kernel
theorem dX11_mark_22 : decode cX11_mark 22 = .ok (.getfield 50, 3) := by decide +kernel
theorem dX11_mark_25 : decode cX11_mark 25 = .ok (.aload_n 0, 1) := by decide +kernel
theorem dX11_mark_26 : decode cX11_mark 26 = .ok (.getfield 29, 3) := by decide +kernel
theorem dX11_mark_29 : decode cX11_mark 29 = .ok (.aload_n 0, 1) := by decide +kernel
theorem dX11_mark_30 : decode cX11_mark 30 = .ok (.getfield 67, 3) := by decide +kernel
theorem dX11_mark_33 : decode cX11_mark 33 = .ok (.invokevirtual 306, 3) := by decide +kernel
theorem dX11_mark_36 : decode cX11_mark 36 = .ok (.iconst 1, 1) := by decide +kernel
theorem dX11_mark_37 : decode cX11_mark 37 = .ok (.ireturn, 1) := by decide +kernel
theorem dX11_mark_38 : decode cX11_mark 38 = .ok (.aload_n 0, 1) := by decide +kernel
theorem dX11_mark_39 : decode cX11_mark 39 = .ok (.getfield 73, 3) := by decide +kernel
theorem dX11_mark_42 : decode cX11_mark 42 = .ok (.iload_n 1, 1) := by decide +kernel
theorem dX11_mark_43 : decode cX11_mark 43 = .ok (.aaload, 1) := by decide +kernel
theorem dX11_mark_44 : decode cX11_mark 44 = .ok (.getfield 117, 3) := by decide +kernel
theorem dX11_mark_47 : decode cX11_mark 47 = .ok (.ifCond .ne 5, 3) := by decide +kernel
theorem dX11_mark_50 : decode cX11_mark 50 = .ok (.iconst 0, 1) := by decide +kernel
theorem dX11_mark_51 : decode cX11_mark 51 = .ok (.ireturn, 1) := by decide +kernel
theorem dX11_mark_52 : decode cX11_mark 52 = .ok (.aload_n 0, 1) := by decide +kernel
theorem dX11_mark_53 : decode cX11_mark 53 = .ok (.getfield 73, 3) := by decide +kernel
theorem dX11_mark_56 : decode cX11_mark 56 = .ok (.iload_n 1, 1) := by decide +kernel
theorem dX11_mark_57 : decode cX11_mark 57 = .ok (.aaload, 1) := by decide +kernel
theorem dX11_mark_58 : decode cX11_mark 58 = .ok (.aload_n 0, 1) := by decide +kernel
theorem dX11_mark_59 : decode cX11_mark 59 = .ok (.getfield 50, 3) := by decide +kernel
theorem dX11_mark_62 : decode cX11_mark 62 = .ok (.aload_n 0, 1) := by decide +kernel
theorem dX11_mark_63 : decode cX11_mark 63 = .ok (.getfield 29, 3) := by decide +kernel
theorem dX11_mark_66 : decode cX11_mark 66 = .ok (.aload_n 0, 1) := by decide +kernel
theorem dX11_mark_67 : decode cX11_mark 67 = .ok (.getfield 67, 3) := by decide +kernel
theorem dX11_mark_70 : decode cX11_mark 70 = .ok (.invokevirtual 310, 3) := by decide +kernel
theorem dX11_mark_73 : decode cX11_mark 73 = .ok (.aload_n 0, 1) := by decide +kernel
theorem dX11_mark_74 : decode cX11_mark 74 = .ok (.getfield 60, 3) := by decide +kernel
theorem dX11_mark_77 : decode cX11_mark 77 = .ok (.iconst 0, 1) := by decide +kernel
theorem dX11_mark_78 : decode cX11_mark 78 = .ok (.putfield 116, 3) := by decide +kernel
theorem dX11_mark_81 : decode cX11_mark 81 = .ok (.iconst 1, 1) := by decide +kernel
theorem dX11_mark_82 : decode cX11_mark 82 = .ok (.ireturn, 1) := by decide +kernel
theorem fl_RX11_117 : FL RX11 117 4 3 := ⟨inG (i := 464) (by decide +kernel) (by decide +kernel), by decide, by decide⟩
theorem fl_RX11_73 : FL RX11 73 11 10 := ⟨inG (i := 484) (by decide +kernel) (by decide +kernel), by decide, by decide⟩
theorem go_11_10 (σ : St) (i : Nat) : go σ 11 i 10 = (1210, i) := rfl
theorem lk_RX11_306 : Cond.methodLink RX11 306 yX4_lay ∈ tG := inG (i := 1295) (by decide +kernel) (by decide +kernel)
theorem lk_RX11_310 : Cond.methodLink RX11 310 yX4_goBack ∈ tG := inG (i := 1305) (by decide +kernel) (by decide +kernel)
theorem m_X4_goBack : MV Y_X4_goBack 3 4 := ⟨⟨inG (i := 1308) (by decide +kernel) (by decide +kernel), inG (i := 109) (by decide +kernel) (by decide +kernel), by decide, by decide, by decide, by decide +kernel⟩, inG (i := 1306) (by decide +kernel) (by decide +kernel), inG (i := 1307) (by decide +kernel) (by decide +kernel), by decide⟩
theorem m_X4_lay : MV Y_X4_lay 3 4 := ⟨⟨inG (i := 1298) (by decide +kernel) (by decide +kernel), inG (i := 109) (by decide +kernel) (by decide +kernel), by decide, by decide, by decide, by decide +kernel⟩, inG (i := 1296) (by decide +kernel) (by decide +kernel), inG (i := 1297) (by decide +kernel) (by decide +kernel), by decide⟩
theorem sh_1210 : shp 1210 = (5, 4) := rfl
def P_X11_mark (x1 : Int) (x2 : Int) (σ : St) (Q : Int → St → Prop) : Prop :=
  P_X11_within x1 0 3 σ (fun r_2 σ_1 => (if r_2 = 0 then Q 0 σ_1 else (if x2 = 0 then 0 ≤ x1 ∧ x1 < 4 ∧ P_X4_lay x1.toNat 0 0 0 σ_1 (fun σ_4 => Q 1 σ_4) else 0 ≤ x1 ∧ x1 < 4 ∧ (if (σ_1 4 x1.toNat 3) = 0 then Q 0 σ_1 else 0 ≤ x1 ∧ x1 < 4 ∧ P_X4_goBack x1.toNat 0 0 0 σ_1 (fun σ_3 => Q 1 (up σ_3 5 0 1 0))))))
set_option maxRecDepth 20000 in
set_option maxHeartbeats 2000000 in
theorem s_X11_mark {x1 : Int} {x2 : Int} {σ : St} {Q : Int → St → Prop} (h : P_X11_mark x1 x2 σ Q) : Cn Y_X11_mark 3 0 0 ww σ [vR 11 0, vI x1, vI x2] (QI Q) := by
  refine Cn_of [some (vR 11 0), some (vI x1), some (vI x2)] (by decide) (Nat.le_of_ble_eq_true rfl) rfl ?_
  unfold P_X11_mark at h
  refine E_iload_n dX11_mark_0 rfl rfl ?_
  refine E_ic dX11_mark_1 rfl ?_
  refine E_ic dX11_mark_2 rfl ?_
  refine E_callS (Y' := Y_X11_within) (as := [vI x1, vI 0, vI 3]) (st := []) dX11_mark_3 lk_RX11_197 m_X11_within (by decide) (Nat.le_refl _) (Nat.le_refl _) rfl rfl (Nat.le_of_ble_eq_true rfl) (s_X11_within h) (fun r0 B0 σ_1 h => ?_)
  obtain ⟨r_2, rfl, rfl, h⟩ := h
  refine E_if_ne (tgt := 11) dX11_mark_6 (by decide) (fun hc => ?_) (fun hc => ?_)
  · have h := Eq.mp (if_neg hc) h
    refine E_iload_n dX11_mark_11 rfl rfl ?_
    refine E_if_ne (tgt := 38) dX11_mark_12 (by decide) (fun hc => ?_) (fun hc => ?_)
    · have h := Eq.mp (if_neg hc) h
      refine E_aload_n dX11_mark_38 rfl rfl ?_
      refine E_getr (i := 0) dX11_mark_39 fl_RX11_73 rfl rfl (go_11_10 _ _) ?_
      refine E_iload_n dX11_mark_42 rfl rfl ?_
      obtain ⟨hg0, hg1, h⟩ := h
      refine E_aald dX11_mark_43 sh_1210 (by decide) (by decide) hg0 hg1 rfl rfl ?_
      refine E_geti (i := x1.toNat) dX11_mark_44 fl_RX11_117 rfl ?_
      refine E_if_ne (tgt := 52) dX11_mark_47 (by decide) (fun hc => ?_) (fun hc => ?_)
      · have h := Eq.mp (if_neg hc) h
        refine E_aload_n dX11_mark_52 rfl rfl ?_
        refine E_getr (i := 0) dX11_mark_53 fl_RX11_73 rfl rfl (go_11_10 _ _) ?_
        refine E_iload_n dX11_mark_56 rfl rfl ?_
        obtain ⟨hg0, hg1, h⟩ := h
        refine E_aald dX11_mark_57 sh_1210 (by decide) (by decide) hg0 hg1 rfl rfl ?_
        refine E_aload_n dX11_mark_58 rfl rfl ?_
        refine E_getr (i := 0) dX11_mark_59 fl_RX11_50 rfl rfl (go_11_6 _ _) ?_
        refine E_aload_n dX11_mark_62 rfl rfl ?_
        refine E_getr (i := 0) dX11_mark_63 fl_RX11_29 rfl rfl (go_11_3 _ _) ?_
        refine E_aload_n dX11_mark_66 rfl rfl ?_
        refine E_getr (i := 0) dX11_mark_67 fl_RX11_67 rfl rfl (go_11_9 _ _) ?_
        refine E_callV (Y' := Y_X4_goBack) (as := [vR 9 0, vR 3 0, vR 7 0]) (st := []) dX11_mark_70 lk_RX11_310 m_X4_goBack (by decide) (Nat.le_refl _) (Nat.le_refl _) rfl rfl (Nat.le_of_ble_eq_true rfl) (s_X4_goBack h) (fun r0 B0 σ_3 h => ?_)
        obtain ⟨rfl, rfl, h⟩ := h
        refine E_aload_n dX11_mark_73 rfl rfl ?_
        refine E_getr (i := 0) dX11_mark_74 fl_RX11_60 rfl rfl (go_11_8 _ _) ?_
        refine E_ic dX11_mark_77 rfl ?_
        refine E_puti dX11_mark_78 fl_RX11_116 rfl rfl rfl ?_
        refine E_ic dX11_mark_81 rfl ?_
        exact E_zret dX11_mark_82 rfl (by decide) ⟨_, rfl, rfl, h⟩
      · have h := Eq.mp (if_pos hc) h
        refine E_ic dX11_mark_50 rfl ?_
        exact E_zret dX11_mark_51 rfl (by decide) ⟨_, rfl, rfl, h⟩
    · have h := Eq.mp (if_pos hc) h
      refine E_aload_n dX11_mark_15 rfl rfl ?_
      refine E_getr (i := 0) dX11_mark_16 fl_RX11_73 rfl rfl (go_11_10 _ _) ?_
      refine E_iload_n dX11_mark_19 rfl rfl ?_
      obtain ⟨hg0, hg1, h⟩ := h
      refine E_aald dX11_mark_20 sh_1210 (by decide) (by decide) hg0 hg1 rfl rfl ?_
      refine E_aload_n dX11_mark_21 rfl rfl ?_
      refine E_getr (i := 0) dX11_mark_22 fl_RX11_50 rfl rfl (go_11_6 _ _) ?_
      refine E_aload_n dX11_mark_25 rfl rfl ?_
      refine E_getr (i := 0) dX11_mark_26 fl_RX11_29 rfl rfl (go_11_3 _ _) ?_
      refine E_aload_n dX11_mark_29 rfl rfl ?_
      refine E_getr (i := 0) dX11_mark_30 fl_RX11_67 rfl rfl (go_11_9 _ _) ?_
      refine E_callV (Y' := Y_X4_lay) (as := [vR 9 0, vR 3 0, vR 7 0]) (st := []) dX11_mark_33 lk_RX11_306 m_X4_lay (by decide) (Nat.le_refl _) (Nat.le_refl _) rfl rfl (Nat.le_of_ble_eq_true rfl) (s_X4_lay h) (fun r0 B0 σ_4 h => ?_)
      obtain ⟨rfl, rfl, h⟩ := h
      refine E_ic dX11_mark_36 rfl ?_
      exact E_zret dX11_mark_37 rfl (by decide) ⟨_, rfl, rfl, h⟩
  · have h := Eq.mp (if_pos hc) h
    refine E_ic dX11_mark_9 rfl ?_
    exact E_zret dX11_mark_10 rfl (by decide) ⟨_, rfl, rfl, h⟩
abbrev Y_X11_isRest : My := (yX11_isRest, cX11_isRest, 6, some .boolean)
theorem dX11_isRest_0 : decode cX11_isRest 0 = .ok (.iload_n 0, 1) := by decide +kernel
theorem dX11_isRest_1 : decode cX11_isRest 1 = .ok (.iconst 1, 1) := by decide +kernel
theorem dX11_isRest_2 : decode cX11_isRest 2 = .ok (.ishr, 1) := by decide +kernel
theorem dX11_isRest_3 : decode cX11_isRest 3 = .ok (.istore 4, 2) := by decide +kernel
theorem dX11_isRest_5 : decode cX11_isRest 5 = .ok (.iload_n 0, 1) := by decide +kernel
theorem dX11_isRest_6 : decode cX11_isRest 6 = .ok (.iconst 1, 1) := by decide +kernel
theorem dX11_isRest_7 : decode cX11_isRest 7 = .ok (.iand, 1) := by decide +kernel
theorem dX11_isRest_8 : decode cX11_isRest 8 = .ok (.istore 5, 2) := by decide +kernel
theorem dX11_isRest_10 : decode cX11_isRest 10 = .ok (.iload 4, 2) := by decide +kernel
theorem dX11_isRest_12 : decode cX11_isRest 12 = .ok (.iload 5, 2) := by decide +kernel
theorem dX11_isRest_14 : decode cX11_isRest 14 = .ok (.iload_n 1, 1) := by decide +kernel
theorem dX11_isRest_15 : decode cX11_isRest 15 = .ok (.iload_n 2, 1) := by decide +kernel
theorem dX11_isRest_16 : decode cX11_isRest 16 = .ok (.iload_n 3, 1) := by decide +kernel
theorem dX11_isRest_17 : decode cX11_isRest 17 = .ok (.invokestatic 336, 3) := by decide +kernel
theorem dX11_isRest_20 : decode cX11_isRest 20 = .ok (.iconst 1, 1) := by decide +kernel
theorem dX11_isRest_21 : decode cX11_isRest 21 = .ok (.iload 4, 2) := by decide +kernel
theorem dX11_isRest_23 : decode cX11_isRest 23 = .ok (.isub, 1) := by decide +kernel
theorem dX11_isRest_24 : decode cX11_isRest 24 = .ok (.iload 5, 2) := by decide +kernel
theorem dX11_isRest_26 : decode cX11_isRest 26 = .ok (.iload_n 1, 1) := by decide +kernel
theorem dX11_isRest_27 : decode cX11_isRest 27 = .ok (.iload_n 2, 1) := by decide +kernel
theorem dX11_isRest_28 : decode cX11_isRest 28 = .ok (.iload_n 3, 1) := by decide +kernel
theorem dX11_isRest_29 : decode cX11_isRest 29 = .ok (.invokestatic 336, 3) := by decide +kernel
theorem dX11_isRest_32 : decode cX11_isRest 32 = .ok (.if_icmp .lt 32, 3) := by decide +kernel
theorem dX11_isRest_35 : decode cX11_isRest 35 = .ok (.iload 5, 2) := by decide +kernel
theorem dX11_isRest_37 : decode cX11_isRest 37 = .ok (.iload 4, 2) := by decide +kernel
theorem dX11_isRest_39 : decode cX11_isRest 39 = .ok (.iload_n 1, 1) := by decide +kernel
theorem dX11_isRest_40 : decode cX11_isRest 40 = .ok (.iload_n 2, 1) := by decide +kernel
theorem dX11_isRest_41 : decode cX11_isRest 41 = .ok (.iload_n 3, 1) := by decide +kernel
theorem dX11_isRest_42 : decode cX11_isRest 42 = .ok (.invokestatic 336, 3) := by decide +kernel
theorem dX11_isRest_45 : decode cX11_isRest 45 = .ok (.iconst 1, 1) := by decide +kernel
theorem dX11_isRest_46 : decode cX11_isRest 46 = .ok (.iload 5, 2) := by decide +kernel
theorem dX11_isRest_48 : decode cX11_isRest 48 = .ok (.isub, 1) := by decide +kernel
theorem dX11_isRest_49 : decode cX11_isRest 49 = .ok (.iload 4, 2) := by decide +kernel
theorem dX11_isRest_51 : decode cX11_isRest 51 = .ok (.iload_n 1, 1) := by decide +kernel
theorem dX11_isRest_52 : decode cX11_isRest 52 = .ok (.iload_n 2, 1) := by decide +kernel
theorem dX11_isRest_53 : decode cX11_isRest 53 = .ok (.iload_n 3, 1) := by decide +kernel
theorem dX11_isRest_54 : decode cX11_isRest 54 = .ok (.invokestatic 336, 3) := by decide +kernel
theorem dX11_isRest_57 : decode cX11_isRest 57 = .ok (.if_icmp .lt 7, 3) := by decide +kernel
theorem dX11_isRest_60 : decode cX11_isRest 60 = .ok (.iconst 1, 1) := by decide +kernel
theorem dX11_isRest_61 : decode cX11_isRest 61 = .ok (.goto 4, 3) := by decide +kernel
theorem dX11_isRest_64 : decode cX11_isRest 64 = .ok (.iconst 0, 1) := by decide +kernel
theorem dX11_isRest_65 : decode cX11_isRest 65 = .ok (.ireturn, 1) := by decide +kernel
theorem lk_RX11_336 : Cond.methodLink RX11 336 yX11_gain ∈ tG := inG (i := 1387) (by decide +kernel) (by decide +kernel)
theorem m_X11_gain : MS Y_X11_gain 5 := ⟨⟨inG (i := 1389) (by decide +kernel) (by decide +kernel), inG (i := 98) (by decide +kernel) (by decide +kernel), by decide, by decide, by decide, by decide +kernel⟩, inG (i := 1388) (by decide +kernel) (by decide +kernel)⟩
def P_X11_isRest_J64   (Q : Int → St → Prop) (σ : St) : Prop :=
  Q 0 σ
set_option maxRecDepth 20000 in
set_option maxHeartbeats 2000000 in
theorem e_P_X11_isRest_J64   {Q : Int → St → Prop} {σ : St}  (h : P_X11_isRest_J64  Q σ) : E Y_X11_isRest 1 0 0 (QI Q) ww 0 0 64 [none, none, none, none, none, none] [] σ := by
  unfold P_X11_isRest_J64 at h
  refine E_ic dX11_isRest_64 rfl ?_
  exact E_zret dX11_isRest_65 rfl (by decide) ⟨_, rfl, rfl, h⟩
def P_X11_isRest (x0 : Int) (x1 : Int) (x2 : Int) (x3 : Int) (σ : St) (Q : Int → St → Prop) : Prop :=
  P_X11_gain (bR x0 1) (bA x0 1) x1 x2 x3 σ (fun r_2 σ_1 => P_X11_gain (wi (1 - (bR x0 1))) (bA x0 1) x1 x2 x3 σ_1 (fun r_4 σ_3 => (if r_2 < r_4 then P_X11_isRest_J64 Q σ_3 else P_X11_gain (bA x0 1) (bR x0 1) x1 x2 x3 σ_3 (fun r_6 σ_5 => P_X11_gain (wi (1 - (bA x0 1))) (bR x0 1) x1 x2 x3 σ_5 (fun r_8 σ_7 => (if r_6 < r_8 then P_X11_isRest_J64 Q σ_7 else Q 1 σ_7))))))
set_option maxRecDepth 20000 in
set_option maxHeartbeats 2000000 in
theorem s_X11_isRest {x0 : Int} {x1 : Int} {x2 : Int} {x3 : Int} {σ : St} {Q : Int → St → Prop} (h : P_X11_isRest x0 x1 x2 x3 σ Q) : Cn Y_X11_isRest 1 0 0 ww σ [vI x0, vI x1, vI x2, vI x3] (QI Q) := by
  refine Cn_of [some (vI x0), some (vI x1), some (vI x2), some (vI x3), none, none] (by decide) (Nat.le_of_ble_eq_true rfl) rfl ?_
  unfold P_X11_isRest at h
  refine E_iload_n dX11_isRest_0 rfl rfl ?_
  refine E_ic dX11_isRest_1 rfl ?_
  refine E_ishr dX11_isRest_2 ?_
  refine E_istore (ls' := [some (vI x0), some (vI x1), some (vI x2), some (vI x3), some (vI (bR x0 1)), none]) dX11_isRest_3 (by decide) rfl ?_
  refine E_iload_n dX11_isRest_5 rfl rfl ?_
  refine E_ic dX11_isRest_6 rfl ?_
  refine E_iand dX11_isRest_7 ?_
  refine E_istore (ls' := [some (vI x0), some (vI x1), some (vI x2), some (vI x3), some (vI (bR x0 1)), some (vI (bA x0 1))]) dX11_isRest_8 (by decide) rfl ?_
  refine E_iload dX11_isRest_10 rfl ?_
  refine E_iload dX11_isRest_12 rfl ?_
  refine E_iload_n dX11_isRest_14 rfl rfl ?_
  refine E_iload_n dX11_isRest_15 rfl rfl ?_
  refine E_iload_n dX11_isRest_16 rfl rfl ?_
  refine E_callS (Y' := Y_X11_gain) (as := [vI (bR x0 1), vI (bA x0 1), vI x1, vI x2, vI x3]) (st := []) dX11_isRest_17 lk_RX11_336 m_X11_gain (by decide) (Nat.le_refl _) (Nat.le_refl _) rfl rfl (Nat.le_of_ble_eq_true rfl) (s_X11_gain h) (fun r0 B0 σ_1 h => ?_)
  obtain ⟨r_2, rfl, rfl, h⟩ := h
  refine E_ic dX11_isRest_20 rfl ?_
  refine E_iload dX11_isRest_21 rfl ?_
  refine E_isub dX11_isRest_23 ?_
  refine E_iload dX11_isRest_24 rfl ?_
  refine E_iload_n dX11_isRest_26 rfl rfl ?_
  refine E_iload_n dX11_isRest_27 rfl rfl ?_
  refine E_iload_n dX11_isRest_28 rfl rfl ?_
  refine E_callS (Y' := Y_X11_gain) (as := [vI (wi (1 - (bR x0 1))), vI (bA x0 1), vI x1, vI x2, vI x3]) (st := [vI r_2]) dX11_isRest_29 lk_RX11_336 m_X11_gain (by decide) (Nat.le_refl _) (Nat.le_refl _) rfl rfl (Nat.le_of_ble_eq_true rfl) (s_X11_gain h) (fun r0 B0 σ_3 h => ?_)
  obtain ⟨r_4, rfl, rfl, h⟩ := h
  refine E_icmp_lt (tgt := 64) dX11_isRest_32 (by decide) (fun hc => ?_) (fun hc => ?_)
  · have h := Eq.mp (if_pos hc) h
    refine E_wk2 [none, none, none, none, none, none] trivial ?_
    exact e_P_X11_isRest_J64 h
  · have h := Eq.mp (if_neg hc) h
    refine E_iload dX11_isRest_35 rfl ?_
    refine E_iload dX11_isRest_37 rfl ?_
    refine E_iload_n dX11_isRest_39 rfl rfl ?_
    refine E_iload_n dX11_isRest_40 rfl rfl ?_
    refine E_iload_n dX11_isRest_41 rfl rfl ?_
    refine E_callS (Y' := Y_X11_gain) (as := [vI (bA x0 1), vI (bR x0 1), vI x1, vI x2, vI x3]) (st := []) dX11_isRest_42 lk_RX11_336 m_X11_gain (by decide) (Nat.le_refl _) (Nat.le_refl _) rfl rfl (Nat.le_of_ble_eq_true rfl) (s_X11_gain h) (fun r0 B0 σ_5 h => ?_)
    obtain ⟨r_6, rfl, rfl, h⟩ := h
    refine E_ic dX11_isRest_45 rfl ?_
    refine E_iload dX11_isRest_46 rfl ?_
    refine E_isub dX11_isRest_48 ?_
    refine E_iload dX11_isRest_49 rfl ?_
    refine E_iload_n dX11_isRest_51 rfl rfl ?_
    refine E_iload_n dX11_isRest_52 rfl rfl ?_
    refine E_iload_n dX11_isRest_53 rfl rfl ?_
    refine E_callS (Y' := Y_X11_gain) (as := [vI (wi (1 - (bA x0 1))), vI (bR x0 1), vI x1, vI x2, vI x3]) (st := [vI r_6]) dX11_isRest_54 lk_RX11_336 m_X11_gain (by decide) (Nat.le_refl _) (Nat.le_refl _) rfl rfl (Nat.le_of_ble_eq_true rfl) (s_X11_gain h) (fun r0 B0 σ_7 h => ?_)
    obtain ⟨r_8, rfl, rfl, h⟩ := h
    refine E_icmp_lt (tgt := 64) dX11_isRest_57 (by decide) (fun hc => ?_) (fun hc => ?_)
    · have h := Eq.mp (if_pos hc) h
      refine E_wk2 [none, none, none, none, none, none] trivial ?_
      exact e_P_X11_isRest_J64 h
    · have h := Eq.mp (if_neg hc) h
      refine E_ic dX11_isRest_60 rfl ?_
      refine E_goto (tgt := 65) dX11_isRest_61 (by decide) ?_
      exact E_zret dX11_isRest_65 rfl (by decide) ⟨_, rfl, rfl, h⟩
abbrev Y_X0_sizeNext : My := (yX0_sizeNext, cX0_sizeNext, 6, some .int)
theorem dX0_sizeNext_0 : decode cX0_sizeNext 0 = .ok (.iload_n 3, 1) := by decide +kernel
theorem dX0_sizeNext_1 : decode cX0_sizeNext 1 = .ok (.ifCond .ne 15, 3) := by decide +kernel
theorem dX0_sizeNext_4 : decode cX0_sizeNext 4 = .ok (.aload_n 0, 1) := by decide +kernel
theorem dX0_sizeNext_5 : decode cX0_sizeNext 5 = .ok (.getfield 20, 3) := by decide +kernel
theorem dX0_sizeNext_8 : decode cX0_sizeNext 8 = .ok (.getfield 43, 3) := by decide +kernel
theorem dX0_sizeNext_11 : decode cX0_sizeNext 11 = .ok (.iload_n 1, 1) := by decide +kernel
theorem dX0_sizeNext_12 : decode cX0_sizeNext 12 = .ok (.iaload, 1) := by decide +kernel
theorem dX0_sizeNext_13 : decode cX0_sizeNext 13 = .ok (.goto 4, 3) := by decide +kernel
theorem dX0_sizeNext_16 : decode cX0_sizeNext 16 = .ok (.iconst 0, 1) := by decide +kernel
theorem dX0_sizeNext_17 : decode cX0_sizeNext 17 = .ok (.istore 5, 2) := by decide +kernel
theorem dX0_sizeNext_19 : decode cX0_sizeNext 19 = .ok (.aload_n 0, 1) := by decide +kernel
theorem dX0_sizeNext_20 : decode cX0_sizeNext 20 = .ok (.getfield 16, 3) := by decide +kernel
theorem dX0_sizeNext_23 : decode cX0_sizeNext 23 = .ok (.iload_n 1, 1) := by decide +kernel
theorem dX0_sizeNext_24 : decode cX0_sizeNext 24 = .ok (.iload_n 2, 1) := by decide +kernel
theorem dX0_sizeNext_25 : decode cX0_sizeNext 25 = .ok (.iload 5, 2) := by decide +kernel
theorem dX0_sizeNext_27 : decode cX0_sizeNext 27 = .ok (.iload 4, 2) := by decide +kernel
theorem dX0_sizeNext_29 : decode cX0_sizeNext 29 = .ok (.aload_n 0, 1) := by decide +kernel
theorem dX0_sizeNext_30 : decode cX0_sizeNext 30 = .ok (.getfield 20, 3) := by decide +kernel
theorem dX0_sizeNext_33 : decode cX0_sizeNext 33 = .ok (.getfield 29, 3) := by decide +kernel
theorem dX0_sizeNext_36 : decode cX0_sizeNext 36 = .ok (.iload_n 3, 1) := by decide +kernel
theorem dX0_sizeNext_37 : decode cX0_sizeNext 37 = .ok (.iadd, 1) := by decide +kernel
theorem dX0_sizeNext_38 : decode cX0_sizeNext 38 = .ok (.invokevirtual 46, 3) := by decide +kernel
theorem dX0_sizeNext_41 : decode cX0_sizeNext 41 = .ok (.ireturn, 1) := by decide +kernel
theorem fl_RX0_29 : FL RX0 29 9 10 := ⟨inG (i := 326) (by decide +kernel) (by decide +kernel), by decide, by decide⟩
theorem fl_RX0_43 : FL RX0 43 9 6 := ⟨inG (i := 318) (by decide +kernel) (by decide +kernel), by decide, by decide⟩
theorem lk_RX0_46 : Cond.methodLink RX0 46 yX8_worn ∈ tG := inG (i := 1186) (by decide +kernel) (by decide +kernel)
def P_X0_sizeNext_J17 (x1 : Int) (x2 : Int) (x3 : Int) (x4 : Int) (y0 : Int)  (Q : Int → St → Prop) (σ : St) : Prop :=
  P_X8_worn 0 x1 x2 y0 x4 (wi ((σ 9 0 10) + x3)) σ (fun r_2 σ_1 => Q r_2 σ_1)
set_option maxRecDepth 20000 in
set_option maxHeartbeats 2000000 in
theorem e_P_X0_sizeNext_J17 {x1 : Int} {x2 : Int} {x3 : Int} {x4 : Int} {y0 : Int}  {Q : Int → St → Prop} {σ : St}  (h : P_X0_sizeNext_J17 x1 x2 x3 x4 y0 Q σ) : E Y_X0_sizeNext 3 0 0 (QI Q) ww 0 0 17 [some (vR 0 0), some (vI x1), some (vI x2), some (vI x3), some (vI x4), none] [vI y0] σ := by
  unfold P_X0_sizeNext_J17 at h
  refine E_istore (ls' := [some (vR 0 0), some (vI x1), some (vI x2), some (vI x3), some (vI x4), some (vI y0)]) dX0_sizeNext_17 (by decide) rfl ?_
  refine E_aload_n dX0_sizeNext_19 rfl rfl ?_
  refine E_getr (i := 0) dX0_sizeNext_20 fl_RX0_16 rfl rfl (go_0_0 _ _) ?_
  refine E_iload_n dX0_sizeNext_23 rfl rfl ?_
  refine E_iload_n dX0_sizeNext_24 rfl rfl ?_
  refine E_iload dX0_sizeNext_25 rfl ?_
  refine E_iload dX0_sizeNext_27 rfl ?_
  refine E_aload_n dX0_sizeNext_29 rfl rfl ?_
  refine E_getr (i := 0) dX0_sizeNext_30 fl_RX0_20 rfl rfl (go_0_1 _ _) ?_
  refine E_geti (i := 0) dX0_sizeNext_33 fl_RX0_29 rfl ?_
  refine E_iload_n dX0_sizeNext_36 rfl rfl ?_
  refine E_iadd dX0_sizeNext_37 ?_
  refine E_callV (Y' := Y_X8_worn) (as := [vI x1, vI x2, vI y0, vI x4, vI (wi ((σ 9 0 10) + x3))]) (st := []) dX0_sizeNext_38 lk_RX0_46 m_X8_worn (by decide) (Nat.le_refl _) (Nat.le_refl _) rfl rfl (Nat.le_of_ble_eq_true rfl) (s_X8_worn h) (fun r0 B0 σ_1 h => ?_)
  obtain ⟨r_2, rfl, rfl, h⟩ := h
  exact E_iret dX0_sizeNext_41 rfl ⟨_, rfl, rfl, h⟩
def P_X0_sizeNext (x1 : Int) (x2 : Int) (x3 : Int) (x4 : Int) (σ : St) (Q : Int → St → Prop) : Prop :=
  (if x3 = 0 then 0 ≤ x1 ∧ x1 < 6 ∧ P_X0_sizeNext_J17 x1 x2 x3 x4 (σ 1006 0 x1) Q σ else P_X0_sizeNext_J17 x1 x2 x3 x4 0 Q σ)
set_option maxRecDepth 20000 in
set_option maxHeartbeats 2000000 in
theorem s_X0_sizeNext {x1 : Int} {x2 : Int} {x3 : Int} {x4 : Int} {σ : St} {Q : Int → St → Prop} (h : P_X0_sizeNext x1 x2 x3 x4 σ Q) : Cn Y_X0_sizeNext 3 0 0 ww σ [vR 0 0, vI x1, vI x2, vI x3, vI x4] (QI Q) := by
  refine Cn_of [some (vR 0 0), some (vI x1), some (vI x2), some (vI x3), some (vI x4), none] (by decide) (Nat.le_of_ble_eq_true rfl) rfl ?_
  unfold P_X0_sizeNext at h
  refine E_iload_n dX0_sizeNext_0 rfl rfl ?_
  refine E_if_ne (tgt := 16) dX0_sizeNext_1 (by decide) (fun hc => ?_) (fun hc => ?_)
  · have h := Eq.mp (if_neg hc) h
    refine E_ic dX0_sizeNext_16 rfl ?_
    exact e_P_X0_sizeNext_J17 h
  · have h := Eq.mp (if_pos hc) h
    refine E_aload_n dX0_sizeNext_4 rfl rfl ?_
    refine E_getr (i := 0) dX0_sizeNext_5 fl_RX0_20 rfl rfl (go_0_1 _ _) ?_
    refine E_getr (i := 0) dX0_sizeNext_8 fl_RX0_43 rfl rfl (go_9_6 _ _) ?_
    refine E_iload_n dX0_sizeNext_11 rfl rfl ?_
    obtain ⟨hg0, hg1, h⟩ := h
    refine E_iald dX0_sizeNext_12 sh_1006 hg0 hg1 ?_
    refine E_goto (tgt := 17) dX0_sizeNext_13 (by decide) ?_
    exact e_P_X0_sizeNext_J17 h
abbrev Y_X1_leastChange : My := (yX1_leastChange, cX1_leastChange, 3, some .int)
theorem dX1_leastChange_0 : decode cX1_leastChange 0 = .ok (.iconst 0, 1) := by decide +kernel
theorem dX1_leastChange_1 : decode cX1_leastChange 1 = .ok (.istore_n 2, 1) := by decide +kernel
theorem dX1_leastChange_2 : decode cX1_leastChange 2 = .ok (.iload_n 2, 1) := by decide +kernel
theorem dX1_leastChange_3 : decode cX1_leastChange 3 = .ok (.bipush 60, 2) := by decide +kernel
theorem dX1_leastChange_5 : decode cX1_leastChange 5 = .ok (.if_icmp .ge 49, 3) := by decide +kernel
theorem dX1_leastChange_8 : decode cX1_leastChange 8 = .ok (.aload_n 0, 1) := by decide +kernel
theorem dX1_leastChange_9 : decode cX1_leastChange 9 = .ok (.iload_n 1, 1) := by decide +kernel
theorem dX1_leastChange_10 : decode cX1_leastChange 10 = .ok (.aload_n 0, 1) := by decide +kernel
theorem dX1_leastChange_11 : decode cX1_leastChange 11 = .ok (.getfield 33, 3) := by decide +kernel
theorem dX1_leastChange_14 : decode cX1_leastChange 14 = .ok (.getfield 56, 3) := by decide +kernel
theorem dX1_leastChange_17 : decode cX1_leastChange 17 = .ok (.iload_n 1, 1) := by decide +kernel
theorem dX1_leastChange_18 : decode cX1_leastChange 18 = .ok (.iaload, 1) := by decide +kernel
theorem dX1_leastChange_19 : decode cX1_leastChange 19 = .ok (.iload_n 2, 1) := by decide +kernel
theorem dX1_leastChange_20 : decode cX1_leastChange 20 = .ok (.isub, 1) := by decide +kernel
theorem dX1_leastChange_21 : decode cX1_leastChange 21 = .ok (.invokevirtual 59, 3) := by decide +kernel
theorem dX1_leastChange_24 : decode cX1_leastChange 24 = .ok (.ifCond .ne 22, 3) := by decide +kernel
theorem dX1_leastChange_27 : decode cX1_leastChange 27 = .ok (.aload_n 0, 1) := by decide +kernel
theorem dX1_leastChange_28 : decode cX1_leastChange 28 = .ok (.iload_n 1, 1) := by decide +kernel
theorem dX1_leastChange_29 : decode cX1_leastChange 29 = .ok (.aload_n 0, 1) := by decide +kernel
theorem dX1_leastChange_30 : decode cX1_leastChange 30 = .ok (.getfield 33, 3) := by decide +kernel
theorem dX1_leastChange_33 : decode cX1_leastChange 33 = .ok (.getfield 56, 3) := by decide +kernel
theorem dX1_leastChange_36 : decode cX1_leastChange 36 = .ok (.iload_n 1, 1) := by decide +kernel
theorem dX1_leastChange_37 : decode cX1_leastChange 37 = .ok (.iaload, 1) := by decide +kernel
theorem dX1_leastChange_38 : decode cX1_leastChange 38 = .ok (.iload_n 2, 1) := by decide +kernel
theorem dX1_leastChange_39 : decode cX1_leastChange 39 = .ok (.iadd, 1) := by decide +kernel
theorem dX1_leastChange_40 : decode cX1_leastChange 40 = .ok (.invokevirtual 59, 3) := by decide +kernel
theorem dX1_leastChange_43 : decode cX1_leastChange 43 = .ok (.ifCond .eq 5, 3) := by decide +kernel
theorem dX1_leastChange_46 : decode cX1_leastChange 46 = .ok (.iload_n 2, 1) := by decide +kernel
theorem dX1_leastChange_47 : decode cX1_leastChange 47 = .ok (.ireturn, 1) := by decide +kernel
theorem dX1_leastChange_48 : decode cX1_leastChange 48 = .ok (.iinc 2 1, 3) := by decide +kernel
theorem dX1_leastChange_51 : decode cX1_leastChange 51 = .ok (.goto (-49), 3) := by decide +kernel
theorem dX1_leastChange_54 : decode cX1_leastChange 54 = .ok (.iconst (-1), 1) := by decide +kernel
theorem dX1_leastChange_55 : decode cX1_leastChange 55 = .ok (.ireturn, 1) := by decide +kernel
theorem lk_RX1_59 : Cond.methodLink RX1 59 yX1_wouldGoHome ∈ tG := inG (i := 1112) (by decide +kernel) (by decide +kernel)
theorem m_X1_wouldGoHome : MV Y_X1_wouldGoHome 2 1 := ⟨⟨inG (i := 1115) (by decide +kernel) (by decide +kernel), inG (i := 108) (by decide +kernel) (by decide +kernel), by decide, by decide, by decide, by decide +kernel⟩, inG (i := 1114) (by decide +kernel) (by decide +kernel), inG (i := 22) (by decide +kernel) (by decide +kernel), by decide⟩
def P_X1_leastChange_L2 (x1 : Int)  (Q : Int → St → Prop) : Nat → Int → St → Prop
  | 0, _, _ => False
  | n + 1, x2, σ => (if 60 ≤ x2 then Q (-1) σ else 0 ≤ x1 ∧ x1 < 6 ∧ P_X1_wouldGoHome x1 (wi ((σ 1002 0 x1) - x2)) σ (fun r_2 σ_1 => (if r_2 = 0 then 0 ≤ x1 ∧ x1 < 6 ∧ P_X1_wouldGoHome x1 (wi ((σ_1 1002 0 x1) + x2)) σ_1 (fun r_4 σ_3 => (if r_4 = 0 then (P_X1_leastChange_L2 x1 Q n) (wi (x2 + 1)) σ_3 else Q x2 σ_3)) else Q x2 σ_1)))
set_option maxRecDepth 20000 in
set_option maxHeartbeats 2000000 in
theorem e_P_X1_leastChange_L2 {x1 : Int}  {Q : Int → St → Prop}  : ∀ (n : Nat) (x2 : Int) (σ : St), P_X1_leastChange_L2 x1 Q n x2 σ → E Y_X1_leastChange 2 0 0 (QI Q) ww 0 0 2 [some (vR 1 0), some (vI x1), some (vI x2)] [] σ := by
  intro n
  induction n with
  | zero => intro x2 σ h; exact h.elim
  | succ n hR =>
    intro x2 σ h
    unfold P_X1_leastChange_L2 at h
    refine E_iload_n dX1_leastChange_2 rfl rfl ?_
    refine E_bp dX1_leastChange_3 rfl ?_
    refine E_icmp_ge (tgt := 54) dX1_leastChange_5 (by decide) (fun hc => ?_) (fun hc => ?_)
    · have h := Eq.mp (if_pos hc) h
      refine E_ic dX1_leastChange_54 rfl ?_
      exact E_iret dX1_leastChange_55 rfl ⟨_, rfl, rfl, h⟩
    · have h := Eq.mp (if_neg hc) h
      refine E_aload_n dX1_leastChange_8 rfl rfl ?_
      refine E_iload_n dX1_leastChange_9 rfl rfl ?_
      refine E_aload_n dX1_leastChange_10 rfl rfl ?_
      refine E_getr (i := 0) dX1_leastChange_11 fl_RX1_33 rfl rfl (go_1_1 _ _) ?_
      refine E_getr (i := 0) dX1_leastChange_14 fl_RX1_56 rfl rfl (go_9_2 _ _) ?_
      refine E_iload_n dX1_leastChange_17 rfl rfl ?_
      obtain ⟨hg0, hg1, h⟩ := h
      refine E_iald dX1_leastChange_18 sh_1002 hg0 hg1 ?_
      refine E_iload_n dX1_leastChange_19 rfl rfl ?_
      refine E_isub dX1_leastChange_20 ?_
      refine E_callV (Y' := Y_X1_wouldGoHome) (as := [vI x1, vI (wi ((σ 1002 0 x1) - x2))]) (st := []) dX1_leastChange_21 lk_RX1_59 m_X1_wouldGoHome (by decide) (Nat.le_refl _) (Nat.le_refl _) rfl rfl (Nat.le_of_ble_eq_true rfl) (s_X1_wouldGoHome h) (fun r0 B0 σ_1 h => ?_)
      obtain ⟨r_2, rfl, rfl, h⟩ := h
      refine E_if_ne (tgt := 46) dX1_leastChange_24 (by decide) (fun hc => ?_) (fun hc => ?_)
      · have h := Eq.mp (if_neg hc) h
        refine E_iload_n dX1_leastChange_46 rfl rfl ?_
        exact E_iret dX1_leastChange_47 rfl ⟨_, rfl, rfl, h⟩
      · have h := Eq.mp (if_pos hc) h
        refine E_aload_n dX1_leastChange_27 rfl rfl ?_
        refine E_iload_n dX1_leastChange_28 rfl rfl ?_
        refine E_aload_n dX1_leastChange_29 rfl rfl ?_
        refine E_getr (i := 0) dX1_leastChange_30 fl_RX1_33 rfl rfl (go_1_1 _ _) ?_
        refine E_getr (i := 0) dX1_leastChange_33 fl_RX1_56 rfl rfl (go_9_2 _ _) ?_
        refine E_iload_n dX1_leastChange_36 rfl rfl ?_
        obtain ⟨hg0, hg1, h⟩ := h
        refine E_iald dX1_leastChange_37 sh_1002 hg0 hg1 ?_
        refine E_iload_n dX1_leastChange_38 rfl rfl ?_
        refine E_iadd dX1_leastChange_39 ?_
        refine E_callV (Y' := Y_X1_wouldGoHome) (as := [vI x1, vI (wi ((σ_1 1002 0 x1) + x2))]) (st := []) dX1_leastChange_40 lk_RX1_59 m_X1_wouldGoHome (by decide) (Nat.le_refl _) (Nat.le_refl _) rfl rfl (Nat.le_of_ble_eq_true rfl) (s_X1_wouldGoHome h) (fun r0 B0 σ_3 h => ?_)
        obtain ⟨r_4, rfl, rfl, h⟩ := h
        refine E_if_eq (tgt := 48) dX1_leastChange_43 (by decide) (fun hc => ?_) (fun hc => ?_)
        · have h := Eq.mp (if_pos hc) h
          refine E_iinc (ls' := [some (vR 1 0), some (vI x1), some (vI (wi (x2 + 1)))]) dX1_leastChange_48 rfl (by decide) rfl rfl ?_
          refine E_goto (tgt := 2) dX1_leastChange_51 (by decide) ?_
          exact hR _ _ h
        · have h := Eq.mp (if_neg hc) h
          refine E_iload_n dX1_leastChange_46 rfl rfl ?_
          exact E_iret dX1_leastChange_47 rfl ⟨_, rfl, rfl, h⟩
def P_X1_leastChange (x1 : Int) (σ : St) (Q : Int → St → Prop) : Prop :=
  P_X1_leastChange_L2 x1 Q FU 0 σ
set_option maxRecDepth 20000 in
set_option maxHeartbeats 2000000 in
theorem s_X1_leastChange {x1 : Int} {σ : St} {Q : Int → St → Prop} (h : P_X1_leastChange x1 σ Q) : Cn Y_X1_leastChange 2 0 0 ww σ [vR 1 0, vI x1] (QI Q) := by
  refine Cn_of [some (vR 1 0), some (vI x1), none] (by decide) (Nat.le_of_ble_eq_true rfl) rfl ?_
  unfold P_X1_leastChange at h
  refine E_ic dX1_leastChange_0 rfl ?_
  refine E_istore_n (ls' := [some (vR 1 0), some (vI x1), some (vI 0)]) dX1_leastChange_1 rfl (by decide) rfl ?_
  refine e_P_X1_leastChange_L2  _ _ _ h
abbrev Y_X3_perform : My := (yX3_perform, cX3_perform, 5, some .boolean)
theorem dX3_perform_0 : decode cX3_perform 0 = .ok (.aload_n 0, 1) := by decide +kernel
theorem dX3_perform_1 : decode cX3_perform 1 = .ok (.getfield 15, 3) := by decide +kernel
theorem dX3_perform_4 : decode cX3_perform 4 = .ok (.iload_n 1, 1) := by decide +kernel
theorem dX3_perform_5 : decode cX3_perform 5 = .ok (.iaload, 1) := by decide +kernel
theorem dX3_perform_6 : decode cX3_perform 6 = .ok (.istore_n 3, 1) := by decide +kernel
theorem dX3_perform_7 : decode cX3_perform 7 = .ok (.aload_n 0, 1) := by decide +kernel
theorem dX3_perform_8 : decode cX3_perform 8 = .ok (.getfield 18, 3) := by decide +kernel
theorem dX3_perform_11 : decode cX3_perform 11 = .ok (.iload_n 1, 1) := by decide +kernel
theorem dX3_perform_12 : decode cX3_perform 12 = .ok (.iaload, 1) := by decide +kernel
theorem dX3_perform_13 : decode cX3_perform 13 = .ok (.istore 4, 2) := by decide +kernel
theorem dX3_perform_15 : decode cX3_perform 15 = .ok (.aload_n 0, 1) := by decide +kernel
theorem dX3_perform_16 : decode cX3_perform 16 = .ok (.getfield 9, 3) := by decide +kernel
theorem dX3_perform_19 : decode cX3_perform 19 = .ok (.iload_n 1, 1) := by decide +kernel
theorem dX3_perform_20 : decode cX3_perform 20 = .ok (.iaload, 1) := by decide +kernel
theorem dX3_perform_21 : decode cX3_perform 21 = .ok (.tableswitch 60 1 4 #[31, 37, 45, 53], 31) := by decide +kernel
theorem dX3_perform_52 : decode cX3_perform 52 = .ok (.aload_n 2, 1) := by decide +kernel
theorem dX3_perform_53 : decode cX3_perform 53 = .ok (.iload_n 3, 1) := by decide +kernel
theorem dX3_perform_54 : decode cX3_perform 54 = .ok (.invokevirtual 31, 3) := by decide +kernel
theorem dX3_perform_57 : decode cX3_perform 57 = .ok (.ireturn, 1) := by decide +kernel
theorem dX3_perform_58 : decode cX3_perform 58 = .ok (.aload_n 2, 1) := by decide +kernel
theorem dX3_perform_59 : decode cX3_perform 59 = .ok (.iload_n 3, 1) := by decide +kernel
theorem dX3_perform_60 : decode cX3_perform 60 = .ok (.iload 4, 2) := by decide +kernel
theorem dX3_perform_62 : decode cX3_perform 62 = .ok (.invokevirtual 37, 3) := by decide +kernel
theorem dX3_perform_65 : decode cX3_perform 65 = .ok (.ireturn, 1) := by decide +kernel
theorem dX3_perform_66 : decode cX3_perform 66 = .ok (.aload_n 2, 1) := by decide +kernel
theorem dX3_perform_67 : decode cX3_perform 67 = .ok (.iload_n 3, 1) := by decide +kernel
theorem dX3_perform_68 : decode cX3_perform 68 = .ok (.iload 4, 2) := by decide +kernel
theorem dX3_perform_70 : decode cX3_perform 70 = .ok (.invokevirtual 41, 3) := by decide +kernel
theorem dX3_perform_73 : decode cX3_perform 73 = .ok (.ireturn, 1) := by decide +kernel
theorem dX3_perform_74 : decode cX3_perform 74 = .ok (.aload_n 2, 1) := by decide +kernel
theorem dX3_perform_75 : decode cX3_perform 75 = .ok (.invokevirtual 44, 3) := by decide +kernel
theorem dX3_perform_78 : decode cX3_perform 78 = .ok (.pop, 1) := by decide +kernel
theorem dX3_perform_79 : decode cX3_perform 79 = .ok (.iconst 1, 1) := by decide +kernel
theorem dX3_perform_80 : decode cX3_perform 80 = .ok (.ireturn, 1) := by decide +kernel
theorem dX3_perform_81 : decode cX3_perform 81 = .ok (.aload_n 2, 1) := by decide +kernel
theorem dX3_perform_82 : decode cX3_perform 82 = .ok (.invokevirtual 48, 3) := by decide +kernel
theorem dX3_perform_85 : decode cX3_perform 85 = .ok (.pop, 1) := by decide +kernel
theorem dX3_perform_86 : decode cX3_perform 86 = .ok (.iconst 1, 1) := by decide +kernel
theorem dX3_perform_87 : decode cX3_perform 87 = .ok (.ireturn, 1) := by decide +kernel
theorem lk_RX3_31 : Cond.methodLink RX3 31 yX9_sendOff ∈ tG := inG (i := 1045) (by decide +kernel) (by decide +kernel)
theorem lk_RX3_37 : Cond.methodLink RX3 37 yX9_setGap ∈ tG := inG (i := 1046) (by decide +kernel) (by decide +kernel)
theorem lk_RX3_41 : Cond.methodLink RX3 41 yX9_carryTo ∈ tG := inG (i := 1047) (by decide +kernel) (by decide +kernel)
theorem lk_RX3_44 : Cond.methodLink RX3 44 yX9_passDay ∈ tG := inG (i := 1048) (by decide +kernel) (by decide +kernel)
theorem lk_RX3_48 : Cond.methodLink RX3 48 yX9_passBeat ∈ tG := inG (i := 1049) (by decide +kernel) (by decide +kernel)
def P_X3_perform (o0 : Nat) (x1 : Int) (o2 : Nat) (σ : St) (Q : Int → St → Prop) : Prop :=
  0 ≤ x1 ∧ x1 < 40 ∧ 0 ≤ x1 ∧ x1 < 40 ∧ 0 ≤ x1 ∧ x1 < 40 ∧ (if (σ 400 o0 x1) = 1 then P_X9_sendOff o2 (σ 401 o0 x1) σ (fun r_2 σ_1 => (r_2 = 0 ∨ r_2 = 1) ∧ Q r_2 σ_1) else if (σ 400 o0 x1) = 2 then P_X9_setGap o2 (σ 401 o0 x1) (σ 402 o0 x1) σ (fun r_4 σ_3 => (r_4 = 0 ∨ r_4 = 1) ∧ Q r_4 σ_3) else if (σ 400 o0 x1) = 3 then P_X9_carryTo o2 (σ 401 o0 x1) (σ 402 o0 x1) σ (fun r_6 σ_5 => (r_6 = 0 ∨ r_6 = 1) ∧ Q r_6 σ_5) else if (σ 400 o0 x1) = 4 then P_X9_passDay o2 σ (fun r_8 σ_7 => Q 1 σ_7) else P_X9_passBeat o2 σ (fun r_10 σ_9 => Q 1 σ_9))
set_option maxRecDepth 20000 in
set_option maxHeartbeats 2000000 in
theorem s_X3_perform {o0 : Nat} {x1 : Int} {o2 : Nat} {σ : St} {Q : Int → St → Prop} (h : P_X3_perform o0 x1 o2 σ Q) : Cn Y_X3_perform 6 0 0 ww σ [vR 3 o0, vI x1, vR 9 o2] (QI Q) := by
  refine Cn_of [some (vR 3 o0), some (vI x1), some (vR 9 o2), none, none] (by decide) (Nat.le_of_ble_eq_true rfl) rfl ?_
  unfold P_X3_perform at h
  refine E_aload_n dX3_perform_0 rfl rfl ?_
  refine E_getr (i := o0) dX3_perform_1 fl_RX3_15 rfl rfl (go_3_1 _ _) ?_
  refine E_iload_n dX3_perform_4 rfl rfl ?_
  obtain ⟨hg0, hg1, h⟩ := h
  refine E_iald dX3_perform_5 sh_401 hg0 hg1 ?_
  refine E_istore_n (ls' := [some (vR 3 o0), some (vI x1), some (vR 9 o2), some (vI (σ 401 o0 x1)), none]) dX3_perform_6 rfl (by decide) rfl ?_
  refine E_aload_n dX3_perform_7 rfl rfl ?_
  refine E_getr (i := o0) dX3_perform_8 fl_RX3_18 rfl rfl (go_3_2 _ _) ?_
  refine E_iload_n dX3_perform_11 rfl rfl ?_
  obtain ⟨hg0, hg1, h⟩ := h
  refine E_iald dX3_perform_12 sh_402 hg0 hg1 ?_
  refine E_istore (ls' := [some (vR 3 o0), some (vI x1), some (vR 9 o2), some (vI (σ 401 o0 x1)), some (vI (σ 402 o0 x1))]) dX3_perform_13 (by decide) rfl ?_
  refine E_aload_n dX3_perform_15 rfl rfl ?_
  refine E_getr (i := o0) dX3_perform_16 fl_RX3_9 rfl rfl (go_3_0 _ _) ?_
  refine E_iload_n dX3_perform_19 rfl rfl ?_
  obtain ⟨hg0, hg1, h⟩ := h
  refine E_iald dX3_perform_20 sh_400 hg0 hg1 ?_
  by_cases hc : (σ 400 o0 x1) = 1
  · have h := Eq.mp (if_pos hc) h
    refine E_tableIn (off := 31) (tgt := 52) dX3_perform_21 (by omega) (by omega) (by rw [hc]; rfl) (by decide) ?_
    refine E_aload_n dX3_perform_52 rfl rfl ?_
    refine E_iload_n dX3_perform_53 rfl rfl ?_
    refine E_callV (Y' := Y_X9_sendOff) (as := [vI (σ 401 o0 x1)]) (st := []) dX3_perform_54 lk_RX3_31 m_X9_sendOff (by decide) (Nat.le_refl _) (Nat.le_refl _) rfl rfl (Nat.le_of_ble_eq_true rfl) (s_X9_sendOff h) (fun r0 B0 σ_1 h => ?_)
    obtain ⟨r_2, rfl, rfl, h⟩ := h
    obtain ⟨hg0, h⟩ := h
    exact E_zret dX3_perform_57 rfl hg0 ⟨_, rfl, rfl, h⟩
  have h := Eq.mp (if_neg hc) h
  have hc0 := hc
  clear hc
  by_cases hc : (σ 400 o0 x1) = 2
  · have h := Eq.mp (if_pos hc) h
    refine E_tableIn (off := 37) (tgt := 58) dX3_perform_21 (by omega) (by omega) (by rw [hc]; rfl) (by decide) ?_
    refine E_aload_n dX3_perform_58 rfl rfl ?_
    refine E_iload_n dX3_perform_59 rfl rfl ?_
    refine E_iload dX3_perform_60 rfl ?_
    refine E_callV (Y' := Y_X9_setGap) (as := [vI (σ 401 o0 x1), vI (σ 402 o0 x1)]) (st := []) dX3_perform_62 lk_RX3_37 m_X9_setGap (by decide) (Nat.le_refl _) (Nat.le_refl _) rfl rfl (Nat.le_of_ble_eq_true rfl) (s_X9_setGap h) (fun r0 B0 σ_3 h => ?_)
    obtain ⟨r_4, rfl, rfl, h⟩ := h
    obtain ⟨hg0, h⟩ := h
    exact E_zret dX3_perform_65 rfl hg0 ⟨_, rfl, rfl, h⟩
  have h := Eq.mp (if_neg hc) h
  have hc1 := hc
  clear hc
  by_cases hc : (σ 400 o0 x1) = 3
  · have h := Eq.mp (if_pos hc) h
    refine E_tableIn (off := 45) (tgt := 66) dX3_perform_21 (by omega) (by omega) (by rw [hc]; rfl) (by decide) ?_
    refine E_aload_n dX3_perform_66 rfl rfl ?_
    refine E_iload_n dX3_perform_67 rfl rfl ?_
    refine E_iload dX3_perform_68 rfl ?_
    refine E_callV (Y' := Y_X9_carryTo) (as := [vI (σ 401 o0 x1), vI (σ 402 o0 x1)]) (st := []) dX3_perform_70 lk_RX3_41 m_X9_carryTo (by decide) (Nat.le_refl _) (Nat.le_refl _) rfl rfl (Nat.le_of_ble_eq_true rfl) (s_X9_carryTo h) (fun r0 B0 σ_5 h => ?_)
    obtain ⟨r_6, rfl, rfl, h⟩ := h
    obtain ⟨hg0, h⟩ := h
    exact E_zret dX3_perform_73 rfl hg0 ⟨_, rfl, rfl, h⟩
  have h := Eq.mp (if_neg hc) h
  have hc2 := hc
  clear hc
  by_cases hc : (σ 400 o0 x1) = 4
  · have h := Eq.mp (if_pos hc) h
    refine E_tableIn (off := 53) (tgt := 74) dX3_perform_21 (by omega) (by omega) (by rw [hc]; rfl) (by decide) ?_
    refine E_aload_n dX3_perform_74 rfl rfl ?_
    refine E_callV (Y' := Y_X9_passDay) (as := []) (st := []) dX3_perform_75 lk_RX3_44 m_X9_passDay (by decide) (Nat.le_refl _) (Nat.le_refl _) rfl rfl (Nat.le_of_ble_eq_true rfl) (s_X9_passDay h) (fun r0 B0 σ_7 h => ?_)
    obtain ⟨r_8, rfl, rfl, h⟩ := h
    refine E_pop dX3_perform_78 (fun _ q => by cases q) ?_
    refine E_ic dX3_perform_79 rfl ?_
    exact E_zret dX3_perform_80 rfl (by decide) ⟨_, rfl, rfl, h⟩
  have h := Eq.mp (if_neg hc) h
  have hc3 := hc
  clear hc
  refine E_tableOut (tgt := 81) dX3_perform_21 (by omega) (by decide) ?_
  refine E_aload_n dX3_perform_81 rfl rfl ?_
  refine E_callV (Y' := Y_X9_passBeat) (as := []) (st := []) dX3_perform_82 lk_RX3_48 m_X9_passBeat (by decide) (Nat.le_refl _) (Nat.le_refl _) rfl rfl (Nat.le_of_ble_eq_true rfl) (s_X9_passBeat h) (fun r0 B0 σ_9 h => ?_)
  obtain ⟨r_10, rfl, rfl, h⟩ := h
  refine E_pop dX3_perform_85 (fun _ q => by cases q) ?_
  refine E_ic dX3_perform_86 rfl ?_
  exact E_zret dX3_perform_87 rfl (by decide) ⟨_, rfl, rfl, h⟩
abbrev Y_X10_takeNumber : My := (yX10_takeNumber, cX10_takeNumber, 4, some .int)
theorem dX10_takeNumber_0 : decode cX10_takeNumber 0 = .ok (.aload_n 0, 1) := by decide +kernel
theorem dX10_takeNumber_1 : decode cX10_takeNumber 1 = .ok (.iload_n 1, 1) := by decide +kernel
theorem dX10_takeNumber_2 : decode cX10_takeNumber 2 = .ok (.iload_n 2, 1) := by decide +kernel
theorem dX10_takeNumber_3 : decode cX10_takeNumber 3 = .ok (.invokevirtual 106, 3) := by decide +kernel
theorem dX10_takeNumber_6 : decode cX10_takeNumber 6 = .ok (.istore_n 3, 1) := by decide +kernel
theorem dX10_takeNumber_7 : decode cX10_takeNumber 7 = .ok (.aload_n 0, 1) := by decide +kernel
theorem dX10_takeNumber_8 : decode cX10_takeNumber 8 = .ok (.invokevirtual 95, 3) := by decide +kernel
theorem dX10_takeNumber_11 : decode cX10_takeNumber 11 = .ok (.iload_n 3, 1) := by decide +kernel
theorem dX10_takeNumber_12 : decode cX10_takeNumber 12 = .ok (.ireturn, 1) := by decide +kernel
theorem lk_RX10_106 : Cond.methodLink RX10 106 yX10_numberHere ∈ tG := inG (i := 742) (by decide +kernel) (by decide +kernel)
theorem m_X10_numberHere : MV Y_X10_numberHere 2 10 := ⟨⟨inG (i := 728) (by decide +kernel) (by decide +kernel), inG (i := 99) (by decide +kernel) (by decide +kernel), by decide, by decide, by decide, by decide +kernel⟩, inG (i := 726) (by decide +kernel) (by decide +kernel), inG (i := 727) (by decide +kernel) (by decide +kernel), by decide⟩
def P_X10_takeNumber (x1 : Int) (x2 : Int) (σ : St) (Q : Int → St → Prop) : Prop :=
  P_X10_numberHere x1 x2 σ (fun r_2 σ_1 => P_X10_next σ_1 (fun σ_3 => Q r_2 σ_3))
set_option maxRecDepth 20000 in
set_option maxHeartbeats 2000000 in
theorem s_X10_takeNumber {x1 : Int} {x2 : Int} {σ : St} {Q : Int → St → Prop} (h : P_X10_takeNumber x1 x2 σ Q) : Cn Y_X10_takeNumber 2 0 0 ww σ [vR 10 0, vI x1, vI x2] (QI Q) := by
  refine Cn_of [some (vR 10 0), some (vI x1), some (vI x2), none] (by decide) (Nat.le_of_ble_eq_true rfl) rfl ?_
  unfold P_X10_takeNumber at h
  refine E_aload_n dX10_takeNumber_0 rfl rfl ?_
  refine E_iload_n dX10_takeNumber_1 rfl rfl ?_
  refine E_iload_n dX10_takeNumber_2 rfl rfl ?_
  refine E_callV (Y' := Y_X10_numberHere) (as := [vI x1, vI x2]) (st := []) dX10_takeNumber_3 lk_RX10_106 m_X10_numberHere (by decide) (Nat.le_refl _) (Nat.le_refl _) rfl rfl (Nat.le_of_ble_eq_true rfl) (s_X10_numberHere h) (fun r0 B0 σ_1 h => ?_)
  obtain ⟨r_2, rfl, rfl, h⟩ := h
  refine E_istore_n (ls' := [some (vR 10 0), some (vI x1), some (vI x2), some (vI r_2)]) dX10_takeNumber_6 rfl (by decide) rfl ?_
  refine E_aload_n dX10_takeNumber_7 rfl rfl ?_
  refine E_callV (Y' := Y_X10_next) (as := []) (st := []) dX10_takeNumber_8 lk_RX10_95 m_X10_next (by decide) (Nat.le_refl _) (Nat.le_refl _) rfl rfl (Nat.le_of_ble_eq_true rfl) (s_X10_next h) (fun r0 B0 σ_3 h => ?_)
  obtain ⟨rfl, rfl, h⟩ := h
  refine E_iload_n dX10_takeNumber_11 rfl rfl ?_
  exact E_iret dX10_takeNumber_12 rfl ⟨_, rfl, rfl, h⟩
