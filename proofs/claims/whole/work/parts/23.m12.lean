abbrev Y_X12_trip : My := (yX12_trip, cX12_trip, 3, some .int)
theorem dX12_trip_0 : decode cX12_trip 0 = .ok (.aload_n 0, 1) := by decide +kernel
theorem dX12_trip_1 : decode cX12_trip 1 = .ok (.iconst 0, 1) := by decide +kernel
theorem dX12_trip_2 : decode cX12_trip 2 = .ok (.putfield 141, 3) := by decide +kernel
theorem dX12_trip_5 : decode cX12_trip 5 = .ok (.aload_n 0, 1) := by decide +kernel
theorem dX12_trip_6 : decode cX12_trip 6 = .ok (.iload_n 1, 1) := by decide +kernel
theorem dX12_trip_7 : decode cX12_trip 7 = .ok (.invokevirtual 406, 3) := by decide +kernel
theorem dX12_trip_10 : decode cX12_trip 10 = .ok (.ifCond .eq 11, 3) := by decide +kernel
theorem dX12_trip_13 : decode cX12_trip 13 = .ok (.aload_n 0, 1) := by decide +kernel
theorem dX12_trip_14 : decode cX12_trip 14 = .ok (.iload_n 1, 1) := by decide +kernel
theorem dX12_trip_15 : decode cX12_trip 15 = .ok (.invokevirtual 413, 3) := by decide +kernel
theorem dX12_trip_18 : decode cX12_trip 18 = .ok (.ifCond .ne 5, 3) := by decide +kernel
theorem dX12_trip_21 : decode cX12_trip 21 = .ok (.iconst (-1), 1) := by decide +kernel
theorem dX12_trip_22 : decode cX12_trip 22 = .ok (.ireturn, 1) := by decide +kernel
theorem dX12_trip_23 : decode cX12_trip 23 = .ok (.aload_n 0, 1) := by decide +kernel
theorem dX12_trip_24 : decode cX12_trip 24 = .ok (.getfield 111, 3) := by decide +kernel
theorem dX12_trip_27 : decode cX12_trip 27 = .ok (.iconst 0, 1) := by decide +kernel
theorem dX12_trip_28 : decode cX12_trip 28 = .ok (.aload_n 0, 1) := by decide +kernel
theorem dX12_trip_29 : decode cX12_trip 29 = .ok (.getfield 117, 3) := by decide +kernel
theorem dX12_trip_32 : decode cX12_trip 32 = .ok (.iconst 0, 1) := by decide +kernel
theorem dX12_trip_33 : decode cX12_trip 33 = .ok (.invokestatic 409, 3) := by decide +kernel
theorem dX12_trip_36 : decode cX12_trip 36 = .ok (.aload_n 0, 1) := by decide +kernel
theorem dX12_trip_37 : decode cX12_trip 37 = .ok (.iload_n 1, 1) := by decide +kernel
theorem dX12_trip_38 : decode cX12_trip 38 = .ok (.invokevirtual 419, 3) := by decide +kernel
theorem dX12_trip_41 : decode cX12_trip 41 = .ok (.aload_n 0, 1) := by decide +kernel
theorem dX12_trip_42 : decode cX12_trip 42 = .ok (.iload_n 1, 1) := by decide +kernel
theorem dX12_trip_43 : decode cX12_trip 43 = .ok (.invokevirtual 451, 3) := by decide +kernel
theorem dX12_trip_46 : decode cX12_trip 46 = .ok (.istore_n 2, 1) := by decide +kernel
theorem dX12_trip_47 : decode cX12_trip 47 = .ok (.aload_n 0, 1) := by decide +kernel
theorem dX12_trip_48 : decode cX12_trip 48 = .ok (.getfield 117, 3) := by decide +kernel
theorem dX12_trip_51 : decode cX12_trip 51 = .ok (.iconst 0, 1) := by decide +kernel
theorem dX12_trip_52 : decode cX12_trip 52 = .ok (.aload_n 0, 1) := by decide +kernel
theorem dX12_trip_53 : decode cX12_trip 53 = .ok (.getfield 111, 3) := by decide +kernel
theorem dX12_trip_56 : decode cX12_trip 56 = .ok (.iconst 0, 1) := by decide +kernel
theorem dX12_trip_57 : decode cX12_trip 57 = .ok (.invokestatic 409, 3) := by decide +kernel
theorem dX12_trip_60 : decode cX12_trip 60 = .ok (.iload_n 2, 1) := by decide +kernel
theorem dX12_trip_61 : decode cX12_trip 61 = .ok (.ireturn, 1) := by decide +kernel
def P_X12_trip  (x1 : Int) (σ : St) (Q : Int → St → Prop) : Prop :=
  P_X12_isBall x1 (up σ 12 0 0 0) (fun r_2 σ_1 => (if r_2 = 0 then Q (-1) σ_1 else P_X12_canSend x1 σ_1 (fun r_4 σ_3 => (if r_4 = 0 then Q (-1) σ_3 else P_X12_copies 1346 0 0 1348 0 0 σ_3 (fun σ_5 => P_X12_sends x1 σ_5 (fun σ_6 => P_X12_restsIn x1 σ_6 (fun r_8 σ_7 => P_X12_copies 1348 0 0 1346 0 0 σ_7 (fun σ_9 => Q r_8 σ_9))))))))
set_option maxRecDepth 20000 in
set_option maxHeartbeats 2000000 in
theorem s_X12_trip   {x1 : Int} {σ : St} {Q : Int → St → Prop} (h : P_X12_trip x1 σ Q) : Cn Y_X12_trip 5 0 0 ww σ [vR 12 0, vI x1] (QI Q) := by
  refine Cn_of [some (vR 12 0), some (vI x1), none] (by decide) (Nat.le_of_ble_eq_true rfl) rfl ?_
  unfold P_X12_trip at h
  refine E_aload_n dX12_trip_0 rfl rfl ?_
  refine E_ic dX12_trip_1 rfl ?_
  refine E_puti dX12_trip_2 fl_RX12_141 rfl rfl rfl ?_
  refine E_aload_n dX12_trip_5 rfl rfl ?_
  refine E_iload_n dX12_trip_6 rfl rfl ?_
  refine E_callV (Y' := Y_X12_isBall) (as := [vI x1]) (st := []) dX12_trip_7 lk_RX12_406 m_X12_isBall (by decide) (Nat.le_refl _) (Nat.le_refl _) rfl rfl (Nat.le_of_ble_eq_true rfl) (s_X12_isBall h) (fun r0 B0 σ_1 h => ?_)
  obtain ⟨r_2, rfl, rfl, h⟩ := h
  refine E_if_eq (tgt := 21) dX12_trip_10 (by decide) (fun hc => ?_) (fun hc => ?_)
  · have h := Eq.mp (if_pos hc) h
    refine E_ic dX12_trip_21 rfl ?_
    exact E_iret dX12_trip_22 rfl ⟨_, rfl, rfl, h⟩
  · have h := Eq.mp (if_neg hc) h
    refine E_aload_n dX12_trip_13 rfl rfl ?_
    refine E_iload_n dX12_trip_14 rfl rfl ?_
    refine E_callV (Y' := Y_X12_canSend) (as := [vI x1]) (st := []) dX12_trip_15 lk_RX12_413 m_X12_canSend (by decide) (Nat.le_refl _) (Nat.le_refl _) rfl rfl (Nat.le_of_ble_eq_true rfl) (s_X12_canSend h) (fun r0 B0 σ_3 h => ?_)
    obtain ⟨r_4, rfl, rfl, h⟩ := h
    refine E_if_ne (tgt := 23) dX12_trip_18 (by decide) (fun hc => ?_) (fun hc => ?_)
    · have h := Eq.mp (if_neg hc) h
      refine E_aload_n dX12_trip_23 rfl rfl ?_
      refine E_getr (i := 0) dX12_trip_24 fl_RX12_111 rfl rfl (go_12_46 _ _) ?_
      refine E_ic dX12_trip_27 rfl ?_
      refine E_aload_n dX12_trip_28 rfl rfl ?_
      refine E_getr (i := 0) dX12_trip_29 fl_RX12_117 rfl rfl (go_12_48 _ _) ?_
      refine E_ic dX12_trip_32 rfl ?_
      refine E_callS (Y' := Y_X12_copies) (as := [vR 1346 0, vI 0, vR 1348 0, vI 0]) (st := []) dX12_trip_33 lk_RX12_409 m_X12_copies (by decide) (Nat.le_refl _) (Nat.le_refl _) rfl rfl (Nat.le_of_ble_eq_true rfl) (s_X12_copies h) (fun r0 B0 σ_5 h => ?_)
      obtain ⟨rfl, rfl, h⟩ := h
      refine E_aload_n dX12_trip_36 rfl rfl ?_
      refine E_iload_n dX12_trip_37 rfl rfl ?_
      refine E_callV (Y' := Y_X12_sends) (as := [vI x1]) (st := []) dX12_trip_38 lk_RX12_419 m_X12_sends (by decide) (Nat.le_refl _) (Nat.le_refl _) rfl rfl (Nat.le_of_ble_eq_true rfl) (s_X12_sends h) (fun r0 B0 σ_6 h => ?_)
      obtain ⟨rfl, rfl, h⟩ := h
      refine E_aload_n dX12_trip_41 rfl rfl ?_
      refine E_iload_n dX12_trip_42 rfl rfl ?_
      refine E_callV (Y' := Y_X12_restsIn) (as := [vI x1]) (st := []) dX12_trip_43 lk_RX12_451 m_X12_restsIn (by decide) (Nat.le_refl _) (Nat.le_refl _) rfl rfl (Nat.le_of_ble_eq_true rfl) (s_X12_restsIn h) (fun r0 B0 σ_7 h => ?_)
      obtain ⟨r_8, rfl, rfl, h⟩ := h
      refine E_istore_n (ls' := [some (vR 12 0), some (vI x1), some (vI r_8)]) dX12_trip_46 rfl (by decide) rfl ?_
      refine E_aload_n dX12_trip_47 rfl rfl ?_
      refine E_getr (i := 0) dX12_trip_48 fl_RX12_117 rfl rfl (go_12_48 _ _) ?_
      refine E_ic dX12_trip_51 rfl ?_
      refine E_aload_n dX12_trip_52 rfl rfl ?_
      refine E_getr (i := 0) dX12_trip_53 fl_RX12_111 rfl rfl (go_12_46 _ _) ?_
      refine E_ic dX12_trip_56 rfl ?_
      refine E_callS (Y' := Y_X12_copies) (as := [vR 1348 0, vI 0, vR 1346 0, vI 0]) (st := []) dX12_trip_57 lk_RX12_409 m_X12_copies (by decide) (Nat.le_refl _) (Nat.le_refl _) rfl rfl (Nat.le_of_ble_eq_true rfl) (s_X12_copies h) (fun r0 B0 σ_9 h => ?_)
      obtain ⟨rfl, rfl, h⟩ := h
      refine E_iload_n dX12_trip_60 rfl rfl ?_
      exact E_iret dX12_trip_61 rfl ⟨_, rfl, rfl, h⟩
    · have h := Eq.mp (if_pos hc) h
      refine E_ic dX12_trip_21 rfl ?_
      exact E_iret dX12_trip_22 rfl ⟨_, rfl, rfl, h⟩
abbrev Y_X12_rest : My := (yX12_rest, cX12_rest, 2, some .int)
theorem dX12_rest_0 : decode cX12_rest 0 = .ok (.aload_n 0, 1) := by decide +kernel
theorem dX12_rest_1 : decode cX12_rest 1 = .ok (.iconst 0, 1) := by decide +kernel
theorem dX12_rest_2 : decode cX12_rest 2 = .ok (.putfield 141, 3) := by decide +kernel
theorem dX12_rest_5 : decode cX12_rest 5 = .ok (.aload_n 0, 1) := by decide +kernel
theorem dX12_rest_6 : decode cX12_rest 6 = .ok (.getfield 111, 3) := by decide +kernel
theorem dX12_rest_9 : decode cX12_rest 9 = .ok (.iconst 0, 1) := by decide +kernel
theorem dX12_rest_10 : decode cX12_rest 10 = .ok (.aload_n 0, 1) := by decide +kernel
theorem dX12_rest_11 : decode cX12_rest 11 = .ok (.getfield 117, 3) := by decide +kernel
theorem dX12_rest_14 : decode cX12_rest 14 = .ok (.iconst 0, 1) := by decide +kernel
theorem dX12_rest_15 : decode cX12_rest 15 = .ok (.invokestatic 409, 3) := by decide +kernel
theorem dX12_rest_18 : decode cX12_rest 18 = .ok (.iconst 0, 1) := by decide +kernel
theorem dX12_rest_19 : decode cX12_rest 19 = .ok (.istore_n 1, 1) := by decide +kernel
theorem dX12_rest_20 : decode cX12_rest 20 = .ok (.aload_n 0, 1) := by decide +kernel
theorem dX12_rest_21 : decode cX12_rest 21 = .ok (.invokevirtual 379, 3) := by decide +kernel
theorem dX12_rest_24 : decode cX12_rest 24 = .ok (.ifCond .ne 14, 3) := by decide +kernel
theorem dX12_rest_27 : decode cX12_rest 27 = .ok (.aload_n 0, 1) := by decide +kernel
theorem dX12_rest_28 : decode cX12_rest 28 = .ok (.invokevirtual 385, 3) := by decide +kernel
theorem dX12_rest_31 : decode cX12_rest 31 = .ok (.pop, 1) := by decide +kernel
theorem dX12_rest_32 : decode cX12_rest 32 = .ok (.iinc 1 1, 3) := by decide +kernel
theorem dX12_rest_35 : decode cX12_rest 35 = .ok (.goto (-15), 3) := by decide +kernel
theorem dX12_rest_38 : decode cX12_rest 38 = .ok (.aload_n 0, 1) := by decide +kernel
theorem dX12_rest_39 : decode cX12_rest 39 = .ok (.getfield 117, 3) := by decide +kernel
theorem dX12_rest_42 : decode cX12_rest 42 = .ok (.iconst 0, 1) := by decide +kernel
theorem dX12_rest_43 : decode cX12_rest 43 = .ok (.aload_n 0, 1) := by decide +kernel
theorem dX12_rest_44 : decode cX12_rest 44 = .ok (.getfield 111, 3) := by decide +kernel
theorem dX12_rest_47 : decode cX12_rest 47 = .ok (.iconst 0, 1) := by decide +kernel
theorem dX12_rest_48 : decode cX12_rest 48 = .ok (.invokestatic 409, 3) := by decide +kernel
theorem dX12_rest_51 : decode cX12_rest 51 = .ok (.iload_n 1, 1) := by decide +kernel
theorem dX12_rest_52 : decode cX12_rest 52 = .ok (.ireturn, 1) := by decide +kernel
def P_X12_rest_L20   (K : Int → St → Prop) (Q : Int → St → Prop) : Nat → Int → St → Prop
  | 0, _, _ => False
  | n + 1, x1, σ => P_X12_doAllRest σ (fun r_3 σ_2 => (if r_3 = 0 then P_X12_passes σ_2 (fun r_5 σ_4 => (P_X12_rest_L20 K Q n) (wi (x1 + 1)) σ_4) else K x1 σ_2))
set_option maxRecDepth 20000 in
set_option maxHeartbeats 2000000 in
theorem e_P_X12_rest_L20   {K : Int → St → Prop} {Q : Int → St → Prop}  (hK : ∀ x1 σ, K x1 σ → E Y_X12_rest 4 0 0 (QI Q) ww 0 0 38 [some (vR 12 0), some (vI x1)] [] σ) : ∀ (n : Nat) (x1 : Int) (σ : St), P_X12_rest_L20 K Q n x1 σ → E Y_X12_rest 4 0 0 (QI Q) ww 0 0 20 [some (vR 12 0), some (vI x1)] [] σ := by
  intro n
  induction n with
  | zero => intro x1 σ h; exact h.elim
  | succ n hR =>
    intro x1 σ h
    unfold P_X12_rest_L20 at h
    refine E_aload_n dX12_rest_20 rfl rfl ?_
    refine E_callV (Y' := Y_X12_doAllRest) (as := []) (st := []) dX12_rest_21 lk_RX12_379 m_X12_doAllRest (by decide) (Nat.le_refl _) (Nat.le_refl _) rfl rfl (Nat.le_of_ble_eq_true rfl) (s_X12_doAllRest h) (fun r0 B0 σ_2 h => ?_)
    obtain ⟨r_3, rfl, rfl, h⟩ := h
    refine E_if_ne (tgt := 38) dX12_rest_24 (by decide) (fun hc => ?_) (fun hc => ?_)
    · have h := Eq.mp (if_neg hc) h
      exact hK _ _ h
    · have h := Eq.mp (if_pos hc) h
      refine E_aload_n dX12_rest_27 rfl rfl ?_
      refine E_callV (Y' := Y_X12_passes) (as := []) (st := []) dX12_rest_28 lk_RX12_385 m_X12_passes (by decide) (Nat.le_refl _) (Nat.le_refl _) rfl rfl (Nat.le_of_ble_eq_true rfl) (s_X12_passes h) (fun r0 B0 σ_4 h => ?_)
      obtain ⟨r_5, rfl, rfl, h⟩ := h
      refine E_pop dX12_rest_31 (fun _ q => by cases q) ?_
      refine E_iinc (ls' := [some (vR 12 0), some (vI (wi (x1 + 1)))]) dX12_rest_32 rfl (by decide) rfl rfl ?_
      refine E_goto (tgt := 20) dX12_rest_35 (by decide) ?_
      exact hR _ _ h
def P_X12_rest   (σ : St) (Q : Int → St → Prop) : Prop :=
  P_X12_copies 1346 0 0 1348 0 0 (up σ 12 0 0 0) (fun σ_1 => P_X12_rest_L20 (fun x1_6 σ_7 => P_X12_copies 1348 0 0 1346 0 0 σ_7 (fun σ_8 => Q x1_6 σ_8)) Q FU 0 σ_1)
set_option maxRecDepth 20000 in
set_option maxHeartbeats 2000000 in
theorem s_X12_rest    {σ : St} {Q : Int → St → Prop} (h : P_X12_rest  σ Q) : Cn Y_X12_rest 4 0 0 ww σ [vR 12 0] (QI Q) := by
  refine Cn_of [some (vR 12 0), none] (by decide) (Nat.le_of_ble_eq_true rfl) rfl ?_
  unfold P_X12_rest at h
  refine E_aload_n dX12_rest_0 rfl rfl ?_
  refine E_ic dX12_rest_1 rfl ?_
  refine E_puti dX12_rest_2 fl_RX12_141 rfl rfl rfl ?_
  refine E_aload_n dX12_rest_5 rfl rfl ?_
  refine E_getr (i := 0) dX12_rest_6 fl_RX12_111 rfl rfl (go_12_46 _ _) ?_
  refine E_ic dX12_rest_9 rfl ?_
  refine E_aload_n dX12_rest_10 rfl rfl ?_
  refine E_getr (i := 0) dX12_rest_11 fl_RX12_117 rfl rfl (go_12_48 _ _) ?_
  refine E_ic dX12_rest_14 rfl ?_
  refine E_callS (Y' := Y_X12_copies) (as := [vR 1346 0, vI 0, vR 1348 0, vI 0]) (st := []) dX12_rest_15 lk_RX12_409 m_X12_copies (by decide) (Nat.le_refl _) (Nat.le_refl _) rfl rfl (Nat.le_of_ble_eq_true rfl) (s_X12_copies h) (fun r0 B0 σ_1 h => ?_)
  obtain ⟨rfl, rfl, h⟩ := h
  refine E_ic dX12_rest_18 rfl ?_
  refine E_istore_n (ls' := [some (vR 12 0), some (vI 0)]) dX12_rest_19 rfl (by decide) rfl ?_
  refine e_P_X12_rest_L20 ?_ _ _ _ h
  · intro x1_6 σ_7 h
    refine E_aload_n dX12_rest_38 rfl rfl ?_
    refine E_getr (i := 0) dX12_rest_39 fl_RX12_117 rfl rfl (go_12_48 _ _) ?_
    refine E_ic dX12_rest_42 rfl ?_
    refine E_aload_n dX12_rest_43 rfl rfl ?_
    refine E_getr (i := 0) dX12_rest_44 fl_RX12_111 rfl rfl (go_12_46 _ _) ?_
    refine E_ic dX12_rest_47 rfl ?_
    refine E_callS (Y' := Y_X12_copies) (as := [vR 1348 0, vI 0, vR 1346 0, vI 0]) (st := []) dX12_rest_48 lk_RX12_409 m_X12_copies (by decide) (Nat.le_refl _) (Nat.le_refl _) rfl rfl (Nat.le_of_ble_eq_true rfl) (s_X12_copies h) (fun r0 B0 σ_8 h => ?_)
    obtain ⟨rfl, rfl, h⟩ := h
    refine E_iload_n dX12_rest_51 rfl rfl ?_
    exact E_iret dX12_rest_52 rfl ⟨_, rfl, rfl, h⟩
abbrev Y_X12_row : My := (yX12_row, cX12_row, 2, some .int)
theorem dX12_row_0 : decode cX12_row 0 = .ok (.aload_n 0, 1) := by decide +kernel
theorem dX12_row_1 : decode cX12_row 1 = .ok (.iconst 0, 1) := by decide +kernel
theorem dX12_row_2 : decode cX12_row 2 = .ok (.putfield 141, 3) := by decide +kernel
theorem dX12_row_5 : decode cX12_row 5 = .ok (.iload_n 1, 1) := by decide +kernel
theorem dX12_row_6 : decode cX12_row 6 = .ok (.ifCond .lt 24, 3) := by decide +kernel
theorem dX12_row_9 : decode cX12_row 9 = .ok (.iload_n 1, 1) := by decide +kernel
theorem dX12_row_10 : decode cX12_row 10 = .ok (.aload_n 0, 1) := by decide +kernel
theorem dX12_row_11 : decode cX12_row 11 = .ok (.getfield 111, 3) := by decide +kernel
theorem dX12_row_14 : decode cX12_row 14 = .ok (.iconst 3, 1) := by decide +kernel
theorem dX12_row_15 : decode cX12_row 15 = .ok (.iaload, 1) := by decide +kernel
theorem dX12_row_16 : decode cX12_row 16 = .ok (.if_icmp .ge 14, 3) := by decide +kernel
theorem dX12_row_19 : decode cX12_row 19 = .ok (.aload_n 0, 1) := by decide +kernel
theorem dX12_row_20 : decode cX12_row 20 = .ok (.getfield 111, 3) := by decide +kernel
theorem dX12_row_23 : decode cX12_row 23 = .ok (.iconst 4, 1) := by decide +kernel
theorem dX12_row_24 : decode cX12_row 24 = .ok (.iload_n 1, 1) := by decide +kernel
theorem dX12_row_25 : decode cX12_row 25 = .ok (.iadd, 1) := by decide +kernel
theorem dX12_row_26 : decode cX12_row 26 = .ok (.iaload, 1) := by decide +kernel
theorem dX12_row_27 : decode cX12_row 27 = .ok (.goto 4, 3) := by decide +kernel
theorem dX12_row_30 : decode cX12_row 30 = .ok (.iconst (-1), 1) := by decide +kernel
theorem dX12_row_31 : decode cX12_row 31 = .ok (.ireturn, 1) := by decide +kernel
def P_X12_row_J30    (Q : Int → St → Prop) (σ : St) : Prop :=
  Q (-1) σ
set_option maxRecDepth 20000 in
set_option maxHeartbeats 2000000 in
theorem e_P_X12_row_J30    {Q : Int → St → Prop} {σ : St}   (h : P_X12_row_J30  Q σ) : E Y_X12_row 0 0 0 (QI Q) ww 0 0 30 [none, none] [] σ := by
  unfold P_X12_row_J30 at h
  refine E_ic dX12_row_30 rfl ?_
  exact E_iret dX12_row_31 rfl ⟨_, rfl, rfl, h⟩
def P_X12_row  (x1 : Int) (σ : St) (Q : Int → St → Prop) : Prop :=
  (if x1 < 0 then P_X12_row_J30 Q (up σ 12 0 0 0) else (if ((up σ 12 0 0 0) 1346 0 3) ≤ x1 then P_X12_row_J30 Q (up σ 12 0 0 0) else 0 ≤ wi (4 + x1) ∧ wi (4 + x1) < 46 ∧ Q ((up σ 12 0 0 0) 1346 0 (wi (4 + x1))) (up σ 12 0 0 0)))
set_option maxRecDepth 20000 in
set_option maxHeartbeats 2000000 in
theorem s_X12_row   {x1 : Int} {σ : St} {Q : Int → St → Prop} (h : P_X12_row x1 σ Q) : Cn Y_X12_row 0 0 0 ww σ [vR 12 0, vI x1] (QI Q) := by
  refine Cn_of [some (vR 12 0), some (vI x1)] (by decide) (Nat.le_of_ble_eq_true rfl) rfl ?_
  unfold P_X12_row at h
  refine E_aload_n dX12_row_0 rfl rfl ?_
  refine E_ic dX12_row_1 rfl ?_
  refine E_puti dX12_row_2 fl_RX12_141 rfl rfl rfl ?_
  refine E_iload_n dX12_row_5 rfl rfl ?_
  refine E_if_lt (tgt := 30) dX12_row_6 (by decide) (fun hc => ?_) (fun hc => ?_)
  · have h := Eq.mp (if_pos hc) h
    refine E_wk2 [none, none] trivial ?_
    exact e_P_X12_row_J30 h
  · have h := Eq.mp (if_neg hc) h
    refine E_iload_n dX12_row_9 rfl rfl ?_
    refine E_aload_n dX12_row_10 rfl rfl ?_
    refine E_getr (i := 0) dX12_row_11 fl_RX12_111 rfl rfl (go_12_46 _ _) ?_
    refine E_ic dX12_row_14 rfl ?_
    refine E_iald dX12_row_15 sh_1346 (by decide) (by decide) ?_
    refine E_icmp_ge (tgt := 30) dX12_row_16 (by decide) (fun hc => ?_) (fun hc => ?_)
    · have h := Eq.mp (if_pos hc) h
      refine E_wk2 [none, none] trivial ?_
      exact e_P_X12_row_J30 h
    · have h := Eq.mp (if_neg hc) h
      refine E_aload_n dX12_row_19 rfl rfl ?_
      refine E_getr (i := 0) dX12_row_20 fl_RX12_111 rfl rfl (go_12_46 _ _) ?_
      refine E_ic dX12_row_23 rfl ?_
      refine E_iload_n dX12_row_24 rfl rfl ?_
      refine E_iadd dX12_row_25 ?_
      obtain ⟨hg0, hg1, h⟩ := h
      refine E_iald dX12_row_26 sh_1346 hg0 hg1 ?_
      refine E_goto (tgt := 31) dX12_row_27 (by decide) ?_
      exact E_iret dX12_row_31 rfl ⟨_, rfl, rfl, h⟩
abbrev Y_X12_last : My := (yX12_last, cX12_last, 4, some .int)
theorem dX12_last_0 : decode cX12_last 0 = .ok (.aload_n 0, 1) := by decide +kernel
theorem dX12_last_1 : decode cX12_last 1 = .ok (.iconst 0, 1) := by decide +kernel
theorem dX12_last_2 : decode cX12_last 2 = .ok (.putfield 141, 3) := by decide +kernel
theorem dX12_last_5 : decode cX12_last 5 = .ok (.aload_n 0, 1) := by decide +kernel
theorem dX12_last_6 : decode cX12_last 6 = .ok (.getfield 111, 3) := by decide +kernel
theorem dX12_last_9 : decode cX12_last 9 = .ok (.iconst 0, 1) := by decide +kernel
theorem dX12_last_10 : decode cX12_last 10 = .ok (.aload_n 0, 1) := by decide +kernel
theorem dX12_last_11 : decode cX12_last 11 = .ok (.getfield 117, 3) := by decide +kernel
theorem dX12_last_14 : decode cX12_last 14 = .ok (.iconst 0, 1) := by decide +kernel
theorem dX12_last_15 : decode cX12_last 15 = .ok (.invokestatic 409, 3) := by decide +kernel
theorem dX12_last_18 : decode cX12_last 18 = .ok (.iconst (-1), 1) := by decide +kernel
theorem dX12_last_19 : decode cX12_last 19 = .ok (.istore_n 1, 1) := by decide +kernel
theorem dX12_last_20 : decode cX12_last 20 = .ok (.aload_n 0, 1) := by decide +kernel
theorem dX12_last_21 : decode cX12_last 21 = .ok (.invokevirtual 379, 3) := by decide +kernel
theorem dX12_last_24 : decode cX12_last 24 = .ok (.ifCond .ne 34, 3) := by decide +kernel
theorem dX12_last_27 : decode cX12_last 27 = .ok (.aload_n 0, 1) := by decide +kernel
theorem dX12_last_28 : decode cX12_last 28 = .ok (.invokevirtual 385, 3) := by decide +kernel
theorem dX12_last_31 : decode cX12_last 31 = .ok (.istore_n 2, 1) := by decide +kernel
theorem dX12_last_32 : decode cX12_last 32 = .ok (.iconst 5, 1) := by decide +kernel
theorem dX12_last_33 : decode cX12_last 33 = .ok (.istore_n 3, 1) := by decide +kernel
theorem dX12_last_34 : decode cX12_last 34 = .ok (.iload_n 3, 1) := by decide +kernel
theorem dX12_last_35 : decode cX12_last 35 = .ok (.ifCond .lt 20, 3) := by decide +kernel
theorem dX12_last_38 : decode cX12_last 38 = .ok (.iload_n 2, 1) := by decide +kernel
theorem dX12_last_39 : decode cX12_last 39 = .ok (.iload_n 3, 1) := by decide +kernel
theorem dX12_last_40 : decode cX12_last 40 = .ok (.ishr, 1) := by decide +kernel
theorem dX12_last_41 : decode cX12_last 41 = .ok (.iconst 1, 1) := by decide +kernel
theorem dX12_last_42 : decode cX12_last 42 = .ok (.iand, 1) := by decide +kernel
theorem dX12_last_43 : decode cX12_last 43 = .ok (.iconst 1, 1) := by decide +kernel
theorem dX12_last_44 : decode cX12_last 44 = .ok (.if_icmp .ne 5, 3) := by decide +kernel
theorem dX12_last_47 : decode cX12_last 47 = .ok (.iload_n 3, 1) := by decide +kernel
theorem dX12_last_48 : decode cX12_last 48 = .ok (.istore_n 1, 1) := by decide +kernel
theorem dX12_last_49 : decode cX12_last 49 = .ok (.iinc 3 (-1), 3) := by decide +kernel
theorem dX12_last_52 : decode cX12_last 52 = .ok (.goto (-18), 3) := by decide +kernel
theorem dX12_last_55 : decode cX12_last 55 = .ok (.goto (-35), 3) := by decide +kernel
theorem dX12_last_58 : decode cX12_last 58 = .ok (.aload_n 0, 1) := by decide +kernel
theorem dX12_last_59 : decode cX12_last 59 = .ok (.getfield 117, 3) := by decide +kernel
theorem dX12_last_62 : decode cX12_last 62 = .ok (.iconst 0, 1) := by decide +kernel
theorem dX12_last_63 : decode cX12_last 63 = .ok (.aload_n 0, 1) := by decide +kernel
theorem dX12_last_64 : decode cX12_last 64 = .ok (.getfield 111, 3) := by decide +kernel
theorem dX12_last_67 : decode cX12_last 67 = .ok (.iconst 0, 1) := by decide +kernel
theorem dX12_last_68 : decode cX12_last 68 = .ok (.invokestatic 409, 3) := by decide +kernel
theorem dX12_last_71 : decode cX12_last 71 = .ok (.iload_n 1, 1) := by decide +kernel
theorem dX12_last_72 : decode cX12_last 72 = .ok (.ireturn, 1) := by decide +kernel
def P_X12_last_L34  (x2 : Int) (K : Int → St → Prop) (Q : Int → St → Prop) : Nat → Int → Int → St → Prop
  | 0, _, _, _ => False
  | n + 1, x1, x3, σ => (if x3 < 0 then K x1 σ else (if (bA (bR x2 x3) 1) = 1 then (P_X12_last_L34 x2 K Q n) x3 (wi (x3 + (-1))) σ else (P_X12_last_L34 x2 K Q n) x1 (wi (x3 + (-1))) σ))
set_option maxRecDepth 20000 in
set_option maxHeartbeats 2000000 in
theorem e_P_X12_last_L34  {x2 : Int} {K : Int → St → Prop} {Q : Int → St → Prop}  (hK : ∀ x1 σ, K x1 σ → E Y_X12_last 4 0 0 (QI Q) ww 0 0 55 [some (vR 12 0), some (vI x1), none, none] [] σ) : ∀ (n : Nat) (x1 : Int) (x3 : Int) (σ : St), P_X12_last_L34 x2 K Q n x1 x3 σ → E Y_X12_last 4 0 0 (QI Q) ww 0 0 34 [some (vR 12 0), some (vI x1), some (vI x2), some (vI x3)] [] σ := by
  intro n
  induction n with
  | zero => intro x1 x3 σ h; exact h.elim
  | succ n hR =>
    intro x1 x3 σ h
    unfold P_X12_last_L34 at h
    refine E_iload_n dX12_last_34 rfl rfl ?_
    refine E_if_lt (tgt := 55) dX12_last_35 (by decide) (fun hc => ?_) (fun hc => ?_)
    · have h := Eq.mp (if_pos hc) h
      refine E_wk2 [some (vR 12 0), some (vI x1), none, none] ⟨rfl, ⟨rfl, trivial⟩⟩ ?_
      exact hK _ _ h
    · have h := Eq.mp (if_neg hc) h
      refine E_iload_n dX12_last_38 rfl rfl ?_
      refine E_iload_n dX12_last_39 rfl rfl ?_
      refine E_ishr dX12_last_40 ?_
      refine E_ic dX12_last_41 rfl ?_
      refine E_iand dX12_last_42 ?_
      refine E_ic dX12_last_43 rfl ?_
      refine E_icmp_ne (tgt := 49) dX12_last_44 (by decide) (fun hc => ?_) (fun hc => ?_)
      · have h := Eq.mp (if_neg hc) h
        refine E_iinc (ls' := [some (vR 12 0), some (vI x1), some (vI x2), some (vI (wi (x3 + (-1))))]) dX12_last_49 rfl (by decide) rfl rfl ?_
        refine E_goto (tgt := 34) dX12_last_52 (by decide) ?_
        exact hR _ _ _ h
      · have h := Eq.mp (if_pos hc) h
        refine E_iload_n dX12_last_47 rfl rfl ?_
        refine E_istore_n (ls' := [some (vR 12 0), some (vI x3), some (vI x2), some (vI x3)]) dX12_last_48 rfl (by decide) rfl ?_
        refine E_iinc (ls' := [some (vR 12 0), some (vI x3), some (vI x2), some (vI (wi (x3 + (-1))))]) dX12_last_49 rfl (by decide) rfl rfl ?_
        refine E_goto (tgt := 34) dX12_last_52 (by decide) ?_
        exact hR _ _ _ h
def P_X12_last_L20   (K : Int → St → Prop) (Q : Int → St → Prop) : Nat → Int → St → Prop
  | 0, _, _ => False
  | n + 1, x1, σ => P_X12_doAllRest σ (fun r_3 σ_2 => (if r_3 = 0 then P_X12_passes σ_2 (fun r_5 σ_4 => P_X12_last_L34 r_5 (fun x1_6 σ_7 => (P_X12_last_L20 K Q n) x1_6 σ_7) Q FU x1 5 σ_4) else K x1 σ_2))
set_option maxRecDepth 20000 in
set_option maxHeartbeats 2000000 in
theorem e_P_X12_last_L20   {K : Int → St → Prop} {Q : Int → St → Prop}  (hK : ∀ x1 σ, K x1 σ → E Y_X12_last 4 0 0 (QI Q) ww 0 0 58 [some (vR 12 0), some (vI x1), none, none] [] σ) : ∀ (n : Nat) (x1 : Int) (σ : St), P_X12_last_L20 K Q n x1 σ → E Y_X12_last 4 0 0 (QI Q) ww 0 0 20 [some (vR 12 0), some (vI x1), none, none] [] σ := by
  intro n
  induction n with
  | zero => intro x1 σ h; exact h.elim
  | succ n hR =>
    intro x1 σ h
    unfold P_X12_last_L20 at h
    refine E_aload_n dX12_last_20 rfl rfl ?_
    refine E_callV (Y' := Y_X12_doAllRest) (as := []) (st := []) dX12_last_21 lk_RX12_379 m_X12_doAllRest (by decide) (Nat.le_refl _) (Nat.le_refl _) rfl rfl (Nat.le_of_ble_eq_true rfl) (s_X12_doAllRest h) (fun r0 B0 σ_2 h => ?_)
    obtain ⟨r_3, rfl, rfl, h⟩ := h
    refine E_if_ne (tgt := 58) dX12_last_24 (by decide) (fun hc => ?_) (fun hc => ?_)
    · have h := Eq.mp (if_neg hc) h
      exact hK _ _ h
    · have h := Eq.mp (if_pos hc) h
      refine E_aload_n dX12_last_27 rfl rfl ?_
      refine E_callV (Y' := Y_X12_passes) (as := []) (st := []) dX12_last_28 lk_RX12_385 m_X12_passes (by decide) (Nat.le_refl _) (Nat.le_refl _) rfl rfl (Nat.le_of_ble_eq_true rfl) (s_X12_passes h) (fun r0 B0 σ_4 h => ?_)
      obtain ⟨r_5, rfl, rfl, h⟩ := h
      refine E_istore_n (ls' := [some (vR 12 0), some (vI x1), some (vI r_5), none]) dX12_last_31 rfl (by decide) rfl ?_
      refine E_ic dX12_last_32 rfl ?_
      refine E_istore_n (ls' := [some (vR 12 0), some (vI x1), some (vI r_5), some (vI 5)]) dX12_last_33 rfl (by decide) rfl ?_
      refine e_P_X12_last_L34 ?_ _ _ _ _ h
      · intro x1_6 σ_7 h
        refine E_goto (tgt := 20) dX12_last_55 (by decide) ?_
        exact hR _ _ h
def P_X12_last   (σ : St) (Q : Int → St → Prop) : Prop :=
  P_X12_copies 1346 0 0 1348 0 0 (up σ 12 0 0 0) (fun σ_1 => P_X12_last_L20 (fun x1_8 σ_9 => P_X12_copies 1348 0 0 1346 0 0 σ_9 (fun σ_10 => Q x1_8 σ_10)) Q FU (-1) σ_1)
set_option maxRecDepth 20000 in
set_option maxHeartbeats 2000000 in
theorem s_X12_last    {σ : St} {Q : Int → St → Prop} (h : P_X12_last  σ Q) : Cn Y_X12_last 4 0 0 ww σ [vR 12 0] (QI Q) := by
  refine Cn_of [some (vR 12 0), none, none, none] (by decide) (Nat.le_of_ble_eq_true rfl) rfl ?_
  unfold P_X12_last at h
  refine E_aload_n dX12_last_0 rfl rfl ?_
  refine E_ic dX12_last_1 rfl ?_
  refine E_puti dX12_last_2 fl_RX12_141 rfl rfl rfl ?_
  refine E_aload_n dX12_last_5 rfl rfl ?_
  refine E_getr (i := 0) dX12_last_6 fl_RX12_111 rfl rfl (go_12_46 _ _) ?_
  refine E_ic dX12_last_9 rfl ?_
  refine E_aload_n dX12_last_10 rfl rfl ?_
  refine E_getr (i := 0) dX12_last_11 fl_RX12_117 rfl rfl (go_12_48 _ _) ?_
  refine E_ic dX12_last_14 rfl ?_
  refine E_callS (Y' := Y_X12_copies) (as := [vR 1346 0, vI 0, vR 1348 0, vI 0]) (st := []) dX12_last_15 lk_RX12_409 m_X12_copies (by decide) (Nat.le_refl _) (Nat.le_refl _) rfl rfl (Nat.le_of_ble_eq_true rfl) (s_X12_copies h) (fun r0 B0 σ_1 h => ?_)
  obtain ⟨rfl, rfl, h⟩ := h
  refine E_ic dX12_last_18 rfl ?_
  refine E_istore_n (ls' := [some (vR 12 0), some (vI (-1)), none, none]) dX12_last_19 rfl (by decide) rfl ?_
  refine e_P_X12_last_L20 ?_ _ _ _ h
  · intro x1_8 σ_9 h
    refine E_aload_n dX12_last_58 rfl rfl ?_
    refine E_getr (i := 0) dX12_last_59 fl_RX12_117 rfl rfl (go_12_48 _ _) ?_
    refine E_ic dX12_last_62 rfl ?_
    refine E_aload_n dX12_last_63 rfl rfl ?_
    refine E_getr (i := 0) dX12_last_64 fl_RX12_111 rfl rfl (go_12_46 _ _) ?_
    refine E_ic dX12_last_67 rfl ?_
    refine E_callS (Y' := Y_X12_copies) (as := [vR 1348 0, vI 0, vR 1346 0, vI 0]) (st := []) dX12_last_68 lk_RX12_409 m_X12_copies (by decide) (Nat.le_refl _) (Nat.le_refl _) rfl rfl (Nat.le_of_ble_eq_true rfl) (s_X12_copies h) (fun r0 B0 σ_10 h => ?_)
    obtain ⟨rfl, rfl, h⟩ := h
    refine E_iload_n dX12_last_71 rfl rfl ?_
    exact E_iret dX12_last_72 rfl ⟨_, rfl, rfl, h⟩
abbrev Y_X12_later : My := (yX12_later, cX12_later, 4, some .int)
theorem dX12_later_0 : decode cX12_later 0 = .ok (.aload_n 0, 1) := by decide +kernel
theorem dX12_later_1 : decode cX12_later 1 = .ok (.iconst 0, 1) := by decide +kernel
theorem dX12_later_2 : decode cX12_later 2 = .ok (.putfield 141, 3) := by decide +kernel
theorem dX12_later_5 : decode cX12_later 5 = .ok (.aload_n 0, 1) := by decide +kernel
theorem dX12_later_6 : decode cX12_later 6 = .ok (.iload_n 1, 1) := by decide +kernel
theorem dX12_later_7 : decode cX12_later 7 = .ok (.invokevirtual 406, 3) := by decide +kernel
theorem dX12_later_10 : decode cX12_later 10 = .ok (.ifCond .eq 13, 3) := by decide +kernel
theorem dX12_later_13 : decode cX12_later 13 = .ok (.iload_n 2, 1) := by decide +kernel
theorem dX12_later_14 : decode cX12_later 14 = .ok (.iconst 0, 1) := by decide +kernel
theorem dX12_later_15 : decode cX12_later 15 = .ok (.bipush 60, 2) := by decide +kernel
theorem dX12_later_17 : decode cX12_later 17 = .ok (.invokestatic 264, 3) := by decide +kernel
theorem dX12_later_20 : decode cX12_later 20 = .ok (.ifCond .ne 5, 3) := by decide +kernel
theorem dX12_later_23 : decode cX12_later 23 = .ok (.iconst (-1), 1) := by decide +kernel
theorem dX12_later_24 : decode cX12_later 24 = .ok (.ireturn, 1) := by decide +kernel
theorem dX12_later_25 : decode cX12_later 25 = .ok (.aload_n 0, 1) := by decide +kernel
theorem dX12_later_26 : decode cX12_later 26 = .ok (.getfield 111, 3) := by decide +kernel
theorem dX12_later_29 : decode cX12_later 29 = .ok (.iconst 0, 1) := by decide +kernel
theorem dX12_later_30 : decode cX12_later 30 = .ok (.aload_n 0, 1) := by decide +kernel
theorem dX12_later_31 : decode cX12_later 31 = .ok (.getfield 117, 3) := by decide +kernel
theorem dX12_later_34 : decode cX12_later 34 = .ok (.iconst 0, 1) := by decide +kernel
theorem dX12_later_35 : decode cX12_later 35 = .ok (.invokestatic 409, 3) := by decide +kernel
theorem dX12_later_38 : decode cX12_later 38 = .ok (.iconst 0, 1) := by decide +kernel
theorem dX12_later_39 : decode cX12_later 39 = .ok (.istore_n 3, 1) := by decide +kernel
theorem dX12_later_40 : decode cX12_later 40 = .ok (.iload_n 3, 1) := by decide +kernel
theorem dX12_later_41 : decode cX12_later 41 = .ok (.iload_n 2, 1) := by decide +kernel
theorem dX12_later_42 : decode cX12_later 42 = .ok (.if_icmp .ge 14, 3) := by decide +kernel
theorem dX12_later_45 : decode cX12_later 45 = .ok (.aload_n 0, 1) := by decide +kernel
theorem dX12_later_46 : decode cX12_later 46 = .ok (.invokevirtual 425, 3) := by decide +kernel
theorem dX12_later_49 : decode cX12_later 49 = .ok (.pop, 1) := by decide +kernel
theorem dX12_later_50 : decode cX12_later 50 = .ok (.iinc 3 1, 3) := by decide +kernel
theorem dX12_later_53 : decode cX12_later 53 = .ok (.goto (-13), 3) := by decide +kernel
theorem dX12_later_56 : decode cX12_later 56 = .ok (.aload_n 0, 1) := by decide +kernel
theorem dX12_later_57 : decode cX12_later 57 = .ok (.getfield 111, 3) := by decide +kernel
theorem dX12_later_60 : decode cX12_later 60 = .ok (.bipush 16, 2) := by decide +kernel
theorem dX12_later_62 : decode cX12_later 62 = .ok (.iload_n 1, 1) := by decide +kernel
theorem dX12_later_63 : decode cX12_later 63 = .ok (.iadd, 1) := by decide +kernel
theorem dX12_later_64 : decode cX12_later 64 = .ok (.iaload, 1) := by decide +kernel
theorem dX12_later_65 : decode cX12_later 65 = .ok (.istore_n 3, 1) := by decide +kernel
theorem dX12_later_66 : decode cX12_later 66 = .ok (.aload_n 0, 1) := by decide +kernel
theorem dX12_later_67 : decode cX12_later 67 = .ok (.getfield 117, 3) := by decide +kernel
theorem dX12_later_70 : decode cX12_later 70 = .ok (.iconst 0, 1) := by decide +kernel
theorem dX12_later_71 : decode cX12_later 71 = .ok (.aload_n 0, 1) := by decide +kernel
theorem dX12_later_72 : decode cX12_later 72 = .ok (.getfield 111, 3) := by decide +kernel
theorem dX12_later_75 : decode cX12_later 75 = .ok (.iconst 0, 1) := by decide +kernel
theorem dX12_later_76 : decode cX12_later 76 = .ok (.invokestatic 409, 3) := by decide +kernel
theorem dX12_later_79 : decode cX12_later 79 = .ok (.iload_n 3, 1) := by decide +kernel
theorem dX12_later_80 : decode cX12_later 80 = .ok (.ireturn, 1) := by decide +kernel
def P_X12_later_L40  (x1 : Int) (x2 : Int) (K : St → Prop) (Q : Int → St → Prop) : Nat → Int → St → Prop
  | 0, _, _ => False
  | n + 1, x3, σ => (if x2 ≤ x3 then K σ else P_X12_endsAsTold σ (fun r_7 σ_6 => (P_X12_later_L40 x1 x2 K Q n) (wi (x3 + 1)) σ_6))
set_option maxRecDepth 20000 in
set_option maxHeartbeats 2000000 in
theorem e_P_X12_later_L40  {x1 : Int} {x2 : Int} {K : St → Prop} {Q : Int → St → Prop}  (hK : ∀ σ, K σ → E Y_X12_later 6 0 0 (QI Q) ww 0 0 56 [some (vR 12 0), some (vI x1), none, none] [] σ) : ∀ (n : Nat) (x3 : Int) (σ : St), P_X12_later_L40 x1 x2 K Q n x3 σ → E Y_X12_later 6 0 0 (QI Q) ww 0 0 40 [some (vR 12 0), some (vI x1), some (vI x2), some (vI x3)] [] σ := by
  intro n
  induction n with
  | zero => intro x3 σ h; exact h.elim
  | succ n hR =>
    intro x3 σ h
    unfold P_X12_later_L40 at h
    refine E_iload_n dX12_later_40 rfl rfl ?_
    refine E_iload_n dX12_later_41 rfl rfl ?_
    refine E_icmp_ge (tgt := 56) dX12_later_42 (by decide) (fun hc => ?_) (fun hc => ?_)
    · have h := Eq.mp (if_pos hc) h
      refine E_wk2 [some (vR 12 0), some (vI x1), none, none] ⟨rfl, ⟨rfl, trivial⟩⟩ ?_
      exact hK _ h
    · have h := Eq.mp (if_neg hc) h
      refine E_aload_n dX12_later_45 rfl rfl ?_
      refine E_callV (Y' := Y_X12_endsAsTold) (as := []) (st := []) dX12_later_46 lk_RX12_425 m_X12_endsAsTold (by decide) (Nat.le_refl _) (Nat.le_refl _) rfl rfl (Nat.le_of_ble_eq_true rfl) (s_X12_endsAsTold h) (fun r0 B0 σ_6 h => ?_)
      obtain ⟨r_7, rfl, rfl, h⟩ := h
      refine E_pop dX12_later_49 (fun _ q => by cases q) ?_
      refine E_iinc (ls' := [some (vR 12 0), some (vI x1), some (vI x2), some (vI (wi (x3 + 1)))]) dX12_later_50 rfl (by decide) rfl rfl ?_
      refine E_goto (tgt := 40) dX12_later_53 (by decide) ?_
      exact hR _ _ h
def P_X12_later  (x1 : Int) (x2 : Int) (σ : St) (Q : Int → St → Prop) : Prop :=
  P_X12_isBall x1 (up σ 12 0 0 0) (fun r_2 σ_1 => (if r_2 = 0 then Q (-1) σ_1 else P_X12_within x2 0 60 σ_1 (fun r_4 σ_3 => (if r_4 = 0 then Q (-1) σ_3 else P_X12_copies 1346 0 0 1348 0 0 σ_3 (fun σ_5 => P_X12_later_L40 x1 x2 (fun σ_8 => 0 ≤ wi (16 + x1) ∧ wi (16 + x1) < 46 ∧ P_X12_copies 1348 0 0 1346 0 0 σ_8 (fun σ_9 => Q (σ_8 1346 0 (wi (16 + x1))) σ_9)) Q FU 0 σ_5)))))
set_option maxRecDepth 20000 in
set_option maxHeartbeats 2000000 in
theorem s_X12_later   {x1 : Int} {x2 : Int} {σ : St} {Q : Int → St → Prop} (h : P_X12_later x1 x2 σ Q) : Cn Y_X12_later 6 0 0 ww σ [vR 12 0, vI x1, vI x2] (QI Q) := by
  refine Cn_of [some (vR 12 0), some (vI x1), some (vI x2), none] (by decide) (Nat.le_of_ble_eq_true rfl) rfl ?_
  unfold P_X12_later at h
  refine E_aload_n dX12_later_0 rfl rfl ?_
  refine E_ic dX12_later_1 rfl ?_
  refine E_puti dX12_later_2 fl_RX12_141 rfl rfl rfl ?_
  refine E_aload_n dX12_later_5 rfl rfl ?_
  refine E_iload_n dX12_later_6 rfl rfl ?_
  refine E_callV (Y' := Y_X12_isBall) (as := [vI x1]) (st := []) dX12_later_7 lk_RX12_406 m_X12_isBall (by decide) (Nat.le_refl _) (Nat.le_refl _) rfl rfl (Nat.le_of_ble_eq_true rfl) (s_X12_isBall h) (fun r0 B0 σ_1 h => ?_)
  obtain ⟨r_2, rfl, rfl, h⟩ := h
  refine E_if_eq (tgt := 23) dX12_later_10 (by decide) (fun hc => ?_) (fun hc => ?_)
  · have h := Eq.mp (if_pos hc) h
    refine E_ic dX12_later_23 rfl ?_
    exact E_iret dX12_later_24 rfl ⟨_, rfl, rfl, h⟩
  · have h := Eq.mp (if_neg hc) h
    refine E_iload_n dX12_later_13 rfl rfl ?_
    refine E_ic dX12_later_14 rfl ?_
    refine E_bp dX12_later_15 rfl ?_
    refine E_callS (Y' := Y_X12_within) (as := [vI x2, vI 0, vI 60]) (st := []) dX12_later_17 lk_RX12_264 m_X12_within (by decide) (Nat.le_refl _) (Nat.le_refl _) rfl rfl (Nat.le_of_ble_eq_true rfl) (s_X12_within h) (fun r0 B0 σ_3 h => ?_)
    obtain ⟨r_4, rfl, rfl, h⟩ := h
    refine E_if_ne (tgt := 25) dX12_later_20 (by decide) (fun hc => ?_) (fun hc => ?_)
    · have h := Eq.mp (if_neg hc) h
      refine E_aload_n dX12_later_25 rfl rfl ?_
      refine E_getr (i := 0) dX12_later_26 fl_RX12_111 rfl rfl (go_12_46 _ _) ?_
      refine E_ic dX12_later_29 rfl ?_
      refine E_aload_n dX12_later_30 rfl rfl ?_
      refine E_getr (i := 0) dX12_later_31 fl_RX12_117 rfl rfl (go_12_48 _ _) ?_
      refine E_ic dX12_later_34 rfl ?_
      refine E_callS (Y' := Y_X12_copies) (as := [vR 1346 0, vI 0, vR 1348 0, vI 0]) (st := []) dX12_later_35 lk_RX12_409 m_X12_copies (by decide) (Nat.le_refl _) (Nat.le_refl _) rfl rfl (Nat.le_of_ble_eq_true rfl) (s_X12_copies h) (fun r0 B0 σ_5 h => ?_)
      obtain ⟨rfl, rfl, h⟩ := h
      refine E_ic dX12_later_38 rfl ?_
      refine E_istore_n (ls' := [some (vR 12 0), some (vI x1), some (vI x2), some (vI 0)]) dX12_later_39 rfl (by decide) rfl ?_
      refine e_P_X12_later_L40 ?_ _ _ _ h
      · intro σ_8 h
        refine E_aload_n dX12_later_56 rfl rfl ?_
        refine E_getr (i := 0) dX12_later_57 fl_RX12_111 rfl rfl (go_12_46 _ _) ?_
        refine E_bp dX12_later_60 rfl ?_
        refine E_iload_n dX12_later_62 rfl rfl ?_
        refine E_iadd dX12_later_63 ?_
        obtain ⟨hg0, hg1, h⟩ := h
        refine E_iald dX12_later_64 sh_1346 hg0 hg1 ?_
        refine E_istore_n (ls' := [some (vR 12 0), some (vI x1), none, some (vI (σ_8 1346 0 (wi (16 + x1))))]) dX12_later_65 rfl (by decide) rfl ?_
        refine E_aload_n dX12_later_66 rfl rfl ?_
        refine E_getr (i := 0) dX12_later_67 fl_RX12_117 rfl rfl (go_12_48 _ _) ?_
        refine E_ic dX12_later_70 rfl ?_
        refine E_aload_n dX12_later_71 rfl rfl ?_
        refine E_getr (i := 0) dX12_later_72 fl_RX12_111 rfl rfl (go_12_46 _ _) ?_
        refine E_ic dX12_later_75 rfl ?_
        refine E_callS (Y' := Y_X12_copies) (as := [vR 1348 0, vI 0, vR 1346 0, vI 0]) (st := []) dX12_later_76 lk_RX12_409 m_X12_copies (by decide) (Nat.le_refl _) (Nat.le_refl _) rfl rfl (Nat.le_of_ble_eq_true rfl) (s_X12_copies h) (fun r0 B0 σ_9 h => ?_)
        obtain ⟨rfl, rfl, h⟩ := h
        refine E_iload_n dX12_later_79 rfl rfl ?_
        exact E_iret dX12_later_80 rfl ⟨_, rfl, rfl, h⟩
    · have h := Eq.mp (if_pos hc) h
      refine E_ic dX12_later_23 rfl ?_
      exact E_iret dX12_later_24 rfl ⟨_, rfl, rfl, h⟩
abbrev Y_X12_strays : My := (yX12_strays, cX12_strays, 3, some .int)
theorem dX12_strays_0 : decode cX12_strays 0 = .ok (.iconst 0, 1) := by decide +kernel
theorem dX12_strays_1 : decode cX12_strays 1 = .ok (.istore_n 1, 1) := by decide +kernel
theorem dX12_strays_2 : decode cX12_strays 2 = .ok (.iconst 0, 1) := by decide +kernel
theorem dX12_strays_3 : decode cX12_strays 3 = .ok (.istore_n 2, 1) := by decide +kernel
theorem dX12_strays_4 : decode cX12_strays 4 = .ok (.iload_n 2, 1) := by decide +kernel
theorem dX12_strays_5 : decode cX12_strays 5 = .ok (.aload_n 0, 1) := by decide +kernel
theorem dX12_strays_6 : decode cX12_strays 6 = .ok (.getfield 13, 3) := by decide +kernel
theorem dX12_strays_9 : decode cX12_strays 9 = .ok (.iconst 1, 1) := by decide +kernel
theorem dX12_strays_10 : decode cX12_strays 10 = .ok (.iaload, 1) := by decide +kernel
theorem dX12_strays_11 : decode cX12_strays 11 = .ok (.if_icmp .ge 33, 3) := by decide +kernel
theorem dX12_strays_14 : decode cX12_strays 14 = .ok (.iload_n 1, 1) := by decide +kernel
theorem dX12_strays_15 : decode cX12_strays 15 = .ok (.aload_n 0, 1) := by decide +kernel
theorem dX12_strays_16 : decode cX12_strays 16 = .ok (.iload_n 2, 1) := by decide +kernel
theorem dX12_strays_17 : decode cX12_strays 17 = .ok (.invokevirtual 366, 3) := by decide +kernel
theorem dX12_strays_20 : decode cX12_strays 20 = .ok (.aload_n 0, 1) := by decide +kernel
theorem dX12_strays_21 : decode cX12_strays 21 = .ok (.getfield 35, 3) := by decide +kernel
theorem dX12_strays_24 : decode cX12_strays 24 = .ok (.iload_n 2, 1) := by decide +kernel
theorem dX12_strays_25 : decode cX12_strays 25 = .ok (.iaload, 1) := by decide +kernel
theorem dX12_strays_26 : decode cX12_strays 26 = .ok (.if_icmp .eq 9, 3) := by decide +kernel
theorem dX12_strays_29 : decode cX12_strays 29 = .ok (.iconst 1, 1) := by decide +kernel
theorem dX12_strays_30 : decode cX12_strays 30 = .ok (.iload_n 2, 1) := by decide +kernel
theorem dX12_strays_31 : decode cX12_strays 31 = .ok (.ishl, 1) := by decide +kernel
theorem dX12_strays_32 : decode cX12_strays 32 = .ok (.goto 4, 3) := by decide +kernel
theorem dX12_strays_35 : decode cX12_strays 35 = .ok (.iconst 0, 1) := by decide +kernel
theorem dX12_strays_36 : decode cX12_strays 36 = .ok (.ior, 1) := by decide +kernel
theorem dX12_strays_37 : decode cX12_strays 37 = .ok (.istore_n 1, 1) := by decide +kernel
theorem dX12_strays_38 : decode cX12_strays 38 = .ok (.iinc 2 1, 3) := by decide +kernel
theorem dX12_strays_41 : decode cX12_strays 41 = .ok (.goto (-37), 3) := by decide +kernel
theorem dX12_strays_44 : decode cX12_strays 44 = .ok (.iload_n 1, 1) := by decide +kernel
theorem dX12_strays_45 : decode cX12_strays 45 = .ok (.ireturn, 1) := by decide +kernel
def P_X12_strays_L4    (Q : Int → St → Prop) : Nat → Int → Int → St → Prop
  | 0, _, _, _ => False
  | n + 1, x1, x2, σ => (if (σ 1310 0 1) ≤ x2 then Q x1 σ else P_X12_fallOf x2 σ (fun r_2 σ_1 => 0 ≤ x2 ∧ x2 < 12 ∧ (if r_2 = (σ_1 1317 0 x2) then (P_X12_strays_L4 Q n) (bO x1 0) (wi (x2 + 1)) σ_1 else (P_X12_strays_L4 Q n) (bO x1 (bL 1 x2)) (wi (x2 + 1)) σ_1)))
set_option maxRecDepth 20000 in
set_option maxHeartbeats 2000000 in
theorem e_P_X12_strays_L4    {Q : Int → St → Prop}   : ∀ (n : Nat) (x1 : Int) (x2 : Int) (σ : St), P_X12_strays_L4 Q n x1 x2 σ → E Y_X12_strays 2 0 0 (QI Q) ww 0 0 4 [some (vR 12 0), some (vI x1), some (vI x2)] [] σ := by
  intro n
  induction n with
  | zero => intro x1 x2 σ h; exact h.elim
  | succ n hR =>
    intro x1 x2 σ h
    unfold P_X12_strays_L4 at h
    refine E_iload_n dX12_strays_4 rfl rfl ?_
    refine E_aload_n dX12_strays_5 rfl rfl ?_
    refine E_getr (i := 0) dX12_strays_6 fl_RX12_13 rfl rfl (go_12_10 _ _) ?_
    refine E_ic dX12_strays_9 rfl ?_
    refine E_iald dX12_strays_10 sh_1310 (by decide) (by decide) ?_
    refine E_icmp_ge (tgt := 44) dX12_strays_11 (by decide) (fun hc => ?_) (fun hc => ?_)
    · have h := Eq.mp (if_pos hc) h
      refine E_iload_n dX12_strays_44 rfl rfl ?_
      exact E_iret dX12_strays_45 rfl ⟨_, rfl, rfl, h⟩
    · have h := Eq.mp (if_neg hc) h
      refine E_iload_n dX12_strays_14 rfl rfl ?_
      refine E_aload_n dX12_strays_15 rfl rfl ?_
      refine E_iload_n dX12_strays_16 rfl rfl ?_
      refine E_callV (Y' := Y_X12_fallOf) (as := [vI x2]) (st := [vI x1]) dX12_strays_17 lk_RX12_366 m_X12_fallOf (by decide) (Nat.le_refl _) (Nat.le_refl _) rfl rfl (Nat.le_of_ble_eq_true rfl) (s_X12_fallOf h) (fun r0 B0 σ_1 h => ?_)
      obtain ⟨r_2, rfl, rfl, h⟩ := h
      refine E_aload_n dX12_strays_20 rfl rfl ?_
      refine E_getr (i := 0) dX12_strays_21 fl_RX12_35 rfl rfl (go_12_17 _ _) ?_
      refine E_iload_n dX12_strays_24 rfl rfl ?_
      obtain ⟨hg0, hg1, h⟩ := h
      refine E_iald dX12_strays_25 sh_1317 hg0 hg1 ?_
      refine E_icmp_eq (tgt := 35) dX12_strays_26 (by decide) (fun hc => ?_) (fun hc => ?_)
      · have h := Eq.mp (if_pos hc) h
        refine E_ic dX12_strays_35 rfl ?_
        refine E_ior dX12_strays_36 ?_
        refine E_istore_n (ls' := [some (vR 12 0), some (vI (bO x1 0)), some (vI x2)]) dX12_strays_37 rfl (by decide) rfl ?_
        refine E_iinc (ls' := [some (vR 12 0), some (vI (bO x1 0)), some (vI (wi (x2 + 1)))]) dX12_strays_38 rfl (by decide) rfl rfl ?_
        refine E_goto (tgt := 4) dX12_strays_41 (by decide) ?_
        exact hR _ _ _ h
      · have h := Eq.mp (if_neg hc) h
        refine E_ic dX12_strays_29 rfl ?_
        refine E_iload_n dX12_strays_30 rfl rfl ?_
        refine E_ishl dX12_strays_31 ?_
        refine E_goto (tgt := 36) dX12_strays_32 (by decide) ?_
        refine E_ior dX12_strays_36 ?_
        refine E_istore_n (ls' := [some (vR 12 0), some (vI (bO x1 (bL 1 x2))), some (vI x2)]) dX12_strays_37 rfl (by decide) rfl ?_
        refine E_iinc (ls' := [some (vR 12 0), some (vI (bO x1 (bL 1 x2))), some (vI (wi (x2 + 1)))]) dX12_strays_38 rfl (by decide) rfl rfl ?_
        refine E_goto (tgt := 4) dX12_strays_41 (by decide) ?_
        exact hR _ _ _ h
def P_X12_strays   (σ : St) (Q : Int → St → Prop) : Prop :=
  P_X12_strays_L4 Q FU 0 0 σ
set_option maxRecDepth 20000 in
set_option maxHeartbeats 2000000 in
theorem s_X12_strays    {σ : St} {Q : Int → St → Prop} (h : P_X12_strays  σ Q) : Cn Y_X12_strays 2 0 0 ww σ [vR 12 0] (QI Q) := by
  refine Cn_of [some (vR 12 0), none, none] (by decide) (Nat.le_of_ble_eq_true rfl) rfl ?_
  unfold P_X12_strays at h
  refine E_ic dX12_strays_0 rfl ?_
  refine E_istore_n (ls' := [some (vR 12 0), some (vI 0), none]) dX12_strays_1 rfl (by decide) rfl ?_
  refine E_ic dX12_strays_2 rfl ?_
  refine E_istore_n (ls' := [some (vR 12 0), some (vI 0), some (vI 0)]) dX12_strays_3 rfl (by decide) rfl ?_
  refine e_P_X12_strays_L4  _ _ _ _ h
abbrev Y_X12_strayOf : My := (yX12_strayOf, cX12_strayOf, 3, some .int)
theorem dX12_strayOf_0 : decode cX12_strayOf 0 = .ok (.aload_n 0, 1) := by decide +kernel
theorem dX12_strayOf_1 : decode cX12_strayOf 1 = .ok (.getfield 111, 3) := by decide +kernel
theorem dX12_strayOf_4 : decode cX12_strayOf 4 = .ok (.iconst 0, 1) := by decide +kernel
theorem dX12_strayOf_5 : decode cX12_strayOf 5 = .ok (.aload_n 0, 1) := by decide +kernel
theorem dX12_strayOf_6 : decode cX12_strayOf 6 = .ok (.getfield 117, 3) := by decide +kernel
theorem dX12_strayOf_9 : decode cX12_strayOf 9 = .ok (.iconst 0, 1) := by decide +kernel
theorem dX12_strayOf_10 : decode cX12_strayOf 10 = .ok (.invokestatic 409, 3) := by decide +kernel
theorem dX12_strayOf_13 : decode cX12_strayOf 13 = .ok (.iconst 0, 1) := by decide +kernel
theorem dX12_strayOf_14 : decode cX12_strayOf 14 = .ok (.istore_n 2, 1) := by decide +kernel
theorem dX12_strayOf_15 : decode cX12_strayOf 15 = .ok (.aload_n 0, 1) := by decide +kernel
theorem dX12_strayOf_16 : decode cX12_strayOf 16 = .ok (.aload_n 0, 1) := by decide +kernel
theorem dX12_strayOf_17 : decode cX12_strayOf 17 = .ok (.invokevirtual 454, 3) := by decide +kernel
theorem dX12_strayOf_20 : decode cX12_strayOf 20 = .ok (.iload_n 1, 1) := by decide +kernel
theorem dX12_strayOf_21 : decode cX12_strayOf 21 = .ok (.iand, 1) := by decide +kernel
theorem dX12_strayOf_22 : decode cX12_strayOf 22 = .ok (.putfield 457, 3) := by decide +kernel
theorem dX12_strayOf_25 : decode cX12_strayOf 25 = .ok (.iload_n 2, 1) := by decide +kernel
theorem dX12_strayOf_26 : decode cX12_strayOf 26 = .ok (.bipush 60, 2) := by decide +kernel
theorem dX12_strayOf_28 : decode cX12_strayOf 28 = .ok (.if_icmp .gt 31, 3) := by decide +kernel
theorem dX12_strayOf_31 : decode cX12_strayOf 31 = .ok (.aload_n 0, 1) := by decide +kernel
theorem dX12_strayOf_32 : decode cX12_strayOf 32 = .ok (.getfield 457, 3) := by decide +kernel
theorem dX12_strayOf_35 : decode cX12_strayOf 35 = .ok (.ifCond .ne 24, 3) := by decide +kernel
theorem dX12_strayOf_38 : decode cX12_strayOf 38 = .ok (.aload_n 0, 1) := by decide +kernel
theorem dX12_strayOf_39 : decode cX12_strayOf 39 = .ok (.invokevirtual 425, 3) := by decide +kernel
theorem dX12_strayOf_42 : decode cX12_strayOf 42 = .ok (.pop, 1) := by decide +kernel
theorem dX12_strayOf_43 : decode cX12_strayOf 43 = .ok (.aload_n 0, 1) := by decide +kernel
theorem dX12_strayOf_44 : decode cX12_strayOf 44 = .ok (.aload_n 0, 1) := by decide +kernel
theorem dX12_strayOf_45 : decode cX12_strayOf 45 = .ok (.invokevirtual 454, 3) := by decide +kernel
theorem dX12_strayOf_48 : decode cX12_strayOf 48 = .ok (.iload_n 1, 1) := by decide +kernel
theorem dX12_strayOf_49 : decode cX12_strayOf 49 = .ok (.iand, 1) := by decide +kernel
theorem dX12_strayOf_50 : decode cX12_strayOf 50 = .ok (.putfield 457, 3) := by decide +kernel
theorem dX12_strayOf_53 : decode cX12_strayOf 53 = .ok (.iinc 2 1, 3) := by decide +kernel
theorem dX12_strayOf_56 : decode cX12_strayOf 56 = .ok (.goto (-31), 3) := by decide +kernel
theorem dX12_strayOf_59 : decode cX12_strayOf 59 = .ok (.aload_n 0, 1) := by decide +kernel
theorem dX12_strayOf_60 : decode cX12_strayOf 60 = .ok (.getfield 117, 3) := by decide +kernel
theorem dX12_strayOf_63 : decode cX12_strayOf 63 = .ok (.iconst 0, 1) := by decide +kernel
theorem dX12_strayOf_64 : decode cX12_strayOf 64 = .ok (.aload_n 0, 1) := by decide +kernel
theorem dX12_strayOf_65 : decode cX12_strayOf 65 = .ok (.getfield 111, 3) := by decide +kernel
theorem dX12_strayOf_68 : decode cX12_strayOf 68 = .ok (.iconst 0, 1) := by decide +kernel
theorem dX12_strayOf_69 : decode cX12_strayOf 69 = .ok (.invokestatic 409, 3) := by decide +kernel
theorem dX12_strayOf_72 : decode cX12_strayOf 72 = .ok (.iload_n 2, 1) := by decide +kernel
theorem dX12_strayOf_73 : decode cX12_strayOf 73 = .ok (.bipush 60, 2) := by decide +kernel
theorem dX12_strayOf_75 : decode cX12_strayOf 75 = .ok (.if_icmp .le 7, 3) := by decide +kernel
theorem dX12_strayOf_78 : decode cX12_strayOf 78 = .ok (.iconst (-1), 1) := by decide +kernel
theorem dX12_strayOf_79 : decode cX12_strayOf 79 = .ok (.goto 4, 3) := by decide +kernel
theorem dX12_strayOf_82 : decode cX12_strayOf 82 = .ok (.iload_n 2, 1) := by decide +kernel
theorem dX12_strayOf_83 : decode cX12_strayOf 83 = .ok (.ireturn, 1) := by decide +kernel
theorem fl_RX12_457 : FL RX12 457 12 56 := ⟨inG (i := 1456) (by decide +kernel) (by decide +kernel), by decide, by decide⟩
theorem lk_RX12_454 : Cond.methodLink RX12 454 yX12_strays ∈ tG := inG (i := 1977) (by decide +kernel) (by decide +kernel)
theorem m_X12_strays : MV Y_X12_strays 0 12 := ⟨⟨inG (i := 1980) (by decide +kernel) (by decide +kernel), inG (i := 110) (by decide +kernel) (by decide +kernel), by decide, by decide, by decide, by decide +kernel⟩, inG (i := 1979) (by decide +kernel) (by decide +kernel), inG (i := 90) (by decide +kernel) (by decide +kernel), by decide⟩
def P_X12_strayOf_L25  (x1 : Int) (K : Int → St → Prop) (Q : Int → St → Prop) : Nat → Int → St → Prop
  | 0, _, _ => False
  | n + 1, x2, σ => (if 60 < x2 then K x2 σ else (if (σ 12 0 56) = 0 then P_X12_endsAsTold σ (fun r_5 σ_4 => P_X12_strays σ_4 (fun r_7 σ_6 => (P_X12_strayOf_L25 x1 K Q n) (wi (x2 + 1)) (up σ_6 12 0 56 (bA r_7 x1)))) else K x2 σ))
set_option maxRecDepth 20000 in
set_option maxHeartbeats 2000000 in
theorem e_P_X12_strayOf_L25  {x1 : Int} {K : Int → St → Prop} {Q : Int → St → Prop}  (hK : ∀ x2 σ, K x2 σ → E Y_X12_strayOf 6 0 0 (QI Q) ww 0 0 59 [some (vR 12 0), none, some (vI x2)] [] σ) : ∀ (n : Nat) (x2 : Int) (σ : St), P_X12_strayOf_L25 x1 K Q n x2 σ → E Y_X12_strayOf 6 0 0 (QI Q) ww 0 0 25 [some (vR 12 0), some (vI x1), some (vI x2)] [] σ := by
  intro n
  induction n with
  | zero => intro x2 σ h; exact h.elim
  | succ n hR =>
    intro x2 σ h
    unfold P_X12_strayOf_L25 at h
    refine E_iload_n dX12_strayOf_25 rfl rfl ?_
    refine E_bp dX12_strayOf_26 rfl ?_
    refine E_icmp_gt (tgt := 59) dX12_strayOf_28 (by decide) (fun hc => ?_) (fun hc => ?_)
    · have h := Eq.mp (if_pos hc) h
      refine E_wk2 [some (vR 12 0), none, some (vI x2)] ⟨rfl, ⟨rfl, trivial⟩⟩ ?_
      exact hK _ _ h
    · have h := Eq.mp (if_neg hc) h
      refine E_aload_n dX12_strayOf_31 rfl rfl ?_
      refine E_geti (i := 0) dX12_strayOf_32 fl_RX12_457 rfl ?_
      refine E_if_ne (tgt := 59) dX12_strayOf_35 (by decide) (fun hc => ?_) (fun hc => ?_)
      · have h := Eq.mp (if_neg hc) h
        refine E_wk2 [some (vR 12 0), none, some (vI x2)] ⟨rfl, ⟨rfl, trivial⟩⟩ ?_
        exact hK _ _ h
      · have h := Eq.mp (if_pos hc) h
        refine E_aload_n dX12_strayOf_38 rfl rfl ?_
        refine E_callV (Y' := Y_X12_endsAsTold) (as := []) (st := []) dX12_strayOf_39 lk_RX12_425 m_X12_endsAsTold (by decide) (Nat.le_refl _) (Nat.le_refl _) rfl rfl (Nat.le_of_ble_eq_true rfl) (s_X12_endsAsTold h) (fun r0 B0 σ_4 h => ?_)
        obtain ⟨r_5, rfl, rfl, h⟩ := h
        refine E_pop dX12_strayOf_42 (fun _ q => by cases q) ?_
        refine E_aload_n dX12_strayOf_43 rfl rfl ?_
        refine E_aload_n dX12_strayOf_44 rfl rfl ?_
        refine E_callV (Y' := Y_X12_strays) (as := []) (st := [vR 12 0]) dX12_strayOf_45 lk_RX12_454 m_X12_strays (by decide) (Nat.le_refl _) (Nat.le_refl _) rfl rfl (Nat.le_of_ble_eq_true rfl) (s_X12_strays h) (fun r0 B0 σ_6 h => ?_)
        obtain ⟨r_7, rfl, rfl, h⟩ := h
        refine E_iload_n dX12_strayOf_48 rfl rfl ?_
        refine E_iand dX12_strayOf_49 ?_
        refine E_puti dX12_strayOf_50 fl_RX12_457 rfl rfl rfl ?_
        refine E_iinc (ls' := [some (vR 12 0), some (vI x1), some (vI (wi (x2 + 1)))]) dX12_strayOf_53 rfl (by decide) rfl rfl ?_
        refine E_goto (tgt := 25) dX12_strayOf_56 (by decide) ?_
        exact hR _ _ h
def P_X12_strayOf_J59  (x2 : Int)  (Q : Int → St → Prop) (σ : St) : Prop :=
  P_X12_copies 1348 0 0 1346 0 0 σ (fun σ_10 => (if x2 ≤ 60 then Q x2 σ_10 else Q (-1) σ_10))
set_option maxRecDepth 20000 in
set_option maxHeartbeats 2000000 in
theorem e_P_X12_strayOf_J59  {x2 : Int}  {Q : Int → St → Prop} {σ : St}   (h : P_X12_strayOf_J59 x2 Q σ) : E Y_X12_strayOf 6 0 0 (QI Q) ww 0 0 59 [some (vR 12 0), none, some (vI x2)] [] σ := by
  unfold P_X12_strayOf_J59 at h
  refine E_aload_n dX12_strayOf_59 rfl rfl ?_
  refine E_getr (i := 0) dX12_strayOf_60 fl_RX12_117 rfl rfl (go_12_48 _ _) ?_
  refine E_ic dX12_strayOf_63 rfl ?_
  refine E_aload_n dX12_strayOf_64 rfl rfl ?_
  refine E_getr (i := 0) dX12_strayOf_65 fl_RX12_111 rfl rfl (go_12_46 _ _) ?_
  refine E_ic dX12_strayOf_68 rfl ?_
  refine E_callS (Y' := Y_X12_copies) (as := [vR 1348 0, vI 0, vR 1346 0, vI 0]) (st := []) dX12_strayOf_69 lk_RX12_409 m_X12_copies (by decide) (Nat.le_refl _) (Nat.le_refl _) rfl rfl (Nat.le_of_ble_eq_true rfl) (s_X12_copies h) (fun r0 B0 σ_10 h => ?_)
  obtain ⟨rfl, rfl, h⟩ := h
  refine E_iload_n dX12_strayOf_72 rfl rfl ?_
  refine E_bp dX12_strayOf_73 rfl ?_
  refine E_icmp_le (tgt := 82) dX12_strayOf_75 (by decide) (fun hc => ?_) (fun hc => ?_)
  · have h := Eq.mp (if_pos hc) h
    refine E_iload_n dX12_strayOf_82 rfl rfl ?_
    exact E_iret dX12_strayOf_83 rfl ⟨_, rfl, rfl, h⟩
  · have h := Eq.mp (if_neg hc) h
    refine E_ic dX12_strayOf_78 rfl ?_
    refine E_goto (tgt := 83) dX12_strayOf_79 (by decide) ?_
    exact E_iret dX12_strayOf_83 rfl ⟨_, rfl, rfl, h⟩
def P_X12_strayOf  (x1 : Int) (σ : St) (Q : Int → St → Prop) : Prop :=
  P_X12_copies 1346 0 0 1348 0 0 σ (fun σ_1 => P_X12_strays σ_1 (fun r_3 σ_2 => P_X12_strayOf_L25 x1 (fun x2_8 σ_9 => P_X12_strayOf_J59 x2_8 Q σ_9) Q FU 0 (up σ_2 12 0 56 (bA r_3 x1))))
set_option maxRecDepth 20000 in
set_option maxHeartbeats 2000000 in
theorem s_X12_strayOf   {x1 : Int} {σ : St} {Q : Int → St → Prop} (h : P_X12_strayOf x1 σ Q) : Cn Y_X12_strayOf 6 0 0 ww σ [vR 12 0, vI x1] (QI Q) := by
  refine Cn_of [some (vR 12 0), some (vI x1), none] (by decide) (Nat.le_of_ble_eq_true rfl) rfl ?_
  unfold P_X12_strayOf at h
  refine E_aload_n dX12_strayOf_0 rfl rfl ?_
  refine E_getr (i := 0) dX12_strayOf_1 fl_RX12_111 rfl rfl (go_12_46 _ _) ?_
  refine E_ic dX12_strayOf_4 rfl ?_
  refine E_aload_n dX12_strayOf_5 rfl rfl ?_
  refine E_getr (i := 0) dX12_strayOf_6 fl_RX12_117 rfl rfl (go_12_48 _ _) ?_
  refine E_ic dX12_strayOf_9 rfl ?_
  refine E_callS (Y' := Y_X12_copies) (as := [vR 1346 0, vI 0, vR 1348 0, vI 0]) (st := []) dX12_strayOf_10 lk_RX12_409 m_X12_copies (by decide) (Nat.le_refl _) (Nat.le_refl _) rfl rfl (Nat.le_of_ble_eq_true rfl) (s_X12_copies h) (fun r0 B0 σ_1 h => ?_)
  obtain ⟨rfl, rfl, h⟩ := h
  refine E_ic dX12_strayOf_13 rfl ?_
  refine E_istore_n (ls' := [some (vR 12 0), some (vI x1), some (vI 0)]) dX12_strayOf_14 rfl (by decide) rfl ?_
  refine E_aload_n dX12_strayOf_15 rfl rfl ?_
  refine E_aload_n dX12_strayOf_16 rfl rfl ?_
  refine E_callV (Y' := Y_X12_strays) (as := []) (st := [vR 12 0]) dX12_strayOf_17 lk_RX12_454 m_X12_strays (by decide) (Nat.le_refl _) (Nat.le_refl _) rfl rfl (Nat.le_of_ble_eq_true rfl) (s_X12_strays h) (fun r0 B0 σ_2 h => ?_)
  obtain ⟨r_3, rfl, rfl, h⟩ := h
  refine E_iload_n dX12_strayOf_20 rfl rfl ?_
  refine E_iand dX12_strayOf_21 ?_
  refine E_puti dX12_strayOf_22 fl_RX12_457 rfl rfl rfl ?_
  refine e_P_X12_strayOf_L25 ?_ _ _ _ h
  · intro x2_8 σ_9 h
    exact e_P_X12_strayOf_J59 h
abbrev Y_X12_stray : My := (yX12_stray, cX12_stray, 2, some .int)
theorem dX12_stray_0 : decode cX12_stray 0 = .ok (.aload_n 0, 1) := by decide +kernel
theorem dX12_stray_1 : decode cX12_stray 1 = .ok (.iconst 0, 1) := by decide +kernel
theorem dX12_stray_2 : decode cX12_stray 2 = .ok (.putfield 141, 3) := by decide +kernel
theorem dX12_stray_5 : decode cX12_stray 5 = .ok (.aload_n 0, 1) := by decide +kernel
theorem dX12_stray_6 : decode cX12_stray 6 = .ok (.iload_n 1, 1) := by decide +kernel
theorem dX12_stray_7 : decode cX12_stray 7 = .ok (.invokevirtual 406, 3) := by decide +kernel
theorem dX12_stray_10 : decode cX12_stray 10 = .ok (.ifCond .eq 13, 3) := by decide +kernel
theorem dX12_stray_13 : decode cX12_stray 13 = .ok (.aload_n 0, 1) := by decide +kernel
theorem dX12_stray_14 : decode cX12_stray 14 = .ok (.iconst 1, 1) := by decide +kernel
theorem dX12_stray_15 : decode cX12_stray 15 = .ok (.iload_n 1, 1) := by decide +kernel
theorem dX12_stray_16 : decode cX12_stray 16 = .ok (.ishl, 1) := by decide +kernel
theorem dX12_stray_17 : decode cX12_stray 17 = .ok (.invokevirtual 460, 3) := by decide +kernel
theorem dX12_stray_20 : decode cX12_stray 20 = .ok (.goto 4, 3) := by decide +kernel
theorem dX12_stray_23 : decode cX12_stray 23 = .ok (.iconst (-1), 1) := by decide +kernel
theorem dX12_stray_24 : decode cX12_stray 24 = .ok (.ireturn, 1) := by decide +kernel
theorem lk_RX12_460 : Cond.methodLink RX12 460 yX12_strayOf ∈ tG := inG (i := 1973) (by decide +kernel) (by decide +kernel)
theorem m_X12_strayOf : MV Y_X12_strayOf 1 12 := ⟨⟨inG (i := 1976) (by decide +kernel) (by decide +kernel), inG (i := 110) (by decide +kernel) (by decide +kernel), by decide, by decide, by decide, by decide +kernel⟩, inG (i := 1975) (by decide +kernel) (by decide +kernel), inG (i := 89) (by decide +kernel) (by decide +kernel), by decide⟩
def P_X12_stray  (x1 : Int) (σ : St) (Q : Int → St → Prop) : Prop :=
  P_X12_isBall x1 (up σ 12 0 0 0) (fun r_2 σ_1 => (if r_2 = 0 then Q (-1) σ_1 else P_X12_strayOf (bL 1 x1) σ_1 (fun r_4 σ_3 => Q r_4 σ_3)))
set_option maxRecDepth 20000 in
set_option maxHeartbeats 2000000 in
theorem s_X12_stray   {x1 : Int} {σ : St} {Q : Int → St → Prop} (h : P_X12_stray x1 σ Q) : Cn Y_X12_stray 7 0 0 ww σ [vR 12 0, vI x1] (QI Q) := by
  refine Cn_of [some (vR 12 0), some (vI x1)] (by decide) (Nat.le_of_ble_eq_true rfl) rfl ?_
  unfold P_X12_stray at h
  refine E_aload_n dX12_stray_0 rfl rfl ?_
  refine E_ic dX12_stray_1 rfl ?_
  refine E_puti dX12_stray_2 fl_RX12_141 rfl rfl rfl ?_
  refine E_aload_n dX12_stray_5 rfl rfl ?_
  refine E_iload_n dX12_stray_6 rfl rfl ?_
  refine E_callV (Y' := Y_X12_isBall) (as := [vI x1]) (st := []) dX12_stray_7 lk_RX12_406 m_X12_isBall (by decide) (Nat.le_refl _) (Nat.le_refl _) rfl rfl (Nat.le_of_ble_eq_true rfl) (s_X12_isBall h) (fun r0 B0 σ_1 h => ?_)
  obtain ⟨r_2, rfl, rfl, h⟩ := h
  refine E_if_eq (tgt := 23) dX12_stray_10 (by decide) (fun hc => ?_) (fun hc => ?_)
  · have h := Eq.mp (if_pos hc) h
    refine E_ic dX12_stray_23 rfl ?_
    exact E_iret dX12_stray_24 rfl ⟨_, rfl, rfl, h⟩
  · have h := Eq.mp (if_neg hc) h
    refine E_aload_n dX12_stray_13 rfl rfl ?_
    refine E_ic dX12_stray_14 rfl ?_
    refine E_iload_n dX12_stray_15 rfl rfl ?_
    refine E_ishl dX12_stray_16 ?_
    refine E_callV (Y' := Y_X12_strayOf) (as := [vI (bL 1 x1)]) (st := []) dX12_stray_17 lk_RX12_460 m_X12_strayOf (by decide) (Nat.le_refl _) (Nat.le_refl _) rfl rfl (Nat.le_of_ble_eq_true rfl) (s_X12_strayOf h) (fun r0 B0 σ_3 h => ?_)
    obtain ⟨r_4, rfl, rfl, h⟩ := h
    refine E_goto (tgt := 24) dX12_stray_20 (by decide) ?_
    exact E_iret dX12_stray_24 rfl ⟨_, rfl, rfl, h⟩
abbrev Y_X12_first : My := (yX12_first, cX12_first, 2, some .int)
theorem dX12_first_0 : decode cX12_first 0 = .ok (.aload_n 0, 1) := by decide +kernel
theorem dX12_first_1 : decode cX12_first 1 = .ok (.iconst 0, 1) := by decide +kernel
theorem dX12_first_2 : decode cX12_first 2 = .ok (.putfield 141, 3) := by decide +kernel
theorem dX12_first_5 : decode cX12_first 5 = .ok (.aload_n 0, 1) := by decide +kernel
theorem dX12_first_6 : decode cX12_first 6 = .ok (.bipush 63, 2) := by decide +kernel
theorem dX12_first_8 : decode cX12_first 8 = .ok (.invokevirtual 460, 3) := by decide +kernel
theorem dX12_first_11 : decode cX12_first 11 = .ok (.ifCond .ge 5, 3) := by decide +kernel
theorem dX12_first_14 : decode cX12_first 14 = .ok (.iconst (-1), 1) := by decide +kernel
theorem dX12_first_15 : decode cX12_first 15 = .ok (.ireturn, 1) := by decide +kernel
theorem dX12_first_16 : decode cX12_first 16 = .ok (.iconst 0, 1) := by decide +kernel
theorem dX12_first_17 : decode cX12_first 17 = .ok (.istore_n 1, 1) := by decide +kernel
theorem dX12_first_18 : decode cX12_first 18 = .ok (.aload_n 0, 1) := by decide +kernel
theorem dX12_first_19 : decode cX12_first 19 = .ok (.getfield 457, 3) := by decide +kernel
theorem dX12_first_22 : decode cX12_first 22 = .ok (.iload_n 1, 1) := by decide +kernel
theorem dX12_first_23 : decode cX12_first 23 = .ok (.ishr, 1) := by decide +kernel
theorem dX12_first_24 : decode cX12_first 24 = .ok (.iconst 1, 1) := by decide +kernel
theorem dX12_first_25 : decode cX12_first 25 = .ok (.iand, 1) := by decide +kernel
theorem dX12_first_26 : decode cX12_first 26 = .ok (.ifCond .ne 9, 3) := by decide +kernel
theorem dX12_first_29 : decode cX12_first 29 = .ok (.iinc 1 1, 3) := by decide +kernel
theorem dX12_first_32 : decode cX12_first 32 = .ok (.goto (-14), 3) := by decide +kernel
theorem dX12_first_35 : decode cX12_first 35 = .ok (.iload_n 1, 1) := by decide +kernel
theorem dX12_first_36 : decode cX12_first 36 = .ok (.ireturn, 1) := by decide +kernel
def P_X12_first_L18    (Q : Int → St → Prop) : Nat → Int → St → Prop
  | 0, _, _ => False
  | n + 1, x1, σ => (if (bA (bR (σ 12 0 56) x1) 1) = 0 then (P_X12_first_L18 Q n) (wi (x1 + 1)) σ else Q x1 σ)
set_option maxRecDepth 20000 in
set_option maxHeartbeats 2000000 in
theorem e_P_X12_first_L18    {Q : Int → St → Prop}   : ∀ (n : Nat) (x1 : Int) (σ : St), P_X12_first_L18 Q n x1 σ → E Y_X12_first 7 0 0 (QI Q) ww 0 0 18 [some (vR 12 0), some (vI x1)] [] σ := by
  intro n
  induction n with
  | zero => intro x1 σ h; exact h.elim
  | succ n hR =>
    intro x1 σ h
    unfold P_X12_first_L18 at h
    refine E_aload_n dX12_first_18 rfl rfl ?_
    refine E_geti (i := 0) dX12_first_19 fl_RX12_457 rfl ?_
    refine E_iload_n dX12_first_22 rfl rfl ?_
    refine E_ishr dX12_first_23 ?_
    refine E_ic dX12_first_24 rfl ?_
    refine E_iand dX12_first_25 ?_
    refine E_if_ne (tgt := 35) dX12_first_26 (by decide) (fun hc => ?_) (fun hc => ?_)
    · have h := Eq.mp (if_neg hc) h
      refine E_iload_n dX12_first_35 rfl rfl ?_
      exact E_iret dX12_first_36 rfl ⟨_, rfl, rfl, h⟩
    · have h := Eq.mp (if_pos hc) h
      refine E_iinc (ls' := [some (vR 12 0), some (vI (wi (x1 + 1)))]) dX12_first_29 rfl (by decide) rfl rfl ?_
      refine E_goto (tgt := 18) dX12_first_32 (by decide) ?_
      exact hR _ _ h
def P_X12_first   (σ : St) (Q : Int → St → Prop) : Prop :=
  P_X12_strayOf 63 (up σ 12 0 0 0) (fun r_2 σ_1 => (if 0 ≤ r_2 then P_X12_first_L18 Q FU 0 σ_1 else Q (-1) σ_1))
set_option maxRecDepth 20000 in
set_option maxHeartbeats 2000000 in
theorem s_X12_first    {σ : St} {Q : Int → St → Prop} (h : P_X12_first  σ Q) : Cn Y_X12_first 7 0 0 ww σ [vR 12 0] (QI Q) := by
  refine Cn_of [some (vR 12 0), none] (by decide) (Nat.le_of_ble_eq_true rfl) rfl ?_
  unfold P_X12_first at h
  refine E_aload_n dX12_first_0 rfl rfl ?_
  refine E_ic dX12_first_1 rfl ?_
  refine E_puti dX12_first_2 fl_RX12_141 rfl rfl rfl ?_
  refine E_aload_n dX12_first_5 rfl rfl ?_
  refine E_bp dX12_first_6 rfl ?_
  refine E_callV (Y' := Y_X12_strayOf) (as := [vI 63]) (st := []) dX12_first_8 lk_RX12_460 m_X12_strayOf (by decide) (Nat.le_refl _) (Nat.le_refl _) rfl rfl (Nat.le_of_ble_eq_true rfl) (s_X12_strayOf h) (fun r0 B0 σ_1 h => ?_)
  obtain ⟨r_2, rfl, rfl, h⟩ := h
  refine E_if_ge (tgt := 16) dX12_first_11 (by decide) (fun hc => ?_) (fun hc => ?_)
  · have h := Eq.mp (if_pos hc) h
    refine E_ic dX12_first_16 rfl ?_
    refine E_istore_n (ls' := [some (vR 12 0), some (vI 0)]) dX12_first_17 rfl (by decide) rfl ?_
    refine e_P_X12_first_L18  _ _ _ h
  · have h := Eq.mp (if_neg hc) h
    refine E_ic dX12_first_14 rfl ?_
    exact E_iret dX12_first_15 rfl ⟨_, rfl, rfl, h⟩
abbrev Y_X12_safe : My := (yX12_safe, cX12_safe, 4, some .int)
theorem dX12_safe_0 : decode cX12_safe 0 = .ok (.aload_n 0, 1) := by decide +kernel
theorem dX12_safe_1 : decode cX12_safe 1 = .ok (.iconst 0, 1) := by decide +kernel
theorem dX12_safe_2 : decode cX12_safe 2 = .ok (.putfield 141, 3) := by decide +kernel
theorem dX12_safe_5 : decode cX12_safe 5 = .ok (.iload_n 1, 1) := by decide +kernel
theorem dX12_safe_6 : decode cX12_safe 6 = .ok (.iconst 0, 1) := by decide +kernel
theorem dX12_safe_7 : decode cX12_safe 7 = .ok (.bipush 60, 2) := by decide +kernel
theorem dX12_safe_9 : decode cX12_safe 9 = .ok (.invokestatic 264, 3) := by decide +kernel
theorem dX12_safe_12 : decode cX12_safe 12 = .ok (.ifCond .ne 5, 3) := by decide +kernel
theorem dX12_safe_15 : decode cX12_safe 15 = .ok (.iconst (-1), 1) := by decide +kernel
theorem dX12_safe_16 : decode cX12_safe 16 = .ok (.ireturn, 1) := by decide +kernel
theorem dX12_safe_17 : decode cX12_safe 17 = .ok (.aload_n 0, 1) := by decide +kernel
theorem dX12_safe_18 : decode cX12_safe 18 = .ok (.getfield 111, 3) := by decide +kernel
theorem dX12_safe_21 : decode cX12_safe 21 = .ok (.iconst 0, 1) := by decide +kernel
theorem dX12_safe_22 : decode cX12_safe 22 = .ok (.aload_n 0, 1) := by decide +kernel
theorem dX12_safe_23 : decode cX12_safe 23 = .ok (.getfield 117, 3) := by decide +kernel
theorem dX12_safe_26 : decode cX12_safe 26 = .ok (.iconst 0, 1) := by decide +kernel
theorem dX12_safe_27 : decode cX12_safe 27 = .ok (.invokestatic 409, 3) := by decide +kernel
theorem dX12_safe_30 : decode cX12_safe 30 = .ok (.iconst 1, 1) := by decide +kernel
theorem dX12_safe_31 : decode cX12_safe 31 = .ok (.aload_n 0, 1) := by decide +kernel
theorem dX12_safe_32 : decode cX12_safe 32 = .ok (.getfield 13, 3) := by decide +kernel
theorem dX12_safe_35 : decode cX12_safe 35 = .ok (.iconst 1, 1) := by decide +kernel
theorem dX12_safe_36 : decode cX12_safe 36 = .ok (.iaload, 1) := by decide +kernel
theorem dX12_safe_37 : decode cX12_safe 37 = .ok (.ishl, 1) := by decide +kernel
theorem dX12_safe_38 : decode cX12_safe 38 = .ok (.iconst 1, 1) := by decide +kernel
theorem dX12_safe_39 : decode cX12_safe 39 = .ok (.isub, 1) := by decide +kernel
theorem dX12_safe_40 : decode cX12_safe 40 = .ok (.aload_n 0, 1) := by decide +kernel
theorem dX12_safe_41 : decode cX12_safe 41 = .ok (.invokevirtual 454, 3) := by decide +kernel
theorem dX12_safe_44 : decode cX12_safe 44 = .ok (.iconst (-1), 1) := by decide +kernel
theorem dX12_safe_45 : decode cX12_safe 45 = .ok (.ixor, 1) := by decide +kernel
theorem dX12_safe_46 : decode cX12_safe 46 = .ok (.iand, 1) := by decide +kernel
theorem dX12_safe_47 : decode cX12_safe 47 = .ok (.istore_n 2, 1) := by decide +kernel
theorem dX12_safe_48 : decode cX12_safe 48 = .ok (.iconst 0, 1) := by decide +kernel
theorem dX12_safe_49 : decode cX12_safe 49 = .ok (.istore_n 3, 1) := by decide +kernel
theorem dX12_safe_50 : decode cX12_safe 50 = .ok (.iload_n 3, 1) := by decide +kernel
theorem dX12_safe_51 : decode cX12_safe 51 = .ok (.iload_n 1, 1) := by decide +kernel
theorem dX12_safe_52 : decode cX12_safe 52 = .ok (.if_icmp .ge 23, 3) := by decide +kernel
theorem dX12_safe_55 : decode cX12_safe 55 = .ok (.aload_n 0, 1) := by decide +kernel
theorem dX12_safe_56 : decode cX12_safe 56 = .ok (.invokevirtual 425, 3) := by decide +kernel
theorem dX12_safe_59 : decode cX12_safe 59 = .ok (.pop, 1) := by decide +kernel
theorem dX12_safe_60 : decode cX12_safe 60 = .ok (.iload_n 2, 1) := by decide +kernel
theorem dX12_safe_61 : decode cX12_safe 61 = .ok (.aload_n 0, 1) := by decide +kernel
theorem dX12_safe_62 : decode cX12_safe 62 = .ok (.invokevirtual 454, 3) := by decide +kernel
theorem dX12_safe_65 : decode cX12_safe 65 = .ok (.iconst (-1), 1) := by decide +kernel
theorem dX12_safe_66 : decode cX12_safe 66 = .ok (.ixor, 1) := by decide +kernel
theorem dX12_safe_67 : decode cX12_safe 67 = .ok (.iand, 1) := by decide +kernel
theorem dX12_safe_68 : decode cX12_safe 68 = .ok (.istore_n 2, 1) := by decide +kernel
theorem dX12_safe_69 : decode cX12_safe 69 = .ok (.iinc 3 1, 3) := by decide +kernel
theorem dX12_safe_72 : decode cX12_safe 72 = .ok (.goto (-22), 3) := by decide +kernel
theorem dX12_safe_75 : decode cX12_safe 75 = .ok (.aload_n 0, 1) := by decide +kernel
theorem dX12_safe_76 : decode cX12_safe 76 = .ok (.getfield 117, 3) := by decide +kernel
theorem dX12_safe_79 : decode cX12_safe 79 = .ok (.iconst 0, 1) := by decide +kernel
theorem dX12_safe_80 : decode cX12_safe 80 = .ok (.aload_n 0, 1) := by decide +kernel
theorem dX12_safe_81 : decode cX12_safe 81 = .ok (.getfield 111, 3) := by decide +kernel
theorem dX12_safe_84 : decode cX12_safe 84 = .ok (.iconst 0, 1) := by decide +kernel
theorem dX12_safe_85 : decode cX12_safe 85 = .ok (.invokestatic 409, 3) := by decide +kernel
theorem dX12_safe_88 : decode cX12_safe 88 = .ok (.iload_n 2, 1) := by decide +kernel
theorem dX12_safe_89 : decode cX12_safe 89 = .ok (.ireturn, 1) := by decide +kernel
def P_X12_safe_L50  (x1 : Int) (K : Int → St → Prop) (Q : Int → St → Prop) : Nat → Int → Int → St → Prop
  | 0, _, _, _ => False
  | n + 1, x2, x3, σ => (if x1 ≤ x3 then K x2 σ else P_X12_endsAsTold σ (fun r_7 σ_6 => P_X12_strays σ_6 (fun r_9 σ_8 => (P_X12_safe_L50 x1 K Q n) (bA x2 (bX r_9 (-1))) (wi (x3 + 1)) σ_8)))
set_option maxRecDepth 20000 in
set_option maxHeartbeats 2000000 in
theorem e_P_X12_safe_L50  {x1 : Int} {K : Int → St → Prop} {Q : Int → St → Prop}  (hK : ∀ x2 σ, K x2 σ → E Y_X12_safe 6 0 0 (QI Q) ww 0 0 75 [some (vR 12 0), none, some (vI x2), none] [] σ) : ∀ (n : Nat) (x2 : Int) (x3 : Int) (σ : St), P_X12_safe_L50 x1 K Q n x2 x3 σ → E Y_X12_safe 6 0 0 (QI Q) ww 0 0 50 [some (vR 12 0), some (vI x1), some (vI x2), some (vI x3)] [] σ := by
  intro n
  induction n with
  | zero => intro x2 x3 σ h; exact h.elim
  | succ n hR =>
    intro x2 x3 σ h
    unfold P_X12_safe_L50 at h
    refine E_iload_n dX12_safe_50 rfl rfl ?_
    refine E_iload_n dX12_safe_51 rfl rfl ?_
    refine E_icmp_ge (tgt := 75) dX12_safe_52 (by decide) (fun hc => ?_) (fun hc => ?_)
    · have h := Eq.mp (if_pos hc) h
      refine E_wk2 [some (vR 12 0), none, some (vI x2), none] ⟨rfl, ⟨rfl, trivial⟩⟩ ?_
      exact hK _ _ h
    · have h := Eq.mp (if_neg hc) h
      refine E_aload_n dX12_safe_55 rfl rfl ?_
      refine E_callV (Y' := Y_X12_endsAsTold) (as := []) (st := []) dX12_safe_56 lk_RX12_425 m_X12_endsAsTold (by decide) (Nat.le_refl _) (Nat.le_refl _) rfl rfl (Nat.le_of_ble_eq_true rfl) (s_X12_endsAsTold h) (fun r0 B0 σ_6 h => ?_)
      obtain ⟨r_7, rfl, rfl, h⟩ := h
      refine E_pop dX12_safe_59 (fun _ q => by cases q) ?_
      refine E_iload_n dX12_safe_60 rfl rfl ?_
      refine E_aload_n dX12_safe_61 rfl rfl ?_
      refine E_callV (Y' := Y_X12_strays) (as := []) (st := [vI x2]) dX12_safe_62 lk_RX12_454 m_X12_strays (by decide) (Nat.le_refl _) (Nat.le_refl _) rfl rfl (Nat.le_of_ble_eq_true rfl) (s_X12_strays h) (fun r0 B0 σ_8 h => ?_)
      obtain ⟨r_9, rfl, rfl, h⟩ := h
      refine E_ic dX12_safe_65 rfl ?_
      refine E_ixor dX12_safe_66 ?_
      refine E_iand dX12_safe_67 ?_
      refine E_istore_n (ls' := [some (vR 12 0), some (vI x1), some (vI (bA x2 (bX r_9 (-1)))), some (vI x3)]) dX12_safe_68 rfl (by decide) rfl ?_
      refine E_iinc (ls' := [some (vR 12 0), some (vI x1), some (vI (bA x2 (bX r_9 (-1)))), some (vI (wi (x3 + 1)))]) dX12_safe_69 rfl (by decide) rfl rfl ?_
      refine E_goto (tgt := 50) dX12_safe_72 (by decide) ?_
      exact hR _ _ _ h
def P_X12_safe  (x1 : Int) (σ : St) (Q : Int → St → Prop) : Prop :=
  P_X12_within x1 0 60 (up σ 12 0 0 0) (fun r_2 σ_1 => (if r_2 = 0 then Q (-1) σ_1 else P_X12_copies 1346 0 0 1348 0 0 σ_1 (fun σ_3 => P_X12_strays σ_3 (fun r_5 σ_4 => P_X12_safe_L50 x1 (fun x2_10 σ_11 => P_X12_copies 1348 0 0 1346 0 0 σ_11 (fun σ_12 => Q x2_10 σ_12)) Q FU (bA (wi ((bL 1 (σ_3 1310 0 1)) - 1)) (bX r_5 (-1))) 0 σ_4))))
set_option maxRecDepth 20000 in
set_option maxHeartbeats 2000000 in
theorem s_X12_safe   {x1 : Int} {σ : St} {Q : Int → St → Prop} (h : P_X12_safe x1 σ Q) : Cn Y_X12_safe 6 0 0 ww σ [vR 12 0, vI x1] (QI Q) := by
  refine Cn_of [some (vR 12 0), some (vI x1), none, none] (by decide) (Nat.le_of_ble_eq_true rfl) rfl ?_
  unfold P_X12_safe at h
  refine E_aload_n dX12_safe_0 rfl rfl ?_
  refine E_ic dX12_safe_1 rfl ?_
  refine E_puti dX12_safe_2 fl_RX12_141 rfl rfl rfl ?_
  refine E_iload_n dX12_safe_5 rfl rfl ?_
  refine E_ic dX12_safe_6 rfl ?_
  refine E_bp dX12_safe_7 rfl ?_
  refine E_callS (Y' := Y_X12_within) (as := [vI x1, vI 0, vI 60]) (st := []) dX12_safe_9 lk_RX12_264 m_X12_within (by decide) (Nat.le_refl _) (Nat.le_refl _) rfl rfl (Nat.le_of_ble_eq_true rfl) (s_X12_within h) (fun r0 B0 σ_1 h => ?_)
  obtain ⟨r_2, rfl, rfl, h⟩ := h
  refine E_if_ne (tgt := 17) dX12_safe_12 (by decide) (fun hc => ?_) (fun hc => ?_)
  · have h := Eq.mp (if_neg hc) h
    refine E_aload_n dX12_safe_17 rfl rfl ?_
    refine E_getr (i := 0) dX12_safe_18 fl_RX12_111 rfl rfl (go_12_46 _ _) ?_
    refine E_ic dX12_safe_21 rfl ?_
    refine E_aload_n dX12_safe_22 rfl rfl ?_
    refine E_getr (i := 0) dX12_safe_23 fl_RX12_117 rfl rfl (go_12_48 _ _) ?_
    refine E_ic dX12_safe_26 rfl ?_
    refine E_callS (Y' := Y_X12_copies) (as := [vR 1346 0, vI 0, vR 1348 0, vI 0]) (st := []) dX12_safe_27 lk_RX12_409 m_X12_copies (by decide) (Nat.le_refl _) (Nat.le_refl _) rfl rfl (Nat.le_of_ble_eq_true rfl) (s_X12_copies h) (fun r0 B0 σ_3 h => ?_)
    obtain ⟨rfl, rfl, h⟩ := h
    refine E_ic dX12_safe_30 rfl ?_
    refine E_aload_n dX12_safe_31 rfl rfl ?_
    refine E_getr (i := 0) dX12_safe_32 fl_RX12_13 rfl rfl (go_12_10 _ _) ?_
    refine E_ic dX12_safe_35 rfl ?_
    refine E_iald dX12_safe_36 sh_1310 (by decide) (by decide) ?_
    refine E_ishl dX12_safe_37 ?_
    refine E_ic dX12_safe_38 rfl ?_
    refine E_isub dX12_safe_39 ?_
    refine E_aload_n dX12_safe_40 rfl rfl ?_
    refine E_callV (Y' := Y_X12_strays) (as := []) (st := [vI (wi ((bL 1 (σ_3 1310 0 1)) - 1))]) dX12_safe_41 lk_RX12_454 m_X12_strays (by decide) (Nat.le_refl _) (Nat.le_refl _) rfl rfl (Nat.le_of_ble_eq_true rfl) (s_X12_strays h) (fun r0 B0 σ_4 h => ?_)
    obtain ⟨r_5, rfl, rfl, h⟩ := h
    refine E_ic dX12_safe_44 rfl ?_
    refine E_ixor dX12_safe_45 ?_
    refine E_iand dX12_safe_46 ?_
    refine E_istore_n (ls' := [some (vR 12 0), some (vI x1), some (vI (bA (wi ((bL 1 (σ_3 1310 0 1)) - 1)) (bX r_5 (-1)))), none]) dX12_safe_47 rfl (by decide) rfl ?_
    refine E_ic dX12_safe_48 rfl ?_
    refine E_istore_n (ls' := [some (vR 12 0), some (vI x1), some (vI (bA (wi ((bL 1 (σ_3 1310 0 1)) - 1)) (bX r_5 (-1)))), some (vI 0)]) dX12_safe_49 rfl (by decide) rfl ?_
    refine e_P_X12_safe_L50 ?_ _ _ _ _ h
    · intro x2_10 σ_11 h
      refine E_aload_n dX12_safe_75 rfl rfl ?_
      refine E_getr (i := 0) dX12_safe_76 fl_RX12_117 rfl rfl (go_12_48 _ _) ?_
      refine E_ic dX12_safe_79 rfl ?_
      refine E_aload_n dX12_safe_80 rfl rfl ?_
      refine E_getr (i := 0) dX12_safe_81 fl_RX12_111 rfl rfl (go_12_46 _ _) ?_
      refine E_ic dX12_safe_84 rfl ?_
      refine E_callS (Y' := Y_X12_copies) (as := [vR 1348 0, vI 0, vR 1346 0, vI 0]) (st := []) dX12_safe_85 lk_RX12_409 m_X12_copies (by decide) (Nat.le_refl _) (Nat.le_refl _) rfl rfl (Nat.le_of_ble_eq_true rfl) (s_X12_copies h) (fun r0 B0 σ_12 h => ?_)
      obtain ⟨rfl, rfl, h⟩ := h
      refine E_iload_n dX12_safe_88 rfl rfl ?_
      exact E_iret dX12_safe_89 rfl ⟨_, rfl, rfl, h⟩
  · have h := Eq.mp (if_pos hc) h
    refine E_ic dX12_safe_15 rfl ?_
    exact E_iret dX12_safe_16 rfl ⟨_, rfl, rfl, h⟩
abbrev Y_X12_wide : My := (yX12_wide, cX12_wide, 4, some .int)
theorem dX12_wide_0 : decode cX12_wide 0 = .ok (.aload_n 0, 1) := by decide +kernel
theorem dX12_wide_1 : decode cX12_wide 1 = .ok (.iconst 0, 1) := by decide +kernel
theorem dX12_wide_2 : decode cX12_wide 2 = .ok (.putfield 141, 3) := by decide +kernel
theorem dX12_wide_5 : decode cX12_wide 5 = .ok (.iload_n 1, 1) := by decide +kernel
theorem dX12_wide_6 : decode cX12_wide 6 = .ok (.iconst 0, 1) := by decide +kernel
theorem dX12_wide_7 : decode cX12_wide 7 = .ok (.bipush 60, 2) := by decide +kernel
theorem dX12_wide_9 : decode cX12_wide 9 = .ok (.invokestatic 264, 3) := by decide +kernel
theorem dX12_wide_12 : decode cX12_wide 12 = .ok (.ifCond .ne 5, 3) := by decide +kernel
theorem dX12_wide_15 : decode cX12_wide 15 = .ok (.iconst (-1), 1) := by decide +kernel
theorem dX12_wide_16 : decode cX12_wide 16 = .ok (.ireturn, 1) := by decide +kernel
theorem dX12_wide_17 : decode cX12_wide 17 = .ok (.aload_n 0, 1) := by decide +kernel
theorem dX12_wide_18 : decode cX12_wide 18 = .ok (.getfield 111, 3) := by decide +kernel
theorem dX12_wide_21 : decode cX12_wide 21 = .ok (.iconst 0, 1) := by decide +kernel
theorem dX12_wide_22 : decode cX12_wide 22 = .ok (.aload_n 0, 1) := by decide +kernel
theorem dX12_wide_23 : decode cX12_wide 23 = .ok (.getfield 117, 3) := by decide +kernel
theorem dX12_wide_26 : decode cX12_wide 26 = .ok (.iconst 0, 1) := by decide +kernel
theorem dX12_wide_27 : decode cX12_wide 27 = .ok (.invokestatic 409, 3) := by decide +kernel
theorem dX12_wide_30 : decode cX12_wide 30 = .ok (.iconst 0, 1) := by decide +kernel
theorem dX12_wide_31 : decode cX12_wide 31 = .ok (.istore_n 2, 1) := by decide +kernel
theorem dX12_wide_32 : decode cX12_wide 32 = .ok (.iload_n 2, 1) := by decide +kernel
theorem dX12_wide_33 : decode cX12_wide 33 = .ok (.iload_n 1, 1) := by decide +kernel
theorem dX12_wide_34 : decode cX12_wide 34 = .ok (.if_icmp .ge 14, 3) := by decide +kernel
theorem dX12_wide_37 : decode cX12_wide 37 = .ok (.aload_n 0, 1) := by decide +kernel
theorem dX12_wide_38 : decode cX12_wide 38 = .ok (.invokevirtual 425, 3) := by decide +kernel
theorem dX12_wide_41 : decode cX12_wide 41 = .ok (.pop, 1) := by decide +kernel
theorem dX12_wide_42 : decode cX12_wide 42 = .ok (.iinc 2 1, 3) := by decide +kernel
theorem dX12_wide_45 : decode cX12_wide 45 = .ok (.goto (-13), 3) := by decide +kernel
theorem dX12_wide_48 : decode cX12_wide 48 = .ok (.iconst (-1), 1) := by decide +kernel
theorem dX12_wide_49 : decode cX12_wide 49 = .ok (.istore_n 2, 1) := by decide +kernel
theorem dX12_wide_50 : decode cX12_wide 50 = .ok (.iconst 0, 1) := by decide +kernel
theorem dX12_wide_51 : decode cX12_wide 51 = .ok (.istore_n 3, 1) := by decide +kernel
theorem dX12_wide_52 : decode cX12_wide 52 = .ok (.iload_n 3, 1) := by decide +kernel
theorem dX12_wide_53 : decode cX12_wide 53 = .ok (.aload_n 0, 1) := by decide +kernel
theorem dX12_wide_54 : decode cX12_wide 54 = .ok (.getfield 13, 3) := by decide +kernel
theorem dX12_wide_57 : decode cX12_wide 57 = .ok (.iconst 1, 1) := by decide +kernel
theorem dX12_wide_58 : decode cX12_wide 58 = .ok (.iaload, 1) := by decide +kernel
theorem dX12_wide_59 : decode cX12_wide 59 = .ok (.if_icmp .ge 36, 3) := by decide +kernel
theorem dX12_wide_62 : decode cX12_wide 62 = .ok (.iload_n 2, 1) := by decide +kernel
theorem dX12_wide_63 : decode cX12_wide 63 = .ok (.ifCond .lt 24, 3) := by decide +kernel
theorem dX12_wide_66 : decode cX12_wide 66 = .ok (.aload_n 0, 1) := by decide +kernel
theorem dX12_wide_67 : decode cX12_wide 67 = .ok (.getfield 111, 3) := by decide +kernel
theorem dX12_wide_70 : decode cX12_wide 70 = .ok (.bipush 16, 2) := by decide +kernel
theorem dX12_wide_72 : decode cX12_wide 72 = .ok (.iload_n 3, 1) := by decide +kernel
theorem dX12_wide_73 : decode cX12_wide 73 = .ok (.iadd, 1) := by decide +kernel
theorem dX12_wide_74 : decode cX12_wide 74 = .ok (.iaload, 1) := by decide +kernel
theorem dX12_wide_75 : decode cX12_wide 75 = .ok (.aload_n 0, 1) := by decide +kernel
theorem dX12_wide_76 : decode cX12_wide 76 = .ok (.getfield 111, 3) := by decide +kernel
theorem dX12_wide_79 : decode cX12_wide 79 = .ok (.bipush 16, 2) := by decide +kernel
theorem dX12_wide_81 : decode cX12_wide 81 = .ok (.iload_n 2, 1) := by decide +kernel
theorem dX12_wide_82 : decode cX12_wide 82 = .ok (.iadd, 1) := by decide +kernel
theorem dX12_wide_83 : decode cX12_wide 83 = .ok (.iaload, 1) := by decide +kernel
theorem dX12_wide_84 : decode cX12_wide 84 = .ok (.if_icmp .le 5, 3) := by decide +kernel
theorem dX12_wide_87 : decode cX12_wide 87 = .ok (.iload_n 3, 1) := by decide +kernel
theorem dX12_wide_88 : decode cX12_wide 88 = .ok (.istore_n 2, 1) := by decide +kernel
theorem dX12_wide_89 : decode cX12_wide 89 = .ok (.iinc 3 1, 3) := by decide +kernel
theorem dX12_wide_92 : decode cX12_wide 92 = .ok (.goto (-40), 3) := by decide +kernel
theorem dX12_wide_95 : decode cX12_wide 95 = .ok (.aload_n 0, 1) := by decide +kernel
theorem dX12_wide_96 : decode cX12_wide 96 = .ok (.getfield 117, 3) := by decide +kernel
theorem dX12_wide_99 : decode cX12_wide 99 = .ok (.iconst 0, 1) := by decide +kernel
theorem dX12_wide_100 : decode cX12_wide 100 = .ok (.aload_n 0, 1) := by decide +kernel
theorem dX12_wide_101 : decode cX12_wide 101 = .ok (.getfield 111, 3) := by decide +kernel
theorem dX12_wide_104 : decode cX12_wide 104 = .ok (.iconst 0, 1) := by decide +kernel
theorem dX12_wide_105 : decode cX12_wide 105 = .ok (.invokestatic 409, 3) := by decide +kernel
theorem dX12_wide_108 : decode cX12_wide 108 = .ok (.iload_n 2, 1) := by decide +kernel
theorem dX12_wide_109 : decode cX12_wide 109 = .ok (.ireturn, 1) := by decide +kernel
def P_X12_wide_L32  (x1 : Int) (K : St → Prop) (Q : Int → St → Prop) : Nat → Int → St → Prop
  | 0, _, _ => False
  | n + 1, x2, σ => (if x1 ≤ x2 then K σ else P_X12_endsAsTold σ (fun r_5 σ_4 => (P_X12_wide_L32 x1 K Q n) (wi (x2 + 1)) σ_4))
set_option maxRecDepth 20000 in
set_option maxHeartbeats 2000000 in
theorem e_P_X12_wide_L32  {x1 : Int} {K : St → Prop} {Q : Int → St → Prop}  (hK : ∀ σ, K σ → E Y_X12_wide 6 0 0 (QI Q) ww 0 0 48 [some (vR 12 0), none, none, none] [] σ) : ∀ (n : Nat) (x2 : Int) (σ : St), P_X12_wide_L32 x1 K Q n x2 σ → E Y_X12_wide 6 0 0 (QI Q) ww 0 0 32 [some (vR 12 0), some (vI x1), some (vI x2), none] [] σ := by
  intro n
  induction n with
  | zero => intro x2 σ h; exact h.elim
  | succ n hR =>
    intro x2 σ h
    unfold P_X12_wide_L32 at h
    refine E_iload_n dX12_wide_32 rfl rfl ?_
    refine E_iload_n dX12_wide_33 rfl rfl ?_
    refine E_icmp_ge (tgt := 48) dX12_wide_34 (by decide) (fun hc => ?_) (fun hc => ?_)
    · have h := Eq.mp (if_pos hc) h
      refine E_wk2 [some (vR 12 0), none, none, none] ⟨rfl, trivial⟩ ?_
      exact hK _ h
    · have h := Eq.mp (if_neg hc) h
      refine E_aload_n dX12_wide_37 rfl rfl ?_
      refine E_callV (Y' := Y_X12_endsAsTold) (as := []) (st := []) dX12_wide_38 lk_RX12_425 m_X12_endsAsTold (by decide) (Nat.le_refl _) (Nat.le_refl _) rfl rfl (Nat.le_of_ble_eq_true rfl) (s_X12_endsAsTold h) (fun r0 B0 σ_4 h => ?_)
      obtain ⟨r_5, rfl, rfl, h⟩ := h
      refine E_pop dX12_wide_41 (fun _ q => by cases q) ?_
      refine E_iinc (ls' := [some (vR 12 0), some (vI x1), some (vI (wi (x2 + 1))), none]) dX12_wide_42 rfl (by decide) rfl rfl ?_
      refine E_goto (tgt := 32) dX12_wide_45 (by decide) ?_
      exact hR _ _ h
def P_X12_wide_J87  (x3 : Int) (R : Int → Int → St → Prop) (K : Int → St → Prop) (Q : Int → St → Prop) (σ : St) : Prop :=
  R x3 (wi (x3 + 1)) σ
set_option maxRecDepth 20000 in
set_option maxHeartbeats 2000000 in
theorem e_P_X12_wide_J87  {x3 : Int} {R : Int → Int → St → Prop} {K : Int → St → Prop} {Q : Int → St → Prop} {σ : St}  (hR : ∀ x2 x3 σ, R x2 x3 σ → E Y_X12_wide 6 0 0 (QI Q) ww 0 0 52 [some (vR 12 0), none, some (vI x2), some (vI x3)] [] σ) (hK : ∀ x2 σ, K x2 σ → E Y_X12_wide 6 0 0 (QI Q) ww 0 0 95 [some (vR 12 0), none, some (vI x2), none] [] σ) (h : P_X12_wide_J87 x3 R K Q σ) : E Y_X12_wide 6 0 0 (QI Q) ww 0 0 87 [some (vR 12 0), none, none, some (vI x3)] [] σ := by
  unfold P_X12_wide_J87 at h
  refine E_iload_n dX12_wide_87 rfl rfl ?_
  refine E_istore_n (ls' := [some (vR 12 0), none, some (vI x3), some (vI x3)]) dX12_wide_88 rfl (by decide) rfl ?_
  refine E_iinc (ls' := [some (vR 12 0), none, some (vI x3), some (vI (wi (x3 + 1)))]) dX12_wide_89 rfl (by decide) rfl rfl ?_
  refine E_goto (tgt := 52) dX12_wide_92 (by decide) ?_
  exact hR _ _ _ h
def P_X12_wide_L52   (K : Int → St → Prop) (Q : Int → St → Prop) : Nat → Int → Int → St → Prop
  | 0, _, _, _ => False
  | n + 1, x2, x3, σ => (if (σ 1310 0 1) ≤ x3 then K x2 σ else (if x2 < 0 then P_X12_wide_J87 x3 (P_X12_wide_L52 K Q n) K Q σ else 0 ≤ wi (16 + x3) ∧ wi (16 + x3) < 46 ∧ 0 ≤ wi (16 + x2) ∧ wi (16 + x2) < 46 ∧ (if (σ 1346 0 (wi (16 + x3))) ≤ (σ 1346 0 (wi (16 + x2))) then (P_X12_wide_L52 K Q n) x2 (wi (x3 + 1)) σ else P_X12_wide_J87 x3 (P_X12_wide_L52 K Q n) K Q σ)))
set_option maxRecDepth 20000 in
set_option maxHeartbeats 2000000 in
theorem e_P_X12_wide_L52   {K : Int → St → Prop} {Q : Int → St → Prop}  (hK : ∀ x2 σ, K x2 σ → E Y_X12_wide 6 0 0 (QI Q) ww 0 0 95 [some (vR 12 0), none, some (vI x2), none] [] σ) : ∀ (n : Nat) (x2 : Int) (x3 : Int) (σ : St), P_X12_wide_L52 K Q n x2 x3 σ → E Y_X12_wide 6 0 0 (QI Q) ww 0 0 52 [some (vR 12 0), none, some (vI x2), some (vI x3)] [] σ := by
  intro n
  induction n with
  | zero => intro x2 x3 σ h; exact h.elim
  | succ n hR =>
    intro x2 x3 σ h
    unfold P_X12_wide_L52 at h
    refine E_iload_n dX12_wide_52 rfl rfl ?_
    refine E_aload_n dX12_wide_53 rfl rfl ?_
    refine E_getr (i := 0) dX12_wide_54 fl_RX12_13 rfl rfl (go_12_10 _ _) ?_
    refine E_ic dX12_wide_57 rfl ?_
    refine E_iald dX12_wide_58 sh_1310 (by decide) (by decide) ?_
    refine E_icmp_ge (tgt := 95) dX12_wide_59 (by decide) (fun hc => ?_) (fun hc => ?_)
    · have h := Eq.mp (if_pos hc) h
      refine E_wk2 [some (vR 12 0), none, some (vI x2), none] ⟨rfl, ⟨rfl, trivial⟩⟩ ?_
      exact hK _ _ h
    · have h := Eq.mp (if_neg hc) h
      refine E_iload_n dX12_wide_62 rfl rfl ?_
      refine E_if_lt (tgt := 87) dX12_wide_63 (by decide) (fun hc => ?_) (fun hc => ?_)
      · have h := Eq.mp (if_pos hc) h
        refine E_wk2 [some (vR 12 0), none, none, some (vI x3)] ⟨rfl, ⟨rfl, trivial⟩⟩ ?_
        exact e_P_X12_wide_J87 hR hK h
      · have h := Eq.mp (if_neg hc) h
        refine E_aload_n dX12_wide_66 rfl rfl ?_
        refine E_getr (i := 0) dX12_wide_67 fl_RX12_111 rfl rfl (go_12_46 _ _) ?_
        refine E_bp dX12_wide_70 rfl ?_
        refine E_iload_n dX12_wide_72 rfl rfl ?_
        refine E_iadd dX12_wide_73 ?_
        obtain ⟨hg0, hg1, h⟩ := h
        refine E_iald dX12_wide_74 sh_1346 hg0 hg1 ?_
        refine E_aload_n dX12_wide_75 rfl rfl ?_
        refine E_getr (i := 0) dX12_wide_76 fl_RX12_111 rfl rfl (go_12_46 _ _) ?_
        refine E_bp dX12_wide_79 rfl ?_
        refine E_iload_n dX12_wide_81 rfl rfl ?_
        refine E_iadd dX12_wide_82 ?_
        obtain ⟨hg0, hg1, h⟩ := h
        refine E_iald dX12_wide_83 sh_1346 hg0 hg1 ?_
        refine E_icmp_le (tgt := 89) dX12_wide_84 (by decide) (fun hc => ?_) (fun hc => ?_)
        · have h := Eq.mp (if_pos hc) h
          refine E_iinc (ls' := [some (vR 12 0), none, some (vI x2), some (vI (wi (x3 + 1)))]) dX12_wide_89 rfl (by decide) rfl rfl ?_
          refine E_goto (tgt := 52) dX12_wide_92 (by decide) ?_
          exact hR _ _ _ h
        · have h := Eq.mp (if_neg hc) h
          refine E_wk2 [some (vR 12 0), none, none, some (vI x3)] ⟨rfl, ⟨rfl, trivial⟩⟩ ?_
          exact e_P_X12_wide_J87 hR hK h
def P_X12_wide  (x1 : Int) (σ : St) (Q : Int → St → Prop) : Prop :=
  P_X12_within x1 0 60 (up σ 12 0 0 0) (fun r_2 σ_1 => (if r_2 = 0 then Q (-1) σ_1 else P_X12_copies 1346 0 0 1348 0 0 σ_1 (fun σ_3 => P_X12_wide_L32 x1 (fun σ_6 => P_X12_wide_L52 (fun x2_7 σ_8 => P_X12_copies 1348 0 0 1346 0 0 σ_8 (fun σ_9 => Q x2_7 σ_9)) Q FU (-1) 0 σ_6) Q FU 0 σ_3)))
set_option maxRecDepth 20000 in
set_option maxHeartbeats 2000000 in
theorem s_X12_wide   {x1 : Int} {σ : St} {Q : Int → St → Prop} (h : P_X12_wide x1 σ Q) : Cn Y_X12_wide 6 0 0 ww σ [vR 12 0, vI x1] (QI Q) := by
  refine Cn_of [some (vR 12 0), some (vI x1), none, none] (by decide) (Nat.le_of_ble_eq_true rfl) rfl ?_
  unfold P_X12_wide at h
  refine E_aload_n dX12_wide_0 rfl rfl ?_
  refine E_ic dX12_wide_1 rfl ?_
  refine E_puti dX12_wide_2 fl_RX12_141 rfl rfl rfl ?_
  refine E_iload_n dX12_wide_5 rfl rfl ?_
  refine E_ic dX12_wide_6 rfl ?_
  refine E_bp dX12_wide_7 rfl ?_
  refine E_callS (Y' := Y_X12_within) (as := [vI x1, vI 0, vI 60]) (st := []) dX12_wide_9 lk_RX12_264 m_X12_within (by decide) (Nat.le_refl _) (Nat.le_refl _) rfl rfl (Nat.le_of_ble_eq_true rfl) (s_X12_within h) (fun r0 B0 σ_1 h => ?_)
  obtain ⟨r_2, rfl, rfl, h⟩ := h
  refine E_if_ne (tgt := 17) dX12_wide_12 (by decide) (fun hc => ?_) (fun hc => ?_)
  · have h := Eq.mp (if_neg hc) h
    refine E_aload_n dX12_wide_17 rfl rfl ?_
    refine E_getr (i := 0) dX12_wide_18 fl_RX12_111 rfl rfl (go_12_46 _ _) ?_
    refine E_ic dX12_wide_21 rfl ?_
    refine E_aload_n dX12_wide_22 rfl rfl ?_
    refine E_getr (i := 0) dX12_wide_23 fl_RX12_117 rfl rfl (go_12_48 _ _) ?_
    refine E_ic dX12_wide_26 rfl ?_
    refine E_callS (Y' := Y_X12_copies) (as := [vR 1346 0, vI 0, vR 1348 0, vI 0]) (st := []) dX12_wide_27 lk_RX12_409 m_X12_copies (by decide) (Nat.le_refl _) (Nat.le_refl _) rfl rfl (Nat.le_of_ble_eq_true rfl) (s_X12_copies h) (fun r0 B0 σ_3 h => ?_)
    obtain ⟨rfl, rfl, h⟩ := h
    refine E_ic dX12_wide_30 rfl ?_
    refine E_istore_n (ls' := [some (vR 12 0), some (vI x1), some (vI 0), none]) dX12_wide_31 rfl (by decide) rfl ?_
    refine e_P_X12_wide_L32 ?_ _ _ _ h
    · intro σ_6 h
      refine E_ic dX12_wide_48 rfl ?_
      refine E_istore_n (ls' := [some (vR 12 0), none, some (vI (-1)), none]) dX12_wide_49 rfl (by decide) rfl ?_
      refine E_ic dX12_wide_50 rfl ?_
      refine E_istore_n (ls' := [some (vR 12 0), none, some (vI (-1)), some (vI 0)]) dX12_wide_51 rfl (by decide) rfl ?_
      refine e_P_X12_wide_L52 ?_ _ _ _ _ h
      · intro x2_7 σ_8 h
        refine E_aload_n dX12_wide_95 rfl rfl ?_
        refine E_getr (i := 0) dX12_wide_96 fl_RX12_117 rfl rfl (go_12_48 _ _) ?_
        refine E_ic dX12_wide_99 rfl ?_
        refine E_aload_n dX12_wide_100 rfl rfl ?_
        refine E_getr (i := 0) dX12_wide_101 fl_RX12_111 rfl rfl (go_12_46 _ _) ?_
        refine E_ic dX12_wide_104 rfl ?_
        refine E_callS (Y' := Y_X12_copies) (as := [vR 1348 0, vI 0, vR 1346 0, vI 0]) (st := []) dX12_wide_105 lk_RX12_409 m_X12_copies (by decide) (Nat.le_refl _) (Nat.le_refl _) rfl rfl (Nat.le_of_ble_eq_true rfl) (s_X12_copies h) (fun r0 B0 σ_9 h => ?_)
        obtain ⟨rfl, rfl, h⟩ := h
        refine E_iload_n dX12_wide_108 rfl rfl ?_
        exact E_iret dX12_wide_109 rfl ⟨_, rfl, rfl, h⟩
  · have h := Eq.mp (if_pos hc) h
    refine E_ic dX12_wide_15 rfl ?_
    exact E_iret dX12_wide_16 rfl ⟨_, rfl, rfl, h⟩
abbrev Y_X12_over : My := (yX12_over, cX12_over, 4, some .int)
theorem dX12_over_0 : decode cX12_over 0 = .ok (.aload_n 0, 1) := by decide +kernel
theorem dX12_over_1 : decode cX12_over 1 = .ok (.iconst 0, 1) := by decide +kernel
theorem dX12_over_2 : decode cX12_over 2 = .ok (.putfield 141, 3) := by decide +kernel
theorem dX12_over_5 : decode cX12_over 5 = .ok (.aload_n 0, 1) := by decide +kernel
theorem dX12_over_6 : decode cX12_over 6 = .ok (.iload_n 1, 1) := by decide +kernel
theorem dX12_over_7 : decode cX12_over 7 = .ok (.invokevirtual 406, 3) := by decide +kernel
theorem dX12_over_10 : decode cX12_over 10 = .ok (.ifCond .eq 13, 3) := by decide +kernel
theorem dX12_over_13 : decode cX12_over 13 = .ok (.iload_n 2, 1) := by decide +kernel
theorem dX12_over_14 : decode cX12_over 14 = .ok (.iconst 1, 1) := by decide +kernel
theorem dX12_over_15 : decode cX12_over 15 = .ok (.bipush 60, 2) := by decide +kernel
theorem dX12_over_17 : decode cX12_over 17 = .ok (.invokestatic 264, 3) := by decide +kernel
theorem dX12_over_20 : decode cX12_over 20 = .ok (.ifCond .ne 5, 3) := by decide +kernel
theorem dX12_over_23 : decode cX12_over 23 = .ok (.iconst (-1), 1) := by decide +kernel
theorem dX12_over_24 : decode cX12_over 24 = .ok (.ireturn, 1) := by decide +kernel
theorem dX12_over_25 : decode cX12_over 25 = .ok (.aload_n 0, 1) := by decide +kernel
theorem dX12_over_26 : decode cX12_over 26 = .ok (.getfield 111, 3) := by decide +kernel
theorem dX12_over_29 : decode cX12_over 29 = .ok (.iconst 0, 1) := by decide +kernel
theorem dX12_over_30 : decode cX12_over 30 = .ok (.aload_n 0, 1) := by decide +kernel
theorem dX12_over_31 : decode cX12_over 31 = .ok (.getfield 117, 3) := by decide +kernel
theorem dX12_over_34 : decode cX12_over 34 = .ok (.iconst 0, 1) := by decide +kernel
theorem dX12_over_35 : decode cX12_over 35 = .ok (.invokestatic 409, 3) := by decide +kernel
theorem dX12_over_38 : decode cX12_over 38 = .ok (.iconst 0, 1) := by decide +kernel
theorem dX12_over_39 : decode cX12_over 39 = .ok (.istore_n 3, 1) := by decide +kernel
theorem dX12_over_40 : decode cX12_over 40 = .ok (.iload_n 3, 1) := by decide +kernel
theorem dX12_over_41 : decode cX12_over 41 = .ok (.bipush 60, 2) := by decide +kernel
theorem dX12_over_43 : decode cX12_over 43 = .ok (.if_icmp .gt 27, 3) := by decide +kernel
theorem dX12_over_46 : decode cX12_over 46 = .ok (.aload_n 0, 1) := by decide +kernel
theorem dX12_over_47 : decode cX12_over 47 = .ok (.getfield 111, 3) := by decide +kernel
theorem dX12_over_50 : decode cX12_over 50 = .ok (.bipush 16, 2) := by decide +kernel
theorem dX12_over_52 : decode cX12_over 52 = .ok (.iload_n 1, 1) := by decide +kernel
theorem dX12_over_53 : decode cX12_over 53 = .ok (.iadd, 1) := by decide +kernel
theorem dX12_over_54 : decode cX12_over 54 = .ok (.iaload, 1) := by decide +kernel
theorem dX12_over_55 : decode cX12_over 55 = .ok (.iload_n 2, 1) := by decide +kernel
theorem dX12_over_56 : decode cX12_over 56 = .ok (.if_icmp .ge 14, 3) := by decide +kernel
theorem dX12_over_59 : decode cX12_over 59 = .ok (.aload_n 0, 1) := by decide +kernel
theorem dX12_over_60 : decode cX12_over 60 = .ok (.invokevirtual 425, 3) := by decide +kernel
theorem dX12_over_63 : decode cX12_over 63 = .ok (.pop, 1) := by decide +kernel
theorem dX12_over_64 : decode cX12_over 64 = .ok (.iinc 3 1, 3) := by decide +kernel
theorem dX12_over_67 : decode cX12_over 67 = .ok (.goto (-27), 3) := by decide +kernel
theorem dX12_over_70 : decode cX12_over 70 = .ok (.aload_n 0, 1) := by decide +kernel
theorem dX12_over_71 : decode cX12_over 71 = .ok (.getfield 117, 3) := by decide +kernel
theorem dX12_over_74 : decode cX12_over 74 = .ok (.iconst 0, 1) := by decide +kernel
theorem dX12_over_75 : decode cX12_over 75 = .ok (.aload_n 0, 1) := by decide +kernel
theorem dX12_over_76 : decode cX12_over 76 = .ok (.getfield 111, 3) := by decide +kernel
theorem dX12_over_79 : decode cX12_over 79 = .ok (.iconst 0, 1) := by decide +kernel
theorem dX12_over_80 : decode cX12_over 80 = .ok (.invokestatic 409, 3) := by decide +kernel
theorem dX12_over_83 : decode cX12_over 83 = .ok (.iload_n 3, 1) := by decide +kernel
theorem dX12_over_84 : decode cX12_over 84 = .ok (.bipush 60, 2) := by decide +kernel
theorem dX12_over_86 : decode cX12_over 86 = .ok (.if_icmp .le 7, 3) := by decide +kernel
theorem dX12_over_89 : decode cX12_over 89 = .ok (.iconst (-1), 1) := by decide +kernel
theorem dX12_over_90 : decode cX12_over 90 = .ok (.goto 4, 3) := by decide +kernel
theorem dX12_over_93 : decode cX12_over 93 = .ok (.iload_n 3, 1) := by decide +kernel
theorem dX12_over_94 : decode cX12_over 94 = .ok (.ireturn, 1) := by decide +kernel
def P_X12_over_L40  (x1 : Int) (x2 : Int) (K : Int → St → Prop) (Q : Int → St → Prop) : Nat → Int → St → Prop
  | 0, _, _ => False
  | n + 1, x3, σ => (if 60 < x3 then K x3 σ else 0 ≤ wi (16 + x1) ∧ wi (16 + x1) < 46 ∧ (if x2 ≤ (σ 1346 0 (wi (16 + x1))) then K x3 σ else P_X12_endsAsTold σ (fun r_7 σ_6 => (P_X12_over_L40 x1 x2 K Q n) (wi (x3 + 1)) σ_6)))
set_option maxRecDepth 20000 in
set_option maxHeartbeats 2000000 in
theorem e_P_X12_over_L40  {x1 : Int} {x2 : Int} {K : Int → St → Prop} {Q : Int → St → Prop}  (hK : ∀ x3 σ, K x3 σ → E Y_X12_over 6 0 0 (QI Q) ww 0 0 70 [some (vR 12 0), none, none, some (vI x3)] [] σ) : ∀ (n : Nat) (x3 : Int) (σ : St), P_X12_over_L40 x1 x2 K Q n x3 σ → E Y_X12_over 6 0 0 (QI Q) ww 0 0 40 [some (vR 12 0), some (vI x1), some (vI x2), some (vI x3)] [] σ := by
  intro n
  induction n with
  | zero => intro x3 σ h; exact h.elim
  | succ n hR =>
    intro x3 σ h
    unfold P_X12_over_L40 at h
    refine E_iload_n dX12_over_40 rfl rfl ?_
    refine E_bp dX12_over_41 rfl ?_
    refine E_icmp_gt (tgt := 70) dX12_over_43 (by decide) (fun hc => ?_) (fun hc => ?_)
    · have h := Eq.mp (if_pos hc) h
      refine E_wk2 [some (vR 12 0), none, none, some (vI x3)] ⟨rfl, ⟨rfl, trivial⟩⟩ ?_
      exact hK _ _ h
    · have h := Eq.mp (if_neg hc) h
      refine E_aload_n dX12_over_46 rfl rfl ?_
      refine E_getr (i := 0) dX12_over_47 fl_RX12_111 rfl rfl (go_12_46 _ _) ?_
      refine E_bp dX12_over_50 rfl ?_
      refine E_iload_n dX12_over_52 rfl rfl ?_
      refine E_iadd dX12_over_53 ?_
      obtain ⟨hg0, hg1, h⟩ := h
      refine E_iald dX12_over_54 sh_1346 hg0 hg1 ?_
      refine E_iload_n dX12_over_55 rfl rfl ?_
      refine E_icmp_ge (tgt := 70) dX12_over_56 (by decide) (fun hc => ?_) (fun hc => ?_)
      · have h := Eq.mp (if_pos hc) h
        refine E_wk2 [some (vR 12 0), none, none, some (vI x3)] ⟨rfl, ⟨rfl, trivial⟩⟩ ?_
        exact hK _ _ h
      · have h := Eq.mp (if_neg hc) h
        refine E_aload_n dX12_over_59 rfl rfl ?_
        refine E_callV (Y' := Y_X12_endsAsTold) (as := []) (st := []) dX12_over_60 lk_RX12_425 m_X12_endsAsTold (by decide) (Nat.le_refl _) (Nat.le_refl _) rfl rfl (Nat.le_of_ble_eq_true rfl) (s_X12_endsAsTold h) (fun r0 B0 σ_6 h => ?_)
        obtain ⟨r_7, rfl, rfl, h⟩ := h
        refine E_pop dX12_over_63 (fun _ q => by cases q) ?_
        refine E_iinc (ls' := [some (vR 12 0), some (vI x1), some (vI x2), some (vI (wi (x3 + 1)))]) dX12_over_64 rfl (by decide) rfl rfl ?_
        refine E_goto (tgt := 40) dX12_over_67 (by decide) ?_
        exact hR _ _ h
def P_X12_over_J70  (x3 : Int)  (Q : Int → St → Prop) (σ : St) : Prop :=
  P_X12_copies 1348 0 0 1346 0 0 σ (fun σ_10 => (if x3 ≤ 60 then Q x3 σ_10 else Q (-1) σ_10))
set_option maxRecDepth 20000 in
set_option maxHeartbeats 2000000 in
theorem e_P_X12_over_J70  {x3 : Int}  {Q : Int → St → Prop} {σ : St}   (h : P_X12_over_J70 x3 Q σ) : E Y_X12_over 6 0 0 (QI Q) ww 0 0 70 [some (vR 12 0), none, none, some (vI x3)] [] σ := by
  unfold P_X12_over_J70 at h
  refine E_aload_n dX12_over_70 rfl rfl ?_
  refine E_getr (i := 0) dX12_over_71 fl_RX12_117 rfl rfl (go_12_48 _ _) ?_
  refine E_ic dX12_over_74 rfl ?_
  refine E_aload_n dX12_over_75 rfl rfl ?_
  refine E_getr (i := 0) dX12_over_76 fl_RX12_111 rfl rfl (go_12_46 _ _) ?_
  refine E_ic dX12_over_79 rfl ?_
  refine E_callS (Y' := Y_X12_copies) (as := [vR 1348 0, vI 0, vR 1346 0, vI 0]) (st := []) dX12_over_80 lk_RX12_409 m_X12_copies (by decide) (Nat.le_refl _) (Nat.le_refl _) rfl rfl (Nat.le_of_ble_eq_true rfl) (s_X12_copies h) (fun r0 B0 σ_10 h => ?_)
  obtain ⟨rfl, rfl, h⟩ := h
  refine E_iload_n dX12_over_83 rfl rfl ?_
  refine E_bp dX12_over_84 rfl ?_
  refine E_icmp_le (tgt := 93) dX12_over_86 (by decide) (fun hc => ?_) (fun hc => ?_)
  · have h := Eq.mp (if_pos hc) h
    refine E_iload_n dX12_over_93 rfl rfl ?_
    exact E_iret dX12_over_94 rfl ⟨_, rfl, rfl, h⟩
  · have h := Eq.mp (if_neg hc) h
    refine E_ic dX12_over_89 rfl ?_
    refine E_goto (tgt := 94) dX12_over_90 (by decide) ?_
    exact E_iret dX12_over_94 rfl ⟨_, rfl, rfl, h⟩
def P_X12_over  (x1 : Int) (x2 : Int) (σ : St) (Q : Int → St → Prop) : Prop :=
  P_X12_isBall x1 (up σ 12 0 0 0) (fun r_2 σ_1 => (if r_2 = 0 then Q (-1) σ_1 else P_X12_within x2 1 60 σ_1 (fun r_4 σ_3 => (if r_4 = 0 then Q (-1) σ_3 else P_X12_copies 1346 0 0 1348 0 0 σ_3 (fun σ_5 => P_X12_over_L40 x1 x2 (fun x3_8 σ_9 => P_X12_over_J70 x3_8 Q σ_9) Q FU 0 σ_5)))))
set_option maxRecDepth 20000 in
set_option maxHeartbeats 2000000 in
theorem s_X12_over   {x1 : Int} {x2 : Int} {σ : St} {Q : Int → St → Prop} (h : P_X12_over x1 x2 σ Q) : Cn Y_X12_over 6 0 0 ww σ [vR 12 0, vI x1, vI x2] (QI Q) := by
  refine Cn_of [some (vR 12 0), some (vI x1), some (vI x2), none] (by decide) (Nat.le_of_ble_eq_true rfl) rfl ?_
  unfold P_X12_over at h
  refine E_aload_n dX12_over_0 rfl rfl ?_
  refine E_ic dX12_over_1 rfl ?_
  refine E_puti dX12_over_2 fl_RX12_141 rfl rfl rfl ?_
  refine E_aload_n dX12_over_5 rfl rfl ?_
  refine E_iload_n dX12_over_6 rfl rfl ?_
  refine E_callV (Y' := Y_X12_isBall) (as := [vI x1]) (st := []) dX12_over_7 lk_RX12_406 m_X12_isBall (by decide) (Nat.le_refl _) (Nat.le_refl _) rfl rfl (Nat.le_of_ble_eq_true rfl) (s_X12_isBall h) (fun r0 B0 σ_1 h => ?_)
  obtain ⟨r_2, rfl, rfl, h⟩ := h
  refine E_if_eq (tgt := 23) dX12_over_10 (by decide) (fun hc => ?_) (fun hc => ?_)
  · have h := Eq.mp (if_pos hc) h
    refine E_ic dX12_over_23 rfl ?_
    exact E_iret dX12_over_24 rfl ⟨_, rfl, rfl, h⟩
  · have h := Eq.mp (if_neg hc) h
    refine E_iload_n dX12_over_13 rfl rfl ?_
    refine E_ic dX12_over_14 rfl ?_
    refine E_bp dX12_over_15 rfl ?_
    refine E_callS (Y' := Y_X12_within) (as := [vI x2, vI 1, vI 60]) (st := []) dX12_over_17 lk_RX12_264 m_X12_within (by decide) (Nat.le_refl _) (Nat.le_refl _) rfl rfl (Nat.le_of_ble_eq_true rfl) (s_X12_within h) (fun r0 B0 σ_3 h => ?_)
    obtain ⟨r_4, rfl, rfl, h⟩ := h
    refine E_if_ne (tgt := 25) dX12_over_20 (by decide) (fun hc => ?_) (fun hc => ?_)
    · have h := Eq.mp (if_neg hc) h
      refine E_aload_n dX12_over_25 rfl rfl ?_
      refine E_getr (i := 0) dX12_over_26 fl_RX12_111 rfl rfl (go_12_46 _ _) ?_
      refine E_ic dX12_over_29 rfl ?_
      refine E_aload_n dX12_over_30 rfl rfl ?_
      refine E_getr (i := 0) dX12_over_31 fl_RX12_117 rfl rfl (go_12_48 _ _) ?_
      refine E_ic dX12_over_34 rfl ?_
      refine E_callS (Y' := Y_X12_copies) (as := [vR 1346 0, vI 0, vR 1348 0, vI 0]) (st := []) dX12_over_35 lk_RX12_409 m_X12_copies (by decide) (Nat.le_refl _) (Nat.le_refl _) rfl rfl (Nat.le_of_ble_eq_true rfl) (s_X12_copies h) (fun r0 B0 σ_5 h => ?_)
      obtain ⟨rfl, rfl, h⟩ := h
      refine E_ic dX12_over_38 rfl ?_
      refine E_istore_n (ls' := [some (vR 12 0), some (vI x1), some (vI x2), some (vI 0)]) dX12_over_39 rfl (by decide) rfl ?_
      refine e_P_X12_over_L40 ?_ _ _ _ h
      · intro x3_8 σ_9 h
        exact e_P_X12_over_J70 h
    · have h := Eq.mp (if_pos hc) h
      refine E_ic dX12_over_23 rfl ?_
      exact E_iret dX12_over_24 rfl ⟨_, rfl, rfl, h⟩
