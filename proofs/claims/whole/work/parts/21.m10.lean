abbrev Y_X12_send : My := (yX12_send, cX12_send, 3, some .int)
theorem dX12_send_0 : decode cX12_send 0 = .ok (.aload_n 0, 1) := by decide +kernel
theorem dX12_send_1 : decode cX12_send 1 = .ok (.iconst 0, 1) := by decide +kernel
theorem dX12_send_2 : decode cX12_send 2 = .ok (.putfield 141, 3) := by decide +kernel
theorem dX12_send_5 : decode cX12_send 5 = .ok (.aload_n 0, 1) := by decide +kernel
theorem dX12_send_6 : decode cX12_send 6 = .ok (.iload_n 1, 1) := by decide +kernel
theorem dX12_send_7 : decode cX12_send 7 = .ok (.invokevirtual 406, 3) := by decide +kernel
theorem dX12_send_10 : decode cX12_send 10 = .ok (.ifCond .eq 11, 3) := by decide +kernel
theorem dX12_send_13 : decode cX12_send 13 = .ok (.aload_n 0, 1) := by decide +kernel
theorem dX12_send_14 : decode cX12_send 14 = .ok (.iload_n 1, 1) := by decide +kernel
theorem dX12_send_15 : decode cX12_send 15 = .ok (.invokevirtual 413, 3) := by decide +kernel
theorem dX12_send_18 : decode cX12_send 18 = .ok (.ifCond .ne 5, 3) := by decide +kernel
theorem dX12_send_21 : decode cX12_send 21 = .ok (.iconst (-1), 1) := by decide +kernel
theorem dX12_send_22 : decode cX12_send 22 = .ok (.ireturn, 1) := by decide +kernel
theorem dX12_send_23 : decode cX12_send 23 = .ok (.aload_n 0, 1) := by decide +kernel
theorem dX12_send_24 : decode cX12_send 24 = .ok (.invokevirtual 416, 3) := by decide +kernel
theorem dX12_send_27 : decode cX12_send 27 = .ok (.aload_n 0, 1) := by decide +kernel
theorem dX12_send_28 : decode cX12_send 28 = .ok (.getfield 111, 3) := by decide +kernel
theorem dX12_send_31 : decode cX12_send 31 = .ok (.bipush 28, 2) := by decide +kernel
theorem dX12_send_33 : decode cX12_send 33 = .ok (.iload_n 1, 1) := by decide +kernel
theorem dX12_send_34 : decode cX12_send 34 = .ok (.iadd, 1) := by decide +kernel
theorem dX12_send_35 : decode cX12_send 35 = .ok (.iaload, 1) := by decide +kernel
theorem dX12_send_36 : decode cX12_send 36 = .ok (.istore_n 2, 1) := by decide +kernel
theorem dX12_send_37 : decode cX12_send 37 = .ok (.aload_n 0, 1) := by decide +kernel
theorem dX12_send_38 : decode cX12_send 38 = .ok (.iload_n 1, 1) := by decide +kernel
theorem dX12_send_39 : decode cX12_send 39 = .ok (.invokevirtual 419, 3) := by decide +kernel
theorem dX12_send_42 : decode cX12_send 42 = .ok (.iload_n 2, 1) := by decide +kernel
theorem dX12_send_43 : decode cX12_send 43 = .ok (.ireturn, 1) := by decide +kernel
theorem lk_RX12_413 : Cond.methodLink RX12 413 yX12_canSend ∈ tG := inG (i := 1763) (by decide +kernel) (by decide +kernel)
theorem lk_RX12_416 : Cond.methodLink RX12 416 yX12_keeps ∈ tG := inG (i := 1767) (by decide +kernel) (by decide +kernel)
theorem lk_RX12_419 : Cond.methodLink RX12 419 yX12_sends ∈ tG := inG (i := 1774) (by decide +kernel) (by decide +kernel)
theorem m_X12_canSend : MV Y_X12_canSend 1 12 := ⟨⟨inG (i := 1766) (by decide +kernel) (by decide +kernel), inG (i := 110) (by decide +kernel) (by decide +kernel), by decide, by decide, by decide, by decide +kernel⟩, inG (i := 1765) (by decide +kernel) (by decide +kernel), inG (i := 62) (by decide +kernel) (by decide +kernel), by decide⟩
theorem m_X12_keeps : MV Y_X12_keeps 0 12 := ⟨⟨inG (i := 1770) (by decide +kernel) (by decide +kernel), inG (i := 110) (by decide +kernel) (by decide +kernel), by decide, by decide, by decide, by decide +kernel⟩, inG (i := 1769) (by decide +kernel) (by decide +kernel), inG (i := 63) (by decide +kernel) (by decide +kernel), by decide⟩
theorem m_X12_sends : MV Y_X12_sends 1 12 := ⟨⟨inG (i := 1777) (by decide +kernel) (by decide +kernel), inG (i := 110) (by decide +kernel) (by decide +kernel), by decide, by decide, by decide, by decide +kernel⟩, inG (i := 1776) (by decide +kernel) (by decide +kernel), inG (i := 64) (by decide +kernel) (by decide +kernel), by decide⟩
def P_X12_send  (x1 : Int) (σ : St) (Q : Int → St → Prop) : Prop :=
  P_X12_isBall x1 (up σ 12 0 0 0) (fun r_2 σ_1 => (if r_2 = 0 then Q (-1) σ_1 else P_X12_canSend x1 σ_1 (fun r_4 σ_3 => (if r_4 = 0 then Q (-1) σ_3 else P_X12_keeps σ_3 (fun σ_5 => 0 ≤ wi (28 + x1) ∧ wi (28 + x1) < 46 ∧ P_X12_sends x1 σ_5 (fun σ_6 => Q (σ_5 1346 0 (wi (28 + x1))) σ_6))))))
set_option maxRecDepth 20000 in
set_option maxHeartbeats 2000000 in
theorem s_X12_send   {x1 : Int} {σ : St} {Q : Int → St → Prop} (h : P_X12_send x1 σ Q) : Cn Y_X12_send 3 0 0 ww σ [vR 12 0, vI x1] (QI Q) := by
  refine Cn_of [some (vR 12 0), some (vI x1), none] (by decide) (Nat.le_of_ble_eq_true rfl) rfl ?_
  unfold P_X12_send at h
  refine E_aload_n dX12_send_0 rfl rfl ?_
  refine E_ic dX12_send_1 rfl ?_
  refine E_puti dX12_send_2 fl_RX12_141 rfl rfl rfl ?_
  refine E_aload_n dX12_send_5 rfl rfl ?_
  refine E_iload_n dX12_send_6 rfl rfl ?_
  refine E_callV (Y' := Y_X12_isBall) (as := [vI x1]) (st := []) dX12_send_7 lk_RX12_406 m_X12_isBall (by decide) (Nat.le_refl _) (Nat.le_refl _) rfl rfl (Nat.le_of_ble_eq_true rfl) (s_X12_isBall h) (fun r0 B0 σ_1 h => ?_)
  obtain ⟨r_2, rfl, rfl, h⟩ := h
  refine E_if_eq (tgt := 21) dX12_send_10 (by decide) (fun hc => ?_) (fun hc => ?_)
  · have h := Eq.mp (if_pos hc) h
    refine E_ic dX12_send_21 rfl ?_
    exact E_iret dX12_send_22 rfl ⟨_, rfl, rfl, h⟩
  · have h := Eq.mp (if_neg hc) h
    refine E_aload_n dX12_send_13 rfl rfl ?_
    refine E_iload_n dX12_send_14 rfl rfl ?_
    refine E_callV (Y' := Y_X12_canSend) (as := [vI x1]) (st := []) dX12_send_15 lk_RX12_413 m_X12_canSend (by decide) (Nat.le_refl _) (Nat.le_refl _) rfl rfl (Nat.le_of_ble_eq_true rfl) (s_X12_canSend h) (fun r0 B0 σ_3 h => ?_)
    obtain ⟨r_4, rfl, rfl, h⟩ := h
    refine E_if_ne (tgt := 23) dX12_send_18 (by decide) (fun hc => ?_) (fun hc => ?_)
    · have h := Eq.mp (if_neg hc) h
      refine E_aload_n dX12_send_23 rfl rfl ?_
      refine E_callV (Y' := Y_X12_keeps) (as := []) (st := []) dX12_send_24 lk_RX12_416 m_X12_keeps (by decide) (Nat.le_refl _) (Nat.le_refl _) rfl rfl (Nat.le_of_ble_eq_true rfl) (s_X12_keeps h) (fun r0 B0 σ_5 h => ?_)
      obtain ⟨rfl, rfl, h⟩ := h
      refine E_aload_n dX12_send_27 rfl rfl ?_
      refine E_getr (i := 0) dX12_send_28 fl_RX12_111 rfl rfl (go_12_46 _ _) ?_
      refine E_bp dX12_send_31 rfl ?_
      refine E_iload_n dX12_send_33 rfl rfl ?_
      refine E_iadd dX12_send_34 ?_
      obtain ⟨hg0, hg1, h⟩ := h
      refine E_iald dX12_send_35 sh_1346 hg0 hg1 ?_
      refine E_istore_n (ls' := [some (vR 12 0), some (vI x1), some (vI (σ_5 1346 0 (wi (28 + x1))))]) dX12_send_36 rfl (by decide) rfl ?_
      refine E_aload_n dX12_send_37 rfl rfl ?_
      refine E_iload_n dX12_send_38 rfl rfl ?_
      refine E_callV (Y' := Y_X12_sends) (as := [vI x1]) (st := []) dX12_send_39 lk_RX12_419 m_X12_sends (by decide) (Nat.le_refl _) (Nat.le_refl _) rfl rfl (Nat.le_of_ble_eq_true rfl) (s_X12_sends h) (fun r0 B0 σ_6 h => ?_)
      obtain ⟨rfl, rfl, h⟩ := h
      refine E_iload_n dX12_send_42 rfl rfl ?_
      exact E_iret dX12_send_43 rfl ⟨_, rfl, rfl, h⟩
    · have h := Eq.mp (if_pos hc) h
      refine E_ic dX12_send_21 rfl ?_
      exact E_iret dX12_send_22 rfl ⟨_, rfl, rfl, h⟩
abbrev Y_X12_beat : My := (yX12_beat, cX12_beat, 1, some .int)
theorem dX12_beat_0 : decode cX12_beat 0 = .ok (.aload_n 0, 1) := by decide +kernel
theorem dX12_beat_1 : decode cX12_beat 1 = .ok (.iconst 0, 1) := by decide +kernel
theorem dX12_beat_2 : decode cX12_beat 2 = .ok (.putfield 141, 3) := by decide +kernel
theorem dX12_beat_5 : decode cX12_beat 5 = .ok (.aload_n 0, 1) := by decide +kernel
theorem dX12_beat_6 : decode cX12_beat 6 = .ok (.invokevirtual 416, 3) := by decide +kernel
theorem dX12_beat_9 : decode cX12_beat 9 = .ok (.aload_n 0, 1) := by decide +kernel
theorem dX12_beat_10 : decode cX12_beat 10 = .ok (.invokevirtual 385, 3) := by decide +kernel
theorem dX12_beat_13 : decode cX12_beat 13 = .ok (.ireturn, 1) := by decide +kernel
def P_X12_beat   (σ : St) (Q : Int → St → Prop) : Prop :=
  P_X12_keeps (up σ 12 0 0 0) (fun σ_1 => P_X12_passes σ_1 (fun r_3 σ_2 => Q r_3 σ_2))
set_option maxRecDepth 20000 in
set_option maxHeartbeats 2000000 in
theorem s_X12_beat    {σ : St} {Q : Int → St → Prop} (h : P_X12_beat  σ Q) : Cn Y_X12_beat 4 0 0 ww σ [vR 12 0] (QI Q) := by
  refine Cn_of [some (vR 12 0)] (by decide) (Nat.le_of_ble_eq_true rfl) rfl ?_
  unfold P_X12_beat at h
  refine E_aload_n dX12_beat_0 rfl rfl ?_
  refine E_ic dX12_beat_1 rfl ?_
  refine E_puti dX12_beat_2 fl_RX12_141 rfl rfl rfl ?_
  refine E_aload_n dX12_beat_5 rfl rfl ?_
  refine E_callV (Y' := Y_X12_keeps) (as := []) (st := []) dX12_beat_6 lk_RX12_416 m_X12_keeps (by decide) (Nat.le_refl _) (Nat.le_refl _) rfl rfl (Nat.le_of_ble_eq_true rfl) (s_X12_keeps h) (fun r0 B0 σ_1 h => ?_)
  obtain ⟨rfl, rfl, h⟩ := h
  refine E_aload_n dX12_beat_9 rfl rfl ?_
  refine E_callV (Y' := Y_X12_passes) (as := []) (st := []) dX12_beat_10 lk_RX12_385 m_X12_passes (by decide) (Nat.le_refl _) (Nat.le_refl _) rfl rfl (Nat.le_of_ble_eq_true rfl) (s_X12_passes h) (fun r0 B0 σ_2 h => ?_)
  obtain ⟨r_3, rfl, rfl, h⟩ := h
  exact E_iret dX12_beat_13 rfl ⟨_, rfl, rfl, h⟩
abbrev Y_X12_set : My := (yX12_set, cX12_set, 4, some .int)
theorem dX12_set_0 : decode cX12_set 0 = .ok (.aload_n 0, 1) := by decide +kernel
theorem dX12_set_1 : decode cX12_set 1 = .ok (.iconst 0, 1) := by decide +kernel
theorem dX12_set_2 : decode cX12_set 2 = .ok (.putfield 141, 3) := by decide +kernel
theorem dX12_set_5 : decode cX12_set 5 = .ok (.aload_n 0, 1) := by decide +kernel
theorem dX12_set_6 : decode cX12_set 6 = .ok (.iload_n 1, 1) := by decide +kernel
theorem dX12_set_7 : decode cX12_set 7 = .ok (.invokevirtual 403, 3) := by decide +kernel
theorem dX12_set_10 : decode cX12_set 10 = .ok (.ifCond .eq 13, 3) := by decide +kernel
theorem dX12_set_13 : decode cX12_set 13 = .ok (.iload_n 2, 1) := by decide +kernel
theorem dX12_set_14 : decode cX12_set 14 = .ok (.iconst 0, 1) := by decide +kernel
theorem dX12_set_15 : decode cX12_set 15 = .ok (.bipush 60, 2) := by decide +kernel
theorem dX12_set_17 : decode cX12_set 17 = .ok (.invokestatic 264, 3) := by decide +kernel
theorem dX12_set_20 : decode cX12_set 20 = .ok (.ifCond .ne 5, 3) := by decide +kernel
theorem dX12_set_23 : decode cX12_set 23 = .ok (.iconst (-1), 1) := by decide +kernel
theorem dX12_set_24 : decode cX12_set 24 = .ok (.ireturn, 1) := by decide +kernel
theorem dX12_set_25 : decode cX12_set 25 = .ok (.aload_n 0, 1) := by decide +kernel
theorem dX12_set_26 : decode cX12_set 26 = .ok (.invokevirtual 416, 3) := by decide +kernel
theorem dX12_set_29 : decode cX12_set 29 = .ok (.aload_n 0, 1) := by decide +kernel
theorem dX12_set_30 : decode cX12_set 30 = .ok (.getfield 111, 3) := by decide +kernel
theorem dX12_set_33 : decode cX12_set 33 = .ok (.bipush 10, 2) := by decide +kernel
theorem dX12_set_35 : decode cX12_set 35 = .ok (.iload_n 1, 1) := by decide +kernel
theorem dX12_set_36 : decode cX12_set 36 = .ok (.iadd, 1) := by decide +kernel
theorem dX12_set_37 : decode cX12_set 37 = .ok (.iaload, 1) := by decide +kernel
theorem dX12_set_38 : decode cX12_set 38 = .ok (.istore_n 3, 1) := by decide +kernel
theorem dX12_set_39 : decode cX12_set 39 = .ok (.aload_n 0, 1) := by decide +kernel
theorem dX12_set_40 : decode cX12_set 40 = .ok (.getfield 111, 3) := by decide +kernel
theorem dX12_set_43 : decode cX12_set 43 = .ok (.bipush 10, 2) := by decide +kernel
theorem dX12_set_45 : decode cX12_set 45 = .ok (.iload_n 1, 1) := by decide +kernel
theorem dX12_set_46 : decode cX12_set 46 = .ok (.iadd, 1) := by decide +kernel
theorem dX12_set_47 : decode cX12_set 47 = .ok (.iload_n 2, 1) := by decide +kernel
theorem dX12_set_48 : decode cX12_set 48 = .ok (.iastore, 1) := by decide +kernel
theorem dX12_set_49 : decode cX12_set 49 = .ok (.iload_n 3, 1) := by decide +kernel
theorem dX12_set_50 : decode cX12_set 50 = .ok (.ireturn, 1) := by decide +kernel
def P_X12_set  (x1 : Int) (x2 : Int) (σ : St) (Q : Int → St → Prop) : Prop :=
  P_X12_isCounter x1 (up σ 12 0 0 0) (fun r_2 σ_1 => (if r_2 = 0 then Q (-1) σ_1 else P_X12_within x2 0 60 σ_1 (fun r_4 σ_3 => (if r_4 = 0 then Q (-1) σ_3 else P_X12_keeps σ_3 (fun σ_5 => 0 ≤ wi (10 + x1) ∧ wi (10 + x1) < 46 ∧ 0 ≤ wi (10 + x1) ∧ wi (10 + x1) < 46 ∧ Q (σ_5 1346 0 (wi (10 + x1))) (up σ_5 1346 0 (wi (10 + x1)) x2))))))
set_option maxRecDepth 20000 in
set_option maxHeartbeats 2000000 in
theorem s_X12_set   {x1 : Int} {x2 : Int} {σ : St} {Q : Int → St → Prop} (h : P_X12_set x1 x2 σ Q) : Cn Y_X12_set 2 0 0 ww σ [vR 12 0, vI x1, vI x2] (QI Q) := by
  refine Cn_of [some (vR 12 0), some (vI x1), some (vI x2), none] (by decide) (Nat.le_of_ble_eq_true rfl) rfl ?_
  unfold P_X12_set at h
  refine E_aload_n dX12_set_0 rfl rfl ?_
  refine E_ic dX12_set_1 rfl ?_
  refine E_puti dX12_set_2 fl_RX12_141 rfl rfl rfl ?_
  refine E_aload_n dX12_set_5 rfl rfl ?_
  refine E_iload_n dX12_set_6 rfl rfl ?_
  refine E_callV (Y' := Y_X12_isCounter) (as := [vI x1]) (st := []) dX12_set_7 lk_RX12_403 m_X12_isCounter (by decide) (Nat.le_refl _) (Nat.le_refl _) rfl rfl (Nat.le_of_ble_eq_true rfl) (s_X12_isCounter h) (fun r0 B0 σ_1 h => ?_)
  obtain ⟨r_2, rfl, rfl, h⟩ := h
  refine E_if_eq (tgt := 23) dX12_set_10 (by decide) (fun hc => ?_) (fun hc => ?_)
  · have h := Eq.mp (if_pos hc) h
    refine E_ic dX12_set_23 rfl ?_
    exact E_iret dX12_set_24 rfl ⟨_, rfl, rfl, h⟩
  · have h := Eq.mp (if_neg hc) h
    refine E_iload_n dX12_set_13 rfl rfl ?_
    refine E_ic dX12_set_14 rfl ?_
    refine E_bp dX12_set_15 rfl ?_
    refine E_callS (Y' := Y_X12_within) (as := [vI x2, vI 0, vI 60]) (st := []) dX12_set_17 lk_RX12_264 m_X12_within (by decide) (Nat.le_refl _) (Nat.le_refl _) rfl rfl (Nat.le_of_ble_eq_true rfl) (s_X12_within h) (fun r0 B0 σ_3 h => ?_)
    obtain ⟨r_4, rfl, rfl, h⟩ := h
    refine E_if_ne (tgt := 25) dX12_set_20 (by decide) (fun hc => ?_) (fun hc => ?_)
    · have h := Eq.mp (if_neg hc) h
      refine E_aload_n dX12_set_25 rfl rfl ?_
      refine E_callV (Y' := Y_X12_keeps) (as := []) (st := []) dX12_set_26 lk_RX12_416 m_X12_keeps (by decide) (Nat.le_refl _) (Nat.le_refl _) rfl rfl (Nat.le_of_ble_eq_true rfl) (s_X12_keeps h) (fun r0 B0 σ_5 h => ?_)
      obtain ⟨rfl, rfl, h⟩ := h
      refine E_aload_n dX12_set_29 rfl rfl ?_
      refine E_getr (i := 0) dX12_set_30 fl_RX12_111 rfl rfl (go_12_46 _ _) ?_
      refine E_bp dX12_set_33 rfl ?_
      refine E_iload_n dX12_set_35 rfl rfl ?_
      refine E_iadd dX12_set_36 ?_
      obtain ⟨hg0, hg1, h⟩ := h
      refine E_iald dX12_set_37 sh_1346 hg0 hg1 ?_
      refine E_istore_n (ls' := [some (vR 12 0), some (vI x1), some (vI x2), some (vI (σ_5 1346 0 (wi (10 + x1))))]) dX12_set_38 rfl (by decide) rfl ?_
      refine E_aload_n dX12_set_39 rfl rfl ?_
      refine E_getr (i := 0) dX12_set_40 fl_RX12_111 rfl rfl (go_12_46 _ _) ?_
      refine E_bp dX12_set_43 rfl ?_
      refine E_iload_n dX12_set_45 rfl rfl ?_
      refine E_iadd dX12_set_46 ?_
      refine E_iload_n dX12_set_47 rfl rfl ?_
      obtain ⟨hg0, hg1, h⟩ := h
      refine E_iast dX12_set_48 sh_1346 hg0 hg1 ?_
      refine E_iload_n dX12_set_49 rfl rfl ?_
      exact E_iret dX12_set_50 rfl ⟨_, rfl, rfl, h⟩
    · have h := Eq.mp (if_pos hc) h
      refine E_ic dX12_set_23 rfl ?_
      exact E_iret dX12_set_24 rfl ⟨_, rfl, rfl, h⟩
abbrev Y_X12_canCarry : My := (yX12_canCarry, cX12_canCarry, 3, some .boolean)
theorem dX12_canCarry_0 : decode cX12_canCarry 0 = .ok (.aload_n 0, 1) := by decide +kernel
theorem dX12_canCarry_1 : decode cX12_canCarry 1 = .ok (.getfield 111, 3) := by decide +kernel
theorem dX12_canCarry_4 : decode cX12_canCarry 4 = .ok (.bipush 22, 2) := by decide +kernel
theorem dX12_canCarry_6 : decode cX12_canCarry 6 = .ok (.iload_n 1, 1) := by decide +kernel
theorem dX12_canCarry_7 : decode cX12_canCarry 7 = .ok (.iadd, 1) := by decide +kernel
theorem dX12_canCarry_8 : decode cX12_canCarry 8 = .ok (.iaload, 1) := by decide +kernel
theorem dX12_canCarry_9 : decode cX12_canCarry 9 = .ok (.ifCond .ne 20, 3) := by decide +kernel
theorem dX12_canCarry_12 : decode cX12_canCarry 12 = .ok (.aload_n 0, 1) := by decide +kernel
theorem dX12_canCarry_13 : decode cX12_canCarry 13 = .ok (.getfield 111, 3) := by decide +kernel
theorem dX12_canCarry_16 : decode cX12_canCarry 16 = .ok (.bipush 28, 2) := by decide +kernel
theorem dX12_canCarry_18 : decode cX12_canCarry 18 = .ok (.iload_n 1, 1) := by decide +kernel
theorem dX12_canCarry_19 : decode cX12_canCarry 19 = .ok (.iadd, 1) := by decide +kernel
theorem dX12_canCarry_20 : decode cX12_canCarry 20 = .ok (.iaload, 1) := by decide +kernel
theorem dX12_canCarry_21 : decode cX12_canCarry 21 = .ok (.iload_n 2, 1) := by decide +kernel
theorem dX12_canCarry_22 : decode cX12_canCarry 22 = .ok (.if_icmp .eq 7, 3) := by decide +kernel
theorem dX12_canCarry_25 : decode cX12_canCarry 25 = .ok (.iconst 1, 1) := by decide +kernel
theorem dX12_canCarry_26 : decode cX12_canCarry 26 = .ok (.goto 4, 3) := by decide +kernel
theorem dX12_canCarry_29 : decode cX12_canCarry 29 = .ok (.iconst 0, 1) := by decide +kernel
theorem dX12_canCarry_30 : decode cX12_canCarry 30 = .ok (.ireturn, 1) := by decide +kernel
def P_X12_canCarry_J29    (Q : Int → St → Prop) (σ : St) : Prop :=
  Q 0 σ
set_option maxRecDepth 20000 in
set_option maxHeartbeats 2000000 in
theorem e_P_X12_canCarry_J29    {Q : Int → St → Prop} {σ : St}   (h : P_X12_canCarry_J29  Q σ) : E Y_X12_canCarry 0 0 0 (QI Q) ww 0 0 29 [none, none, none] [] σ := by
  unfold P_X12_canCarry_J29 at h
  refine E_ic dX12_canCarry_29 rfl ?_
  exact E_zret dX12_canCarry_30 rfl (by decide) ⟨_, rfl, rfl, h⟩
def P_X12_canCarry  (x1 : Int) (x2 : Int) (σ : St) (Q : Int → St → Prop) : Prop :=
  0 ≤ wi (22 + x1) ∧ wi (22 + x1) < 46 ∧ (if (σ 1346 0 (wi (22 + x1))) = 0 then 0 ≤ wi (28 + x1) ∧ wi (28 + x1) < 46 ∧ (if (σ 1346 0 (wi (28 + x1))) = x2 then P_X12_canCarry_J29 Q σ else Q 1 σ) else P_X12_canCarry_J29 Q σ)
set_option maxRecDepth 20000 in
set_option maxHeartbeats 2000000 in
theorem s_X12_canCarry   {x1 : Int} {x2 : Int} {σ : St} {Q : Int → St → Prop} (h : P_X12_canCarry x1 x2 σ Q) : Cn Y_X12_canCarry 0 0 0 ww σ [vR 12 0, vI x1, vI x2] (QI Q) := by
  refine Cn_of [some (vR 12 0), some (vI x1), some (vI x2)] (by decide) (Nat.le_of_ble_eq_true rfl) rfl ?_
  unfold P_X12_canCarry at h
  refine E_aload_n dX12_canCarry_0 rfl rfl ?_
  refine E_getr (i := 0) dX12_canCarry_1 fl_RX12_111 rfl rfl (go_12_46 _ _) ?_
  refine E_bp dX12_canCarry_4 rfl ?_
  refine E_iload_n dX12_canCarry_6 rfl rfl ?_
  refine E_iadd dX12_canCarry_7 ?_
  obtain ⟨hg0, hg1, h⟩ := h
  refine E_iald dX12_canCarry_8 sh_1346 hg0 hg1 ?_
  refine E_if_ne (tgt := 29) dX12_canCarry_9 (by decide) (fun hc => ?_) (fun hc => ?_)
  · have h := Eq.mp (if_neg hc) h
    refine E_wk2 [none, none, none] trivial ?_
    exact e_P_X12_canCarry_J29 h
  · have h := Eq.mp (if_pos hc) h
    refine E_aload_n dX12_canCarry_12 rfl rfl ?_
    refine E_getr (i := 0) dX12_canCarry_13 fl_RX12_111 rfl rfl (go_12_46 _ _) ?_
    refine E_bp dX12_canCarry_16 rfl ?_
    refine E_iload_n dX12_canCarry_18 rfl rfl ?_
    refine E_iadd dX12_canCarry_19 ?_
    obtain ⟨hg0, hg1, h⟩ := h
    refine E_iald dX12_canCarry_20 sh_1346 hg0 hg1 ?_
    refine E_iload_n dX12_canCarry_21 rfl rfl ?_
    refine E_icmp_eq (tgt := 29) dX12_canCarry_22 (by decide) (fun hc => ?_) (fun hc => ?_)
    · have h := Eq.mp (if_pos hc) h
      refine E_wk2 [none, none, none] trivial ?_
      exact e_P_X12_canCarry_J29 h
    · have h := Eq.mp (if_neg hc) h
      refine E_ic dX12_canCarry_25 rfl ?_
      refine E_goto (tgt := 30) dX12_canCarry_26 (by decide) ?_
      exact E_zret dX12_canCarry_30 rfl (by decide) ⟨_, rfl, rfl, h⟩
abbrev Y_X12_carry : My := (yX12_carry, cX12_carry, 4, some .int)
theorem dX12_carry_0 : decode cX12_carry 0 = .ok (.aload_n 0, 1) := by decide +kernel
theorem dX12_carry_1 : decode cX12_carry 1 = .ok (.iconst 0, 1) := by decide +kernel
theorem dX12_carry_2 : decode cX12_carry 2 = .ok (.putfield 141, 3) := by decide +kernel
theorem dX12_carry_5 : decode cX12_carry 5 = .ok (.aload_n 0, 1) := by decide +kernel
theorem dX12_carry_6 : decode cX12_carry 6 = .ok (.iload_n 1, 1) := by decide +kernel
theorem dX12_carry_7 : decode cX12_carry 7 = .ok (.invokevirtual 406, 3) := by decide +kernel
theorem dX12_carry_10 : decode cX12_carry 10 = .ok (.ifCond .eq 20, 3) := by decide +kernel
theorem dX12_carry_13 : decode cX12_carry 13 = .ok (.aload_n 0, 1) := by decide +kernel
theorem dX12_carry_14 : decode cX12_carry 14 = .ok (.iload_n 2, 1) := by decide +kernel
theorem dX12_carry_15 : decode cX12_carry 15 = .ok (.invokevirtual 403, 3) := by decide +kernel
theorem dX12_carry_18 : decode cX12_carry 18 = .ok (.ifCond .eq 12, 3) := by decide +kernel
theorem dX12_carry_21 : decode cX12_carry 21 = .ok (.aload_n 0, 1) := by decide +kernel
theorem dX12_carry_22 : decode cX12_carry 22 = .ok (.iload_n 1, 1) := by decide +kernel
theorem dX12_carry_23 : decode cX12_carry 23 = .ok (.iload_n 2, 1) := by decide +kernel
theorem dX12_carry_24 : decode cX12_carry 24 = .ok (.invokevirtual 422, 3) := by decide +kernel
theorem dX12_carry_27 : decode cX12_carry 27 = .ok (.ifCond .ne 5, 3) := by decide +kernel
theorem dX12_carry_30 : decode cX12_carry 30 = .ok (.iconst (-1), 1) := by decide +kernel
theorem dX12_carry_31 : decode cX12_carry 31 = .ok (.ireturn, 1) := by decide +kernel
theorem dX12_carry_32 : decode cX12_carry 32 = .ok (.aload_n 0, 1) := by decide +kernel
theorem dX12_carry_33 : decode cX12_carry 33 = .ok (.invokevirtual 416, 3) := by decide +kernel
theorem dX12_carry_36 : decode cX12_carry 36 = .ok (.aload_n 0, 1) := by decide +kernel
theorem dX12_carry_37 : decode cX12_carry 37 = .ok (.getfield 111, 3) := by decide +kernel
theorem dX12_carry_40 : decode cX12_carry 40 = .ok (.bipush 28, 2) := by decide +kernel
theorem dX12_carry_42 : decode cX12_carry 42 = .ok (.iload_n 1, 1) := by decide +kernel
theorem dX12_carry_43 : decode cX12_carry 43 = .ok (.iadd, 1) := by decide +kernel
theorem dX12_carry_44 : decode cX12_carry 44 = .ok (.iaload, 1) := by decide +kernel
theorem dX12_carry_45 : decode cX12_carry 45 = .ok (.istore_n 3, 1) := by decide +kernel
theorem dX12_carry_46 : decode cX12_carry 46 = .ok (.aload_n 0, 1) := by decide +kernel
theorem dX12_carry_47 : decode cX12_carry 47 = .ok (.getfield 111, 3) := by decide +kernel
theorem dX12_carry_50 : decode cX12_carry 50 = .ok (.bipush 28, 2) := by decide +kernel
theorem dX12_carry_52 : decode cX12_carry 52 = .ok (.iload_n 1, 1) := by decide +kernel
theorem dX12_carry_53 : decode cX12_carry 53 = .ok (.iadd, 1) := by decide +kernel
theorem dX12_carry_54 : decode cX12_carry 54 = .ok (.iload_n 2, 1) := by decide +kernel
theorem dX12_carry_55 : decode cX12_carry 55 = .ok (.iastore, 1) := by decide +kernel
theorem dX12_carry_56 : decode cX12_carry 56 = .ok (.iload_n 3, 1) := by decide +kernel
theorem dX12_carry_57 : decode cX12_carry 57 = .ok (.ireturn, 1) := by decide +kernel
theorem lk_RX12_422 : Cond.methodLink RX12 422 yX12_canCarry ∈ tG := inG (i := 1814) (by decide +kernel) (by decide +kernel)
theorem m_X12_canCarry : MV Y_X12_canCarry 2 12 := ⟨⟨inG (i := 1817) (by decide +kernel) (by decide +kernel), inG (i := 110) (by decide +kernel) (by decide +kernel), by decide, by decide, by decide, by decide +kernel⟩, inG (i := 1816) (by decide +kernel) (by decide +kernel), inG (i := 71) (by decide +kernel) (by decide +kernel), by decide⟩
def P_X12_carry  (x1 : Int) (x2 : Int) (σ : St) (Q : Int → St → Prop) : Prop :=
  P_X12_isBall x1 (up σ 12 0 0 0) (fun r_2 σ_1 => (if r_2 = 0 then Q (-1) σ_1 else P_X12_isCounter x2 σ_1 (fun r_4 σ_3 => (if r_4 = 0 then Q (-1) σ_3 else P_X12_canCarry x1 x2 σ_3 (fun r_6 σ_5 => (if r_6 = 0 then Q (-1) σ_5 else P_X12_keeps σ_5 (fun σ_7 => 0 ≤ wi (28 + x1) ∧ wi (28 + x1) < 46 ∧ 0 ≤ wi (28 + x1) ∧ wi (28 + x1) < 46 ∧ Q (σ_7 1346 0 (wi (28 + x1))) (up σ_7 1346 0 (wi (28 + x1)) x2))))))))
set_option maxRecDepth 20000 in
set_option maxHeartbeats 2000000 in
theorem s_X12_carry   {x1 : Int} {x2 : Int} {σ : St} {Q : Int → St → Prop} (h : P_X12_carry x1 x2 σ Q) : Cn Y_X12_carry 2 0 0 ww σ [vR 12 0, vI x1, vI x2] (QI Q) := by
  refine Cn_of [some (vR 12 0), some (vI x1), some (vI x2), none] (by decide) (Nat.le_of_ble_eq_true rfl) rfl ?_
  unfold P_X12_carry at h
  refine E_aload_n dX12_carry_0 rfl rfl ?_
  refine E_ic dX12_carry_1 rfl ?_
  refine E_puti dX12_carry_2 fl_RX12_141 rfl rfl rfl ?_
  refine E_aload_n dX12_carry_5 rfl rfl ?_
  refine E_iload_n dX12_carry_6 rfl rfl ?_
  refine E_callV (Y' := Y_X12_isBall) (as := [vI x1]) (st := []) dX12_carry_7 lk_RX12_406 m_X12_isBall (by decide) (Nat.le_refl _) (Nat.le_refl _) rfl rfl (Nat.le_of_ble_eq_true rfl) (s_X12_isBall h) (fun r0 B0 σ_1 h => ?_)
  obtain ⟨r_2, rfl, rfl, h⟩ := h
  refine E_if_eq (tgt := 30) dX12_carry_10 (by decide) (fun hc => ?_) (fun hc => ?_)
  · have h := Eq.mp (if_pos hc) h
    refine E_ic dX12_carry_30 rfl ?_
    exact E_iret dX12_carry_31 rfl ⟨_, rfl, rfl, h⟩
  · have h := Eq.mp (if_neg hc) h
    refine E_aload_n dX12_carry_13 rfl rfl ?_
    refine E_iload_n dX12_carry_14 rfl rfl ?_
    refine E_callV (Y' := Y_X12_isCounter) (as := [vI x2]) (st := []) dX12_carry_15 lk_RX12_403 m_X12_isCounter (by decide) (Nat.le_refl _) (Nat.le_refl _) rfl rfl (Nat.le_of_ble_eq_true rfl) (s_X12_isCounter h) (fun r0 B0 σ_3 h => ?_)
    obtain ⟨r_4, rfl, rfl, h⟩ := h
    refine E_if_eq (tgt := 30) dX12_carry_18 (by decide) (fun hc => ?_) (fun hc => ?_)
    · have h := Eq.mp (if_pos hc) h
      refine E_ic dX12_carry_30 rfl ?_
      exact E_iret dX12_carry_31 rfl ⟨_, rfl, rfl, h⟩
    · have h := Eq.mp (if_neg hc) h
      refine E_aload_n dX12_carry_21 rfl rfl ?_
      refine E_iload_n dX12_carry_22 rfl rfl ?_
      refine E_iload_n dX12_carry_23 rfl rfl ?_
      refine E_callV (Y' := Y_X12_canCarry) (as := [vI x1, vI x2]) (st := []) dX12_carry_24 lk_RX12_422 m_X12_canCarry (by decide) (Nat.le_refl _) (Nat.le_refl _) rfl rfl (Nat.le_of_ble_eq_true rfl) (s_X12_canCarry h) (fun r0 B0 σ_5 h => ?_)
      obtain ⟨r_6, rfl, rfl, h⟩ := h
      refine E_if_ne (tgt := 32) dX12_carry_27 (by decide) (fun hc => ?_) (fun hc => ?_)
      · have h := Eq.mp (if_neg hc) h
        refine E_aload_n dX12_carry_32 rfl rfl ?_
        refine E_callV (Y' := Y_X12_keeps) (as := []) (st := []) dX12_carry_33 lk_RX12_416 m_X12_keeps (by decide) (Nat.le_refl _) (Nat.le_refl _) rfl rfl (Nat.le_of_ble_eq_true rfl) (s_X12_keeps h) (fun r0 B0 σ_7 h => ?_)
        obtain ⟨rfl, rfl, h⟩ := h
        refine E_aload_n dX12_carry_36 rfl rfl ?_
        refine E_getr (i := 0) dX12_carry_37 fl_RX12_111 rfl rfl (go_12_46 _ _) ?_
        refine E_bp dX12_carry_40 rfl ?_
        refine E_iload_n dX12_carry_42 rfl rfl ?_
        refine E_iadd dX12_carry_43 ?_
        obtain ⟨hg0, hg1, h⟩ := h
        refine E_iald dX12_carry_44 sh_1346 hg0 hg1 ?_
        refine E_istore_n (ls' := [some (vR 12 0), some (vI x1), some (vI x2), some (vI (σ_7 1346 0 (wi (28 + x1))))]) dX12_carry_45 rfl (by decide) rfl ?_
        refine E_aload_n dX12_carry_46 rfl rfl ?_
        refine E_getr (i := 0) dX12_carry_47 fl_RX12_111 rfl rfl (go_12_46 _ _) ?_
        refine E_bp dX12_carry_50 rfl ?_
        refine E_iload_n dX12_carry_52 rfl rfl ?_
        refine E_iadd dX12_carry_53 ?_
        refine E_iload_n dX12_carry_54 rfl rfl ?_
        obtain ⟨hg0, hg1, h⟩ := h
        refine E_iast dX12_carry_55 sh_1346 hg0 hg1 ?_
        refine E_iload_n dX12_carry_56 rfl rfl ?_
        exact E_iret dX12_carry_57 rfl ⟨_, rfl, rfl, h⟩
      · have h := Eq.mp (if_pos hc) h
        refine E_ic dX12_carry_30 rfl ?_
        exact E_iret dX12_carry_31 rfl ⟨_, rfl, rfl, h⟩
abbrev Y_X12_day : My := (yX12_day, cX12_day, 1, some .int)
theorem dX12_day_0 : decode cX12_day 0 = .ok (.aload_n 0, 1) := by decide +kernel
theorem dX12_day_1 : decode cX12_day 1 = .ok (.iconst 0, 1) := by decide +kernel
theorem dX12_day_2 : decode cX12_day 2 = .ok (.putfield 141, 3) := by decide +kernel
theorem dX12_day_5 : decode cX12_day 5 = .ok (.aload_n 0, 1) := by decide +kernel
theorem dX12_day_6 : decode cX12_day 6 = .ok (.invokevirtual 416, 3) := by decide +kernel
theorem dX12_day_9 : decode cX12_day 9 = .ok (.aload_n 0, 1) := by decide +kernel
theorem dX12_day_10 : decode cX12_day 10 = .ok (.invokevirtual 425, 3) := by decide +kernel
theorem dX12_day_13 : decode cX12_day 13 = .ok (.ireturn, 1) := by decide +kernel
theorem lk_RX12_425 : Cond.methodLink RX12 425 yX12_endsAsTold ∈ tG := inG (i := 1822) (by decide +kernel) (by decide +kernel)
theorem m_X12_endsAsTold : MV Y_X12_endsAsTold 0 12 := ⟨⟨inG (i := 1825) (by decide +kernel) (by decide +kernel), inG (i := 110) (by decide +kernel) (by decide +kernel), by decide, by decide, by decide, by decide +kernel⟩, inG (i := 1824) (by decide +kernel) (by decide +kernel), inG (i := 72) (by decide +kernel) (by decide +kernel), by decide⟩
def P_X12_day   (σ : St) (Q : Int → St → Prop) : Prop :=
  P_X12_keeps (up σ 12 0 0 0) (fun σ_1 => P_X12_endsAsTold σ_1 (fun r_3 σ_2 => Q r_3 σ_2))
set_option maxRecDepth 20000 in
set_option maxHeartbeats 2000000 in
theorem s_X12_day    {σ : St} {Q : Int → St → Prop} (h : P_X12_day  σ Q) : Cn Y_X12_day 6 0 0 ww σ [vR 12 0] (QI Q) := by
  refine Cn_of [some (vR 12 0)] (by decide) (Nat.le_of_ble_eq_true rfl) rfl ?_
  unfold P_X12_day at h
  refine E_aload_n dX12_day_0 rfl rfl ?_
  refine E_ic dX12_day_1 rfl ?_
  refine E_puti dX12_day_2 fl_RX12_141 rfl rfl rfl ?_
  refine E_aload_n dX12_day_5 rfl rfl ?_
  refine E_callV (Y' := Y_X12_keeps) (as := []) (st := []) dX12_day_6 lk_RX12_416 m_X12_keeps (by decide) (Nat.le_refl _) (Nat.le_refl _) rfl rfl (Nat.le_of_ble_eq_true rfl) (s_X12_keeps h) (fun r0 B0 σ_1 h => ?_)
  obtain ⟨rfl, rfl, h⟩ := h
  refine E_aload_n dX12_day_9 rfl rfl ?_
  refine E_callV (Y' := Y_X12_endsAsTold) (as := []) (st := []) dX12_day_10 lk_RX12_425 m_X12_endsAsTold (by decide) (Nat.le_refl _) (Nat.le_refl _) rfl rfl (Nat.le_of_ble_eq_true rfl) (s_X12_endsAsTold h) (fun r0 B0 σ_2 h => ?_)
  obtain ⟨r_3, rfl, rfl, h⟩ := h
  exact E_iret dX12_day_13 rfl ⟨_, rfl, rfl, h⟩
abbrev Y_X12_undo : My := (yX12_undo, cX12_undo, 1, some .boolean)
theorem dX12_undo_0 : decode cX12_undo 0 = .ok (.aload_n 0, 1) := by decide +kernel
theorem dX12_undo_1 : decode cX12_undo 1 = .ok (.iconst 0, 1) := by decide +kernel
theorem dX12_undo_2 : decode cX12_undo 2 = .ok (.putfield 141, 3) := by decide +kernel
theorem dX12_undo_5 : decode cX12_undo 5 = .ok (.aload_n 0, 1) := by decide +kernel
theorem dX12_undo_6 : decode cX12_undo 6 = .ok (.getfield 346, 3) := by decide +kernel
theorem dX12_undo_9 : decode cX12_undo 9 = .ok (.ifCond .ne 5, 3) := by decide +kernel
theorem dX12_undo_12 : decode cX12_undo 12 = .ok (.iconst 0, 1) := by decide +kernel
theorem dX12_undo_13 : decode cX12_undo 13 = .ok (.ireturn, 1) := by decide +kernel
theorem dX12_undo_14 : decode cX12_undo 14 = .ok (.aload_n 0, 1) := by decide +kernel
theorem dX12_undo_15 : decode cX12_undo 15 = .ok (.dup, 1) := by decide +kernel
theorem dX12_undo_16 : decode cX12_undo 16 = .ok (.getfield 346, 3) := by decide +kernel
theorem dX12_undo_19 : decode cX12_undo 19 = .ok (.iconst 1, 1) := by decide +kernel
theorem dX12_undo_20 : decode cX12_undo 20 = .ok (.isub, 1) := by decide +kernel
theorem dX12_undo_21 : decode cX12_undo 21 = .ok (.putfield 346, 3) := by decide +kernel
theorem dX12_undo_24 : decode cX12_undo 24 = .ok (.aload_n 0, 1) := by decide +kernel
theorem dX12_undo_25 : decode cX12_undo 25 = .ok (.getfield 123, 3) := by decide +kernel
theorem dX12_undo_28 : decode cX12_undo 28 = .ok (.bipush 46, 2) := by decide +kernel
theorem dX12_undo_30 : decode cX12_undo 30 = .ok (.aload_n 0, 1) := by decide +kernel
theorem dX12_undo_31 : decode cX12_undo 31 = .ok (.getfield 346, 3) := by decide +kernel
theorem dX12_undo_34 : decode cX12_undo 34 = .ok (.imul, 1) := by decide +kernel
theorem dX12_undo_35 : decode cX12_undo 35 = .ok (.aload_n 0, 1) := by decide +kernel
theorem dX12_undo_36 : decode cX12_undo 36 = .ok (.getfield 111, 3) := by decide +kernel
theorem dX12_undo_39 : decode cX12_undo 39 = .ok (.iconst 0, 1) := by decide +kernel
theorem dX12_undo_40 : decode cX12_undo 40 = .ok (.invokestatic 409, 3) := by decide +kernel
theorem dX12_undo_43 : decode cX12_undo 43 = .ok (.iconst 1, 1) := by decide +kernel
theorem dX12_undo_44 : decode cX12_undo 44 = .ok (.ireturn, 1) := by decide +kernel
def P_X12_undo   (σ : St) (Q : Int → St → Prop) : Prop :=
  (if ((up σ 12 0 0 0) 12 0 52) = 0 then Q 0 (up σ 12 0 0 0) else P_X12_copies 1350 0 (wi (46 * ((up (up σ 12 0 0 0) 12 0 52 (wi (((up σ 12 0 0 0) 12 0 52) - 1))) 12 0 52))) 1346 0 0 (up (up σ 12 0 0 0) 12 0 52 (wi (((up σ 12 0 0 0) 12 0 52) - 1))) (fun σ_1 => Q 1 σ_1))
set_option maxRecDepth 20000 in
set_option maxHeartbeats 2000000 in
theorem s_X12_undo    {σ : St} {Q : Int → St → Prop} (h : P_X12_undo  σ Q) : Cn Y_X12_undo 1 0 0 ww σ [vR 12 0] (QI Q) := by
  refine Cn_of [some (vR 12 0)] (by decide) (Nat.le_of_ble_eq_true rfl) rfl ?_
  unfold P_X12_undo at h
  refine E_aload_n dX12_undo_0 rfl rfl ?_
  refine E_ic dX12_undo_1 rfl ?_
  refine E_puti dX12_undo_2 fl_RX12_141 rfl rfl rfl ?_
  refine E_aload_n dX12_undo_5 rfl rfl ?_
  refine E_geti (i := 0) dX12_undo_6 fl_RX12_346 rfl ?_
  refine E_if_ne (tgt := 14) dX12_undo_9 (by decide) (fun hc => ?_) (fun hc => ?_)
  · have h := Eq.mp (if_neg hc) h
    refine E_aload_n dX12_undo_14 rfl rfl ?_
    refine E_dup dX12_undo_15 (fun _ q => by cases q) ?_
    refine E_geti (i := 0) dX12_undo_16 fl_RX12_346 rfl ?_
    refine E_ic dX12_undo_19 rfl ?_
    refine E_isub dX12_undo_20 ?_
    refine E_puti dX12_undo_21 fl_RX12_346 rfl rfl rfl ?_
    refine E_aload_n dX12_undo_24 rfl rfl ?_
    refine E_getr (i := 0) dX12_undo_25 fl_RX12_123 rfl rfl (go_12_50 _ _) ?_
    refine E_bp dX12_undo_28 rfl ?_
    refine E_aload_n dX12_undo_30 rfl rfl ?_
    refine E_geti (i := 0) dX12_undo_31 fl_RX12_346 rfl ?_
    refine E_imul dX12_undo_34 ?_
    refine E_aload_n dX12_undo_35 rfl rfl ?_
    refine E_getr (i := 0) dX12_undo_36 fl_RX12_111 rfl rfl (go_12_46 _ _) ?_
    refine E_ic dX12_undo_39 rfl ?_
    refine E_callS (Y' := Y_X12_copies) (as := [vR 1350 0, vI (wi (46 * ((up (up σ 12 0 0 0) 12 0 52 (wi (((up σ 12 0 0 0) 12 0 52) - 1))) 12 0 52))), vR 1346 0, vI 0]) (st := []) dX12_undo_40 lk_RX12_409 m_X12_copies (by decide) (Nat.le_refl _) (Nat.le_refl _) rfl rfl (Nat.le_of_ble_eq_true rfl) (s_X12_copies h) (fun r0 B0 σ_1 h => ?_)
    obtain ⟨rfl, rfl, h⟩ := h
    refine E_ic dX12_undo_43 rfl ?_
    exact E_zret dX12_undo_44 rfl (by decide) ⟨_, rfl, rfl, h⟩
  · have h := Eq.mp (if_pos hc) h
    refine E_ic dX12_undo_12 rfl ?_
    exact E_zret dX12_undo_13 rfl (by decide) ⟨_, rfl, rfl, h⟩
abbrev Y_X12_isDone : My := (yX12_isDone, cX12_isDone, 5, some .boolean)
theorem dX12_isDone_0 : decode cX12_isDone 0 = .ok (.aload_n 0, 1) := by decide +kernel
theorem dX12_isDone_1 : decode cX12_isDone 1 = .ok (.getfield 90, 3) := by decide +kernel
theorem dX12_isDone_4 : decode cX12_isDone 4 = .ok (.iload_n 1, 1) := by decide +kernel
theorem dX12_isDone_5 : decode cX12_isDone 5 = .ok (.iaload, 1) := by decide +kernel
theorem dX12_isDone_6 : decode cX12_isDone 6 = .ok (.istore_n 2, 1) := by decide +kernel
theorem dX12_isDone_7 : decode cX12_isDone 7 = .ok (.aload_n 0, 1) := by decide +kernel
theorem dX12_isDone_8 : decode cX12_isDone 8 = .ok (.getfield 93, 3) := by decide +kernel
theorem dX12_isDone_11 : decode cX12_isDone 11 = .ok (.iload_n 1, 1) := by decide +kernel
theorem dX12_isDone_12 : decode cX12_isDone 12 = .ok (.iaload, 1) := by decide +kernel
theorem dX12_isDone_13 : decode cX12_isDone 13 = .ok (.istore_n 3, 1) := by decide +kernel
theorem dX12_isDone_14 : decode cX12_isDone 14 = .ok (.aload_n 0, 1) := by decide +kernel
theorem dX12_isDone_15 : decode cX12_isDone 15 = .ok (.getfield 96, 3) := by decide +kernel
theorem dX12_isDone_18 : decode cX12_isDone 18 = .ok (.iload_n 1, 1) := by decide +kernel
theorem dX12_isDone_19 : decode cX12_isDone 19 = .ok (.iaload, 1) := by decide +kernel
theorem dX12_isDone_20 : decode cX12_isDone 20 = .ok (.istore 4, 2) := by decide +kernel
theorem dX12_isDone_22 : decode cX12_isDone 22 = .ok (.iload_n 2, 1) := by decide +kernel
theorem dX12_isDone_23 : decode cX12_isDone 23 = .ok (.ifCond .ne 11, 3) := by decide +kernel
theorem dX12_isDone_26 : decode cX12_isDone 26 = .ok (.aload_n 0, 1) := by decide +kernel
theorem dX12_isDone_27 : decode cX12_isDone 27 = .ok (.invokevirtual 385, 3) := by decide +kernel
theorem dX12_isDone_30 : decode cX12_isDone 30 = .ok (.pop, 1) := by decide +kernel
theorem dX12_isDone_31 : decode cX12_isDone 31 = .ok (.goto 81, 3) := by decide +kernel
theorem dX12_isDone_34 : decode cX12_isDone 34 = .ok (.iload_n 2, 1) := by decide +kernel
theorem dX12_isDone_35 : decode cX12_isDone 35 = .ok (.iconst 4, 1) := by decide +kernel
theorem dX12_isDone_36 : decode cX12_isDone 36 = .ok (.if_icmp .ne 11, 3) := by decide +kernel
theorem dX12_isDone_39 : decode cX12_isDone 39 = .ok (.aload_n 0, 1) := by decide +kernel
theorem dX12_isDone_40 : decode cX12_isDone 40 = .ok (.invokevirtual 425, 3) := by decide +kernel
theorem dX12_isDone_43 : decode cX12_isDone 43 = .ok (.pop, 1) := by decide +kernel
theorem dX12_isDone_44 : decode cX12_isDone 44 = .ok (.goto 68, 3) := by decide +kernel
theorem dX12_isDone_47 : decode cX12_isDone 47 = .ok (.iload_n 2, 1) := by decide +kernel
theorem dX12_isDone_48 : decode cX12_isDone 48 = .ok (.iconst 2, 1) := by decide +kernel
theorem dX12_isDone_49 : decode cX12_isDone 49 = .ok (.if_icmp .ne 17, 3) := by decide +kernel
theorem dX12_isDone_52 : decode cX12_isDone 52 = .ok (.aload_n 0, 1) := by decide +kernel
theorem dX12_isDone_53 : decode cX12_isDone 53 = .ok (.getfield 111, 3) := by decide +kernel
theorem dX12_isDone_56 : decode cX12_isDone 56 = .ok (.bipush 10, 2) := by decide +kernel
theorem dX12_isDone_58 : decode cX12_isDone 58 = .ok (.iload 4, 2) := by decide +kernel
theorem dX12_isDone_60 : decode cX12_isDone 60 = .ok (.iadd, 1) := by decide +kernel
theorem dX12_isDone_61 : decode cX12_isDone 61 = .ok (.iload_n 3, 1) := by decide +kernel
theorem dX12_isDone_62 : decode cX12_isDone 62 = .ok (.iastore, 1) := by decide +kernel
theorem dX12_isDone_63 : decode cX12_isDone 63 = .ok (.goto 49, 3) := by decide +kernel
theorem dX12_isDone_66 : decode cX12_isDone 66 = .ok (.iload_n 2, 1) := by decide +kernel
theorem dX12_isDone_67 : decode cX12_isDone 67 = .ok (.iconst 1, 1) := by decide +kernel
theorem dX12_isDone_68 : decode cX12_isDone 68 = .ok (.if_icmp .ne 21, 3) := by decide +kernel
theorem dX12_isDone_71 : decode cX12_isDone 71 = .ok (.aload_n 0, 1) := by decide +kernel
theorem dX12_isDone_72 : decode cX12_isDone 72 = .ok (.iload_n 3, 1) := by decide +kernel
theorem dX12_isDone_73 : decode cX12_isDone 73 = .ok (.invokevirtual 413, 3) := by decide +kernel
theorem dX12_isDone_76 : decode cX12_isDone 76 = .ok (.ifCond .ne 5, 3) := by decide +kernel
theorem dX12_isDone_79 : decode cX12_isDone 79 = .ok (.iconst 0, 1) := by decide +kernel
theorem dX12_isDone_80 : decode cX12_isDone 80 = .ok (.ireturn, 1) := by decide +kernel
theorem dX12_isDone_81 : decode cX12_isDone 81 = .ok (.aload_n 0, 1) := by decide +kernel
theorem dX12_isDone_82 : decode cX12_isDone 82 = .ok (.iload_n 3, 1) := by decide +kernel
theorem dX12_isDone_83 : decode cX12_isDone 83 = .ok (.invokevirtual 419, 3) := by decide +kernel
theorem dX12_isDone_86 : decode cX12_isDone 86 = .ok (.goto 26, 3) := by decide +kernel
theorem dX12_isDone_89 : decode cX12_isDone 89 = .ok (.aload_n 0, 1) := by decide +kernel
theorem dX12_isDone_90 : decode cX12_isDone 90 = .ok (.iload_n 3, 1) := by decide +kernel
theorem dX12_isDone_91 : decode cX12_isDone 91 = .ok (.iload 4, 2) := by decide +kernel
theorem dX12_isDone_93 : decode cX12_isDone 93 = .ok (.invokevirtual 422, 3) := by decide +kernel
theorem dX12_isDone_96 : decode cX12_isDone 96 = .ok (.ifCond .ne 5, 3) := by decide +kernel
theorem dX12_isDone_99 : decode cX12_isDone 99 = .ok (.iconst 0, 1) := by decide +kernel
theorem dX12_isDone_100 : decode cX12_isDone 100 = .ok (.ireturn, 1) := by decide +kernel
theorem dX12_isDone_101 : decode cX12_isDone 101 = .ok (.aload_n 0, 1) := by decide +kernel
theorem dX12_isDone_102 : decode cX12_isDone 102 = .ok (.getfield 111, 3) := by decide +kernel
theorem dX12_isDone_105 : decode cX12_isDone 105 = .ok (.bipush 28, 2) := by decide +kernel
theorem dX12_isDone_107 : decode cX12_isDone 107 = .ok (.iload_n 3, 1) := by decide +kernel
theorem dX12_isDone_108 : decode cX12_isDone 108 = .ok (.iadd, 1) := by decide +kernel
theorem dX12_isDone_109 : decode cX12_isDone 109 = .ok (.iload 4, 2) := by decide +kernel
theorem dX12_isDone_111 : decode cX12_isDone 111 = .ok (.iastore, 1) := by decide +kernel
theorem dX12_isDone_112 : decode cX12_isDone 112 = .ok (.iconst 1, 1) := by decide +kernel
theorem dX12_isDone_113 : decode cX12_isDone 113 = .ok (.ireturn, 1) := by decide +kernel
def P_X12_isDone  (x1 : Int) (σ : St) (Q : Int → St → Prop) : Prop :=
  0 ≤ x1 ∧ x1 < 240 ∧ 0 ≤ x1 ∧ x1 < 240 ∧ 0 ≤ x1 ∧ x1 < 240 ∧ (if (σ 1339 0 x1) = 0 then P_X12_passes σ (fun r_9 σ_8 => Q 1 σ_8) else (if (σ 1339 0 x1) = 4 then P_X12_endsAsTold σ (fun r_7 σ_6 => Q 1 σ_6) else (if (σ 1339 0 x1) = 2 then 0 ≤ wi (10 + (σ 1341 0 x1)) ∧ wi (10 + (σ 1341 0 x1)) < 46 ∧ Q 1 (up σ 1346 0 (wi (10 + (σ 1341 0 x1))) (σ 1340 0 x1)) else (if (σ 1339 0 x1) = 1 then P_X12_canSend (σ 1340 0 x1) σ (fun r_4 σ_3 => (if r_4 = 0 then Q 0 σ_3 else P_X12_sends (σ 1340 0 x1) σ_3 (fun σ_5 => Q 1 σ_5))) else P_X12_canCarry (σ 1340 0 x1) (σ 1341 0 x1) σ (fun r_2 σ_1 => (if r_2 = 0 then Q 0 σ_1 else 0 ≤ wi (28 + (σ 1340 0 x1)) ∧ wi (28 + (σ 1340 0 x1)) < 46 ∧ Q 1 (up σ_1 1346 0 (wi (28 + (σ 1340 0 x1))) (σ 1341 0 x1))))))))
set_option maxRecDepth 20000 in
set_option maxHeartbeats 2000000 in
theorem s_X12_isDone   {x1 : Int} {σ : St} {Q : Int → St → Prop} (h : P_X12_isDone x1 σ Q) : Cn Y_X12_isDone 6 0 0 ww σ [vR 12 0, vI x1] (QI Q) := by
  refine Cn_of [some (vR 12 0), some (vI x1), none, none, none] (by decide) (Nat.le_of_ble_eq_true rfl) rfl ?_
  unfold P_X12_isDone at h
  refine E_aload_n dX12_isDone_0 rfl rfl ?_
  refine E_getr (i := 0) dX12_isDone_1 fl_RX12_90 rfl rfl (go_12_39 _ _) ?_
  refine E_iload_n dX12_isDone_4 rfl rfl ?_
  obtain ⟨hg0, hg1, h⟩ := h
  refine E_iald dX12_isDone_5 sh_1339 hg0 hg1 ?_
  refine E_istore_n (ls' := [some (vR 12 0), some (vI x1), some (vI (σ 1339 0 x1)), none, none]) dX12_isDone_6 rfl (by decide) rfl ?_
  refine E_aload_n dX12_isDone_7 rfl rfl ?_
  refine E_getr (i := 0) dX12_isDone_8 fl_RX12_93 rfl rfl (go_12_40 _ _) ?_
  refine E_iload_n dX12_isDone_11 rfl rfl ?_
  obtain ⟨hg0, hg1, h⟩ := h
  refine E_iald dX12_isDone_12 sh_1340 hg0 hg1 ?_
  refine E_istore_n (ls' := [some (vR 12 0), some (vI x1), some (vI (σ 1339 0 x1)), some (vI (σ 1340 0 x1)), none]) dX12_isDone_13 rfl (by decide) rfl ?_
  refine E_aload_n dX12_isDone_14 rfl rfl ?_
  refine E_getr (i := 0) dX12_isDone_15 fl_RX12_96 rfl rfl (go_12_41 _ _) ?_
  refine E_iload_n dX12_isDone_18 rfl rfl ?_
  obtain ⟨hg0, hg1, h⟩ := h
  refine E_iald dX12_isDone_19 sh_1341 hg0 hg1 ?_
  refine E_istore (ls' := [some (vR 12 0), some (vI x1), some (vI (σ 1339 0 x1)), some (vI (σ 1340 0 x1)), some (vI (σ 1341 0 x1))]) dX12_isDone_20 (by decide) rfl ?_
  refine E_iload_n dX12_isDone_22 rfl rfl ?_
  refine E_if_ne (tgt := 34) dX12_isDone_23 (by decide) (fun hc => ?_) (fun hc => ?_)
  · have h := Eq.mp (if_neg hc) h
    refine E_iload_n dX12_isDone_34 rfl rfl ?_
    refine E_ic dX12_isDone_35 rfl ?_
    refine E_icmp_ne (tgt := 47) dX12_isDone_36 (by decide) (fun hc => ?_) (fun hc => ?_)
    · have h := Eq.mp (if_neg hc) h
      refine E_iload_n dX12_isDone_47 rfl rfl ?_
      refine E_ic dX12_isDone_48 rfl ?_
      refine E_icmp_ne (tgt := 66) dX12_isDone_49 (by decide) (fun hc => ?_) (fun hc => ?_)
      · have h := Eq.mp (if_neg hc) h
        refine E_iload_n dX12_isDone_66 rfl rfl ?_
        refine E_ic dX12_isDone_67 rfl ?_
        refine E_icmp_ne (tgt := 89) dX12_isDone_68 (by decide) (fun hc => ?_) (fun hc => ?_)
        · have h := Eq.mp (if_neg hc) h
          refine E_aload_n dX12_isDone_89 rfl rfl ?_
          refine E_iload_n dX12_isDone_90 rfl rfl ?_
          refine E_iload dX12_isDone_91 rfl ?_
          refine E_callV (Y' := Y_X12_canCarry) (as := [vI (σ 1340 0 x1), vI (σ 1341 0 x1)]) (st := []) dX12_isDone_93 lk_RX12_422 m_X12_canCarry (by decide) (Nat.le_refl _) (Nat.le_refl _) rfl rfl (Nat.le_of_ble_eq_true rfl) (s_X12_canCarry h) (fun r0 B0 σ_1 h => ?_)
          obtain ⟨r_2, rfl, rfl, h⟩ := h
          refine E_if_ne (tgt := 101) dX12_isDone_96 (by decide) (fun hc => ?_) (fun hc => ?_)
          · have h := Eq.mp (if_neg hc) h
            refine E_aload_n dX12_isDone_101 rfl rfl ?_
            refine E_getr (i := 0) dX12_isDone_102 fl_RX12_111 rfl rfl (go_12_46 _ _) ?_
            refine E_bp dX12_isDone_105 rfl ?_
            refine E_iload_n dX12_isDone_107 rfl rfl ?_
            refine E_iadd dX12_isDone_108 ?_
            refine E_iload dX12_isDone_109 rfl ?_
            obtain ⟨hg0, hg1, h⟩ := h
            refine E_iast dX12_isDone_111 sh_1346 hg0 hg1 ?_
            refine E_ic dX12_isDone_112 rfl ?_
            exact E_zret dX12_isDone_113 rfl (by decide) ⟨_, rfl, rfl, h⟩
          · have h := Eq.mp (if_pos hc) h
            refine E_ic dX12_isDone_99 rfl ?_
            exact E_zret dX12_isDone_100 rfl (by decide) ⟨_, rfl, rfl, h⟩
        · have h := Eq.mp (if_pos hc) h
          refine E_aload_n dX12_isDone_71 rfl rfl ?_
          refine E_iload_n dX12_isDone_72 rfl rfl ?_
          refine E_callV (Y' := Y_X12_canSend) (as := [vI (σ 1340 0 x1)]) (st := []) dX12_isDone_73 lk_RX12_413 m_X12_canSend (by decide) (Nat.le_refl _) (Nat.le_refl _) rfl rfl (Nat.le_of_ble_eq_true rfl) (s_X12_canSend h) (fun r0 B0 σ_3 h => ?_)
          obtain ⟨r_4, rfl, rfl, h⟩ := h
          refine E_if_ne (tgt := 81) dX12_isDone_76 (by decide) (fun hc => ?_) (fun hc => ?_)
          · have h := Eq.mp (if_neg hc) h
            refine E_aload_n dX12_isDone_81 rfl rfl ?_
            refine E_iload_n dX12_isDone_82 rfl rfl ?_
            refine E_callV (Y' := Y_X12_sends) (as := [vI (σ 1340 0 x1)]) (st := []) dX12_isDone_83 lk_RX12_419 m_X12_sends (by decide) (Nat.le_refl _) (Nat.le_refl _) rfl rfl (Nat.le_of_ble_eq_true rfl) (s_X12_sends h) (fun r0 B0 σ_5 h => ?_)
            obtain ⟨rfl, rfl, h⟩ := h
            refine E_goto (tgt := 112) dX12_isDone_86 (by decide) ?_
            refine E_ic dX12_isDone_112 rfl ?_
            exact E_zret dX12_isDone_113 rfl (by decide) ⟨_, rfl, rfl, h⟩
          · have h := Eq.mp (if_pos hc) h
            refine E_ic dX12_isDone_79 rfl ?_
            exact E_zret dX12_isDone_80 rfl (by decide) ⟨_, rfl, rfl, h⟩
      · have h := Eq.mp (if_pos hc) h
        refine E_aload_n dX12_isDone_52 rfl rfl ?_
        refine E_getr (i := 0) dX12_isDone_53 fl_RX12_111 rfl rfl (go_12_46 _ _) ?_
        refine E_bp dX12_isDone_56 rfl ?_
        refine E_iload dX12_isDone_58 rfl ?_
        refine E_iadd dX12_isDone_60 ?_
        refine E_iload_n dX12_isDone_61 rfl rfl ?_
        obtain ⟨hg0, hg1, h⟩ := h
        refine E_iast dX12_isDone_62 sh_1346 hg0 hg1 ?_
        refine E_goto (tgt := 112) dX12_isDone_63 (by decide) ?_
        refine E_ic dX12_isDone_112 rfl ?_
        exact E_zret dX12_isDone_113 rfl (by decide) ⟨_, rfl, rfl, h⟩
    · have h := Eq.mp (if_pos hc) h
      refine E_aload_n dX12_isDone_39 rfl rfl ?_
      refine E_callV (Y' := Y_X12_endsAsTold) (as := []) (st := []) dX12_isDone_40 lk_RX12_425 m_X12_endsAsTold (by decide) (Nat.le_refl _) (Nat.le_refl _) rfl rfl (Nat.le_of_ble_eq_true rfl) (s_X12_endsAsTold h) (fun r0 B0 σ_6 h => ?_)
      obtain ⟨r_7, rfl, rfl, h⟩ := h
      refine E_pop dX12_isDone_43 (fun _ q => by cases q) ?_
      refine E_goto (tgt := 112) dX12_isDone_44 (by decide) ?_
      refine E_ic dX12_isDone_112 rfl ?_
      exact E_zret dX12_isDone_113 rfl (by decide) ⟨_, rfl, rfl, h⟩
  · have h := Eq.mp (if_pos hc) h
    refine E_aload_n dX12_isDone_26 rfl rfl ?_
    refine E_callV (Y' := Y_X12_passes) (as := []) (st := []) dX12_isDone_27 lk_RX12_385 m_X12_passes (by decide) (Nat.le_refl _) (Nat.le_refl _) rfl rfl (Nat.le_of_ble_eq_true rfl) (s_X12_passes h) (fun r0 B0 σ_8 h => ?_)
    obtain ⟨r_9, rfl, rfl, h⟩ := h
    refine E_pop dX12_isDone_30 (fun _ q => by cases q) ?_
    refine E_goto (tgt := 112) dX12_isDone_31 (by decide) ?_
    refine E_ic dX12_isDone_112 rfl ?_
    exact E_zret dX12_isDone_113 rfl (by decide) ⟨_, rfl, rfl, h⟩
abbrev Y_X12_judged : My := (yX12_judged, cX12_judged, 5, some .int)
theorem dX12_judged_0 : decode cX12_judged 0 = .ok (.aload_n 0, 1) := by decide +kernel
theorem dX12_judged_1 : decode cX12_judged 1 = .ok (.iconst 0, 1) := by decide +kernel
theorem dX12_judged_2 : decode cX12_judged 2 = .ok (.putfield 141, 3) := by decide +kernel
theorem dX12_judged_5 : decode cX12_judged 5 = .ok (.iload_n 1, 1) := by decide +kernel
theorem dX12_judged_6 : decode cX12_judged 6 = .ok (.iconst 0, 1) := by decide +kernel
theorem dX12_judged_7 : decode cX12_judged 7 = .ok (.iconst 2, 1) := by decide +kernel
theorem dX12_judged_8 : decode cX12_judged 8 = .ok (.invokestatic 264, 3) := by decide +kernel
theorem dX12_judged_11 : decode cX12_judged 11 = .ok (.ifCond .ne 6, 3) := by decide +kernel
theorem dX12_judged_14 : decode cX12_judged 14 = .ok (.bipush (-2), 2) := by decide +kernel
theorem dX12_judged_16 : decode cX12_judged 16 = .ok (.ireturn, 1) := by decide +kernel
theorem dX12_judged_17 : decode cX12_judged 17 = .ok (.aload_n 0, 1) := by decide +kernel
theorem dX12_judged_18 : decode cX12_judged 18 = .ok (.getfield 111, 3) := by decide +kernel
theorem dX12_judged_21 : decode cX12_judged 21 = .ok (.iconst 0, 1) := by decide +kernel
theorem dX12_judged_22 : decode cX12_judged 22 = .ok (.aload_n 0, 1) := by decide +kernel
theorem dX12_judged_23 : decode cX12_judged 23 = .ok (.getfield 114, 3) := by decide +kernel
theorem dX12_judged_26 : decode cX12_judged 26 = .ok (.iconst 0, 1) := by decide +kernel
theorem dX12_judged_27 : decode cX12_judged 27 = .ok (.invokestatic 409, 3) := by decide +kernel
theorem dX12_judged_30 : decode cX12_judged 30 = .ok (.aload_n 0, 1) := by decide +kernel
theorem dX12_judged_31 : decode cX12_judged 31 = .ok (.invokevirtual 138, 3) := by decide +kernel
theorem dX12_judged_34 : decode cX12_judged 34 = .ok (.iconst (-1), 1) := by decide +kernel
theorem dX12_judged_35 : decode cX12_judged 35 = .ok (.istore_n 2, 1) := by decide +kernel
theorem dX12_judged_36 : decode cX12_judged 36 = .ok (.iconst (-1), 1) := by decide +kernel
theorem dX12_judged_37 : decode cX12_judged 37 = .ok (.istore_n 3, 1) := by decide +kernel
theorem dX12_judged_38 : decode cX12_judged 38 = .ok (.iconst 0, 1) := by decide +kernel
theorem dX12_judged_39 : decode cX12_judged 39 = .ok (.istore 4, 2) := by decide +kernel
theorem dX12_judged_41 : decode cX12_judged 41 = .ok (.iload 4, 2) := by decide +kernel
theorem dX12_judged_43 : decode cX12_judged 43 = .ok (.aload_n 0, 1) := by decide +kernel
theorem dX12_judged_44 : decode cX12_judged 44 = .ok (.getfield 87, 3) := by decide +kernel
theorem dX12_judged_47 : decode cX12_judged 47 = .ok (.iconst 0, 1) := by decide +kernel
theorem dX12_judged_48 : decode cX12_judged 48 = .ok (.iaload, 1) := by decide +kernel
theorem dX12_judged_49 : decode cX12_judged 49 = .ok (.if_icmp .ge 39, 3) := by decide +kernel
theorem dX12_judged_52 : decode cX12_judged 52 = .ok (.aload_n 0, 1) := by decide +kernel
theorem dX12_judged_53 : decode cX12_judged 53 = .ok (.iload 4, 2) := by decide +kernel
theorem dX12_judged_55 : decode cX12_judged 55 = .ok (.invokevirtual 428, 3) := by decide +kernel
theorem dX12_judged_58 : decode cX12_judged 58 = .ok (.ifCond .ne 10, 3) := by decide +kernel
theorem dX12_judged_61 : decode cX12_judged 61 = .ok (.iload_n 2, 1) := by decide +kernel
theorem dX12_judged_62 : decode cX12_judged 62 = .ok (.ifCond .ge 6, 3) := by decide +kernel
theorem dX12_judged_65 : decode cX12_judged 65 = .ok (.iload 4, 2) := by decide +kernel
theorem dX12_judged_67 : decode cX12_judged 67 = .ok (.istore_n 2, 1) := by decide +kernel
theorem dX12_judged_68 : decode cX12_judged 68 = .ok (.aload_n 0, 1) := by decide +kernel
theorem dX12_judged_69 : decode cX12_judged 69 = .ok (.invokevirtual 431, 3) := by decide +kernel
theorem dX12_judged_72 : decode cX12_judged 72 = .ok (.ifCond .eq 10, 3) := by decide +kernel
theorem dX12_judged_75 : decode cX12_judged 75 = .ok (.iload_n 3, 1) := by decide +kernel
theorem dX12_judged_76 : decode cX12_judged 76 = .ok (.ifCond .ge 6, 3) := by decide +kernel
theorem dX12_judged_79 : decode cX12_judged 79 = .ok (.iload 4, 2) := by decide +kernel
theorem dX12_judged_81 : decode cX12_judged 81 = .ok (.istore_n 3, 1) := by decide +kernel
theorem dX12_judged_82 : decode cX12_judged 82 = .ok (.iinc 4 1, 3) := by decide +kernel
theorem dX12_judged_85 : decode cX12_judged 85 = .ok (.goto (-44), 3) := by decide +kernel
theorem dX12_judged_88 : decode cX12_judged 88 = .ok (.aload_n 0, 1) := by decide +kernel
theorem dX12_judged_89 : decode cX12_judged 89 = .ok (.invokevirtual 431, 3) := by decide +kernel
theorem dX12_judged_92 : decode cX12_judged 92 = .ok (.invokestatic 391, 3) := by decide +kernel
theorem dX12_judged_95 : decode cX12_judged 95 = .ok (.istore 4, 2) := by decide +kernel
theorem dX12_judged_97 : decode cX12_judged 97 = .ok (.aload_n 0, 1) := by decide +kernel
theorem dX12_judged_98 : decode cX12_judged 98 = .ok (.getfield 114, 3) := by decide +kernel
theorem dX12_judged_101 : decode cX12_judged 101 = .ok (.iconst 0, 1) := by decide +kernel
theorem dX12_judged_102 : decode cX12_judged 102 = .ok (.aload_n 0, 1) := by decide +kernel
theorem dX12_judged_103 : decode cX12_judged 103 = .ok (.getfield 111, 3) := by decide +kernel
theorem dX12_judged_106 : decode cX12_judged 106 = .ok (.iconst 0, 1) := by decide +kernel
theorem dX12_judged_107 : decode cX12_judged 107 = .ok (.invokestatic 409, 3) := by decide +kernel
theorem dX12_judged_110 : decode cX12_judged 110 = .ok (.iload_n 1, 1) := by decide +kernel
theorem dX12_judged_111 : decode cX12_judged 111 = .ok (.ifCond .ne 7, 3) := by decide +kernel
theorem dX12_judged_114 : decode cX12_judged 114 = .ok (.iload_n 2, 1) := by decide +kernel
theorem dX12_judged_115 : decode cX12_judged 115 = .ok (.goto 14, 3) := by decide +kernel
theorem dX12_judged_118 : decode cX12_judged 118 = .ok (.iload_n 1, 1) := by decide +kernel
theorem dX12_judged_119 : decode cX12_judged 119 = .ok (.iconst 1, 1) := by decide +kernel
theorem dX12_judged_120 : decode cX12_judged 120 = .ok (.if_icmp .ne 7, 3) := by decide +kernel
theorem dX12_judged_123 : decode cX12_judged 123 = .ok (.iload_n 3, 1) := by decide +kernel
theorem dX12_judged_124 : decode cX12_judged 124 = .ok (.goto 5, 3) := by decide +kernel
theorem dX12_judged_127 : decode cX12_judged 127 = .ok (.iload 4, 2) := by decide +kernel
theorem dX12_judged_129 : decode cX12_judged 129 = .ok (.ireturn, 1) := by decide +kernel
theorem fl_RX12_114 : FL RX12 114 12 47 := ⟨inG (i := 1447) (by decide +kernel) (by decide +kernel), by decide, by decide⟩
theorem go_12_47 (σ : St) (i : Nat) : go σ 12 i 47 = (1347, i) := rfl
theorem lk_RX12_428 : Cond.methodLink RX12 428 yX12_isDone ∈ tG := inG (i := 1876) (by decide +kernel) (by decide +kernel)
theorem lk_RX12_431 : Cond.methodLink RX12 431 yX12_astrayNow ∈ tG := inG (i := 1880) (by decide +kernel) (by decide +kernel)
theorem m_X12_astrayNow : MV Y_X12_astrayNow 0 12 := ⟨⟨inG (i := 1883) (by decide +kernel) (by decide +kernel), inG (i := 110) (by decide +kernel) (by decide +kernel), by decide, by decide, by decide, by decide +kernel⟩, inG (i := 1882) (by decide +kernel) (by decide +kernel), inG (i := 83) (by decide +kernel) (by decide +kernel), by decide⟩
theorem m_X12_isDone : MV Y_X12_isDone 1 12 := ⟨⟨inG (i := 1879) (by decide +kernel) (by decide +kernel), inG (i := 110) (by decide +kernel) (by decide +kernel), by decide, by decide, by decide, by decide +kernel⟩, inG (i := 1878) (by decide +kernel) (by decide +kernel), inG (i := 82) (by decide +kernel) (by decide +kernel), by decide⟩
def P_X12_judged_J68  (x1 : Int) (x2 : Int) (x3 : Int) (x4 : Int) (R : Int → Int → Int → St → Prop) (K : Int → Int → St → Prop) (Q : Int → St → Prop) (σ : St) : Prop :=
  P_X12_astrayNow σ (fun r_8 σ_7 => (if r_8 = 0 then R x2 x3 (wi (x4 + 1)) σ_7 else (if 0 ≤ x3 then R x2 x3 (wi (x4 + 1)) σ_7 else R x2 x4 (wi (x4 + 1)) σ_7)))
set_option maxRecDepth 20000 in
set_option maxHeartbeats 2000000 in
theorem e_P_X12_judged_J68  {x1 : Int} {x2 : Int} {x3 : Int} {x4 : Int} {R : Int → Int → Int → St → Prop} {K : Int → Int → St → Prop} {Q : Int → St → Prop} {σ : St}  (hR : ∀ x2 x3 x4 σ, R x2 x3 x4 σ → E Y_X12_judged 7 0 0 (QI Q) ww 0 0 41 [some (vR 12 0), some (vI x1), some (vI x2), some (vI x3), some (vI x4)] [] σ) (hK : ∀ x2 x3 σ, K x2 x3 σ → E Y_X12_judged 7 0 0 (QI Q) ww 0 0 88 [some (vR 12 0), some (vI x1), some (vI x2), some (vI x3), none] [] σ) (h : P_X12_judged_J68 x1 x2 x3 x4 R K Q σ) : E Y_X12_judged 7 0 0 (QI Q) ww 0 0 68 [some (vR 12 0), some (vI x1), some (vI x2), some (vI x3), some (vI x4)] [] σ := by
  unfold P_X12_judged_J68 at h
  refine E_aload_n dX12_judged_68 rfl rfl ?_
  refine E_callV (Y' := Y_X12_astrayNow) (as := []) (st := []) dX12_judged_69 lk_RX12_431 m_X12_astrayNow (by decide) (Nat.le_refl _) (Nat.le_refl _) rfl rfl (Nat.le_of_ble_eq_true rfl) (s_X12_astrayNow h) (fun r0 B0 σ_7 h => ?_)
  obtain ⟨r_8, rfl, rfl, h⟩ := h
  refine E_if_eq (tgt := 82) dX12_judged_72 (by decide) (fun hc => ?_) (fun hc => ?_)
  · have h := Eq.mp (if_pos hc) h
    refine E_iinc (ls' := [some (vR 12 0), some (vI x1), some (vI x2), some (vI x3), some (vI (wi (x4 + 1)))]) dX12_judged_82 rfl (by decide) rfl rfl ?_
    refine E_goto (tgt := 41) dX12_judged_85 (by decide) ?_
    exact hR _ _ _ _ h
  · have h := Eq.mp (if_neg hc) h
    refine E_iload_n dX12_judged_75 rfl rfl ?_
    refine E_if_ge (tgt := 82) dX12_judged_76 (by decide) (fun hc => ?_) (fun hc => ?_)
    · have h := Eq.mp (if_pos hc) h
      refine E_iinc (ls' := [some (vR 12 0), some (vI x1), some (vI x2), some (vI x3), some (vI (wi (x4 + 1)))]) dX12_judged_82 rfl (by decide) rfl rfl ?_
      refine E_goto (tgt := 41) dX12_judged_85 (by decide) ?_
      exact hR _ _ _ _ h
    · have h := Eq.mp (if_neg hc) h
      refine E_iload dX12_judged_79 rfl ?_
      refine E_istore_n (ls' := [some (vR 12 0), some (vI x1), some (vI x2), some (vI x4), some (vI x4)]) dX12_judged_81 rfl (by decide) rfl ?_
      refine E_iinc (ls' := [some (vR 12 0), some (vI x1), some (vI x2), some (vI x4), some (vI (wi (x4 + 1)))]) dX12_judged_82 rfl (by decide) rfl rfl ?_
      refine E_goto (tgt := 41) dX12_judged_85 (by decide) ?_
      exact hR _ _ _ _ h
def P_X12_judged_L41  (x1 : Int) (K : Int → Int → St → Prop) (Q : Int → St → Prop) : Nat → Int → Int → Int → St → Prop
  | 0, _, _, _, _ => False
  | n + 1, x2, x3, x4, σ => (if (σ 1338 0 0) ≤ x4 then K x2 x3 σ else P_X12_isDone x4 σ (fun r_6 σ_5 => (if r_6 = 0 then (if 0 ≤ x2 then P_X12_judged_J68 x1 x2 x3 x4 (P_X12_judged_L41 x1 K Q n) K Q σ_5 else P_X12_judged_J68 x1 x4 x3 x4 (P_X12_judged_L41 x1 K Q n) K Q σ_5) else P_X12_judged_J68 x1 x2 x3 x4 (P_X12_judged_L41 x1 K Q n) K Q σ_5)))
set_option maxRecDepth 20000 in
set_option maxHeartbeats 2000000 in
theorem e_P_X12_judged_L41  {x1 : Int} {K : Int → Int → St → Prop} {Q : Int → St → Prop}  (hK : ∀ x2 x3 σ, K x2 x3 σ → E Y_X12_judged 7 0 0 (QI Q) ww 0 0 88 [some (vR 12 0), some (vI x1), some (vI x2), some (vI x3), none] [] σ) : ∀ (n : Nat) (x2 : Int) (x3 : Int) (x4 : Int) (σ : St), P_X12_judged_L41 x1 K Q n x2 x3 x4 σ → E Y_X12_judged 7 0 0 (QI Q) ww 0 0 41 [some (vR 12 0), some (vI x1), some (vI x2), some (vI x3), some (vI x4)] [] σ := by
  intro n
  induction n with
  | zero => intro x2 x3 x4 σ h; exact h.elim
  | succ n hR =>
    intro x2 x3 x4 σ h
    unfold P_X12_judged_L41 at h
    refine E_iload dX12_judged_41 rfl ?_
    refine E_aload_n dX12_judged_43 rfl rfl ?_
    refine E_getr (i := 0) dX12_judged_44 fl_RX12_87 rfl rfl (go_12_38 _ _) ?_
    refine E_ic dX12_judged_47 rfl ?_
    refine E_iald dX12_judged_48 sh_1338 (by decide) (by decide) ?_
    refine E_icmp_ge (tgt := 88) dX12_judged_49 (by decide) (fun hc => ?_) (fun hc => ?_)
    · have h := Eq.mp (if_pos hc) h
      refine E_wk2 [some (vR 12 0), some (vI x1), some (vI x2), some (vI x3), none] ⟨rfl, ⟨rfl, ⟨rfl, ⟨rfl, trivial⟩⟩⟩⟩ ?_
      exact hK _ _ _ h
    · have h := Eq.mp (if_neg hc) h
      refine E_aload_n dX12_judged_52 rfl rfl ?_
      refine E_iload dX12_judged_53 rfl ?_
      refine E_callV (Y' := Y_X12_isDone) (as := [vI x4]) (st := []) dX12_judged_55 lk_RX12_428 m_X12_isDone (by decide) (Nat.le_refl _) (Nat.le_refl _) rfl rfl (Nat.le_of_ble_eq_true rfl) (s_X12_isDone h) (fun r0 B0 σ_5 h => ?_)
      obtain ⟨r_6, rfl, rfl, h⟩ := h
      refine E_if_ne (tgt := 68) dX12_judged_58 (by decide) (fun hc => ?_) (fun hc => ?_)
      · have h := Eq.mp (if_neg hc) h
        exact e_P_X12_judged_J68 hR hK h
      · have h := Eq.mp (if_pos hc) h
        refine E_iload_n dX12_judged_61 rfl rfl ?_
        refine E_if_ge (tgt := 68) dX12_judged_62 (by decide) (fun hc => ?_) (fun hc => ?_)
        · have h := Eq.mp (if_pos hc) h
          exact e_P_X12_judged_J68 hR hK h
        · have h := Eq.mp (if_neg hc) h
          refine E_iload dX12_judged_65 rfl ?_
          refine E_istore_n (ls' := [some (vR 12 0), some (vI x1), some (vI x4), some (vI x3), some (vI x4)]) dX12_judged_67 rfl (by decide) rfl ?_
          exact e_P_X12_judged_J68 hR hK h
def P_X12_judged  (x1 : Int) (σ : St) (Q : Int → St → Prop) : Prop :=
  P_X12_within x1 0 2 (up σ 12 0 0 0) (fun r_2 σ_1 => (if r_2 = 0 then Q (-2) σ_1 else P_X12_copies 1346 0 0 1347 0 0 σ_1 (fun σ_3 => P_X12_fresh0 σ_3 (fun σ_4 => P_X12_judged_L41 x1 (fun x2_9 x3_10 σ_11 => P_X12_astrayNow σ_11 (fun r_13 σ_12 => P_X12_bits r_13 σ_12 (fun r_15 σ_14 => P_X12_copies 1347 0 0 1346 0 0 σ_14 (fun σ_16 => (if x1 = 0 then Q x2_9 σ_16 else (if x1 = 1 then Q x3_10 σ_16 else Q r_15 σ_16)))))) Q FU (-1) (-1) 0 σ_4))))
set_option maxRecDepth 20000 in
set_option maxHeartbeats 2000000 in
theorem s_X12_judged   {x1 : Int} {σ : St} {Q : Int → St → Prop} (h : P_X12_judged x1 σ Q) : Cn Y_X12_judged 7 0 0 ww σ [vR 12 0, vI x1] (QI Q) := by
  refine Cn_of [some (vR 12 0), some (vI x1), none, none, none] (by decide) (Nat.le_of_ble_eq_true rfl) rfl ?_
  unfold P_X12_judged at h
  refine E_aload_n dX12_judged_0 rfl rfl ?_
  refine E_ic dX12_judged_1 rfl ?_
  refine E_puti dX12_judged_2 fl_RX12_141 rfl rfl rfl ?_
  refine E_iload_n dX12_judged_5 rfl rfl ?_
  refine E_ic dX12_judged_6 rfl ?_
  refine E_ic dX12_judged_7 rfl ?_
  refine E_callS (Y' := Y_X12_within) (as := [vI x1, vI 0, vI 2]) (st := []) dX12_judged_8 lk_RX12_264 m_X12_within (by decide) (Nat.le_refl _) (Nat.le_refl _) rfl rfl (Nat.le_of_ble_eq_true rfl) (s_X12_within h) (fun r0 B0 σ_1 h => ?_)
  obtain ⟨r_2, rfl, rfl, h⟩ := h
  refine E_if_ne (tgt := 17) dX12_judged_11 (by decide) (fun hc => ?_) (fun hc => ?_)
  · have h := Eq.mp (if_neg hc) h
    refine E_aload_n dX12_judged_17 rfl rfl ?_
    refine E_getr (i := 0) dX12_judged_18 fl_RX12_111 rfl rfl (go_12_46 _ _) ?_
    refine E_ic dX12_judged_21 rfl ?_
    refine E_aload_n dX12_judged_22 rfl rfl ?_
    refine E_getr (i := 0) dX12_judged_23 fl_RX12_114 rfl rfl (go_12_47 _ _) ?_
    refine E_ic dX12_judged_26 rfl ?_
    refine E_callS (Y' := Y_X12_copies) (as := [vR 1346 0, vI 0, vR 1347 0, vI 0]) (st := []) dX12_judged_27 lk_RX12_409 m_X12_copies (by decide) (Nat.le_refl _) (Nat.le_refl _) rfl rfl (Nat.le_of_ble_eq_true rfl) (s_X12_copies h) (fun r0 B0 σ_3 h => ?_)
    obtain ⟨rfl, rfl, h⟩ := h
    refine E_aload_n dX12_judged_30 rfl rfl ?_
    refine E_callV (Y' := Y_X12_fresh0) (as := []) (st := []) dX12_judged_31 lk_RX12_138 m_X12_fresh0 (by decide) (Nat.le_refl _) (Nat.le_refl _) rfl rfl (Nat.le_of_ble_eq_true rfl) (s_X12_fresh0 h) (fun r0 B0 σ_4 h => ?_)
    obtain ⟨rfl, rfl, h⟩ := h
    refine E_ic dX12_judged_34 rfl ?_
    refine E_istore_n (ls' := [some (vR 12 0), some (vI x1), some (vI (-1)), none, none]) dX12_judged_35 rfl (by decide) rfl ?_
    refine E_ic dX12_judged_36 rfl ?_
    refine E_istore_n (ls' := [some (vR 12 0), some (vI x1), some (vI (-1)), some (vI (-1)), none]) dX12_judged_37 rfl (by decide) rfl ?_
    refine E_ic dX12_judged_38 rfl ?_
    refine E_istore (ls' := [some (vR 12 0), some (vI x1), some (vI (-1)), some (vI (-1)), some (vI 0)]) dX12_judged_39 (by decide) rfl ?_
    refine e_P_X12_judged_L41 ?_ _ _ _ _ _ h
    · intro x2_9 x3_10 σ_11 h
      refine E_aload_n dX12_judged_88 rfl rfl ?_
      refine E_callV (Y' := Y_X12_astrayNow) (as := []) (st := []) dX12_judged_89 lk_RX12_431 m_X12_astrayNow (by decide) (Nat.le_refl _) (Nat.le_refl _) rfl rfl (Nat.le_of_ble_eq_true rfl) (s_X12_astrayNow h) (fun r0 B0 σ_12 h => ?_)
      obtain ⟨r_13, rfl, rfl, h⟩ := h
      refine E_callS (Y' := Y_X12_bits) (as := [vI r_13]) (st := []) dX12_judged_92 lk_RX12_391 m_X12_bits (by decide) (Nat.le_refl _) (Nat.le_refl _) rfl rfl (Nat.le_of_ble_eq_true rfl) (s_X12_bits h) (fun r0 B0 σ_14 h => ?_)
      obtain ⟨r_15, rfl, rfl, h⟩ := h
      refine E_istore (ls' := [some (vR 12 0), some (vI x1), some (vI x2_9), some (vI x3_10), some (vI r_15)]) dX12_judged_95 (by decide) rfl ?_
      refine E_aload_n dX12_judged_97 rfl rfl ?_
      refine E_getr (i := 0) dX12_judged_98 fl_RX12_114 rfl rfl (go_12_47 _ _) ?_
      refine E_ic dX12_judged_101 rfl ?_
      refine E_aload_n dX12_judged_102 rfl rfl ?_
      refine E_getr (i := 0) dX12_judged_103 fl_RX12_111 rfl rfl (go_12_46 _ _) ?_
      refine E_ic dX12_judged_106 rfl ?_
      refine E_callS (Y' := Y_X12_copies) (as := [vR 1347 0, vI 0, vR 1346 0, vI 0]) (st := []) dX12_judged_107 lk_RX12_409 m_X12_copies (by decide) (Nat.le_refl _) (Nat.le_refl _) rfl rfl (Nat.le_of_ble_eq_true rfl) (s_X12_copies h) (fun r0 B0 σ_16 h => ?_)
      obtain ⟨rfl, rfl, h⟩ := h
      refine E_iload_n dX12_judged_110 rfl rfl ?_
      refine E_if_ne (tgt := 118) dX12_judged_111 (by decide) (fun hc => ?_) (fun hc => ?_)
      · have h := Eq.mp (if_neg hc) h
        refine E_iload_n dX12_judged_118 rfl rfl ?_
        refine E_ic dX12_judged_119 rfl ?_
        refine E_icmp_ne (tgt := 127) dX12_judged_120 (by decide) (fun hc => ?_) (fun hc => ?_)
        · have h := Eq.mp (if_neg hc) h
          refine E_iload dX12_judged_127 rfl ?_
          exact E_iret dX12_judged_129 rfl ⟨_, rfl, rfl, h⟩
        · have h := Eq.mp (if_pos hc) h
          refine E_iload_n dX12_judged_123 rfl rfl ?_
          refine E_goto (tgt := 129) dX12_judged_124 (by decide) ?_
          exact E_iret dX12_judged_129 rfl ⟨_, rfl, rfl, h⟩
      · have h := Eq.mp (if_pos hc) h
        refine E_iload_n dX12_judged_114 rfl rfl ?_
        refine E_goto (tgt := 129) dX12_judged_115 (by decide) ?_
        exact E_iret dX12_judged_129 rfl ⟨_, rfl, rfl, h⟩
  · have h := Eq.mp (if_pos hc) h
    refine E_bp dX12_judged_14 rfl ?_
    exact E_iret dX12_judged_16 rfl ⟨_, rfl, rfl, h⟩
abbrev Y_X12_falls : My := (yX12_falls, cX12_falls, 2, some .int)
theorem dX12_falls_0 : decode cX12_falls 0 = .ok (.aload_n 0, 1) := by decide +kernel
theorem dX12_falls_1 : decode cX12_falls 1 = .ok (.iconst 0, 1) := by decide +kernel
theorem dX12_falls_2 : decode cX12_falls 2 = .ok (.putfield 141, 3) := by decide +kernel
theorem dX12_falls_5 : decode cX12_falls 5 = .ok (.aload_n 0, 1) := by decide +kernel
theorem dX12_falls_6 : decode cX12_falls 6 = .ok (.iload_n 1, 1) := by decide +kernel
theorem dX12_falls_7 : decode cX12_falls 7 = .ok (.invokevirtual 406, 3) := by decide +kernel
theorem dX12_falls_10 : decode cX12_falls 10 = .ok (.ifCond .eq 11, 3) := by decide +kernel
theorem dX12_falls_13 : decode cX12_falls 13 = .ok (.aload_n 0, 1) := by decide +kernel
theorem dX12_falls_14 : decode cX12_falls 14 = .ok (.iload_n 1, 1) := by decide +kernel
theorem dX12_falls_15 : decode cX12_falls 15 = .ok (.invokevirtual 366, 3) := by decide +kernel
theorem dX12_falls_18 : decode cX12_falls 18 = .ok (.goto 4, 3) := by decide +kernel
theorem dX12_falls_21 : decode cX12_falls 21 = .ok (.iconst (-1), 1) := by decide +kernel
theorem dX12_falls_22 : decode cX12_falls 22 = .ok (.ireturn, 1) := by decide +kernel
def P_X12_falls  (x1 : Int) (σ : St) (Q : Int → St → Prop) : Prop :=
  P_X12_isBall x1 (up σ 12 0 0 0) (fun r_2 σ_1 => (if r_2 = 0 then Q (-1) σ_1 else P_X12_fallOf x1 σ_1 (fun r_4 σ_3 => Q r_4 σ_3)))
set_option maxRecDepth 20000 in
set_option maxHeartbeats 2000000 in
theorem s_X12_falls   {x1 : Int} {σ : St} {Q : Int → St → Prop} (h : P_X12_falls x1 σ Q) : Cn Y_X12_falls 2 0 0 ww σ [vR 12 0, vI x1] (QI Q) := by
  refine Cn_of [some (vR 12 0), some (vI x1)] (by decide) (Nat.le_of_ble_eq_true rfl) rfl ?_
  unfold P_X12_falls at h
  refine E_aload_n dX12_falls_0 rfl rfl ?_
  refine E_ic dX12_falls_1 rfl ?_
  refine E_puti dX12_falls_2 fl_RX12_141 rfl rfl rfl ?_
  refine E_aload_n dX12_falls_5 rfl rfl ?_
  refine E_iload_n dX12_falls_6 rfl rfl ?_
  refine E_callV (Y' := Y_X12_isBall) (as := [vI x1]) (st := []) dX12_falls_7 lk_RX12_406 m_X12_isBall (by decide) (Nat.le_refl _) (Nat.le_refl _) rfl rfl (Nat.le_of_ble_eq_true rfl) (s_X12_isBall h) (fun r0 B0 σ_1 h => ?_)
  obtain ⟨r_2, rfl, rfl, h⟩ := h
  refine E_if_eq (tgt := 21) dX12_falls_10 (by decide) (fun hc => ?_) (fun hc => ?_)
  · have h := Eq.mp (if_pos hc) h
    refine E_ic dX12_falls_21 rfl ?_
    exact E_iret dX12_falls_22 rfl ⟨_, rfl, rfl, h⟩
  · have h := Eq.mp (if_neg hc) h
    refine E_aload_n dX12_falls_13 rfl rfl ?_
    refine E_iload_n dX12_falls_14 rfl rfl ?_
    refine E_callV (Y' := Y_X12_fallOf) (as := [vI x1]) (st := []) dX12_falls_15 lk_RX12_366 m_X12_fallOf (by decide) (Nat.le_refl _) (Nat.le_refl _) rfl rfl (Nat.le_of_ble_eq_true rfl) (s_X12_fallOf h) (fun r0 B0 σ_3 h => ?_)
    obtain ⟨r_4, rfl, rfl, h⟩ := h
    refine E_goto (tgt := 22) dX12_falls_18 (by decide) ?_
    exact E_iret dX12_falls_22 rfl ⟨_, rfl, rfl, h⟩
abbrev Y_X12_catches : My := (yX12_catches, cX12_catches, 2, some .int)
theorem dX12_catches_0 : decode cX12_catches 0 = .ok (.aload_n 0, 1) := by decide +kernel
theorem dX12_catches_1 : decode cX12_catches 1 = .ok (.iconst 0, 1) := by decide +kernel
theorem dX12_catches_2 : decode cX12_catches 2 = .ok (.putfield 141, 3) := by decide +kernel
theorem dX12_catches_5 : decode cX12_catches 5 = .ok (.iload_n 1, 1) := by decide +kernel
theorem dX12_catches_6 : decode cX12_catches 6 = .ok (.iconst 1, 1) := by decide +kernel
theorem dX12_catches_7 : decode cX12_catches 7 = .ok (.bipush 60, 2) := by decide +kernel
theorem dX12_catches_9 : decode cX12_catches 9 = .ok (.invokestatic 264, 3) := by decide +kernel
theorem dX12_catches_12 : decode cX12_catches 12 = .ok (.ifCond .eq 11, 3) := by decide +kernel
theorem dX12_catches_15 : decode cX12_catches 15 = .ok (.aload_n 0, 1) := by decide +kernel
theorem dX12_catches_16 : decode cX12_catches 16 = .ok (.iload_n 1, 1) := by decide +kernel
theorem dX12_catches_17 : decode cX12_catches 17 = .ok (.invokevirtual 356, 3) := by decide +kernel
theorem dX12_catches_20 : decode cX12_catches 20 = .ok (.goto 4, 3) := by decide +kernel
theorem dX12_catches_23 : decode cX12_catches 23 = .ok (.iconst (-1), 1) := by decide +kernel
theorem dX12_catches_24 : decode cX12_catches 24 = .ok (.ireturn, 1) := by decide +kernel
def P_X12_catches  (x1 : Int) (σ : St) (Q : Int → St → Prop) : Prop :=
  P_X12_within x1 1 60 (up σ 12 0 0 0) (fun r_2 σ_1 => (if r_2 = 0 then Q (-1) σ_1 else P_X12_fallsBy x1 σ_1 (fun r_4 σ_3 => Q r_4 σ_3)))
set_option maxRecDepth 20000 in
set_option maxHeartbeats 2000000 in
theorem s_X12_catches   {x1 : Int} {σ : St} {Q : Int → St → Prop} (h : P_X12_catches x1 σ Q) : Cn Y_X12_catches 1 0 0 ww σ [vR 12 0, vI x1] (QI Q) := by
  refine Cn_of [some (vR 12 0), some (vI x1)] (by decide) (Nat.le_of_ble_eq_true rfl) rfl ?_
  unfold P_X12_catches at h
  refine E_aload_n dX12_catches_0 rfl rfl ?_
  refine E_ic dX12_catches_1 rfl ?_
  refine E_puti dX12_catches_2 fl_RX12_141 rfl rfl rfl ?_
  refine E_iload_n dX12_catches_5 rfl rfl ?_
  refine E_ic dX12_catches_6 rfl ?_
  refine E_bp dX12_catches_7 rfl ?_
  refine E_callS (Y' := Y_X12_within) (as := [vI x1, vI 1, vI 60]) (st := []) dX12_catches_9 lk_RX12_264 m_X12_within (by decide) (Nat.le_refl _) (Nat.le_refl _) rfl rfl (Nat.le_of_ble_eq_true rfl) (s_X12_within h) (fun r0 B0 σ_1 h => ?_)
  obtain ⟨r_2, rfl, rfl, h⟩ := h
  refine E_if_eq (tgt := 23) dX12_catches_12 (by decide) (fun hc => ?_) (fun hc => ?_)
  · have h := Eq.mp (if_pos hc) h
    refine E_ic dX12_catches_23 rfl ?_
    exact E_iret dX12_catches_24 rfl ⟨_, rfl, rfl, h⟩
  · have h := Eq.mp (if_neg hc) h
    refine E_aload_n dX12_catches_15 rfl rfl ?_
    refine E_iload_n dX12_catches_16 rfl rfl ?_
    refine E_callV (Y' := Y_X12_fallsBy) (as := [vI x1]) (st := []) dX12_catches_17 lk_RX12_356 m_X12_fallsBy (by decide) (Nat.le_refl _) (Nat.le_refl _) rfl rfl (Nat.le_of_ble_eq_true rfl) (s_X12_fallsBy h) (fun r0 B0 σ_3 h => ?_)
    obtain ⟨r_4, rfl, rfl, h⟩ := h
    refine E_goto (tgt := 24) dX12_catches_20 (by decide) ?_
    exact E_iret dX12_catches_24 rfl ⟨_, rfl, rfl, h⟩
abbrev Y_X12_span : My := (yX12_span, cX12_span, 6, some .int)
theorem dX12_span_0 : decode cX12_span 0 = .ok (.aload_n 0, 1) := by decide +kernel
theorem dX12_span_1 : decode cX12_span 1 = .ok (.iconst 0, 1) := by decide +kernel
theorem dX12_span_2 : decode cX12_span 2 = .ok (.putfield 141, 3) := by decide +kernel
theorem dX12_span_5 : decode cX12_span 5 = .ok (.aload_n 0, 1) := by decide +kernel
theorem dX12_span_6 : decode cX12_span 6 = .ok (.iload_n 1, 1) := by decide +kernel
theorem dX12_span_7 : decode cX12_span 7 = .ok (.invokevirtual 403, 3) := by decide +kernel
theorem dX12_span_10 : decode cX12_span 10 = .ok (.ifCond .eq 12, 3) := by decide +kernel
theorem dX12_span_13 : decode cX12_span 13 = .ok (.iload_n 2, 1) := by decide +kernel
theorem dX12_span_14 : decode cX12_span 14 = .ok (.iconst 0, 1) := by decide +kernel
theorem dX12_span_15 : decode cX12_span 15 = .ok (.iconst 1, 1) := by decide +kernel
theorem dX12_span_16 : decode cX12_span 16 = .ok (.invokestatic 264, 3) := by decide +kernel
theorem dX12_span_19 : decode cX12_span 19 = .ok (.ifCond .ne 5, 3) := by decide +kernel
theorem dX12_span_22 : decode cX12_span 22 = .ok (.iconst (-1), 1) := by decide +kernel
theorem dX12_span_23 : decode cX12_span 23 = .ok (.ireturn, 1) := by decide +kernel
theorem dX12_span_24 : decode cX12_span 24 = .ok (.iconst (-1), 1) := by decide +kernel
theorem dX12_span_25 : decode cX12_span 25 = .ok (.istore_n 3, 1) := by decide +kernel
theorem dX12_span_26 : decode cX12_span 26 = .ok (.iconst (-1), 1) := by decide +kernel
theorem dX12_span_27 : decode cX12_span 27 = .ok (.istore 4, 2) := by decide +kernel
theorem dX12_span_29 : decode cX12_span 29 = .ok (.iconst 1, 1) := by decide +kernel
theorem dX12_span_30 : decode cX12_span 30 = .ok (.istore 5, 2) := by decide +kernel
theorem dX12_span_32 : decode cX12_span 32 = .ok (.iload 5, 2) := by decide +kernel
theorem dX12_span_34 : decode cX12_span 34 = .ok (.bipush 60, 2) := by decide +kernel
theorem dX12_span_36 : decode cX12_span 36 = .ok (.if_icmp .gt 33, 3) := by decide +kernel
theorem dX12_span_39 : decode cX12_span 39 = .ok (.aload_n 0, 1) := by decide +kernel
theorem dX12_span_40 : decode cX12_span 40 = .ok (.iload 5, 2) := by decide +kernel
theorem dX12_span_42 : decode cX12_span 42 = .ok (.invokevirtual 356, 3) := by decide +kernel
theorem dX12_span_45 : decode cX12_span 45 = .ok (.iload_n 1, 1) := by decide +kernel
theorem dX12_span_46 : decode cX12_span 46 = .ok (.if_icmp .eq 6, 3) := by decide +kernel
theorem dX12_span_49 : decode cX12_span 49 = .ok (.goto 14, 3) := by decide +kernel
theorem dX12_span_52 : decode cX12_span 52 = .ok (.iload_n 3, 1) := by decide +kernel
theorem dX12_span_53 : decode cX12_span 53 = .ok (.ifCond .ge 6, 3) := by decide +kernel
theorem dX12_span_56 : decode cX12_span 56 = .ok (.iload 5, 2) := by decide +kernel
theorem dX12_span_58 : decode cX12_span 58 = .ok (.istore_n 3, 1) := by decide +kernel
theorem dX12_span_59 : decode cX12_span 59 = .ok (.iload 5, 2) := by decide +kernel
theorem dX12_span_61 : decode cX12_span 61 = .ok (.istore 4, 2) := by decide +kernel
theorem dX12_span_63 : decode cX12_span 63 = .ok (.iinc 5 1, 3) := by decide +kernel
theorem dX12_span_66 : decode cX12_span 66 = .ok (.goto (-34), 3) := by decide +kernel
theorem dX12_span_69 : decode cX12_span 69 = .ok (.iload_n 2, 1) := by decide +kernel
theorem dX12_span_70 : decode cX12_span 70 = .ok (.ifCond .ne 7, 3) := by decide +kernel
theorem dX12_span_73 : decode cX12_span 73 = .ok (.iload_n 3, 1) := by decide +kernel
theorem dX12_span_74 : decode cX12_span 74 = .ok (.goto 5, 3) := by decide +kernel
theorem dX12_span_77 : decode cX12_span 77 = .ok (.iload 4, 2) := by decide +kernel
theorem dX12_span_79 : decode cX12_span 79 = .ok (.ireturn, 1) := by decide +kernel
def P_X12_span_J59  (x1 : Int) (x2 : Int) (x3 : Int) (x5 : Int) (R : Int → Int → Int → St → Prop) (K : Int → Int → St → Prop) (Q : Int → St → Prop) (σ : St) : Prop :=
  R x3 x5 (wi (x5 + 1)) σ
set_option maxRecDepth 20000 in
set_option maxHeartbeats 2000000 in
theorem e_P_X12_span_J59  {x1 : Int} {x2 : Int} {x3 : Int} {x5 : Int} {R : Int → Int → Int → St → Prop} {K : Int → Int → St → Prop} {Q : Int → St → Prop} {σ : St}  (hR : ∀ x3 x4 x5 σ, R x3 x4 x5 σ → E Y_X12_span 1 0 0 (QI Q) ww 0 0 32 [some (vR 12 0), some (vI x1), some (vI x2), some (vI x3), some (vI x4), some (vI x5)] [] σ) (hK : ∀ x3 x4 σ, K x3 x4 σ → E Y_X12_span 1 0 0 (QI Q) ww 0 0 69 [none, none, some (vI x2), some (vI x3), some (vI x4), none] [] σ) (h : P_X12_span_J59 x1 x2 x3 x5 R K Q σ) : E Y_X12_span 1 0 0 (QI Q) ww 0 0 59 [some (vR 12 0), some (vI x1), some (vI x2), some (vI x3), none, some (vI x5)] [] σ := by
  unfold P_X12_span_J59 at h
  refine E_iload dX12_span_59 rfl ?_
  refine E_istore (ls' := [some (vR 12 0), some (vI x1), some (vI x2), some (vI x3), some (vI x5), some (vI x5)]) dX12_span_61 (by decide) rfl ?_
  refine E_iinc (ls' := [some (vR 12 0), some (vI x1), some (vI x2), some (vI x3), some (vI x5), some (vI (wi (x5 + 1)))]) dX12_span_63 rfl (by decide) rfl rfl ?_
  refine E_goto (tgt := 32) dX12_span_66 (by decide) ?_
  exact hR _ _ _ _ h
def P_X12_span_L32  (x1 : Int) (x2 : Int) (K : Int → Int → St → Prop) (Q : Int → St → Prop) : Nat → Int → Int → Int → St → Prop
  | 0, _, _, _, _ => False
  | n + 1, x3, x4, x5, σ => (if 60 < x5 then K x3 x4 σ else P_X12_fallsBy x5 σ (fun r_6 σ_5 => (if r_6 = x1 then (if 0 ≤ x3 then P_X12_span_J59 x1 x2 x3 x5 (P_X12_span_L32 x1 x2 K Q n) K Q σ_5 else P_X12_span_J59 x1 x2 x5 x5 (P_X12_span_L32 x1 x2 K Q n) K Q σ_5) else (P_X12_span_L32 x1 x2 K Q n) x3 x4 (wi (x5 + 1)) σ_5)))
set_option maxRecDepth 20000 in
set_option maxHeartbeats 2000000 in
theorem e_P_X12_span_L32  {x1 : Int} {x2 : Int} {K : Int → Int → St → Prop} {Q : Int → St → Prop}  (hK : ∀ x3 x4 σ, K x3 x4 σ → E Y_X12_span 1 0 0 (QI Q) ww 0 0 69 [none, none, some (vI x2), some (vI x3), some (vI x4), none] [] σ) : ∀ (n : Nat) (x3 : Int) (x4 : Int) (x5 : Int) (σ : St), P_X12_span_L32 x1 x2 K Q n x3 x4 x5 σ → E Y_X12_span 1 0 0 (QI Q) ww 0 0 32 [some (vR 12 0), some (vI x1), some (vI x2), some (vI x3), some (vI x4), some (vI x5)] [] σ := by
  intro n
  induction n with
  | zero => intro x3 x4 x5 σ h; exact h.elim
  | succ n hR =>
    intro x3 x4 x5 σ h
    unfold P_X12_span_L32 at h
    refine E_iload dX12_span_32 rfl ?_
    refine E_bp dX12_span_34 rfl ?_
    refine E_icmp_gt (tgt := 69) dX12_span_36 (by decide) (fun hc => ?_) (fun hc => ?_)
    · have h := Eq.mp (if_pos hc) h
      refine E_wk2 [none, none, some (vI x2), some (vI x3), some (vI x4), none] ⟨rfl, ⟨rfl, ⟨rfl, trivial⟩⟩⟩ ?_
      exact hK _ _ _ h
    · have h := Eq.mp (if_neg hc) h
      refine E_aload_n dX12_span_39 rfl rfl ?_
      refine E_iload dX12_span_40 rfl ?_
      refine E_callV (Y' := Y_X12_fallsBy) (as := [vI x5]) (st := []) dX12_span_42 lk_RX12_356 m_X12_fallsBy (by decide) (Nat.le_refl _) (Nat.le_refl _) rfl rfl (Nat.le_of_ble_eq_true rfl) (s_X12_fallsBy h) (fun r0 B0 σ_5 h => ?_)
      obtain ⟨r_6, rfl, rfl, h⟩ := h
      refine E_iload_n dX12_span_45 rfl rfl ?_
      refine E_icmp_eq (tgt := 52) dX12_span_46 (by decide) (fun hc => ?_) (fun hc => ?_)
      · have h := Eq.mp (if_pos hc) h
        refine E_iload_n dX12_span_52 rfl rfl ?_
        refine E_if_ge (tgt := 59) dX12_span_53 (by decide) (fun hc => ?_) (fun hc => ?_)
        · have h := Eq.mp (if_pos hc) h
          refine E_wk2 [some (vR 12 0), some (vI x1), some (vI x2), some (vI x3), none, some (vI x5)] ⟨rfl, ⟨rfl, ⟨rfl, ⟨rfl, ⟨rfl, trivial⟩⟩⟩⟩⟩ ?_
          exact e_P_X12_span_J59 hR hK h
        · have h := Eq.mp (if_neg hc) h
          refine E_iload dX12_span_56 rfl ?_
          refine E_istore_n (ls' := [some (vR 12 0), some (vI x1), some (vI x2), some (vI x5), some (vI x4), some (vI x5)]) dX12_span_58 rfl (by decide) rfl ?_
          refine E_wk2 [some (vR 12 0), some (vI x1), some (vI x2), some (vI x5), none, some (vI x5)] ⟨rfl, ⟨rfl, ⟨rfl, ⟨rfl, ⟨rfl, trivial⟩⟩⟩⟩⟩ ?_
          exact e_P_X12_span_J59 hR hK h
      · have h := Eq.mp (if_neg hc) h
        refine E_goto (tgt := 63) dX12_span_49 (by decide) ?_
        refine E_iinc (ls' := [some (vR 12 0), some (vI x1), some (vI x2), some (vI x3), some (vI x4), some (vI (wi (x5 + 1)))]) dX12_span_63 rfl (by decide) rfl rfl ?_
        refine E_goto (tgt := 32) dX12_span_66 (by decide) ?_
        exact hR _ _ _ _ h
def P_X12_span  (x1 : Int) (x2 : Int) (σ : St) (Q : Int → St → Prop) : Prop :=
  P_X12_isCounter x1 (up σ 12 0 0 0) (fun r_2 σ_1 => (if r_2 = 0 then Q (-1) σ_1 else P_X12_within x2 0 1 σ_1 (fun r_4 σ_3 => (if r_4 = 0 then Q (-1) σ_3 else P_X12_span_L32 x1 x2 (fun x3_7 x4_8 σ_9 => (if x2 = 0 then Q x3_7 σ_9 else Q x4_8 σ_9)) Q FU (-1) (-1) 1 σ_3))))
set_option maxRecDepth 20000 in
set_option maxHeartbeats 2000000 in
theorem s_X12_span   {x1 : Int} {x2 : Int} {σ : St} {Q : Int → St → Prop} (h : P_X12_span x1 x2 σ Q) : Cn Y_X12_span 1 0 0 ww σ [vR 12 0, vI x1, vI x2] (QI Q) := by
  refine Cn_of [some (vR 12 0), some (vI x1), some (vI x2), none, none, none] (by decide) (Nat.le_of_ble_eq_true rfl) rfl ?_
  unfold P_X12_span at h
  refine E_aload_n dX12_span_0 rfl rfl ?_
  refine E_ic dX12_span_1 rfl ?_
  refine E_puti dX12_span_2 fl_RX12_141 rfl rfl rfl ?_
  refine E_aload_n dX12_span_5 rfl rfl ?_
  refine E_iload_n dX12_span_6 rfl rfl ?_
  refine E_callV (Y' := Y_X12_isCounter) (as := [vI x1]) (st := []) dX12_span_7 lk_RX12_403 m_X12_isCounter (by decide) (Nat.le_refl _) (Nat.le_refl _) rfl rfl (Nat.le_of_ble_eq_true rfl) (s_X12_isCounter h) (fun r0 B0 σ_1 h => ?_)
  obtain ⟨r_2, rfl, rfl, h⟩ := h
  refine E_if_eq (tgt := 22) dX12_span_10 (by decide) (fun hc => ?_) (fun hc => ?_)
  · have h := Eq.mp (if_pos hc) h
    refine E_ic dX12_span_22 rfl ?_
    exact E_iret dX12_span_23 rfl ⟨_, rfl, rfl, h⟩
  · have h := Eq.mp (if_neg hc) h
    refine E_iload_n dX12_span_13 rfl rfl ?_
    refine E_ic dX12_span_14 rfl ?_
    refine E_ic dX12_span_15 rfl ?_
    refine E_callS (Y' := Y_X12_within) (as := [vI x2, vI 0, vI 1]) (st := []) dX12_span_16 lk_RX12_264 m_X12_within (by decide) (Nat.le_refl _) (Nat.le_refl _) rfl rfl (Nat.le_of_ble_eq_true rfl) (s_X12_within h) (fun r0 B0 σ_3 h => ?_)
    obtain ⟨r_4, rfl, rfl, h⟩ := h
    refine E_if_ne (tgt := 24) dX12_span_19 (by decide) (fun hc => ?_) (fun hc => ?_)
    · have h := Eq.mp (if_neg hc) h
      refine E_ic dX12_span_24 rfl ?_
      refine E_istore_n (ls' := [some (vR 12 0), some (vI x1), some (vI x2), some (vI (-1)), none, none]) dX12_span_25 rfl (by decide) rfl ?_
      refine E_ic dX12_span_26 rfl ?_
      refine E_istore (ls' := [some (vR 12 0), some (vI x1), some (vI x2), some (vI (-1)), some (vI (-1)), none]) dX12_span_27 (by decide) rfl ?_
      refine E_ic dX12_span_29 rfl ?_
      refine E_istore (ls' := [some (vR 12 0), some (vI x1), some (vI x2), some (vI (-1)), some (vI (-1)), some (vI 1)]) dX12_span_30 (by decide) rfl ?_
      refine e_P_X12_span_L32 ?_ _ _ _ _ _ h
      · intro x3_7 x4_8 σ_9 h
        refine E_iload_n dX12_span_69 rfl rfl ?_
        refine E_if_ne (tgt := 77) dX12_span_70 (by decide) (fun hc => ?_) (fun hc => ?_)
        · have h := Eq.mp (if_neg hc) h
          refine E_iload dX12_span_77 rfl ?_
          exact E_iret dX12_span_79 rfl ⟨_, rfl, rfl, h⟩
        · have h := Eq.mp (if_pos hc) h
          refine E_iload_n dX12_span_73 rfl rfl ?_
          refine E_goto (tgt := 79) dX12_span_74 (by decide) ?_
          exact E_iret dX12_span_79 rfl ⟨_, rfl, rfl, h⟩
    · have h := Eq.mp (if_pos hc) h
      refine E_ic dX12_span_22 rfl ?_
      exact E_iret dX12_span_23 rfl ⟨_, rfl, rfl, h⟩
abbrev Y_X12_idle : My := (yX12_idle, cX12_idle, 3, some .int)
theorem dX12_idle_0 : decode cX12_idle 0 = .ok (.aload_n 0, 1) := by decide +kernel
theorem dX12_idle_1 : decode cX12_idle 1 = .ok (.iconst 0, 1) := by decide +kernel
theorem dX12_idle_2 : decode cX12_idle 2 = .ok (.putfield 141, 3) := by decide +kernel
theorem dX12_idle_5 : decode cX12_idle 5 = .ok (.iconst 1, 1) := by decide +kernel
theorem dX12_idle_6 : decode cX12_idle 6 = .ok (.aload_n 0, 1) := by decide +kernel
theorem dX12_idle_7 : decode cX12_idle 7 = .ok (.getfield 13, 3) := by decide +kernel
theorem dX12_idle_10 : decode cX12_idle 10 = .ok (.iconst 0, 1) := by decide +kernel
theorem dX12_idle_11 : decode cX12_idle 11 = .ok (.iaload, 1) := by decide +kernel
theorem dX12_idle_12 : decode cX12_idle 12 = .ok (.ishl, 1) := by decide +kernel
theorem dX12_idle_13 : decode cX12_idle 13 = .ok (.iconst 1, 1) := by decide +kernel
theorem dX12_idle_14 : decode cX12_idle 14 = .ok (.isub, 1) := by decide +kernel
theorem dX12_idle_15 : decode cX12_idle 15 = .ok (.istore_n 1, 1) := by decide +kernel
theorem dX12_idle_16 : decode cX12_idle 16 = .ok (.iconst 1, 1) := by decide +kernel
theorem dX12_idle_17 : decode cX12_idle 17 = .ok (.istore_n 2, 1) := by decide +kernel
theorem dX12_idle_18 : decode cX12_idle 18 = .ok (.iload_n 2, 1) := by decide +kernel
theorem dX12_idle_19 : decode cX12_idle 19 = .ok (.bipush 60, 2) := by decide +kernel
theorem dX12_idle_21 : decode cX12_idle 21 = .ok (.if_icmp .gt 21, 3) := by decide +kernel
theorem dX12_idle_24 : decode cX12_idle 24 = .ok (.iload_n 1, 1) := by decide +kernel
theorem dX12_idle_25 : decode cX12_idle 25 = .ok (.iconst 1, 1) := by decide +kernel
theorem dX12_idle_26 : decode cX12_idle 26 = .ok (.aload_n 0, 1) := by decide +kernel
theorem dX12_idle_27 : decode cX12_idle 27 = .ok (.iload_n 2, 1) := by decide +kernel
theorem dX12_idle_28 : decode cX12_idle 28 = .ok (.invokevirtual 356, 3) := by decide +kernel
theorem dX12_idle_31 : decode cX12_idle 31 = .ok (.ishl, 1) := by decide +kernel
theorem dX12_idle_32 : decode cX12_idle 32 = .ok (.iconst (-1), 1) := by decide +kernel
theorem dX12_idle_33 : decode cX12_idle 33 = .ok (.ixor, 1) := by decide +kernel
theorem dX12_idle_34 : decode cX12_idle 34 = .ok (.iand, 1) := by decide +kernel
theorem dX12_idle_35 : decode cX12_idle 35 = .ok (.istore_n 1, 1) := by decide +kernel
theorem dX12_idle_36 : decode cX12_idle 36 = .ok (.iinc 2 1, 3) := by decide +kernel
theorem dX12_idle_39 : decode cX12_idle 39 = .ok (.goto (-21), 3) := by decide +kernel
theorem dX12_idle_42 : decode cX12_idle 42 = .ok (.iload_n 1, 1) := by decide +kernel
theorem dX12_idle_43 : decode cX12_idle 43 = .ok (.ireturn, 1) := by decide +kernel
def P_X12_idle_L18    (Q : Int → St → Prop) : Nat → Int → Int → St → Prop
  | 0, _, _, _ => False
  | n + 1, x1, x2, σ => (if 60 < x2 then Q x1 σ else P_X12_fallsBy x2 σ (fun r_2 σ_1 => (P_X12_idle_L18 Q n) (bA x1 (bX (bL 1 r_2) (-1))) (wi (x2 + 1)) σ_1))
set_option maxRecDepth 20000 in
set_option maxHeartbeats 2000000 in
theorem e_P_X12_idle_L18    {Q : Int → St → Prop}   : ∀ (n : Nat) (x1 : Int) (x2 : Int) (σ : St), P_X12_idle_L18 Q n x1 x2 σ → E Y_X12_idle 1 0 0 (QI Q) ww 0 0 18 [some (vR 12 0), some (vI x1), some (vI x2)] [] σ := by
  intro n
  induction n with
  | zero => intro x1 x2 σ h; exact h.elim
  | succ n hR =>
    intro x1 x2 σ h
    unfold P_X12_idle_L18 at h
    refine E_iload_n dX12_idle_18 rfl rfl ?_
    refine E_bp dX12_idle_19 rfl ?_
    refine E_icmp_gt (tgt := 42) dX12_idle_21 (by decide) (fun hc => ?_) (fun hc => ?_)
    · have h := Eq.mp (if_pos hc) h
      refine E_iload_n dX12_idle_42 rfl rfl ?_
      exact E_iret dX12_idle_43 rfl ⟨_, rfl, rfl, h⟩
    · have h := Eq.mp (if_neg hc) h
      refine E_iload_n dX12_idle_24 rfl rfl ?_
      refine E_ic dX12_idle_25 rfl ?_
      refine E_aload_n dX12_idle_26 rfl rfl ?_
      refine E_iload_n dX12_idle_27 rfl rfl ?_
      refine E_callV (Y' := Y_X12_fallsBy) (as := [vI x2]) (st := [vI 1, vI x1]) dX12_idle_28 lk_RX12_356 m_X12_fallsBy (by decide) (Nat.le_refl _) (Nat.le_refl _) rfl rfl (Nat.le_of_ble_eq_true rfl) (s_X12_fallsBy h) (fun r0 B0 σ_1 h => ?_)
      obtain ⟨r_2, rfl, rfl, h⟩ := h
      refine E_ishl dX12_idle_31 ?_
      refine E_ic dX12_idle_32 rfl ?_
      refine E_ixor dX12_idle_33 ?_
      refine E_iand dX12_idle_34 ?_
      refine E_istore_n (ls' := [some (vR 12 0), some (vI (bA x1 (bX (bL 1 r_2) (-1)))), some (vI x2)]) dX12_idle_35 rfl (by decide) rfl ?_
      refine E_iinc (ls' := [some (vR 12 0), some (vI (bA x1 (bX (bL 1 r_2) (-1)))), some (vI (wi (x2 + 1)))]) dX12_idle_36 rfl (by decide) rfl rfl ?_
      refine E_goto (tgt := 18) dX12_idle_39 (by decide) ?_
      exact hR _ _ _ h
def P_X12_idle   (σ : St) (Q : Int → St → Prop) : Prop :=
  P_X12_idle_L18 Q FU (wi ((bL 1 ((up σ 12 0 0 0) 1310 0 0)) - 1)) 1 (up σ 12 0 0 0)
set_option maxRecDepth 20000 in
set_option maxHeartbeats 2000000 in
theorem s_X12_idle    {σ : St} {Q : Int → St → Prop} (h : P_X12_idle  σ Q) : Cn Y_X12_idle 1 0 0 ww σ [vR 12 0] (QI Q) := by
  refine Cn_of [some (vR 12 0), none, none] (by decide) (Nat.le_of_ble_eq_true rfl) rfl ?_
  unfold P_X12_idle at h
  refine E_aload_n dX12_idle_0 rfl rfl ?_
  refine E_ic dX12_idle_1 rfl ?_
  refine E_puti dX12_idle_2 fl_RX12_141 rfl rfl rfl ?_
  refine E_ic dX12_idle_5 rfl ?_
  refine E_aload_n dX12_idle_6 rfl rfl ?_
  refine E_getr (i := 0) dX12_idle_7 fl_RX12_13 rfl rfl (go_12_10 _ _) ?_
  refine E_ic dX12_idle_10 rfl ?_
  refine E_iald dX12_idle_11 sh_1310 (by decide) (by decide) ?_
  refine E_ishl dX12_idle_12 ?_
  refine E_ic dX12_idle_13 rfl ?_
  refine E_isub dX12_idle_14 ?_
  refine E_istore_n (ls' := [some (vR 12 0), some (vI (wi ((bL 1 ((up σ 12 0 0 0) 1310 0 0)) - 1))), none]) dX12_idle_15 rfl (by decide) rfl ?_
  refine E_ic dX12_idle_16 rfl ?_
  refine E_istore_n (ls' := [some (vR 12 0), some (vI (wi ((bL 1 ((up σ 12 0 0 0) 1310 0 0)) - 1))), some (vI 1)]) dX12_idle_17 rfl (by decide) rfl ?_
  refine e_P_X12_idle_L18  _ _ _ _ h
abbrev Y_X12_lost : My := (yX12_lost, cX12_lost, 3, some .int)
theorem dX12_lost_0 : decode cX12_lost 0 = .ok (.aload_n 0, 1) := by decide +kernel
theorem dX12_lost_1 : decode cX12_lost 1 = .ok (.iconst 0, 1) := by decide +kernel
theorem dX12_lost_2 : decode cX12_lost 2 = .ok (.putfield 141, 3) := by decide +kernel
theorem dX12_lost_5 : decode cX12_lost 5 = .ok (.iconst 0, 1) := by decide +kernel
theorem dX12_lost_6 : decode cX12_lost 6 = .ok (.istore_n 1, 1) := by decide +kernel
theorem dX12_lost_7 : decode cX12_lost 7 = .ok (.iconst 0, 1) := by decide +kernel
theorem dX12_lost_8 : decode cX12_lost 8 = .ok (.istore_n 2, 1) := by decide +kernel
theorem dX12_lost_9 : decode cX12_lost 9 = .ok (.iload_n 2, 1) := by decide +kernel
theorem dX12_lost_10 : decode cX12_lost 10 = .ok (.aload_n 0, 1) := by decide +kernel
theorem dX12_lost_11 : decode cX12_lost 11 = .ok (.getfield 13, 3) := by decide +kernel
theorem dX12_lost_14 : decode cX12_lost 14 = .ok (.iconst 1, 1) := by decide +kernel
theorem dX12_lost_15 : decode cX12_lost 15 = .ok (.iaload, 1) := by decide +kernel
theorem dX12_lost_16 : decode cX12_lost 16 = .ok (.if_icmp .ge 29, 3) := by decide +kernel
theorem dX12_lost_19 : decode cX12_lost 19 = .ok (.iload_n 1, 1) := by decide +kernel
theorem dX12_lost_20 : decode cX12_lost 20 = .ok (.aload_n 0, 1) := by decide +kernel
theorem dX12_lost_21 : decode cX12_lost 21 = .ok (.iload_n 2, 1) := by decide +kernel
theorem dX12_lost_22 : decode cX12_lost 22 = .ok (.invokevirtual 366, 3) := by decide +kernel
theorem dX12_lost_25 : decode cX12_lost 25 = .ok (.bipush 6, 2) := by decide +kernel
theorem dX12_lost_27 : decode cX12_lost 27 = .ok (.if_icmp .ne 9, 3) := by decide +kernel
theorem dX12_lost_30 : decode cX12_lost 30 = .ok (.iconst 1, 1) := by decide +kernel
theorem dX12_lost_31 : decode cX12_lost 31 = .ok (.iload_n 2, 1) := by decide +kernel
theorem dX12_lost_32 : decode cX12_lost 32 = .ok (.ishl, 1) := by decide +kernel
theorem dX12_lost_33 : decode cX12_lost 33 = .ok (.goto 4, 3) := by decide +kernel
theorem dX12_lost_36 : decode cX12_lost 36 = .ok (.iconst 0, 1) := by decide +kernel
theorem dX12_lost_37 : decode cX12_lost 37 = .ok (.ior, 1) := by decide +kernel
theorem dX12_lost_38 : decode cX12_lost 38 = .ok (.istore_n 1, 1) := by decide +kernel
theorem dX12_lost_39 : decode cX12_lost 39 = .ok (.iinc 2 1, 3) := by decide +kernel
theorem dX12_lost_42 : decode cX12_lost 42 = .ok (.goto (-33), 3) := by decide +kernel
theorem dX12_lost_45 : decode cX12_lost 45 = .ok (.iload_n 1, 1) := by decide +kernel
theorem dX12_lost_46 : decode cX12_lost 46 = .ok (.ireturn, 1) := by decide +kernel
def P_X12_lost_L9    (Q : Int → St → Prop) : Nat → Int → Int → St → Prop
  | 0, _, _, _ => False
  | n + 1, x1, x2, σ => (if (σ 1310 0 1) ≤ x2 then Q x1 σ else P_X12_fallOf x2 σ (fun r_2 σ_1 => (if r_2 = 6 then (P_X12_lost_L9 Q n) (bO x1 (bL 1 x2)) (wi (x2 + 1)) σ_1 else (P_X12_lost_L9 Q n) (bO x1 0) (wi (x2 + 1)) σ_1)))
set_option maxRecDepth 20000 in
set_option maxHeartbeats 2000000 in
theorem e_P_X12_lost_L9    {Q : Int → St → Prop}   : ∀ (n : Nat) (x1 : Int) (x2 : Int) (σ : St), P_X12_lost_L9 Q n x1 x2 σ → E Y_X12_lost 2 0 0 (QI Q) ww 0 0 9 [some (vR 12 0), some (vI x1), some (vI x2)] [] σ := by
  intro n
  induction n with
  | zero => intro x1 x2 σ h; exact h.elim
  | succ n hR =>
    intro x1 x2 σ h
    unfold P_X12_lost_L9 at h
    refine E_iload_n dX12_lost_9 rfl rfl ?_
    refine E_aload_n dX12_lost_10 rfl rfl ?_
    refine E_getr (i := 0) dX12_lost_11 fl_RX12_13 rfl rfl (go_12_10 _ _) ?_
    refine E_ic dX12_lost_14 rfl ?_
    refine E_iald dX12_lost_15 sh_1310 (by decide) (by decide) ?_
    refine E_icmp_ge (tgt := 45) dX12_lost_16 (by decide) (fun hc => ?_) (fun hc => ?_)
    · have h := Eq.mp (if_pos hc) h
      refine E_iload_n dX12_lost_45 rfl rfl ?_
      exact E_iret dX12_lost_46 rfl ⟨_, rfl, rfl, h⟩
    · have h := Eq.mp (if_neg hc) h
      refine E_iload_n dX12_lost_19 rfl rfl ?_
      refine E_aload_n dX12_lost_20 rfl rfl ?_
      refine E_iload_n dX12_lost_21 rfl rfl ?_
      refine E_callV (Y' := Y_X12_fallOf) (as := [vI x2]) (st := [vI x1]) dX12_lost_22 lk_RX12_366 m_X12_fallOf (by decide) (Nat.le_refl _) (Nat.le_refl _) rfl rfl (Nat.le_of_ble_eq_true rfl) (s_X12_fallOf h) (fun r0 B0 σ_1 h => ?_)
      obtain ⟨r_2, rfl, rfl, h⟩ := h
      refine E_bp dX12_lost_25 rfl ?_
      refine E_icmp_ne (tgt := 36) dX12_lost_27 (by decide) (fun hc => ?_) (fun hc => ?_)
      · have h := Eq.mp (if_neg hc) h
        refine E_ic dX12_lost_36 rfl ?_
        refine E_ior dX12_lost_37 ?_
        refine E_istore_n (ls' := [some (vR 12 0), some (vI (bO x1 0)), some (vI x2)]) dX12_lost_38 rfl (by decide) rfl ?_
        refine E_iinc (ls' := [some (vR 12 0), some (vI (bO x1 0)), some (vI (wi (x2 + 1)))]) dX12_lost_39 rfl (by decide) rfl rfl ?_
        refine E_goto (tgt := 9) dX12_lost_42 (by decide) ?_
        exact hR _ _ _ h
      · have h := Eq.mp (if_pos hc) h
        refine E_ic dX12_lost_30 rfl ?_
        refine E_iload_n dX12_lost_31 rfl rfl ?_
        refine E_ishl dX12_lost_32 ?_
        refine E_goto (tgt := 37) dX12_lost_33 (by decide) ?_
        refine E_ior dX12_lost_37 ?_
        refine E_istore_n (ls' := [some (vR 12 0), some (vI (bO x1 (bL 1 x2))), some (vI x2)]) dX12_lost_38 rfl (by decide) rfl ?_
        refine E_iinc (ls' := [some (vR 12 0), some (vI (bO x1 (bL 1 x2))), some (vI (wi (x2 + 1)))]) dX12_lost_39 rfl (by decide) rfl rfl ?_
        refine E_goto (tgt := 9) dX12_lost_42 (by decide) ?_
        exact hR _ _ _ h
def P_X12_lost   (σ : St) (Q : Int → St → Prop) : Prop :=
  P_X12_lost_L9 Q FU 0 0 (up σ 12 0 0 0)
set_option maxRecDepth 20000 in
set_option maxHeartbeats 2000000 in
theorem s_X12_lost    {σ : St} {Q : Int → St → Prop} (h : P_X12_lost  σ Q) : Cn Y_X12_lost 2 0 0 ww σ [vR 12 0] (QI Q) := by
  refine Cn_of [some (vR 12 0), none, none] (by decide) (Nat.le_of_ble_eq_true rfl) rfl ?_
  unfold P_X12_lost at h
  refine E_aload_n dX12_lost_0 rfl rfl ?_
  refine E_ic dX12_lost_1 rfl ?_
  refine E_puti dX12_lost_2 fl_RX12_141 rfl rfl rfl ?_
  refine E_ic dX12_lost_5 rfl ?_
  refine E_istore_n (ls' := [some (vR 12 0), some (vI 0), none]) dX12_lost_6 rfl (by decide) rfl ?_
  refine E_ic dX12_lost_7 rfl ?_
  refine E_istore_n (ls' := [some (vR 12 0), some (vI 0), some (vI 0)]) dX12_lost_8 rfl (by decide) rfl ?_
  refine e_P_X12_lost_L9  _ _ _ _ h
abbrev Y_X12_twins : My := (yX12_twins, cX12_twins, 4, some .int)
theorem dX12_twins_0 : decode cX12_twins 0 = .ok (.aload_n 0, 1) := by decide +kernel
theorem dX12_twins_1 : decode cX12_twins 1 = .ok (.iconst 0, 1) := by decide +kernel
theorem dX12_twins_2 : decode cX12_twins 2 = .ok (.putfield 141, 3) := by decide +kernel
theorem dX12_twins_5 : decode cX12_twins 5 = .ok (.iconst 0, 1) := by decide +kernel
theorem dX12_twins_6 : decode cX12_twins 6 = .ok (.istore_n 1, 1) := by decide +kernel
theorem dX12_twins_7 : decode cX12_twins 7 = .ok (.iconst 0, 1) := by decide +kernel
theorem dX12_twins_8 : decode cX12_twins 8 = .ok (.istore_n 2, 1) := by decide +kernel
theorem dX12_twins_9 : decode cX12_twins 9 = .ok (.iload_n 2, 1) := by decide +kernel
theorem dX12_twins_10 : decode cX12_twins 10 = .ok (.aload_n 0, 1) := by decide +kernel
theorem dX12_twins_11 : decode cX12_twins 11 = .ok (.getfield 13, 3) := by decide +kernel
theorem dX12_twins_14 : decode cX12_twins 14 = .ok (.iconst 1, 1) := by decide +kernel
theorem dX12_twins_15 : decode cX12_twins 15 = .ok (.iaload, 1) := by decide +kernel
theorem dX12_twins_16 : decode cX12_twins 16 = .ok (.if_icmp .ge 53, 3) := by decide +kernel
theorem dX12_twins_19 : decode cX12_twins 19 = .ok (.iconst 0, 1) := by decide +kernel
theorem dX12_twins_20 : decode cX12_twins 20 = .ok (.istore_n 3, 1) := by decide +kernel
theorem dX12_twins_21 : decode cX12_twins 21 = .ok (.iload_n 3, 1) := by decide +kernel
theorem dX12_twins_22 : decode cX12_twins 22 = .ok (.iload_n 2, 1) := by decide +kernel
theorem dX12_twins_23 : decode cX12_twins 23 = .ok (.if_icmp .ge 40, 3) := by decide +kernel
theorem dX12_twins_26 : decode cX12_twins 26 = .ok (.iload_n 1, 1) := by decide +kernel
theorem dX12_twins_27 : decode cX12_twins 27 = .ok (.aload_n 0, 1) := by decide +kernel
theorem dX12_twins_28 : decode cX12_twins 28 = .ok (.iload_n 2, 1) := by decide +kernel
theorem dX12_twins_29 : decode cX12_twins 29 = .ok (.invokevirtual 366, 3) := by decide +kernel
theorem dX12_twins_32 : decode cX12_twins 32 = .ok (.bipush 6, 2) := by decide +kernel
theorem dX12_twins_34 : decode cX12_twins 34 = .ok (.if_icmp .ge 20, 3) := by decide +kernel
theorem dX12_twins_37 : decode cX12_twins 37 = .ok (.aload_n 0, 1) := by decide +kernel
theorem dX12_twins_38 : decode cX12_twins 38 = .ok (.iload_n 2, 1) := by decide +kernel
theorem dX12_twins_39 : decode cX12_twins 39 = .ok (.invokevirtual 366, 3) := by decide +kernel
theorem dX12_twins_42 : decode cX12_twins 42 = .ok (.aload_n 0, 1) := by decide +kernel
theorem dX12_twins_43 : decode cX12_twins 43 = .ok (.iload_n 3, 1) := by decide +kernel
theorem dX12_twins_44 : decode cX12_twins 44 = .ok (.invokevirtual 366, 3) := by decide +kernel
theorem dX12_twins_47 : decode cX12_twins 47 = .ok (.if_icmp .ne 7, 3) := by decide +kernel
theorem dX12_twins_50 : decode cX12_twins 50 = .ok (.iconst 1, 1) := by decide +kernel
theorem dX12_twins_51 : decode cX12_twins 51 = .ok (.goto 4, 3) := by decide +kernel
theorem dX12_twins_54 : decode cX12_twins 54 = .ok (.iconst 0, 1) := by decide +kernel
theorem dX12_twins_55 : decode cX12_twins 55 = .ok (.iadd, 1) := by decide +kernel
theorem dX12_twins_56 : decode cX12_twins 56 = .ok (.istore_n 1, 1) := by decide +kernel
theorem dX12_twins_57 : decode cX12_twins 57 = .ok (.iinc 3 1, 3) := by decide +kernel
theorem dX12_twins_60 : decode cX12_twins 60 = .ok (.goto (-39), 3) := by decide +kernel
theorem dX12_twins_63 : decode cX12_twins 63 = .ok (.iinc 2 1, 3) := by decide +kernel
theorem dX12_twins_66 : decode cX12_twins 66 = .ok (.goto (-57), 3) := by decide +kernel
theorem dX12_twins_69 : decode cX12_twins 69 = .ok (.iload_n 1, 1) := by decide +kernel
theorem dX12_twins_70 : decode cX12_twins 70 = .ok (.ireturn, 1) := by decide +kernel
def P_X12_twins_J54  (x2 : Int) (x3 : Int) (y0 : Int) (R : Int → Int → St → Prop) (K : Int → St → Prop) (Q : Int → St → Prop) (σ : St) : Prop :=
  R (wi (y0 + 0)) (wi (x3 + 1)) σ
set_option maxRecDepth 20000 in
set_option maxHeartbeats 2000000 in
theorem e_P_X12_twins_J54  {x2 : Int} {x3 : Int} {y0 : Int} {R : Int → Int → St → Prop} {K : Int → St → Prop} {Q : Int → St → Prop} {σ : St}  (hR : ∀ x1 x3 σ, R x1 x3 σ → E Y_X12_twins 2 0 0 (QI Q) ww 0 0 21 [some (vR 12 0), some (vI x1), some (vI x2), some (vI x3)] [] σ) (hK : ∀ x1 σ, K x1 σ → E Y_X12_twins 2 0 0 (QI Q) ww 0 0 63 [some (vR 12 0), some (vI x1), some (vI x2), none] [] σ) (h : P_X12_twins_J54 x2 x3 y0 R K Q σ) : E Y_X12_twins 2 0 0 (QI Q) ww 0 0 54 [some (vR 12 0), none, some (vI x2), some (vI x3)] [vI y0] σ := by
  unfold P_X12_twins_J54 at h
  refine E_ic dX12_twins_54 rfl ?_
  refine E_iadd dX12_twins_55 ?_
  refine E_istore_n (ls' := [some (vR 12 0), some (vI (wi (y0 + 0))), some (vI x2), some (vI x3)]) dX12_twins_56 rfl (by decide) rfl ?_
  refine E_iinc (ls' := [some (vR 12 0), some (vI (wi (y0 + 0))), some (vI x2), some (vI (wi (x3 + 1)))]) dX12_twins_57 rfl (by decide) rfl rfl ?_
  refine E_goto (tgt := 21) dX12_twins_60 (by decide) ?_
  exact hR _ _ _ h
def P_X12_twins_L21  (x2 : Int) (K : Int → St → Prop) (Q : Int → St → Prop) : Nat → Int → Int → St → Prop
  | 0, _, _, _ => False
  | n + 1, x1, x3, σ => (if x2 ≤ x3 then K x1 σ else P_X12_fallOf x2 σ (fun r_2 σ_1 => (if 6 ≤ r_2 then P_X12_twins_J54 x2 x3 x1 (P_X12_twins_L21 x2 K Q n) K Q σ_1 else P_X12_fallOf x2 σ_1 (fun r_4 σ_3 => P_X12_fallOf x3 σ_3 (fun r_6 σ_5 => (if r_4 = r_6 then (P_X12_twins_L21 x2 K Q n) (wi (x1 + 1)) (wi (x3 + 1)) σ_5 else P_X12_twins_J54 x2 x3 x1 (P_X12_twins_L21 x2 K Q n) K Q σ_5))))))
set_option maxRecDepth 20000 in
set_option maxHeartbeats 2000000 in
theorem e_P_X12_twins_L21  {x2 : Int} {K : Int → St → Prop} {Q : Int → St → Prop}  (hK : ∀ x1 σ, K x1 σ → E Y_X12_twins 2 0 0 (QI Q) ww 0 0 63 [some (vR 12 0), some (vI x1), some (vI x2), none] [] σ) : ∀ (n : Nat) (x1 : Int) (x3 : Int) (σ : St), P_X12_twins_L21 x2 K Q n x1 x3 σ → E Y_X12_twins 2 0 0 (QI Q) ww 0 0 21 [some (vR 12 0), some (vI x1), some (vI x2), some (vI x3)] [] σ := by
  intro n
  induction n with
  | zero => intro x1 x3 σ h; exact h.elim
  | succ n hR =>
    intro x1 x3 σ h
    unfold P_X12_twins_L21 at h
    refine E_iload_n dX12_twins_21 rfl rfl ?_
    refine E_iload_n dX12_twins_22 rfl rfl ?_
    refine E_icmp_ge (tgt := 63) dX12_twins_23 (by decide) (fun hc => ?_) (fun hc => ?_)
    · have h := Eq.mp (if_pos hc) h
      refine E_wk2 [some (vR 12 0), some (vI x1), some (vI x2), none] ⟨rfl, ⟨rfl, ⟨rfl, trivial⟩⟩⟩ ?_
      exact hK _ _ h
    · have h := Eq.mp (if_neg hc) h
      refine E_iload_n dX12_twins_26 rfl rfl ?_
      refine E_aload_n dX12_twins_27 rfl rfl ?_
      refine E_iload_n dX12_twins_28 rfl rfl ?_
      refine E_callV (Y' := Y_X12_fallOf) (as := [vI x2]) (st := [vI x1]) dX12_twins_29 lk_RX12_366 m_X12_fallOf (by decide) (Nat.le_refl _) (Nat.le_refl _) rfl rfl (Nat.le_of_ble_eq_true rfl) (s_X12_fallOf h) (fun r0 B0 σ_1 h => ?_)
      obtain ⟨r_2, rfl, rfl, h⟩ := h
      refine E_bp dX12_twins_32 rfl ?_
      refine E_icmp_ge (tgt := 54) dX12_twins_34 (by decide) (fun hc => ?_) (fun hc => ?_)
      · have h := Eq.mp (if_pos hc) h
        refine E_wk2 [some (vR 12 0), none, some (vI x2), some (vI x3)] ⟨rfl, ⟨rfl, ⟨rfl, trivial⟩⟩⟩ ?_
        exact e_P_X12_twins_J54 hR hK h
      · have h := Eq.mp (if_neg hc) h
        refine E_aload_n dX12_twins_37 rfl rfl ?_
        refine E_iload_n dX12_twins_38 rfl rfl ?_
        refine E_callV (Y' := Y_X12_fallOf) (as := [vI x2]) (st := [vI x1]) dX12_twins_39 lk_RX12_366 m_X12_fallOf (by decide) (Nat.le_refl _) (Nat.le_refl _) rfl rfl (Nat.le_of_ble_eq_true rfl) (s_X12_fallOf h) (fun r0 B0 σ_3 h => ?_)
        obtain ⟨r_4, rfl, rfl, h⟩ := h
        refine E_aload_n dX12_twins_42 rfl rfl ?_
        refine E_iload_n dX12_twins_43 rfl rfl ?_
        refine E_callV (Y' := Y_X12_fallOf) (as := [vI x3]) (st := [vI r_4, vI x1]) dX12_twins_44 lk_RX12_366 m_X12_fallOf (by decide) (Nat.le_refl _) (Nat.le_refl _) rfl rfl (Nat.le_of_ble_eq_true rfl) (s_X12_fallOf h) (fun r0 B0 σ_5 h => ?_)
        obtain ⟨r_6, rfl, rfl, h⟩ := h
        refine E_icmp_ne (tgt := 54) dX12_twins_47 (by decide) (fun hc => ?_) (fun hc => ?_)
        · have h := Eq.mp (if_neg hc) h
          refine E_wk2 [some (vR 12 0), none, some (vI x2), some (vI x3)] ⟨rfl, ⟨rfl, ⟨rfl, trivial⟩⟩⟩ ?_
          exact e_P_X12_twins_J54 hR hK h
        · have h := Eq.mp (if_pos hc) h
          refine E_ic dX12_twins_50 rfl ?_
          refine E_goto (tgt := 55) dX12_twins_51 (by decide) ?_
          refine E_iadd dX12_twins_55 ?_
          refine E_istore_n (ls' := [some (vR 12 0), some (vI (wi (x1 + 1))), some (vI x2), some (vI x3)]) dX12_twins_56 rfl (by decide) rfl ?_
          refine E_iinc (ls' := [some (vR 12 0), some (vI (wi (x1 + 1))), some (vI x2), some (vI (wi (x3 + 1)))]) dX12_twins_57 rfl (by decide) rfl rfl ?_
          refine E_goto (tgt := 21) dX12_twins_60 (by decide) ?_
          exact hR _ _ _ h
def P_X12_twins_L9    (Q : Int → St → Prop) : Nat → Int → Int → St → Prop
  | 0, _, _, _ => False
  | n + 1, x1, x2, σ => (if (σ 1310 0 1) ≤ x2 then Q x1 σ else P_X12_twins_L21 x2 (fun x1_7 σ_8 => (P_X12_twins_L9 Q n) x1_7 (wi (x2 + 1)) σ_8) Q FU x1 0 σ)
set_option maxRecDepth 20000 in
set_option maxHeartbeats 2000000 in
theorem e_P_X12_twins_L9    {Q : Int → St → Prop}   : ∀ (n : Nat) (x1 : Int) (x2 : Int) (σ : St), P_X12_twins_L9 Q n x1 x2 σ → E Y_X12_twins 2 0 0 (QI Q) ww 0 0 9 [some (vR 12 0), some (vI x1), some (vI x2), none] [] σ := by
  intro n
  induction n with
  | zero => intro x1 x2 σ h; exact h.elim
  | succ n hR =>
    intro x1 x2 σ h
    unfold P_X12_twins_L9 at h
    refine E_iload_n dX12_twins_9 rfl rfl ?_
    refine E_aload_n dX12_twins_10 rfl rfl ?_
    refine E_getr (i := 0) dX12_twins_11 fl_RX12_13 rfl rfl (go_12_10 _ _) ?_
    refine E_ic dX12_twins_14 rfl ?_
    refine E_iald dX12_twins_15 sh_1310 (by decide) (by decide) ?_
    refine E_icmp_ge (tgt := 69) dX12_twins_16 (by decide) (fun hc => ?_) (fun hc => ?_)
    · have h := Eq.mp (if_pos hc) h
      refine E_iload_n dX12_twins_69 rfl rfl ?_
      exact E_iret dX12_twins_70 rfl ⟨_, rfl, rfl, h⟩
    · have h := Eq.mp (if_neg hc) h
      refine E_ic dX12_twins_19 rfl ?_
      refine E_istore_n (ls' := [some (vR 12 0), some (vI x1), some (vI x2), some (vI 0)]) dX12_twins_20 rfl (by decide) rfl ?_
      refine e_P_X12_twins_L21 ?_ _ _ _ _ h
      · intro x1_7 σ_8 h
        refine E_iinc (ls' := [some (vR 12 0), some (vI x1_7), some (vI (wi (x2 + 1))), none]) dX12_twins_63 rfl (by decide) rfl rfl ?_
        refine E_goto (tgt := 9) dX12_twins_66 (by decide) ?_
        exact hR _ _ _ h
def P_X12_twins   (σ : St) (Q : Int → St → Prop) : Prop :=
  P_X12_twins_L9 Q FU 0 0 (up σ 12 0 0 0)
set_option maxRecDepth 20000 in
set_option maxHeartbeats 2000000 in
theorem s_X12_twins    {σ : St} {Q : Int → St → Prop} (h : P_X12_twins  σ Q) : Cn Y_X12_twins 2 0 0 ww σ [vR 12 0] (QI Q) := by
  refine Cn_of [some (vR 12 0), none, none, none] (by decide) (Nat.le_of_ble_eq_true rfl) rfl ?_
  unfold P_X12_twins at h
  refine E_aload_n dX12_twins_0 rfl rfl ?_
  refine E_ic dX12_twins_1 rfl ?_
  refine E_puti dX12_twins_2 fl_RX12_141 rfl rfl rfl ?_
  refine E_ic dX12_twins_5 rfl ?_
  refine E_istore_n (ls' := [some (vR 12 0), some (vI 0), none, none]) dX12_twins_6 rfl (by decide) rfl ?_
  refine E_ic dX12_twins_7 rfl ?_
  refine E_istore_n (ls' := [some (vR 12 0), some (vI 0), some (vI 0), none]) dX12_twins_8 rfl (by decide) rfl ?_
  refine e_P_X12_twins_L9  _ _ _ _ h
