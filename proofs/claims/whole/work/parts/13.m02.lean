abbrev Y_X9_allSizes : My := (yX9_allSizes, cX9_allSizes, 3, some .int)
theorem dX9_allSizes_0 : decode cX9_allSizes 0 = .ok (.iconst 0, 1) := by decide +kernel
theorem dX9_allSizes_1 : decode cX9_allSizes 1 = .ok (.istore_n 1, 1) := by decide +kernel
theorem dX9_allSizes_2 : decode cX9_allSizes 2 = .ok (.iconst 0, 1) := by decide +kernel
theorem dX9_allSizes_3 : decode cX9_allSizes 3 = .ok (.istore_n 2, 1) := by decide +kernel
theorem dX9_allSizes_4 : decode cX9_allSizes 4 = .ok (.iload_n 2, 1) := by decide +kernel
theorem dX9_allSizes_5 : decode cX9_allSizes 5 = .ok (.aload_n 0, 1) := by decide +kernel
theorem dX9_allSizes_6 : decode cX9_allSizes 6 = .ok (.getfield 49, 3) := by decide +kernel
theorem dX9_allSizes_9 : decode cX9_allSizes 9 = .ok (.getfield 59, 3) := by decide +kernel
theorem dX9_allSizes_12 : decode cX9_allSizes 12 = .ok (.if_icmp .ge 18, 3) := by decide +kernel
theorem dX9_allSizes_15 : decode cX9_allSizes 15 = .ok (.iload_n 1, 1) := by decide +kernel
theorem dX9_allSizes_16 : decode cX9_allSizes 16 = .ok (.aload_n 0, 1) := by decide +kernel
theorem dX9_allSizes_17 : decode cX9_allSizes 17 = .ok (.getfield 15, 3) := by decide +kernel
theorem dX9_allSizes_20 : decode cX9_allSizes 20 = .ok (.iload_n 2, 1) := by decide +kernel
theorem dX9_allSizes_21 : decode cX9_allSizes 21 = .ok (.iaload, 1) := by decide +kernel
theorem dX9_allSizes_22 : decode cX9_allSizes 22 = .ok (.iadd, 1) := by decide +kernel
theorem dX9_allSizes_23 : decode cX9_allSizes 23 = .ok (.istore_n 1, 1) := by decide +kernel
theorem dX9_allSizes_24 : decode cX9_allSizes 24 = .ok (.iinc 2 1, 3) := by decide +kernel
theorem dX9_allSizes_27 : decode cX9_allSizes 27 = .ok (.goto (-23), 3) := by decide +kernel
theorem dX9_allSizes_30 : decode cX9_allSizes 30 = .ok (.iload_n 1, 1) := by decide +kernel
theorem dX9_allSizes_31 : decode cX9_allSizes 31 = .ok (.ireturn, 1) := by decide +kernel
def P_X9_allSizes_L4 (o0 : Nat)  (Q : Int → St → Prop) : Nat → Int → Int → St → Prop
  | 0, _, _, _ => False
  | n + 1, x1, x2, σ => (if (σ 8 0 11) ≤ x2 then Q x1 σ else 0 ≤ x2 ∧ x2 < 6 ∧ (P_X9_allSizes_L4 o0 Q n) (wi (x1 + (σ 1002 o0 x2))) (wi (x2 + 1)) σ)
set_option maxRecDepth 20000 in
set_option maxHeartbeats 2000000 in
theorem e_P_X9_allSizes_L4 {o0 : Nat}  {Q : Int → St → Prop}  : ∀ (n : Nat) (x1 : Int) (x2 : Int) (σ : St), P_X9_allSizes_L4 o0 Q n x1 x2 σ → E Y_X9_allSizes 0 0 0 (QI Q) ww 0 0 4 [some (vR 9 o0), some (vI x1), some (vI x2)] [] σ := by
  intro n
  induction n with
  | zero => intro x1 x2 σ h; exact h.elim
  | succ n hR =>
    intro x1 x2 σ h
    unfold P_X9_allSizes_L4 at h
    refine E_iload_n dX9_allSizes_4 rfl rfl ?_
    refine E_aload_n dX9_allSizes_5 rfl rfl ?_
    refine E_getr (i := o0) dX9_allSizes_6 fl_RX9_49 rfl rfl (go_9_0 _ _) ?_
    refine E_geti (i := 0) dX9_allSizes_9 fl_RX9_59 rfl ?_
    refine E_icmp_ge (tgt := 30) dX9_allSizes_12 (by decide) (fun hc => ?_) (fun hc => ?_)
    · have h := Eq.mp (if_pos hc) h
      refine E_iload_n dX9_allSizes_30 rfl rfl ?_
      exact E_iret dX9_allSizes_31 rfl ⟨_, rfl, rfl, h⟩
    · have h := Eq.mp (if_neg hc) h
      refine E_iload_n dX9_allSizes_15 rfl rfl ?_
      refine E_aload_n dX9_allSizes_16 rfl rfl ?_
      refine E_getr (i := o0) dX9_allSizes_17 fl_RX9_15 rfl rfl (go_9_2 _ _) ?_
      refine E_iload_n dX9_allSizes_20 rfl rfl ?_
      obtain ⟨hg0, hg1, h⟩ := h
      refine E_iald dX9_allSizes_21 sh_1002 hg0 hg1 ?_
      refine E_iadd dX9_allSizes_22 ?_
      refine E_istore_n (ls' := [some (vR 9 o0), some (vI (wi (x1 + (σ 1002 o0 x2)))), some (vI x2)]) dX9_allSizes_23 rfl (by decide) rfl ?_
      refine E_iinc (ls' := [some (vR 9 o0), some (vI (wi (x1 + (σ 1002 o0 x2)))), some (vI (wi (x2 + 1)))]) dX9_allSizes_24 rfl (by decide) rfl rfl ?_
      refine E_goto (tgt := 4) dX9_allSizes_27 (by decide) ?_
      exact hR _ _ _ h
def P_X9_allSizes (o0 : Nat) (σ : St) (Q : Int → St → Prop) : Prop :=
  P_X9_allSizes_L4 o0 Q FU 0 0 σ
set_option maxRecDepth 20000 in
set_option maxHeartbeats 2000000 in
theorem s_X9_allSizes {o0 : Nat} {σ : St} {Q : Int → St → Prop} (h : P_X9_allSizes o0 σ Q) : Cn Y_X9_allSizes 0 0 0 ww σ [vR 9 o0] (QI Q) := by
  refine Cn_of [some (vR 9 o0), none, none] (by decide) (Nat.le_of_ble_eq_true rfl) rfl ?_
  unfold P_X9_allSizes at h
  refine E_ic dX9_allSizes_0 rfl ?_
  refine E_istore_n (ls' := [some (vR 9 o0), some (vI 0), none]) dX9_allSizes_1 rfl (by decide) rfl ?_
  refine E_ic dX9_allSizes_2 rfl ?_
  refine E_istore_n (ls' := [some (vR 9 o0), some (vI 0), some (vI 0)]) dX9_allSizes_3 rfl (by decide) rfl ?_
  refine e_P_X9_allSizes_L4  _ _ _ _ h
abbrev Y_X9_canSend : My := (yX9_canSend, cX9_canSend, 2, some .boolean)
theorem dX9_canSend_0 : decode cX9_canSend 0 = .ok (.aload_n 0, 1) := by decide +kernel
theorem dX9_canSend_1 : decode cX9_canSend 1 = .ok (.getfield 49, 3) := by decide +kernel
theorem dX9_canSend_4 : decode cX9_canSend 4 = .ok (.iload_n 1, 1) := by decide +kernel
theorem dX9_canSend_5 : decode cX9_canSend 5 = .ok (.invokevirtual 76, 3) := by decide +kernel
theorem dX9_canSend_8 : decode cX9_canSend 8 = .ok (.ifCond .eq 27, 3) := by decide +kernel
theorem dX9_canSend_11 : decode cX9_canSend 11 = .ok (.aload_n 0, 1) := by decide +kernel
theorem dX9_canSend_12 : decode cX9_canSend 12 = .ok (.getfield 21, 3) := by decide +kernel
theorem dX9_canSend_15 : decode cX9_canSend 15 = .ok (.iload_n 1, 1) := by decide +kernel
theorem dX9_canSend_16 : decode cX9_canSend 16 = .ok (.iaload, 1) := by decide +kernel
theorem dX9_canSend_17 : decode cX9_canSend 17 = .ok (.ifCond .ne 18, 3) := by decide +kernel
theorem dX9_canSend_20 : decode cX9_canSend 20 = .ok (.aload_n 0, 1) := by decide +kernel
theorem dX9_canSend_21 : decode cX9_canSend 21 = .ok (.getfield 18, 3) := by decide +kernel
theorem dX9_canSend_24 : decode cX9_canSend 24 = .ok (.iload_n 1, 1) := by decide +kernel
theorem dX9_canSend_25 : decode cX9_canSend 25 = .ok (.iaload, 1) := by decide +kernel
theorem dX9_canSend_26 : decode cX9_canSend 26 = .ok (.bipush 6, 2) := by decide +kernel
theorem dX9_canSend_28 : decode cX9_canSend 28 = .ok (.if_icmp .eq 7, 3) := by decide +kernel
theorem dX9_canSend_31 : decode cX9_canSend 31 = .ok (.iconst 1, 1) := by decide +kernel
theorem dX9_canSend_32 : decode cX9_canSend 32 = .ok (.goto 4, 3) := by decide +kernel
theorem dX9_canSend_35 : decode cX9_canSend 35 = .ok (.iconst 0, 1) := by decide +kernel
theorem dX9_canSend_36 : decode cX9_canSend 36 = .ok (.ireturn, 1) := by decide +kernel
theorem lk_RX9_76 : Cond.methodLink RX9 76 yX8_hasBall ∈ tG := inG (i := 911) (by decide +kernel) (by decide +kernel)
theorem m_X8_hasBall : MV Y_X8_hasBall 1 8 := ⟨⟨inG (i := 902) (by decide +kernel) (by decide +kernel), inG (i := 100) (by decide +kernel) (by decide +kernel), by decide, by decide, by decide, by decide +kernel⟩, inG (i := 900) (by decide +kernel) (by decide +kernel), inG (i := 901) (by decide +kernel) (by decide +kernel), by decide⟩
def P_X9_canSend_J35   (Q : Int → St → Prop) (σ : St) : Prop :=
  Q 0 σ
set_option maxRecDepth 20000 in
set_option maxHeartbeats 2000000 in
theorem e_P_X9_canSend_J35   {Q : Int → St → Prop} {σ : St}  (h : P_X9_canSend_J35  Q σ) : E Y_X9_canSend 1 0 0 (QI Q) ww 0 0 35 [none, none] [] σ := by
  unfold P_X9_canSend_J35 at h
  refine E_ic dX9_canSend_35 rfl ?_
  exact E_zret dX9_canSend_36 rfl (by decide) ⟨_, rfl, rfl, h⟩
def P_X9_canSend (o0 : Nat) (x1 : Int) (σ : St) (Q : Int → St → Prop) : Prop :=
  P_X8_hasBall 0 x1 σ (fun r_2 σ_1 => (if r_2 = 0 then P_X9_canSend_J35 Q σ_1 else 0 ≤ x1 ∧ x1 < 6 ∧ (if (σ_1 1004 o0 x1) = 0 then 0 ≤ x1 ∧ x1 < 6 ∧ (if (σ_1 1003 o0 x1) = 6 then P_X9_canSend_J35 Q σ_1 else Q 1 σ_1) else P_X9_canSend_J35 Q σ_1)))
set_option maxRecDepth 20000 in
set_option maxHeartbeats 2000000 in
theorem s_X9_canSend {o0 : Nat} {x1 : Int} {σ : St} {Q : Int → St → Prop} (h : P_X9_canSend o0 x1 σ Q) : Cn Y_X9_canSend 1 0 0 ww σ [vR 9 o0, vI x1] (QI Q) := by
  refine Cn_of [some (vR 9 o0), some (vI x1)] (by decide) (Nat.le_of_ble_eq_true rfl) rfl ?_
  unfold P_X9_canSend at h
  refine E_aload_n dX9_canSend_0 rfl rfl ?_
  refine E_getr (i := o0) dX9_canSend_1 fl_RX9_49 rfl rfl (go_9_0 _ _) ?_
  refine E_iload_n dX9_canSend_4 rfl rfl ?_
  refine E_callV (Y' := Y_X8_hasBall) (as := [vI x1]) (st := []) dX9_canSend_5 lk_RX9_76 m_X8_hasBall (by decide) (Nat.le_refl _) (Nat.le_refl _) rfl rfl (Nat.le_of_ble_eq_true rfl) (s_X8_hasBall h) (fun r0 B0 σ_1 h => ?_)
  obtain ⟨r_2, rfl, rfl, h⟩ := h
  refine E_if_eq (tgt := 35) dX9_canSend_8 (by decide) (fun hc => ?_) (fun hc => ?_)
  · have h := Eq.mp (if_pos hc) h
    refine E_wk2 [none, none] trivial ?_
    exact e_P_X9_canSend_J35 h
  · have h := Eq.mp (if_neg hc) h
    refine E_aload_n dX9_canSend_11 rfl rfl ?_
    refine E_getr (i := o0) dX9_canSend_12 fl_RX9_21 rfl rfl (go_9_4 _ _) ?_
    refine E_iload_n dX9_canSend_15 rfl rfl ?_
    obtain ⟨hg0, hg1, h⟩ := h
    refine E_iald dX9_canSend_16 sh_1004 hg0 hg1 ?_
    refine E_if_ne (tgt := 35) dX9_canSend_17 (by decide) (fun hc => ?_) (fun hc => ?_)
    · have h := Eq.mp (if_neg hc) h
      refine E_wk2 [none, none] trivial ?_
      exact e_P_X9_canSend_J35 h
    · have h := Eq.mp (if_pos hc) h
      refine E_aload_n dX9_canSend_20 rfl rfl ?_
      refine E_getr (i := o0) dX9_canSend_21 fl_RX9_18 rfl rfl (go_9_3 _ _) ?_
      refine E_iload_n dX9_canSend_24 rfl rfl ?_
      obtain ⟨hg0, hg1, h⟩ := h
      refine E_iald dX9_canSend_25 sh_1003 hg0 hg1 ?_
      refine E_bp dX9_canSend_26 rfl ?_
      refine E_icmp_eq (tgt := 35) dX9_canSend_28 (by decide) (fun hc => ?_) (fun hc => ?_)
      · have h := Eq.mp (if_pos hc) h
        refine E_wk2 [none, none] trivial ?_
        exact e_P_X9_canSend_J35 h
      · have h := Eq.mp (if_neg hc) h
        refine E_ic dX9_canSend_31 rfl ?_
        refine E_goto (tgt := 36) dX9_canSend_32 (by decide) ?_
        exact E_zret dX9_canSend_36 rfl (by decide) ⟨_, rfl, rfl, h⟩
abbrev Y_X9_sendOff : My := (yX9_sendOff, cX9_sendOff, 2, some .boolean)
theorem dX9_sendOff_0 : decode cX9_sendOff 0 = .ok (.aload_n 0, 1) := by decide +kernel
theorem dX9_sendOff_1 : decode cX9_sendOff 1 = .ok (.iload_n 1, 1) := by decide +kernel
theorem dX9_sendOff_2 : decode cX9_sendOff 2 = .ok (.invokevirtual 80, 3) := by decide +kernel
theorem dX9_sendOff_5 : decode cX9_sendOff 5 = .ok (.ifCond .ne 5, 3) := by decide +kernel
theorem dX9_sendOff_8 : decode cX9_sendOff 8 = .ok (.iconst 0, 1) := by decide +kernel
theorem dX9_sendOff_9 : decode cX9_sendOff 9 = .ok (.ireturn, 1) := by decide +kernel
theorem dX9_sendOff_10 : decode cX9_sendOff 10 = .ok (.aload_n 0, 1) := by decide +kernel
theorem dX9_sendOff_11 : decode cX9_sendOff 11 = .ok (.getfield 21, 3) := by decide +kernel
theorem dX9_sendOff_14 : decode cX9_sendOff 14 = .ok (.iload_n 1, 1) := by decide +kernel
theorem dX9_sendOff_15 : decode cX9_sendOff 15 = .ok (.iconst 1, 1) := by decide +kernel
theorem dX9_sendOff_16 : decode cX9_sendOff 16 = .ok (.iastore, 1) := by decide +kernel
theorem dX9_sendOff_17 : decode cX9_sendOff 17 = .ok (.aload_n 0, 1) := by decide +kernel
theorem dX9_sendOff_18 : decode cX9_sendOff 18 = .ok (.getfield 24, 3) := by decide +kernel
theorem dX9_sendOff_21 : decode cX9_sendOff 21 = .ok (.iload_n 1, 1) := by decide +kernel
theorem dX9_sendOff_22 : decode cX9_sendOff 22 = .ok (.aload_n 0, 1) := by decide +kernel
theorem dX9_sendOff_23 : decode cX9_sendOff 23 = .ok (.getfield 49, 3) := by decide +kernel
theorem dX9_sendOff_26 : decode cX9_sendOff 26 = .ok (.iload_n 1, 1) := by decide +kernel
theorem dX9_sendOff_27 : decode cX9_sendOff 27 = .ok (.aload_n 0, 1) := by decide +kernel
theorem dX9_sendOff_28 : decode cX9_sendOff 28 = .ok (.getfield 18, 3) := by decide +kernel
theorem dX9_sendOff_31 : decode cX9_sendOff 31 = .ok (.iload_n 1, 1) := by decide +kernel
theorem dX9_sendOff_32 : decode cX9_sendOff 32 = .ok (.iaload, 1) := by decide +kernel
theorem dX9_sendOff_33 : decode cX9_sendOff 33 = .ok (.invokevirtual 83, 3) := by decide +kernel
theorem dX9_sendOff_36 : decode cX9_sendOff 36 = .ok (.iastore, 1) := by decide +kernel
theorem dX9_sendOff_37 : decode cX9_sendOff 37 = .ok (.aload_n 0, 1) := by decide +kernel
theorem dX9_sendOff_38 : decode cX9_sendOff 38 = .ok (.getfield 27, 3) := by decide +kernel
theorem dX9_sendOff_41 : decode cX9_sendOff 41 = .ok (.iload_n 1, 1) := by decide +kernel
theorem dX9_sendOff_42 : decode cX9_sendOff 42 = .ok (.dup2, 1) := by decide +kernel
theorem dX9_sendOff_43 : decode cX9_sendOff 43 = .ok (.iaload, 1) := by decide +kernel
theorem dX9_sendOff_44 : decode cX9_sendOff 44 = .ok (.iconst 1, 1) := by decide +kernel
theorem dX9_sendOff_45 : decode cX9_sendOff 45 = .ok (.iadd, 1) := by decide +kernel
theorem dX9_sendOff_46 : decode cX9_sendOff 46 = .ok (.iastore, 1) := by decide +kernel
theorem dX9_sendOff_47 : decode cX9_sendOff 47 = .ok (.iconst 1, 1) := by decide +kernel
theorem dX9_sendOff_48 : decode cX9_sendOff 48 = .ok (.ireturn, 1) := by decide +kernel
theorem lk_RX9_80 : Cond.methodLink RX9 80 yX9_canSend ∈ tG := inG (i := 925) (by decide +kernel) (by decide +kernel)
theorem lk_RX9_83 : Cond.methodLink RX9 83 yX8_beatsTo ∈ tG := inG (i := 926) (by decide +kernel) (by decide +kernel)
theorem m_X8_beatsTo : MV Y_X8_beatsTo 2 8 := ⟨⟨inG (i := 929) (by decide +kernel) (by decide +kernel), inG (i := 100) (by decide +kernel) (by decide +kernel), by decide, by decide, by decide, by decide +kernel⟩, inG (i := 927) (by decide +kernel) (by decide +kernel), inG (i := 928) (by decide +kernel) (by decide +kernel), by decide⟩
theorem m_X9_canSend : MV Y_X9_canSend 1 9 := ⟨⟨inG (i := 910) (by decide +kernel) (by decide +kernel), inG (i := 104) (by decide +kernel) (by decide +kernel), by decide, by decide, by decide, by decide +kernel⟩, inG (i := 908) (by decide +kernel) (by decide +kernel), inG (i := 909) (by decide +kernel) (by decide +kernel), by decide⟩
def P_X9_sendOff (o0 : Nat) (x1 : Int) (σ : St) (Q : Int → St → Prop) : Prop :=
  P_X9_canSend o0 x1 σ (fun r_2 σ_1 => (if r_2 = 0 then Q 0 σ_1 else 0 ≤ x1 ∧ x1 < 6 ∧ 0 ≤ x1 ∧ x1 < 6 ∧ P_X8_beatsTo 0 x1 ((up σ_1 1004 o0 x1 1) 1003 o0 x1) (up σ_1 1004 o0 x1 1) (fun r_4 σ_3 => 0 ≤ x1 ∧ x1 < 6 ∧ 0 ≤ x1 ∧ x1 < 6 ∧ 0 ≤ x1 ∧ x1 < 6 ∧ Q 1 (up (up σ_3 1005 o0 x1 r_4) 1006 o0 x1 (wi (((up σ_3 1005 o0 x1 r_4) 1006 o0 x1) + 1))))))
set_option maxRecDepth 20000 in
set_option maxHeartbeats 2000000 in
theorem s_X9_sendOff {o0 : Nat} {x1 : Int} {σ : St} {Q : Int → St → Prop} (h : P_X9_sendOff o0 x1 σ Q) : Cn Y_X9_sendOff 2 0 0 ww σ [vR 9 o0, vI x1] (QI Q) := by
  refine Cn_of [some (vR 9 o0), some (vI x1)] (by decide) (Nat.le_of_ble_eq_true rfl) rfl ?_
  unfold P_X9_sendOff at h
  refine E_aload_n dX9_sendOff_0 rfl rfl ?_
  refine E_iload_n dX9_sendOff_1 rfl rfl ?_
  refine E_callV (Y' := Y_X9_canSend) (as := [vI x1]) (st := []) dX9_sendOff_2 lk_RX9_80 m_X9_canSend (by decide) (Nat.le_refl _) (Nat.le_refl _) rfl rfl (Nat.le_of_ble_eq_true rfl) (s_X9_canSend h) (fun r0 B0 σ_1 h => ?_)
  obtain ⟨r_2, rfl, rfl, h⟩ := h
  refine E_if_ne (tgt := 10) dX9_sendOff_5 (by decide) (fun hc => ?_) (fun hc => ?_)
  · have h := Eq.mp (if_neg hc) h
    refine E_aload_n dX9_sendOff_10 rfl rfl ?_
    refine E_getr (i := o0) dX9_sendOff_11 fl_RX9_21 rfl rfl (go_9_4 _ _) ?_
    refine E_iload_n dX9_sendOff_14 rfl rfl ?_
    refine E_ic dX9_sendOff_15 rfl ?_
    obtain ⟨hg0, hg1, h⟩ := h
    refine E_iast dX9_sendOff_16 sh_1004 hg0 hg1 ?_
    refine E_aload_n dX9_sendOff_17 rfl rfl ?_
    refine E_getr (i := o0) dX9_sendOff_18 fl_RX9_24 rfl rfl (go_9_5 _ _) ?_
    refine E_iload_n dX9_sendOff_21 rfl rfl ?_
    refine E_aload_n dX9_sendOff_22 rfl rfl ?_
    refine E_getr (i := o0) dX9_sendOff_23 fl_RX9_49 rfl rfl (go_9_0 _ _) ?_
    refine E_iload_n dX9_sendOff_26 rfl rfl ?_
    refine E_aload_n dX9_sendOff_27 rfl rfl ?_
    refine E_getr (i := o0) dX9_sendOff_28 fl_RX9_18 rfl rfl (go_9_3 _ _) ?_
    refine E_iload_n dX9_sendOff_31 rfl rfl ?_
    obtain ⟨hg0, hg1, h⟩ := h
    refine E_iald dX9_sendOff_32 sh_1003 hg0 hg1 ?_
    refine E_callV (Y' := Y_X8_beatsTo) (as := [vI x1, vI ((up σ_1 1004 o0 x1 1) 1003 o0 x1)]) (st := [vI x1, vR 1005 o0]) dX9_sendOff_33 lk_RX9_83 m_X8_beatsTo (by decide) (Nat.le_refl _) (Nat.le_refl _) rfl rfl (Nat.le_of_ble_eq_true rfl) (s_X8_beatsTo h) (fun r0 B0 σ_3 h => ?_)
    obtain ⟨r_4, rfl, rfl, h⟩ := h
    obtain ⟨hg0, hg1, h⟩ := h
    refine E_iast dX9_sendOff_36 sh_1005 hg0 hg1 ?_
    refine E_aload_n dX9_sendOff_37 rfl rfl ?_
    refine E_getr (i := o0) dX9_sendOff_38 fl_RX9_27 rfl rfl (go_9_6 _ _) ?_
    refine E_iload_n dX9_sendOff_41 rfl rfl ?_
    refine E_dup2 dX9_sendOff_42 (fun _ q => by cases q) (fun _ q => by cases q) ?_
    obtain ⟨hg0, hg1, h⟩ := h
    refine E_iald dX9_sendOff_43 sh_1006 hg0 hg1 ?_
    refine E_ic dX9_sendOff_44 rfl ?_
    refine E_iadd dX9_sendOff_45 ?_
    obtain ⟨hg0, hg1, h⟩ := h
    refine E_iast dX9_sendOff_46 sh_1006 hg0 hg1 ?_
    refine E_ic dX9_sendOff_47 rfl ?_
    exact E_zret dX9_sendOff_48 rfl (by decide) ⟨_, rfl, rfl, h⟩
  · have h := Eq.mp (if_pos hc) h
    refine E_ic dX9_sendOff_8 rfl ?_
    exact E_zret dX9_sendOff_9 rfl (by decide) ⟨_, rfl, rfl, h⟩
abbrev Y_X9_canCarry : My := (yX9_canCarry, cX9_canCarry, 3, some .boolean)
theorem dX9_canCarry_0 : decode cX9_canCarry 0 = .ok (.aload_n 0, 1) := by decide +kernel
theorem dX9_canCarry_1 : decode cX9_canCarry 1 = .ok (.getfield 49, 3) := by decide +kernel
theorem dX9_canCarry_4 : decode cX9_canCarry 4 = .ok (.iload_n 1, 1) := by decide +kernel
theorem dX9_canCarry_5 : decode cX9_canCarry 5 = .ok (.invokevirtual 76, 3) := by decide +kernel
theorem dX9_canCarry_8 : decode cX9_canCarry 8 = .ok (.ifCond .eq 37, 3) := by decide +kernel
theorem dX9_canCarry_11 : decode cX9_canCarry 11 = .ok (.aload_n 0, 1) := by decide +kernel
theorem dX9_canCarry_12 : decode cX9_canCarry 12 = .ok (.getfield 49, 3) := by decide +kernel
theorem dX9_canCarry_15 : decode cX9_canCarry 15 = .ok (.iload_n 2, 1) := by decide +kernel
theorem dX9_canCarry_16 : decode cX9_canCarry 16 = .ok (.invokevirtual 87, 3) := by decide +kernel
theorem dX9_canCarry_19 : decode cX9_canCarry 19 = .ok (.ifCond .eq 26, 3) := by decide +kernel
theorem dX9_canCarry_22 : decode cX9_canCarry 22 = .ok (.aload_n 0, 1) := by decide +kernel
theorem dX9_canCarry_23 : decode cX9_canCarry 23 = .ok (.getfield 21, 3) := by decide +kernel
theorem dX9_canCarry_26 : decode cX9_canCarry 26 = .ok (.iload_n 1, 1) := by decide +kernel
theorem dX9_canCarry_27 : decode cX9_canCarry 27 = .ok (.iaload, 1) := by decide +kernel
theorem dX9_canCarry_28 : decode cX9_canCarry 28 = .ok (.ifCond .ne 17, 3) := by decide +kernel
theorem dX9_canCarry_31 : decode cX9_canCarry 31 = .ok (.aload_n 0, 1) := by decide +kernel
theorem dX9_canCarry_32 : decode cX9_canCarry 32 = .ok (.getfield 18, 3) := by decide +kernel
theorem dX9_canCarry_35 : decode cX9_canCarry 35 = .ok (.iload_n 1, 1) := by decide +kernel
theorem dX9_canCarry_36 : decode cX9_canCarry 36 = .ok (.iaload, 1) := by decide +kernel
theorem dX9_canCarry_37 : decode cX9_canCarry 37 = .ok (.iload_n 2, 1) := by decide +kernel
theorem dX9_canCarry_38 : decode cX9_canCarry 38 = .ok (.if_icmp .eq 7, 3) := by decide +kernel
theorem dX9_canCarry_41 : decode cX9_canCarry 41 = .ok (.iconst 1, 1) := by decide +kernel
theorem dX9_canCarry_42 : decode cX9_canCarry 42 = .ok (.goto 4, 3) := by decide +kernel
theorem dX9_canCarry_45 : decode cX9_canCarry 45 = .ok (.iconst 0, 1) := by decide +kernel
theorem dX9_canCarry_46 : decode cX9_canCarry 46 = .ok (.ireturn, 1) := by decide +kernel
theorem lk_RX9_87 : Cond.methodLink RX9 87 yX8_hasCounter ∈ tG := inG (i := 967) (by decide +kernel) (by decide +kernel)
def P_X9_canCarry_J45   (Q : Int → St → Prop) (σ : St) : Prop :=
  Q 0 σ
set_option maxRecDepth 20000 in
set_option maxHeartbeats 2000000 in
theorem e_P_X9_canCarry_J45   {Q : Int → St → Prop} {σ : St}  (h : P_X9_canCarry_J45  Q σ) : E Y_X9_canCarry 1 0 0 (QI Q) ww 0 0 45 [none, none, none] [] σ := by
  unfold P_X9_canCarry_J45 at h
  refine E_ic dX9_canCarry_45 rfl ?_
  exact E_zret dX9_canCarry_46 rfl (by decide) ⟨_, rfl, rfl, h⟩
def P_X9_canCarry (o0 : Nat) (x1 : Int) (x2 : Int) (σ : St) (Q : Int → St → Prop) : Prop :=
  P_X8_hasBall 0 x1 σ (fun r_2 σ_1 => (if r_2 = 0 then P_X9_canCarry_J45 Q σ_1 else P_X8_hasCounter 0 x2 σ_1 (fun r_4 σ_3 => (if r_4 = 0 then P_X9_canCarry_J45 Q σ_3 else 0 ≤ x1 ∧ x1 < 6 ∧ (if (σ_3 1004 o0 x1) = 0 then 0 ≤ x1 ∧ x1 < 6 ∧ (if (σ_3 1003 o0 x1) = x2 then P_X9_canCarry_J45 Q σ_3 else Q 1 σ_3) else P_X9_canCarry_J45 Q σ_3)))))
set_option maxRecDepth 20000 in
set_option maxHeartbeats 2000000 in
theorem s_X9_canCarry {o0 : Nat} {x1 : Int} {x2 : Int} {σ : St} {Q : Int → St → Prop} (h : P_X9_canCarry o0 x1 x2 σ Q) : Cn Y_X9_canCarry 1 0 0 ww σ [vR 9 o0, vI x1, vI x2] (QI Q) := by
  refine Cn_of [some (vR 9 o0), some (vI x1), some (vI x2)] (by decide) (Nat.le_of_ble_eq_true rfl) rfl ?_
  unfold P_X9_canCarry at h
  refine E_aload_n dX9_canCarry_0 rfl rfl ?_
  refine E_getr (i := o0) dX9_canCarry_1 fl_RX9_49 rfl rfl (go_9_0 _ _) ?_
  refine E_iload_n dX9_canCarry_4 rfl rfl ?_
  refine E_callV (Y' := Y_X8_hasBall) (as := [vI x1]) (st := []) dX9_canCarry_5 lk_RX9_76 m_X8_hasBall (by decide) (Nat.le_refl _) (Nat.le_refl _) rfl rfl (Nat.le_of_ble_eq_true rfl) (s_X8_hasBall h) (fun r0 B0 σ_1 h => ?_)
  obtain ⟨r_2, rfl, rfl, h⟩ := h
  refine E_if_eq (tgt := 45) dX9_canCarry_8 (by decide) (fun hc => ?_) (fun hc => ?_)
  · have h := Eq.mp (if_pos hc) h
    refine E_wk2 [none, none, none] trivial ?_
    exact e_P_X9_canCarry_J45 h
  · have h := Eq.mp (if_neg hc) h
    refine E_aload_n dX9_canCarry_11 rfl rfl ?_
    refine E_getr (i := o0) dX9_canCarry_12 fl_RX9_49 rfl rfl (go_9_0 _ _) ?_
    refine E_iload_n dX9_canCarry_15 rfl rfl ?_
    refine E_callV (Y' := Y_X8_hasCounter) (as := [vI x2]) (st := []) dX9_canCarry_16 lk_RX9_87 m_X8_hasCounter (by decide) (Nat.le_refl _) (Nat.le_refl _) rfl rfl (Nat.le_of_ble_eq_true rfl) (s_X8_hasCounter h) (fun r0 B0 σ_3 h => ?_)
    obtain ⟨r_4, rfl, rfl, h⟩ := h
    refine E_if_eq (tgt := 45) dX9_canCarry_19 (by decide) (fun hc => ?_) (fun hc => ?_)
    · have h := Eq.mp (if_pos hc) h
      refine E_wk2 [none, none, none] trivial ?_
      exact e_P_X9_canCarry_J45 h
    · have h := Eq.mp (if_neg hc) h
      refine E_aload_n dX9_canCarry_22 rfl rfl ?_
      refine E_getr (i := o0) dX9_canCarry_23 fl_RX9_21 rfl rfl (go_9_4 _ _) ?_
      refine E_iload_n dX9_canCarry_26 rfl rfl ?_
      obtain ⟨hg0, hg1, h⟩ := h
      refine E_iald dX9_canCarry_27 sh_1004 hg0 hg1 ?_
      refine E_if_ne (tgt := 45) dX9_canCarry_28 (by decide) (fun hc => ?_) (fun hc => ?_)
      · have h := Eq.mp (if_neg hc) h
        refine E_wk2 [none, none, none] trivial ?_
        exact e_P_X9_canCarry_J45 h
      · have h := Eq.mp (if_pos hc) h
        refine E_aload_n dX9_canCarry_31 rfl rfl ?_
        refine E_getr (i := o0) dX9_canCarry_32 fl_RX9_18 rfl rfl (go_9_3 _ _) ?_
        refine E_iload_n dX9_canCarry_35 rfl rfl ?_
        obtain ⟨hg0, hg1, h⟩ := h
        refine E_iald dX9_canCarry_36 sh_1003 hg0 hg1 ?_
        refine E_iload_n dX9_canCarry_37 rfl rfl ?_
        refine E_icmp_eq (tgt := 45) dX9_canCarry_38 (by decide) (fun hc => ?_) (fun hc => ?_)
        · have h := Eq.mp (if_pos hc) h
          refine E_wk2 [none, none, none] trivial ?_
          exact e_P_X9_canCarry_J45 h
        · have h := Eq.mp (if_neg hc) h
          refine E_ic dX9_canCarry_41 rfl ?_
          refine E_goto (tgt := 46) dX9_canCarry_42 (by decide) ?_
          exact E_zret dX9_canCarry_46 rfl (by decide) ⟨_, rfl, rfl, h⟩
abbrev Y_X9_carryTo : My := (yX9_carryTo, cX9_carryTo, 3, some .boolean)
theorem dX9_carryTo_0 : decode cX9_carryTo 0 = .ok (.aload_n 0, 1) := by decide +kernel
theorem dX9_carryTo_1 : decode cX9_carryTo 1 = .ok (.iload_n 1, 1) := by decide +kernel
theorem dX9_carryTo_2 : decode cX9_carryTo 2 = .ok (.iload_n 2, 1) := by decide +kernel
theorem dX9_carryTo_3 : decode cX9_carryTo 3 = .ok (.invokevirtual 98, 3) := by decide +kernel
theorem dX9_carryTo_6 : decode cX9_carryTo 6 = .ok (.ifCond .ne 5, 3) := by decide +kernel
theorem dX9_carryTo_9 : decode cX9_carryTo 9 = .ok (.iconst 0, 1) := by decide +kernel
theorem dX9_carryTo_10 : decode cX9_carryTo 10 = .ok (.ireturn, 1) := by decide +kernel
theorem dX9_carryTo_11 : decode cX9_carryTo 11 = .ok (.aload_n 0, 1) := by decide +kernel
theorem dX9_carryTo_12 : decode cX9_carryTo 12 = .ok (.getfield 18, 3) := by decide +kernel
theorem dX9_carryTo_15 : decode cX9_carryTo 15 = .ok (.iload_n 1, 1) := by decide +kernel
theorem dX9_carryTo_16 : decode cX9_carryTo 16 = .ok (.iload_n 2, 1) := by decide +kernel
theorem dX9_carryTo_17 : decode cX9_carryTo 17 = .ok (.iastore, 1) := by decide +kernel
theorem dX9_carryTo_18 : decode cX9_carryTo 18 = .ok (.iconst 1, 1) := by decide +kernel
theorem dX9_carryTo_19 : decode cX9_carryTo 19 = .ok (.ireturn, 1) := by decide +kernel
theorem lk_RX9_98 : Cond.methodLink RX9 98 yX9_canCarry ∈ tG := inG (i := 986) (by decide +kernel) (by decide +kernel)
theorem m_X9_canCarry : MV Y_X9_canCarry 2 9 := ⟨⟨inG (i := 981) (by decide +kernel) (by decide +kernel), inG (i := 104) (by decide +kernel) (by decide +kernel), by decide, by decide, by decide, by decide +kernel⟩, inG (i := 979) (by decide +kernel) (by decide +kernel), inG (i := 980) (by decide +kernel) (by decide +kernel), by decide⟩
def P_X9_carryTo (o0 : Nat) (x1 : Int) (x2 : Int) (σ : St) (Q : Int → St → Prop) : Prop :=
  P_X9_canCarry o0 x1 x2 σ (fun r_2 σ_1 => (if r_2 = 0 then Q 0 σ_1 else 0 ≤ x1 ∧ x1 < 6 ∧ Q 1 (up σ_1 1003 o0 x1 x2)))
set_option maxRecDepth 20000 in
set_option maxHeartbeats 2000000 in
theorem s_X9_carryTo {o0 : Nat} {x1 : Int} {x2 : Int} {σ : St} {Q : Int → St → Prop} (h : P_X9_carryTo o0 x1 x2 σ Q) : Cn Y_X9_carryTo 2 0 0 ww σ [vR 9 o0, vI x1, vI x2] (QI Q) := by
  refine Cn_of [some (vR 9 o0), some (vI x1), some (vI x2)] (by decide) (Nat.le_of_ble_eq_true rfl) rfl ?_
  unfold P_X9_carryTo at h
  refine E_aload_n dX9_carryTo_0 rfl rfl ?_
  refine E_iload_n dX9_carryTo_1 rfl rfl ?_
  refine E_iload_n dX9_carryTo_2 rfl rfl ?_
  refine E_callV (Y' := Y_X9_canCarry) (as := [vI x1, vI x2]) (st := []) dX9_carryTo_3 lk_RX9_98 m_X9_canCarry (by decide) (Nat.le_refl _) (Nat.le_refl _) rfl rfl (Nat.le_of_ble_eq_true rfl) (s_X9_canCarry h) (fun r0 B0 σ_1 h => ?_)
  obtain ⟨r_2, rfl, rfl, h⟩ := h
  refine E_if_ne (tgt := 11) dX9_carryTo_6 (by decide) (fun hc => ?_) (fun hc => ?_)
  · have h := Eq.mp (if_neg hc) h
    refine E_aload_n dX9_carryTo_11 rfl rfl ?_
    refine E_getr (i := o0) dX9_carryTo_12 fl_RX9_18 rfl rfl (go_9_3 _ _) ?_
    refine E_iload_n dX9_carryTo_15 rfl rfl ?_
    refine E_iload_n dX9_carryTo_16 rfl rfl ?_
    obtain ⟨hg0, hg1, h⟩ := h
    refine E_iast dX9_carryTo_17 sh_1003 hg0 hg1 ?_
    refine E_ic dX9_carryTo_18 rfl ?_
    exact E_zret dX9_carryTo_19 rfl (by decide) ⟨_, rfl, rfl, h⟩
  · have h := Eq.mp (if_pos hc) h
    refine E_ic dX9_carryTo_9 rfl ?_
    exact E_zret dX9_carryTo_10 rfl (by decide) ⟨_, rfl, rfl, h⟩
abbrev Y_X9_comeBack : My := (yX9_comeBack, cX9_comeBack, 3, some .int)
theorem dX9_comeBack_0 : decode cX9_comeBack 0 = .ok (.iconst 0, 1) := by decide +kernel
theorem dX9_comeBack_1 : decode cX9_comeBack 1 = .ok (.istore_n 1, 1) := by decide +kernel
theorem dX9_comeBack_2 : decode cX9_comeBack 2 = .ok (.iconst 0, 1) := by decide +kernel
theorem dX9_comeBack_3 : decode cX9_comeBack 3 = .ok (.istore_n 2, 1) := by decide +kernel
theorem dX9_comeBack_4 : decode cX9_comeBack 4 = .ok (.iload_n 2, 1) := by decide +kernel
theorem dX9_comeBack_5 : decode cX9_comeBack 5 = .ok (.aload_n 0, 1) := by decide +kernel
theorem dX9_comeBack_6 : decode cX9_comeBack 6 = .ok (.getfield 49, 3) := by decide +kernel
theorem dX9_comeBack_9 : decode cX9_comeBack 9 = .ok (.getfield 59, 3) := by decide +kernel
theorem dX9_comeBack_12 : decode cX9_comeBack 12 = .ok (.if_icmp .ge 83, 3) := by decide +kernel
theorem dX9_comeBack_15 : decode cX9_comeBack 15 = .ok (.aload_n 0, 1) := by decide +kernel
theorem dX9_comeBack_16 : decode cX9_comeBack 16 = .ok (.getfield 21, 3) := by decide +kernel
theorem dX9_comeBack_19 : decode cX9_comeBack 19 = .ok (.iload_n 2, 1) := by decide +kernel
theorem dX9_comeBack_20 : decode cX9_comeBack 20 = .ok (.iaload, 1) := by decide +kernel
theorem dX9_comeBack_21 : decode cX9_comeBack 21 = .ok (.iconst 3, 1) := by decide +kernel
theorem dX9_comeBack_22 : decode cX9_comeBack 22 = .ok (.if_icmp .ne 67, 3) := by decide +kernel
theorem dX9_comeBack_25 : decode cX9_comeBack 25 = .ok (.aload_n 0, 1) := by decide +kernel
theorem dX9_comeBack_26 : decode cX9_comeBack 26 = .ok (.getfield 24, 3) := by decide +kernel
theorem dX9_comeBack_29 : decode cX9_comeBack 29 = .ok (.iload_n 2, 1) := by decide +kernel
theorem dX9_comeBack_30 : decode cX9_comeBack 30 = .ok (.dup2, 1) := by decide +kernel
theorem dX9_comeBack_31 : decode cX9_comeBack 31 = .ok (.iaload, 1) := by decide +kernel
theorem dX9_comeBack_32 : decode cX9_comeBack 32 = .ok (.iconst 1, 1) := by decide +kernel
theorem dX9_comeBack_33 : decode cX9_comeBack 33 = .ok (.isub, 1) := by decide +kernel
theorem dX9_comeBack_34 : decode cX9_comeBack 34 = .ok (.iastore, 1) := by decide +kernel
theorem dX9_comeBack_35 : decode cX9_comeBack 35 = .ok (.aload_n 0, 1) := by decide +kernel
theorem dX9_comeBack_36 : decode cX9_comeBack 36 = .ok (.getfield 24, 3) := by decide +kernel
theorem dX9_comeBack_39 : decode cX9_comeBack 39 = .ok (.iload_n 2, 1) := by decide +kernel
theorem dX9_comeBack_40 : decode cX9_comeBack 40 = .ok (.iaload, 1) := by decide +kernel
theorem dX9_comeBack_41 : decode cX9_comeBack 41 = .ok (.ifCond .gt 48, 3) := by decide +kernel
theorem dX9_comeBack_44 : decode cX9_comeBack 44 = .ok (.aload_n 0, 1) := by decide +kernel
theorem dX9_comeBack_45 : decode cX9_comeBack 45 = .ok (.getfield 21, 3) := by decide +kernel
theorem dX9_comeBack_48 : decode cX9_comeBack 48 = .ok (.iload_n 2, 1) := by decide +kernel
theorem dX9_comeBack_49 : decode cX9_comeBack 49 = .ok (.iconst 0, 1) := by decide +kernel
theorem dX9_comeBack_50 : decode cX9_comeBack 50 = .ok (.iastore, 1) := by decide +kernel
theorem dX9_comeBack_51 : decode cX9_comeBack 51 = .ok (.iload_n 1, 1) := by decide +kernel
theorem dX9_comeBack_52 : decode cX9_comeBack 52 = .ok (.iconst 1, 1) := by decide +kernel
theorem dX9_comeBack_53 : decode cX9_comeBack 53 = .ok (.iload_n 2, 1) := by decide +kernel
theorem dX9_comeBack_54 : decode cX9_comeBack 54 = .ok (.ishl, 1) := by decide +kernel
theorem dX9_comeBack_55 : decode cX9_comeBack 55 = .ok (.ior, 1) := by decide +kernel
theorem dX9_comeBack_56 : decode cX9_comeBack 56 = .ok (.istore_n 1, 1) := by decide +kernel
theorem dX9_comeBack_57 : decode cX9_comeBack 57 = .ok (.aload_n 0, 1) := by decide +kernel
theorem dX9_comeBack_58 : decode cX9_comeBack 58 = .ok (.dup, 1) := by decide +kernel
theorem dX9_comeBack_59 : decode cX9_comeBack 59 = .ok (.getfield 46, 3) := by decide +kernel
theorem dX9_comeBack_62 : decode cX9_comeBack 62 = .ok (.aload_n 0, 1) := by decide +kernel
theorem dX9_comeBack_63 : decode cX9_comeBack 63 = .ok (.getfield 18, 3) := by decide +kernel
theorem dX9_comeBack_66 : decode cX9_comeBack 66 = .ok (.iload_n 2, 1) := by decide +kernel
theorem dX9_comeBack_67 : decode cX9_comeBack 67 = .ok (.iaload, 1) := by decide +kernel
theorem dX9_comeBack_68 : decode cX9_comeBack 68 = .ok (.aload_n 0, 1) := by decide +kernel
theorem dX9_comeBack_69 : decode cX9_comeBack 69 = .ok (.getfield 49, 3) := by decide +kernel
theorem dX9_comeBack_72 : decode cX9_comeBack 72 = .ok (.getfield 63, 3) := by decide +kernel
theorem dX9_comeBack_75 : decode cX9_comeBack 75 = .ok (.iload_n 2, 1) := by decide +kernel
theorem dX9_comeBack_76 : decode cX9_comeBack 76 = .ok (.iaload, 1) := by decide +kernel
theorem dX9_comeBack_77 : decode cX9_comeBack 77 = .ok (.if_icmp .eq 7, 3) := by decide +kernel
theorem dX9_comeBack_80 : decode cX9_comeBack 80 = .ok (.iconst 1, 1) := by decide +kernel
theorem dX9_comeBack_81 : decode cX9_comeBack 81 = .ok (.goto 4, 3) := by decide +kernel
theorem dX9_comeBack_84 : decode cX9_comeBack 84 = .ok (.iconst 0, 1) := by decide +kernel
theorem dX9_comeBack_85 : decode cX9_comeBack 85 = .ok (.iadd, 1) := by decide +kernel
theorem dX9_comeBack_86 : decode cX9_comeBack 86 = .ok (.putfield 46, 3) := by decide +kernel
theorem dX9_comeBack_89 : decode cX9_comeBack 89 = .ok (.iinc 2 1, 3) := by decide +kernel
theorem dX9_comeBack_92 : decode cX9_comeBack 92 = .ok (.goto (-88), 3) := by decide +kernel
theorem dX9_comeBack_95 : decode cX9_comeBack 95 = .ok (.iload_n 1, 1) := by decide +kernel
theorem dX9_comeBack_96 : decode cX9_comeBack 96 = .ok (.ireturn, 1) := by decide +kernel
def P_X9_comeBack_J85 (o0 : Nat) (x1 : Int) (x2 : Int) (y0 : Int) (y1 : Int) (q2 : Nat) (R : Int → Int → St → Prop) (Q : Int → St → Prop) (σ : St) : Prop :=
  R x1 (wi (x2 + 1)) (up σ 9 q2 12 (wi (y1 + y0)))
set_option maxRecDepth 20000 in
set_option maxHeartbeats 2000000 in
theorem e_P_X9_comeBack_J85 {o0 : Nat} {x1 : Int} {x2 : Int} {y0 : Int} {y1 : Int} {q2 : Nat} {R : Int → Int → St → Prop} {Q : Int → St → Prop} {σ : St} (hR : ∀ x1 x2 σ, R x1 x2 σ → E Y_X9_comeBack 0 0 0 (QI Q) ww 0 0 4 [some (vR 9 o0), some (vI x1), some (vI x2)] [] σ) (h : P_X9_comeBack_J85 o0 x1 x2 y0 y1 q2 R Q σ) : E Y_X9_comeBack 0 0 0 (QI Q) ww 0 0 85 [some (vR 9 o0), some (vI x1), some (vI x2)] [vI y0, vI y1, vR 9 q2] σ := by
  unfold P_X9_comeBack_J85 at h
  refine E_iadd dX9_comeBack_85 ?_
  refine E_puti dX9_comeBack_86 fl_RX9_46 rfl rfl rfl ?_
  refine E_iinc (ls' := [some (vR 9 o0), some (vI x1), some (vI (wi (x2 + 1)))]) dX9_comeBack_89 rfl (by decide) rfl rfl ?_
  refine E_goto (tgt := 4) dX9_comeBack_92 (by decide) ?_
  exact hR _ _ _ h
def P_X9_comeBack_L4 (o0 : Nat)  (Q : Int → St → Prop) : Nat → Int → Int → St → Prop
  | 0, _, _, _ => False
  | n + 1, x1, x2, σ => (if (σ 8 0 11) ≤ x2 then Q x1 σ else 0 ≤ x2 ∧ x2 < 6 ∧ (if (σ 1004 o0 x2) = 3 then 0 ≤ x2 ∧ x2 < 6 ∧ 0 ≤ x2 ∧ x2 < 6 ∧ 0 ≤ x2 ∧ x2 < 6 ∧ (if 0 < ((up σ 1005 o0 x2 (wi ((σ 1005 o0 x2) - 1))) 1005 o0 x2) then (P_X9_comeBack_L4 o0 Q n) x1 (wi (x2 + 1)) (up σ 1005 o0 x2 (wi ((σ 1005 o0 x2) - 1))) else 0 ≤ x2 ∧ x2 < 6 ∧ 0 ≤ x2 ∧ x2 < 6 ∧ 0 ≤ x2 ∧ x2 < 6 ∧ (if ((up (up σ 1005 o0 x2 (wi ((σ 1005 o0 x2) - 1))) 1004 o0 x2 0) 1003 o0 x2) = ((up (up σ 1005 o0 x2 (wi ((σ 1005 o0 x2) - 1))) 1004 o0 x2 0) 906 0 x2) then P_X9_comeBack_J85 o0 (bO x1 (bL 1 x2)) x2 0 ((up (up σ 1005 o0 x2 (wi ((σ 1005 o0 x2) - 1))) 1004 o0 x2 0) 9 o0 12) o0 (P_X9_comeBack_L4 o0 Q n) Q (up (up σ 1005 o0 x2 (wi ((σ 1005 o0 x2) - 1))) 1004 o0 x2 0) else P_X9_comeBack_J85 o0 (bO x1 (bL 1 x2)) x2 1 ((up (up σ 1005 o0 x2 (wi ((σ 1005 o0 x2) - 1))) 1004 o0 x2 0) 9 o0 12) o0 (P_X9_comeBack_L4 o0 Q n) Q (up (up σ 1005 o0 x2 (wi ((σ 1005 o0 x2) - 1))) 1004 o0 x2 0))) else (P_X9_comeBack_L4 o0 Q n) x1 (wi (x2 + 1)) σ))
set_option maxRecDepth 20000 in
set_option maxHeartbeats 2000000 in
theorem e_P_X9_comeBack_L4 {o0 : Nat}  {Q : Int → St → Prop}  : ∀ (n : Nat) (x1 : Int) (x2 : Int) (σ : St), P_X9_comeBack_L4 o0 Q n x1 x2 σ → E Y_X9_comeBack 0 0 0 (QI Q) ww 0 0 4 [some (vR 9 o0), some (vI x1), some (vI x2)] [] σ := by
  intro n
  induction n with
  | zero => intro x1 x2 σ h; exact h.elim
  | succ n hR =>
    intro x1 x2 σ h
    unfold P_X9_comeBack_L4 at h
    refine E_iload_n dX9_comeBack_4 rfl rfl ?_
    refine E_aload_n dX9_comeBack_5 rfl rfl ?_
    refine E_getr (i := o0) dX9_comeBack_6 fl_RX9_49 rfl rfl (go_9_0 _ _) ?_
    refine E_geti (i := 0) dX9_comeBack_9 fl_RX9_59 rfl ?_
    refine E_icmp_ge (tgt := 95) dX9_comeBack_12 (by decide) (fun hc => ?_) (fun hc => ?_)
    · have h := Eq.mp (if_pos hc) h
      refine E_iload_n dX9_comeBack_95 rfl rfl ?_
      exact E_iret dX9_comeBack_96 rfl ⟨_, rfl, rfl, h⟩
    · have h := Eq.mp (if_neg hc) h
      refine E_aload_n dX9_comeBack_15 rfl rfl ?_
      refine E_getr (i := o0) dX9_comeBack_16 fl_RX9_21 rfl rfl (go_9_4 _ _) ?_
      refine E_iload_n dX9_comeBack_19 rfl rfl ?_
      obtain ⟨hg0, hg1, h⟩ := h
      refine E_iald dX9_comeBack_20 sh_1004 hg0 hg1 ?_
      refine E_ic dX9_comeBack_21 rfl ?_
      refine E_icmp_ne (tgt := 89) dX9_comeBack_22 (by decide) (fun hc => ?_) (fun hc => ?_)
      · have h := Eq.mp (if_neg hc) h
        refine E_iinc (ls' := [some (vR 9 o0), some (vI x1), some (vI (wi (x2 + 1)))]) dX9_comeBack_89 rfl (by decide) rfl rfl ?_
        refine E_goto (tgt := 4) dX9_comeBack_92 (by decide) ?_
        exact hR _ _ _ h
      · have h := Eq.mp (if_pos hc) h
        refine E_aload_n dX9_comeBack_25 rfl rfl ?_
        refine E_getr (i := o0) dX9_comeBack_26 fl_RX9_24 rfl rfl (go_9_5 _ _) ?_
        refine E_iload_n dX9_comeBack_29 rfl rfl ?_
        refine E_dup2 dX9_comeBack_30 (fun _ q => by cases q) (fun _ q => by cases q) ?_
        obtain ⟨hg0, hg1, h⟩ := h
        refine E_iald dX9_comeBack_31 sh_1005 hg0 hg1 ?_
        refine E_ic dX9_comeBack_32 rfl ?_
        refine E_isub dX9_comeBack_33 ?_
        obtain ⟨hg0, hg1, h⟩ := h
        refine E_iast dX9_comeBack_34 sh_1005 hg0 hg1 ?_
        refine E_aload_n dX9_comeBack_35 rfl rfl ?_
        refine E_getr (i := o0) dX9_comeBack_36 fl_RX9_24 rfl rfl (go_9_5 _ _) ?_
        refine E_iload_n dX9_comeBack_39 rfl rfl ?_
        obtain ⟨hg0, hg1, h⟩ := h
        refine E_iald dX9_comeBack_40 sh_1005 hg0 hg1 ?_
        refine E_if_gt (tgt := 89) dX9_comeBack_41 (by decide) (fun hc => ?_) (fun hc => ?_)
        · have h := Eq.mp (if_pos hc) h
          refine E_iinc (ls' := [some (vR 9 o0), some (vI x1), some (vI (wi (x2 + 1)))]) dX9_comeBack_89 rfl (by decide) rfl rfl ?_
          refine E_goto (tgt := 4) dX9_comeBack_92 (by decide) ?_
          exact hR _ _ _ h
        · have h := Eq.mp (if_neg hc) h
          refine E_aload_n dX9_comeBack_44 rfl rfl ?_
          refine E_getr (i := o0) dX9_comeBack_45 fl_RX9_21 rfl rfl (go_9_4 _ _) ?_
          refine E_iload_n dX9_comeBack_48 rfl rfl ?_
          refine E_ic dX9_comeBack_49 rfl ?_
          obtain ⟨hg0, hg1, h⟩ := h
          refine E_iast dX9_comeBack_50 sh_1004 hg0 hg1 ?_
          refine E_iload_n dX9_comeBack_51 rfl rfl ?_
          refine E_ic dX9_comeBack_52 rfl ?_
          refine E_iload_n dX9_comeBack_53 rfl rfl ?_
          refine E_ishl dX9_comeBack_54 ?_
          refine E_ior dX9_comeBack_55 ?_
          refine E_istore_n (ls' := [some (vR 9 o0), some (vI (bO x1 (bL 1 x2))), some (vI x2)]) dX9_comeBack_56 rfl (by decide) rfl ?_
          refine E_aload_n dX9_comeBack_57 rfl rfl ?_
          refine E_dup dX9_comeBack_58 (fun _ q => by cases q) ?_
          refine E_geti (i := o0) dX9_comeBack_59 fl_RX9_46 rfl ?_
          refine E_aload_n dX9_comeBack_62 rfl rfl ?_
          refine E_getr (i := o0) dX9_comeBack_63 fl_RX9_18 rfl rfl (go_9_3 _ _) ?_
          refine E_iload_n dX9_comeBack_66 rfl rfl ?_
          obtain ⟨hg0, hg1, h⟩ := h
          refine E_iald dX9_comeBack_67 sh_1003 hg0 hg1 ?_
          refine E_aload_n dX9_comeBack_68 rfl rfl ?_
          refine E_getr (i := o0) dX9_comeBack_69 fl_RX9_49 rfl rfl (go_9_0 _ _) ?_
          refine E_getr (i := 0) dX9_comeBack_72 fl_RX9_63 rfl rfl (go_8_6 _ _) ?_
          refine E_iload_n dX9_comeBack_75 rfl rfl ?_
          obtain ⟨hg0, hg1, h⟩ := h
          refine E_iald dX9_comeBack_76 sh_906 hg0 hg1 ?_
          refine E_icmp_eq (tgt := 84) dX9_comeBack_77 (by decide) (fun hc => ?_) (fun hc => ?_)
          · have h := Eq.mp (if_pos hc) h
            refine E_ic dX9_comeBack_84 rfl ?_
            exact e_P_X9_comeBack_J85 hR h
          · have h := Eq.mp (if_neg hc) h
            refine E_ic dX9_comeBack_80 rfl ?_
            refine E_goto (tgt := 85) dX9_comeBack_81 (by decide) ?_
            exact e_P_X9_comeBack_J85 hR h
def P_X9_comeBack (o0 : Nat) (σ : St) (Q : Int → St → Prop) : Prop :=
  P_X9_comeBack_L4 o0 Q FU 0 0 σ
set_option maxRecDepth 20000 in
set_option maxHeartbeats 2000000 in
theorem s_X9_comeBack {o0 : Nat} {σ : St} {Q : Int → St → Prop} (h : P_X9_comeBack o0 σ Q) : Cn Y_X9_comeBack 0 0 0 ww σ [vR 9 o0] (QI Q) := by
  refine Cn_of [some (vR 9 o0), none, none] (by decide) (Nat.le_of_ble_eq_true rfl) rfl ?_
  unfold P_X9_comeBack at h
  refine E_ic dX9_comeBack_0 rfl ?_
  refine E_istore_n (ls' := [some (vR 9 o0), some (vI 0), none]) dX9_comeBack_1 rfl (by decide) rfl ?_
  refine E_ic dX9_comeBack_2 rfl ?_
  refine E_istore_n (ls' := [some (vR 9 o0), some (vI 0), some (vI 0)]) dX9_comeBack_3 rfl (by decide) rfl ?_
  refine e_P_X9_comeBack_L4  _ _ _ _ h
abbrev Y_X9_serve : My := (yX9_serve, cX9_serve, 3, none)
theorem dX9_serve_0 : decode cX9_serve 0 = .ok (.aload_n 0, 1) := by decide +kernel
theorem dX9_serve_1 : decode cX9_serve 1 = .ok (.getfield 33, 3) := by decide +kernel
theorem dX9_serve_4 : decode cX9_serve 4 = .ok (.ifCond .ne 4, 3) := by decide +kernel
theorem dX9_serve_7 : decode cX9_serve 7 = .ok (.return_, 1) := by decide +kernel
theorem dX9_serve_8 : decode cX9_serve 8 = .ok (.aload_n 0, 1) := by decide +kernel
theorem dX9_serve_9 : decode cX9_serve 9 = .ok (.dup, 1) := by decide +kernel
theorem dX9_serve_10 : decode cX9_serve 10 = .ok (.getfield 37, 3) := by decide +kernel
theorem dX9_serve_13 : decode cX9_serve 13 = .ok (.iconst 1, 1) := by decide +kernel
theorem dX9_serve_14 : decode cX9_serve 14 = .ok (.iadd, 1) := by decide +kernel
theorem dX9_serve_15 : decode cX9_serve 15 = .ok (.putfield 37, 3) := by decide +kernel
theorem dX9_serve_18 : decode cX9_serve 18 = .ok (.aload_n 0, 1) := by decide +kernel
theorem dX9_serve_19 : decode cX9_serve 19 = .ok (.getfield 37, 3) := by decide +kernel
theorem dX9_serve_22 : decode cX9_serve 22 = .ok (.aload_n 0, 1) := by decide +kernel
theorem dX9_serve_23 : decode cX9_serve 23 = .ok (.getfield 49, 3) := by decide +kernel
theorem dX9_serve_26 : decode cX9_serve 26 = .ok (.getfield 111, 3) := by decide +kernel
theorem dX9_serve_29 : decode cX9_serve 29 = .ok (.if_icmp .ge 4, 3) := by decide +kernel
theorem dX9_serve_32 : decode cX9_serve 32 = .ok (.return_, 1) := by decide +kernel
theorem dX9_serve_33 : decode cX9_serve 33 = .ok (.aload_n 0, 1) := by decide +kernel
theorem dX9_serve_34 : decode cX9_serve 34 = .ok (.getfield 30, 3) := by decide +kernel
theorem dX9_serve_37 : decode cX9_serve 37 = .ok (.iconst 0, 1) := by decide +kernel
theorem dX9_serve_38 : decode cX9_serve 38 = .ok (.iaload, 1) := by decide +kernel
theorem dX9_serve_39 : decode cX9_serve 39 = .ok (.istore_n 1, 1) := by decide +kernel
theorem dX9_serve_40 : decode cX9_serve 40 = .ok (.iconst 1, 1) := by decide +kernel
theorem dX9_serve_41 : decode cX9_serve 41 = .ok (.istore_n 2, 1) := by decide +kernel
theorem dX9_serve_42 : decode cX9_serve 42 = .ok (.iload_n 2, 1) := by decide +kernel
theorem dX9_serve_43 : decode cX9_serve 43 = .ok (.aload_n 0, 1) := by decide +kernel
theorem dX9_serve_44 : decode cX9_serve 44 = .ok (.getfield 33, 3) := by decide +kernel
theorem dX9_serve_47 : decode cX9_serve 47 = .ok (.if_icmp .ge 23, 3) := by decide +kernel
theorem dX9_serve_50 : decode cX9_serve 50 = .ok (.aload_n 0, 1) := by decide +kernel
theorem dX9_serve_51 : decode cX9_serve 51 = .ok (.getfield 30, 3) := by decide +kernel
theorem dX9_serve_54 : decode cX9_serve 54 = .ok (.iload_n 2, 1) := by decide +kernel
theorem dX9_serve_55 : decode cX9_serve 55 = .ok (.iconst 1, 1) := by decide +kernel
theorem dX9_serve_56 : decode cX9_serve 56 = .ok (.isub, 1) := by decide +kernel
theorem dX9_serve_57 : decode cX9_serve 57 = .ok (.aload_n 0, 1) := by decide +kernel
theorem dX9_serve_58 : decode cX9_serve 58 = .ok (.getfield 30, 3) := by decide +kernel
theorem dX9_serve_61 : decode cX9_serve 61 = .ok (.iload_n 2, 1) := by decide +kernel
theorem dX9_serve_62 : decode cX9_serve 62 = .ok (.iaload, 1) := by decide +kernel
theorem dX9_serve_63 : decode cX9_serve 63 = .ok (.iastore, 1) := by decide +kernel
theorem dX9_serve_64 : decode cX9_serve 64 = .ok (.iinc 2 1, 3) := by decide +kernel
theorem dX9_serve_67 : decode cX9_serve 67 = .ok (.goto (-25), 3) := by decide +kernel
theorem dX9_serve_70 : decode cX9_serve 70 = .ok (.aload_n 0, 1) := by decide +kernel
theorem dX9_serve_71 : decode cX9_serve 71 = .ok (.dup, 1) := by decide +kernel
theorem dX9_serve_72 : decode cX9_serve 72 = .ok (.getfield 33, 3) := by decide +kernel
theorem dX9_serve_75 : decode cX9_serve 75 = .ok (.iconst 1, 1) := by decide +kernel
theorem dX9_serve_76 : decode cX9_serve 76 = .ok (.isub, 1) := by decide +kernel
theorem dX9_serve_77 : decode cX9_serve 77 = .ok (.putfield 33, 3) := by decide +kernel
theorem dX9_serve_80 : decode cX9_serve 80 = .ok (.aload_n 0, 1) := by decide +kernel
theorem dX9_serve_81 : decode cX9_serve 81 = .ok (.iconst 0, 1) := by decide +kernel
theorem dX9_serve_82 : decode cX9_serve 82 = .ok (.putfield 37, 3) := by decide +kernel
theorem dX9_serve_85 : decode cX9_serve 85 = .ok (.aload_n 0, 1) := by decide +kernel
theorem dX9_serve_86 : decode cX9_serve 86 = .ok (.getfield 21, 3) := by decide +kernel
theorem dX9_serve_89 : decode cX9_serve 89 = .ok (.iload_n 1, 1) := by decide +kernel
theorem dX9_serve_90 : decode cX9_serve 90 = .ok (.iconst 3, 1) := by decide +kernel
theorem dX9_serve_91 : decode cX9_serve 91 = .ok (.iastore, 1) := by decide +kernel
theorem dX9_serve_92 : decode cX9_serve 92 = .ok (.aload_n 0, 1) := by decide +kernel
theorem dX9_serve_93 : decode cX9_serve 93 = .ok (.getfield 18, 3) := by decide +kernel
theorem dX9_serve_96 : decode cX9_serve 96 = .ok (.iload_n 1, 1) := by decide +kernel
theorem dX9_serve_97 : decode cX9_serve 97 = .ok (.aload_n 0, 1) := by decide +kernel
theorem dX9_serve_98 : decode cX9_serve 98 = .ok (.iload_n 1, 1) := by decide +kernel
theorem dX9_serve_99 : decode cX9_serve 99 = .ok (.invokevirtual 114, 3) := by decide +kernel
theorem dX9_serve_102 : decode cX9_serve 102 = .ok (.iastore, 1) := by decide +kernel
theorem dX9_serve_103 : decode cX9_serve 103 = .ok (.aload_n 0, 1) := by decide +kernel
theorem dX9_serve_104 : decode cX9_serve 104 = .ok (.getfield 24, 3) := by decide +kernel
theorem dX9_serve_107 : decode cX9_serve 107 = .ok (.iload_n 1, 1) := by decide +kernel
theorem dX9_serve_108 : decode cX9_serve 108 = .ok (.aload_n 0, 1) := by decide +kernel
theorem dX9_serve_109 : decode cX9_serve 109 = .ok (.getfield 49, 3) := by decide +kernel
theorem dX9_serve_112 : decode cX9_serve 112 = .ok (.iload_n 1, 1) := by decide +kernel
theorem dX9_serve_113 : decode cX9_serve 113 = .ok (.aload_n 0, 1) := by decide +kernel
theorem dX9_serve_114 : decode cX9_serve 114 = .ok (.getfield 18, 3) := by decide +kernel
theorem dX9_serve_117 : decode cX9_serve 117 = .ok (.iload_n 1, 1) := by decide +kernel
theorem dX9_serve_118 : decode cX9_serve 118 = .ok (.iaload, 1) := by decide +kernel
theorem dX9_serve_119 : decode cX9_serve 119 = .ok (.invokevirtual 83, 3) := by decide +kernel
theorem dX9_serve_122 : decode cX9_serve 122 = .ok (.iastore, 1) := by decide +kernel
theorem dX9_serve_123 : decode cX9_serve 123 = .ok (.return_, 1) := by decide +kernel
theorem fl_RX9_111 : FL RX9 111 8 13 := ⟨inG (i := 229) (by decide +kernel) (by decide +kernel), by decide, by decide⟩
theorem lk_RX9_114 : Cond.methodLink RX9 114 yX9_fallOf ∈ tG := inG (i := 947) (by decide +kernel) (by decide +kernel)
theorem m_X9_fallOf : MV Y_X9_fallOf 1 9 := ⟨⟨inG (i := 950) (by decide +kernel) (by decide +kernel), inG (i := 104) (by decide +kernel) (by decide +kernel), by decide, by decide, by decide, by decide +kernel⟩, inG (i := 948) (by decide +kernel) (by decide +kernel), inG (i := 949) (by decide +kernel) (by decide +kernel), by decide⟩
def P_X9_serve_L42 (o0 : Nat) (x1 : Int) (K : St → Prop) (Q : St → Prop) : Nat → Int → St → Prop
  | 0, _, _ => False
  | n + 1, x2, σ => (if (σ 9 o0 8) ≤ x2 then K σ else 0 ≤ x2 ∧ x2 < 6 ∧ 0 ≤ wi (x2 - 1) ∧ wi (x2 - 1) < 6 ∧ (P_X9_serve_L42 o0 x1 K Q n) (wi (x2 + 1)) (up σ 1007 o0 (wi (x2 - 1)) (σ 1007 o0 x2)))
set_option maxRecDepth 20000 in
set_option maxHeartbeats 2000000 in
theorem e_P_X9_serve_L42 {o0 : Nat} {x1 : Int} {K : St → Prop} {Q : St → Prop} (hK : ∀ σ, K σ → E Y_X9_serve 2 0 0 (QV Q) ww 0 0 70 [some (vR 9 o0), some (vI x1), none] [] σ) : ∀ (n : Nat) (x2 : Int) (σ : St), P_X9_serve_L42 o0 x1 K Q n x2 σ → E Y_X9_serve 2 0 0 (QV Q) ww 0 0 42 [some (vR 9 o0), some (vI x1), some (vI x2)] [] σ := by
  intro n
  induction n with
  | zero => intro x2 σ h; exact h.elim
  | succ n hR =>
    intro x2 σ h
    unfold P_X9_serve_L42 at h
    refine E_iload_n dX9_serve_42 rfl rfl ?_
    refine E_aload_n dX9_serve_43 rfl rfl ?_
    refine E_geti (i := o0) dX9_serve_44 fl_RX9_33 rfl ?_
    refine E_icmp_ge (tgt := 70) dX9_serve_47 (by decide) (fun hc => ?_) (fun hc => ?_)
    · have h := Eq.mp (if_pos hc) h
      refine E_wk2 [some (vR 9 o0), some (vI x1), none] ⟨rfl, ⟨rfl, trivial⟩⟩ ?_
      exact hK _ h
    · have h := Eq.mp (if_neg hc) h
      refine E_aload_n dX9_serve_50 rfl rfl ?_
      refine E_getr (i := o0) dX9_serve_51 fl_RX9_30 rfl rfl (go_9_7 _ _) ?_
      refine E_iload_n dX9_serve_54 rfl rfl ?_
      refine E_ic dX9_serve_55 rfl ?_
      refine E_isub dX9_serve_56 ?_
      refine E_aload_n dX9_serve_57 rfl rfl ?_
      refine E_getr (i := o0) dX9_serve_58 fl_RX9_30 rfl rfl (go_9_7 _ _) ?_
      refine E_iload_n dX9_serve_61 rfl rfl ?_
      obtain ⟨hg0, hg1, h⟩ := h
      refine E_iald dX9_serve_62 sh_1007 hg0 hg1 ?_
      obtain ⟨hg0, hg1, h⟩ := h
      refine E_iast dX9_serve_63 sh_1007 hg0 hg1 ?_
      refine E_iinc (ls' := [some (vR 9 o0), some (vI x1), some (vI (wi (x2 + 1)))]) dX9_serve_64 rfl (by decide) rfl rfl ?_
      refine E_goto (tgt := 42) dX9_serve_67 (by decide) ?_
      exact hR _ _ h
def P_X9_serve (o0 : Nat) (σ : St) (Q : St → Prop) : Prop :=
  (if (σ 9 o0 8) = 0 then Q σ else (if ((up σ 9 o0 9 (wi ((σ 9 o0 9) + 1))) 8 0 13) ≤ ((up σ 9 o0 9 (wi ((σ 9 o0 9) + 1))) 9 o0 9) then P_X9_serve_L42 o0 ((up σ 9 o0 9 (wi ((σ 9 o0 9) + 1))) 1007 o0 0) (fun σ_1 => 0 ≤ (up σ 9 o0 9 (wi ((σ 9 o0 9) + 1))) 1007 o0 0 ∧ (up σ 9 o0 9 (wi ((σ 9 o0 9) + 1))) 1007 o0 0 < 6 ∧ P_X9_fallOf o0 ((up σ 9 o0 9 (wi ((σ 9 o0 9) + 1))) 1007 o0 0) (up (up (up σ_1 9 o0 8 (wi ((σ_1 9 o0 8) - 1))) 9 o0 9 0) 1004 o0 ((up σ 9 o0 9 (wi ((σ 9 o0 9) + 1))) 1007 o0 0) 3) (fun r_3 σ_2 => 0 ≤ (up σ 9 o0 9 (wi ((σ 9 o0 9) + 1))) 1007 o0 0 ∧ (up σ 9 o0 9 (wi ((σ 9 o0 9) + 1))) 1007 o0 0 < 6 ∧ 0 ≤ (up σ 9 o0 9 (wi ((σ 9 o0 9) + 1))) 1007 o0 0 ∧ (up σ 9 o0 9 (wi ((σ 9 o0 9) + 1))) 1007 o0 0 < 6 ∧ P_X8_beatsTo 0 ((up σ 9 o0 9 (wi ((σ 9 o0 9) + 1))) 1007 o0 0) ((up σ_2 1003 o0 ((up σ 9 o0 9 (wi ((σ 9 o0 9) + 1))) 1007 o0 0) r_3) 1003 o0 ((up σ 9 o0 9 (wi ((σ 9 o0 9) + 1))) 1007 o0 0)) (up σ_2 1003 o0 ((up σ 9 o0 9 (wi ((σ 9 o0 9) + 1))) 1007 o0 0) r_3) (fun r_5 σ_4 => 0 ≤ (up σ 9 o0 9 (wi ((σ 9 o0 9) + 1))) 1007 o0 0 ∧ (up σ 9 o0 9 (wi ((σ 9 o0 9) + 1))) 1007 o0 0 < 6 ∧ Q (up σ_4 1005 o0 ((up σ 9 o0 9 (wi ((σ 9 o0 9) + 1))) 1007 o0 0) r_5)))) Q FU 1 (up σ 9 o0 9 (wi ((σ 9 o0 9) + 1))) else Q (up σ 9 o0 9 (wi ((σ 9 o0 9) + 1)))))
set_option maxRecDepth 20000 in
set_option maxHeartbeats 2000000 in
theorem s_X9_serve {o0 : Nat} {σ : St} {Q : St → Prop} (h : P_X9_serve o0 σ Q) : Cn Y_X9_serve 2 0 0 ww σ [vR 9 o0] (QV Q) := by
  refine Cn_of [some (vR 9 o0), none, none] (by decide) (Nat.le_of_ble_eq_true rfl) rfl ?_
  unfold P_X9_serve at h
  refine E_aload_n dX9_serve_0 rfl rfl ?_
  refine E_geti (i := o0) dX9_serve_1 fl_RX9_33 rfl ?_
  refine E_if_ne (tgt := 8) dX9_serve_4 (by decide) (fun hc => ?_) (fun hc => ?_)
  · have h := Eq.mp (if_neg hc) h
    refine E_aload_n dX9_serve_8 rfl rfl ?_
    refine E_dup dX9_serve_9 (fun _ q => by cases q) ?_
    refine E_geti (i := o0) dX9_serve_10 fl_RX9_37 rfl ?_
    refine E_ic dX9_serve_13 rfl ?_
    refine E_iadd dX9_serve_14 ?_
    refine E_puti dX9_serve_15 fl_RX9_37 rfl rfl rfl ?_
    refine E_aload_n dX9_serve_18 rfl rfl ?_
    refine E_geti (i := o0) dX9_serve_19 fl_RX9_37 rfl ?_
    refine E_aload_n dX9_serve_22 rfl rfl ?_
    refine E_getr (i := o0) dX9_serve_23 fl_RX9_49 rfl rfl (go_9_0 _ _) ?_
    refine E_geti (i := 0) dX9_serve_26 fl_RX9_111 rfl ?_
    refine E_icmp_ge (tgt := 33) dX9_serve_29 (by decide) (fun hc => ?_) (fun hc => ?_)
    · have h := Eq.mp (if_pos hc) h
      refine E_aload_n dX9_serve_33 rfl rfl ?_
      refine E_getr (i := o0) dX9_serve_34 fl_RX9_30 rfl rfl (go_9_7 _ _) ?_
      refine E_ic dX9_serve_37 rfl ?_
      refine E_iald dX9_serve_38 sh_1007 (by decide) (by decide) ?_
      refine E_istore_n (ls' := [some (vR 9 o0), some (vI ((up σ 9 o0 9 (wi ((σ 9 o0 9) + 1))) 1007 o0 0)), none]) dX9_serve_39 rfl (by decide) rfl ?_
      refine E_ic dX9_serve_40 rfl ?_
      refine E_istore_n (ls' := [some (vR 9 o0), some (vI ((up σ 9 o0 9 (wi ((σ 9 o0 9) + 1))) 1007 o0 0)), some (vI 1)]) dX9_serve_41 rfl (by decide) rfl ?_
      refine e_P_X9_serve_L42 ?_ _ _ _ h
      · intro σ_1 h
        refine E_aload_n dX9_serve_70 rfl rfl ?_
        refine E_dup dX9_serve_71 (fun _ q => by cases q) ?_
        refine E_geti (i := o0) dX9_serve_72 fl_RX9_33 rfl ?_
        refine E_ic dX9_serve_75 rfl ?_
        refine E_isub dX9_serve_76 ?_
        refine E_puti dX9_serve_77 fl_RX9_33 rfl rfl rfl ?_
        refine E_aload_n dX9_serve_80 rfl rfl ?_
        refine E_ic dX9_serve_81 rfl ?_
        refine E_puti dX9_serve_82 fl_RX9_37 rfl rfl rfl ?_
        refine E_aload_n dX9_serve_85 rfl rfl ?_
        refine E_getr (i := o0) dX9_serve_86 fl_RX9_21 rfl rfl (go_9_4 _ _) ?_
        refine E_iload_n dX9_serve_89 rfl rfl ?_
        refine E_ic dX9_serve_90 rfl ?_
        obtain ⟨hg0, hg1, h⟩ := h
        refine E_iast dX9_serve_91 sh_1004 hg0 hg1 ?_
        refine E_aload_n dX9_serve_92 rfl rfl ?_
        refine E_getr (i := o0) dX9_serve_93 fl_RX9_18 rfl rfl (go_9_3 _ _) ?_
        refine E_iload_n dX9_serve_96 rfl rfl ?_
        refine E_aload_n dX9_serve_97 rfl rfl ?_
        refine E_iload_n dX9_serve_98 rfl rfl ?_
        refine E_callV (Y' := Y_X9_fallOf) (as := [vI ((up σ 9 o0 9 (wi ((σ 9 o0 9) + 1))) 1007 o0 0)]) (st := [vI ((up σ 9 o0 9 (wi ((σ 9 o0 9) + 1))) 1007 o0 0), vR 1003 o0]) dX9_serve_99 lk_RX9_114 m_X9_fallOf (by decide) (Nat.le_refl _) (Nat.le_refl _) rfl rfl (Nat.le_of_ble_eq_true rfl) (s_X9_fallOf h) (fun r0 B0 σ_2 h => ?_)
        obtain ⟨r_3, rfl, rfl, h⟩ := h
        obtain ⟨hg0, hg1, h⟩ := h
        refine E_iast dX9_serve_102 sh_1003 hg0 hg1 ?_
        refine E_aload_n dX9_serve_103 rfl rfl ?_
        refine E_getr (i := o0) dX9_serve_104 fl_RX9_24 rfl rfl (go_9_5 _ _) ?_
        refine E_iload_n dX9_serve_107 rfl rfl ?_
        refine E_aload_n dX9_serve_108 rfl rfl ?_
        refine E_getr (i := o0) dX9_serve_109 fl_RX9_49 rfl rfl (go_9_0 _ _) ?_
        refine E_iload_n dX9_serve_112 rfl rfl ?_
        refine E_aload_n dX9_serve_113 rfl rfl ?_
        refine E_getr (i := o0) dX9_serve_114 fl_RX9_18 rfl rfl (go_9_3 _ _) ?_
        refine E_iload_n dX9_serve_117 rfl rfl ?_
        obtain ⟨hg0, hg1, h⟩ := h
        refine E_iald dX9_serve_118 sh_1003 hg0 hg1 ?_
        refine E_callV (Y' := Y_X8_beatsTo) (as := [vI ((up σ 9 o0 9 (wi ((σ 9 o0 9) + 1))) 1007 o0 0), vI ((up σ_2 1003 o0 ((up σ 9 o0 9 (wi ((σ 9 o0 9) + 1))) 1007 o0 0) r_3) 1003 o0 ((up σ 9 o0 9 (wi ((σ 9 o0 9) + 1))) 1007 o0 0))]) (st := [vI ((up σ 9 o0 9 (wi ((σ 9 o0 9) + 1))) 1007 o0 0), vR 1005 o0]) dX9_serve_119 lk_RX9_83 m_X8_beatsTo (by decide) (Nat.le_refl _) (Nat.le_refl _) rfl rfl (Nat.le_of_ble_eq_true rfl) (s_X8_beatsTo h) (fun r0 B0 σ_4 h => ?_)
        obtain ⟨r_5, rfl, rfl, h⟩ := h
        obtain ⟨hg0, hg1, h⟩ := h
        refine E_iast dX9_serve_122 sh_1005 hg0 hg1 ?_
        exact E_vret dX9_serve_123 rfl ⟨rfl, rfl, h⟩
    · have h := Eq.mp (if_neg hc) h
      exact E_vret dX9_serve_32 rfl ⟨rfl, rfl, h⟩
  · have h := Eq.mp (if_pos hc) h
    exact E_vret dX9_serve_7 rfl ⟨rfl, rfl, h⟩
abbrev Y_X9_goOut : My := (yX9_goOut, cX9_goOut, 2, none)
theorem dX9_goOut_0 : decode cX9_goOut 0 = .ok (.iconst 0, 1) := by decide +kernel
theorem dX9_goOut_1 : decode cX9_goOut 1 = .ok (.istore_n 1, 1) := by decide +kernel
theorem dX9_goOut_2 : decode cX9_goOut 2 = .ok (.iload_n 1, 1) := by decide +kernel
theorem dX9_goOut_3 : decode cX9_goOut 3 = .ok (.aload_n 0, 1) := by decide +kernel
theorem dX9_goOut_4 : decode cX9_goOut 4 = .ok (.getfield 49, 3) := by decide +kernel
theorem dX9_goOut_7 : decode cX9_goOut 7 = .ok (.getfield 59, 3) := by decide +kernel
theorem dX9_goOut_10 : decode cX9_goOut 10 = .ok (.if_icmp .ge 74, 3) := by decide +kernel
theorem dX9_goOut_13 : decode cX9_goOut 13 = .ok (.aload_n 0, 1) := by decide +kernel
theorem dX9_goOut_14 : decode cX9_goOut 14 = .ok (.getfield 21, 3) := by decide +kernel
theorem dX9_goOut_17 : decode cX9_goOut 17 = .ok (.iload_n 1, 1) := by decide +kernel
theorem dX9_goOut_18 : decode cX9_goOut 18 = .ok (.iaload, 1) := by decide +kernel
theorem dX9_goOut_19 : decode cX9_goOut 19 = .ok (.iconst 1, 1) := by decide +kernel
theorem dX9_goOut_20 : decode cX9_goOut 20 = .ok (.if_icmp .ne 58, 3) := by decide +kernel
theorem dX9_goOut_23 : decode cX9_goOut 23 = .ok (.aload_n 0, 1) := by decide +kernel
theorem dX9_goOut_24 : decode cX9_goOut 24 = .ok (.getfield 24, 3) := by decide +kernel
theorem dX9_goOut_27 : decode cX9_goOut 27 = .ok (.iload_n 1, 1) := by decide +kernel
theorem dX9_goOut_28 : decode cX9_goOut 28 = .ok (.dup2, 1) := by decide +kernel
theorem dX9_goOut_29 : decode cX9_goOut 29 = .ok (.iaload, 1) := by decide +kernel
theorem dX9_goOut_30 : decode cX9_goOut 30 = .ok (.iconst 1, 1) := by decide +kernel
theorem dX9_goOut_31 : decode cX9_goOut 31 = .ok (.isub, 1) := by decide +kernel
theorem dX9_goOut_32 : decode cX9_goOut 32 = .ok (.iastore, 1) := by decide +kernel
theorem dX9_goOut_33 : decode cX9_goOut 33 = .ok (.aload_n 0, 1) := by decide +kernel
theorem dX9_goOut_34 : decode cX9_goOut 34 = .ok (.getfield 24, 3) := by decide +kernel
theorem dX9_goOut_37 : decode cX9_goOut 37 = .ok (.iload_n 1, 1) := by decide +kernel
theorem dX9_goOut_38 : decode cX9_goOut 38 = .ok (.iaload, 1) := by decide +kernel
theorem dX9_goOut_39 : decode cX9_goOut 39 = .ok (.ifCond .gt 39, 3) := by decide +kernel
theorem dX9_goOut_42 : decode cX9_goOut 42 = .ok (.aload_n 0, 1) := by decide +kernel
theorem dX9_goOut_43 : decode cX9_goOut 43 = .ok (.getfield 33, 3) := by decide +kernel
theorem dX9_goOut_46 : decode cX9_goOut 46 = .ok (.bipush 6, 2) := by decide +kernel
theorem dX9_goOut_48 : decode cX9_goOut 48 = .ok (.if_icmp .ge 30, 3) := by decide +kernel
theorem dX9_goOut_51 : decode cX9_goOut 51 = .ok (.aload_n 0, 1) := by decide +kernel
theorem dX9_goOut_52 : decode cX9_goOut 52 = .ok (.getfield 21, 3) := by decide +kernel
theorem dX9_goOut_55 : decode cX9_goOut 55 = .ok (.iload_n 1, 1) := by decide +kernel
theorem dX9_goOut_56 : decode cX9_goOut 56 = .ok (.iconst 2, 1) := by decide +kernel
theorem dX9_goOut_57 : decode cX9_goOut 57 = .ok (.iastore, 1) := by decide +kernel
theorem dX9_goOut_58 : decode cX9_goOut 58 = .ok (.aload_n 0, 1) := by decide +kernel
theorem dX9_goOut_59 : decode cX9_goOut 59 = .ok (.getfield 30, 3) := by decide +kernel
theorem dX9_goOut_62 : decode cX9_goOut 62 = .ok (.aload_n 0, 1) := by decide +kernel
theorem dX9_goOut_63 : decode cX9_goOut 63 = .ok (.getfield 33, 3) := by decide +kernel
theorem dX9_goOut_66 : decode cX9_goOut 66 = .ok (.iload_n 1, 1) := by decide +kernel
theorem dX9_goOut_67 : decode cX9_goOut 67 = .ok (.iastore, 1) := by decide +kernel
theorem dX9_goOut_68 : decode cX9_goOut 68 = .ok (.aload_n 0, 1) := by decide +kernel
theorem dX9_goOut_69 : decode cX9_goOut 69 = .ok (.dup, 1) := by decide +kernel
theorem dX9_goOut_70 : decode cX9_goOut 70 = .ok (.getfield 33, 3) := by decide +kernel
theorem dX9_goOut_73 : decode cX9_goOut 73 = .ok (.iconst 1, 1) := by decide +kernel
theorem dX9_goOut_74 : decode cX9_goOut 74 = .ok (.iadd, 1) := by decide +kernel
theorem dX9_goOut_75 : decode cX9_goOut 75 = .ok (.putfield 33, 3) := by decide +kernel
theorem dX9_goOut_78 : decode cX9_goOut 78 = .ok (.iinc 1 1, 3) := by decide +kernel
theorem dX9_goOut_81 : decode cX9_goOut 81 = .ok (.goto (-79), 3) := by decide +kernel
theorem dX9_goOut_84 : decode cX9_goOut 84 = .ok (.return_, 1) := by decide +kernel
def P_X9_goOut_L2 (o0 : Nat)  (Q : St → Prop) : Nat → Int → St → Prop
  | 0, _, _ => False
  | n + 1, x1, σ => (if (σ 8 0 11) ≤ x1 then Q σ else 0 ≤ x1 ∧ x1 < 6 ∧ (if (σ 1004 o0 x1) = 1 then 0 ≤ x1 ∧ x1 < 6 ∧ 0 ≤ x1 ∧ x1 < 6 ∧ 0 ≤ x1 ∧ x1 < 6 ∧ (if 0 < ((up σ 1005 o0 x1 (wi ((σ 1005 o0 x1) - 1))) 1005 o0 x1) then (P_X9_goOut_L2 o0 Q n) (wi (x1 + 1)) (up σ 1005 o0 x1 (wi ((σ 1005 o0 x1) - 1))) else (if 6 ≤ ((up σ 1005 o0 x1 (wi ((σ 1005 o0 x1) - 1))) 9 o0 8) then (P_X9_goOut_L2 o0 Q n) (wi (x1 + 1)) (up σ 1005 o0 x1 (wi ((σ 1005 o0 x1) - 1))) else 0 ≤ x1 ∧ x1 < 6 ∧ 0 ≤ (up (up σ 1005 o0 x1 (wi ((σ 1005 o0 x1) - 1))) 1004 o0 x1 2) 9 o0 8 ∧ (up (up σ 1005 o0 x1 (wi ((σ 1005 o0 x1) - 1))) 1004 o0 x1 2) 9 o0 8 < 6 ∧ (P_X9_goOut_L2 o0 Q n) (wi (x1 + 1)) (up (up (up (up σ 1005 o0 x1 (wi ((σ 1005 o0 x1) - 1))) 1004 o0 x1 2) 1007 o0 ((up (up σ 1005 o0 x1 (wi ((σ 1005 o0 x1) - 1))) 1004 o0 x1 2) 9 o0 8) x1) 9 o0 8 (wi (((up (up (up σ 1005 o0 x1 (wi ((σ 1005 o0 x1) - 1))) 1004 o0 x1 2) 1007 o0 ((up (up σ 1005 o0 x1 (wi ((σ 1005 o0 x1) - 1))) 1004 o0 x1 2) 9 o0 8) x1) 9 o0 8) + 1))))) else (P_X9_goOut_L2 o0 Q n) (wi (x1 + 1)) σ))
set_option maxRecDepth 20000 in
set_option maxHeartbeats 2000000 in
theorem e_P_X9_goOut_L2 {o0 : Nat}  {Q : St → Prop}  : ∀ (n : Nat) (x1 : Int) (σ : St), P_X9_goOut_L2 o0 Q n x1 σ → E Y_X9_goOut 0 0 0 (QV Q) ww 0 0 2 [some (vR 9 o0), some (vI x1)] [] σ := by
  intro n
  induction n with
  | zero => intro x1 σ h; exact h.elim
  | succ n hR =>
    intro x1 σ h
    unfold P_X9_goOut_L2 at h
    refine E_iload_n dX9_goOut_2 rfl rfl ?_
    refine E_aload_n dX9_goOut_3 rfl rfl ?_
    refine E_getr (i := o0) dX9_goOut_4 fl_RX9_49 rfl rfl (go_9_0 _ _) ?_
    refine E_geti (i := 0) dX9_goOut_7 fl_RX9_59 rfl ?_
    refine E_icmp_ge (tgt := 84) dX9_goOut_10 (by decide) (fun hc => ?_) (fun hc => ?_)
    · have h := Eq.mp (if_pos hc) h
      exact E_vret dX9_goOut_84 rfl ⟨rfl, rfl, h⟩
    · have h := Eq.mp (if_neg hc) h
      refine E_aload_n dX9_goOut_13 rfl rfl ?_
      refine E_getr (i := o0) dX9_goOut_14 fl_RX9_21 rfl rfl (go_9_4 _ _) ?_
      refine E_iload_n dX9_goOut_17 rfl rfl ?_
      obtain ⟨hg0, hg1, h⟩ := h
      refine E_iald dX9_goOut_18 sh_1004 hg0 hg1 ?_
      refine E_ic dX9_goOut_19 rfl ?_
      refine E_icmp_ne (tgt := 78) dX9_goOut_20 (by decide) (fun hc => ?_) (fun hc => ?_)
      · have h := Eq.mp (if_neg hc) h
        refine E_iinc (ls' := [some (vR 9 o0), some (vI (wi (x1 + 1)))]) dX9_goOut_78 rfl (by decide) rfl rfl ?_
        refine E_goto (tgt := 2) dX9_goOut_81 (by decide) ?_
        exact hR _ _ h
      · have h := Eq.mp (if_pos hc) h
        refine E_aload_n dX9_goOut_23 rfl rfl ?_
        refine E_getr (i := o0) dX9_goOut_24 fl_RX9_24 rfl rfl (go_9_5 _ _) ?_
        refine E_iload_n dX9_goOut_27 rfl rfl ?_
        refine E_dup2 dX9_goOut_28 (fun _ q => by cases q) (fun _ q => by cases q) ?_
        obtain ⟨hg0, hg1, h⟩ := h
        refine E_iald dX9_goOut_29 sh_1005 hg0 hg1 ?_
        refine E_ic dX9_goOut_30 rfl ?_
        refine E_isub dX9_goOut_31 ?_
        obtain ⟨hg0, hg1, h⟩ := h
        refine E_iast dX9_goOut_32 sh_1005 hg0 hg1 ?_
        refine E_aload_n dX9_goOut_33 rfl rfl ?_
        refine E_getr (i := o0) dX9_goOut_34 fl_RX9_24 rfl rfl (go_9_5 _ _) ?_
        refine E_iload_n dX9_goOut_37 rfl rfl ?_
        obtain ⟨hg0, hg1, h⟩ := h
        refine E_iald dX9_goOut_38 sh_1005 hg0 hg1 ?_
        refine E_if_gt (tgt := 78) dX9_goOut_39 (by decide) (fun hc => ?_) (fun hc => ?_)
        · have h := Eq.mp (if_pos hc) h
          refine E_iinc (ls' := [some (vR 9 o0), some (vI (wi (x1 + 1)))]) dX9_goOut_78 rfl (by decide) rfl rfl ?_
          refine E_goto (tgt := 2) dX9_goOut_81 (by decide) ?_
          exact hR _ _ h
        · have h := Eq.mp (if_neg hc) h
          refine E_aload_n dX9_goOut_42 rfl rfl ?_
          refine E_geti (i := o0) dX9_goOut_43 fl_RX9_33 rfl ?_
          refine E_bp dX9_goOut_46 rfl ?_
          refine E_icmp_ge (tgt := 78) dX9_goOut_48 (by decide) (fun hc => ?_) (fun hc => ?_)
          · have h := Eq.mp (if_pos hc) h
            refine E_iinc (ls' := [some (vR 9 o0), some (vI (wi (x1 + 1)))]) dX9_goOut_78 rfl (by decide) rfl rfl ?_
            refine E_goto (tgt := 2) dX9_goOut_81 (by decide) ?_
            exact hR _ _ h
          · have h := Eq.mp (if_neg hc) h
            refine E_aload_n dX9_goOut_51 rfl rfl ?_
            refine E_getr (i := o0) dX9_goOut_52 fl_RX9_21 rfl rfl (go_9_4 _ _) ?_
            refine E_iload_n dX9_goOut_55 rfl rfl ?_
            refine E_ic dX9_goOut_56 rfl ?_
            obtain ⟨hg0, hg1, h⟩ := h
            refine E_iast dX9_goOut_57 sh_1004 hg0 hg1 ?_
            refine E_aload_n dX9_goOut_58 rfl rfl ?_
            refine E_getr (i := o0) dX9_goOut_59 fl_RX9_30 rfl rfl (go_9_7 _ _) ?_
            refine E_aload_n dX9_goOut_62 rfl rfl ?_
            refine E_geti (i := o0) dX9_goOut_63 fl_RX9_33 rfl ?_
            refine E_iload_n dX9_goOut_66 rfl rfl ?_
            obtain ⟨hg0, hg1, h⟩ := h
            refine E_iast dX9_goOut_67 sh_1007 hg0 hg1 ?_
            refine E_aload_n dX9_goOut_68 rfl rfl ?_
            refine E_dup dX9_goOut_69 (fun _ q => by cases q) ?_
            refine E_geti (i := o0) dX9_goOut_70 fl_RX9_33 rfl ?_
            refine E_ic dX9_goOut_73 rfl ?_
            refine E_iadd dX9_goOut_74 ?_
            refine E_puti dX9_goOut_75 fl_RX9_33 rfl rfl rfl ?_
            refine E_iinc (ls' := [some (vR 9 o0), some (vI (wi (x1 + 1)))]) dX9_goOut_78 rfl (by decide) rfl rfl ?_
            refine E_goto (tgt := 2) dX9_goOut_81 (by decide) ?_
            exact hR _ _ h
def P_X9_goOut (o0 : Nat) (σ : St) (Q : St → Prop) : Prop :=
  P_X9_goOut_L2 o0 Q FU 0 σ
set_option maxRecDepth 20000 in
set_option maxHeartbeats 2000000 in
theorem s_X9_goOut {o0 : Nat} {σ : St} {Q : St → Prop} (h : P_X9_goOut o0 σ Q) : Cn Y_X9_goOut 0 0 0 ww σ [vR 9 o0] (QV Q) := by
  refine Cn_of [some (vR 9 o0), none] (by decide) (Nat.le_of_ble_eq_true rfl) rfl ?_
  unfold P_X9_goOut at h
  refine E_ic dX9_goOut_0 rfl ?_
  refine E_istore_n (ls' := [some (vR 9 o0), some (vI 0)]) dX9_goOut_1 rfl (by decide) rfl ?_
  refine e_P_X9_goOut_L2  _ _ _ h
abbrev Y_X9_draw : My := (yX9_draw, cX9_draw, 2, some .long)
theorem dX9_draw_0 : decode cX9_draw 0 = .ok (.lload_n 0, 1) := by decide +kernel
theorem dX9_draw_1 : decode cX9_draw 1 = .ok (.ldc2_w 148, 3) := by decide +kernel
theorem dX9_draw_4 : decode cX9_draw 4 = .ok (.lmul, 1) := by decide +kernel
theorem dX9_draw_5 : decode cX9_draw 5 = .ok (.ldc2_w 150, 3) := by decide +kernel
theorem dX9_draw_8 : decode cX9_draw 8 = .ok (.ladd, 1) := by decide +kernel
theorem dX9_draw_9 : decode cX9_draw 9 = .ok (.ldc2_w 152, 3) := by decide +kernel
theorem dX9_draw_12 : decode cX9_draw 12 = .ok (.lrem, 1) := by decide +kernel
theorem dX9_draw_13 : decode cX9_draw 13 = .ok (.lreturn, 1) := by decide +kernel
theorem kl_RX9_148 : Cond.constantLong RX9 148 (1103515245) ∈ tG := inG (i := 1280) (by decide +kernel) (by decide +kernel)
theorem kl_RX9_150 : Cond.constantLong RX9 150 (12345) ∈ tG := inG (i := 1281) (by decide +kernel) (by decide +kernel)
theorem kl_RX9_152 : Cond.constantLong RX9 152 (2147483648) ∈ tG := inG (i := 1282) (by decide +kernel) (by decide +kernel)
def P_X9_draw (x0 : Int) (σ : St) (Q : Int → St → Prop) : Prop :=
  Q ((wj ((wj (x0 * 1103515245)) + 12345)).tmod 2147483648) σ
set_option maxRecDepth 20000 in
set_option maxHeartbeats 2000000 in
theorem s_X9_draw {x0 : Int} {σ : St} {Q : Int → St → Prop} (h : P_X9_draw x0 σ Q) : Cn Y_X9_draw 0 0 0 ww σ [vL x0] (QL Q) := by
  refine Cn_of [some (vL x0), none] (by decide) (Nat.le_of_ble_eq_true rfl) rfl ?_
  unfold P_X9_draw at h
  refine E_lload_n dX9_draw_0 rfl rfl ?_
  refine E_ldc2 (z := 1103515245) dX9_draw_1 kl_RX9_148 (by decide) ?_
  refine E_lmul dX9_draw_4 ?_
  refine E_ldc2 (z := 12345) dX9_draw_5 kl_RX9_150 (by decide) ?_
  refine E_ladd dX9_draw_8 ?_
  refine E_ldc2 (z := 2147483648) dX9_draw_9 kl_RX9_152 (by decide) ?_
  refine E_lrem dX9_draw_12 (by decide) ?_
  exact E_lret dX9_draw_13 rfl ⟨_, rfl, rfl, h⟩
abbrev Y_X10_put : My := (yX10_put, cX10_put, 6, none)
theorem dX10_put_0 : decode cX10_put 0 = .ok (.iload_n 1, 1) := by decide +kernel
theorem dX10_put_1 : decode cX10_put 1 = .ok (.ifCond .lt 32, 3) := by decide +kernel
theorem dX10_put_4 : decode cX10_put 4 = .ok (.iload_n 1, 1) := by decide +kernel
theorem dX10_put_5 : decode cX10_put 5 = .ok (.sipush 1000, 3) := by decide +kernel
theorem dX10_put_8 : decode cX10_put 8 = .ok (.if_icmp .gt 25, 3) := by decide +kernel
theorem dX10_put_11 : decode cX10_put 11 = .ok (.aload_n 0, 1) := by decide +kernel
theorem dX10_put_12 : decode cX10_put 12 = .ok (.getfield 15, 3) := by decide +kernel
theorem dX10_put_15 : decode cX10_put 15 = .ok (.iload_n 1, 1) := by decide +kernel
theorem dX10_put_16 : decode cX10_put 16 = .ok (.iload_n 2, 1) := by decide +kernel
theorem dX10_put_17 : decode cX10_put 17 = .ok (.iastore, 1) := by decide +kernel
theorem dX10_put_18 : decode cX10_put 18 = .ok (.aload_n 0, 1) := by decide +kernel
theorem dX10_put_19 : decode cX10_put 19 = .ok (.getfield 19, 3) := by decide +kernel
theorem dX10_put_22 : decode cX10_put 22 = .ok (.iload_n 1, 1) := by decide +kernel
theorem dX10_put_23 : decode cX10_put 23 = .ok (.iload_n 3, 1) := by decide +kernel
theorem dX10_put_24 : decode cX10_put 24 = .ok (.iastore, 1) := by decide +kernel
theorem dX10_put_25 : decode cX10_put 25 = .ok (.aload_n 0, 1) := by decide +kernel
theorem dX10_put_26 : decode cX10_put 26 = .ok (.getfield 22, 3) := by decide +kernel
theorem dX10_put_29 : decode cX10_put 29 = .ok (.iload_n 1, 1) := by decide +kernel
theorem dX10_put_30 : decode cX10_put 30 = .ok (.lload 4, 2) := by decide +kernel
theorem dX10_put_32 : decode cX10_put 32 = .ok (.lastore, 1) := by decide +kernel
theorem dX10_put_33 : decode cX10_put 33 = .ok (.return_, 1) := by decide +kernel
theorem fl_RX10_15 : FL RX10 15 10 1 := ⟨inG (i := 138) (by decide +kernel) (by decide +kernel), by decide, by decide⟩
theorem fl_RX10_19 : FL RX10 19 10 2 := ⟨inG (i := 139) (by decide +kernel) (by decide +kernel), by decide, by decide⟩
theorem fl_RX10_22 : FL RX10 22 10 3 := ⟨inG (i := 140) (by decide +kernel) (by decide +kernel), by decide, by decide⟩
theorem go_10_1 (σ : St) (i : Nat) : go σ 10 i 1 = (1101, i) := rfl
theorem go_10_2 (σ : St) (i : Nat) : go σ 10 i 2 = (1102, i) := rfl
theorem go_10_3 (σ : St) (i : Nat) : go σ 10 i 3 = (1103, i) := rfl
theorem sh_1101 : shp 1101 = (0, 1001) := rfl
theorem sh_1102 : shp 1102 = (0, 1001) := rfl
theorem sh_1103 : shp 1103 = (1, 1001) := rfl
def P_X10_put (x1 : Int) (x2 : Int) (x3 : Int) (x4 : Int) (σ : St) (Q : St → Prop) : Prop :=
  (if x1 < 0 then Q σ else (if 1000 < x1 then Q σ else 0 ≤ x1 ∧ x1 < 1001 ∧ 0 ≤ x1 ∧ x1 < 1001 ∧ 0 ≤ x1 ∧ x1 < 1001 ∧ Q (up (up (up σ 1101 0 x1 x2) 1102 0 x1 x3) 1103 0 x1 x4)))
set_option maxRecDepth 20000 in
set_option maxHeartbeats 2000000 in
theorem s_X10_put {x1 : Int} {x2 : Int} {x3 : Int} {x4 : Int} {σ : St} {Q : St → Prop} (h : P_X10_put x1 x2 x3 x4 σ Q) : Cn Y_X10_put 0 0 0 ww σ [vR 10 0, vI x1, vI x2, vI x3, vL x4] (QV Q) := by
  refine Cn_of [some (vR 10 0), some (vI x1), some (vI x2), some (vI x3), some (vL x4), none] (by decide) (Nat.le_of_ble_eq_true rfl) rfl ?_
  unfold P_X10_put at h
  refine E_iload_n dX10_put_0 rfl rfl ?_
  refine E_if_lt (tgt := 33) dX10_put_1 (by decide) (fun hc => ?_) (fun hc => ?_)
  · have h := Eq.mp (if_pos hc) h
    exact E_vret dX10_put_33 rfl ⟨rfl, rfl, h⟩
  · have h := Eq.mp (if_neg hc) h
    refine E_iload_n dX10_put_4 rfl rfl ?_
    refine E_sp dX10_put_5 rfl ?_
    refine E_icmp_gt (tgt := 33) dX10_put_8 (by decide) (fun hc => ?_) (fun hc => ?_)
    · have h := Eq.mp (if_pos hc) h
      exact E_vret dX10_put_33 rfl ⟨rfl, rfl, h⟩
    · have h := Eq.mp (if_neg hc) h
      refine E_aload_n dX10_put_11 rfl rfl ?_
      refine E_getr (i := 0) dX10_put_12 fl_RX10_15 rfl rfl (go_10_1 _ _) ?_
      refine E_iload_n dX10_put_15 rfl rfl ?_
      refine E_iload_n dX10_put_16 rfl rfl ?_
      obtain ⟨hg0, hg1, h⟩ := h
      refine E_iast dX10_put_17 sh_1101 hg0 hg1 ?_
      refine E_aload_n dX10_put_18 rfl rfl ?_
      refine E_getr (i := 0) dX10_put_19 fl_RX10_19 rfl rfl (go_10_2 _ _) ?_
      refine E_iload_n dX10_put_22 rfl rfl ?_
      refine E_iload_n dX10_put_23 rfl rfl ?_
      obtain ⟨hg0, hg1, h⟩ := h
      refine E_iast dX10_put_24 sh_1102 hg0 hg1 ?_
      refine E_aload_n dX10_put_25 rfl rfl ?_
      refine E_getr (i := 0) dX10_put_26 fl_RX10_22 rfl rfl (go_10_3 _ _) ?_
      refine E_iload_n dX10_put_29 rfl rfl ?_
      refine E_lload dX10_put_30 rfl ?_
      obtain ⟨hg0, hg1, h⟩ := h
      refine E_last dX10_put_32 sh_1103 hg0 hg1 ?_
      exact E_vret dX10_put_33 rfl ⟨rfl, rfl, h⟩
abbrev Y_X10_longer : My := (yX10_longer, cX10_longer, 3, some .long)
theorem dX10_longer_0 : decode cX10_longer 0 = .ok (.lload_n 0, 1) := by decide +kernel
theorem dX10_longer_1 : decode cX10_longer 1 = .ok (.ldc2_w 70, 3) := by decide +kernel
theorem dX10_longer_4 : decode cX10_longer 4 = .ok (.lmul, 1) := by decide +kernel
theorem dX10_longer_5 : decode cX10_longer 5 = .ok (.iload_n 2, 1) := by decide +kernel
theorem dX10_longer_6 : decode cX10_longer 6 = .ok (.i2l, 1) := by decide +kernel
theorem dX10_longer_7 : decode cX10_longer 7 = .ok (.ladd, 1) := by decide +kernel
theorem dX10_longer_8 : decode cX10_longer 8 = .ok (.ldc2_w 72, 3) := by decide +kernel
theorem dX10_longer_11 : decode cX10_longer 11 = .ok (.lsub, 1) := by decide +kernel
theorem dX10_longer_12 : decode cX10_longer 12 = .ok (.lconst 1, 1) := by decide +kernel
theorem dX10_longer_13 : decode cX10_longer 13 = .ok (.ladd, 1) := by decide +kernel
theorem dX10_longer_14 : decode cX10_longer 14 = .ok (.lreturn, 1) := by decide +kernel
theorem kl_RX10_70 : Cond.constantLong RX10 70 (32) ∈ tG := inG (i := 552) (by decide +kernel) (by decide +kernel)
theorem kl_RX10_72 : Cond.constantLong RX10 72 (97) ∈ tG := inG (i := 553) (by decide +kernel) (by decide +kernel)
def P_X10_longer (x0 : Int) (x2 : Int) (σ : St) (Q : Int → St → Prop) : Prop :=
  Q (wj ((wj ((wj ((wj (x0 * 32)) + x2)) - 97)) + 1)) σ
set_option maxRecDepth 20000 in
set_option maxHeartbeats 2000000 in
theorem s_X10_longer {x0 : Int} {x2 : Int} {σ : St} {Q : Int → St → Prop} (h : P_X10_longer x0 x2 σ Q) : Cn Y_X10_longer 0 0 0 ww σ [vL x0, vI x2] (QL Q) := by
  refine Cn_of [some (vL x0), none, some (vI x2)] (by decide) (Nat.le_of_ble_eq_true rfl) rfl ?_
  unfold P_X10_longer at h
  refine E_lload_n dX10_longer_0 rfl rfl ?_
  refine E_ldc2 (z := 32) dX10_longer_1 kl_RX10_70 (by decide) ?_
  refine E_lmul dX10_longer_4 ?_
  refine E_iload_n dX10_longer_5 rfl rfl ?_
  refine E_i2l dX10_longer_6 ?_
  refine E_ladd dX10_longer_7 ?_
  refine E_ldc2 (z := 97) dX10_longer_8 kl_RX10_72 (by decide) ?_
  refine E_lsub dX10_longer_11 ?_
  refine E_lc dX10_longer_12 rfl ?_
  refine E_ladd dX10_longer_13 ?_
  exact E_lret dX10_longer_14 rfl ⟨_, rfl, rfl, h⟩
abbrev Y_X10_isSound : My := (yX10_isSound, cX10_isSound, 1, some .boolean)
theorem dX10_isSound_0 : decode cX10_isSound 0 = .ok (.aload_n 0, 1) := by decide +kernel
theorem dX10_isSound_1 : decode cX10_isSound 1 = .ok (.getfield 33, 3) := by decide +kernel
theorem dX10_isSound_4 : decode cX10_isSound 4 = .ok (.ifCond .ne 7, 3) := by decide +kernel
theorem dX10_isSound_7 : decode cX10_isSound 7 = .ok (.iconst 1, 1) := by decide +kernel
theorem dX10_isSound_8 : decode cX10_isSound 8 = .ok (.goto 4, 3) := by decide +kernel
theorem dX10_isSound_11 : decode cX10_isSound 11 = .ok (.iconst 0, 1) := by decide +kernel
theorem dX10_isSound_12 : decode cX10_isSound 12 = .ok (.ireturn, 1) := by decide +kernel
theorem fl_RX10_33 : FL RX10 33 10 6 := ⟨inG (i := 144) (by decide +kernel) (by decide +kernel), by decide, by decide⟩
def P_X10_isSound  (σ : St) (Q : Int → St → Prop) : Prop :=
  (if (σ 10 0 6) = 0 then Q 1 σ else Q 0 σ)
set_option maxRecDepth 20000 in
set_option maxHeartbeats 2000000 in
theorem s_X10_isSound  {σ : St} {Q : Int → St → Prop} (h : P_X10_isSound  σ Q) : Cn Y_X10_isSound 0 0 0 ww σ [vR 10 0] (QI Q) := by
  refine Cn_of [some (vR 10 0)] (by decide) (Nat.le_of_ble_eq_true rfl) rfl ?_
  unfold P_X10_isSound at h
  refine E_aload_n dX10_isSound_0 rfl rfl ?_
  refine E_geti (i := 0) dX10_isSound_1 fl_RX10_33 rfl ?_
  refine E_if_ne (tgt := 11) dX10_isSound_4 (by decide) (fun hc => ?_) (fun hc => ?_)
  · have h := Eq.mp (if_neg hc) h
    refine E_ic dX10_isSound_11 rfl ?_
    exact E_zret dX10_isSound_12 rfl (by decide) ⟨_, rfl, rfl, h⟩
  · have h := Eq.mp (if_pos hc) h
    refine E_ic dX10_isSound_7 rfl ?_
    refine E_goto (tgt := 12) dX10_isSound_8 (by decide) ?_
    exact E_zret dX10_isSound_12 rfl (by decide) ⟨_, rfl, rfl, h⟩
abbrev Y_X10_goesOn : My := (yX10_goesOn, cX10_goesOn, 1, some .boolean)
theorem dX10_goesOn_0 : decode cX10_goesOn 0 = .ok (.aload_n 0, 1) := by decide +kernel
theorem dX10_goesOn_1 : decode cX10_goesOn 1 = .ok (.getfield 33, 3) := by decide +kernel
theorem dX10_goesOn_4 : decode cX10_goesOn 4 = .ok (.ifCond .ne 19, 3) := by decide +kernel
theorem dX10_goesOn_7 : decode cX10_goesOn 7 = .ok (.aload_n 0, 1) := by decide +kernel
theorem dX10_goesOn_8 : decode cX10_goesOn 8 = .ok (.getfield 15, 3) := by decide +kernel
theorem dX10_goesOn_11 : decode cX10_goesOn 11 = .ok (.aload_n 0, 1) := by decide +kernel
theorem dX10_goesOn_12 : decode cX10_goesOn 12 = .ok (.getfield 30, 3) := by decide +kernel
theorem dX10_goesOn_15 : decode cX10_goesOn 15 = .ok (.iaload, 1) := by decide +kernel
theorem dX10_goesOn_16 : decode cX10_goesOn 16 = .ok (.ifCond .eq 7, 3) := by decide +kernel
theorem dX10_goesOn_19 : decode cX10_goesOn 19 = .ok (.iconst 1, 1) := by decide +kernel
theorem dX10_goesOn_20 : decode cX10_goesOn 20 = .ok (.goto 4, 3) := by decide +kernel
theorem dX10_goesOn_23 : decode cX10_goesOn 23 = .ok (.iconst 0, 1) := by decide +kernel
theorem dX10_goesOn_24 : decode cX10_goesOn 24 = .ok (.ireturn, 1) := by decide +kernel
theorem fl_RX10_30 : FL RX10 30 10 5 := ⟨inG (i := 143) (by decide +kernel) (by decide +kernel), by decide, by decide⟩
def P_X10_goesOn_J23   (Q : Int → St → Prop) (σ : St) : Prop :=
  Q 0 σ
set_option maxRecDepth 20000 in
set_option maxHeartbeats 2000000 in
theorem e_P_X10_goesOn_J23   {Q : Int → St → Prop} {σ : St}  (h : P_X10_goesOn_J23  Q σ) : E Y_X10_goesOn 0 0 0 (QI Q) ww 0 0 23 [none] [] σ := by
  unfold P_X10_goesOn_J23 at h
  refine E_ic dX10_goesOn_23 rfl ?_
  exact E_zret dX10_goesOn_24 rfl (by decide) ⟨_, rfl, rfl, h⟩
def P_X10_goesOn  (σ : St) (Q : Int → St → Prop) : Prop :=
  (if (σ 10 0 6) = 0 then 0 ≤ σ 10 0 5 ∧ σ 10 0 5 < 1001 ∧ (if (σ 1101 0 (σ 10 0 5)) = 0 then P_X10_goesOn_J23 Q σ else Q 1 σ) else P_X10_goesOn_J23 Q σ)
set_option maxRecDepth 20000 in
set_option maxHeartbeats 2000000 in
theorem s_X10_goesOn  {σ : St} {Q : Int → St → Prop} (h : P_X10_goesOn  σ Q) : Cn Y_X10_goesOn 0 0 0 ww σ [vR 10 0] (QI Q) := by
  refine Cn_of [some (vR 10 0)] (by decide) (Nat.le_of_ble_eq_true rfl) rfl ?_
  unfold P_X10_goesOn at h
  refine E_aload_n dX10_goesOn_0 rfl rfl ?_
  refine E_geti (i := 0) dX10_goesOn_1 fl_RX10_33 rfl ?_
  refine E_if_ne (tgt := 23) dX10_goesOn_4 (by decide) (fun hc => ?_) (fun hc => ?_)
  · have h := Eq.mp (if_neg hc) h
    refine E_wk2 [none] trivial ?_
    exact e_P_X10_goesOn_J23 h
  · have h := Eq.mp (if_pos hc) h
    refine E_aload_n dX10_goesOn_7 rfl rfl ?_
    refine E_getr (i := 0) dX10_goesOn_8 fl_RX10_15 rfl rfl (go_10_1 _ _) ?_
    refine E_aload_n dX10_goesOn_11 rfl rfl ?_
    refine E_geti (i := 0) dX10_goesOn_12 fl_RX10_30 rfl ?_
    obtain ⟨hg0, hg1, h⟩ := h
    refine E_iald dX10_goesOn_15 sh_1101 hg0 hg1 ?_
    refine E_if_eq (tgt := 23) dX10_goesOn_16 (by decide) (fun hc => ?_) (fun hc => ?_)
    · have h := Eq.mp (if_pos hc) h
      refine E_wk2 [none] trivial ?_
      exact e_P_X10_goesOn_J23 h
    · have h := Eq.mp (if_neg hc) h
      refine E_ic dX10_goesOn_19 rfl ?_
      refine E_goto (tgt := 24) dX10_goesOn_20 (by decide) ?_
      exact E_zret dX10_goesOn_24 rfl (by decide) ⟨_, rfl, rfl, h⟩
abbrev Y_X10_wrong : My := (yX10_wrong, cX10_wrong, 2, none)
theorem dX10_wrong_0 : decode cX10_wrong 0 = .ok (.aload_n 0, 1) := by decide +kernel
theorem dX10_wrong_1 : decode cX10_wrong 1 = .ok (.getfield 33, 3) := by decide +kernel
theorem dX10_wrong_4 : decode cX10_wrong 4 = .ok (.ifCond .ne 21, 3) := by decide +kernel
theorem dX10_wrong_7 : decode cX10_wrong 7 = .ok (.aload_n 0, 1) := by decide +kernel
theorem dX10_wrong_8 : decode cX10_wrong 8 = .ok (.iload_n 1, 1) := by decide +kernel
theorem dX10_wrong_9 : decode cX10_wrong 9 = .ok (.bipush 16, 2) := by decide +kernel
theorem dX10_wrong_11 : decode cX10_wrong 11 = .ok (.aload_n 0, 1) := by decide +kernel
theorem dX10_wrong_12 : decode cX10_wrong 12 = .ok (.getfield 19, 3) := by decide +kernel
theorem dX10_wrong_15 : decode cX10_wrong 15 = .ok (.aload_n 0, 1) := by decide +kernel
theorem dX10_wrong_16 : decode cX10_wrong 16 = .ok (.getfield 30, 3) := by decide +kernel
theorem dX10_wrong_19 : decode cX10_wrong 19 = .ok (.iaload, 1) := by decide +kernel
theorem dX10_wrong_20 : decode cX10_wrong 20 = .ok (.imul, 1) := by decide +kernel
theorem dX10_wrong_21 : decode cX10_wrong 21 = .ok (.iadd, 1) := by decide +kernel
theorem dX10_wrong_22 : decode cX10_wrong 22 = .ok (.putfield 33, 3) := by decide +kernel
theorem dX10_wrong_25 : decode cX10_wrong 25 = .ok (.return_, 1) := by decide +kernel
def P_X10_wrong (x1 : Int) (σ : St) (Q : St → Prop) : Prop :=
  (if (σ 10 0 6) = 0 then 0 ≤ σ 10 0 5 ∧ σ 10 0 5 < 1001 ∧ Q (up σ 10 0 6 (wi (x1 + (wi (16 * (σ 1102 0 (σ 10 0 5))))))) else Q σ)
set_option maxRecDepth 20000 in
set_option maxHeartbeats 2000000 in
theorem s_X10_wrong {x1 : Int} {σ : St} {Q : St → Prop} (h : P_X10_wrong x1 σ Q) : Cn Y_X10_wrong 0 0 0 ww σ [vR 10 0, vI x1] (QV Q) := by
  refine Cn_of [some (vR 10 0), some (vI x1)] (by decide) (Nat.le_of_ble_eq_true rfl) rfl ?_
  unfold P_X10_wrong at h
  refine E_aload_n dX10_wrong_0 rfl rfl ?_
  refine E_geti (i := 0) dX10_wrong_1 fl_RX10_33 rfl ?_
  refine E_if_ne (tgt := 25) dX10_wrong_4 (by decide) (fun hc => ?_) (fun hc => ?_)
  · have h := Eq.mp (if_neg hc) h
    exact E_vret dX10_wrong_25 rfl ⟨rfl, rfl, h⟩
  · have h := Eq.mp (if_pos hc) h
    refine E_aload_n dX10_wrong_7 rfl rfl ?_
    refine E_iload_n dX10_wrong_8 rfl rfl ?_
    refine E_bp dX10_wrong_9 rfl ?_
    refine E_aload_n dX10_wrong_11 rfl rfl ?_
    refine E_getr (i := 0) dX10_wrong_12 fl_RX10_19 rfl rfl (go_10_2 _ _) ?_
    refine E_aload_n dX10_wrong_15 rfl rfl ?_
    refine E_geti (i := 0) dX10_wrong_16 fl_RX10_30 rfl ?_
    obtain ⟨hg0, hg1, h⟩ := h
    refine E_iald dX10_wrong_19 sh_1102 hg0 hg1 ?_
    refine E_imul dX10_wrong_20 ?_
    refine E_iadd dX10_wrong_21 ?_
    refine E_puti dX10_wrong_22 fl_RX10_33 rfl rfl rfl ?_
    exact E_vret dX10_wrong_25 rfl ⟨rfl, rfl, h⟩
abbrev Y_X10_next : My := (yX10_next, cX10_next, 1, none)
theorem dX10_next_0 : decode cX10_next 0 = .ok (.aload_n 0, 1) := by decide +kernel
theorem dX10_next_1 : decode cX10_next 1 = .ok (.invokevirtual 83, 3) := by decide +kernel
theorem dX10_next_4 : decode cX10_next 4 = .ok (.ifCond .eq 23, 3) := by decide +kernel
theorem dX10_next_7 : decode cX10_next 7 = .ok (.aload_n 0, 1) := by decide +kernel
theorem dX10_next_8 : decode cX10_next 8 = .ok (.getfield 30, 3) := by decide +kernel
theorem dX10_next_11 : decode cX10_next 11 = .ok (.sipush 1000, 3) := by decide +kernel
theorem dX10_next_14 : decode cX10_next 14 = .ok (.if_icmp .ge 13, 3) := by decide +kernel
theorem dX10_next_17 : decode cX10_next 17 = .ok (.aload_n 0, 1) := by decide +kernel
theorem dX10_next_18 : decode cX10_next 18 = .ok (.dup, 1) := by decide +kernel
theorem dX10_next_19 : decode cX10_next 19 = .ok (.getfield 30, 3) := by decide +kernel
theorem dX10_next_22 : decode cX10_next 22 = .ok (.iconst 1, 1) := by decide +kernel
theorem dX10_next_23 : decode cX10_next 23 = .ok (.iadd, 1) := by decide +kernel
theorem dX10_next_24 : decode cX10_next 24 = .ok (.putfield 30, 3) := by decide +kernel
theorem dX10_next_27 : decode cX10_next 27 = .ok (.return_, 1) := by decide +kernel
theorem lk_RX10_83 : Cond.methodLink RX10 83 yX10_goesOn ∈ tG := inG (i := 693) (by decide +kernel) (by decide +kernel)
theorem m_X10_goesOn : MV Y_X10_goesOn 0 10 := ⟨⟨inG (i := 654) (by decide +kernel) (by decide +kernel), inG (i := 99) (by decide +kernel) (by decide +kernel), by decide, by decide, by decide, by decide +kernel⟩, inG (i := 652) (by decide +kernel) (by decide +kernel), inG (i := 653) (by decide +kernel) (by decide +kernel), by decide⟩
def P_X10_next  (σ : St) (Q : St → Prop) : Prop :=
  P_X10_goesOn σ (fun r_2 σ_1 => (if r_2 = 0 then Q σ_1 else (if 1000 ≤ (σ_1 10 0 5) then Q σ_1 else Q (up σ_1 10 0 5 (wi ((σ_1 10 0 5) + 1))))))
set_option maxRecDepth 20000 in
set_option maxHeartbeats 2000000 in
theorem s_X10_next  {σ : St} {Q : St → Prop} (h : P_X10_next  σ Q) : Cn Y_X10_next 1 0 0 ww σ [vR 10 0] (QV Q) := by
  refine Cn_of [some (vR 10 0)] (by decide) (Nat.le_of_ble_eq_true rfl) rfl ?_
  unfold P_X10_next at h
  refine E_aload_n dX10_next_0 rfl rfl ?_
  refine E_callV (Y' := Y_X10_goesOn) (as := []) (st := []) dX10_next_1 lk_RX10_83 m_X10_goesOn (by decide) (Nat.le_refl _) (Nat.le_refl _) rfl rfl (Nat.le_of_ble_eq_true rfl) (s_X10_goesOn h) (fun r0 B0 σ_1 h => ?_)
  obtain ⟨r_2, rfl, rfl, h⟩ := h
  refine E_if_eq (tgt := 27) dX10_next_4 (by decide) (fun hc => ?_) (fun hc => ?_)
  · have h := Eq.mp (if_pos hc) h
    exact E_vret dX10_next_27 rfl ⟨rfl, rfl, h⟩
  · have h := Eq.mp (if_neg hc) h
    refine E_aload_n dX10_next_7 rfl rfl ?_
    refine E_geti (i := 0) dX10_next_8 fl_RX10_30 rfl ?_
    refine E_sp dX10_next_11 rfl ?_
    refine E_icmp_ge (tgt := 27) dX10_next_14 (by decide) (fun hc => ?_) (fun hc => ?_)
    · have h := Eq.mp (if_pos hc) h
      exact E_vret dX10_next_27 rfl ⟨rfl, rfl, h⟩
    · have h := Eq.mp (if_neg hc) h
      refine E_aload_n dX10_next_17 rfl rfl ?_
      refine E_dup dX10_next_18 (fun _ q => by cases q) ?_
      refine E_geti (i := 0) dX10_next_19 fl_RX10_30 rfl ?_
      refine E_ic dX10_next_22 rfl ?_
      refine E_iadd dX10_next_23 ?_
      refine E_puti dX10_next_24 fl_RX10_30 rfl rfl rfl ?_
      exact E_vret dX10_next_27 rfl ⟨rfl, rfl, h⟩
abbrev Y_X10_isSign : My := (yX10_isSign, cX10_isSign, 2, some .boolean)
theorem dX10_isSign_0 : decode cX10_isSign 0 = .ok (.aload_n 0, 1) := by decide +kernel
theorem dX10_isSign_1 : decode cX10_isSign 1 = .ok (.getfield 15, 3) := by decide +kernel
theorem dX10_isSign_4 : decode cX10_isSign 4 = .ok (.aload_n 0, 1) := by decide +kernel
theorem dX10_isSign_5 : decode cX10_isSign 5 = .ok (.getfield 30, 3) := by decide +kernel
theorem dX10_isSign_8 : decode cX10_isSign 8 = .ok (.iaload, 1) := by decide +kernel
theorem dX10_isSign_9 : decode cX10_isSign 9 = .ok (.iconst 4, 1) := by decide +kernel
theorem dX10_isSign_10 : decode cX10_isSign 10 = .ok (.if_icmp .ne 22, 3) := by decide +kernel
theorem dX10_isSign_13 : decode cX10_isSign 13 = .ok (.aload_n 0, 1) := by decide +kernel
theorem dX10_isSign_14 : decode cX10_isSign 14 = .ok (.getfield 22, 3) := by decide +kernel
theorem dX10_isSign_17 : decode cX10_isSign 17 = .ok (.aload_n 0, 1) := by decide +kernel
theorem dX10_isSign_18 : decode cX10_isSign 18 = .ok (.getfield 30, 3) := by decide +kernel
theorem dX10_isSign_21 : decode cX10_isSign 21 = .ok (.laload, 1) := by decide +kernel
theorem dX10_isSign_22 : decode cX10_isSign 22 = .ok (.iload_n 1, 1) := by decide +kernel
theorem dX10_isSign_23 : decode cX10_isSign 23 = .ok (.i2l, 1) := by decide +kernel
theorem dX10_isSign_24 : decode cX10_isSign 24 = .ok (.lcmp, 1) := by decide +kernel
theorem dX10_isSign_25 : decode cX10_isSign 25 = .ok (.ifCond .ne 7, 3) := by decide +kernel
theorem dX10_isSign_28 : decode cX10_isSign 28 = .ok (.iconst 1, 1) := by decide +kernel
theorem dX10_isSign_29 : decode cX10_isSign 29 = .ok (.goto 4, 3) := by decide +kernel
theorem dX10_isSign_32 : decode cX10_isSign 32 = .ok (.iconst 0, 1) := by decide +kernel
theorem dX10_isSign_33 : decode cX10_isSign 33 = .ok (.ireturn, 1) := by decide +kernel
def P_X10_isSign_J32   (Q : Int → St → Prop) (σ : St) : Prop :=
  Q 0 σ
set_option maxRecDepth 20000 in
set_option maxHeartbeats 2000000 in
theorem e_P_X10_isSign_J32   {Q : Int → St → Prop} {σ : St}  (h : P_X10_isSign_J32  Q σ) : E Y_X10_isSign 0 0 0 (QI Q) ww 0 0 32 [none, none] [] σ := by
  unfold P_X10_isSign_J32 at h
  refine E_ic dX10_isSign_32 rfl ?_
  exact E_zret dX10_isSign_33 rfl (by decide) ⟨_, rfl, rfl, h⟩
def P_X10_isSign (x1 : Int) (σ : St) (Q : Int → St → Prop) : Prop :=
  0 ≤ σ 10 0 5 ∧ σ 10 0 5 < 1001 ∧ (if (σ 1101 0 (σ 10 0 5)) = 4 then 0 ≤ σ 10 0 5 ∧ σ 10 0 5 < 1001 ∧ (if (lC (σ 1103 0 (σ 10 0 5)) x1) = 0 then Q 1 σ else P_X10_isSign_J32 Q σ) else P_X10_isSign_J32 Q σ)
set_option maxRecDepth 20000 in
set_option maxHeartbeats 2000000 in
theorem s_X10_isSign {x1 : Int} {σ : St} {Q : Int → St → Prop} (h : P_X10_isSign x1 σ Q) : Cn Y_X10_isSign 0 0 0 ww σ [vR 10 0, vI x1] (QI Q) := by
  refine Cn_of [some (vR 10 0), some (vI x1)] (by decide) (Nat.le_of_ble_eq_true rfl) rfl ?_
  unfold P_X10_isSign at h
  refine E_aload_n dX10_isSign_0 rfl rfl ?_
  refine E_getr (i := 0) dX10_isSign_1 fl_RX10_15 rfl rfl (go_10_1 _ _) ?_
  refine E_aload_n dX10_isSign_4 rfl rfl ?_
  refine E_geti (i := 0) dX10_isSign_5 fl_RX10_30 rfl ?_
  obtain ⟨hg0, hg1, h⟩ := h
  refine E_iald dX10_isSign_8 sh_1101 hg0 hg1 ?_
  refine E_ic dX10_isSign_9 rfl ?_
  refine E_icmp_ne (tgt := 32) dX10_isSign_10 (by decide) (fun hc => ?_) (fun hc => ?_)
  · have h := Eq.mp (if_neg hc) h
    refine E_wk2 [none, none] trivial ?_
    exact e_P_X10_isSign_J32 h
  · have h := Eq.mp (if_pos hc) h
    refine E_aload_n dX10_isSign_13 rfl rfl ?_
    refine E_getr (i := 0) dX10_isSign_14 fl_RX10_22 rfl rfl (go_10_3 _ _) ?_
    refine E_aload_n dX10_isSign_17 rfl rfl ?_
    refine E_geti (i := 0) dX10_isSign_18 fl_RX10_30 rfl ?_
    obtain ⟨hg0, hg1, h⟩ := h
    refine E_lald dX10_isSign_21 sh_1103 hg0 hg1 ?_
    refine E_iload_n dX10_isSign_22 rfl rfl ?_
    refine E_i2l dX10_isSign_23 ?_
    refine E_lcmp dX10_isSign_24 ?_
    refine E_if_ne (tgt := 32) dX10_isSign_25 (by decide) (fun hc => ?_) (fun hc => ?_)
    · have h := Eq.mp (if_neg hc) h
      refine E_wk2 [none, none] trivial ?_
      exact e_P_X10_isSign_J32 h
    · have h := Eq.mp (if_pos hc) h
      refine E_ic dX10_isSign_28 rfl ?_
      refine E_goto (tgt := 33) dX10_isSign_29 (by decide) ?_
      exact E_zret dX10_isSign_33 rfl (by decide) ⟨_, rfl, rfl, h⟩
abbrev Y_X10_isNumber : My := (yX10_isNumber, cX10_isNumber, 1, some .boolean)
theorem dX10_isNumber_0 : decode cX10_isNumber 0 = .ok (.aload_n 0, 1) := by decide +kernel
theorem dX10_isNumber_1 : decode cX10_isNumber 1 = .ok (.getfield 15, 3) := by decide +kernel
theorem dX10_isNumber_4 : decode cX10_isNumber 4 = .ok (.aload_n 0, 1) := by decide +kernel
theorem dX10_isNumber_5 : decode cX10_isNumber 5 = .ok (.getfield 30, 3) := by decide +kernel
theorem dX10_isNumber_8 : decode cX10_isNumber 8 = .ok (.iaload, 1) := by decide +kernel
theorem dX10_isNumber_9 : decode cX10_isNumber 9 = .ok (.iconst 3, 1) := by decide +kernel
theorem dX10_isNumber_10 : decode cX10_isNumber 10 = .ok (.if_icmp .ne 7, 3) := by decide +kernel
theorem dX10_isNumber_13 : decode cX10_isNumber 13 = .ok (.iconst 1, 1) := by decide +kernel
theorem dX10_isNumber_14 : decode cX10_isNumber 14 = .ok (.goto 4, 3) := by decide +kernel
theorem dX10_isNumber_17 : decode cX10_isNumber 17 = .ok (.iconst 0, 1) := by decide +kernel
theorem dX10_isNumber_18 : decode cX10_isNumber 18 = .ok (.ireturn, 1) := by decide +kernel
def P_X10_isNumber  (σ : St) (Q : Int → St → Prop) : Prop :=
  0 ≤ σ 10 0 5 ∧ σ 10 0 5 < 1001 ∧ (if (σ 1101 0 (σ 10 0 5)) = 3 then Q 1 σ else Q 0 σ)
set_option maxRecDepth 20000 in
set_option maxHeartbeats 2000000 in
theorem s_X10_isNumber  {σ : St} {Q : Int → St → Prop} (h : P_X10_isNumber  σ Q) : Cn Y_X10_isNumber 0 0 0 ww σ [vR 10 0] (QI Q) := by
  refine Cn_of [some (vR 10 0)] (by decide) (Nat.le_of_ble_eq_true rfl) rfl ?_
  unfold P_X10_isNumber at h
  refine E_aload_n dX10_isNumber_0 rfl rfl ?_
  refine E_getr (i := 0) dX10_isNumber_1 fl_RX10_15 rfl rfl (go_10_1 _ _) ?_
  refine E_aload_n dX10_isNumber_4 rfl rfl ?_
  refine E_geti (i := 0) dX10_isNumber_5 fl_RX10_30 rfl ?_
  obtain ⟨hg0, hg1, h⟩ := h
  refine E_iald dX10_isNumber_8 sh_1101 hg0 hg1 ?_
  refine E_ic dX10_isNumber_9 rfl ?_
  refine E_icmp_ne (tgt := 17) dX10_isNumber_10 (by decide) (fun hc => ?_) (fun hc => ?_)
  · have h := Eq.mp (if_neg hc) h
    refine E_ic dX10_isNumber_17 rfl ?_
    exact E_zret dX10_isNumber_18 rfl (by decide) ⟨_, rfl, rfl, h⟩
  · have h := Eq.mp (if_pos hc) h
    refine E_ic dX10_isNumber_13 rfl ?_
    refine E_goto (tgt := 18) dX10_isNumber_14 (by decide) ?_
    exact E_zret dX10_isNumber_18 rfl (by decide) ⟨_, rfl, rfl, h⟩
abbrev Y_X10_value : My := (yX10_value, cX10_value, 1, some .long)
theorem dX10_value_0 : decode cX10_value 0 = .ok (.aload_n 0, 1) := by decide +kernel
theorem dX10_value_1 : decode cX10_value 1 = .ok (.getfield 22, 3) := by decide +kernel
theorem dX10_value_4 : decode cX10_value 4 = .ok (.aload_n 0, 1) := by decide +kernel
theorem dX10_value_5 : decode cX10_value 5 = .ok (.getfield 30, 3) := by decide +kernel
theorem dX10_value_8 : decode cX10_value 8 = .ok (.laload, 1) := by decide +kernel
theorem dX10_value_9 : decode cX10_value 9 = .ok (.lreturn, 1) := by decide +kernel
def P_X10_value  (σ : St) (Q : Int → St → Prop) : Prop :=
  0 ≤ σ 10 0 5 ∧ σ 10 0 5 < 1001 ∧ Q (σ 1103 0 (σ 10 0 5)) σ
set_option maxRecDepth 20000 in
set_option maxHeartbeats 2000000 in
theorem s_X10_value  {σ : St} {Q : Int → St → Prop} (h : P_X10_value  σ Q) : Cn Y_X10_value 0 0 0 ww σ [vR 10 0] (QL Q) := by
  refine Cn_of [some (vR 10 0)] (by decide) (Nat.le_of_ble_eq_true rfl) rfl ?_
  unfold P_X10_value at h
  refine E_aload_n dX10_value_0 rfl rfl ?_
  refine E_getr (i := 0) dX10_value_1 fl_RX10_22 rfl rfl (go_10_3 _ _) ?_
  refine E_aload_n dX10_value_4 rfl rfl ?_
  refine E_geti (i := 0) dX10_value_5 fl_RX10_30 rfl ?_
  obtain ⟨hg0, hg1, h⟩ := h
  refine E_lald dX10_value_8 sh_1103 hg0 hg1 ?_
  exact E_lret dX10_value_9 rfl ⟨_, rfl, rfl, h⟩
abbrev Y_X10_takeSign : My := (yX10_takeSign, cX10_takeSign, 2, none)
theorem dX10_takeSign_0 : decode cX10_takeSign 0 = .ok (.aload_n 0, 1) := by decide +kernel
theorem dX10_takeSign_1 : decode cX10_takeSign 1 = .ok (.iload_n 1, 1) := by decide +kernel
theorem dX10_takeSign_2 : decode cX10_takeSign 2 = .ok (.invokevirtual 102, 3) := by decide +kernel
theorem dX10_takeSign_5 : decode cX10_takeSign 5 = .ok (.ifCond .eq 10, 3) := by decide +kernel
theorem dX10_takeSign_8 : decode cX10_takeSign 8 = .ok (.aload_n 0, 1) := by decide +kernel
theorem dX10_takeSign_9 : decode cX10_takeSign 9 = .ok (.invokevirtual 95, 3) := by decide +kernel
theorem dX10_takeSign_12 : decode cX10_takeSign 12 = .ok (.goto 8, 3) := by decide +kernel
theorem dX10_takeSign_15 : decode cX10_takeSign 15 = .ok (.aload_n 0, 1) := by decide +kernel
theorem dX10_takeSign_16 : decode cX10_takeSign 16 = .ok (.iconst 1, 1) := by decide +kernel
theorem dX10_takeSign_17 : decode cX10_takeSign 17 = .ok (.invokevirtual 98, 3) := by decide +kernel
theorem dX10_takeSign_20 : decode cX10_takeSign 20 = .ok (.return_, 1) := by decide +kernel
theorem lk_RX10_102 : Cond.methodLink RX10 102 yX10_isSign ∈ tG := inG (i := 829) (by decide +kernel) (by decide +kernel)
theorem lk_RX10_95 : Cond.methodLink RX10 95 yX10_next ∈ tG := inG (i := 723) (by decide +kernel) (by decide +kernel)
theorem lk_RX10_98 : Cond.methodLink RX10 98 yX10_wrong ∈ tG := inG (i := 724) (by decide +kernel) (by decide +kernel)
theorem m_X10_isSign : MV Y_X10_isSign 1 10 := ⟨⟨inG (i := 820) (by decide +kernel) (by decide +kernel), inG (i := 99) (by decide +kernel) (by decide +kernel), by decide, by decide, by decide, by decide +kernel⟩, inG (i := 818) (by decide +kernel) (by decide +kernel), inG (i := 819) (by decide +kernel) (by decide +kernel), by decide⟩
theorem m_X10_next : MV Y_X10_next 0 10 := ⟨⟨inG (i := 692) (by decide +kernel) (by decide +kernel), inG (i := 99) (by decide +kernel) (by decide +kernel), by decide, by decide, by decide, by decide +kernel⟩, inG (i := 690) (by decide +kernel) (by decide +kernel), inG (i := 691) (by decide +kernel) (by decide +kernel), by decide⟩
theorem m_X10_wrong : MV Y_X10_wrong 1 10 := ⟨⟨inG (i := 688) (by decide +kernel) (by decide +kernel), inG (i := 99) (by decide +kernel) (by decide +kernel), by decide, by decide, by decide, by decide +kernel⟩, inG (i := 686) (by decide +kernel) (by decide +kernel), inG (i := 687) (by decide +kernel) (by decide +kernel), by decide⟩
def P_X10_takeSign (x1 : Int) (σ : St) (Q : St → Prop) : Prop :=
  P_X10_isSign x1 σ (fun r_2 σ_1 => (if r_2 = 0 then P_X10_wrong 1 σ_1 (fun σ_3 => Q σ_3) else P_X10_next σ_1 (fun σ_4 => Q σ_4)))
set_option maxRecDepth 20000 in
set_option maxHeartbeats 2000000 in
theorem s_X10_takeSign {x1 : Int} {σ : St} {Q : St → Prop} (h : P_X10_takeSign x1 σ Q) : Cn Y_X10_takeSign 2 0 0 ww σ [vR 10 0, vI x1] (QV Q) := by
  refine Cn_of [some (vR 10 0), some (vI x1)] (by decide) (Nat.le_of_ble_eq_true rfl) rfl ?_
  unfold P_X10_takeSign at h
  refine E_aload_n dX10_takeSign_0 rfl rfl ?_
  refine E_iload_n dX10_takeSign_1 rfl rfl ?_
  refine E_callV (Y' := Y_X10_isSign) (as := [vI x1]) (st := []) dX10_takeSign_2 lk_RX10_102 m_X10_isSign (by decide) (Nat.le_refl _) (Nat.le_refl _) rfl rfl (Nat.le_of_ble_eq_true rfl) (s_X10_isSign h) (fun r0 B0 σ_1 h => ?_)
  obtain ⟨r_2, rfl, rfl, h⟩ := h
  refine E_if_eq (tgt := 15) dX10_takeSign_5 (by decide) (fun hc => ?_) (fun hc => ?_)
  · have h := Eq.mp (if_pos hc) h
    refine E_aload_n dX10_takeSign_15 rfl rfl ?_
    refine E_ic dX10_takeSign_16 rfl ?_
    refine E_callV (Y' := Y_X10_wrong) (as := [vI 1]) (st := []) dX10_takeSign_17 lk_RX10_98 m_X10_wrong (by decide) (Nat.le_refl _) (Nat.le_refl _) rfl rfl (Nat.le_of_ble_eq_true rfl) (s_X10_wrong h) (fun r0 B0 σ_3 h => ?_)
    obtain ⟨rfl, rfl, h⟩ := h
    exact E_vret dX10_takeSign_20 rfl ⟨rfl, rfl, h⟩
  · have h := Eq.mp (if_neg hc) h
    refine E_aload_n dX10_takeSign_8 rfl rfl ?_
    refine E_callV (Y' := Y_X10_next) (as := []) (st := []) dX10_takeSign_9 lk_RX10_95 m_X10_next (by decide) (Nat.le_refl _) (Nat.le_refl _) rfl rfl (Nat.le_of_ble_eq_true rfl) (s_X10_next h) (fun r0 B0 σ_4 h => ?_)
    obtain ⟨rfl, rfl, h⟩ := h
    refine E_goto (tgt := 20) dX10_takeSign_12 (by decide) ?_
    exact E_vret dX10_takeSign_20 rfl ⟨rfl, rfl, h⟩
abbrev Y_X10_indexOf : My := (yX10_indexOf, cX10_indexOf, 5, some .int)
theorem dX10_indexOf_0 : decode cX10_indexOf 0 = .ok (.iconst 0, 1) := by decide +kernel
theorem dX10_indexOf_1 : decode cX10_indexOf 1 = .ok (.istore 4, 2) := by decide +kernel
theorem dX10_indexOf_3 : decode cX10_indexOf 3 = .ok (.iload 4, 2) := by decide +kernel
theorem dX10_indexOf_5 : decode cX10_indexOf 5 = .ok (.iload_n 1, 1) := by decide +kernel
theorem dX10_indexOf_6 : decode cX10_indexOf 6 = .ok (.if_icmp .ge 28, 3) := by decide +kernel
theorem dX10_indexOf_9 : decode cX10_indexOf 9 = .ok (.iload 4, 2) := by decide +kernel
theorem dX10_indexOf_11 : decode cX10_indexOf 11 = .ok (.aload_n 0, 1) := by decide +kernel
theorem dX10_indexOf_12 : decode cX10_indexOf 12 = .ok (.arraylength, 1) := by decide +kernel
theorem dX10_indexOf_13 : decode cX10_indexOf 13 = .ok (.if_icmp .ge 21, 3) := by decide +kernel
theorem dX10_indexOf_16 : decode cX10_indexOf 16 = .ok (.aload_n 0, 1) := by decide +kernel
theorem dX10_indexOf_17 : decode cX10_indexOf 17 = .ok (.iload 4, 2) := by decide +kernel
theorem dX10_indexOf_19 : decode cX10_indexOf 19 = .ok (.laload, 1) := by decide +kernel
theorem dX10_indexOf_20 : decode cX10_indexOf 20 = .ok (.lload_n 2, 1) := by decide +kernel
theorem dX10_indexOf_21 : decode cX10_indexOf 21 = .ok (.lcmp, 1) := by decide +kernel
theorem dX10_indexOf_22 : decode cX10_indexOf 22 = .ok (.ifCond .ne 6, 3) := by decide +kernel
theorem dX10_indexOf_25 : decode cX10_indexOf 25 = .ok (.iload 4, 2) := by decide +kernel
theorem dX10_indexOf_27 : decode cX10_indexOf 27 = .ok (.ireturn, 1) := by decide +kernel
theorem dX10_indexOf_28 : decode cX10_indexOf 28 = .ok (.iinc 4 1, 3) := by decide +kernel
theorem dX10_indexOf_31 : decode cX10_indexOf 31 = .ok (.goto (-28), 3) := by decide +kernel
theorem dX10_indexOf_34 : decode cX10_indexOf 34 = .ok (.iconst (-1), 1) := by decide +kernel
theorem dX10_indexOf_35 : decode cX10_indexOf 35 = .ok (.ireturn, 1) := by decide +kernel
def P_X10_indexOf_L3 (t0 : Nat) (o0 : Nat) (x1 : Int) (x2 : Int)  (Q : Int → St → Prop) : Nat → Int → St → Prop
  | 0, _, _ => False
  | n + 1, x4, σ => (if x1 ≤ x4 then Q (-1) σ else (shp t0).1 = 1 ∧ (shp t0).2 < 2147483648 ∧ (if ((shp t0).2 : Int) ≤ x4 then Q (-1) σ else (shp t0).1 = 1 ∧ 0 ≤ x4 ∧ x4 < ((shp t0).2 : Int) ∧ (if (lC (σ t0 o0 x4) x2) = 0 then Q x4 σ else (P_X10_indexOf_L3 t0 o0 x1 x2 Q n) (wi (x4 + 1)) σ)))
set_option maxRecDepth 20000 in
set_option maxHeartbeats 2000000 in
theorem e_P_X10_indexOf_L3 {t0 : Nat} {o0 : Nat} {x1 : Int} {x2 : Int}  {Q : Int → St → Prop}  : ∀ (n : Nat) (x4 : Int) (σ : St), P_X10_indexOf_L3 t0 o0 x1 x2 Q n x4 σ → E Y_X10_indexOf 0 0 0 (QI Q) ww 0 0 3 [some (vR t0 o0), some (vI x1), some (vL x2), none, some (vI x4)] [] σ := by
  intro n
  induction n with
  | zero => intro x4 σ h; exact h.elim
  | succ n hR =>
    intro x4 σ h
    unfold P_X10_indexOf_L3 at h
    refine E_iload dX10_indexOf_3 rfl ?_
    refine E_iload_n dX10_indexOf_5 rfl rfl ?_
    refine E_icmp_ge (tgt := 34) dX10_indexOf_6 (by decide) (fun hc => ?_) (fun hc => ?_)
    · have h := Eq.mp (if_pos hc) h
      refine E_ic dX10_indexOf_34 rfl ?_
      exact E_iret dX10_indexOf_35 rfl ⟨_, rfl, rfl, h⟩
    · have h := Eq.mp (if_neg hc) h
      refine E_iload dX10_indexOf_9 rfl ?_
      refine E_aload_n dX10_indexOf_11 rfl rfl ?_
      obtain ⟨hg0, hg1, h⟩ := h
      refine E_alen dX10_indexOf_12 (Prod.ext hg0 rfl) (by decide) hg1 ?_
      refine E_icmp_ge (tgt := 34) dX10_indexOf_13 (by decide) (fun hc => ?_) (fun hc => ?_)
      · have h := Eq.mp (if_pos hc) h
        refine E_ic dX10_indexOf_34 rfl ?_
        exact E_iret dX10_indexOf_35 rfl ⟨_, rfl, rfl, h⟩
      · have h := Eq.mp (if_neg hc) h
        refine E_aload_n dX10_indexOf_16 rfl rfl ?_
        refine E_iload dX10_indexOf_17 rfl ?_
        obtain ⟨hg0, hg1, hg2, h⟩ := h
        refine E_lald dX10_indexOf_19 (Prod.ext hg0 rfl) hg1 hg2 ?_
        refine E_lload_n dX10_indexOf_20 rfl rfl ?_
        refine E_lcmp dX10_indexOf_21 ?_
        refine E_if_ne (tgt := 28) dX10_indexOf_22 (by decide) (fun hc => ?_) (fun hc => ?_)
        · have h := Eq.mp (if_neg hc) h
          refine E_iinc (ls' := [some (vR t0 o0), some (vI x1), some (vL x2), none, some (vI (wi (x4 + 1)))]) dX10_indexOf_28 rfl (by decide) rfl rfl ?_
          refine E_goto (tgt := 3) dX10_indexOf_31 (by decide) ?_
          exact hR _ _ h
        · have h := Eq.mp (if_pos hc) h
          refine E_iload dX10_indexOf_25 rfl ?_
          exact E_iret dX10_indexOf_27 rfl ⟨_, rfl, rfl, h⟩
def P_X10_indexOf (t0 : Nat) (o0 : Nat) (x1 : Int) (x2 : Int) (σ : St) (Q : Int → St → Prop) : Prop :=
  P_X10_indexOf_L3 t0 o0 x1 x2 Q FU 0 σ
set_option maxRecDepth 20000 in
set_option maxHeartbeats 2000000 in
theorem s_X10_indexOf {t0 : Nat} {o0 : Nat} {x1 : Int} {x2 : Int} {σ : St} {Q : Int → St → Prop} (h : P_X10_indexOf t0 o0 x1 x2 σ Q) : Cn Y_X10_indexOf 0 0 0 ww σ [vR t0 o0, vI x1, vL x2] (QI Q) := by
  refine Cn_of [some (vR t0 o0), some (vI x1), some (vL x2), none, none] (by decide) (Nat.le_of_ble_eq_true rfl) rfl ?_
  unfold P_X10_indexOf at h
  refine E_ic dX10_indexOf_0 rfl ?_
  refine E_istore (ls' := [some (vR t0 o0), some (vI x1), some (vL x2), none, some (vI 0)]) dX10_indexOf_1 (by decide) rfl ?_
  refine e_P_X10_indexOf_L3  _ _ _ h
