abbrev Y_X8_putOnRail : My := (yX8_putOnRail, cX8_putOnRail, 3, none)
theorem dX8_putOnRail_0 : decode cX8_putOnRail 0 = .ok (.iload_n 1, 1) := by decide +kernel
theorem dX8_putOnRail_1 : decode cX8_putOnRail 1 = .ok (.istore_n 2, 1) := by decide +kernel
theorem dX8_putOnRail_2 : decode cX8_putOnRail 2 = .ok (.iload_n 2, 1) := by decide +kernel
theorem dX8_putOnRail_3 : decode cX8_putOnRail 3 = .ok (.ifCond .le 45, 3) := by decide +kernel
theorem dX8_putOnRail_6 : decode cX8_putOnRail 6 = .ok (.aload_n 0, 1) := by decide +kernel
theorem dX8_putOnRail_7 : decode cX8_putOnRail 7 = .ok (.getfield 9, 3) := by decide +kernel
theorem dX8_putOnRail_10 : decode cX8_putOnRail 10 = .ok (.aload_n 0, 1) := by decide +kernel
theorem dX8_putOnRail_11 : decode cX8_putOnRail 11 = .ok (.getfield 22, 3) := by decide +kernel
theorem dX8_putOnRail_14 : decode cX8_putOnRail 14 = .ok (.iload_n 2, 1) := by decide +kernel
theorem dX8_putOnRail_15 : decode cX8_putOnRail 15 = .ok (.iconst 1, 1) := by decide +kernel
theorem dX8_putOnRail_16 : decode cX8_putOnRail 16 = .ok (.isub, 1) := by decide +kernel
theorem dX8_putOnRail_17 : decode cX8_putOnRail 17 = .ok (.iaload, 1) := by decide +kernel
theorem dX8_putOnRail_18 : decode cX8_putOnRail 18 = .ok (.iaload, 1) := by decide +kernel
theorem dX8_putOnRail_19 : decode cX8_putOnRail 19 = .ok (.aload_n 0, 1) := by decide +kernel
theorem dX8_putOnRail_20 : decode cX8_putOnRail 20 = .ok (.getfield 9, 3) := by decide +kernel
theorem dX8_putOnRail_23 : decode cX8_putOnRail 23 = .ok (.iload_n 1, 1) := by decide +kernel
theorem dX8_putOnRail_24 : decode cX8_putOnRail 24 = .ok (.iaload, 1) := by decide +kernel
theorem dX8_putOnRail_25 : decode cX8_putOnRail 25 = .ok (.if_icmp .le 23, 3) := by decide +kernel
theorem dX8_putOnRail_28 : decode cX8_putOnRail 28 = .ok (.aload_n 0, 1) := by decide +kernel
theorem dX8_putOnRail_29 : decode cX8_putOnRail 29 = .ok (.getfield 22, 3) := by decide +kernel
theorem dX8_putOnRail_32 : decode cX8_putOnRail 32 = .ok (.iload_n 2, 1) := by decide +kernel
theorem dX8_putOnRail_33 : decode cX8_putOnRail 33 = .ok (.aload_n 0, 1) := by decide +kernel
theorem dX8_putOnRail_34 : decode cX8_putOnRail 34 = .ok (.getfield 22, 3) := by decide +kernel
theorem dX8_putOnRail_37 : decode cX8_putOnRail 37 = .ok (.iload_n 2, 1) := by decide +kernel
theorem dX8_putOnRail_38 : decode cX8_putOnRail 38 = .ok (.iconst 1, 1) := by decide +kernel
theorem dX8_putOnRail_39 : decode cX8_putOnRail 39 = .ok (.isub, 1) := by decide +kernel
theorem dX8_putOnRail_40 : decode cX8_putOnRail 40 = .ok (.iaload, 1) := by decide +kernel
theorem dX8_putOnRail_41 : decode cX8_putOnRail 41 = .ok (.iastore, 1) := by decide +kernel
theorem dX8_putOnRail_42 : decode cX8_putOnRail 42 = .ok (.iinc 2 (-1), 3) := by decide +kernel
theorem dX8_putOnRail_45 : decode cX8_putOnRail 45 = .ok (.goto (-43), 3) := by decide +kernel
theorem dX8_putOnRail_48 : decode cX8_putOnRail 48 = .ok (.aload_n 0, 1) := by decide +kernel
theorem dX8_putOnRail_49 : decode cX8_putOnRail 49 = .ok (.getfield 22, 3) := by decide +kernel
theorem dX8_putOnRail_52 : decode cX8_putOnRail 52 = .ok (.iload_n 2, 1) := by decide +kernel
theorem dX8_putOnRail_53 : decode cX8_putOnRail 53 = .ok (.iload_n 1, 1) := by decide +kernel
theorem dX8_putOnRail_54 : decode cX8_putOnRail 54 = .ok (.iastore, 1) := by decide +kernel
theorem dX8_putOnRail_55 : decode cX8_putOnRail 55 = .ok (.return_, 1) := by decide +kernel
def P_X8_putOnRail_J48 (o0 : Nat) (x1 : Int) (x2 : Int) (R : Int → St → Prop) (Q : St → Prop) (σ : St) : Prop :=
  0 ≤ x2 ∧ x2 < 6 ∧ Q (up σ 903 o0 x2 x1)
set_option maxRecDepth 20000 in
set_option maxHeartbeats 2000000 in
theorem e_P_X8_putOnRail_J48 {o0 : Nat} {x1 : Int} {x2 : Int} {R : Int → St → Prop} {Q : St → Prop} {σ : St} (hR : ∀ x2 σ, R x2 σ → E Y_X8_putOnRail 0 0 0 (QV Q) ww 0 0 2 [some (vR 8 o0), some (vI x1), some (vI x2)] [] σ) (h : P_X8_putOnRail_J48 o0 x1 x2 R Q σ) : E Y_X8_putOnRail 0 0 0 (QV Q) ww 0 0 48 [some (vR 8 o0), some (vI x1), some (vI x2)] [] σ := by
  unfold P_X8_putOnRail_J48 at h
  refine E_aload_n dX8_putOnRail_48 rfl rfl ?_
  refine E_getr (i := o0) dX8_putOnRail_49 fl_RX8_22 rfl rfl (go_8_3 _ _) ?_
  refine E_iload_n dX8_putOnRail_52 rfl rfl ?_
  refine E_iload_n dX8_putOnRail_53 rfl rfl ?_
  obtain ⟨hg0, hg1, h⟩ := h
  refine E_iast dX8_putOnRail_54 sh_903 hg0 hg1 ?_
  exact E_vret dX8_putOnRail_55 rfl ⟨rfl, rfl, h⟩
def P_X8_putOnRail_L2 (o0 : Nat) (x1 : Int)  (Q : St → Prop) : Nat → Int → St → Prop
  | 0, _, _ => False
  | n + 1, x2, σ => (if x2 ≤ 0 then P_X8_putOnRail_J48 o0 x1 x2 (P_X8_putOnRail_L2 o0 x1 Q n) Q σ else 0 ≤ wi (x2 - 1) ∧ wi (x2 - 1) < 6 ∧ 0 ≤ σ 903 o0 (wi (x2 - 1)) ∧ σ 903 o0 (wi (x2 - 1)) < 6 ∧ 0 ≤ x1 ∧ x1 < 6 ∧ (if (σ 900 o0 (σ 903 o0 (wi (x2 - 1)))) ≤ (σ 900 o0 x1) then P_X8_putOnRail_J48 o0 x1 x2 (P_X8_putOnRail_L2 o0 x1 Q n) Q σ else 0 ≤ wi (x2 - 1) ∧ wi (x2 - 1) < 6 ∧ 0 ≤ x2 ∧ x2 < 6 ∧ (P_X8_putOnRail_L2 o0 x1 Q n) (wi (x2 + (-1))) (up σ 903 o0 x2 (σ 903 o0 (wi (x2 - 1))))))
set_option maxRecDepth 20000 in
set_option maxHeartbeats 2000000 in
theorem e_P_X8_putOnRail_L2 {o0 : Nat} {x1 : Int}  {Q : St → Prop}  : ∀ (n : Nat) (x2 : Int) (σ : St), P_X8_putOnRail_L2 o0 x1 Q n x2 σ → E Y_X8_putOnRail 0 0 0 (QV Q) ww 0 0 2 [some (vR 8 o0), some (vI x1), some (vI x2)] [] σ := by
  intro n
  induction n with
  | zero => intro x2 σ h; exact h.elim
  | succ n hR =>
    intro x2 σ h
    unfold P_X8_putOnRail_L2 at h
    refine E_iload_n dX8_putOnRail_2 rfl rfl ?_
    refine E_if_le (tgt := 48) dX8_putOnRail_3 (by decide) (fun hc => ?_) (fun hc => ?_)
    · have h := Eq.mp (if_pos hc) h
      exact e_P_X8_putOnRail_J48 hR h
    · have h := Eq.mp (if_neg hc) h
      refine E_aload_n dX8_putOnRail_6 rfl rfl ?_
      refine E_getr (i := o0) dX8_putOnRail_7 fl_RX8_9 rfl rfl (go_8_0 _ _) ?_
      refine E_aload_n dX8_putOnRail_10 rfl rfl ?_
      refine E_getr (i := o0) dX8_putOnRail_11 fl_RX8_22 rfl rfl (go_8_3 _ _) ?_
      refine E_iload_n dX8_putOnRail_14 rfl rfl ?_
      refine E_ic dX8_putOnRail_15 rfl ?_
      refine E_isub dX8_putOnRail_16 ?_
      obtain ⟨hg0, hg1, h⟩ := h
      refine E_iald dX8_putOnRail_17 sh_903 hg0 hg1 ?_
      obtain ⟨hg0, hg1, h⟩ := h
      refine E_iald dX8_putOnRail_18 sh_900 hg0 hg1 ?_
      refine E_aload_n dX8_putOnRail_19 rfl rfl ?_
      refine E_getr (i := o0) dX8_putOnRail_20 fl_RX8_9 rfl rfl (go_8_0 _ _) ?_
      refine E_iload_n dX8_putOnRail_23 rfl rfl ?_
      obtain ⟨hg0, hg1, h⟩ := h
      refine E_iald dX8_putOnRail_24 sh_900 hg0 hg1 ?_
      refine E_icmp_le (tgt := 48) dX8_putOnRail_25 (by decide) (fun hc => ?_) (fun hc => ?_)
      · have h := Eq.mp (if_pos hc) h
        exact e_P_X8_putOnRail_J48 hR h
      · have h := Eq.mp (if_neg hc) h
        refine E_aload_n dX8_putOnRail_28 rfl rfl ?_
        refine E_getr (i := o0) dX8_putOnRail_29 fl_RX8_22 rfl rfl (go_8_3 _ _) ?_
        refine E_iload_n dX8_putOnRail_32 rfl rfl ?_
        refine E_aload_n dX8_putOnRail_33 rfl rfl ?_
        refine E_getr (i := o0) dX8_putOnRail_34 fl_RX8_22 rfl rfl (go_8_3 _ _) ?_
        refine E_iload_n dX8_putOnRail_37 rfl rfl ?_
        refine E_ic dX8_putOnRail_38 rfl ?_
        refine E_isub dX8_putOnRail_39 ?_
        obtain ⟨hg0, hg1, h⟩ := h
        refine E_iald dX8_putOnRail_40 sh_903 hg0 hg1 ?_
        obtain ⟨hg0, hg1, h⟩ := h
        refine E_iast dX8_putOnRail_41 sh_903 hg0 hg1 ?_
        refine E_iinc (ls' := [some (vR 8 o0), some (vI x1), some (vI (wi (x2 + (-1))))]) dX8_putOnRail_42 rfl (by decide) rfl rfl ?_
        refine E_goto (tgt := 2) dX8_putOnRail_45 (by decide) ?_
        exact hR _ _ h
def P_X8_putOnRail (o0 : Nat) (x1 : Int) (σ : St) (Q : St → Prop) : Prop :=
  P_X8_putOnRail_L2 o0 x1 Q FU x1 σ
set_option maxRecDepth 20000 in
set_option maxHeartbeats 2000000 in
theorem s_X8_putOnRail {o0 : Nat} {x1 : Int} {σ : St} {Q : St → Prop} (h : P_X8_putOnRail o0 x1 σ Q) : Cn Y_X8_putOnRail 0 0 0 ww σ [vR 8 o0, vI x1] (QV Q) := by
  refine Cn_of [some (vR 8 o0), some (vI x1), none] (by decide) (Nat.le_of_ble_eq_true rfl) rfl ?_
  unfold P_X8_putOnRail at h
  refine E_iload_n dX8_putOnRail_0 rfl rfl ?_
  refine E_istore_n (ls' := [some (vR 8 o0), some (vI x1), some (vI x1)]) dX8_putOnRail_1 rfl (by decide) rfl ?_
  refine e_P_X8_putOnRail_L2  _ _ _ h
abbrev Y_X8_addBall : My := (yX8_addBall, cX8_addBall, 6, none)
theorem dX8_addBall_0 : decode cX8_addBall 0 = .ok (.aload_n 0, 1) := by decide +kernel
theorem dX8_addBall_1 : decode cX8_addBall 1 = .ok (.getfield 51, 3) := by decide +kernel
theorem dX8_addBall_4 : decode cX8_addBall 4 = .ok (.bipush 6, 2) := by decide +kernel
theorem dX8_addBall_6 : decode cX8_addBall 6 = .ok (.if_icmp .ge 55, 3) := by decide +kernel
theorem dX8_addBall_9 : decode cX8_addBall 9 = .ok (.aload_n 0, 1) := by decide +kernel
theorem dX8_addBall_10 : decode cX8_addBall 10 = .ok (.getfield 34, 3) := by decide +kernel
theorem dX8_addBall_13 : decode cX8_addBall 13 = .ok (.aload_n 0, 1) := by decide +kernel
theorem dX8_addBall_14 : decode cX8_addBall 14 = .ok (.getfield 51, 3) := by decide +kernel
theorem dX8_addBall_17 : decode cX8_addBall 17 = .ok (.lload_n 1, 1) := by decide +kernel
theorem dX8_addBall_18 : decode cX8_addBall 18 = .ok (.lastore, 1) := by decide +kernel
theorem dX8_addBall_19 : decode cX8_addBall 19 = .ok (.aload_n 0, 1) := by decide +kernel
theorem dX8_addBall_20 : decode cX8_addBall 20 = .ok (.getfield 25, 3) := by decide +kernel
theorem dX8_addBall_23 : decode cX8_addBall 23 = .ok (.aload_n 0, 1) := by decide +kernel
theorem dX8_addBall_24 : decode cX8_addBall 24 = .ok (.getfield 51, 3) := by decide +kernel
theorem dX8_addBall_27 : decode cX8_addBall 27 = .ok (.iload_n 3, 1) := by decide +kernel
theorem dX8_addBall_28 : decode cX8_addBall 28 = .ok (.iastore, 1) := by decide +kernel
theorem dX8_addBall_29 : decode cX8_addBall 29 = .ok (.aload_n 0, 1) := by decide +kernel
theorem dX8_addBall_30 : decode cX8_addBall 30 = .ok (.getfield 28, 3) := by decide +kernel
theorem dX8_addBall_33 : decode cX8_addBall 33 = .ok (.aload_n 0, 1) := by decide +kernel
theorem dX8_addBall_34 : decode cX8_addBall 34 = .ok (.getfield 51, 3) := by decide +kernel
theorem dX8_addBall_37 : decode cX8_addBall 37 = .ok (.iload 4, 2) := by decide +kernel
theorem dX8_addBall_39 : decode cX8_addBall 39 = .ok (.iastore, 1) := by decide +kernel
theorem dX8_addBall_40 : decode cX8_addBall 40 = .ok (.aload_n 0, 1) := by decide +kernel
theorem dX8_addBall_41 : decode cX8_addBall 41 = .ok (.getfield 31, 3) := by decide +kernel
theorem dX8_addBall_44 : decode cX8_addBall 44 = .ok (.aload_n 0, 1) := by decide +kernel
theorem dX8_addBall_45 : decode cX8_addBall 45 = .ok (.getfield 51, 3) := by decide +kernel
theorem dX8_addBall_48 : decode cX8_addBall 48 = .ok (.iload 5, 2) := by decide +kernel
theorem dX8_addBall_50 : decode cX8_addBall 50 = .ok (.iastore, 1) := by decide +kernel
theorem dX8_addBall_51 : decode cX8_addBall 51 = .ok (.aload_n 0, 1) := by decide +kernel
theorem dX8_addBall_52 : decode cX8_addBall 52 = .ok (.dup, 1) := by decide +kernel
theorem dX8_addBall_53 : decode cX8_addBall 53 = .ok (.getfield 51, 3) := by decide +kernel
theorem dX8_addBall_56 : decode cX8_addBall 56 = .ok (.iconst 1, 1) := by decide +kernel
theorem dX8_addBall_57 : decode cX8_addBall 57 = .ok (.iadd, 1) := by decide +kernel
theorem dX8_addBall_58 : decode cX8_addBall 58 = .ok (.putfield 51, 3) := by decide +kernel
theorem dX8_addBall_61 : decode cX8_addBall 61 = .ok (.return_, 1) := by decide +kernel
def P_X8_addBall (o0 : Nat) (x1 : Int) (x3 : Int) (x4 : Int) (x5 : Int) (σ : St) (Q : St → Prop) : Prop :=
  (if 6 ≤ (σ 8 o0 11) then Q σ else 0 ≤ σ 8 o0 11 ∧ σ 8 o0 11 < 6 ∧ 0 ≤ (up σ 907 o0 (σ 8 o0 11) x1) 8 o0 11 ∧ (up σ 907 o0 (σ 8 o0 11) x1) 8 o0 11 < 6 ∧ 0 ≤ (up (up σ 907 o0 (σ 8 o0 11) x1) 904 o0 ((up σ 907 o0 (σ 8 o0 11) x1) 8 o0 11) x3) 8 o0 11 ∧ (up (up σ 907 o0 (σ 8 o0 11) x1) 904 o0 ((up σ 907 o0 (σ 8 o0 11) x1) 8 o0 11) x3) 8 o0 11 < 6 ∧ 0 ≤ (up (up (up σ 907 o0 (σ 8 o0 11) x1) 904 o0 ((up σ 907 o0 (σ 8 o0 11) x1) 8 o0 11) x3) 905 o0 ((up (up σ 907 o0 (σ 8 o0 11) x1) 904 o0 ((up σ 907 o0 (σ 8 o0 11) x1) 8 o0 11) x3) 8 o0 11) x4) 8 o0 11 ∧ (up (up (up σ 907 o0 (σ 8 o0 11) x1) 904 o0 ((up σ 907 o0 (σ 8 o0 11) x1) 8 o0 11) x3) 905 o0 ((up (up σ 907 o0 (σ 8 o0 11) x1) 904 o0 ((up σ 907 o0 (σ 8 o0 11) x1) 8 o0 11) x3) 8 o0 11) x4) 8 o0 11 < 6 ∧ Q (up (up (up (up (up σ 907 o0 (σ 8 o0 11) x1) 904 o0 ((up σ 907 o0 (σ 8 o0 11) x1) 8 o0 11) x3) 905 o0 ((up (up σ 907 o0 (σ 8 o0 11) x1) 904 o0 ((up σ 907 o0 (σ 8 o0 11) x1) 8 o0 11) x3) 8 o0 11) x4) 906 o0 ((up (up (up σ 907 o0 (σ 8 o0 11) x1) 904 o0 ((up σ 907 o0 (σ 8 o0 11) x1) 8 o0 11) x3) 905 o0 ((up (up σ 907 o0 (σ 8 o0 11) x1) 904 o0 ((up σ 907 o0 (σ 8 o0 11) x1) 8 o0 11) x3) 8 o0 11) x4) 8 o0 11) x5) 8 o0 11 (wi (((up (up (up (up σ 907 o0 (σ 8 o0 11) x1) 904 o0 ((up σ 907 o0 (σ 8 o0 11) x1) 8 o0 11) x3) 905 o0 ((up (up σ 907 o0 (σ 8 o0 11) x1) 904 o0 ((up σ 907 o0 (σ 8 o0 11) x1) 8 o0 11) x3) 8 o0 11) x4) 906 o0 ((up (up (up σ 907 o0 (σ 8 o0 11) x1) 904 o0 ((up σ 907 o0 (σ 8 o0 11) x1) 8 o0 11) x3) 905 o0 ((up (up σ 907 o0 (σ 8 o0 11) x1) 904 o0 ((up σ 907 o0 (σ 8 o0 11) x1) 8 o0 11) x3) 8 o0 11) x4) 8 o0 11) x5) 8 o0 11) + 1))))
set_option maxRecDepth 20000 in
set_option maxHeartbeats 2000000 in
theorem s_X8_addBall {o0 : Nat} {x1 : Int} {x3 : Int} {x4 : Int} {x5 : Int} {σ : St} {Q : St → Prop} (h : P_X8_addBall o0 x1 x3 x4 x5 σ Q) : Cn Y_X8_addBall 0 0 0 ww σ [vR 8 o0, vL x1, vI x3, vI x4, vI x5] (QV Q) := by
  refine Cn_of [some (vR 8 o0), some (vL x1), none, some (vI x3), some (vI x4), some (vI x5)] (by decide) (Nat.le_of_ble_eq_true rfl) rfl ?_
  unfold P_X8_addBall at h
  refine E_aload_n dX8_addBall_0 rfl rfl ?_
  refine E_geti (i := o0) dX8_addBall_1 fl_RX8_51 rfl ?_
  refine E_bp dX8_addBall_4 rfl ?_
  refine E_icmp_ge (tgt := 61) dX8_addBall_6 (by decide) (fun hc => ?_) (fun hc => ?_)
  · have h := Eq.mp (if_pos hc) h
    exact E_vret dX8_addBall_61 rfl ⟨rfl, rfl, h⟩
  · have h := Eq.mp (if_neg hc) h
    refine E_aload_n dX8_addBall_9 rfl rfl ?_
    refine E_getr (i := o0) dX8_addBall_10 fl_RX8_34 rfl rfl (go_8_7 _ _) ?_
    refine E_aload_n dX8_addBall_13 rfl rfl ?_
    refine E_geti (i := o0) dX8_addBall_14 fl_RX8_51 rfl ?_
    refine E_lload_n dX8_addBall_17 rfl rfl ?_
    obtain ⟨hg0, hg1, h⟩ := h
    refine E_last dX8_addBall_18 sh_907 hg0 hg1 ?_
    refine E_aload_n dX8_addBall_19 rfl rfl ?_
    refine E_getr (i := o0) dX8_addBall_20 fl_RX8_25 rfl rfl (go_8_4 _ _) ?_
    refine E_aload_n dX8_addBall_23 rfl rfl ?_
    refine E_geti (i := o0) dX8_addBall_24 fl_RX8_51 rfl ?_
    refine E_iload_n dX8_addBall_27 rfl rfl ?_
    obtain ⟨hg0, hg1, h⟩ := h
    refine E_iast dX8_addBall_28 sh_904 hg0 hg1 ?_
    refine E_aload_n dX8_addBall_29 rfl rfl ?_
    refine E_getr (i := o0) dX8_addBall_30 fl_RX8_28 rfl rfl (go_8_5 _ _) ?_
    refine E_aload_n dX8_addBall_33 rfl rfl ?_
    refine E_geti (i := o0) dX8_addBall_34 fl_RX8_51 rfl ?_
    refine E_iload dX8_addBall_37 rfl ?_
    obtain ⟨hg0, hg1, h⟩ := h
    refine E_iast dX8_addBall_39 sh_905 hg0 hg1 ?_
    refine E_aload_n dX8_addBall_40 rfl rfl ?_
    refine E_getr (i := o0) dX8_addBall_41 fl_RX8_31 rfl rfl (go_8_6 _ _) ?_
    refine E_aload_n dX8_addBall_44 rfl rfl ?_
    refine E_geti (i := o0) dX8_addBall_45 fl_RX8_51 rfl ?_
    refine E_iload dX8_addBall_48 rfl ?_
    obtain ⟨hg0, hg1, h⟩ := h
    refine E_iast dX8_addBall_50 sh_906 hg0 hg1 ?_
    refine E_aload_n dX8_addBall_51 rfl rfl ?_
    refine E_dup dX8_addBall_52 (fun _ q => by cases q) ?_
    refine E_geti (i := o0) dX8_addBall_53 fl_RX8_51 rfl ?_
    refine E_ic dX8_addBall_56 rfl ?_
    refine E_iadd dX8_addBall_57 ?_
    refine E_puti dX8_addBall_58 fl_RX8_51 rfl rfl rfl ?_
    exact E_vret dX8_addBall_61 rfl ⟨rfl, rfl, h⟩
abbrev Y_X8_addDamp : My := (yX8_addDamp, cX8_addDamp, 2, none)
theorem dX8_addDamp_0 : decode cX8_addDamp 0 = .ok (.aload_n 0, 1) := by decide +kernel
theorem dX8_addDamp_1 : decode cX8_addDamp 1 = .ok (.getfield 54, 3) := by decide +kernel
theorem dX8_addDamp_4 : decode cX8_addDamp 4 = .ok (.bipush 12, 2) := by decide +kernel
theorem dX8_addDamp_6 : decode cX8_addDamp 6 = .ok (.if_icmp .ge 23, 3) := by decide +kernel
theorem dX8_addDamp_9 : decode cX8_addDamp 9 = .ok (.aload_n 0, 1) := by decide +kernel
theorem dX8_addDamp_10 : decode cX8_addDamp 10 = .ok (.getfield 37, 3) := by decide +kernel
theorem dX8_addDamp_13 : decode cX8_addDamp 13 = .ok (.aload_n 0, 1) := by decide +kernel
theorem dX8_addDamp_14 : decode cX8_addDamp 14 = .ok (.getfield 54, 3) := by decide +kernel
theorem dX8_addDamp_17 : decode cX8_addDamp 17 = .ok (.iload_n 1, 1) := by decide +kernel
theorem dX8_addDamp_18 : decode cX8_addDamp 18 = .ok (.iastore, 1) := by decide +kernel
theorem dX8_addDamp_19 : decode cX8_addDamp 19 = .ok (.aload_n 0, 1) := by decide +kernel
theorem dX8_addDamp_20 : decode cX8_addDamp 20 = .ok (.dup, 1) := by decide +kernel
theorem dX8_addDamp_21 : decode cX8_addDamp 21 = .ok (.getfield 54, 3) := by decide +kernel
theorem dX8_addDamp_24 : decode cX8_addDamp 24 = .ok (.iconst 1, 1) := by decide +kernel
theorem dX8_addDamp_25 : decode cX8_addDamp 25 = .ok (.iadd, 1) := by decide +kernel
theorem dX8_addDamp_26 : decode cX8_addDamp 26 = .ok (.putfield 54, 3) := by decide +kernel
theorem dX8_addDamp_29 : decode cX8_addDamp 29 = .ok (.return_, 1) := by decide +kernel
def P_X8_addDamp (o0 : Nat) (x1 : Int) (σ : St) (Q : St → Prop) : Prop :=
  (if 12 ≤ (σ 8 o0 12) then Q σ else 0 ≤ σ 8 o0 12 ∧ σ 8 o0 12 < 12 ∧ Q (up (up σ 908 o0 (σ 8 o0 12) x1) 8 o0 12 (wi (((up σ 908 o0 (σ 8 o0 12) x1) 8 o0 12) + 1))))
set_option maxRecDepth 20000 in
set_option maxHeartbeats 2000000 in
theorem s_X8_addDamp {o0 : Nat} {x1 : Int} {σ : St} {Q : St → Prop} (h : P_X8_addDamp o0 x1 σ Q) : Cn Y_X8_addDamp 0 0 0 ww σ [vR 8 o0, vI x1] (QV Q) := by
  refine Cn_of [some (vR 8 o0), some (vI x1)] (by decide) (Nat.le_of_ble_eq_true rfl) rfl ?_
  unfold P_X8_addDamp at h
  refine E_aload_n dX8_addDamp_0 rfl rfl ?_
  refine E_geti (i := o0) dX8_addDamp_1 fl_RX8_54 rfl ?_
  refine E_bp dX8_addDamp_4 rfl ?_
  refine E_icmp_ge (tgt := 29) dX8_addDamp_6 (by decide) (fun hc => ?_) (fun hc => ?_)
  · have h := Eq.mp (if_pos hc) h
    exact E_vret dX8_addDamp_29 rfl ⟨rfl, rfl, h⟩
  · have h := Eq.mp (if_neg hc) h
    refine E_aload_n dX8_addDamp_9 rfl rfl ?_
    refine E_getr (i := o0) dX8_addDamp_10 fl_RX8_37 rfl rfl (go_8_8 _ _) ?_
    refine E_aload_n dX8_addDamp_13 rfl rfl ?_
    refine E_geti (i := o0) dX8_addDamp_14 fl_RX8_54 rfl ?_
    refine E_iload_n dX8_addDamp_17 rfl rfl ?_
    obtain ⟨hg0, hg1, h⟩ := h
    refine E_iast dX8_addDamp_18 sh_908 hg0 hg1 ?_
    refine E_aload_n dX8_addDamp_19 rfl rfl ?_
    refine E_dup dX8_addDamp_20 (fun _ q => by cases q) ?_
    refine E_geti (i := o0) dX8_addDamp_21 fl_RX8_54 rfl ?_
    refine E_ic dX8_addDamp_24 rfl ?_
    refine E_iadd dX8_addDamp_25 ?_
    refine E_puti dX8_addDamp_26 fl_RX8_54 rfl rfl rfl ?_
    exact E_vret dX8_addDamp_29 rfl ⟨rfl, rfl, h⟩
abbrev Y_X8_hasCounter : My := (yX8_hasCounter, cX8_hasCounter, 2, some .boolean)
theorem dX8_hasCounter_0 : decode cX8_hasCounter 0 = .ok (.iload_n 1, 1) := by decide +kernel
theorem dX8_hasCounter_1 : decode cX8_hasCounter 1 = .ok (.ifCond .lt 15, 3) := by decide +kernel
theorem dX8_hasCounter_4 : decode cX8_hasCounter 4 = .ok (.iload_n 1, 1) := by decide +kernel
theorem dX8_hasCounter_5 : decode cX8_hasCounter 5 = .ok (.aload_n 0, 1) := by decide +kernel
theorem dX8_hasCounter_6 : decode cX8_hasCounter 6 = .ok (.getfield 47, 3) := by decide +kernel
theorem dX8_hasCounter_9 : decode cX8_hasCounter 9 = .ok (.if_icmp .ge 7, 3) := by decide +kernel
theorem dX8_hasCounter_12 : decode cX8_hasCounter 12 = .ok (.iconst 1, 1) := by decide +kernel
theorem dX8_hasCounter_13 : decode cX8_hasCounter 13 = .ok (.goto 4, 3) := by decide +kernel
theorem dX8_hasCounter_16 : decode cX8_hasCounter 16 = .ok (.iconst 0, 1) := by decide +kernel
theorem dX8_hasCounter_17 : decode cX8_hasCounter 17 = .ok (.ireturn, 1) := by decide +kernel
def P_X8_hasCounter_J16   (Q : Int → St → Prop) (σ : St) : Prop :=
  Q 0 σ
set_option maxRecDepth 20000 in
set_option maxHeartbeats 2000000 in
theorem e_P_X8_hasCounter_J16   {Q : Int → St → Prop} {σ : St}  (h : P_X8_hasCounter_J16  Q σ) : E Y_X8_hasCounter 0 0 0 (QI Q) ww 0 0 16 [none, none] [] σ := by
  unfold P_X8_hasCounter_J16 at h
  refine E_ic dX8_hasCounter_16 rfl ?_
  exact E_zret dX8_hasCounter_17 rfl (by decide) ⟨_, rfl, rfl, h⟩
def P_X8_hasCounter (o0 : Nat) (x1 : Int) (σ : St) (Q : Int → St → Prop) : Prop :=
  (if x1 < 0 then P_X8_hasCounter_J16 Q σ else (if (σ 8 o0 10) ≤ x1 then P_X8_hasCounter_J16 Q σ else Q 1 σ))
set_option maxRecDepth 20000 in
set_option maxHeartbeats 2000000 in
theorem s_X8_hasCounter {o0 : Nat} {x1 : Int} {σ : St} {Q : Int → St → Prop} (h : P_X8_hasCounter o0 x1 σ Q) : Cn Y_X8_hasCounter 0 0 0 ww σ [vR 8 o0, vI x1] (QI Q) := by
  refine Cn_of [some (vR 8 o0), some (vI x1)] (by decide) (Nat.le_of_ble_eq_true rfl) rfl ?_
  unfold P_X8_hasCounter at h
  refine E_iload_n dX8_hasCounter_0 rfl rfl ?_
  refine E_if_lt (tgt := 16) dX8_hasCounter_1 (by decide) (fun hc => ?_) (fun hc => ?_)
  · have h := Eq.mp (if_pos hc) h
    refine E_wk2 [none, none] trivial ?_
    exact e_P_X8_hasCounter_J16 h
  · have h := Eq.mp (if_neg hc) h
    refine E_iload_n dX8_hasCounter_4 rfl rfl ?_
    refine E_aload_n dX8_hasCounter_5 rfl rfl ?_
    refine E_geti (i := o0) dX8_hasCounter_6 fl_RX8_47 rfl ?_
    refine E_icmp_ge (tgt := 16) dX8_hasCounter_9 (by decide) (fun hc => ?_) (fun hc => ?_)
    · have h := Eq.mp (if_pos hc) h
      refine E_wk2 [none, none] trivial ?_
      exact e_P_X8_hasCounter_J16 h
    · have h := Eq.mp (if_neg hc) h
      refine E_ic dX8_hasCounter_12 rfl ?_
      refine E_goto (tgt := 17) dX8_hasCounter_13 (by decide) ?_
      exact E_zret dX8_hasCounter_17 rfl (by decide) ⟨_, rfl, rfl, h⟩
abbrev Y_X8_hasBall : My := (yX8_hasBall, cX8_hasBall, 2, some .boolean)
theorem dX8_hasBall_0 : decode cX8_hasBall 0 = .ok (.iload_n 1, 1) := by decide +kernel
theorem dX8_hasBall_1 : decode cX8_hasBall 1 = .ok (.ifCond .lt 15, 3) := by decide +kernel
theorem dX8_hasBall_4 : decode cX8_hasBall 4 = .ok (.iload_n 1, 1) := by decide +kernel
theorem dX8_hasBall_5 : decode cX8_hasBall 5 = .ok (.aload_n 0, 1) := by decide +kernel
theorem dX8_hasBall_6 : decode cX8_hasBall 6 = .ok (.getfield 51, 3) := by decide +kernel
theorem dX8_hasBall_9 : decode cX8_hasBall 9 = .ok (.if_icmp .ge 7, 3) := by decide +kernel
theorem dX8_hasBall_12 : decode cX8_hasBall 12 = .ok (.iconst 1, 1) := by decide +kernel
theorem dX8_hasBall_13 : decode cX8_hasBall 13 = .ok (.goto 4, 3) := by decide +kernel
theorem dX8_hasBall_16 : decode cX8_hasBall 16 = .ok (.iconst 0, 1) := by decide +kernel
theorem dX8_hasBall_17 : decode cX8_hasBall 17 = .ok (.ireturn, 1) := by decide +kernel
def P_X8_hasBall_J16   (Q : Int → St → Prop) (σ : St) : Prop :=
  Q 0 σ
set_option maxRecDepth 20000 in
set_option maxHeartbeats 2000000 in
theorem e_P_X8_hasBall_J16   {Q : Int → St → Prop} {σ : St}  (h : P_X8_hasBall_J16  Q σ) : E Y_X8_hasBall 0 0 0 (QI Q) ww 0 0 16 [none, none] [] σ := by
  unfold P_X8_hasBall_J16 at h
  refine E_ic dX8_hasBall_16 rfl ?_
  exact E_zret dX8_hasBall_17 rfl (by decide) ⟨_, rfl, rfl, h⟩
def P_X8_hasBall (o0 : Nat) (x1 : Int) (σ : St) (Q : Int → St → Prop) : Prop :=
  (if x1 < 0 then P_X8_hasBall_J16 Q σ else (if (σ 8 o0 11) ≤ x1 then P_X8_hasBall_J16 Q σ else Q 1 σ))
set_option maxRecDepth 20000 in
set_option maxHeartbeats 2000000 in
theorem s_X8_hasBall {o0 : Nat} {x1 : Int} {σ : St} {Q : Int → St → Prop} (h : P_X8_hasBall o0 x1 σ Q) : Cn Y_X8_hasBall 0 0 0 ww σ [vR 8 o0, vI x1] (QI Q) := by
  refine Cn_of [some (vR 8 o0), some (vI x1)] (by decide) (Nat.le_of_ble_eq_true rfl) rfl ?_
  unfold P_X8_hasBall at h
  refine E_iload_n dX8_hasBall_0 rfl rfl ?_
  refine E_if_lt (tgt := 16) dX8_hasBall_1 (by decide) (fun hc => ?_) (fun hc => ?_)
  · have h := Eq.mp (if_pos hc) h
    refine E_wk2 [none, none] trivial ?_
    exact e_P_X8_hasBall_J16 h
  · have h := Eq.mp (if_neg hc) h
    refine E_iload_n dX8_hasBall_4 rfl rfl ?_
    refine E_aload_n dX8_hasBall_5 rfl rfl ?_
    refine E_geti (i := o0) dX8_hasBall_6 fl_RX8_51 rfl ?_
    refine E_icmp_ge (tgt := 16) dX8_hasBall_9 (by decide) (fun hc => ?_) (fun hc => ?_)
    · have h := Eq.mp (if_pos hc) h
      refine E_wk2 [none, none] trivial ?_
      exact e_P_X8_hasBall_J16 h
    · have h := Eq.mp (if_neg hc) h
      refine E_ic dX8_hasBall_12 rfl ?_
      refine E_goto (tgt := 17) dX8_hasBall_13 (by decide) ?_
      exact E_zret dX8_hasBall_17 rfl (by decide) ⟨_, rfl, rfl, h⟩
abbrev Y_X8_isPlaceTold : My := (yX8_isPlaceTold, cX8_isPlaceTold, 3, some .boolean)
theorem dX8_isPlaceTold_0 : decode cX8_isPlaceTold 0 = .ok (.iconst 0, 1) := by decide +kernel
theorem dX8_isPlaceTold_1 : decode cX8_isPlaceTold 1 = .ok (.istore_n 2, 1) := by decide +kernel
theorem dX8_isPlaceTold_2 : decode cX8_isPlaceTold 2 = .ok (.iload_n 2, 1) := by decide +kernel
theorem dX8_isPlaceTold_3 : decode cX8_isPlaceTold 3 = .ok (.aload_n 0, 1) := by decide +kernel
theorem dX8_isPlaceTold_4 : decode cX8_isPlaceTold 4 = .ok (.getfield 47, 3) := by decide +kernel
theorem dX8_isPlaceTold_7 : decode cX8_isPlaceTold 7 = .ok (.if_icmp .ge 21, 3) := by decide +kernel
theorem dX8_isPlaceTold_10 : decode cX8_isPlaceTold 10 = .ok (.aload_n 0, 1) := by decide +kernel
theorem dX8_isPlaceTold_11 : decode cX8_isPlaceTold 11 = .ok (.getfield 9, 3) := by decide +kernel
theorem dX8_isPlaceTold_14 : decode cX8_isPlaceTold 14 = .ok (.iload_n 2, 1) := by decide +kernel
theorem dX8_isPlaceTold_15 : decode cX8_isPlaceTold 15 = .ok (.iaload, 1) := by decide +kernel
theorem dX8_isPlaceTold_16 : decode cX8_isPlaceTold 16 = .ok (.iload_n 1, 1) := by decide +kernel
theorem dX8_isPlaceTold_17 : decode cX8_isPlaceTold 17 = .ok (.if_icmp .ne 5, 3) := by decide +kernel
theorem dX8_isPlaceTold_20 : decode cX8_isPlaceTold 20 = .ok (.iconst 1, 1) := by decide +kernel
theorem dX8_isPlaceTold_21 : decode cX8_isPlaceTold 21 = .ok (.ireturn, 1) := by decide +kernel
theorem dX8_isPlaceTold_22 : decode cX8_isPlaceTold 22 = .ok (.iinc 2 1, 3) := by decide +kernel
theorem dX8_isPlaceTold_25 : decode cX8_isPlaceTold 25 = .ok (.goto (-23), 3) := by decide +kernel
theorem dX8_isPlaceTold_28 : decode cX8_isPlaceTold 28 = .ok (.iconst 0, 1) := by decide +kernel
theorem dX8_isPlaceTold_29 : decode cX8_isPlaceTold 29 = .ok (.ireturn, 1) := by decide +kernel
def P_X8_isPlaceTold_L2 (o0 : Nat) (x1 : Int)  (Q : Int → St → Prop) : Nat → Int → St → Prop
  | 0, _, _ => False
  | n + 1, x2, σ => (if (σ 8 o0 10) ≤ x2 then Q 0 σ else 0 ≤ x2 ∧ x2 < 6 ∧ (if (σ 900 o0 x2) = x1 then Q 1 σ else (P_X8_isPlaceTold_L2 o0 x1 Q n) (wi (x2 + 1)) σ))
set_option maxRecDepth 20000 in
set_option maxHeartbeats 2000000 in
theorem e_P_X8_isPlaceTold_L2 {o0 : Nat} {x1 : Int}  {Q : Int → St → Prop}  : ∀ (n : Nat) (x2 : Int) (σ : St), P_X8_isPlaceTold_L2 o0 x1 Q n x2 σ → E Y_X8_isPlaceTold 0 0 0 (QI Q) ww 0 0 2 [some (vR 8 o0), some (vI x1), some (vI x2)] [] σ := by
  intro n
  induction n with
  | zero => intro x2 σ h; exact h.elim
  | succ n hR =>
    intro x2 σ h
    unfold P_X8_isPlaceTold_L2 at h
    refine E_iload_n dX8_isPlaceTold_2 rfl rfl ?_
    refine E_aload_n dX8_isPlaceTold_3 rfl rfl ?_
    refine E_geti (i := o0) dX8_isPlaceTold_4 fl_RX8_47 rfl ?_
    refine E_icmp_ge (tgt := 28) dX8_isPlaceTold_7 (by decide) (fun hc => ?_) (fun hc => ?_)
    · have h := Eq.mp (if_pos hc) h
      refine E_ic dX8_isPlaceTold_28 rfl ?_
      exact E_zret dX8_isPlaceTold_29 rfl (by decide) ⟨_, rfl, rfl, h⟩
    · have h := Eq.mp (if_neg hc) h
      refine E_aload_n dX8_isPlaceTold_10 rfl rfl ?_
      refine E_getr (i := o0) dX8_isPlaceTold_11 fl_RX8_9 rfl rfl (go_8_0 _ _) ?_
      refine E_iload_n dX8_isPlaceTold_14 rfl rfl ?_
      obtain ⟨hg0, hg1, h⟩ := h
      refine E_iald dX8_isPlaceTold_15 sh_900 hg0 hg1 ?_
      refine E_iload_n dX8_isPlaceTold_16 rfl rfl ?_
      refine E_icmp_ne (tgt := 22) dX8_isPlaceTold_17 (by decide) (fun hc => ?_) (fun hc => ?_)
      · have h := Eq.mp (if_neg hc) h
        refine E_iinc (ls' := [some (vR 8 o0), some (vI x1), some (vI (wi (x2 + 1)))]) dX8_isPlaceTold_22 rfl (by decide) rfl rfl ?_
        refine E_goto (tgt := 2) dX8_isPlaceTold_25 (by decide) ?_
        exact hR _ _ h
      · have h := Eq.mp (if_pos hc) h
        refine E_ic dX8_isPlaceTold_20 rfl ?_
        exact E_zret dX8_isPlaceTold_21 rfl (by decide) ⟨_, rfl, rfl, h⟩
def P_X8_isPlaceTold (o0 : Nat) (x1 : Int) (σ : St) (Q : Int → St → Prop) : Prop :=
  P_X8_isPlaceTold_L2 o0 x1 Q FU 0 σ
set_option maxRecDepth 20000 in
set_option maxHeartbeats 2000000 in
theorem s_X8_isPlaceTold {o0 : Nat} {x1 : Int} {σ : St} {Q : Int → St → Prop} (h : P_X8_isPlaceTold o0 x1 σ Q) : Cn Y_X8_isPlaceTold 0 0 0 ww σ [vR 8 o0, vI x1] (QI Q) := by
  refine Cn_of [some (vR 8 o0), some (vI x1), none] (by decide) (Nat.le_of_ble_eq_true rfl) rfl ?_
  unfold P_X8_isPlaceTold at h
  refine E_ic dX8_isPlaceTold_0 rfl ?_
  refine E_istore_n (ls' := [some (vR 8 o0), some (vI x1), some (vI 0)]) dX8_isPlaceTold_1 rfl (by decide) rfl ?_
  refine e_P_X8_isPlaceTold_L2  _ _ _ h
abbrev Y_X8_dampOn : My := (yX8_dampOn, cX8_dampOn, 2, some .int)
theorem dX8_dampOn_0 : decode cX8_dampOn 0 = .ok (.aload_n 0, 1) := by decide +kernel
theorem dX8_dampOn_1 : decode cX8_dampOn 1 = .ok (.getfield 54, 3) := by decide +kernel
theorem dX8_dampOn_4 : decode cX8_dampOn 4 = .ok (.ifCond .le 21, 3) := by decide +kernel
theorem dX8_dampOn_7 : decode cX8_dampOn 7 = .ok (.iload_n 1, 1) := by decide +kernel
theorem dX8_dampOn_8 : decode cX8_dampOn 8 = .ok (.ifCond .lt 17, 3) := by decide +kernel
theorem dX8_dampOn_11 : decode cX8_dampOn 11 = .ok (.aload_n 0, 1) := by decide +kernel
theorem dX8_dampOn_12 : decode cX8_dampOn 12 = .ok (.getfield 37, 3) := by decide +kernel
theorem dX8_dampOn_15 : decode cX8_dampOn 15 = .ok (.iload_n 1, 1) := by decide +kernel
theorem dX8_dampOn_16 : decode cX8_dampOn 16 = .ok (.aload_n 0, 1) := by decide +kernel
theorem dX8_dampOn_17 : decode cX8_dampOn 17 = .ok (.getfield 54, 3) := by decide +kernel
theorem dX8_dampOn_20 : decode cX8_dampOn 20 = .ok (.irem, 1) := by decide +kernel
theorem dX8_dampOn_21 : decode cX8_dampOn 21 = .ok (.iaload, 1) := by decide +kernel
theorem dX8_dampOn_22 : decode cX8_dampOn 22 = .ok (.goto 4, 3) := by decide +kernel
theorem dX8_dampOn_25 : decode cX8_dampOn 25 = .ok (.iconst 0, 1) := by decide +kernel
theorem dX8_dampOn_26 : decode cX8_dampOn 26 = .ok (.ireturn, 1) := by decide +kernel
def P_X8_dampOn_J25   (Q : Int → St → Prop) (σ : St) : Prop :=
  Q 0 σ
set_option maxRecDepth 20000 in
set_option maxHeartbeats 2000000 in
theorem e_P_X8_dampOn_J25   {Q : Int → St → Prop} {σ : St}  (h : P_X8_dampOn_J25  Q σ) : E Y_X8_dampOn 0 0 0 (QI Q) ww 0 0 25 [none, none] [] σ := by
  unfold P_X8_dampOn_J25 at h
  refine E_ic dX8_dampOn_25 rfl ?_
  exact E_iret dX8_dampOn_26 rfl ⟨_, rfl, rfl, h⟩
def P_X8_dampOn (o0 : Nat) (x1 : Int) (σ : St) (Q : Int → St → Prop) : Prop :=
  (if (σ 8 o0 12) ≤ 0 then P_X8_dampOn_J25 Q σ else (if x1 < 0 then P_X8_dampOn_J25 Q σ else ¬ (σ 8 o0 12) = 0 ∧ 0 ≤ x1.tmod (σ 8 o0 12) ∧ x1.tmod (σ 8 o0 12) < 12 ∧ Q (σ 908 o0 (x1.tmod (σ 8 o0 12))) σ))
set_option maxRecDepth 20000 in
set_option maxHeartbeats 2000000 in
theorem s_X8_dampOn {o0 : Nat} {x1 : Int} {σ : St} {Q : Int → St → Prop} (h : P_X8_dampOn o0 x1 σ Q) : Cn Y_X8_dampOn 0 0 0 ww σ [vR 8 o0, vI x1] (QI Q) := by
  refine Cn_of [some (vR 8 o0), some (vI x1)] (by decide) (Nat.le_of_ble_eq_true rfl) rfl ?_
  unfold P_X8_dampOn at h
  refine E_aload_n dX8_dampOn_0 rfl rfl ?_
  refine E_geti (i := o0) dX8_dampOn_1 fl_RX8_54 rfl ?_
  refine E_if_le (tgt := 25) dX8_dampOn_4 (by decide) (fun hc => ?_) (fun hc => ?_)
  · have h := Eq.mp (if_pos hc) h
    refine E_wk2 [none, none] trivial ?_
    exact e_P_X8_dampOn_J25 h
  · have h := Eq.mp (if_neg hc) h
    refine E_iload_n dX8_dampOn_7 rfl rfl ?_
    refine E_if_lt (tgt := 25) dX8_dampOn_8 (by decide) (fun hc => ?_) (fun hc => ?_)
    · have h := Eq.mp (if_pos hc) h
      refine E_wk2 [none, none] trivial ?_
      exact e_P_X8_dampOn_J25 h
    · have h := Eq.mp (if_neg hc) h
      refine E_aload_n dX8_dampOn_11 rfl rfl ?_
      refine E_getr (i := o0) dX8_dampOn_12 fl_RX8_37 rfl rfl (go_8_8 _ _) ?_
      refine E_iload_n dX8_dampOn_15 rfl rfl ?_
      refine E_aload_n dX8_dampOn_16 rfl rfl ?_
      refine E_geti (i := o0) dX8_dampOn_17 fl_RX8_54 rfl ?_
      obtain ⟨hg0, h⟩ := h
      refine E_irem dX8_dampOn_20 hg0 ?_
      obtain ⟨hg0, hg1, h⟩ := h
      refine E_iald dX8_dampOn_21 sh_908 hg0 hg1 ?_
      refine E_goto (tgt := 26) dX8_dampOn_22 (by decide) ?_
      exact E_iret dX8_dampOn_26 rfl ⟨_, rfl, rfl, h⟩
abbrev Y_X8_fall : My := (yX8_fall, cX8_fall, 4, some .int)
theorem dX8_fall_0 : decode cX8_fall 0 = .ok (.iconst 0, 1) := by decide +kernel
theorem dX8_fall_1 : decode cX8_fall 1 = .ok (.istore_n 3, 1) := by decide +kernel
theorem dX8_fall_2 : decode cX8_fall 2 = .ok (.iload_n 3, 1) := by decide +kernel
theorem dX8_fall_3 : decode cX8_fall 3 = .ok (.aload_n 0, 1) := by decide +kernel
theorem dX8_fall_4 : decode cX8_fall 4 = .ok (.getfield 47, 3) := by decide +kernel
theorem dX8_fall_7 : decode cX8_fall 7 = .ok (.if_icmp .ge 28, 3) := by decide +kernel
theorem dX8_fall_10 : decode cX8_fall 10 = .ok (.aload_n 2, 1) := by decide +kernel
theorem dX8_fall_11 : decode cX8_fall 11 = .ok (.aload_n 0, 1) := by decide +kernel
theorem dX8_fall_12 : decode cX8_fall 12 = .ok (.getfield 22, 3) := by decide +kernel
theorem dX8_fall_15 : decode cX8_fall 15 = .ok (.iload_n 3, 1) := by decide +kernel
theorem dX8_fall_16 : decode cX8_fall 16 = .ok (.iaload, 1) := by decide +kernel
theorem dX8_fall_17 : decode cX8_fall 17 = .ok (.iaload, 1) := by decide +kernel
theorem dX8_fall_18 : decode cX8_fall 18 = .ok (.iload_n 1, 1) := by decide +kernel
theorem dX8_fall_19 : decode cX8_fall 19 = .ok (.if_icmp .lt 10, 3) := by decide +kernel
theorem dX8_fall_22 : decode cX8_fall 22 = .ok (.aload_n 0, 1) := by decide +kernel
theorem dX8_fall_23 : decode cX8_fall 23 = .ok (.getfield 22, 3) := by decide +kernel
theorem dX8_fall_26 : decode cX8_fall 26 = .ok (.iload_n 3, 1) := by decide +kernel
theorem dX8_fall_27 : decode cX8_fall 27 = .ok (.iaload, 1) := by decide +kernel
theorem dX8_fall_28 : decode cX8_fall 28 = .ok (.ireturn, 1) := by decide +kernel
theorem dX8_fall_29 : decode cX8_fall 29 = .ok (.iinc 3 1, 3) := by decide +kernel
theorem dX8_fall_32 : decode cX8_fall 32 = .ok (.goto (-30), 3) := by decide +kernel
theorem dX8_fall_35 : decode cX8_fall 35 = .ok (.bipush 6, 2) := by decide +kernel
theorem dX8_fall_37 : decode cX8_fall 37 = .ok (.ireturn, 1) := by decide +kernel
def P_X8_fall_L2 (o0 : Nat) (x1 : Int) (t2 : Nat) (o2 : Nat)  (Q : Int → St → Prop) : Nat → Int → St → Prop
  | 0, _, _ => False
  | n + 1, x3, σ => (if (σ 8 o0 10) ≤ x3 then Q 6 σ else 0 ≤ x3 ∧ x3 < 6 ∧ (shp t2).1 = 0 ∧ 0 ≤ σ 903 o0 x3 ∧ σ 903 o0 x3 < ((shp t2).2 : Int) ∧ (if (σ t2 o2 (σ 903 o0 x3)) < x1 then (P_X8_fall_L2 o0 x1 t2 o2 Q n) (wi (x3 + 1)) σ else 0 ≤ x3 ∧ x3 < 6 ∧ Q (σ 903 o0 x3) σ))
set_option maxRecDepth 20000 in
set_option maxHeartbeats 2000000 in
theorem e_P_X8_fall_L2 {o0 : Nat} {x1 : Int} {t2 : Nat} {o2 : Nat}  {Q : Int → St → Prop}  : ∀ (n : Nat) (x3 : Int) (σ : St), P_X8_fall_L2 o0 x1 t2 o2 Q n x3 σ → E Y_X8_fall 0 0 0 (QI Q) ww 0 0 2 [some (vR 8 o0), some (vI x1), some (vR t2 o2), some (vI x3)] [] σ := by
  intro n
  induction n with
  | zero => intro x3 σ h; exact h.elim
  | succ n hR =>
    intro x3 σ h
    unfold P_X8_fall_L2 at h
    refine E_iload_n dX8_fall_2 rfl rfl ?_
    refine E_aload_n dX8_fall_3 rfl rfl ?_
    refine E_geti (i := o0) dX8_fall_4 fl_RX8_47 rfl ?_
    refine E_icmp_ge (tgt := 35) dX8_fall_7 (by decide) (fun hc => ?_) (fun hc => ?_)
    · have h := Eq.mp (if_pos hc) h
      refine E_bp dX8_fall_35 rfl ?_
      exact E_iret dX8_fall_37 rfl ⟨_, rfl, rfl, h⟩
    · have h := Eq.mp (if_neg hc) h
      refine E_aload_n dX8_fall_10 rfl rfl ?_
      refine E_aload_n dX8_fall_11 rfl rfl ?_
      refine E_getr (i := o0) dX8_fall_12 fl_RX8_22 rfl rfl (go_8_3 _ _) ?_
      refine E_iload_n dX8_fall_15 rfl rfl ?_
      obtain ⟨hg0, hg1, h⟩ := h
      refine E_iald dX8_fall_16 sh_903 hg0 hg1 ?_
      obtain ⟨hg0, hg1, hg2, h⟩ := h
      refine E_iald dX8_fall_17 (Prod.ext hg0 rfl) hg1 hg2 ?_
      refine E_iload_n dX8_fall_18 rfl rfl ?_
      refine E_icmp_lt (tgt := 29) dX8_fall_19 (by decide) (fun hc => ?_) (fun hc => ?_)
      · have h := Eq.mp (if_pos hc) h
        refine E_iinc (ls' := [some (vR 8 o0), some (vI x1), some (vR t2 o2), some (vI (wi (x3 + 1)))]) dX8_fall_29 rfl (by decide) rfl rfl ?_
        refine E_goto (tgt := 2) dX8_fall_32 (by decide) ?_
        exact hR _ _ h
      · have h := Eq.mp (if_neg hc) h
        refine E_aload_n dX8_fall_22 rfl rfl ?_
        refine E_getr (i := o0) dX8_fall_23 fl_RX8_22 rfl rfl (go_8_3 _ _) ?_
        refine E_iload_n dX8_fall_26 rfl rfl ?_
        obtain ⟨hg0, hg1, h⟩ := h
        refine E_iald dX8_fall_27 sh_903 hg0 hg1 ?_
        exact E_iret dX8_fall_28 rfl ⟨_, rfl, rfl, h⟩
def P_X8_fall (o0 : Nat) (x1 : Int) (t2 : Nat) (o2 : Nat) (σ : St) (Q : Int → St → Prop) : Prop :=
  P_X8_fall_L2 o0 x1 t2 o2 Q FU 0 σ
set_option maxRecDepth 20000 in
set_option maxHeartbeats 2000000 in
theorem s_X8_fall {o0 : Nat} {x1 : Int} {t2 : Nat} {o2 : Nat} {σ : St} {Q : Int → St → Prop} (h : P_X8_fall o0 x1 t2 o2 σ Q) : Cn Y_X8_fall 0 0 0 ww σ [vR 8 o0, vI x1, vR t2 o2] (QI Q) := by
  refine Cn_of [some (vR 8 o0), some (vI x1), some (vR t2 o2), none] (by decide) (Nat.le_of_ble_eq_true rfl) rfl ?_
  unfold P_X8_fall at h
  refine E_ic dX8_fall_0 rfl ?_
  refine E_istore_n (ls' := [some (vR 8 o0), some (vI x1), some (vR t2 o2), some (vI 0)]) dX8_fall_1 rfl (by decide) rfl ?_
  refine e_P_X8_fall_L2  _ _ _ h
abbrev Y_X8_beatsTo : My := (yX8_beatsTo, cX8_beatsTo, 4, some .int)
theorem dX8_beatsTo_0 : decode cX8_beatsTo 0 = .ok (.iconst 1, 1) := by decide +kernel
theorem dX8_beatsTo_1 : decode cX8_beatsTo 1 = .ok (.istore_n 3, 1) := by decide +kernel
theorem dX8_beatsTo_2 : decode cX8_beatsTo 2 = .ok (.aload_n 0, 1) := by decide +kernel
theorem dX8_beatsTo_3 : decode cX8_beatsTo 3 = .ok (.iload_n 2, 1) := by decide +kernel
theorem dX8_beatsTo_4 : decode cX8_beatsTo 4 = .ok (.invokevirtual 83, 3) := by decide +kernel
theorem dX8_beatsTo_7 : decode cX8_beatsTo 7 = .ok (.ifCond .eq 13, 3) := by decide +kernel
theorem dX8_beatsTo_10 : decode cX8_beatsTo 10 = .ok (.aload_n 0, 1) := by decide +kernel
theorem dX8_beatsTo_11 : decode cX8_beatsTo 11 = .ok (.getfield 9, 3) := by decide +kernel
theorem dX8_beatsTo_14 : decode cX8_beatsTo 14 = .ok (.iload_n 2, 1) := by decide +kernel
theorem dX8_beatsTo_15 : decode cX8_beatsTo 15 = .ok (.iaload, 1) := by decide +kernel
theorem dX8_beatsTo_16 : decode cX8_beatsTo 16 = .ok (.istore_n 3, 1) := by decide +kernel
theorem dX8_beatsTo_17 : decode cX8_beatsTo 17 = .ok (.goto 29, 3) := by decide +kernel
theorem dX8_beatsTo_20 : decode cX8_beatsTo 20 = .ok (.aload_n 0, 1) := by decide +kernel
theorem dX8_beatsTo_21 : decode cX8_beatsTo 21 = .ok (.getfield 47, 3) := by decide +kernel
theorem dX8_beatsTo_24 : decode cX8_beatsTo 24 = .ok (.ifCond .le 22, 3) := by decide +kernel
theorem dX8_beatsTo_27 : decode cX8_beatsTo 27 = .ok (.aload_n 0, 1) := by decide +kernel
theorem dX8_beatsTo_28 : decode cX8_beatsTo 28 = .ok (.getfield 9, 3) := by decide +kernel
theorem dX8_beatsTo_31 : decode cX8_beatsTo 31 = .ok (.aload_n 0, 1) := by decide +kernel
theorem dX8_beatsTo_32 : decode cX8_beatsTo 32 = .ok (.getfield 22, 3) := by decide +kernel
theorem dX8_beatsTo_35 : decode cX8_beatsTo 35 = .ok (.aload_n 0, 1) := by decide +kernel
theorem dX8_beatsTo_36 : decode cX8_beatsTo 36 = .ok (.getfield 47, 3) := by decide +kernel
theorem dX8_beatsTo_39 : decode cX8_beatsTo 39 = .ok (.iconst 1, 1) := by decide +kernel
theorem dX8_beatsTo_40 : decode cX8_beatsTo 40 = .ok (.isub, 1) := by decide +kernel
theorem dX8_beatsTo_41 : decode cX8_beatsTo 41 = .ok (.iaload, 1) := by decide +kernel
theorem dX8_beatsTo_42 : decode cX8_beatsTo 42 = .ok (.iaload, 1) := by decide +kernel
theorem dX8_beatsTo_43 : decode cX8_beatsTo 43 = .ok (.iconst 1, 1) := by decide +kernel
theorem dX8_beatsTo_44 : decode cX8_beatsTo 44 = .ok (.iadd, 1) := by decide +kernel
theorem dX8_beatsTo_45 : decode cX8_beatsTo 45 = .ok (.istore_n 3, 1) := by decide +kernel
theorem dX8_beatsTo_46 : decode cX8_beatsTo 46 = .ok (.aload_n 0, 1) := by decide +kernel
theorem dX8_beatsTo_47 : decode cX8_beatsTo 47 = .ok (.getfield 25, 3) := by decide +kernel
theorem dX8_beatsTo_50 : decode cX8_beatsTo 50 = .ok (.iload_n 1, 1) := by decide +kernel
theorem dX8_beatsTo_51 : decode cX8_beatsTo 51 = .ok (.iaload, 1) := by decide +kernel
theorem dX8_beatsTo_52 : decode cX8_beatsTo 52 = .ok (.iconst 3, 1) := by decide +kernel
theorem dX8_beatsTo_53 : decode cX8_beatsTo 53 = .ok (.if_icmp .ne 9, 3) := by decide +kernel
theorem dX8_beatsTo_56 : decode cX8_beatsTo 56 = .ok (.iconst 2, 1) := by decide +kernel
theorem dX8_beatsTo_57 : decode cX8_beatsTo 57 = .ok (.iload_n 3, 1) := by decide +kernel
theorem dX8_beatsTo_58 : decode cX8_beatsTo 58 = .ok (.imul, 1) := by decide +kernel
theorem dX8_beatsTo_59 : decode cX8_beatsTo 59 = .ok (.goto 4, 3) := by decide +kernel
theorem dX8_beatsTo_62 : decode cX8_beatsTo 62 = .ok (.iload_n 3, 1) := by decide +kernel
theorem dX8_beatsTo_63 : decode cX8_beatsTo 63 = .ok (.ireturn, 1) := by decide +kernel
theorem lk_RX8_83 : Cond.methodLink RX8 83 yX8_hasCounter ∈ tG := inG (i := 930) (by decide +kernel) (by decide +kernel)
theorem m_X8_hasCounter : MV Y_X8_hasCounter 1 8 := ⟨⟨inG (i := 890) (by decide +kernel) (by decide +kernel), inG (i := 100) (by decide +kernel) (by decide +kernel), by decide, by decide, by decide, by decide +kernel⟩, inG (i := 888) (by decide +kernel) (by decide +kernel), inG (i := 889) (by decide +kernel) (by decide +kernel), by decide⟩
def P_X8_beatsTo_J46 (o0 : Nat) (x1 : Int) (x3 : Int)  (Q : Int → St → Prop) (σ : St) : Prop :=
  0 ≤ x1 ∧ x1 < 6 ∧ (if (σ 904 o0 x1) = 3 then Q (wi (2 * x3)) σ else Q x3 σ)
set_option maxRecDepth 20000 in
set_option maxHeartbeats 2000000 in
theorem e_P_X8_beatsTo_J46 {o0 : Nat} {x1 : Int} {x3 : Int}  {Q : Int → St → Prop} {σ : St}  (h : P_X8_beatsTo_J46 o0 x1 x3 Q σ) : E Y_X8_beatsTo 1 0 0 (QI Q) ww 0 0 46 [some (vR 8 o0), some (vI x1), none, some (vI x3)] [] σ := by
  unfold P_X8_beatsTo_J46 at h
  refine E_aload_n dX8_beatsTo_46 rfl rfl ?_
  refine E_getr (i := o0) dX8_beatsTo_47 fl_RX8_25 rfl rfl (go_8_4 _ _) ?_
  refine E_iload_n dX8_beatsTo_50 rfl rfl ?_
  obtain ⟨hg0, hg1, h⟩ := h
  refine E_iald dX8_beatsTo_51 sh_904 hg0 hg1 ?_
  refine E_ic dX8_beatsTo_52 rfl ?_
  refine E_icmp_ne (tgt := 62) dX8_beatsTo_53 (by decide) (fun hc => ?_) (fun hc => ?_)
  · have h := Eq.mp (if_neg hc) h
    refine E_iload_n dX8_beatsTo_62 rfl rfl ?_
    exact E_iret dX8_beatsTo_63 rfl ⟨_, rfl, rfl, h⟩
  · have h := Eq.mp (if_pos hc) h
    refine E_ic dX8_beatsTo_56 rfl ?_
    refine E_iload_n dX8_beatsTo_57 rfl rfl ?_
    refine E_imul dX8_beatsTo_58 ?_
    refine E_goto (tgt := 63) dX8_beatsTo_59 (by decide) ?_
    exact E_iret dX8_beatsTo_63 rfl ⟨_, rfl, rfl, h⟩
def P_X8_beatsTo (o0 : Nat) (x1 : Int) (x2 : Int) (σ : St) (Q : Int → St → Prop) : Prop :=
  P_X8_hasCounter o0 x2 σ (fun r_2 σ_1 => (if r_2 = 0 then (if (σ_1 8 o0 10) ≤ 0 then P_X8_beatsTo_J46 o0 x1 1 Q σ_1 else 0 ≤ wi ((σ_1 8 o0 10) - 1) ∧ wi ((σ_1 8 o0 10) - 1) < 6 ∧ 0 ≤ σ_1 903 o0 (wi ((σ_1 8 o0 10) - 1)) ∧ σ_1 903 o0 (wi ((σ_1 8 o0 10) - 1)) < 6 ∧ P_X8_beatsTo_J46 o0 x1 (wi ((σ_1 900 o0 (σ_1 903 o0 (wi ((σ_1 8 o0 10) - 1)))) + 1)) Q σ_1) else 0 ≤ x2 ∧ x2 < 6 ∧ P_X8_beatsTo_J46 o0 x1 (σ_1 900 o0 x2) Q σ_1))
set_option maxRecDepth 20000 in
set_option maxHeartbeats 2000000 in
theorem s_X8_beatsTo {o0 : Nat} {x1 : Int} {x2 : Int} {σ : St} {Q : Int → St → Prop} (h : P_X8_beatsTo o0 x1 x2 σ Q) : Cn Y_X8_beatsTo 1 0 0 ww σ [vR 8 o0, vI x1, vI x2] (QI Q) := by
  refine Cn_of [some (vR 8 o0), some (vI x1), some (vI x2), none] (by decide) (Nat.le_of_ble_eq_true rfl) rfl ?_
  unfold P_X8_beatsTo at h
  refine E_ic dX8_beatsTo_0 rfl ?_
  refine E_istore_n (ls' := [some (vR 8 o0), some (vI x1), some (vI x2), some (vI 1)]) dX8_beatsTo_1 rfl (by decide) rfl ?_
  refine E_aload_n dX8_beatsTo_2 rfl rfl ?_
  refine E_iload_n dX8_beatsTo_3 rfl rfl ?_
  refine E_callV (Y' := Y_X8_hasCounter) (as := [vI x2]) (st := []) dX8_beatsTo_4 lk_RX8_83 m_X8_hasCounter (by decide) (Nat.le_refl _) (Nat.le_refl _) rfl rfl (Nat.le_of_ble_eq_true rfl) (s_X8_hasCounter h) (fun r0 B0 σ_1 h => ?_)
  obtain ⟨r_2, rfl, rfl, h⟩ := h
  refine E_if_eq (tgt := 20) dX8_beatsTo_7 (by decide) (fun hc => ?_) (fun hc => ?_)
  · have h := Eq.mp (if_pos hc) h
    refine E_aload_n dX8_beatsTo_20 rfl rfl ?_
    refine E_geti (i := o0) dX8_beatsTo_21 fl_RX8_47 rfl ?_
    refine E_if_le (tgt := 46) dX8_beatsTo_24 (by decide) (fun hc => ?_) (fun hc => ?_)
    · have h := Eq.mp (if_pos hc) h
      refine E_wk2 [some (vR 8 o0), some (vI x1), none, some (vI 1)] ⟨rfl, ⟨rfl, ⟨rfl, trivial⟩⟩⟩ ?_
      exact e_P_X8_beatsTo_J46 h
    · have h := Eq.mp (if_neg hc) h
      refine E_aload_n dX8_beatsTo_27 rfl rfl ?_
      refine E_getr (i := o0) dX8_beatsTo_28 fl_RX8_9 rfl rfl (go_8_0 _ _) ?_
      refine E_aload_n dX8_beatsTo_31 rfl rfl ?_
      refine E_getr (i := o0) dX8_beatsTo_32 fl_RX8_22 rfl rfl (go_8_3 _ _) ?_
      refine E_aload_n dX8_beatsTo_35 rfl rfl ?_
      refine E_geti (i := o0) dX8_beatsTo_36 fl_RX8_47 rfl ?_
      refine E_ic dX8_beatsTo_39 rfl ?_
      refine E_isub dX8_beatsTo_40 ?_
      obtain ⟨hg0, hg1, h⟩ := h
      refine E_iald dX8_beatsTo_41 sh_903 hg0 hg1 ?_
      obtain ⟨hg0, hg1, h⟩ := h
      refine E_iald dX8_beatsTo_42 sh_900 hg0 hg1 ?_
      refine E_ic dX8_beatsTo_43 rfl ?_
      refine E_iadd dX8_beatsTo_44 ?_
      refine E_istore_n (ls' := [some (vR 8 o0), some (vI x1), some (vI x2), some (vI (wi ((σ_1 900 o0 (σ_1 903 o0 (wi ((σ_1 8 o0 10) - 1)))) + 1)))]) dX8_beatsTo_45 rfl (by decide) rfl ?_
      refine E_wk2 [some (vR 8 o0), some (vI x1), none, some (vI (wi ((σ_1 900 o0 (σ_1 903 o0 (wi ((σ_1 8 o0 10) - 1)))) + 1)))] ⟨rfl, ⟨rfl, ⟨rfl, trivial⟩⟩⟩ ?_
      exact e_P_X8_beatsTo_J46 h
  · have h := Eq.mp (if_neg hc) h
    refine E_aload_n dX8_beatsTo_10 rfl rfl ?_
    refine E_getr (i := o0) dX8_beatsTo_11 fl_RX8_9 rfl rfl (go_8_0 _ _) ?_
    refine E_iload_n dX8_beatsTo_14 rfl rfl ?_
    obtain ⟨hg0, hg1, h⟩ := h
    refine E_iald dX8_beatsTo_15 sh_900 hg0 hg1 ?_
    refine E_istore_n (ls' := [some (vR 8 o0), some (vI x1), some (vI x2), some (vI (σ_1 900 o0 x2))]) dX8_beatsTo_16 rfl (by decide) rfl ?_
    refine E_goto (tgt := 46) dX8_beatsTo_17 (by decide) ?_
    refine E_wk2 [some (vR 8 o0), some (vI x1), none, some (vI (σ_1 900 o0 x2))] ⟨rfl, ⟨rfl, ⟨rfl, trivial⟩⟩⟩ ?_
    exact e_P_X8_beatsTo_J46 h
abbrev Y_X9_open : My := (yX9_open, cX9_open, 2, none)
theorem dX9_open_0 : decode cX9_open 0 = .ok (.aload_n 0, 1) := by decide +kernel
theorem dX9_open_1 : decode cX9_open 1 = .ok (.iconst 0, 1) := by decide +kernel
theorem dX9_open_2 : decode cX9_open 2 = .ok (.putfield 33, 3) := by decide +kernel
theorem dX9_open_5 : decode cX9_open 5 = .ok (.aload_n 0, 1) := by decide +kernel
theorem dX9_open_6 : decode cX9_open 6 = .ok (.iconst 0, 1) := by decide +kernel
theorem dX9_open_7 : decode cX9_open 7 = .ok (.putfield 37, 3) := by decide +kernel
theorem dX9_open_10 : decode cX9_open 10 = .ok (.aload_n 0, 1) := by decide +kernel
theorem dX9_open_11 : decode cX9_open 11 = .ok (.iconst 0, 1) := by decide +kernel
theorem dX9_open_12 : decode cX9_open 12 = .ok (.putfield 40, 3) := by decide +kernel
theorem dX9_open_15 : decode cX9_open 15 = .ok (.aload_n 0, 1) := by decide +kernel
theorem dX9_open_16 : decode cX9_open 16 = .ok (.iconst 0, 1) := by decide +kernel
theorem dX9_open_17 : decode cX9_open 17 = .ok (.putfield 43, 3) := by decide +kernel
theorem dX9_open_20 : decode cX9_open 20 = .ok (.aload_n 0, 1) := by decide +kernel
theorem dX9_open_21 : decode cX9_open 21 = .ok (.iconst 0, 1) := by decide +kernel
theorem dX9_open_22 : decode cX9_open 22 = .ok (.putfield 46, 3) := by decide +kernel
theorem dX9_open_25 : decode cX9_open 25 = .ok (.iconst 0, 1) := by decide +kernel
theorem dX9_open_26 : decode cX9_open 26 = .ok (.istore_n 1, 1) := by decide +kernel
theorem dX9_open_27 : decode cX9_open 27 = .ok (.iload_n 1, 1) := by decide +kernel
theorem dX9_open_28 : decode cX9_open 28 = .ok (.aload_n 0, 1) := by decide +kernel
theorem dX9_open_29 : decode cX9_open 29 = .ok (.getfield 49, 3) := by decide +kernel
theorem dX9_open_32 : decode cX9_open 32 = .ok (.getfield 53, 3) := by decide +kernel
theorem dX9_open_35 : decode cX9_open 35 = .ok (.if_icmp .ge 24, 3) := by decide +kernel
theorem dX9_open_38 : decode cX9_open 38 = .ok (.aload_n 0, 1) := by decide +kernel
theorem dX9_open_39 : decode cX9_open 39 = .ok (.getfield 9, 3) := by decide +kernel
theorem dX9_open_42 : decode cX9_open 42 = .ok (.iload_n 1, 1) := by decide +kernel
theorem dX9_open_43 : decode cX9_open 43 = .ok (.aload_n 0, 1) := by decide +kernel
theorem dX9_open_44 : decode cX9_open 44 = .ok (.getfield 49, 3) := by decide +kernel
theorem dX9_open_47 : decode cX9_open 47 = .ok (.getfield 58, 3) := by decide +kernel
theorem dX9_open_50 : decode cX9_open 50 = .ok (.iload_n 1, 1) := by decide +kernel
theorem dX9_open_51 : decode cX9_open 51 = .ok (.iaload, 1) := by decide +kernel
theorem dX9_open_52 : decode cX9_open 52 = .ok (.iastore, 1) := by decide +kernel
theorem dX9_open_53 : decode cX9_open 53 = .ok (.iinc 1 1, 3) := by decide +kernel
theorem dX9_open_56 : decode cX9_open 56 = .ok (.goto (-29), 3) := by decide +kernel
theorem dX9_open_59 : decode cX9_open 59 = .ok (.iconst 0, 1) := by decide +kernel
theorem dX9_open_60 : decode cX9_open 60 = .ok (.istore_n 1, 1) := by decide +kernel
theorem dX9_open_61 : decode cX9_open 61 = .ok (.iload_n 1, 1) := by decide +kernel
theorem dX9_open_62 : decode cX9_open 62 = .ok (.aload_n 0, 1) := by decide +kernel
theorem dX9_open_63 : decode cX9_open 63 = .ok (.getfield 49, 3) := by decide +kernel
theorem dX9_open_66 : decode cX9_open 66 = .ok (.getfield 59, 3) := by decide +kernel
theorem dX9_open_69 : decode cX9_open 69 = .ok (.if_icmp .ge 60, 3) := by decide +kernel
theorem dX9_open_72 : decode cX9_open 72 = .ok (.aload_n 0, 1) := by decide +kernel
theorem dX9_open_73 : decode cX9_open 73 = .ok (.getfield 15, 3) := by decide +kernel
theorem dX9_open_76 : decode cX9_open 76 = .ok (.iload_n 1, 1) := by decide +kernel
theorem dX9_open_77 : decode cX9_open 77 = .ok (.aload_n 0, 1) := by decide +kernel
theorem dX9_open_78 : decode cX9_open 78 = .ok (.getfield 49, 3) := by decide +kernel
theorem dX9_open_81 : decode cX9_open 81 = .ok (.getfield 62, 3) := by decide +kernel
theorem dX9_open_84 : decode cX9_open 84 = .ok (.iload_n 1, 1) := by decide +kernel
theorem dX9_open_85 : decode cX9_open 85 = .ok (.iaload, 1) := by decide +kernel
theorem dX9_open_86 : decode cX9_open 86 = .ok (.iastore, 1) := by decide +kernel
theorem dX9_open_87 : decode cX9_open 87 = .ok (.aload_n 0, 1) := by decide +kernel
theorem dX9_open_88 : decode cX9_open 88 = .ok (.getfield 18, 3) := by decide +kernel
theorem dX9_open_91 : decode cX9_open 91 = .ok (.iload_n 1, 1) := by decide +kernel
theorem dX9_open_92 : decode cX9_open 92 = .ok (.aload_n 0, 1) := by decide +kernel
theorem dX9_open_93 : decode cX9_open 93 = .ok (.getfield 49, 3) := by decide +kernel
theorem dX9_open_96 : decode cX9_open 96 = .ok (.getfield 63, 3) := by decide +kernel
theorem dX9_open_99 : decode cX9_open 99 = .ok (.iload_n 1, 1) := by decide +kernel
theorem dX9_open_100 : decode cX9_open 100 = .ok (.iaload, 1) := by decide +kernel
theorem dX9_open_101 : decode cX9_open 101 = .ok (.iastore, 1) := by decide +kernel
theorem dX9_open_102 : decode cX9_open 102 = .ok (.aload_n 0, 1) := by decide +kernel
theorem dX9_open_103 : decode cX9_open 103 = .ok (.getfield 21, 3) := by decide +kernel
theorem dX9_open_106 : decode cX9_open 106 = .ok (.iload_n 1, 1) := by decide +kernel
theorem dX9_open_107 : decode cX9_open 107 = .ok (.iconst 0, 1) := by decide +kernel
theorem dX9_open_108 : decode cX9_open 108 = .ok (.iastore, 1) := by decide +kernel
theorem dX9_open_109 : decode cX9_open 109 = .ok (.aload_n 0, 1) := by decide +kernel
theorem dX9_open_110 : decode cX9_open 110 = .ok (.getfield 24, 3) := by decide +kernel
theorem dX9_open_113 : decode cX9_open 113 = .ok (.iload_n 1, 1) := by decide +kernel
theorem dX9_open_114 : decode cX9_open 114 = .ok (.iconst 0, 1) := by decide +kernel
theorem dX9_open_115 : decode cX9_open 115 = .ok (.iastore, 1) := by decide +kernel
theorem dX9_open_116 : decode cX9_open 116 = .ok (.aload_n 0, 1) := by decide +kernel
theorem dX9_open_117 : decode cX9_open 117 = .ok (.getfield 27, 3) := by decide +kernel
theorem dX9_open_120 : decode cX9_open 120 = .ok (.iload_n 1, 1) := by decide +kernel
theorem dX9_open_121 : decode cX9_open 121 = .ok (.iconst 0, 1) := by decide +kernel
theorem dX9_open_122 : decode cX9_open 122 = .ok (.iastore, 1) := by decide +kernel
theorem dX9_open_123 : decode cX9_open 123 = .ok (.iinc 1 1, 3) := by decide +kernel
theorem dX9_open_126 : decode cX9_open 126 = .ok (.goto (-65), 3) := by decide +kernel
theorem dX9_open_129 : decode cX9_open 129 = .ok (.return_, 1) := by decide +kernel
theorem fl_RX9_15 : FL RX9 15 9 2 := ⟨inG (i := 308) (by decide +kernel) (by decide +kernel), by decide, by decide⟩
theorem fl_RX9_18 : FL RX9 18 9 3 := ⟨inG (i := 312) (by decide +kernel) (by decide +kernel), by decide, by decide⟩
theorem fl_RX9_21 : FL RX9 21 9 4 := ⟨inG (i := 314) (by decide +kernel) (by decide +kernel), by decide, by decide⟩
theorem fl_RX9_24 : FL RX9 24 9 5 := ⟨inG (i := 316) (by decide +kernel) (by decide +kernel), by decide, by decide⟩
theorem fl_RX9_27 : FL RX9 27 9 6 := ⟨inG (i := 317) (by decide +kernel) (by decide +kernel), by decide, by decide⟩
theorem fl_RX9_33 : FL RX9 33 9 8 := ⟨inG (i := 322) (by decide +kernel) (by decide +kernel), by decide, by decide⟩
theorem fl_RX9_37 : FL RX9 37 9 9 := ⟨inG (i := 324) (by decide +kernel) (by decide +kernel), by decide, by decide⟩
theorem fl_RX9_40 : FL RX9 40 9 10 := ⟨inG (i := 325) (by decide +kernel) (by decide +kernel), by decide, by decide⟩
theorem fl_RX9_43 : FL RX9 43 9 11 := ⟨inG (i := 328) (by decide +kernel) (by decide +kernel), by decide, by decide⟩
theorem fl_RX9_46 : FL RX9 46 9 12 := ⟨inG (i := 330) (by decide +kernel) (by decide +kernel), by decide, by decide⟩
theorem fl_RX9_49 : FL RX9 49 9 0 := ⟨inG (i := 303) (by decide +kernel) (by decide +kernel), by decide, by decide⟩
theorem fl_RX9_53 : FL RX9 53 8 10 := ⟨inG (i := 213) (by decide +kernel) (by decide +kernel), by decide, by decide⟩
theorem fl_RX9_58 : FL RX9 58 8 1 := ⟨inG (i := 193) (by decide +kernel) (by decide +kernel), by decide, by decide⟩
theorem fl_RX9_59 : FL RX9 59 8 11 := ⟨inG (i := 219) (by decide +kernel) (by decide +kernel), by decide, by decide⟩
theorem fl_RX9_62 : FL RX9 62 8 5 := ⟨inG (i := 201) (by decide +kernel) (by decide +kernel), by decide, by decide⟩
theorem fl_RX9_63 : FL RX9 63 8 6 := ⟨inG (i := 203) (by decide +kernel) (by decide +kernel), by decide, by decide⟩
theorem fl_RX9_9 : FL RX9 9 9 1 := ⟨inG (i := 304) (by decide +kernel) (by decide +kernel), by decide, by decide⟩
theorem go_9_0 (σ : St) (i : Nat) : go σ 9 i 0 = (8, 0) := rfl
theorem go_9_1 (σ : St) (i : Nat) : go σ 9 i 1 = (1001, i) := rfl
theorem go_9_3 (σ : St) (i : Nat) : go σ 9 i 3 = (1003, i) := rfl
theorem go_9_4 (σ : St) (i : Nat) : go σ 9 i 4 = (1004, i) := rfl
theorem go_9_5 (σ : St) (i : Nat) : go σ 9 i 5 = (1005, i) := rfl
theorem go_9_6 (σ : St) (i : Nat) : go σ 9 i 6 = (1006, i) := rfl
theorem sh_1001 : shp 1001 = (0, 6) := rfl
theorem sh_1003 : shp 1003 = (0, 6) := rfl
theorem sh_1004 : shp 1004 = (0, 6) := rfl
theorem sh_1005 : shp 1005 = (0, 6) := rfl
theorem sh_1006 : shp 1006 = (0, 6) := rfl
def P_X9_open_L27 (o0 : Nat) (K : St → Prop) (Q : St → Prop) : Nat → Int → St → Prop
  | 0, _, _ => False
  | n + 1, x1, σ => (if (σ 8 0 10) ≤ x1 then K σ else 0 ≤ x1 ∧ x1 < 6 ∧ 0 ≤ x1 ∧ x1 < 6 ∧ (P_X9_open_L27 o0 K Q n) (wi (x1 + 1)) (up σ 1001 o0 x1 (σ 901 0 x1)))
set_option maxRecDepth 20000 in
set_option maxHeartbeats 2000000 in
theorem e_P_X9_open_L27 {o0 : Nat} {K : St → Prop} {Q : St → Prop} (hK : ∀ σ, K σ → E Y_X9_open 0 0 0 (QV Q) ww 0 0 59 [some (vR 9 o0), none] [] σ) : ∀ (n : Nat) (x1 : Int) (σ : St), P_X9_open_L27 o0 K Q n x1 σ → E Y_X9_open 0 0 0 (QV Q) ww 0 0 27 [some (vR 9 o0), some (vI x1)] [] σ := by
  intro n
  induction n with
  | zero => intro x1 σ h; exact h.elim
  | succ n hR =>
    intro x1 σ h
    unfold P_X9_open_L27 at h
    refine E_iload_n dX9_open_27 rfl rfl ?_
    refine E_aload_n dX9_open_28 rfl rfl ?_
    refine E_getr (i := o0) dX9_open_29 fl_RX9_49 rfl rfl (go_9_0 _ _) ?_
    refine E_geti (i := 0) dX9_open_32 fl_RX9_53 rfl ?_
    refine E_icmp_ge (tgt := 59) dX9_open_35 (by decide) (fun hc => ?_) (fun hc => ?_)
    · have h := Eq.mp (if_pos hc) h
      refine E_wk2 [some (vR 9 o0), none] ⟨rfl, trivial⟩ ?_
      exact hK _ h
    · have h := Eq.mp (if_neg hc) h
      refine E_aload_n dX9_open_38 rfl rfl ?_
      refine E_getr (i := o0) dX9_open_39 fl_RX9_9 rfl rfl (go_9_1 _ _) ?_
      refine E_iload_n dX9_open_42 rfl rfl ?_
      refine E_aload_n dX9_open_43 rfl rfl ?_
      refine E_getr (i := o0) dX9_open_44 fl_RX9_49 rfl rfl (go_9_0 _ _) ?_
      refine E_getr (i := 0) dX9_open_47 fl_RX9_58 rfl rfl (go_8_1 _ _) ?_
      refine E_iload_n dX9_open_50 rfl rfl ?_
      obtain ⟨hg0, hg1, h⟩ := h
      refine E_iald dX9_open_51 sh_901 hg0 hg1 ?_
      obtain ⟨hg0, hg1, h⟩ := h
      refine E_iast dX9_open_52 sh_1001 hg0 hg1 ?_
      refine E_iinc (ls' := [some (vR 9 o0), some (vI (wi (x1 + 1)))]) dX9_open_53 rfl (by decide) rfl rfl ?_
      refine E_goto (tgt := 27) dX9_open_56 (by decide) ?_
      exact hR _ _ h
def P_X9_open_L61 (o0 : Nat)  (Q : St → Prop) : Nat → Int → St → Prop
  | 0, _, _ => False
  | n + 1, x1, σ => (if (σ 8 0 11) ≤ x1 then Q σ else 0 ≤ x1 ∧ x1 < 6 ∧ 0 ≤ x1 ∧ x1 < 6 ∧ 0 ≤ x1 ∧ x1 < 6 ∧ 0 ≤ x1 ∧ x1 < 6 ∧ 0 ≤ x1 ∧ x1 < 6 ∧ 0 ≤ x1 ∧ x1 < 6 ∧ 0 ≤ x1 ∧ x1 < 6 ∧ (P_X9_open_L61 o0 Q n) (wi (x1 + 1)) (up (up (up (up (up σ 1002 o0 x1 (σ 905 0 x1)) 1003 o0 x1 ((up σ 1002 o0 x1 (σ 905 0 x1)) 906 0 x1)) 1004 o0 x1 0) 1005 o0 x1 0) 1006 o0 x1 0))
set_option maxRecDepth 20000 in
set_option maxHeartbeats 2000000 in
theorem e_P_X9_open_L61 {o0 : Nat}  {Q : St → Prop}  : ∀ (n : Nat) (x1 : Int) (σ : St), P_X9_open_L61 o0 Q n x1 σ → E Y_X9_open 0 0 0 (QV Q) ww 0 0 61 [some (vR 9 o0), some (vI x1)] [] σ := by
  intro n
  induction n with
  | zero => intro x1 σ h; exact h.elim
  | succ n hR =>
    intro x1 σ h
    unfold P_X9_open_L61 at h
    refine E_iload_n dX9_open_61 rfl rfl ?_
    refine E_aload_n dX9_open_62 rfl rfl ?_
    refine E_getr (i := o0) dX9_open_63 fl_RX9_49 rfl rfl (go_9_0 _ _) ?_
    refine E_geti (i := 0) dX9_open_66 fl_RX9_59 rfl ?_
    refine E_icmp_ge (tgt := 129) dX9_open_69 (by decide) (fun hc => ?_) (fun hc => ?_)
    · have h := Eq.mp (if_pos hc) h
      exact E_vret dX9_open_129 rfl ⟨rfl, rfl, h⟩
    · have h := Eq.mp (if_neg hc) h
      refine E_aload_n dX9_open_72 rfl rfl ?_
      refine E_getr (i := o0) dX9_open_73 fl_RX9_15 rfl rfl (go_9_2 _ _) ?_
      refine E_iload_n dX9_open_76 rfl rfl ?_
      refine E_aload_n dX9_open_77 rfl rfl ?_
      refine E_getr (i := o0) dX9_open_78 fl_RX9_49 rfl rfl (go_9_0 _ _) ?_
      refine E_getr (i := 0) dX9_open_81 fl_RX9_62 rfl rfl (go_8_5 _ _) ?_
      refine E_iload_n dX9_open_84 rfl rfl ?_
      obtain ⟨hg0, hg1, h⟩ := h
      refine E_iald dX9_open_85 sh_905 hg0 hg1 ?_
      obtain ⟨hg0, hg1, h⟩ := h
      refine E_iast dX9_open_86 sh_1002 hg0 hg1 ?_
      refine E_aload_n dX9_open_87 rfl rfl ?_
      refine E_getr (i := o0) dX9_open_88 fl_RX9_18 rfl rfl (go_9_3 _ _) ?_
      refine E_iload_n dX9_open_91 rfl rfl ?_
      refine E_aload_n dX9_open_92 rfl rfl ?_
      refine E_getr (i := o0) dX9_open_93 fl_RX9_49 rfl rfl (go_9_0 _ _) ?_
      refine E_getr (i := 0) dX9_open_96 fl_RX9_63 rfl rfl (go_8_6 _ _) ?_
      refine E_iload_n dX9_open_99 rfl rfl ?_
      obtain ⟨hg0, hg1, h⟩ := h
      refine E_iald dX9_open_100 sh_906 hg0 hg1 ?_
      obtain ⟨hg0, hg1, h⟩ := h
      refine E_iast dX9_open_101 sh_1003 hg0 hg1 ?_
      refine E_aload_n dX9_open_102 rfl rfl ?_
      refine E_getr (i := o0) dX9_open_103 fl_RX9_21 rfl rfl (go_9_4 _ _) ?_
      refine E_iload_n dX9_open_106 rfl rfl ?_
      refine E_ic dX9_open_107 rfl ?_
      obtain ⟨hg0, hg1, h⟩ := h
      refine E_iast dX9_open_108 sh_1004 hg0 hg1 ?_
      refine E_aload_n dX9_open_109 rfl rfl ?_
      refine E_getr (i := o0) dX9_open_110 fl_RX9_24 rfl rfl (go_9_5 _ _) ?_
      refine E_iload_n dX9_open_113 rfl rfl ?_
      refine E_ic dX9_open_114 rfl ?_
      obtain ⟨hg0, hg1, h⟩ := h
      refine E_iast dX9_open_115 sh_1005 hg0 hg1 ?_
      refine E_aload_n dX9_open_116 rfl rfl ?_
      refine E_getr (i := o0) dX9_open_117 fl_RX9_27 rfl rfl (go_9_6 _ _) ?_
      refine E_iload_n dX9_open_120 rfl rfl ?_
      refine E_ic dX9_open_121 rfl ?_
      obtain ⟨hg0, hg1, h⟩ := h
      refine E_iast dX9_open_122 sh_1006 hg0 hg1 ?_
      refine E_iinc (ls' := [some (vR 9 o0), some (vI (wi (x1 + 1)))]) dX9_open_123 rfl (by decide) rfl rfl ?_
      refine E_goto (tgt := 61) dX9_open_126 (by decide) ?_
      exact hR _ _ h
def P_X9_open (o0 : Nat) (σ : St) (Q : St → Prop) : Prop :=
  P_X9_open_L27 o0 (fun σ_1 => P_X9_open_L61 o0 Q FU 0 σ_1) Q FU 0 (up (up (up (up (up σ 9 o0 8 0) 9 o0 9 0) 9 o0 10 0) 9 o0 11 0) 9 o0 12 0)
set_option maxRecDepth 20000 in
set_option maxHeartbeats 2000000 in
theorem s_X9_open {o0 : Nat} {σ : St} {Q : St → Prop} (h : P_X9_open o0 σ Q) : Cn Y_X9_open 0 0 0 ww σ [vR 9 o0] (QV Q) := by
  refine Cn_of [some (vR 9 o0), none] (by decide) (Nat.le_of_ble_eq_true rfl) rfl ?_
  unfold P_X9_open at h
  refine E_aload_n dX9_open_0 rfl rfl ?_
  refine E_ic dX9_open_1 rfl ?_
  refine E_puti dX9_open_2 fl_RX9_33 rfl rfl rfl ?_
  refine E_aload_n dX9_open_5 rfl rfl ?_
  refine E_ic dX9_open_6 rfl ?_
  refine E_puti dX9_open_7 fl_RX9_37 rfl rfl rfl ?_
  refine E_aload_n dX9_open_10 rfl rfl ?_
  refine E_ic dX9_open_11 rfl ?_
  refine E_puti dX9_open_12 fl_RX9_40 rfl rfl rfl ?_
  refine E_aload_n dX9_open_15 rfl rfl ?_
  refine E_ic dX9_open_16 rfl ?_
  refine E_puti dX9_open_17 fl_RX9_43 rfl rfl rfl ?_
  refine E_aload_n dX9_open_20 rfl rfl ?_
  refine E_ic dX9_open_21 rfl ?_
  refine E_puti dX9_open_22 fl_RX9_46 rfl rfl rfl ?_
  refine E_ic dX9_open_25 rfl ?_
  refine E_istore_n (ls' := [some (vR 9 o0), some (vI 0)]) dX9_open_26 rfl (by decide) rfl ?_
  refine e_P_X9_open_L27 ?_ _ _ _ h
  · intro σ_1 h
    refine E_ic dX9_open_59 rfl ?_
    refine E_istore_n (ls' := [some (vR 9 o0), some (vI 0)]) dX9_open_60 rfl (by decide) rfl ?_
    refine e_P_X9_open_L61  _ _ _ h
abbrev Y_X9_take : My := (yX9_take, cX9_take, 2, none)
theorem dX9_take_0 : decode cX9_take 0 = .ok (.aload_n 1, 1) := by decide +kernel
theorem dX9_take_1 : decode cX9_take 1 = .ok (.getfield 9, 3) := by decide +kernel
theorem dX9_take_4 : decode cX9_take 4 = .ok (.iconst 0, 1) := by decide +kernel
theorem dX9_take_5 : decode cX9_take 5 = .ok (.aload_n 0, 1) := by decide +kernel
theorem dX9_take_6 : decode cX9_take 6 = .ok (.getfield 9, 3) := by decide +kernel
theorem dX9_take_9 : decode cX9_take 9 = .ok (.iconst 0, 1) := by decide +kernel
theorem dX9_take_10 : decode cX9_take 10 = .ok (.bipush 6, 2) := by decide +kernel
theorem dX9_take_12 : decode cX9_take 12 = .ok (.invokestatic 66, 3) := by decide +kernel
theorem dX9_take_15 : decode cX9_take 15 = .ok (.aload_n 1, 1) := by decide +kernel
theorem dX9_take_16 : decode cX9_take 16 = .ok (.getfield 15, 3) := by decide +kernel
theorem dX9_take_19 : decode cX9_take 19 = .ok (.iconst 0, 1) := by decide +kernel
theorem dX9_take_20 : decode cX9_take 20 = .ok (.aload_n 0, 1) := by decide +kernel
theorem dX9_take_21 : decode cX9_take 21 = .ok (.getfield 15, 3) := by decide +kernel
theorem dX9_take_24 : decode cX9_take 24 = .ok (.iconst 0, 1) := by decide +kernel
theorem dX9_take_25 : decode cX9_take 25 = .ok (.bipush 6, 2) := by decide +kernel
theorem dX9_take_27 : decode cX9_take 27 = .ok (.invokestatic 66, 3) := by decide +kernel
theorem dX9_take_30 : decode cX9_take 30 = .ok (.aload_n 1, 1) := by decide +kernel
theorem dX9_take_31 : decode cX9_take 31 = .ok (.getfield 18, 3) := by decide +kernel
theorem dX9_take_34 : decode cX9_take 34 = .ok (.iconst 0, 1) := by decide +kernel
theorem dX9_take_35 : decode cX9_take 35 = .ok (.aload_n 0, 1) := by decide +kernel
theorem dX9_take_36 : decode cX9_take 36 = .ok (.getfield 18, 3) := by decide +kernel
theorem dX9_take_39 : decode cX9_take 39 = .ok (.iconst 0, 1) := by decide +kernel
theorem dX9_take_40 : decode cX9_take 40 = .ok (.bipush 6, 2) := by decide +kernel
theorem dX9_take_42 : decode cX9_take 42 = .ok (.invokestatic 66, 3) := by decide +kernel
theorem dX9_take_45 : decode cX9_take 45 = .ok (.aload_n 1, 1) := by decide +kernel
theorem dX9_take_46 : decode cX9_take 46 = .ok (.getfield 21, 3) := by decide +kernel
theorem dX9_take_49 : decode cX9_take 49 = .ok (.iconst 0, 1) := by decide +kernel
theorem dX9_take_50 : decode cX9_take 50 = .ok (.aload_n 0, 1) := by decide +kernel
theorem dX9_take_51 : decode cX9_take 51 = .ok (.getfield 21, 3) := by decide +kernel
theorem dX9_take_54 : decode cX9_take 54 = .ok (.iconst 0, 1) := by decide +kernel
theorem dX9_take_55 : decode cX9_take 55 = .ok (.bipush 6, 2) := by decide +kernel
theorem dX9_take_57 : decode cX9_take 57 = .ok (.invokestatic 66, 3) := by decide +kernel
theorem dX9_take_60 : decode cX9_take 60 = .ok (.aload_n 1, 1) := by decide +kernel
theorem dX9_take_61 : decode cX9_take 61 = .ok (.getfield 24, 3) := by decide +kernel
theorem dX9_take_64 : decode cX9_take 64 = .ok (.iconst 0, 1) := by decide +kernel
theorem dX9_take_65 : decode cX9_take 65 = .ok (.aload_n 0, 1) := by decide +kernel
theorem dX9_take_66 : decode cX9_take 66 = .ok (.getfield 24, 3) := by decide +kernel
theorem dX9_take_69 : decode cX9_take 69 = .ok (.iconst 0, 1) := by decide +kernel
theorem dX9_take_70 : decode cX9_take 70 = .ok (.bipush 6, 2) := by decide +kernel
theorem dX9_take_72 : decode cX9_take 72 = .ok (.invokestatic 66, 3) := by decide +kernel
theorem dX9_take_75 : decode cX9_take 75 = .ok (.aload_n 1, 1) := by decide +kernel
theorem dX9_take_76 : decode cX9_take 76 = .ok (.getfield 27, 3) := by decide +kernel
theorem dX9_take_79 : decode cX9_take 79 = .ok (.iconst 0, 1) := by decide +kernel
theorem dX9_take_80 : decode cX9_take 80 = .ok (.aload_n 0, 1) := by decide +kernel
theorem dX9_take_81 : decode cX9_take 81 = .ok (.getfield 27, 3) := by decide +kernel
theorem dX9_take_84 : decode cX9_take 84 = .ok (.iconst 0, 1) := by decide +kernel
theorem dX9_take_85 : decode cX9_take 85 = .ok (.bipush 6, 2) := by decide +kernel
theorem dX9_take_87 : decode cX9_take 87 = .ok (.invokestatic 66, 3) := by decide +kernel
theorem dX9_take_90 : decode cX9_take 90 = .ok (.aload_n 1, 1) := by decide +kernel
theorem dX9_take_91 : decode cX9_take 91 = .ok (.getfield 30, 3) := by decide +kernel
theorem dX9_take_94 : decode cX9_take 94 = .ok (.iconst 0, 1) := by decide +kernel
theorem dX9_take_95 : decode cX9_take 95 = .ok (.aload_n 0, 1) := by decide +kernel
theorem dX9_take_96 : decode cX9_take 96 = .ok (.getfield 30, 3) := by decide +kernel
theorem dX9_take_99 : decode cX9_take 99 = .ok (.iconst 0, 1) := by decide +kernel
theorem dX9_take_100 : decode cX9_take 100 = .ok (.bipush 6, 2) := by decide +kernel
theorem dX9_take_102 : decode cX9_take 102 = .ok (.invokestatic 66, 3) := by decide +kernel
theorem dX9_take_105 : decode cX9_take 105 = .ok (.aload_n 0, 1) := by decide +kernel
theorem dX9_take_106 : decode cX9_take 106 = .ok (.aload_n 1, 1) := by decide +kernel
theorem dX9_take_107 : decode cX9_take 107 = .ok (.getfield 33, 3) := by decide +kernel
theorem dX9_take_110 : decode cX9_take 110 = .ok (.putfield 33, 3) := by decide +kernel
theorem dX9_take_113 : decode cX9_take 113 = .ok (.aload_n 0, 1) := by decide +kernel
theorem dX9_take_114 : decode cX9_take 114 = .ok (.aload_n 1, 1) := by decide +kernel
theorem dX9_take_115 : decode cX9_take 115 = .ok (.getfield 37, 3) := by decide +kernel
theorem dX9_take_118 : decode cX9_take 118 = .ok (.putfield 37, 3) := by decide +kernel
theorem dX9_take_121 : decode cX9_take 121 = .ok (.aload_n 0, 1) := by decide +kernel
theorem dX9_take_122 : decode cX9_take 122 = .ok (.aload_n 1, 1) := by decide +kernel
theorem dX9_take_123 : decode cX9_take 123 = .ok (.getfield 40, 3) := by decide +kernel
theorem dX9_take_126 : decode cX9_take 126 = .ok (.putfield 40, 3) := by decide +kernel
theorem dX9_take_129 : decode cX9_take 129 = .ok (.aload_n 0, 1) := by decide +kernel
theorem dX9_take_130 : decode cX9_take 130 = .ok (.aload_n 1, 1) := by decide +kernel
theorem dX9_take_131 : decode cX9_take 131 = .ok (.getfield 43, 3) := by decide +kernel
theorem dX9_take_134 : decode cX9_take 134 = .ok (.putfield 43, 3) := by decide +kernel
theorem dX9_take_137 : decode cX9_take 137 = .ok (.aload_n 0, 1) := by decide +kernel
theorem dX9_take_138 : decode cX9_take 138 = .ok (.aload_n 1, 1) := by decide +kernel
theorem dX9_take_139 : decode cX9_take 139 = .ok (.getfield 46, 3) := by decide +kernel
theorem dX9_take_142 : decode cX9_take 142 = .ok (.putfield 46, 3) := by decide +kernel
theorem dX9_take_145 : decode cX9_take 145 = .ok (.return_, 1) := by decide +kernel
theorem fl_RX9_30 : FL RX9 30 9 7 := ⟨inG (i := 320) (by decide +kernel) (by decide +kernel), by decide, by decide⟩
theorem go_9_7 (σ : St) (i : Nat) : go σ 9 i 7 = (1007, i) := rfl
theorem lk_RX9_66 : Cond.methodLink RX9 66 arraycopyName ∈ tG := inG (i := 920) (by decide +kernel) (by decide +kernel)
theorem sh_1007 : shp 1007 = (0, 6) := rfl
def P_X9_take (o0 : Nat) (o1 : Nat) (σ : St) (Q : St → Prop) : Prop :=
  Q (up (up (up (up (up (cp (cp (cp (cp (cp (cp (cp σ 1001 o1 0 1001 o0 0 6) 1002 o1 0 1002 o0 0 6) 1003 o1 0 1003 o0 0 6) 1004 o1 0 1004 o0 0 6) 1005 o1 0 1005 o0 0 6) 1006 o1 0 1006 o0 0 6) 1007 o1 0 1007 o0 0 6) 9 o0 8 ((cp (cp (cp (cp (cp (cp (cp σ 1001 o1 0 1001 o0 0 6) 1002 o1 0 1002 o0 0 6) 1003 o1 0 1003 o0 0 6) 1004 o1 0 1004 o0 0 6) 1005 o1 0 1005 o0 0 6) 1006 o1 0 1006 o0 0 6) 1007 o1 0 1007 o0 0 6) 9 o1 8)) 9 o0 9 ((up (cp (cp (cp (cp (cp (cp (cp σ 1001 o1 0 1001 o0 0 6) 1002 o1 0 1002 o0 0 6) 1003 o1 0 1003 o0 0 6) 1004 o1 0 1004 o0 0 6) 1005 o1 0 1005 o0 0 6) 1006 o1 0 1006 o0 0 6) 1007 o1 0 1007 o0 0 6) 9 o0 8 ((cp (cp (cp (cp (cp (cp (cp σ 1001 o1 0 1001 o0 0 6) 1002 o1 0 1002 o0 0 6) 1003 o1 0 1003 o0 0 6) 1004 o1 0 1004 o0 0 6) 1005 o1 0 1005 o0 0 6) 1006 o1 0 1006 o0 0 6) 1007 o1 0 1007 o0 0 6) 9 o1 8)) 9 o1 9)) 9 o0 10 ((up (up (cp (cp (cp (cp (cp (cp (cp σ 1001 o1 0 1001 o0 0 6) 1002 o1 0 1002 o0 0 6) 1003 o1 0 1003 o0 0 6) 1004 o1 0 1004 o0 0 6) 1005 o1 0 1005 o0 0 6) 1006 o1 0 1006 o0 0 6) 1007 o1 0 1007 o0 0 6) 9 o0 8 ((cp (cp (cp (cp (cp (cp (cp σ 1001 o1 0 1001 o0 0 6) 1002 o1 0 1002 o0 0 6) 1003 o1 0 1003 o0 0 6) 1004 o1 0 1004 o0 0 6) 1005 o1 0 1005 o0 0 6) 1006 o1 0 1006 o0 0 6) 1007 o1 0 1007 o0 0 6) 9 o1 8)) 9 o0 9 ((up (cp (cp (cp (cp (cp (cp (cp σ 1001 o1 0 1001 o0 0 6) 1002 o1 0 1002 o0 0 6) 1003 o1 0 1003 o0 0 6) 1004 o1 0 1004 o0 0 6) 1005 o1 0 1005 o0 0 6) 1006 o1 0 1006 o0 0 6) 1007 o1 0 1007 o0 0 6) 9 o0 8 ((cp (cp (cp (cp (cp (cp (cp σ 1001 o1 0 1001 o0 0 6) 1002 o1 0 1002 o0 0 6) 1003 o1 0 1003 o0 0 6) 1004 o1 0 1004 o0 0 6) 1005 o1 0 1005 o0 0 6) 1006 o1 0 1006 o0 0 6) 1007 o1 0 1007 o0 0 6) 9 o1 8)) 9 o1 9)) 9 o1 10)) 9 o0 11 ((up (up (up (cp (cp (cp (cp (cp (cp (cp σ 1001 o1 0 1001 o0 0 6) 1002 o1 0 1002 o0 0 6) 1003 o1 0 1003 o0 0 6) 1004 o1 0 1004 o0 0 6) 1005 o1 0 1005 o0 0 6) 1006 o1 0 1006 o0 0 6) 1007 o1 0 1007 o0 0 6) 9 o0 8 ((cp (cp (cp (cp (cp (cp (cp σ 1001 o1 0 1001 o0 0 6) 1002 o1 0 1002 o0 0 6) 1003 o1 0 1003 o0 0 6) 1004 o1 0 1004 o0 0 6) 1005 o1 0 1005 o0 0 6) 1006 o1 0 1006 o0 0 6) 1007 o1 0 1007 o0 0 6) 9 o1 8)) 9 o0 9 ((up (cp (cp (cp (cp (cp (cp (cp σ 1001 o1 0 1001 o0 0 6) 1002 o1 0 1002 o0 0 6) 1003 o1 0 1003 o0 0 6) 1004 o1 0 1004 o0 0 6) 1005 o1 0 1005 o0 0 6) 1006 o1 0 1006 o0 0 6) 1007 o1 0 1007 o0 0 6) 9 o0 8 ((cp (cp (cp (cp (cp (cp (cp σ 1001 o1 0 1001 o0 0 6) 1002 o1 0 1002 o0 0 6) 1003 o1 0 1003 o0 0 6) 1004 o1 0 1004 o0 0 6) 1005 o1 0 1005 o0 0 6) 1006 o1 0 1006 o0 0 6) 1007 o1 0 1007 o0 0 6) 9 o1 8)) 9 o1 9)) 9 o0 10 ((up (up (cp (cp (cp (cp (cp (cp (cp σ 1001 o1 0 1001 o0 0 6) 1002 o1 0 1002 o0 0 6) 1003 o1 0 1003 o0 0 6) 1004 o1 0 1004 o0 0 6) 1005 o1 0 1005 o0 0 6) 1006 o1 0 1006 o0 0 6) 1007 o1 0 1007 o0 0 6) 9 o0 8 ((cp (cp (cp (cp (cp (cp (cp σ 1001 o1 0 1001 o0 0 6) 1002 o1 0 1002 o0 0 6) 1003 o1 0 1003 o0 0 6) 1004 o1 0 1004 o0 0 6) 1005 o1 0 1005 o0 0 6) 1006 o1 0 1006 o0 0 6) 1007 o1 0 1007 o0 0 6) 9 o1 8)) 9 o0 9 ((up (cp (cp (cp (cp (cp (cp (cp σ 1001 o1 0 1001 o0 0 6) 1002 o1 0 1002 o0 0 6) 1003 o1 0 1003 o0 0 6) 1004 o1 0 1004 o0 0 6) 1005 o1 0 1005 o0 0 6) 1006 o1 0 1006 o0 0 6) 1007 o1 0 1007 o0 0 6) 9 o0 8 ((cp (cp (cp (cp (cp (cp (cp σ 1001 o1 0 1001 o0 0 6) 1002 o1 0 1002 o0 0 6) 1003 o1 0 1003 o0 0 6) 1004 o1 0 1004 o0 0 6) 1005 o1 0 1005 o0 0 6) 1006 o1 0 1006 o0 0 6) 1007 o1 0 1007 o0 0 6) 9 o1 8)) 9 o1 9)) 9 o1 10)) 9 o1 11)) 9 o0 12 ((up (up (up (up (cp (cp (cp (cp (cp (cp (cp σ 1001 o1 0 1001 o0 0 6) 1002 o1 0 1002 o0 0 6) 1003 o1 0 1003 o0 0 6) 1004 o1 0 1004 o0 0 6) 1005 o1 0 1005 o0 0 6) 1006 o1 0 1006 o0 0 6) 1007 o1 0 1007 o0 0 6) 9 o0 8 ((cp (cp (cp (cp (cp (cp (cp σ 1001 o1 0 1001 o0 0 6) 1002 o1 0 1002 o0 0 6) 1003 o1 0 1003 o0 0 6) 1004 o1 0 1004 o0 0 6) 1005 o1 0 1005 o0 0 6) 1006 o1 0 1006 o0 0 6) 1007 o1 0 1007 o0 0 6) 9 o1 8)) 9 o0 9 ((up (cp (cp (cp (cp (cp (cp (cp σ 1001 o1 0 1001 o0 0 6) 1002 o1 0 1002 o0 0 6) 1003 o1 0 1003 o0 0 6) 1004 o1 0 1004 o0 0 6) 1005 o1 0 1005 o0 0 6) 1006 o1 0 1006 o0 0 6) 1007 o1 0 1007 o0 0 6) 9 o0 8 ((cp (cp (cp (cp (cp (cp (cp σ 1001 o1 0 1001 o0 0 6) 1002 o1 0 1002 o0 0 6) 1003 o1 0 1003 o0 0 6) 1004 o1 0 1004 o0 0 6) 1005 o1 0 1005 o0 0 6) 1006 o1 0 1006 o0 0 6) 1007 o1 0 1007 o0 0 6) 9 o1 8)) 9 o1 9)) 9 o0 10 ((up (up (cp (cp (cp (cp (cp (cp (cp σ 1001 o1 0 1001 o0 0 6) 1002 o1 0 1002 o0 0 6) 1003 o1 0 1003 o0 0 6) 1004 o1 0 1004 o0 0 6) 1005 o1 0 1005 o0 0 6) 1006 o1 0 1006 o0 0 6) 1007 o1 0 1007 o0 0 6) 9 o0 8 ((cp (cp (cp (cp (cp (cp (cp σ 1001 o1 0 1001 o0 0 6) 1002 o1 0 1002 o0 0 6) 1003 o1 0 1003 o0 0 6) 1004 o1 0 1004 o0 0 6) 1005 o1 0 1005 o0 0 6) 1006 o1 0 1006 o0 0 6) 1007 o1 0 1007 o0 0 6) 9 o1 8)) 9 o0 9 ((up (cp (cp (cp (cp (cp (cp (cp σ 1001 o1 0 1001 o0 0 6) 1002 o1 0 1002 o0 0 6) 1003 o1 0 1003 o0 0 6) 1004 o1 0 1004 o0 0 6) 1005 o1 0 1005 o0 0 6) 1006 o1 0 1006 o0 0 6) 1007 o1 0 1007 o0 0 6) 9 o0 8 ((cp (cp (cp (cp (cp (cp (cp σ 1001 o1 0 1001 o0 0 6) 1002 o1 0 1002 o0 0 6) 1003 o1 0 1003 o0 0 6) 1004 o1 0 1004 o0 0 6) 1005 o1 0 1005 o0 0 6) 1006 o1 0 1006 o0 0 6) 1007 o1 0 1007 o0 0 6) 9 o1 8)) 9 o1 9)) 9 o1 10)) 9 o0 11 ((up (up (up (cp (cp (cp (cp (cp (cp (cp σ 1001 o1 0 1001 o0 0 6) 1002 o1 0 1002 o0 0 6) 1003 o1 0 1003 o0 0 6) 1004 o1 0 1004 o0 0 6) 1005 o1 0 1005 o0 0 6) 1006 o1 0 1006 o0 0 6) 1007 o1 0 1007 o0 0 6) 9 o0 8 ((cp (cp (cp (cp (cp (cp (cp σ 1001 o1 0 1001 o0 0 6) 1002 o1 0 1002 o0 0 6) 1003 o1 0 1003 o0 0 6) 1004 o1 0 1004 o0 0 6) 1005 o1 0 1005 o0 0 6) 1006 o1 0 1006 o0 0 6) 1007 o1 0 1007 o0 0 6) 9 o1 8)) 9 o0 9 ((up (cp (cp (cp (cp (cp (cp (cp σ 1001 o1 0 1001 o0 0 6) 1002 o1 0 1002 o0 0 6) 1003 o1 0 1003 o0 0 6) 1004 o1 0 1004 o0 0 6) 1005 o1 0 1005 o0 0 6) 1006 o1 0 1006 o0 0 6) 1007 o1 0 1007 o0 0 6) 9 o0 8 ((cp (cp (cp (cp (cp (cp (cp σ 1001 o1 0 1001 o0 0 6) 1002 o1 0 1002 o0 0 6) 1003 o1 0 1003 o0 0 6) 1004 o1 0 1004 o0 0 6) 1005 o1 0 1005 o0 0 6) 1006 o1 0 1006 o0 0 6) 1007 o1 0 1007 o0 0 6) 9 o1 8)) 9 o1 9)) 9 o0 10 ((up (up (cp (cp (cp (cp (cp (cp (cp σ 1001 o1 0 1001 o0 0 6) 1002 o1 0 1002 o0 0 6) 1003 o1 0 1003 o0 0 6) 1004 o1 0 1004 o0 0 6) 1005 o1 0 1005 o0 0 6) 1006 o1 0 1006 o0 0 6) 1007 o1 0 1007 o0 0 6) 9 o0 8 ((cp (cp (cp (cp (cp (cp (cp σ 1001 o1 0 1001 o0 0 6) 1002 o1 0 1002 o0 0 6) 1003 o1 0 1003 o0 0 6) 1004 o1 0 1004 o0 0 6) 1005 o1 0 1005 o0 0 6) 1006 o1 0 1006 o0 0 6) 1007 o1 0 1007 o0 0 6) 9 o1 8)) 9 o0 9 ((up (cp (cp (cp (cp (cp (cp (cp σ 1001 o1 0 1001 o0 0 6) 1002 o1 0 1002 o0 0 6) 1003 o1 0 1003 o0 0 6) 1004 o1 0 1004 o0 0 6) 1005 o1 0 1005 o0 0 6) 1006 o1 0 1006 o0 0 6) 1007 o1 0 1007 o0 0 6) 9 o0 8 ((cp (cp (cp (cp (cp (cp (cp σ 1001 o1 0 1001 o0 0 6) 1002 o1 0 1002 o0 0 6) 1003 o1 0 1003 o0 0 6) 1004 o1 0 1004 o0 0 6) 1005 o1 0 1005 o0 0 6) 1006 o1 0 1006 o0 0 6) 1007 o1 0 1007 o0 0 6) 9 o1 8)) 9 o1 9)) 9 o1 10)) 9 o1 11)) 9 o1 12))
set_option maxRecDepth 20000 in
set_option maxHeartbeats 2000000 in
theorem s_X9_take {o0 : Nat} {o1 : Nat} {σ : St} {Q : St → Prop} (h : P_X9_take o0 o1 σ Q) : Cn Y_X9_take 1 0 0 ww σ [vR 9 o0, vR 9 o1] (QV Q) := by
  refine Cn_of [some (vR 9 o0), some (vR 9 o1)] (by decide) (Nat.le_of_ble_eq_true rfl) rfl ?_
  unfold P_X9_take at h
  refine E_aload_n dX9_take_0 rfl rfl ?_
  refine E_getr (i := o1) dX9_take_1 fl_RX9_9 rfl rfl (go_9_1 _ _) ?_
  refine E_ic dX9_take_4 rfl ?_
  refine E_aload_n dX9_take_5 rfl rfl ?_
  refine E_getr (i := o0) dX9_take_6 fl_RX9_9 rfl rfl (go_9_1 _ _) ?_
  refine E_ic dX9_take_9 rfl ?_
  refine E_bp dX9_take_10 rfl ?_
  refine E_acpi dX9_take_12 lk_RX9_66 (by decide) (Nat.le_of_ble_eq_true rfl) sh_1001 sh_1001 (by decide) (by decide) (by decide) (by decide) (by decide) ?_
  refine E_aload_n dX9_take_15 rfl rfl ?_
  refine E_getr (i := o1) dX9_take_16 fl_RX9_15 rfl rfl (go_9_2 _ _) ?_
  refine E_ic dX9_take_19 rfl ?_
  refine E_aload_n dX9_take_20 rfl rfl ?_
  refine E_getr (i := o0) dX9_take_21 fl_RX9_15 rfl rfl (go_9_2 _ _) ?_
  refine E_ic dX9_take_24 rfl ?_
  refine E_bp dX9_take_25 rfl ?_
  refine E_acpi dX9_take_27 lk_RX9_66 (by decide) (Nat.le_of_ble_eq_true rfl) sh_1002 sh_1002 (by decide) (by decide) (by decide) (by decide) (by decide) ?_
  refine E_aload_n dX9_take_30 rfl rfl ?_
  refine E_getr (i := o1) dX9_take_31 fl_RX9_18 rfl rfl (go_9_3 _ _) ?_
  refine E_ic dX9_take_34 rfl ?_
  refine E_aload_n dX9_take_35 rfl rfl ?_
  refine E_getr (i := o0) dX9_take_36 fl_RX9_18 rfl rfl (go_9_3 _ _) ?_
  refine E_ic dX9_take_39 rfl ?_
  refine E_bp dX9_take_40 rfl ?_
  refine E_acpi dX9_take_42 lk_RX9_66 (by decide) (Nat.le_of_ble_eq_true rfl) sh_1003 sh_1003 (by decide) (by decide) (by decide) (by decide) (by decide) ?_
  refine E_aload_n dX9_take_45 rfl rfl ?_
  refine E_getr (i := o1) dX9_take_46 fl_RX9_21 rfl rfl (go_9_4 _ _) ?_
  refine E_ic dX9_take_49 rfl ?_
  refine E_aload_n dX9_take_50 rfl rfl ?_
  refine E_getr (i := o0) dX9_take_51 fl_RX9_21 rfl rfl (go_9_4 _ _) ?_
  refine E_ic dX9_take_54 rfl ?_
  refine E_bp dX9_take_55 rfl ?_
  refine E_acpi dX9_take_57 lk_RX9_66 (by decide) (Nat.le_of_ble_eq_true rfl) sh_1004 sh_1004 (by decide) (by decide) (by decide) (by decide) (by decide) ?_
  refine E_aload_n dX9_take_60 rfl rfl ?_
  refine E_getr (i := o1) dX9_take_61 fl_RX9_24 rfl rfl (go_9_5 _ _) ?_
  refine E_ic dX9_take_64 rfl ?_
  refine E_aload_n dX9_take_65 rfl rfl ?_
  refine E_getr (i := o0) dX9_take_66 fl_RX9_24 rfl rfl (go_9_5 _ _) ?_
  refine E_ic dX9_take_69 rfl ?_
  refine E_bp dX9_take_70 rfl ?_
  refine E_acpi dX9_take_72 lk_RX9_66 (by decide) (Nat.le_of_ble_eq_true rfl) sh_1005 sh_1005 (by decide) (by decide) (by decide) (by decide) (by decide) ?_
  refine E_aload_n dX9_take_75 rfl rfl ?_
  refine E_getr (i := o1) dX9_take_76 fl_RX9_27 rfl rfl (go_9_6 _ _) ?_
  refine E_ic dX9_take_79 rfl ?_
  refine E_aload_n dX9_take_80 rfl rfl ?_
  refine E_getr (i := o0) dX9_take_81 fl_RX9_27 rfl rfl (go_9_6 _ _) ?_
  refine E_ic dX9_take_84 rfl ?_
  refine E_bp dX9_take_85 rfl ?_
  refine E_acpi dX9_take_87 lk_RX9_66 (by decide) (Nat.le_of_ble_eq_true rfl) sh_1006 sh_1006 (by decide) (by decide) (by decide) (by decide) (by decide) ?_
  refine E_aload_n dX9_take_90 rfl rfl ?_
  refine E_getr (i := o1) dX9_take_91 fl_RX9_30 rfl rfl (go_9_7 _ _) ?_
  refine E_ic dX9_take_94 rfl ?_
  refine E_aload_n dX9_take_95 rfl rfl ?_
  refine E_getr (i := o0) dX9_take_96 fl_RX9_30 rfl rfl (go_9_7 _ _) ?_
  refine E_ic dX9_take_99 rfl ?_
  refine E_bp dX9_take_100 rfl ?_
  refine E_acpi dX9_take_102 lk_RX9_66 (by decide) (Nat.le_of_ble_eq_true rfl) sh_1007 sh_1007 (by decide) (by decide) (by decide) (by decide) (by decide) ?_
  refine E_aload_n dX9_take_105 rfl rfl ?_
  refine E_aload_n dX9_take_106 rfl rfl ?_
  refine E_geti (i := o1) dX9_take_107 fl_RX9_33 rfl ?_
  refine E_puti dX9_take_110 fl_RX9_33 rfl rfl rfl ?_
  refine E_aload_n dX9_take_113 rfl rfl ?_
  refine E_aload_n dX9_take_114 rfl rfl ?_
  refine E_geti (i := o1) dX9_take_115 fl_RX9_37 rfl ?_
  refine E_puti dX9_take_118 fl_RX9_37 rfl rfl rfl ?_
  refine E_aload_n dX9_take_121 rfl rfl ?_
  refine E_aload_n dX9_take_122 rfl rfl ?_
  refine E_geti (i := o1) dX9_take_123 fl_RX9_40 rfl ?_
  refine E_puti dX9_take_126 fl_RX9_40 rfl rfl rfl ?_
  refine E_aload_n dX9_take_129 rfl rfl ?_
  refine E_aload_n dX9_take_130 rfl rfl ?_
  refine E_geti (i := o1) dX9_take_131 fl_RX9_43 rfl ?_
  refine E_puti dX9_take_134 fl_RX9_43 rfl rfl rfl ?_
  refine E_aload_n dX9_take_137 rfl rfl ?_
  refine E_aload_n dX9_take_138 rfl rfl ?_
  refine E_geti (i := o1) dX9_take_139 fl_RX9_46 rfl ?_
  refine E_puti dX9_take_142 fl_RX9_46 rfl rfl rfl ?_
  exact E_vret dX9_take_145 rfl ⟨rfl, rfl, h⟩
abbrev Y_X9_fallOf : My := (yX9_fallOf, cX9_fallOf, 2, some .int)
theorem dX9_fallOf_0 : decode cX9_fallOf 0 = .ok (.aload_n 0, 1) := by decide +kernel
theorem dX9_fallOf_1 : decode cX9_fallOf 1 = .ok (.getfield 49, 3) := by decide +kernel
theorem dX9_fallOf_4 : decode cX9_fallOf 4 = .ok (.aload_n 0, 1) := by decide +kernel
theorem dX9_fallOf_5 : decode cX9_fallOf 5 = .ok (.getfield 15, 3) := by decide +kernel
theorem dX9_fallOf_8 : decode cX9_fallOf 8 = .ok (.iload_n 1, 1) := by decide +kernel
theorem dX9_fallOf_9 : decode cX9_fallOf 9 = .ok (.iaload, 1) := by decide +kernel
theorem dX9_fallOf_10 : decode cX9_fallOf 10 = .ok (.aload_n 0, 1) := by decide +kernel
theorem dX9_fallOf_11 : decode cX9_fallOf 11 = .ok (.getfield 9, 3) := by decide +kernel
theorem dX9_fallOf_14 : decode cX9_fallOf 14 = .ok (.invokevirtual 72, 3) := by decide +kernel
theorem dX9_fallOf_17 : decode cX9_fallOf 17 = .ok (.ireturn, 1) := by decide +kernel
theorem lk_RX9_72 : Cond.methodLink RX9 72 yX8_fall ∈ tG := inG (i := 951) (by decide +kernel) (by decide +kernel)
theorem m_X8_fall : MV Y_X8_fall 2 8 := ⟨⟨inG (i := 954) (by decide +kernel) (by decide +kernel), inG (i := 100) (by decide +kernel) (by decide +kernel), by decide, by decide, by decide, by decide +kernel⟩, inG (i := 952) (by decide +kernel) (by decide +kernel), inG (i := 953) (by decide +kernel) (by decide +kernel), by decide⟩
def P_X9_fallOf (o0 : Nat) (x1 : Int) (σ : St) (Q : Int → St → Prop) : Prop :=
  0 ≤ x1 ∧ x1 < 6 ∧ P_X8_fall 0 (σ 1002 o0 x1) 1001 o0 σ (fun r_2 σ_1 => Q r_2 σ_1)
set_option maxRecDepth 20000 in
set_option maxHeartbeats 2000000 in
theorem s_X9_fallOf {o0 : Nat} {x1 : Int} {σ : St} {Q : Int → St → Prop} (h : P_X9_fallOf o0 x1 σ Q) : Cn Y_X9_fallOf 1 0 0 ww σ [vR 9 o0, vI x1] (QI Q) := by
  refine Cn_of [some (vR 9 o0), some (vI x1)] (by decide) (Nat.le_of_ble_eq_true rfl) rfl ?_
  unfold P_X9_fallOf at h
  refine E_aload_n dX9_fallOf_0 rfl rfl ?_
  refine E_getr (i := o0) dX9_fallOf_1 fl_RX9_49 rfl rfl (go_9_0 _ _) ?_
  refine E_aload_n dX9_fallOf_4 rfl rfl ?_
  refine E_getr (i := o0) dX9_fallOf_5 fl_RX9_15 rfl rfl (go_9_2 _ _) ?_
  refine E_iload_n dX9_fallOf_8 rfl rfl ?_
  obtain ⟨hg0, hg1, h⟩ := h
  refine E_iald dX9_fallOf_9 sh_1002 hg0 hg1 ?_
  refine E_aload_n dX9_fallOf_10 rfl rfl ?_
  refine E_getr (i := o0) dX9_fallOf_11 fl_RX9_9 rfl rfl (go_9_1 _ _) ?_
  refine E_callV (Y' := Y_X8_fall) (as := [vI (σ 1002 o0 x1), vR 1001 o0]) (st := []) dX9_fallOf_14 lk_RX9_72 m_X8_fall (by decide) (Nat.le_refl _) (Nat.le_refl _) rfl rfl (Nat.le_of_ble_eq_true rfl) (s_X8_fall h) (fun r0 B0 σ_1 h => ?_)
  obtain ⟨r_2, rfl, rfl, h⟩ := h
  exact E_iret dX9_fallOf_17 rfl ⟨_, rfl, rfl, h⟩
abbrev Y_X9_inPhase : My := (yX9_inPhase, cX9_inPhase, 4, some .int)
theorem dX9_inPhase_0 : decode cX9_inPhase 0 = .ok (.iconst 0, 1) := by decide +kernel
theorem dX9_inPhase_1 : decode cX9_inPhase 1 = .ok (.istore_n 2, 1) := by decide +kernel
theorem dX9_inPhase_2 : decode cX9_inPhase 2 = .ok (.iconst 0, 1) := by decide +kernel
theorem dX9_inPhase_3 : decode cX9_inPhase 3 = .ok (.istore_n 3, 1) := by decide +kernel
theorem dX9_inPhase_4 : decode cX9_inPhase 4 = .ok (.iload_n 3, 1) := by decide +kernel
theorem dX9_inPhase_5 : decode cX9_inPhase 5 = .ok (.aload_n 0, 1) := by decide +kernel
theorem dX9_inPhase_6 : decode cX9_inPhase 6 = .ok (.getfield 49, 3) := by decide +kernel
theorem dX9_inPhase_9 : decode cX9_inPhase 9 = .ok (.getfield 59, 3) := by decide +kernel
theorem dX9_inPhase_12 : decode cX9_inPhase 12 = .ok (.if_icmp .ge 25, 3) := by decide +kernel
theorem dX9_inPhase_15 : decode cX9_inPhase 15 = .ok (.aload_n 0, 1) := by decide +kernel
theorem dX9_inPhase_16 : decode cX9_inPhase 16 = .ok (.getfield 21, 3) := by decide +kernel
theorem dX9_inPhase_19 : decode cX9_inPhase 19 = .ok (.iload_n 3, 1) := by decide +kernel
theorem dX9_inPhase_20 : decode cX9_inPhase 20 = .ok (.iaload, 1) := by decide +kernel
theorem dX9_inPhase_21 : decode cX9_inPhase 21 = .ok (.iload_n 1, 1) := by decide +kernel
theorem dX9_inPhase_22 : decode cX9_inPhase 22 = .ok (.if_icmp .ne 9, 3) := by decide +kernel
theorem dX9_inPhase_25 : decode cX9_inPhase 25 = .ok (.iload_n 2, 1) := by decide +kernel
theorem dX9_inPhase_26 : decode cX9_inPhase 26 = .ok (.iconst 1, 1) := by decide +kernel
theorem dX9_inPhase_27 : decode cX9_inPhase 27 = .ok (.iload_n 3, 1) := by decide +kernel
theorem dX9_inPhase_28 : decode cX9_inPhase 28 = .ok (.ishl, 1) := by decide +kernel
theorem dX9_inPhase_29 : decode cX9_inPhase 29 = .ok (.ior, 1) := by decide +kernel
theorem dX9_inPhase_30 : decode cX9_inPhase 30 = .ok (.istore_n 2, 1) := by decide +kernel
theorem dX9_inPhase_31 : decode cX9_inPhase 31 = .ok (.iinc 3 1, 3) := by decide +kernel
theorem dX9_inPhase_34 : decode cX9_inPhase 34 = .ok (.goto (-30), 3) := by decide +kernel
theorem dX9_inPhase_37 : decode cX9_inPhase 37 = .ok (.iload_n 2, 1) := by decide +kernel
theorem dX9_inPhase_38 : decode cX9_inPhase 38 = .ok (.ireturn, 1) := by decide +kernel
def P_X9_inPhase_L4 (o0 : Nat) (x1 : Int)  (Q : Int → St → Prop) : Nat → Int → Int → St → Prop
  | 0, _, _, _ => False
  | n + 1, x2, x3, σ => (if (σ 8 0 11) ≤ x3 then Q x2 σ else 0 ≤ x3 ∧ x3 < 6 ∧ (if (σ 1004 o0 x3) = x1 then (P_X9_inPhase_L4 o0 x1 Q n) (bO x2 (bL 1 x3)) (wi (x3 + 1)) σ else (P_X9_inPhase_L4 o0 x1 Q n) x2 (wi (x3 + 1)) σ))
set_option maxRecDepth 20000 in
set_option maxHeartbeats 2000000 in
theorem e_P_X9_inPhase_L4 {o0 : Nat} {x1 : Int}  {Q : Int → St → Prop}  : ∀ (n : Nat) (x2 : Int) (x3 : Int) (σ : St), P_X9_inPhase_L4 o0 x1 Q n x2 x3 σ → E Y_X9_inPhase 0 0 0 (QI Q) ww 0 0 4 [some (vR 9 o0), some (vI x1), some (vI x2), some (vI x3)] [] σ := by
  intro n
  induction n with
  | zero => intro x2 x3 σ h; exact h.elim
  | succ n hR =>
    intro x2 x3 σ h
    unfold P_X9_inPhase_L4 at h
    refine E_iload_n dX9_inPhase_4 rfl rfl ?_
    refine E_aload_n dX9_inPhase_5 rfl rfl ?_
    refine E_getr (i := o0) dX9_inPhase_6 fl_RX9_49 rfl rfl (go_9_0 _ _) ?_
    refine E_geti (i := 0) dX9_inPhase_9 fl_RX9_59 rfl ?_
    refine E_icmp_ge (tgt := 37) dX9_inPhase_12 (by decide) (fun hc => ?_) (fun hc => ?_)
    · have h := Eq.mp (if_pos hc) h
      refine E_iload_n dX9_inPhase_37 rfl rfl ?_
      exact E_iret dX9_inPhase_38 rfl ⟨_, rfl, rfl, h⟩
    · have h := Eq.mp (if_neg hc) h
      refine E_aload_n dX9_inPhase_15 rfl rfl ?_
      refine E_getr (i := o0) dX9_inPhase_16 fl_RX9_21 rfl rfl (go_9_4 _ _) ?_
      refine E_iload_n dX9_inPhase_19 rfl rfl ?_
      obtain ⟨hg0, hg1, h⟩ := h
      refine E_iald dX9_inPhase_20 sh_1004 hg0 hg1 ?_
      refine E_iload_n dX9_inPhase_21 rfl rfl ?_
      refine E_icmp_ne (tgt := 31) dX9_inPhase_22 (by decide) (fun hc => ?_) (fun hc => ?_)
      · have h := Eq.mp (if_neg hc) h
        refine E_iinc (ls' := [some (vR 9 o0), some (vI x1), some (vI x2), some (vI (wi (x3 + 1)))]) dX9_inPhase_31 rfl (by decide) rfl rfl ?_
        refine E_goto (tgt := 4) dX9_inPhase_34 (by decide) ?_
        exact hR _ _ _ h
      · have h := Eq.mp (if_pos hc) h
        refine E_iload_n dX9_inPhase_25 rfl rfl ?_
        refine E_ic dX9_inPhase_26 rfl ?_
        refine E_iload_n dX9_inPhase_27 rfl rfl ?_
        refine E_ishl dX9_inPhase_28 ?_
        refine E_ior dX9_inPhase_29 ?_
        refine E_istore_n (ls' := [some (vR 9 o0), some (vI x1), some (vI (bO x2 (bL 1 x3))), some (vI x3)]) dX9_inPhase_30 rfl (by decide) rfl ?_
        refine E_iinc (ls' := [some (vR 9 o0), some (vI x1), some (vI (bO x2 (bL 1 x3))), some (vI (wi (x3 + 1)))]) dX9_inPhase_31 rfl (by decide) rfl rfl ?_
        refine E_goto (tgt := 4) dX9_inPhase_34 (by decide) ?_
        exact hR _ _ _ h
def P_X9_inPhase (o0 : Nat) (x1 : Int) (σ : St) (Q : Int → St → Prop) : Prop :=
  P_X9_inPhase_L4 o0 x1 Q FU 0 0 σ
set_option maxRecDepth 20000 in
set_option maxHeartbeats 2000000 in
theorem s_X9_inPhase {o0 : Nat} {x1 : Int} {σ : St} {Q : Int → St → Prop} (h : P_X9_inPhase o0 x1 σ Q) : Cn Y_X9_inPhase 0 0 0 ww σ [vR 9 o0, vI x1] (QI Q) := by
  refine Cn_of [some (vR 9 o0), some (vI x1), none, none] (by decide) (Nat.le_of_ble_eq_true rfl) rfl ?_
  unfold P_X9_inPhase at h
  refine E_ic dX9_inPhase_0 rfl ?_
  refine E_istore_n (ls' := [some (vR 9 o0), some (vI x1), some (vI 0), none]) dX9_inPhase_1 rfl (by decide) rfl ?_
  refine E_ic dX9_inPhase_2 rfl ?_
  refine E_istore_n (ls' := [some (vR 9 o0), some (vI x1), some (vI 0), some (vI 0)]) dX9_inPhase_3 rfl (by decide) rfl ?_
  refine e_P_X9_inPhase_L4  _ _ _ _ h
abbrev Y_X9_basket : My := (yX9_basket, cX9_basket, 4, some .int)
theorem dX9_basket_0 : decode cX9_basket 0 = .ok (.iconst 0, 1) := by decide +kernel
theorem dX9_basket_1 : decode cX9_basket 1 = .ok (.istore_n 2, 1) := by decide +kernel
theorem dX9_basket_2 : decode cX9_basket 2 = .ok (.iconst 0, 1) := by decide +kernel
theorem dX9_basket_3 : decode cX9_basket 3 = .ok (.istore_n 3, 1) := by decide +kernel
theorem dX9_basket_4 : decode cX9_basket 4 = .ok (.iload_n 3, 1) := by decide +kernel
theorem dX9_basket_5 : decode cX9_basket 5 = .ok (.aload_n 0, 1) := by decide +kernel
theorem dX9_basket_6 : decode cX9_basket 6 = .ok (.getfield 49, 3) := by decide +kernel
theorem dX9_basket_9 : decode cX9_basket 9 = .ok (.getfield 59, 3) := by decide +kernel
theorem dX9_basket_12 : decode cX9_basket 12 = .ok (.if_icmp .ge 34, 3) := by decide +kernel
theorem dX9_basket_15 : decode cX9_basket 15 = .ok (.aload_n 0, 1) := by decide +kernel
theorem dX9_basket_16 : decode cX9_basket 16 = .ok (.getfield 21, 3) := by decide +kernel
theorem dX9_basket_19 : decode cX9_basket 19 = .ok (.iload_n 3, 1) := by decide +kernel
theorem dX9_basket_20 : decode cX9_basket 20 = .ok (.iaload, 1) := by decide +kernel
theorem dX9_basket_21 : decode cX9_basket 21 = .ok (.ifCond .ne 19, 3) := by decide +kernel
theorem dX9_basket_24 : decode cX9_basket 24 = .ok (.aload_n 0, 1) := by decide +kernel
theorem dX9_basket_25 : decode cX9_basket 25 = .ok (.getfield 18, 3) := by decide +kernel
theorem dX9_basket_28 : decode cX9_basket 28 = .ok (.iload_n 3, 1) := by decide +kernel
theorem dX9_basket_29 : decode cX9_basket 29 = .ok (.iaload, 1) := by decide +kernel
theorem dX9_basket_30 : decode cX9_basket 30 = .ok (.iload_n 1, 1) := by decide +kernel
theorem dX9_basket_31 : decode cX9_basket 31 = .ok (.if_icmp .ne 9, 3) := by decide +kernel
theorem dX9_basket_34 : decode cX9_basket 34 = .ok (.iload_n 2, 1) := by decide +kernel
theorem dX9_basket_35 : decode cX9_basket 35 = .ok (.iconst 1, 1) := by decide +kernel
theorem dX9_basket_36 : decode cX9_basket 36 = .ok (.iload_n 3, 1) := by decide +kernel
theorem dX9_basket_37 : decode cX9_basket 37 = .ok (.ishl, 1) := by decide +kernel
theorem dX9_basket_38 : decode cX9_basket 38 = .ok (.ior, 1) := by decide +kernel
theorem dX9_basket_39 : decode cX9_basket 39 = .ok (.istore_n 2, 1) := by decide +kernel
theorem dX9_basket_40 : decode cX9_basket 40 = .ok (.iinc 3 1, 3) := by decide +kernel
theorem dX9_basket_43 : decode cX9_basket 43 = .ok (.goto (-39), 3) := by decide +kernel
theorem dX9_basket_46 : decode cX9_basket 46 = .ok (.iload_n 2, 1) := by decide +kernel
theorem dX9_basket_47 : decode cX9_basket 47 = .ok (.ireturn, 1) := by decide +kernel
def P_X9_basket_L4 (o0 : Nat) (x1 : Int)  (Q : Int → St → Prop) : Nat → Int → Int → St → Prop
  | 0, _, _, _ => False
  | n + 1, x2, x3, σ => (if (σ 8 0 11) ≤ x3 then Q x2 σ else 0 ≤ x3 ∧ x3 < 6 ∧ (if (σ 1004 o0 x3) = 0 then 0 ≤ x3 ∧ x3 < 6 ∧ (if (σ 1003 o0 x3) = x1 then (P_X9_basket_L4 o0 x1 Q n) (bO x2 (bL 1 x3)) (wi (x3 + 1)) σ else (P_X9_basket_L4 o0 x1 Q n) x2 (wi (x3 + 1)) σ) else (P_X9_basket_L4 o0 x1 Q n) x2 (wi (x3 + 1)) σ))
set_option maxRecDepth 20000 in
set_option maxHeartbeats 2000000 in
theorem e_P_X9_basket_L4 {o0 : Nat} {x1 : Int}  {Q : Int → St → Prop}  : ∀ (n : Nat) (x2 : Int) (x3 : Int) (σ : St), P_X9_basket_L4 o0 x1 Q n x2 x3 σ → E Y_X9_basket 0 0 0 (QI Q) ww 0 0 4 [some (vR 9 o0), some (vI x1), some (vI x2), some (vI x3)] [] σ := by
  intro n
  induction n with
  | zero => intro x2 x3 σ h; exact h.elim
  | succ n hR =>
    intro x2 x3 σ h
    unfold P_X9_basket_L4 at h
    refine E_iload_n dX9_basket_4 rfl rfl ?_
    refine E_aload_n dX9_basket_5 rfl rfl ?_
    refine E_getr (i := o0) dX9_basket_6 fl_RX9_49 rfl rfl (go_9_0 _ _) ?_
    refine E_geti (i := 0) dX9_basket_9 fl_RX9_59 rfl ?_
    refine E_icmp_ge (tgt := 46) dX9_basket_12 (by decide) (fun hc => ?_) (fun hc => ?_)
    · have h := Eq.mp (if_pos hc) h
      refine E_iload_n dX9_basket_46 rfl rfl ?_
      exact E_iret dX9_basket_47 rfl ⟨_, rfl, rfl, h⟩
    · have h := Eq.mp (if_neg hc) h
      refine E_aload_n dX9_basket_15 rfl rfl ?_
      refine E_getr (i := o0) dX9_basket_16 fl_RX9_21 rfl rfl (go_9_4 _ _) ?_
      refine E_iload_n dX9_basket_19 rfl rfl ?_
      obtain ⟨hg0, hg1, h⟩ := h
      refine E_iald dX9_basket_20 sh_1004 hg0 hg1 ?_
      refine E_if_ne (tgt := 40) dX9_basket_21 (by decide) (fun hc => ?_) (fun hc => ?_)
      · have h := Eq.mp (if_neg hc) h
        refine E_iinc (ls' := [some (vR 9 o0), some (vI x1), some (vI x2), some (vI (wi (x3 + 1)))]) dX9_basket_40 rfl (by decide) rfl rfl ?_
        refine E_goto (tgt := 4) dX9_basket_43 (by decide) ?_
        exact hR _ _ _ h
      · have h := Eq.mp (if_pos hc) h
        refine E_aload_n dX9_basket_24 rfl rfl ?_
        refine E_getr (i := o0) dX9_basket_25 fl_RX9_18 rfl rfl (go_9_3 _ _) ?_
        refine E_iload_n dX9_basket_28 rfl rfl ?_
        obtain ⟨hg0, hg1, h⟩ := h
        refine E_iald dX9_basket_29 sh_1003 hg0 hg1 ?_
        refine E_iload_n dX9_basket_30 rfl rfl ?_
        refine E_icmp_ne (tgt := 40) dX9_basket_31 (by decide) (fun hc => ?_) (fun hc => ?_)
        · have h := Eq.mp (if_neg hc) h
          refine E_iinc (ls' := [some (vR 9 o0), some (vI x1), some (vI x2), some (vI (wi (x3 + 1)))]) dX9_basket_40 rfl (by decide) rfl rfl ?_
          refine E_goto (tgt := 4) dX9_basket_43 (by decide) ?_
          exact hR _ _ _ h
        · have h := Eq.mp (if_pos hc) h
          refine E_iload_n dX9_basket_34 rfl rfl ?_
          refine E_ic dX9_basket_35 rfl ?_
          refine E_iload_n dX9_basket_36 rfl rfl ?_
          refine E_ishl dX9_basket_37 ?_
          refine E_ior dX9_basket_38 ?_
          refine E_istore_n (ls' := [some (vR 9 o0), some (vI x1), some (vI (bO x2 (bL 1 x3))), some (vI x3)]) dX9_basket_39 rfl (by decide) rfl ?_
          refine E_iinc (ls' := [some (vR 9 o0), some (vI x1), some (vI (bO x2 (bL 1 x3))), some (vI (wi (x3 + 1)))]) dX9_basket_40 rfl (by decide) rfl rfl ?_
          refine E_goto (tgt := 4) dX9_basket_43 (by decide) ?_
          exact hR _ _ _ h
def P_X9_basket (o0 : Nat) (x1 : Int) (σ : St) (Q : Int → St → Prop) : Prop :=
  P_X9_basket_L4 o0 x1 Q FU 0 0 σ
set_option maxRecDepth 20000 in
set_option maxHeartbeats 2000000 in
theorem s_X9_basket {o0 : Nat} {x1 : Int} {σ : St} {Q : Int → St → Prop} (h : P_X9_basket o0 x1 σ Q) : Cn Y_X9_basket 0 0 0 ww σ [vR 9 o0, vI x1] (QI Q) := by
  refine Cn_of [some (vR 9 o0), some (vI x1), none, none] (by decide) (Nat.le_of_ble_eq_true rfl) rfl ?_
  unfold P_X9_basket at h
  refine E_ic dX9_basket_0 rfl ?_
  refine E_istore_n (ls' := [some (vR 9 o0), some (vI x1), some (vI 0), none]) dX9_basket_1 rfl (by decide) rfl ?_
  refine E_ic dX9_basket_2 rfl ?_
  refine E_istore_n (ls' := [some (vR 9 o0), some (vI x1), some (vI 0), some (vI 0)]) dX9_basket_3 rfl (by decide) rfl ?_
  refine e_P_X9_basket_L4  _ _ _ _ h
abbrev Y_X9_astray : My := (yX9_astray, cX9_astray, 3, some .int)
theorem dX9_astray_0 : decode cX9_astray 0 = .ok (.iconst 0, 1) := by decide +kernel
theorem dX9_astray_1 : decode cX9_astray 1 = .ok (.istore_n 1, 1) := by decide +kernel
theorem dX9_astray_2 : decode cX9_astray 2 = .ok (.iconst 0, 1) := by decide +kernel
theorem dX9_astray_3 : decode cX9_astray 3 = .ok (.istore_n 2, 1) := by decide +kernel
theorem dX9_astray_4 : decode cX9_astray 4 = .ok (.iload_n 2, 1) := by decide +kernel
theorem dX9_astray_5 : decode cX9_astray 5 = .ok (.aload_n 0, 1) := by decide +kernel
theorem dX9_astray_6 : decode cX9_astray 6 = .ok (.getfield 49, 3) := by decide +kernel
theorem dX9_astray_9 : decode cX9_astray 9 = .ok (.getfield 59, 3) := by decide +kernel
theorem dX9_astray_12 : decode cX9_astray 12 = .ok (.if_icmp .ge 42, 3) := by decide +kernel
theorem dX9_astray_15 : decode cX9_astray 15 = .ok (.aload_n 0, 1) := by decide +kernel
theorem dX9_astray_16 : decode cX9_astray 16 = .ok (.getfield 21, 3) := by decide +kernel
theorem dX9_astray_19 : decode cX9_astray 19 = .ok (.iload_n 2, 1) := by decide +kernel
theorem dX9_astray_20 : decode cX9_astray 20 = .ok (.iaload, 1) := by decide +kernel
theorem dX9_astray_21 : decode cX9_astray 21 = .ok (.ifCond .ne 27, 3) := by decide +kernel
theorem dX9_astray_24 : decode cX9_astray 24 = .ok (.aload_n 0, 1) := by decide +kernel
theorem dX9_astray_25 : decode cX9_astray 25 = .ok (.getfield 18, 3) := by decide +kernel
theorem dX9_astray_28 : decode cX9_astray 28 = .ok (.iload_n 2, 1) := by decide +kernel
theorem dX9_astray_29 : decode cX9_astray 29 = .ok (.iaload, 1) := by decide +kernel
theorem dX9_astray_30 : decode cX9_astray 30 = .ok (.aload_n 0, 1) := by decide +kernel
theorem dX9_astray_31 : decode cX9_astray 31 = .ok (.getfield 49, 3) := by decide +kernel
theorem dX9_astray_34 : decode cX9_astray 34 = .ok (.getfield 63, 3) := by decide +kernel
theorem dX9_astray_37 : decode cX9_astray 37 = .ok (.iload_n 2, 1) := by decide +kernel
theorem dX9_astray_38 : decode cX9_astray 38 = .ok (.iaload, 1) := by decide +kernel
theorem dX9_astray_39 : decode cX9_astray 39 = .ok (.if_icmp .eq 9, 3) := by decide +kernel
theorem dX9_astray_42 : decode cX9_astray 42 = .ok (.iload_n 1, 1) := by decide +kernel
theorem dX9_astray_43 : decode cX9_astray 43 = .ok (.iconst 1, 1) := by decide +kernel
theorem dX9_astray_44 : decode cX9_astray 44 = .ok (.iload_n 2, 1) := by decide +kernel
theorem dX9_astray_45 : decode cX9_astray 45 = .ok (.ishl, 1) := by decide +kernel
theorem dX9_astray_46 : decode cX9_astray 46 = .ok (.ior, 1) := by decide +kernel
theorem dX9_astray_47 : decode cX9_astray 47 = .ok (.istore_n 1, 1) := by decide +kernel
theorem dX9_astray_48 : decode cX9_astray 48 = .ok (.iinc 2 1, 3) := by decide +kernel
theorem dX9_astray_51 : decode cX9_astray 51 = .ok (.goto (-47), 3) := by decide +kernel
theorem dX9_astray_54 : decode cX9_astray 54 = .ok (.iload_n 1, 1) := by decide +kernel
theorem dX9_astray_55 : decode cX9_astray 55 = .ok (.ireturn, 1) := by decide +kernel
def P_X9_astray_L4 (o0 : Nat)  (Q : Int → St → Prop) : Nat → Int → Int → St → Prop
  | 0, _, _, _ => False
  | n + 1, x1, x2, σ => (if (σ 8 0 11) ≤ x2 then Q x1 σ else 0 ≤ x2 ∧ x2 < 6 ∧ (if (σ 1004 o0 x2) = 0 then 0 ≤ x2 ∧ x2 < 6 ∧ 0 ≤ x2 ∧ x2 < 6 ∧ (if (σ 1003 o0 x2) = (σ 906 0 x2) then (P_X9_astray_L4 o0 Q n) x1 (wi (x2 + 1)) σ else (P_X9_astray_L4 o0 Q n) (bO x1 (bL 1 x2)) (wi (x2 + 1)) σ) else (P_X9_astray_L4 o0 Q n) x1 (wi (x2 + 1)) σ))
set_option maxRecDepth 20000 in
set_option maxHeartbeats 2000000 in
theorem e_P_X9_astray_L4 {o0 : Nat}  {Q : Int → St → Prop}  : ∀ (n : Nat) (x1 : Int) (x2 : Int) (σ : St), P_X9_astray_L4 o0 Q n x1 x2 σ → E Y_X9_astray 0 0 0 (QI Q) ww 0 0 4 [some (vR 9 o0), some (vI x1), some (vI x2)] [] σ := by
  intro n
  induction n with
  | zero => intro x1 x2 σ h; exact h.elim
  | succ n hR =>
    intro x1 x2 σ h
    unfold P_X9_astray_L4 at h
    refine E_iload_n dX9_astray_4 rfl rfl ?_
    refine E_aload_n dX9_astray_5 rfl rfl ?_
    refine E_getr (i := o0) dX9_astray_6 fl_RX9_49 rfl rfl (go_9_0 _ _) ?_
    refine E_geti (i := 0) dX9_astray_9 fl_RX9_59 rfl ?_
    refine E_icmp_ge (tgt := 54) dX9_astray_12 (by decide) (fun hc => ?_) (fun hc => ?_)
    · have h := Eq.mp (if_pos hc) h
      refine E_iload_n dX9_astray_54 rfl rfl ?_
      exact E_iret dX9_astray_55 rfl ⟨_, rfl, rfl, h⟩
    · have h := Eq.mp (if_neg hc) h
      refine E_aload_n dX9_astray_15 rfl rfl ?_
      refine E_getr (i := o0) dX9_astray_16 fl_RX9_21 rfl rfl (go_9_4 _ _) ?_
      refine E_iload_n dX9_astray_19 rfl rfl ?_
      obtain ⟨hg0, hg1, h⟩ := h
      refine E_iald dX9_astray_20 sh_1004 hg0 hg1 ?_
      refine E_if_ne (tgt := 48) dX9_astray_21 (by decide) (fun hc => ?_) (fun hc => ?_)
      · have h := Eq.mp (if_neg hc) h
        refine E_iinc (ls' := [some (vR 9 o0), some (vI x1), some (vI (wi (x2 + 1)))]) dX9_astray_48 rfl (by decide) rfl rfl ?_
        refine E_goto (tgt := 4) dX9_astray_51 (by decide) ?_
        exact hR _ _ _ h
      · have h := Eq.mp (if_pos hc) h
        refine E_aload_n dX9_astray_24 rfl rfl ?_
        refine E_getr (i := o0) dX9_astray_25 fl_RX9_18 rfl rfl (go_9_3 _ _) ?_
        refine E_iload_n dX9_astray_28 rfl rfl ?_
        obtain ⟨hg0, hg1, h⟩ := h
        refine E_iald dX9_astray_29 sh_1003 hg0 hg1 ?_
        refine E_aload_n dX9_astray_30 rfl rfl ?_
        refine E_getr (i := o0) dX9_astray_31 fl_RX9_49 rfl rfl (go_9_0 _ _) ?_
        refine E_getr (i := 0) dX9_astray_34 fl_RX9_63 rfl rfl (go_8_6 _ _) ?_
        refine E_iload_n dX9_astray_37 rfl rfl ?_
        obtain ⟨hg0, hg1, h⟩ := h
        refine E_iald dX9_astray_38 sh_906 hg0 hg1 ?_
        refine E_icmp_eq (tgt := 48) dX9_astray_39 (by decide) (fun hc => ?_) (fun hc => ?_)
        · have h := Eq.mp (if_pos hc) h
          refine E_iinc (ls' := [some (vR 9 o0), some (vI x1), some (vI (wi (x2 + 1)))]) dX9_astray_48 rfl (by decide) rfl rfl ?_
          refine E_goto (tgt := 4) dX9_astray_51 (by decide) ?_
          exact hR _ _ _ h
        · have h := Eq.mp (if_neg hc) h
          refine E_iload_n dX9_astray_42 rfl rfl ?_
          refine E_ic dX9_astray_43 rfl ?_
          refine E_iload_n dX9_astray_44 rfl rfl ?_
          refine E_ishl dX9_astray_45 ?_
          refine E_ior dX9_astray_46 ?_
          refine E_istore_n (ls' := [some (vR 9 o0), some (vI (bO x1 (bL 1 x2))), some (vI x2)]) dX9_astray_47 rfl (by decide) rfl ?_
          refine E_iinc (ls' := [some (vR 9 o0), some (vI (bO x1 (bL 1 x2))), some (vI (wi (x2 + 1)))]) dX9_astray_48 rfl (by decide) rfl rfl ?_
          refine E_goto (tgt := 4) dX9_astray_51 (by decide) ?_
          exact hR _ _ _ h
def P_X9_astray (o0 : Nat) (σ : St) (Q : Int → St → Prop) : Prop :=
  P_X9_astray_L4 o0 Q FU 0 0 σ
set_option maxRecDepth 20000 in
set_option maxHeartbeats 2000000 in
theorem s_X9_astray {o0 : Nat} {σ : St} {Q : Int → St → Prop} (h : P_X9_astray o0 σ Q) : Cn Y_X9_astray 0 0 0 ww σ [vR 9 o0] (QI Q) := by
  refine Cn_of [some (vR 9 o0), none, none] (by decide) (Nat.le_of_ble_eq_true rfl) rfl ?_
  unfold P_X9_astray at h
  refine E_ic dX9_astray_0 rfl ?_
  refine E_istore_n (ls' := [some (vR 9 o0), some (vI 0), none]) dX9_astray_1 rfl (by decide) rfl ?_
  refine E_ic dX9_astray_2 rfl ?_
  refine E_istore_n (ls' := [some (vR 9 o0), some (vI 0), some (vI 0)]) dX9_astray_3 rfl (by decide) rfl ?_
  refine e_P_X9_astray_L4  _ _ _ _ h
