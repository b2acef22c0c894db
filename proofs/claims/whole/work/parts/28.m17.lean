abbrev Y_X10_cutNumber : My := (yX10_cutNumber, cX10_cutNumber, 6, some .int)
theorem dX10_cutNumber_0 : decode cX10_cutNumber 0 = .ok (.lconst 0, 1) := by decide +kernel
theorem dX10_cutNumber_1 : decode cX10_cutNumber 1 = .ok (.lstore_n 3, 1) := by decide +kernel
theorem dX10_cutNumber_2 : decode cX10_cutNumber 2 = .ok (.iload_n 2, 1) := by decide +kernel
theorem dX10_cutNumber_3 : decode cX10_cutNumber 3 = .ok (.istore 5, 2) := by decide +kernel
theorem dX10_cutNumber_5 : decode cX10_cutNumber 5 = .ok (.iload 5, 2) := by decide +kernel
theorem dX10_cutNumber_7 : decode cX10_cutNumber 7 = .ok (.aload_n 0, 1) := by decide +kernel
theorem dX10_cutNumber_8 : decode cX10_cutNumber 8 = .ok (.getfield 26, 3) := by decide +kernel
theorem dX10_cutNumber_11 : decode cX10_cutNumber 11 = .ok (.if_icmp .ge 45, 3) := by decide +kernel
theorem dX10_cutNumber_14 : decode cX10_cutNumber 14 = .ok (.aload_n 0, 1) := by decide +kernel
theorem dX10_cutNumber_15 : decode cX10_cutNumber 15 = .ok (.getfield 9, 3) := by decide +kernel
theorem dX10_cutNumber_18 : decode cX10_cutNumber 18 = .ok (.iload 5, 2) := by decide +kernel
theorem dX10_cutNumber_20 : decode cX10_cutNumber 20 = .ok (.caload, 1) := by decide +kernel
theorem dX10_cutNumber_21 : decode cX10_cutNumber 21 = .ok (.bipush 48, 2) := by decide +kernel
theorem dX10_cutNumber_23 : decode cX10_cutNumber 23 = .ok (.bipush 57, 2) := by decide +kernel
theorem dX10_cutNumber_25 : decode cX10_cutNumber 25 = .ok (.invokestatic 36, 3) := by decide +kernel
theorem dX10_cutNumber_28 : decode cX10_cutNumber 28 = .ok (.ifCond .eq 28, 3) := by decide +kernel
theorem dX10_cutNumber_31 : decode cX10_cutNumber 31 = .ok (.lload_n 3, 1) := by decide +kernel
theorem dX10_cutNumber_32 : decode cX10_cutNumber 32 = .ok (.ldc2_w 66, 3) := by decide +kernel
theorem dX10_cutNumber_35 : decode cX10_cutNumber 35 = .ok (.lmul, 1) := by decide +kernel
theorem dX10_cutNumber_36 : decode cX10_cutNumber 36 = .ok (.aload_n 0, 1) := by decide +kernel
theorem dX10_cutNumber_37 : decode cX10_cutNumber 37 = .ok (.getfield 9, 3) := by decide +kernel
theorem dX10_cutNumber_40 : decode cX10_cutNumber 40 = .ok (.iload 5, 2) := by decide +kernel
theorem dX10_cutNumber_42 : decode cX10_cutNumber 42 = .ok (.caload, 1) := by decide +kernel
theorem dX10_cutNumber_43 : decode cX10_cutNumber 43 = .ok (.i2l, 1) := by decide +kernel
theorem dX10_cutNumber_44 : decode cX10_cutNumber 44 = .ok (.ladd, 1) := by decide +kernel
theorem dX10_cutNumber_45 : decode cX10_cutNumber 45 = .ok (.ldc2_w 68, 3) := by decide +kernel
theorem dX10_cutNumber_48 : decode cX10_cutNumber 48 = .ok (.lsub, 1) := by decide +kernel
theorem dX10_cutNumber_49 : decode cX10_cutNumber 49 = .ok (.lstore_n 3, 1) := by decide +kernel
theorem dX10_cutNumber_50 : decode cX10_cutNumber 50 = .ok (.iinc 5 1, 3) := by decide +kernel
theorem dX10_cutNumber_53 : decode cX10_cutNumber 53 = .ok (.goto (-48), 3) := by decide +kernel
theorem dX10_cutNumber_56 : decode cX10_cutNumber 56 = .ok (.aload_n 0, 1) := by decide +kernel
theorem dX10_cutNumber_57 : decode cX10_cutNumber 57 = .ok (.iload_n 1, 1) := by decide +kernel
theorem dX10_cutNumber_58 : decode cX10_cutNumber 58 = .ok (.iload 5, 2) := by decide +kernel
theorem dX10_cutNumber_60 : decode cX10_cutNumber 60 = .ok (.iload_n 2, 1) := by decide +kernel
theorem dX10_cutNumber_61 : decode cX10_cutNumber 61 = .ok (.isub, 1) := by decide +kernel
theorem dX10_cutNumber_62 : decode cX10_cutNumber 62 = .ok (.iconst 4, 1) := by decide +kernel
theorem dX10_cutNumber_63 : decode cX10_cutNumber 63 = .ok (.if_icmp .gt 7, 3) := by decide +kernel
theorem dX10_cutNumber_66 : decode cX10_cutNumber 66 = .ok (.iconst 3, 1) := by decide +kernel
theorem dX10_cutNumber_67 : decode cX10_cutNumber 67 = .ok (.goto 4, 3) := by decide +kernel
theorem dX10_cutNumber_70 : decode cX10_cutNumber 70 = .ok (.iconst 1, 1) := by decide +kernel
theorem dX10_cutNumber_71 : decode cX10_cutNumber 71 = .ok (.iload_n 2, 1) := by decide +kernel
theorem dX10_cutNumber_72 : decode cX10_cutNumber 72 = .ok (.lload_n 3, 1) := by decide +kernel
theorem dX10_cutNumber_73 : decode cX10_cutNumber 73 = .ok (.invokevirtual 44, 3) := by decide +kernel
theorem dX10_cutNumber_76 : decode cX10_cutNumber 76 = .ok (.iload 5, 2) := by decide +kernel
theorem dX10_cutNumber_78 : decode cX10_cutNumber 78 = .ok (.ireturn, 1) := by decide +kernel
theorem kl_RX10_66 : Cond.constantLong RX10 66 (10) ∈ tG := inG (i := 562) (by decide +kernel) (by decide +kernel)
theorem kl_RX10_68 : Cond.constantLong RX10 68 (48) ∈ tG := inG (i := 563) (by decide +kernel) (by decide +kernel)
def P_X10_cutNumber_L5  (x1 : Int) (x2 : Int) (K : Int → Int → St → Prop) (Q : Int → St → Prop) : Nat → Int → Int → St → Prop
  | 0, _, _, _ => False
  | n + 1, x3, x5, σ => (if (σ 10 0 4) ≤ x5 then K x3 x5 σ else 0 ≤ x5 ∧ x5 < 1000 ∧ P_X11_within (σ 1100 0 x5) 48 57 σ (fun r_2 σ_1 => (if r_2 = 0 then K x3 x5 σ_1 else 0 ≤ x5 ∧ x5 < 1000 ∧ (P_X10_cutNumber_L5 x1 x2 K Q n) (wj ((wj ((wj (x3 * 10)) + (σ_1 1100 0 x5))) - 48)) (wi (x5 + 1)) σ_1)))
set_option maxRecDepth 20000 in
set_option maxHeartbeats 2000000 in
theorem e_P_X10_cutNumber_L5  {x1 : Int} {x2 : Int} {K : Int → Int → St → Prop} {Q : Int → St → Prop}  (hK : ∀ x3 x5 σ, K x3 x5 σ → E Y_X10_cutNumber 1 0 0 (QI Q) ww 0 0 56 [some (vR 10 0), some (vI x1), some (vI x2), some (vL x3), none, some (vI x5)] [] σ) : ∀ (n : Nat) (x3 : Int) (x5 : Int) (σ : St), P_X10_cutNumber_L5 x1 x2 K Q n x3 x5 σ → E Y_X10_cutNumber 1 0 0 (QI Q) ww 0 0 5 [some (vR 10 0), some (vI x1), some (vI x2), some (vL x3), none, some (vI x5)] [] σ := by
  intro n
  induction n with
  | zero => intro x3 x5 σ h; exact h.elim
  | succ n hR =>
    intro x3 x5 σ h
    unfold P_X10_cutNumber_L5 at h
    refine E_iload dX10_cutNumber_5 rfl ?_
    refine E_aload_n dX10_cutNumber_7 rfl rfl ?_
    refine E_geti (i := 0) dX10_cutNumber_8 fl_RX10_26 rfl ?_
    refine E_icmp_ge (tgt := 56) dX10_cutNumber_11 (by decide) (fun hc => ?_) (fun hc => ?_)
    · have h := Eq.mp (if_pos hc) h
      exact hK _ _ _ h
    · have h := Eq.mp (if_neg hc) h
      refine E_aload_n dX10_cutNumber_14 rfl rfl ?_
      refine E_getr (i := 0) dX10_cutNumber_15 fl_RX10_9 rfl rfl (go_10_0 _ _) ?_
      refine E_iload dX10_cutNumber_18 rfl ?_
      obtain ⟨hg0, hg1, h⟩ := h
      refine E_cald dX10_cutNumber_20 sh_1100 hg0 hg1 ?_
      refine E_bp dX10_cutNumber_21 rfl ?_
      refine E_bp dX10_cutNumber_23 rfl ?_
      refine E_callN (Y' := Y_X11_within) (as := [vI (σ 1100 0 x5), vI 48, vI 57]) (st := []) dX10_cutNumber_25 nk_RX10_36 m_X11_within (by decide) (Nat.le_refl _) (Nat.le_refl _) rfl rfl (Nat.le_of_ble_eq_true rfl) (s_X11_within h) (fun r0 B0 σ_1 h => ?_)
      obtain ⟨r_2, rfl, rfl, h⟩ := h
      refine E_if_eq (tgt := 56) dX10_cutNumber_28 (by decide) (fun hc => ?_) (fun hc => ?_)
      · have h := Eq.mp (if_pos hc) h
        exact hK _ _ _ h
      · have h := Eq.mp (if_neg hc) h
        refine E_lload_n dX10_cutNumber_31 rfl rfl ?_
        refine E_ldc2 (z := 10) dX10_cutNumber_32 kl_RX10_66 (by decide) ?_
        refine E_lmul dX10_cutNumber_35 ?_
        refine E_aload_n dX10_cutNumber_36 rfl rfl ?_
        refine E_getr (i := 0) dX10_cutNumber_37 fl_RX10_9 rfl rfl (go_10_0 _ _) ?_
        refine E_iload dX10_cutNumber_40 rfl ?_
        obtain ⟨hg0, hg1, h⟩ := h
        refine E_cald dX10_cutNumber_42 sh_1100 hg0 hg1 ?_
        refine E_i2l dX10_cutNumber_43 ?_
        refine E_ladd dX10_cutNumber_44 ?_
        refine E_ldc2 (z := 48) dX10_cutNumber_45 kl_RX10_68 (by decide) ?_
        refine E_lsub dX10_cutNumber_48 ?_
        refine E_lstore_n (ls' := [some (vR 10 0), some (vI x1), some (vI x2), some (vL (wj ((wj ((wj (x3 * 10)) + (σ_1 1100 0 x5))) - 48))), none, some (vI x5)]) dX10_cutNumber_49 rfl (by decide) rfl ?_
        refine E_iinc (ls' := [some (vR 10 0), some (vI x1), some (vI x2), some (vL (wj ((wj ((wj (x3 * 10)) + (σ_1 1100 0 x5))) - 48))), none, some (vI (wi (x5 + 1)))]) dX10_cutNumber_50 rfl (by decide) rfl rfl ?_
        refine E_goto (tgt := 5) dX10_cutNumber_53 (by decide) ?_
        exact hR _ _ _ h
def P_X10_cutNumber_J71  (x2 : Int) (x3 : Int) (x5 : Int) (y0 : Int) (y1 : Int)  (Q : Int → St → Prop) (σ : St) : Prop :=
  P_X10_put y1 y0 x2 x3 σ (fun σ_6 => Q x5 σ_6)
set_option maxRecDepth 20000 in
set_option maxHeartbeats 2000000 in
theorem e_P_X10_cutNumber_J71  {x2 : Int} {x3 : Int} {x5 : Int} {y0 : Int} {y1 : Int}  {Q : Int → St → Prop} {σ : St}   (h : P_X10_cutNumber_J71 x2 x3 x5 y0 y1 Q σ) : E Y_X10_cutNumber 1 0 0 (QI Q) ww 0 0 71 [none, none, some (vI x2), some (vL x3), none, some (vI x5)] [vI y0, vI y1, vR 10 0] σ := by
  unfold P_X10_cutNumber_J71 at h
  refine E_iload_n dX10_cutNumber_71 rfl rfl ?_
  refine E_lload_n dX10_cutNumber_72 rfl rfl ?_
  refine E_callV (Y' := Y_X10_put) (as := [vI y1, vI y0, vI x2, vL x3]) (st := []) dX10_cutNumber_73 lk_RX10_44 m_X10_put (by decide) (Nat.le_refl _) (Nat.le_refl _) rfl rfl (Nat.le_of_ble_eq_true rfl) (s_X10_put h) (fun r0 B0 σ_6 h => ?_)
  obtain ⟨rfl, rfl, h⟩ := h
  refine E_iload dX10_cutNumber_76 rfl ?_
  exact E_iret dX10_cutNumber_78 rfl ⟨_, rfl, rfl, h⟩
def P_X10_cutNumber_J56  (x1 : Int) (x2 : Int) (x3 : Int) (x5 : Int)  (Q : Int → St → Prop) (σ : St) : Prop :=
  (if 4 < (wi (x5 - x2)) then P_X10_cutNumber_J71 x2 x3 x5 1 x1 Q σ else P_X10_cutNumber_J71 x2 x3 x5 3 x1 Q σ)
set_option maxRecDepth 20000 in
set_option maxHeartbeats 2000000 in
theorem e_P_X10_cutNumber_J56  {x1 : Int} {x2 : Int} {x3 : Int} {x5 : Int}  {Q : Int → St → Prop} {σ : St}   (h : P_X10_cutNumber_J56 x1 x2 x3 x5 Q σ) : E Y_X10_cutNumber 1 0 0 (QI Q) ww 0 0 56 [some (vR 10 0), some (vI x1), some (vI x2), some (vL x3), none, some (vI x5)] [] σ := by
  unfold P_X10_cutNumber_J56 at h
  refine E_aload_n dX10_cutNumber_56 rfl rfl ?_
  refine E_iload_n dX10_cutNumber_57 rfl rfl ?_
  refine E_iload dX10_cutNumber_58 rfl ?_
  refine E_iload_n dX10_cutNumber_60 rfl rfl ?_
  refine E_isub dX10_cutNumber_61 ?_
  refine E_ic dX10_cutNumber_62 rfl ?_
  refine E_icmp_gt (tgt := 70) dX10_cutNumber_63 (by decide) (fun hc => ?_) (fun hc => ?_)
  · have h := Eq.mp (if_pos hc) h
    refine E_ic dX10_cutNumber_70 rfl ?_
    refine E_wk2 [none, none, some (vI x2), some (vL x3), none, some (vI x5)] ⟨rfl, ⟨rfl, ⟨rfl, trivial⟩⟩⟩ ?_
    exact e_P_X10_cutNumber_J71 h
  · have h := Eq.mp (if_neg hc) h
    refine E_ic dX10_cutNumber_66 rfl ?_
    refine E_goto (tgt := 71) dX10_cutNumber_67 (by decide) ?_
    refine E_wk2 [none, none, some (vI x2), some (vL x3), none, some (vI x5)] ⟨rfl, ⟨rfl, ⟨rfl, trivial⟩⟩⟩ ?_
    exact e_P_X10_cutNumber_J71 h
def P_X10_cutNumber  (x1 : Int) (x2 : Int) (σ : St) (Q : Int → St → Prop) : Prop :=
  P_X10_cutNumber_L5 x1 x2 (fun x3_3 x5_4 σ_5 => P_X10_cutNumber_J56 x1 x2 x3_3 x5_4 Q σ_5) Q FU 0 x2 σ
set_option maxRecDepth 20000 in
set_option maxHeartbeats 2000000 in
theorem s_X10_cutNumber   {x1 : Int} {x2 : Int} {σ : St} {Q : Int → St → Prop} (h : P_X10_cutNumber x1 x2 σ Q) : Cn Y_X10_cutNumber 1 0 0 ww σ [vR 10 0, vI x1, vI x2] (QI Q) := by
  refine Cn_of [some (vR 10 0), some (vI x1), some (vI x2), none, none, none] (by decide) (Nat.le_of_ble_eq_true rfl) rfl ?_
  unfold P_X10_cutNumber at h
  refine E_lc dX10_cutNumber_0 rfl ?_
  refine E_lstore_n (ls' := [some (vR 10 0), some (vI x1), some (vI x2), some (vL 0), none, none]) dX10_cutNumber_1 rfl (by decide) rfl ?_
  refine E_iload_n dX10_cutNumber_2 rfl rfl ?_
  refine E_istore (ls' := [some (vR 10 0), some (vI x1), some (vI x2), some (vL 0), none, some (vI x2)]) dX10_cutNumber_3 (by decide) rfl ?_
  refine e_P_X10_cutNumber_L5 ?_ _ _ _ _ h
  · intro x3_3 x5_4 σ_5 h
    exact e_P_X10_cutNumber_J56 h
abbrev Y_X10_numberHere : My := (yX10_numberHere, cX10_numberHere, 4, some .int)
theorem dX10_numberHere_0 : decode cX10_numberHere 0 = .ok (.aload_n 0, 1) := by decide +kernel
theorem dX10_numberHere_1 : decode cX10_numberHere 1 = .ok (.invokevirtual 109, 3) := by decide +kernel
theorem dX10_numberHere_4 : decode cX10_numberHere 4 = .ok (.ifCond .ne 10, 3) := by decide +kernel
theorem dX10_numberHere_7 : decode cX10_numberHere 7 = .ok (.aload_n 0, 1) := by decide +kernel
theorem dX10_numberHere_8 : decode cX10_numberHere 8 = .ok (.iconst 1, 1) := by decide +kernel
theorem dX10_numberHere_9 : decode cX10_numberHere 9 = .ok (.invokevirtual 98, 3) := by decide +kernel
theorem dX10_numberHere_12 : decode cX10_numberHere 12 = .ok (.iload_n 1, 1) := by decide +kernel
theorem dX10_numberHere_13 : decode cX10_numberHere 13 = .ok (.ireturn, 1) := by decide +kernel
theorem dX10_numberHere_14 : decode cX10_numberHere 14 = .ok (.aload_n 0, 1) := by decide +kernel
theorem dX10_numberHere_15 : decode cX10_numberHere 15 = .ok (.getfield 22, 3) := by decide +kernel
theorem dX10_numberHere_18 : decode cX10_numberHere 18 = .ok (.aload_n 0, 1) := by decide +kernel
theorem dX10_numberHere_19 : decode cX10_numberHere 19 = .ok (.getfield 30, 3) := by decide +kernel
theorem dX10_numberHere_22 : decode cX10_numberHere 22 = .ok (.laload, 1) := by decide +kernel
theorem dX10_numberHere_23 : decode cX10_numberHere 23 = .ok (.l2i, 1) := by decide +kernel
theorem dX10_numberHere_24 : decode cX10_numberHere 24 = .ok (.istore_n 3, 1) := by decide +kernel
theorem dX10_numberHere_25 : decode cX10_numberHere 25 = .ok (.iload_n 3, 1) := by decide +kernel
theorem dX10_numberHere_26 : decode cX10_numberHere 26 = .ok (.iload_n 1, 1) := by decide +kernel
theorem dX10_numberHere_27 : decode cX10_numberHere 27 = .ok (.iload_n 2, 1) := by decide +kernel
theorem dX10_numberHere_28 : decode cX10_numberHere 28 = .ok (.invokestatic 36, 3) := by decide +kernel
theorem dX10_numberHere_31 : decode cX10_numberHere 31 = .ok (.ifCond .ne 10, 3) := by decide +kernel
theorem dX10_numberHere_34 : decode cX10_numberHere 34 = .ok (.aload_n 0, 1) := by decide +kernel
theorem dX10_numberHere_35 : decode cX10_numberHere 35 = .ok (.iconst 4, 1) := by decide +kernel
theorem dX10_numberHere_36 : decode cX10_numberHere 36 = .ok (.invokevirtual 98, 3) := by decide +kernel
theorem dX10_numberHere_39 : decode cX10_numberHere 39 = .ok (.iload_n 1, 1) := by decide +kernel
theorem dX10_numberHere_40 : decode cX10_numberHere 40 = .ok (.ireturn, 1) := by decide +kernel
theorem dX10_numberHere_41 : decode cX10_numberHere 41 = .ok (.iload_n 3, 1) := by decide +kernel
theorem dX10_numberHere_42 : decode cX10_numberHere 42 = .ok (.ireturn, 1) := by decide +kernel
theorem lk_RX10_109 : Cond.methodLink RX10 109 yX10_isNumber ∈ tG := inG (i := 729) (by decide +kernel) (by decide +kernel)
def P_X10_numberHere  (x1 : Int) (x2 : Int) (σ : St) (Q : Int → St → Prop) : Prop :=
  P_X10_isNumber σ (fun r_2 σ_1 => (if r_2 = 0 then P_X10_wrong 1 σ_1 (fun σ_6 => Q x1 σ_6) else 0 ≤ σ_1 10 0 5 ∧ σ_1 10 0 5 < 1001 ∧ P_X11_within (wi (σ_1 1103 0 (σ_1 10 0 5))) x1 x2 σ_1 (fun r_4 σ_3 => (if r_4 = 0 then P_X10_wrong 4 σ_3 (fun σ_5 => Q x1 σ_5) else Q (wi (σ_1 1103 0 (σ_1 10 0 5))) σ_3))))
set_option maxRecDepth 20000 in
set_option maxHeartbeats 2000000 in
theorem s_X10_numberHere   {x1 : Int} {x2 : Int} {σ : St} {Q : Int → St → Prop} (h : P_X10_numberHere x1 x2 σ Q) : Cn Y_X10_numberHere 1 0 0 ww σ [vR 10 0, vI x1, vI x2] (QI Q) := by
  refine Cn_of [some (vR 10 0), some (vI x1), some (vI x2), none] (by decide) (Nat.le_of_ble_eq_true rfl) rfl ?_
  unfold P_X10_numberHere at h
  refine E_aload_n dX10_numberHere_0 rfl rfl ?_
  refine E_callV (Y' := Y_X10_isNumber) (as := []) (st := []) dX10_numberHere_1 lk_RX10_109 m_X10_isNumber (by decide) (Nat.le_refl _) (Nat.le_refl _) rfl rfl (Nat.le_of_ble_eq_true rfl) (s_X10_isNumber h) (fun r0 B0 σ_1 h => ?_)
  obtain ⟨r_2, rfl, rfl, h⟩ := h
  refine E_if_ne (tgt := 14) dX10_numberHere_4 (by decide) (fun hc => ?_) (fun hc => ?_)
  · have h := Eq.mp (if_neg hc) h
    refine E_aload_n dX10_numberHere_14 rfl rfl ?_
    refine E_getr (i := 0) dX10_numberHere_15 fl_RX10_22 rfl rfl (go_10_3 _ _) ?_
    refine E_aload_n dX10_numberHere_18 rfl rfl ?_
    refine E_geti (i := 0) dX10_numberHere_19 fl_RX10_30 rfl ?_
    obtain ⟨hg0, hg1, h⟩ := h
    refine E_lald dX10_numberHere_22 sh_1103 hg0 hg1 ?_
    refine E_l2i dX10_numberHere_23 ?_
    refine E_istore_n (ls' := [some (vR 10 0), some (vI x1), some (vI x2), some (vI (wi (σ_1 1103 0 (σ_1 10 0 5))))]) dX10_numberHere_24 rfl (by decide) rfl ?_
    refine E_iload_n dX10_numberHere_25 rfl rfl ?_
    refine E_iload_n dX10_numberHere_26 rfl rfl ?_
    refine E_iload_n dX10_numberHere_27 rfl rfl ?_
    refine E_callN (Y' := Y_X11_within) (as := [vI (wi (σ_1 1103 0 (σ_1 10 0 5))), vI x1, vI x2]) (st := []) dX10_numberHere_28 nk_RX10_36 m_X11_within (by decide) (Nat.le_refl _) (Nat.le_refl _) rfl rfl (Nat.le_of_ble_eq_true rfl) (s_X11_within h) (fun r0 B0 σ_3 h => ?_)
    obtain ⟨r_4, rfl, rfl, h⟩ := h
    refine E_if_ne (tgt := 41) dX10_numberHere_31 (by decide) (fun hc => ?_) (fun hc => ?_)
    · have h := Eq.mp (if_neg hc) h
      refine E_iload_n dX10_numberHere_41 rfl rfl ?_
      exact E_iret dX10_numberHere_42 rfl ⟨_, rfl, rfl, h⟩
    · have h := Eq.mp (if_pos hc) h
      refine E_aload_n dX10_numberHere_34 rfl rfl ?_
      refine E_ic dX10_numberHere_35 rfl ?_
      refine E_callV (Y' := Y_X10_wrong) (as := [vI 4]) (st := []) dX10_numberHere_36 lk_RX10_98 m_X10_wrong (by decide) (Nat.le_refl _) (Nat.le_refl _) rfl rfl (Nat.le_of_ble_eq_true rfl) (s_X10_wrong h) (fun r0 B0 σ_5 h => ?_)
      obtain ⟨rfl, rfl, h⟩ := h
      refine E_iload_n dX10_numberHere_39 rfl rfl ?_
      exact E_iret dX10_numberHere_40 rfl ⟨_, rfl, rfl, h⟩
  · have h := Eq.mp (if_pos hc) h
    refine E_aload_n dX10_numberHere_7 rfl rfl ?_
    refine E_ic dX10_numberHere_8 rfl ?_
    refine E_callV (Y' := Y_X10_wrong) (as := [vI 1]) (st := []) dX10_numberHere_9 lk_RX10_98 m_X10_wrong (by decide) (Nat.le_refl _) (Nat.le_refl _) rfl rfl (Nat.le_of_ble_eq_true rfl) (s_X10_wrong h) (fun r0 B0 σ_6 h => ?_)
    obtain ⟨rfl, rfl, h⟩ := h
    refine E_iload_n dX10_numberHere_12 rfl rfl ?_
    exact E_iret dX10_numberHere_13 rfl ⟨_, rfl, rfl, h⟩
abbrev Y_X10_takeTold : My := (yX10_takeTold, cX10_takeTold, 4, some .int)
theorem dX10_takeTold_0 : decode cX10_takeTold 0 = .ok (.aload_n 0, 1) := by decide +kernel
theorem dX10_takeTold_1 : decode cX10_takeTold 1 = .ok (.invokevirtual 112, 3) := by decide +kernel
theorem dX10_takeTold_4 : decode cX10_takeTold 4 = .ok (.ifCond .ne 10, 3) := by decide +kernel
theorem dX10_takeTold_7 : decode cX10_takeTold 7 = .ok (.aload_n 0, 1) := by decide +kernel
theorem dX10_takeTold_8 : decode cX10_takeTold 8 = .ok (.iconst 1, 1) := by decide +kernel
theorem dX10_takeTold_9 : decode cX10_takeTold 9 = .ok (.invokevirtual 98, 3) := by decide +kernel
theorem dX10_takeTold_12 : decode cX10_takeTold 12 = .ok (.iconst 0, 1) := by decide +kernel
theorem dX10_takeTold_13 : decode cX10_takeTold 13 = .ok (.ireturn, 1) := by decide +kernel
theorem dX10_takeTold_14 : decode cX10_takeTold 14 = .ok (.aload_n 1, 1) := by decide +kernel
theorem dX10_takeTold_15 : decode cX10_takeTold 15 = .ok (.iload_n 2, 1) := by decide +kernel
theorem dX10_takeTold_16 : decode cX10_takeTold 16 = .ok (.aload_n 0, 1) := by decide +kernel
theorem dX10_takeTold_17 : decode cX10_takeTold 17 = .ok (.getfield 22, 3) := by decide +kernel
theorem dX10_takeTold_20 : decode cX10_takeTold 20 = .ok (.aload_n 0, 1) := by decide +kernel
theorem dX10_takeTold_21 : decode cX10_takeTold 21 = .ok (.getfield 30, 3) := by decide +kernel
theorem dX10_takeTold_24 : decode cX10_takeTold 24 = .ok (.laload, 1) := by decide +kernel
theorem dX10_takeTold_25 : decode cX10_takeTold 25 = .ok (.invokestatic 115, 3) := by decide +kernel
theorem dX10_takeTold_28 : decode cX10_takeTold 28 = .ok (.istore_n 3, 1) := by decide +kernel
theorem dX10_takeTold_29 : decode cX10_takeTold 29 = .ok (.iload_n 3, 1) := by decide +kernel
theorem dX10_takeTold_30 : decode cX10_takeTold 30 = .ok (.iconst (-1), 1) := by decide +kernel
theorem dX10_takeTold_31 : decode cX10_takeTold 31 = .ok (.if_icmp .ne 10, 3) := by decide +kernel
theorem dX10_takeTold_34 : decode cX10_takeTold 34 = .ok (.aload_n 0, 1) := by decide +kernel
theorem dX10_takeTold_35 : decode cX10_takeTold 35 = .ok (.iconst 2, 1) := by decide +kernel
theorem dX10_takeTold_36 : decode cX10_takeTold 36 = .ok (.invokevirtual 98, 3) := by decide +kernel
theorem dX10_takeTold_39 : decode cX10_takeTold 39 = .ok (.iconst 0, 1) := by decide +kernel
theorem dX10_takeTold_40 : decode cX10_takeTold 40 = .ok (.ireturn, 1) := by decide +kernel
theorem dX10_takeTold_41 : decode cX10_takeTold 41 = .ok (.aload_n 0, 1) := by decide +kernel
theorem dX10_takeTold_42 : decode cX10_takeTold 42 = .ok (.invokevirtual 95, 3) := by decide +kernel
theorem dX10_takeTold_45 : decode cX10_takeTold 45 = .ok (.iload_n 3, 1) := by decide +kernel
theorem dX10_takeTold_46 : decode cX10_takeTold 46 = .ok (.ireturn, 1) := by decide +kernel
theorem lk_RX10_112 : Cond.methodLink RX10 112 yX10_isName ∈ tG := inG (i := 770) (by decide +kernel) (by decide +kernel)
theorem lk_RX10_115 : Cond.methodLink RX10 115 yX10_indexOf ∈ tG := inG (i := 771) (by decide +kernel) (by decide +kernel)
theorem m_X10_isName : MV Y_X10_isName 0 10 := ⟨⟨inG (i := 705) (by decide +kernel) (by decide +kernel), inG (i := 99) (by decide +kernel) (by decide +kernel), by decide, by decide, by decide, by decide +kernel⟩, inG (i := 703) (by decide +kernel) (by decide +kernel), inG (i := 704) (by decide +kernel) (by decide +kernel), by decide⟩
def P_X10_takeTold  (t1 : Nat) (o1 : Nat) (x2 : Int) (σ : St) (Q : Int → St → Prop) : Prop :=
  P_X10_isName σ (fun r_2 σ_1 => (if r_2 = 0 then P_X10_wrong 1 σ_1 (fun σ_7 => Q 0 σ_7) else 0 ≤ σ_1 10 0 5 ∧ σ_1 10 0 5 < 1001 ∧ P_X10_indexOf t1 o1 x2 (σ_1 1103 0 (σ_1 10 0 5)) σ_1 (fun r_4 σ_3 => (if r_4 = (-1) then P_X10_wrong 2 σ_3 (fun σ_6 => Q 0 σ_6) else P_X10_next σ_3 (fun σ_5 => Q r_4 σ_5)))))
set_option maxRecDepth 20000 in
set_option maxHeartbeats 2000000 in
theorem s_X10_takeTold   {t1 : Nat} {o1 : Nat} {x2 : Int} {σ : St} {Q : Int → St → Prop} (h : P_X10_takeTold t1 o1 x2 σ Q) : Cn Y_X10_takeTold 6 0 0 ww σ [vR 10 0, vR t1 o1, vI x2] (QI Q) := by
  refine Cn_of [some (vR 10 0), some (vR t1 o1), some (vI x2), none] (by decide) (Nat.le_of_ble_eq_true rfl) rfl ?_
  unfold P_X10_takeTold at h
  refine E_aload_n dX10_takeTold_0 rfl rfl ?_
  refine E_callV (Y' := Y_X10_isName) (as := []) (st := []) dX10_takeTold_1 lk_RX10_112 m_X10_isName (by decide) (Nat.le_refl _) (Nat.le_refl _) rfl rfl (Nat.le_of_ble_eq_true rfl) (s_X10_isName h) (fun r0 B0 σ_1 h => ?_)
  obtain ⟨r_2, rfl, rfl, h⟩ := h
  refine E_if_ne (tgt := 14) dX10_takeTold_4 (by decide) (fun hc => ?_) (fun hc => ?_)
  · have h := Eq.mp (if_neg hc) h
    refine E_aload_n dX10_takeTold_14 rfl rfl ?_
    refine E_iload_n dX10_takeTold_15 rfl rfl ?_
    refine E_aload_n dX10_takeTold_16 rfl rfl ?_
    refine E_getr (i := 0) dX10_takeTold_17 fl_RX10_22 rfl rfl (go_10_3 _ _) ?_
    refine E_aload_n dX10_takeTold_20 rfl rfl ?_
    refine E_geti (i := 0) dX10_takeTold_21 fl_RX10_30 rfl ?_
    obtain ⟨hg0, hg1, h⟩ := h
    refine E_lald dX10_takeTold_24 sh_1103 hg0 hg1 ?_
    refine E_callS (Y' := Y_X10_indexOf) (as := [vR t1 o1, vI x2, vL (σ_1 1103 0 (σ_1 10 0 5))]) (st := []) dX10_takeTold_25 lk_RX10_115 m_X10_indexOf (by decide) (Nat.le_refl _) (Nat.le_refl _) rfl rfl (Nat.le_of_ble_eq_true rfl) (s_X10_indexOf h) (fun r0 B0 σ_3 h => ?_)
    obtain ⟨r_4, rfl, rfl, h⟩ := h
    refine E_istore_n (ls' := [some (vR 10 0), some (vR t1 o1), some (vI x2), some (vI r_4)]) dX10_takeTold_28 rfl (by decide) rfl ?_
    refine E_iload_n dX10_takeTold_29 rfl rfl ?_
    refine E_ic dX10_takeTold_30 rfl ?_
    refine E_icmp_ne (tgt := 41) dX10_takeTold_31 (by decide) (fun hc => ?_) (fun hc => ?_)
    · have h := Eq.mp (if_neg hc) h
      refine E_aload_n dX10_takeTold_41 rfl rfl ?_
      refine E_callV (Y' := Y_X10_next) (as := []) (st := []) dX10_takeTold_42 lk_RX10_95 m_X10_next (by decide) (Nat.le_refl _) (Nat.le_refl _) rfl rfl (Nat.le_of_ble_eq_true rfl) (s_X10_next h) (fun r0 B0 σ_5 h => ?_)
      obtain ⟨rfl, rfl, h⟩ := h
      refine E_iload_n dX10_takeTold_45 rfl rfl ?_
      exact E_iret dX10_takeTold_46 rfl ⟨_, rfl, rfl, h⟩
    · have h := Eq.mp (if_pos hc) h
      refine E_aload_n dX10_takeTold_34 rfl rfl ?_
      refine E_ic dX10_takeTold_35 rfl ?_
      refine E_callV (Y' := Y_X10_wrong) (as := [vI 2]) (st := []) dX10_takeTold_36 lk_RX10_98 m_X10_wrong (by decide) (Nat.le_refl _) (Nat.le_refl _) rfl rfl (Nat.le_of_ble_eq_true rfl) (s_X10_wrong h) (fun r0 B0 σ_6 h => ?_)
      obtain ⟨rfl, rfl, h⟩ := h
      refine E_ic dX10_takeTold_39 rfl ?_
      exact E_iret dX10_takeTold_40 rfl ⟨_, rfl, rfl, h⟩
  · have h := Eq.mp (if_pos hc) h
    refine E_aload_n dX10_takeTold_7 rfl rfl ?_
    refine E_ic dX10_takeTold_8 rfl ?_
    refine E_callV (Y' := Y_X10_wrong) (as := [vI 1]) (st := []) dX10_takeTold_9 lk_RX10_98 m_X10_wrong (by decide) (Nat.le_refl _) (Nat.le_refl _) rfl rfl (Nat.le_of_ble_eq_true rfl) (s_X10_wrong h) (fun r0 B0 σ_7 h => ?_)
    obtain ⟨rfl, rfl, h⟩ := h
    refine E_ic dX10_takeTold_12 rfl ?_
    exact E_iret dX10_takeTold_13 rfl ⟨_, rfl, rfl, h⟩
abbrev Y_X11_feed : My := (yX11_feed, cX11_feed, 7, some .int)
theorem dX11_feed_0 : decode cX11_feed 0 = .ok (.aload_n 0, 1) := by decide +kernel
theorem dX11_feed_1 : decode cX11_feed 1 = .ok (.getfield 10, 3) := by decide +kernel
theorem dX11_feed_4 : decode cX11_feed 4 = .ok (.lload_n 1, 1) := by decide +kernel
theorem dX11_feed_5 : decode cX11_feed 5 = .ok (.invokevirtual 94, 3) := by decide +kernel
theorem dX11_feed_8 : decode cX11_feed 8 = .ok (.aload_n 0, 1) := by decide +kernel
theorem dX11_feed_9 : decode cX11_feed 9 = .ok (.getfield 10, 3) := by decide +kernel
theorem dX11_feed_12 : decode cX11_feed 12 = .ok (.lload_n 3, 1) := by decide +kernel
theorem dX11_feed_13 : decode cX11_feed 13 = .ok (.invokevirtual 94, 3) := by decide +kernel
theorem dX11_feed_16 : decode cX11_feed 16 = .ok (.aload_n 0, 1) := by decide +kernel
theorem dX11_feed_17 : decode cX11_feed 17 = .ok (.getfield 10, 3) := by decide +kernel
theorem dX11_feed_20 : decode cX11_feed 20 = .ok (.lload 5, 2) := by decide +kernel
theorem dX11_feed_22 : decode cX11_feed 22 = .ok (.invokevirtual 94, 3) := by decide +kernel
theorem dX11_feed_25 : decode cX11_feed 25 = .ok (.aload_n 0, 1) := by decide +kernel
theorem dX11_feed_26 : decode cX11_feed 26 = .ok (.getfield 10, 3) := by decide +kernel
theorem dX11_feed_29 : decode cX11_feed 29 = .ok (.getfield 98, 3) := by decide +kernel
theorem dX11_feed_32 : decode cX11_feed 32 = .ok (.ireturn, 1) := by decide +kernel
theorem lk_RX11_94 : Cond.methodLink RX11 94 yX10_addBytes ∈ tG := inG (i := 518) (by decide +kernel) (by decide +kernel)
theorem m_X10_addBytes : MV Y_X10_addBytes 1 10 := ⟨⟨inG (i := 521) (by decide +kernel) (by decide +kernel), inG (i := 99) (by decide +kernel) (by decide +kernel), by decide, by decide, by decide, by decide +kernel⟩, inG (i := 519) (by decide +kernel) (by decide +kernel), inG (i := 520) (by decide +kernel) (by decide +kernel), by decide⟩
def P_X11_feed  (x1 : Int) (x3 : Int) (x5 : Int) (σ : St) (Q : Int → St → Prop) : Prop :=
  P_X10_addBytes x1 σ (fun σ_1 => P_X10_addBytes x3 σ_1 (fun σ_2 => P_X10_addBytes x5 σ_2 (fun σ_3 => Q (σ_3 10 0 4) σ_3)))
set_option maxRecDepth 20000 in
set_option maxHeartbeats 2000000 in
theorem s_X11_feed   {x1 : Int} {x3 : Int} {x5 : Int} {σ : St} {Q : Int → St → Prop} (h : P_X11_feed x1 x3 x5 σ Q) : Cn Y_X11_feed 2 0 0 ww σ [vR 11 0, vL x1, vL x3, vL x5] (QI Q) := by
  refine Cn_of [some (vR 11 0), some (vL x1), none, some (vL x3), none, some (vL x5), none] (by decide) (Nat.le_of_ble_eq_true rfl) rfl ?_
  unfold P_X11_feed at h
  refine E_aload_n dX11_feed_0 rfl rfl ?_
  refine E_getr (i := 0) dX11_feed_1 fl_RX11_10 rfl rfl (go_11_0 _ _) ?_
  refine E_lload_n dX11_feed_4 rfl rfl ?_
  refine E_callV (Y' := Y_X10_addBytes) (as := [vL x1]) (st := []) dX11_feed_5 lk_RX11_94 m_X10_addBytes (by decide) (Nat.le_refl _) (Nat.le_refl _) rfl rfl (Nat.le_of_ble_eq_true rfl) (s_X10_addBytes h) (fun r0 B0 σ_1 h => ?_)
  obtain ⟨rfl, rfl, h⟩ := h
  refine E_aload_n dX11_feed_8 rfl rfl ?_
  refine E_getr (i := 0) dX11_feed_9 fl_RX11_10 rfl rfl (go_11_0 _ _) ?_
  refine E_lload_n dX11_feed_12 rfl rfl ?_
  refine E_callV (Y' := Y_X10_addBytes) (as := [vL x3]) (st := []) dX11_feed_13 lk_RX11_94 m_X10_addBytes (by decide) (Nat.le_refl _) (Nat.le_refl _) rfl rfl (Nat.le_of_ble_eq_true rfl) (s_X10_addBytes h) (fun r0 B0 σ_2 h => ?_)
  obtain ⟨rfl, rfl, h⟩ := h
  refine E_aload_n dX11_feed_16 rfl rfl ?_
  refine E_getr (i := 0) dX11_feed_17 fl_RX11_10 rfl rfl (go_11_0 _ _) ?_
  refine E_lload dX11_feed_20 rfl ?_
  refine E_callV (Y' := Y_X10_addBytes) (as := [vL x5]) (st := []) dX11_feed_22 lk_RX11_94 m_X10_addBytes (by decide) (Nat.le_refl _) (Nat.le_refl _) rfl rfl (Nat.le_of_ble_eq_true rfl) (s_X10_addBytes h) (fun r0 B0 σ_3 h => ?_)
  obtain ⟨rfl, rfl, h⟩ := h
  refine E_aload_n dX11_feed_25 rfl rfl ?_
  refine E_getr (i := 0) dX11_feed_26 fl_RX11_10 rfl rfl (go_11_0 _ _) ?_
  refine E_geti (i := 0) dX11_feed_29 fl_RX11_98 rfl ?_
  exact E_iret dX11_feed_32 rfl ⟨_, rfl, rfl, h⟩
abbrev Y_X11_send : My := (yX11_send, cX11_send, 3, some .int)
theorem dX11_send_0 : decode cX11_send 0 = .ok (.aload_n 0, 1) := by decide +kernel
theorem dX11_send_1 : decode cX11_send 1 = .ok (.getfield 50, 3) := by decide +kernel
theorem dX11_send_4 : decode cX11_send 4 = .ok (.iload_n 1, 1) := by decide +kernel
theorem dX11_send_5 : decode cX11_send 5 = .ok (.invokevirtual 163, 3) := by decide +kernel
theorem dX11_send_8 : decode cX11_send 8 = .ok (.ifCond .ne 5, 3) := by decide +kernel
theorem dX11_send_11 : decode cX11_send 11 = .ok (.iconst (-1), 1) := by decide +kernel
theorem dX11_send_12 : decode cX11_send 12 = .ok (.ireturn, 1) := by decide +kernel
theorem dX11_send_13 : decode cX11_send 13 = .ok (.aload_n 0, 1) := by decide +kernel
theorem dX11_send_14 : decode cX11_send 14 = .ok (.getfield 60, 3) := by decide +kernel
theorem dX11_send_17 : decode cX11_send 17 = .ok (.aload_n 0, 1) := by decide +kernel
theorem dX11_send_18 : decode cX11_send 18 = .ok (.getfield 50, 3) := by decide +kernel
theorem dX11_send_21 : decode cX11_send 21 = .ok (.invokevirtual 166, 3) := by decide +kernel
theorem dX11_send_24 : decode cX11_send 24 = .ok (.aload_n 0, 1) := by decide +kernel
theorem dX11_send_25 : decode cX11_send 25 = .ok (.getfield 50, 3) := by decide +kernel
theorem dX11_send_28 : decode cX11_send 28 = .ok (.getfield 157, 3) := by decide +kernel
theorem dX11_send_31 : decode cX11_send 31 = .ok (.iload_n 1, 1) := by decide +kernel
theorem dX11_send_32 : decode cX11_send 32 = .ok (.iaload, 1) := by decide +kernel
theorem dX11_send_33 : decode cX11_send 33 = .ok (.istore_n 2, 1) := by decide +kernel
theorem dX11_send_34 : decode cX11_send 34 = .ok (.aload_n 0, 1) := by decide +kernel
theorem dX11_send_35 : decode cX11_send 35 = .ok (.getfield 50, 3) := by decide +kernel
theorem dX11_send_38 : decode cX11_send 38 = .ok (.iload_n 1, 1) := by decide +kernel
theorem dX11_send_39 : decode cX11_send 39 = .ok (.invokevirtual 170, 3) := by decide +kernel
theorem dX11_send_42 : decode cX11_send 42 = .ok (.pop, 1) := by decide +kernel
theorem dX11_send_43 : decode cX11_send 43 = .ok (.iload_n 2, 1) := by decide +kernel
theorem dX11_send_44 : decode cX11_send 44 = .ok (.ireturn, 1) := by decide +kernel
theorem lk_RX11_163 : Cond.methodLink RX11 163 yX9_canSend ∈ tG := inG (i := 907) (by decide +kernel) (by decide +kernel)
theorem lk_RX11_166 : Cond.methodLink RX11 166 yX5_keep ∈ tG := inG (i := 912) (by decide +kernel) (by decide +kernel)
theorem lk_RX11_170 : Cond.methodLink RX11 170 yX9_sendOff ∈ tG := inG (i := 921) (by decide +kernel) (by decide +kernel)
theorem m_X5_keep : MV Y_X5_keep 1 5 := ⟨⟨inG (i := 915) (by decide +kernel) (by decide +kernel), inG (i := 105) (by decide +kernel) (by decide +kernel), by decide, by decide, by decide, by decide +kernel⟩, inG (i := 913) (by decide +kernel) (by decide +kernel), inG (i := 914) (by decide +kernel) (by decide +kernel), by decide⟩
def P_X11_send  (x1 : Int) (σ : St) (Q : Int → St → Prop) : Prop :=
  P_X9_canSend 0 x1 σ (fun r_2 σ_1 => (if r_2 = 0 then Q (-1) σ_1 else P_X5_keep 0 σ_1 (fun σ_3 => 0 ≤ x1 ∧ x1 < 6 ∧ P_X9_sendOff 0 x1 σ_3 (fun r_5 σ_4 => Q (σ_3 1003 0 x1) σ_4))))
set_option maxRecDepth 20000 in
set_option maxHeartbeats 2000000 in
theorem s_X11_send   {x1 : Int} {σ : St} {Q : Int → St → Prop} (h : P_X11_send x1 σ Q) : Cn Y_X11_send 3 0 0 ww σ [vR 11 0, vI x1] (QI Q) := by
  refine Cn_of [some (vR 11 0), some (vI x1), none] (by decide) (Nat.le_of_ble_eq_true rfl) rfl ?_
  unfold P_X11_send at h
  refine E_aload_n dX11_send_0 rfl rfl ?_
  refine E_getr (i := 0) dX11_send_1 fl_RX11_50 rfl rfl (go_11_6 _ _) ?_
  refine E_iload_n dX11_send_4 rfl rfl ?_
  refine E_callV (Y' := Y_X9_canSend) (as := [vI x1]) (st := []) dX11_send_5 lk_RX11_163 m_X9_canSend (by decide) (Nat.le_refl _) (Nat.le_refl _) rfl rfl (Nat.le_of_ble_eq_true rfl) (s_X9_canSend h) (fun r0 B0 σ_1 h => ?_)
  obtain ⟨r_2, rfl, rfl, h⟩ := h
  refine E_if_ne (tgt := 13) dX11_send_8 (by decide) (fun hc => ?_) (fun hc => ?_)
  · have h := Eq.mp (if_neg hc) h
    refine E_aload_n dX11_send_13 rfl rfl ?_
    refine E_getr (i := 0) dX11_send_14 fl_RX11_60 rfl rfl (go_11_8 _ _) ?_
    refine E_aload_n dX11_send_17 rfl rfl ?_
    refine E_getr (i := 0) dX11_send_18 fl_RX11_50 rfl rfl (go_11_6 _ _) ?_
    refine E_callV (Y' := Y_X5_keep) (as := [vR 9 0]) (st := []) dX11_send_21 lk_RX11_166 m_X5_keep (by decide) (Nat.le_refl _) (Nat.le_refl _) rfl rfl (Nat.le_of_ble_eq_true rfl) (s_X5_keep h) (fun r0 B0 σ_3 h => ?_)
    obtain ⟨rfl, rfl, h⟩ := h
    refine E_aload_n dX11_send_24 rfl rfl ?_
    refine E_getr (i := 0) dX11_send_25 fl_RX11_50 rfl rfl (go_11_6 _ _) ?_
    refine E_getr (i := 0) dX11_send_28 fl_RX11_157 rfl rfl (go_9_3 _ _) ?_
    refine E_iload_n dX11_send_31 rfl rfl ?_
    obtain ⟨hg0, hg1, h⟩ := h
    refine E_iald dX11_send_32 sh_1003 hg0 hg1 ?_
    refine E_istore_n (ls' := [some (vR 11 0), some (vI x1), some (vI (σ_3 1003 0 x1))]) dX11_send_33 rfl (by decide) rfl ?_
    refine E_aload_n dX11_send_34 rfl rfl ?_
    refine E_getr (i := 0) dX11_send_35 fl_RX11_50 rfl rfl (go_11_6 _ _) ?_
    refine E_iload_n dX11_send_38 rfl rfl ?_
    refine E_callV (Y' := Y_X9_sendOff) (as := [vI x1]) (st := []) dX11_send_39 lk_RX11_170 m_X9_sendOff (by decide) (Nat.le_refl _) (Nat.le_refl _) rfl rfl (Nat.le_of_ble_eq_true rfl) (s_X9_sendOff h) (fun r0 B0 σ_4 h => ?_)
    obtain ⟨r_5, rfl, rfl, h⟩ := h
    refine E_pop dX11_send_42 (fun _ q => by cases q) ?_
    refine E_iload_n dX11_send_43 rfl rfl ?_
    exact E_iret dX11_send_44 rfl ⟨_, rfl, rfl, h⟩
  · have h := Eq.mp (if_pos hc) h
    refine E_ic dX11_send_11 rfl ?_
    exact E_iret dX11_send_12 rfl ⟨_, rfl, rfl, h⟩
abbrev Y_X11_beat : My := (yX11_beat, cX11_beat, 1, some .int)
theorem dX11_beat_0 : decode cX11_beat 0 = .ok (.aload_n 0, 1) := by decide +kernel
theorem dX11_beat_1 : decode cX11_beat 1 = .ok (.getfield 60, 3) := by decide +kernel
theorem dX11_beat_4 : decode cX11_beat 4 = .ok (.aload_n 0, 1) := by decide +kernel
theorem dX11_beat_5 : decode cX11_beat 5 = .ok (.getfield 50, 3) := by decide +kernel
theorem dX11_beat_8 : decode cX11_beat 8 = .ok (.invokevirtual 166, 3) := by decide +kernel
theorem dX11_beat_11 : decode cX11_beat 11 = .ok (.aload_n 0, 1) := by decide +kernel
theorem dX11_beat_12 : decode cX11_beat 12 = .ok (.getfield 50, 3) := by decide +kernel
theorem dX11_beat_15 : decode cX11_beat 15 = .ok (.invokevirtual 173, 3) := by decide +kernel
theorem dX11_beat_18 : decode cX11_beat 18 = .ok (.ireturn, 1) := by decide +kernel
theorem lk_RX11_173 : Cond.methodLink RX11 173 yX9_passBeat ∈ tG := inG (i := 935) (by decide +kernel) (by decide +kernel)
def P_X11_beat   (σ : St) (Q : Int → St → Prop) : Prop :=
  P_X5_keep 0 σ (fun σ_1 => P_X9_passBeat 0 σ_1 (fun r_3 σ_2 => Q r_3 σ_2))
set_option maxRecDepth 20000 in
set_option maxHeartbeats 2000000 in
theorem s_X11_beat    {σ : St} {Q : Int → St → Prop} (h : P_X11_beat  σ Q) : Cn Y_X11_beat 4 0 0 ww σ [vR 11 0] (QI Q) := by
  refine Cn_of [some (vR 11 0)] (by decide) (Nat.le_of_ble_eq_true rfl) rfl ?_
  unfold P_X11_beat at h
  refine E_aload_n dX11_beat_0 rfl rfl ?_
  refine E_getr (i := 0) dX11_beat_1 fl_RX11_60 rfl rfl (go_11_8 _ _) ?_
  refine E_aload_n dX11_beat_4 rfl rfl ?_
  refine E_getr (i := 0) dX11_beat_5 fl_RX11_50 rfl rfl (go_11_6 _ _) ?_
  refine E_callV (Y' := Y_X5_keep) (as := [vR 9 0]) (st := []) dX11_beat_8 lk_RX11_166 m_X5_keep (by decide) (Nat.le_refl _) (Nat.le_refl _) rfl rfl (Nat.le_of_ble_eq_true rfl) (s_X5_keep h) (fun r0 B0 σ_1 h => ?_)
  obtain ⟨rfl, rfl, h⟩ := h
  refine E_aload_n dX11_beat_11 rfl rfl ?_
  refine E_getr (i := 0) dX11_beat_12 fl_RX11_50 rfl rfl (go_11_6 _ _) ?_
  refine E_callV (Y' := Y_X9_passBeat) (as := []) (st := []) dX11_beat_15 lk_RX11_173 m_X9_passBeat (by decide) (Nat.le_refl _) (Nat.le_refl _) rfl rfl (Nat.le_of_ble_eq_true rfl) (s_X9_passBeat h) (fun r0 B0 σ_2 h => ?_)
  obtain ⟨r_3, rfl, rfl, h⟩ := h
  exact E_iret dX11_beat_18 rfl ⟨_, rfl, rfl, h⟩
abbrev Y_X11_set : My := (yX11_set, cX11_set, 4, some .int)
theorem dX11_set_0 : decode cX11_set 0 = .ok (.aload_n 0, 1) := by decide +kernel
theorem dX11_set_1 : decode cX11_set 1 = .ok (.getfield 50, 3) := by decide +kernel
theorem dX11_set_4 : decode cX11_set 4 = .ok (.iload_n 1, 1) := by decide +kernel
theorem dX11_set_5 : decode cX11_set 5 = .ok (.iload_n 2, 1) := by decide +kernel
theorem dX11_set_6 : decode cX11_set 6 = .ok (.invokevirtual 177, 3) := by decide +kernel
theorem dX11_set_9 : decode cX11_set 9 = .ok (.ifCond .ne 5, 3) := by decide +kernel
theorem dX11_set_12 : decode cX11_set 12 = .ok (.iconst (-1), 1) := by decide +kernel
theorem dX11_set_13 : decode cX11_set 13 = .ok (.ireturn, 1) := by decide +kernel
theorem dX11_set_14 : decode cX11_set 14 = .ok (.aload_n 0, 1) := by decide +kernel
theorem dX11_set_15 : decode cX11_set 15 = .ok (.getfield 60, 3) := by decide +kernel
theorem dX11_set_18 : decode cX11_set 18 = .ok (.aload_n 0, 1) := by decide +kernel
theorem dX11_set_19 : decode cX11_set 19 = .ok (.getfield 50, 3) := by decide +kernel
theorem dX11_set_22 : decode cX11_set 22 = .ok (.invokevirtual 166, 3) := by decide +kernel
theorem dX11_set_25 : decode cX11_set 25 = .ok (.aload_n 0, 1) := by decide +kernel
theorem dX11_set_26 : decode cX11_set 26 = .ok (.getfield 50, 3) := by decide +kernel
theorem dX11_set_29 : decode cX11_set 29 = .ok (.getfield 136, 3) := by decide +kernel
theorem dX11_set_32 : decode cX11_set 32 = .ok (.iload_n 1, 1) := by decide +kernel
theorem dX11_set_33 : decode cX11_set 33 = .ok (.iaload, 1) := by decide +kernel
theorem dX11_set_34 : decode cX11_set 34 = .ok (.istore_n 3, 1) := by decide +kernel
theorem dX11_set_35 : decode cX11_set 35 = .ok (.aload_n 0, 1) := by decide +kernel
theorem dX11_set_36 : decode cX11_set 36 = .ok (.getfield 50, 3) := by decide +kernel
theorem dX11_set_39 : decode cX11_set 39 = .ok (.iload_n 1, 1) := by decide +kernel
theorem dX11_set_40 : decode cX11_set 40 = .ok (.iload_n 2, 1) := by decide +kernel
theorem dX11_set_41 : decode cX11_set 41 = .ok (.invokevirtual 181, 3) := by decide +kernel
theorem dX11_set_44 : decode cX11_set 44 = .ok (.pop, 1) := by decide +kernel
theorem dX11_set_45 : decode cX11_set 45 = .ok (.iload_n 3, 1) := by decide +kernel
theorem dX11_set_46 : decode cX11_set 46 = .ok (.ireturn, 1) := by decide +kernel
theorem lk_RX11_177 : Cond.methodLink RX11 177 yX9_canSet ∈ tG := inG (i := 963) (by decide +kernel) (by decide +kernel)
theorem lk_RX11_181 : Cond.methodLink RX11 181 yX9_setGap ∈ tG := inG (i := 969) (by decide +kernel) (by decide +kernel)
theorem m_X9_setGap : MV Y_X9_setGap 2 9 := ⟨⟨inG (i := 972) (by decide +kernel) (by decide +kernel), inG (i := 104) (by decide +kernel) (by decide +kernel), by decide, by decide, by decide, by decide +kernel⟩, inG (i := 970) (by decide +kernel) (by decide +kernel), inG (i := 971) (by decide +kernel) (by decide +kernel), by decide⟩
def P_X11_set  (x1 : Int) (x2 : Int) (σ : St) (Q : Int → St → Prop) : Prop :=
  P_X9_canSet 0 x1 x2 σ (fun r_2 σ_1 => (if r_2 = 0 then Q (-1) σ_1 else P_X5_keep 0 σ_1 (fun σ_3 => 0 ≤ x1 ∧ x1 < 6 ∧ P_X9_setGap 0 x1 x2 σ_3 (fun r_5 σ_4 => Q (σ_3 1001 0 x1) σ_4))))
set_option maxRecDepth 20000 in
set_option maxHeartbeats 2000000 in
theorem s_X11_set   {x1 : Int} {x2 : Int} {σ : St} {Q : Int → St → Prop} (h : P_X11_set x1 x2 σ Q) : Cn Y_X11_set 3 0 0 ww σ [vR 11 0, vI x1, vI x2] (QI Q) := by
  refine Cn_of [some (vR 11 0), some (vI x1), some (vI x2), none] (by decide) (Nat.le_of_ble_eq_true rfl) rfl ?_
  unfold P_X11_set at h
  refine E_aload_n dX11_set_0 rfl rfl ?_
  refine E_getr (i := 0) dX11_set_1 fl_RX11_50 rfl rfl (go_11_6 _ _) ?_
  refine E_iload_n dX11_set_4 rfl rfl ?_
  refine E_iload_n dX11_set_5 rfl rfl ?_
  refine E_callV (Y' := Y_X9_canSet) (as := [vI x1, vI x2]) (st := []) dX11_set_6 lk_RX11_177 m_X9_canSet (by decide) (Nat.le_refl _) (Nat.le_refl _) rfl rfl (Nat.le_of_ble_eq_true rfl) (s_X9_canSet h) (fun r0 B0 σ_1 h => ?_)
  obtain ⟨r_2, rfl, rfl, h⟩ := h
  refine E_if_ne (tgt := 14) dX11_set_9 (by decide) (fun hc => ?_) (fun hc => ?_)
  · have h := Eq.mp (if_neg hc) h
    refine E_aload_n dX11_set_14 rfl rfl ?_
    refine E_getr (i := 0) dX11_set_15 fl_RX11_60 rfl rfl (go_11_8 _ _) ?_
    refine E_aload_n dX11_set_18 rfl rfl ?_
    refine E_getr (i := 0) dX11_set_19 fl_RX11_50 rfl rfl (go_11_6 _ _) ?_
    refine E_callV (Y' := Y_X5_keep) (as := [vR 9 0]) (st := []) dX11_set_22 lk_RX11_166 m_X5_keep (by decide) (Nat.le_refl _) (Nat.le_refl _) rfl rfl (Nat.le_of_ble_eq_true rfl) (s_X5_keep h) (fun r0 B0 σ_3 h => ?_)
    obtain ⟨rfl, rfl, h⟩ := h
    refine E_aload_n dX11_set_25 rfl rfl ?_
    refine E_getr (i := 0) dX11_set_26 fl_RX11_50 rfl rfl (go_11_6 _ _) ?_
    refine E_getr (i := 0) dX11_set_29 fl_RX11_136 rfl rfl (go_9_1 _ _) ?_
    refine E_iload_n dX11_set_32 rfl rfl ?_
    obtain ⟨hg0, hg1, h⟩ := h
    refine E_iald dX11_set_33 sh_1001 hg0 hg1 ?_
    refine E_istore_n (ls' := [some (vR 11 0), some (vI x1), some (vI x2), some (vI (σ_3 1001 0 x1))]) dX11_set_34 rfl (by decide) rfl ?_
    refine E_aload_n dX11_set_35 rfl rfl ?_
    refine E_getr (i := 0) dX11_set_36 fl_RX11_50 rfl rfl (go_11_6 _ _) ?_
    refine E_iload_n dX11_set_39 rfl rfl ?_
    refine E_iload_n dX11_set_40 rfl rfl ?_
    refine E_callV (Y' := Y_X9_setGap) (as := [vI x1, vI x2]) (st := []) dX11_set_41 lk_RX11_181 m_X9_setGap (by decide) (Nat.le_refl _) (Nat.le_refl _) rfl rfl (Nat.le_of_ble_eq_true rfl) (s_X9_setGap h) (fun r0 B0 σ_4 h => ?_)
    obtain ⟨r_5, rfl, rfl, h⟩ := h
    refine E_pop dX11_set_44 (fun _ q => by cases q) ?_
    refine E_iload_n dX11_set_45 rfl rfl ?_
    exact E_iret dX11_set_46 rfl ⟨_, rfl, rfl, h⟩
  · have h := Eq.mp (if_pos hc) h
    refine E_ic dX11_set_12 rfl ?_
    exact E_iret dX11_set_13 rfl ⟨_, rfl, rfl, h⟩
abbrev Y_X11_carry : My := (yX11_carry, cX11_carry, 4, some .int)
theorem dX11_carry_0 : decode cX11_carry 0 = .ok (.aload_n 0, 1) := by decide +kernel
theorem dX11_carry_1 : decode cX11_carry 1 = .ok (.getfield 50, 3) := by decide +kernel
theorem dX11_carry_4 : decode cX11_carry 4 = .ok (.iload_n 1, 1) := by decide +kernel
theorem dX11_carry_5 : decode cX11_carry 5 = .ok (.iload_n 2, 1) := by decide +kernel
theorem dX11_carry_6 : decode cX11_carry 6 = .ok (.invokevirtual 184, 3) := by decide +kernel
theorem dX11_carry_9 : decode cX11_carry 9 = .ok (.ifCond .ne 5, 3) := by decide +kernel
theorem dX11_carry_12 : decode cX11_carry 12 = .ok (.iconst (-1), 1) := by decide +kernel
theorem dX11_carry_13 : decode cX11_carry 13 = .ok (.ireturn, 1) := by decide +kernel
theorem dX11_carry_14 : decode cX11_carry 14 = .ok (.aload_n 0, 1) := by decide +kernel
theorem dX11_carry_15 : decode cX11_carry 15 = .ok (.getfield 60, 3) := by decide +kernel
theorem dX11_carry_18 : decode cX11_carry 18 = .ok (.aload_n 0, 1) := by decide +kernel
theorem dX11_carry_19 : decode cX11_carry 19 = .ok (.getfield 50, 3) := by decide +kernel
theorem dX11_carry_22 : decode cX11_carry 22 = .ok (.invokevirtual 166, 3) := by decide +kernel
theorem dX11_carry_25 : decode cX11_carry 25 = .ok (.aload_n 0, 1) := by decide +kernel
theorem dX11_carry_26 : decode cX11_carry 26 = .ok (.getfield 50, 3) := by decide +kernel
theorem dX11_carry_29 : decode cX11_carry 29 = .ok (.getfield 157, 3) := by decide +kernel
theorem dX11_carry_32 : decode cX11_carry 32 = .ok (.iload_n 1, 1) := by decide +kernel
theorem dX11_carry_33 : decode cX11_carry 33 = .ok (.iaload, 1) := by decide +kernel
theorem dX11_carry_34 : decode cX11_carry 34 = .ok (.istore_n 3, 1) := by decide +kernel
theorem dX11_carry_35 : decode cX11_carry 35 = .ok (.aload_n 0, 1) := by decide +kernel
theorem dX11_carry_36 : decode cX11_carry 36 = .ok (.getfield 50, 3) := by decide +kernel
theorem dX11_carry_39 : decode cX11_carry 39 = .ok (.iload_n 1, 1) := by decide +kernel
theorem dX11_carry_40 : decode cX11_carry 40 = .ok (.iload_n 2, 1) := by decide +kernel
theorem dX11_carry_41 : decode cX11_carry 41 = .ok (.invokevirtual 187, 3) := by decide +kernel
theorem dX11_carry_44 : decode cX11_carry 44 = .ok (.pop, 1) := by decide +kernel
theorem dX11_carry_45 : decode cX11_carry 45 = .ok (.iload_n 3, 1) := by decide +kernel
theorem dX11_carry_46 : decode cX11_carry 46 = .ok (.ireturn, 1) := by decide +kernel
theorem lk_RX11_184 : Cond.methodLink RX11 184 yX9_canCarry ∈ tG := inG (i := 978) (by decide +kernel) (by decide +kernel)
theorem lk_RX11_187 : Cond.methodLink RX11 187 yX9_carryTo ∈ tG := inG (i := 982) (by decide +kernel) (by decide +kernel)
theorem m_X9_carryTo : MV Y_X9_carryTo 2 9 := ⟨⟨inG (i := 985) (by decide +kernel) (by decide +kernel), inG (i := 104) (by decide +kernel) (by decide +kernel), by decide, by decide, by decide, by decide +kernel⟩, inG (i := 983) (by decide +kernel) (by decide +kernel), inG (i := 984) (by decide +kernel) (by decide +kernel), by decide⟩
def P_X11_carry  (x1 : Int) (x2 : Int) (σ : St) (Q : Int → St → Prop) : Prop :=
  P_X9_canCarry 0 x1 x2 σ (fun r_2 σ_1 => (if r_2 = 0 then Q (-1) σ_1 else P_X5_keep 0 σ_1 (fun σ_3 => 0 ≤ x1 ∧ x1 < 6 ∧ P_X9_carryTo 0 x1 x2 σ_3 (fun r_5 σ_4 => Q (σ_3 1003 0 x1) σ_4))))
set_option maxRecDepth 20000 in
set_option maxHeartbeats 2000000 in
theorem s_X11_carry   {x1 : Int} {x2 : Int} {σ : St} {Q : Int → St → Prop} (h : P_X11_carry x1 x2 σ Q) : Cn Y_X11_carry 3 0 0 ww σ [vR 11 0, vI x1, vI x2] (QI Q) := by
  refine Cn_of [some (vR 11 0), some (vI x1), some (vI x2), none] (by decide) (Nat.le_of_ble_eq_true rfl) rfl ?_
  unfold P_X11_carry at h
  refine E_aload_n dX11_carry_0 rfl rfl ?_
  refine E_getr (i := 0) dX11_carry_1 fl_RX11_50 rfl rfl (go_11_6 _ _) ?_
  refine E_iload_n dX11_carry_4 rfl rfl ?_
  refine E_iload_n dX11_carry_5 rfl rfl ?_
  refine E_callV (Y' := Y_X9_canCarry) (as := [vI x1, vI x2]) (st := []) dX11_carry_6 lk_RX11_184 m_X9_canCarry (by decide) (Nat.le_refl _) (Nat.le_refl _) rfl rfl (Nat.le_of_ble_eq_true rfl) (s_X9_canCarry h) (fun r0 B0 σ_1 h => ?_)
  obtain ⟨r_2, rfl, rfl, h⟩ := h
  refine E_if_ne (tgt := 14) dX11_carry_9 (by decide) (fun hc => ?_) (fun hc => ?_)
  · have h := Eq.mp (if_neg hc) h
    refine E_aload_n dX11_carry_14 rfl rfl ?_
    refine E_getr (i := 0) dX11_carry_15 fl_RX11_60 rfl rfl (go_11_8 _ _) ?_
    refine E_aload_n dX11_carry_18 rfl rfl ?_
    refine E_getr (i := 0) dX11_carry_19 fl_RX11_50 rfl rfl (go_11_6 _ _) ?_
    refine E_callV (Y' := Y_X5_keep) (as := [vR 9 0]) (st := []) dX11_carry_22 lk_RX11_166 m_X5_keep (by decide) (Nat.le_refl _) (Nat.le_refl _) rfl rfl (Nat.le_of_ble_eq_true rfl) (s_X5_keep h) (fun r0 B0 σ_3 h => ?_)
    obtain ⟨rfl, rfl, h⟩ := h
    refine E_aload_n dX11_carry_25 rfl rfl ?_
    refine E_getr (i := 0) dX11_carry_26 fl_RX11_50 rfl rfl (go_11_6 _ _) ?_
    refine E_getr (i := 0) dX11_carry_29 fl_RX11_157 rfl rfl (go_9_3 _ _) ?_
    refine E_iload_n dX11_carry_32 rfl rfl ?_
    obtain ⟨hg0, hg1, h⟩ := h
    refine E_iald dX11_carry_33 sh_1003 hg0 hg1 ?_
    refine E_istore_n (ls' := [some (vR 11 0), some (vI x1), some (vI x2), some (vI (σ_3 1003 0 x1))]) dX11_carry_34 rfl (by decide) rfl ?_
    refine E_aload_n dX11_carry_35 rfl rfl ?_
    refine E_getr (i := 0) dX11_carry_36 fl_RX11_50 rfl rfl (go_11_6 _ _) ?_
    refine E_iload_n dX11_carry_39 rfl rfl ?_
    refine E_iload_n dX11_carry_40 rfl rfl ?_
    refine E_callV (Y' := Y_X9_carryTo) (as := [vI x1, vI x2]) (st := []) dX11_carry_41 lk_RX11_187 m_X9_carryTo (by decide) (Nat.le_refl _) (Nat.le_refl _) rfl rfl (Nat.le_of_ble_eq_true rfl) (s_X9_carryTo h) (fun r0 B0 σ_4 h => ?_)
    obtain ⟨r_5, rfl, rfl, h⟩ := h
    refine E_pop dX11_carry_44 (fun _ q => by cases q) ?_
    refine E_iload_n dX11_carry_45 rfl rfl ?_
    exact E_iret dX11_carry_46 rfl ⟨_, rfl, rfl, h⟩
  · have h := Eq.mp (if_pos hc) h
    refine E_ic dX11_carry_12 rfl ?_
    exact E_iret dX11_carry_13 rfl ⟨_, rfl, rfl, h⟩
abbrev Y_X11_day : My := (yX11_day, cX11_day, 1, some .int)
theorem dX11_day_0 : decode cX11_day 0 = .ok (.aload_n 0, 1) := by decide +kernel
theorem dX11_day_1 : decode cX11_day 1 = .ok (.getfield 60, 3) := by decide +kernel
theorem dX11_day_4 : decode cX11_day 4 = .ok (.aload_n 0, 1) := by decide +kernel
theorem dX11_day_5 : decode cX11_day 5 = .ok (.getfield 50, 3) := by decide +kernel
theorem dX11_day_8 : decode cX11_day 8 = .ok (.invokevirtual 166, 3) := by decide +kernel
theorem dX11_day_11 : decode cX11_day 11 = .ok (.aload_n 0, 1) := by decide +kernel
theorem dX11_day_12 : decode cX11_day 12 = .ok (.getfield 50, 3) := by decide +kernel
theorem dX11_day_15 : decode cX11_day 15 = .ok (.invokevirtual 190, 3) := by decide +kernel
theorem dX11_day_18 : decode cX11_day 18 = .ok (.ireturn, 1) := by decide +kernel
theorem lk_RX11_190 : Cond.methodLink RX11 190 yX9_passDay ∈ tG := inG (i := 991) (by decide +kernel) (by decide +kernel)
def P_X11_day   (σ : St) (Q : Int → St → Prop) : Prop :=
  P_X5_keep 0 σ (fun σ_1 => P_X9_passDay 0 σ_1 (fun r_3 σ_2 => Q r_3 σ_2))
set_option maxRecDepth 20000 in
set_option maxHeartbeats 2000000 in
theorem s_X11_day    {σ : St} {Q : Int → St → Prop} (h : P_X11_day  σ Q) : Cn Y_X11_day 6 0 0 ww σ [vR 11 0] (QI Q) := by
  refine Cn_of [some (vR 11 0)] (by decide) (Nat.le_of_ble_eq_true rfl) rfl ?_
  unfold P_X11_day at h
  refine E_aload_n dX11_day_0 rfl rfl ?_
  refine E_getr (i := 0) dX11_day_1 fl_RX11_60 rfl rfl (go_11_8 _ _) ?_
  refine E_aload_n dX11_day_4 rfl rfl ?_
  refine E_getr (i := 0) dX11_day_5 fl_RX11_50 rfl rfl (go_11_6 _ _) ?_
  refine E_callV (Y' := Y_X5_keep) (as := [vR 9 0]) (st := []) dX11_day_8 lk_RX11_166 m_X5_keep (by decide) (Nat.le_refl _) (Nat.le_refl _) rfl rfl (Nat.le_of_ble_eq_true rfl) (s_X5_keep h) (fun r0 B0 σ_1 h => ?_)
  obtain ⟨rfl, rfl, h⟩ := h
  refine E_aload_n dX11_day_11 rfl rfl ?_
  refine E_getr (i := 0) dX11_day_12 fl_RX11_50 rfl rfl (go_11_6 _ _) ?_
  refine E_callV (Y' := Y_X9_passDay) (as := []) (st := []) dX11_day_15 lk_RX11_190 m_X9_passDay (by decide) (Nat.le_refl _) (Nat.le_refl _) rfl rfl (Nat.le_of_ble_eq_true rfl) (s_X9_passDay h) (fun r0 B0 σ_2 h => ?_)
  obtain ⟨r_3, rfl, rfl, h⟩ := h
  exact E_iret dX11_day_18 rfl ⟨_, rfl, rfl, h⟩
abbrev Y_X11_undo : My := (yX11_undo, cX11_undo, 1, some .boolean)
theorem dX11_undo_0 : decode cX11_undo 0 = .ok (.aload_n 0, 1) := by decide +kernel
theorem dX11_undo_1 : decode cX11_undo 1 = .ok (.getfield 60, 3) := by decide +kernel
theorem dX11_undo_4 : decode cX11_undo 4 = .ok (.aload_n 0, 1) := by decide +kernel
theorem dX11_undo_5 : decode cX11_undo 5 = .ok (.getfield 50, 3) := by decide +kernel
theorem dX11_undo_8 : decode cX11_undo 8 = .ok (.invokevirtual 193, 3) := by decide +kernel
theorem dX11_undo_11 : decode cX11_undo 11 = .ok (.ireturn, 1) := by decide +kernel
theorem lk_RX11_193 : Cond.methodLink RX11 193 yX5_giveBack ∈ tG := inG (i := 1032) (by decide +kernel) (by decide +kernel)
theorem m_X5_giveBack : MV Y_X5_giveBack 1 5 := ⟨⟨inG (i := 1035) (by decide +kernel) (by decide +kernel), inG (i := 105) (by decide +kernel) (by decide +kernel), by decide, by decide, by decide, by decide +kernel⟩, inG (i := 1033) (by decide +kernel) (by decide +kernel), inG (i := 1034) (by decide +kernel) (by decide +kernel), by decide⟩
def P_X11_undo   (σ : St) (Q : Int → St → Prop) : Prop :=
  P_X5_giveBack 0 σ (fun r_2 σ_1 => (r_2 = 0 ∨ r_2 = 1) ∧ Q r_2 σ_1)
set_option maxRecDepth 20000 in
set_option maxHeartbeats 2000000 in
theorem s_X11_undo    {σ : St} {Q : Int → St → Prop} (h : P_X11_undo  σ Q) : Cn Y_X11_undo 3 0 0 ww σ [vR 11 0] (QI Q) := by
  refine Cn_of [some (vR 11 0)] (by decide) (Nat.le_of_ble_eq_true rfl) rfl ?_
  unfold P_X11_undo at h
  refine E_aload_n dX11_undo_0 rfl rfl ?_
  refine E_getr (i := 0) dX11_undo_1 fl_RX11_60 rfl rfl (go_11_8 _ _) ?_
  refine E_aload_n dX11_undo_4 rfl rfl ?_
  refine E_getr (i := 0) dX11_undo_5 fl_RX11_50 rfl rfl (go_11_6 _ _) ?_
  refine E_callV (Y' := Y_X5_giveBack) (as := [vR 9 0]) (st := []) dX11_undo_8 lk_RX11_193 m_X5_giveBack (by decide) (Nat.le_refl _) (Nat.le_refl _) rfl rfl (Nat.le_of_ble_eq_true rfl) (s_X5_giveBack h) (fun r0 B0 σ_1 h => ?_)
  obtain ⟨r_2, rfl, rfl, h⟩ := h
  obtain ⟨hg0, h⟩ := h
  exact E_zret dX11_undo_11 rfl hg0 ⟨_, rfl, rfl, h⟩
abbrev Y_X11_catches : My := (yX11_catches, cX11_catches, 2, some .int)
theorem dX11_catches_0 : decode cX11_catches 0 = .ok (.iload_n 1, 1) := by decide +kernel
theorem dX11_catches_1 : decode cX11_catches 1 = .ok (.iconst 1, 1) := by decide +kernel
theorem dX11_catches_2 : decode cX11_catches 2 = .ok (.bipush 60, 2) := by decide +kernel
theorem dX11_catches_4 : decode cX11_catches 4 = .ok (.invokestatic 197, 3) := by decide +kernel
theorem dX11_catches_7 : decode cX11_catches 7 = .ok (.ifCond .eq 21, 3) := by decide +kernel
theorem dX11_catches_10 : decode cX11_catches 10 = .ok (.aload_n 0, 1) := by decide +kernel
theorem dX11_catches_11 : decode cX11_catches 11 = .ok (.getfield 19, 3) := by decide +kernel
theorem dX11_catches_14 : decode cX11_catches 14 = .ok (.iload_n 1, 1) := by decide +kernel
theorem dX11_catches_15 : decode cX11_catches 15 = .ok (.aload_n 0, 1) := by decide +kernel
theorem dX11_catches_16 : decode cX11_catches 16 = .ok (.getfield 50, 3) := by decide +kernel
theorem dX11_catches_19 : decode cX11_catches 19 = .ok (.getfield 136, 3) := by decide +kernel
theorem dX11_catches_22 : decode cX11_catches 22 = .ok (.invokevirtual 216, 3) := by decide +kernel
theorem dX11_catches_25 : decode cX11_catches 25 = .ok (.goto 4, 3) := by decide +kernel
theorem dX11_catches_28 : decode cX11_catches 28 = .ok (.iconst (-1), 1) := by decide +kernel
theorem dX11_catches_29 : decode cX11_catches 29 = .ok (.ireturn, 1) := by decide +kernel
theorem lk_RX11_197 : Cond.methodLink RX11 197 yX11_within ∈ tG := inG (i := 1040) (by decide +kernel) (by decide +kernel)
theorem lk_RX11_216 : Cond.methodLink RX11 216 yX8_fall ∈ tG := inG (i := 1069) (by decide +kernel) (by decide +kernel)
def P_X11_catches  (x1 : Int) (σ : St) (Q : Int → St → Prop) : Prop :=
  P_X11_within x1 1 60 σ (fun r_2 σ_1 => (if r_2 = 0 then Q (-1) σ_1 else P_X8_fall 0 x1 1001 0 σ_1 (fun r_4 σ_3 => Q r_4 σ_3)))
set_option maxRecDepth 20000 in
set_option maxHeartbeats 2000000 in
theorem s_X11_catches   {x1 : Int} {σ : St} {Q : Int → St → Prop} (h : P_X11_catches x1 σ Q) : Cn Y_X11_catches 1 0 0 ww σ [vR 11 0, vI x1] (QI Q) := by
  refine Cn_of [some (vR 11 0), some (vI x1)] (by decide) (Nat.le_of_ble_eq_true rfl) rfl ?_
  unfold P_X11_catches at h
  refine E_iload_n dX11_catches_0 rfl rfl ?_
  refine E_ic dX11_catches_1 rfl ?_
  refine E_bp dX11_catches_2 rfl ?_
  refine E_callS (Y' := Y_X11_within) (as := [vI x1, vI 1, vI 60]) (st := []) dX11_catches_4 lk_RX11_197 m_X11_within (by decide) (Nat.le_refl _) (Nat.le_refl _) rfl rfl (Nat.le_of_ble_eq_true rfl) (s_X11_within h) (fun r0 B0 σ_1 h => ?_)
  obtain ⟨r_2, rfl, rfl, h⟩ := h
  refine E_if_eq (tgt := 28) dX11_catches_7 (by decide) (fun hc => ?_) (fun hc => ?_)
  · have h := Eq.mp (if_pos hc) h
    refine E_ic dX11_catches_28 rfl ?_
    exact E_iret dX11_catches_29 rfl ⟨_, rfl, rfl, h⟩
  · have h := Eq.mp (if_neg hc) h
    refine E_aload_n dX11_catches_10 rfl rfl ?_
    refine E_getr (i := 0) dX11_catches_11 fl_RX11_19 rfl rfl (go_11_1 _ _) ?_
    refine E_iload_n dX11_catches_14 rfl rfl ?_
    refine E_aload_n dX11_catches_15 rfl rfl ?_
    refine E_getr (i := 0) dX11_catches_16 fl_RX11_50 rfl rfl (go_11_6 _ _) ?_
    refine E_getr (i := 0) dX11_catches_19 fl_RX11_136 rfl rfl (go_9_1 _ _) ?_
    refine E_callV (Y' := Y_X8_fall) (as := [vI x1, vR 1001 0]) (st := []) dX11_catches_22 lk_RX11_216 m_X8_fall (by decide) (Nat.le_refl _) (Nat.le_refl _) rfl rfl (Nat.le_of_ble_eq_true rfl) (s_X8_fall h) (fun r0 B0 σ_3 h => ?_)
    obtain ⟨r_4, rfl, rfl, h⟩ := h
    refine E_goto (tgt := 29) dX11_catches_25 (by decide) ?_
    exact E_iret dX11_catches_29 rfl ⟨_, rfl, rfl, h⟩
abbrev Y_X11_span : My := (yX11_span, cX11_span, 3, some .int)
theorem dX11_span_0 : decode cX11_span 0 = .ok (.aload_n 0, 1) := by decide +kernel
theorem dX11_span_1 : decode cX11_span 1 = .ok (.getfield 19, 3) := by decide +kernel
theorem dX11_span_4 : decode cX11_span 4 = .ok (.iload_n 1, 1) := by decide +kernel
theorem dX11_span_5 : decode cX11_span 5 = .ok (.invokevirtual 128, 3) := by decide +kernel
theorem dX11_span_8 : decode cX11_span 8 = .ok (.ifCond .eq 12, 3) := by decide +kernel
theorem dX11_span_11 : decode cX11_span 11 = .ok (.iload_n 2, 1) := by decide +kernel
theorem dX11_span_12 : decode cX11_span 12 = .ok (.iconst 0, 1) := by decide +kernel
theorem dX11_span_13 : decode cX11_span 13 = .ok (.iconst 1, 1) := by decide +kernel
theorem dX11_span_14 : decode cX11_span 14 = .ok (.invokestatic 197, 3) := by decide +kernel
theorem dX11_span_17 : decode cX11_span 17 = .ok (.ifCond .ne 5, 3) := by decide +kernel
theorem dX11_span_20 : decode cX11_span 20 = .ok (.iconst (-1), 1) := by decide +kernel
theorem dX11_span_21 : decode cX11_span 21 = .ok (.ireturn, 1) := by decide +kernel
theorem dX11_span_22 : decode cX11_span 22 = .ok (.iload_n 2, 1) := by decide +kernel
theorem dX11_span_23 : decode cX11_span 23 = .ok (.ifCond .ne 14, 3) := by decide +kernel
theorem dX11_span_26 : decode cX11_span 26 = .ok (.aload_n 0, 1) := by decide +kernel
theorem dX11_span_27 : decode cX11_span 27 = .ok (.getfield 89, 3) := by decide +kernel
theorem dX11_span_30 : decode cX11_span 30 = .ok (.iload_n 1, 1) := by decide +kernel
theorem dX11_span_31 : decode cX11_span 31 = .ok (.invokevirtual 220, 3) := by decide +kernel
theorem dX11_span_34 : decode cX11_span 34 = .ok (.goto 11, 3) := by decide +kernel
theorem dX11_span_37 : decode cX11_span 37 = .ok (.aload_n 0, 1) := by decide +kernel
theorem dX11_span_38 : decode cX11_span 38 = .ok (.getfield 89, 3) := by decide +kernel
theorem dX11_span_41 : decode cX11_span 41 = .ok (.iload_n 1, 1) := by decide +kernel
theorem dX11_span_42 : decode cX11_span 42 = .ok (.invokevirtual 223, 3) := by decide +kernel
theorem dX11_span_45 : decode cX11_span 45 = .ok (.ireturn, 1) := by decide +kernel
theorem fl_RX11_89 : FL RX11 89 11 12 := ⟨inG (i := 486) (by decide +kernel) (by decide +kernel), by decide, by decide⟩
theorem go_11_12 (σ : St) (i : Nat) : go σ 11 i 12 = (1, 0) := rfl
theorem lk_RX11_220 : Cond.methodLink RX11 220 yX1_least ∈ tG := inG (i := 1074) (by decide +kernel) (by decide +kernel)
theorem lk_RX11_223 : Cond.methodLink RX11 223 yX1_most ∈ tG := inG (i := 1079) (by decide +kernel) (by decide +kernel)
theorem m_X1_least : MV Y_X1_least 1 1 := ⟨⟨inG (i := 1077) (by decide +kernel) (by decide +kernel), inG (i := 108) (by decide +kernel) (by decide +kernel), by decide, by decide, by decide, by decide +kernel⟩, inG (i := 1075) (by decide +kernel) (by decide +kernel), inG (i := 1076) (by decide +kernel) (by decide +kernel), by decide⟩
theorem m_X1_most : MV Y_X1_most 1 1 := ⟨⟨inG (i := 1082) (by decide +kernel) (by decide +kernel), inG (i := 108) (by decide +kernel) (by decide +kernel), by decide, by decide, by decide, by decide +kernel⟩, inG (i := 1080) (by decide +kernel) (by decide +kernel), inG (i := 1081) (by decide +kernel) (by decide +kernel), by decide⟩
def P_X11_span  (x1 : Int) (x2 : Int) (σ : St) (Q : Int → St → Prop) : Prop :=
  P_X8_hasCounter 0 x1 σ (fun r_2 σ_1 => (if r_2 = 0 then Q (-1) σ_1 else P_X11_within x2 0 1 σ_1 (fun r_4 σ_3 => (if r_4 = 0 then Q (-1) σ_3 else (if x2 = 0 then P_X1_least x1 σ_3 (fun r_8 σ_7 => Q r_8 σ_7) else P_X1_most x1 σ_3 (fun r_6 σ_5 => Q r_6 σ_5))))))
set_option maxRecDepth 20000 in
set_option maxHeartbeats 2000000 in
theorem s_X11_span   {x1 : Int} {x2 : Int} {σ : St} {Q : Int → St → Prop} (h : P_X11_span x1 x2 σ Q) : Cn Y_X11_span 2 0 0 ww σ [vR 11 0, vI x1, vI x2] (QI Q) := by
  refine Cn_of [some (vR 11 0), some (vI x1), some (vI x2)] (by decide) (Nat.le_of_ble_eq_true rfl) rfl ?_
  unfold P_X11_span at h
  refine E_aload_n dX11_span_0 rfl rfl ?_
  refine E_getr (i := 0) dX11_span_1 fl_RX11_19 rfl rfl (go_11_1 _ _) ?_
  refine E_iload_n dX11_span_4 rfl rfl ?_
  refine E_callV (Y' := Y_X8_hasCounter) (as := [vI x1]) (st := []) dX11_span_5 lk_RX11_128 m_X8_hasCounter (by decide) (Nat.le_refl _) (Nat.le_refl _) rfl rfl (Nat.le_of_ble_eq_true rfl) (s_X8_hasCounter h) (fun r0 B0 σ_1 h => ?_)
  obtain ⟨r_2, rfl, rfl, h⟩ := h
  refine E_if_eq (tgt := 20) dX11_span_8 (by decide) (fun hc => ?_) (fun hc => ?_)
  · have h := Eq.mp (if_pos hc) h
    refine E_ic dX11_span_20 rfl ?_
    exact E_iret dX11_span_21 rfl ⟨_, rfl, rfl, h⟩
  · have h := Eq.mp (if_neg hc) h
    refine E_iload_n dX11_span_11 rfl rfl ?_
    refine E_ic dX11_span_12 rfl ?_
    refine E_ic dX11_span_13 rfl ?_
    refine E_callS (Y' := Y_X11_within) (as := [vI x2, vI 0, vI 1]) (st := []) dX11_span_14 lk_RX11_197 m_X11_within (by decide) (Nat.le_refl _) (Nat.le_refl _) rfl rfl (Nat.le_of_ble_eq_true rfl) (s_X11_within h) (fun r0 B0 σ_3 h => ?_)
    obtain ⟨r_4, rfl, rfl, h⟩ := h
    refine E_if_ne (tgt := 22) dX11_span_17 (by decide) (fun hc => ?_) (fun hc => ?_)
    · have h := Eq.mp (if_neg hc) h
      refine E_iload_n dX11_span_22 rfl rfl ?_
      refine E_if_ne (tgt := 37) dX11_span_23 (by decide) (fun hc => ?_) (fun hc => ?_)
      · have h := Eq.mp (if_neg hc) h
        refine E_aload_n dX11_span_37 rfl rfl ?_
        refine E_getr (i := 0) dX11_span_38 fl_RX11_89 rfl rfl (go_11_12 _ _) ?_
        refine E_iload_n dX11_span_41 rfl rfl ?_
        refine E_callV (Y' := Y_X1_most) (as := [vI x1]) (st := []) dX11_span_42 lk_RX11_223 m_X1_most (by decide) (Nat.le_refl _) (Nat.le_refl _) rfl rfl (Nat.le_of_ble_eq_true rfl) (s_X1_most h) (fun r0 B0 σ_5 h => ?_)
        obtain ⟨r_6, rfl, rfl, h⟩ := h
        exact E_iret dX11_span_45 rfl ⟨_, rfl, rfl, h⟩
      · have h := Eq.mp (if_pos hc) h
        refine E_aload_n dX11_span_26 rfl rfl ?_
        refine E_getr (i := 0) dX11_span_27 fl_RX11_89 rfl rfl (go_11_12 _ _) ?_
        refine E_iload_n dX11_span_30 rfl rfl ?_
        refine E_callV (Y' := Y_X1_least) (as := [vI x1]) (st := []) dX11_span_31 lk_RX11_220 m_X1_least (by decide) (Nat.le_refl _) (Nat.le_refl _) rfl rfl (Nat.le_of_ble_eq_true rfl) (s_X1_least h) (fun r0 B0 σ_7 h => ?_)
        obtain ⟨r_8, rfl, rfl, h⟩ := h
        refine E_goto (tgt := 45) dX11_span_34 (by decide) ?_
        exact E_iret dX11_span_45 rfl ⟨_, rfl, rfl, h⟩
    · have h := Eq.mp (if_pos hc) h
      refine E_ic dX11_span_20 rfl ?_
      exact E_iret dX11_span_21 rfl ⟨_, rfl, rfl, h⟩
abbrev Y_X11_idle : My := (yX11_idle, cX11_idle, 3, some .int)
theorem dX11_idle_0 : decode cX11_idle 0 = .ok (.iconst 0, 1) := by decide +kernel
theorem dX11_idle_1 : decode cX11_idle 1 = .ok (.istore_n 1, 1) := by decide +kernel
theorem dX11_idle_2 : decode cX11_idle 2 = .ok (.iconst 0, 1) := by decide +kernel
theorem dX11_idle_3 : decode cX11_idle 3 = .ok (.istore_n 2, 1) := by decide +kernel
theorem dX11_idle_4 : decode cX11_idle 4 = .ok (.iload_n 2, 1) := by decide +kernel
theorem dX11_idle_5 : decode cX11_idle 5 = .ok (.aload_n 0, 1) := by decide +kernel
theorem dX11_idle_6 : decode cX11_idle 6 = .ok (.getfield 19, 3) := by decide +kernel
theorem dX11_idle_9 : decode cX11_idle 9 = .ok (.getfield 226, 3) := by decide +kernel
theorem dX11_idle_12 : decode cX11_idle 12 = .ok (.if_icmp .ge 27, 3) := by decide +kernel
theorem dX11_idle_15 : decode cX11_idle 15 = .ok (.aload_n 0, 1) := by decide +kernel
theorem dX11_idle_16 : decode cX11_idle 16 = .ok (.getfield 89, 3) := by decide +kernel
theorem dX11_idle_19 : decode cX11_idle 19 = .ok (.iload_n 2, 1) := by decide +kernel
theorem dX11_idle_20 : decode cX11_idle 20 = .ok (.invokevirtual 220, 3) := by decide +kernel
theorem dX11_idle_23 : decode cX11_idle 23 = .ok (.iconst (-1), 1) := by decide +kernel
theorem dX11_idle_24 : decode cX11_idle 24 = .ok (.if_icmp .ne 9, 3) := by decide +kernel
theorem dX11_idle_27 : decode cX11_idle 27 = .ok (.iload_n 1, 1) := by decide +kernel
theorem dX11_idle_28 : decode cX11_idle 28 = .ok (.iconst 1, 1) := by decide +kernel
theorem dX11_idle_29 : decode cX11_idle 29 = .ok (.iload_n 2, 1) := by decide +kernel
theorem dX11_idle_30 : decode cX11_idle 30 = .ok (.ishl, 1) := by decide +kernel
theorem dX11_idle_31 : decode cX11_idle 31 = .ok (.ior, 1) := by decide +kernel
theorem dX11_idle_32 : decode cX11_idle 32 = .ok (.istore_n 1, 1) := by decide +kernel
theorem dX11_idle_33 : decode cX11_idle 33 = .ok (.iinc 2 1, 3) := by decide +kernel
theorem dX11_idle_36 : decode cX11_idle 36 = .ok (.goto (-32), 3) := by decide +kernel
theorem dX11_idle_39 : decode cX11_idle 39 = .ok (.iload_n 1, 1) := by decide +kernel
theorem dX11_idle_40 : decode cX11_idle 40 = .ok (.ireturn, 1) := by decide +kernel
def P_X11_idle_L4    (Q : Int → St → Prop) : Nat → Int → Int → St → Prop
  | 0, _, _, _ => False
  | n + 1, x1, x2, σ => (if (σ 8 0 10) ≤ x2 then Q x1 σ else P_X1_least x2 σ (fun r_2 σ_1 => (if r_2 = (-1) then (P_X11_idle_L4 Q n) (bO x1 (bL 1 x2)) (wi (x2 + 1)) σ_1 else (P_X11_idle_L4 Q n) x1 (wi (x2 + 1)) σ_1)))
set_option maxRecDepth 20000 in
set_option maxHeartbeats 2000000 in
theorem e_P_X11_idle_L4    {Q : Int → St → Prop}   : ∀ (n : Nat) (x1 : Int) (x2 : Int) (σ : St), P_X11_idle_L4 Q n x1 x2 σ → E Y_X11_idle 2 0 0 (QI Q) ww 0 0 4 [some (vR 11 0), some (vI x1), some (vI x2)] [] σ := by
  intro n
  induction n with
  | zero => intro x1 x2 σ h; exact h.elim
  | succ n hR =>
    intro x1 x2 σ h
    unfold P_X11_idle_L4 at h
    refine E_iload_n dX11_idle_4 rfl rfl ?_
    refine E_aload_n dX11_idle_5 rfl rfl ?_
    refine E_getr (i := 0) dX11_idle_6 fl_RX11_19 rfl rfl (go_11_1 _ _) ?_
    refine E_geti (i := 0) dX11_idle_9 fl_RX11_226 rfl ?_
    refine E_icmp_ge (tgt := 39) dX11_idle_12 (by decide) (fun hc => ?_) (fun hc => ?_)
    · have h := Eq.mp (if_pos hc) h
      refine E_iload_n dX11_idle_39 rfl rfl ?_
      exact E_iret dX11_idle_40 rfl ⟨_, rfl, rfl, h⟩
    · have h := Eq.mp (if_neg hc) h
      refine E_aload_n dX11_idle_15 rfl rfl ?_
      refine E_getr (i := 0) dX11_idle_16 fl_RX11_89 rfl rfl (go_11_12 _ _) ?_
      refine E_iload_n dX11_idle_19 rfl rfl ?_
      refine E_callV (Y' := Y_X1_least) (as := [vI x2]) (st := []) dX11_idle_20 lk_RX11_220 m_X1_least (by decide) (Nat.le_refl _) (Nat.le_refl _) rfl rfl (Nat.le_of_ble_eq_true rfl) (s_X1_least h) (fun r0 B0 σ_1 h => ?_)
      obtain ⟨r_2, rfl, rfl, h⟩ := h
      refine E_ic dX11_idle_23 rfl ?_
      refine E_icmp_ne (tgt := 33) dX11_idle_24 (by decide) (fun hc => ?_) (fun hc => ?_)
      · have h := Eq.mp (if_neg hc) h
        refine E_iinc (ls' := [some (vR 11 0), some (vI x1), some (vI (wi (x2 + 1)))]) dX11_idle_33 rfl (by decide) rfl rfl ?_
        refine E_goto (tgt := 4) dX11_idle_36 (by decide) ?_
        exact hR _ _ _ h
      · have h := Eq.mp (if_pos hc) h
        refine E_iload_n dX11_idle_27 rfl rfl ?_
        refine E_ic dX11_idle_28 rfl ?_
        refine E_iload_n dX11_idle_29 rfl rfl ?_
        refine E_ishl dX11_idle_30 ?_
        refine E_ior dX11_idle_31 ?_
        refine E_istore_n (ls' := [some (vR 11 0), some (vI (bO x1 (bL 1 x2))), some (vI x2)]) dX11_idle_32 rfl (by decide) rfl ?_
        refine E_iinc (ls' := [some (vR 11 0), some (vI (bO x1 (bL 1 x2))), some (vI (wi (x2 + 1)))]) dX11_idle_33 rfl (by decide) rfl rfl ?_
        refine E_goto (tgt := 4) dX11_idle_36 (by decide) ?_
        exact hR _ _ _ h
def P_X11_idle   (σ : St) (Q : Int → St → Prop) : Prop :=
  P_X11_idle_L4 Q FU 0 0 σ
set_option maxRecDepth 20000 in
set_option maxHeartbeats 2000000 in
theorem s_X11_idle    {σ : St} {Q : Int → St → Prop} (h : P_X11_idle  σ Q) : Cn Y_X11_idle 2 0 0 ww σ [vR 11 0] (QI Q) := by
  refine Cn_of [some (vR 11 0), none, none] (by decide) (Nat.le_of_ble_eq_true rfl) rfl ?_
  unfold P_X11_idle at h
  refine E_ic dX11_idle_0 rfl ?_
  refine E_istore_n (ls' := [some (vR 11 0), some (vI 0), none]) dX11_idle_1 rfl (by decide) rfl ?_
  refine E_ic dX11_idle_2 rfl ?_
  refine E_istore_n (ls' := [some (vR 11 0), some (vI 0), some (vI 0)]) dX11_idle_3 rfl (by decide) rfl ?_
  refine e_P_X11_idle_L4  _ _ _ _ h
abbrev Y_X11_lost : My := (yX11_lost, cX11_lost, 1, some .int)
theorem dX11_lost_0 : decode cX11_lost 0 = .ok (.aload_n 0, 1) := by decide +kernel
theorem dX11_lost_1 : decode cX11_lost 1 = .ok (.getfield 89, 3) := by decide +kernel
theorem dX11_lost_4 : decode cX11_lost 4 = .ok (.bipush 6, 2) := by decide +kernel
theorem dX11_lost_6 : decode cX11_lost 6 = .ok (.invokevirtual 229, 3) := by decide +kernel
theorem dX11_lost_9 : decode cX11_lost 9 = .ok (.ireturn, 1) := by decide +kernel
theorem lk_RX11_229 : Cond.methodLink RX11 229 yX1_fallers ∈ tG := inG (i := 1091) (by decide +kernel) (by decide +kernel)
theorem m_X1_fallers : MV Y_X1_fallers 1 1 := ⟨⟨inG (i := 1094) (by decide +kernel) (by decide +kernel), inG (i := 108) (by decide +kernel) (by decide +kernel), by decide, by decide, by decide, by decide +kernel⟩, inG (i := 1092) (by decide +kernel) (by decide +kernel), inG (i := 1093) (by decide +kernel) (by decide +kernel), by decide⟩
def P_X11_lost   (σ : St) (Q : Int → St → Prop) : Prop :=
  P_X1_fallers 6 σ (fun r_2 σ_1 => Q r_2 σ_1)
set_option maxRecDepth 20000 in
set_option maxHeartbeats 2000000 in
theorem s_X11_lost    {σ : St} {Q : Int → St → Prop} (h : P_X11_lost  σ Q) : Cn Y_X11_lost 3 0 0 ww σ [vR 11 0] (QI Q) := by
  refine Cn_of [some (vR 11 0)] (by decide) (Nat.le_of_ble_eq_true rfl) rfl ?_
  unfold P_X11_lost at h
  refine E_aload_n dX11_lost_0 rfl rfl ?_
  refine E_getr (i := 0) dX11_lost_1 fl_RX11_89 rfl rfl (go_11_12 _ _) ?_
  refine E_bp dX11_lost_4 rfl ?_
  refine E_callV (Y' := Y_X1_fallers) (as := [vI 6]) (st := []) dX11_lost_6 lk_RX11_229 m_X1_fallers (by decide) (Nat.le_refl _) (Nat.le_refl _) rfl rfl (Nat.le_of_ble_eq_true rfl) (s_X1_fallers h) (fun r0 B0 σ_1 h => ?_)
  obtain ⟨r_2, rfl, rfl, h⟩ := h
  exact E_iret dX11_lost_9 rfl ⟨_, rfl, rfl, h⟩
abbrev Y_X11_twins : My := (yX11_twins, cX11_twins, 4, some .int)
theorem dX11_twins_0 : decode cX11_twins 0 = .ok (.iconst 0, 1) := by decide +kernel
theorem dX11_twins_1 : decode cX11_twins 1 = .ok (.istore_n 1, 1) := by decide +kernel
theorem dX11_twins_2 : decode cX11_twins 2 = .ok (.iconst 0, 1) := by decide +kernel
theorem dX11_twins_3 : decode cX11_twins 3 = .ok (.istore_n 2, 1) := by decide +kernel
theorem dX11_twins_4 : decode cX11_twins 4 = .ok (.iload_n 2, 1) := by decide +kernel
theorem dX11_twins_5 : decode cX11_twins 5 = .ok (.aload_n 0, 1) := by decide +kernel
theorem dX11_twins_6 : decode cX11_twins 6 = .ok (.getfield 19, 3) := by decide +kernel
theorem dX11_twins_9 : decode cX11_twins 9 = .ok (.getfield 226, 3) := by decide +kernel
theorem dX11_twins_12 : decode cX11_twins 12 = .ok (.if_icmp .ge 31, 3) := by decide +kernel
theorem dX11_twins_15 : decode cX11_twins 15 = .ok (.aload_n 0, 1) := by decide +kernel
theorem dX11_twins_16 : decode cX11_twins 16 = .ok (.getfield 89, 3) := by decide +kernel
theorem dX11_twins_19 : decode cX11_twins 19 = .ok (.iload_n 2, 1) := by decide +kernel
theorem dX11_twins_20 : decode cX11_twins 20 = .ok (.invokevirtual 229, 3) := by decide +kernel
theorem dX11_twins_23 : decode cX11_twins 23 = .ok (.invokestatic 208, 3) := by decide +kernel
theorem dX11_twins_26 : decode cX11_twins 26 = .ok (.istore_n 3, 1) := by decide +kernel
theorem dX11_twins_27 : decode cX11_twins 27 = .ok (.iload_n 1, 1) := by decide +kernel
theorem dX11_twins_28 : decode cX11_twins 28 = .ok (.iload_n 3, 1) := by decide +kernel
theorem dX11_twins_29 : decode cX11_twins 29 = .ok (.iload_n 3, 1) := by decide +kernel
theorem dX11_twins_30 : decode cX11_twins 30 = .ok (.iconst 1, 1) := by decide +kernel
theorem dX11_twins_31 : decode cX11_twins 31 = .ok (.isub, 1) := by decide +kernel
theorem dX11_twins_32 : decode cX11_twins 32 = .ok (.imul, 1) := by decide +kernel
theorem dX11_twins_33 : decode cX11_twins 33 = .ok (.iconst 2, 1) := by decide +kernel
theorem dX11_twins_34 : decode cX11_twins 34 = .ok (.idiv, 1) := by decide +kernel
theorem dX11_twins_35 : decode cX11_twins 35 = .ok (.iadd, 1) := by decide +kernel
theorem dX11_twins_36 : decode cX11_twins 36 = .ok (.istore_n 1, 1) := by decide +kernel
theorem dX11_twins_37 : decode cX11_twins 37 = .ok (.iinc 2 1, 3) := by decide +kernel
theorem dX11_twins_40 : decode cX11_twins 40 = .ok (.goto (-36), 3) := by decide +kernel
theorem dX11_twins_43 : decode cX11_twins 43 = .ok (.iload_n 1, 1) := by decide +kernel
theorem dX11_twins_44 : decode cX11_twins 44 = .ok (.ireturn, 1) := by decide +kernel
theorem lk_RX11_208 : Cond.methodLink RX11 208 yJ6_bitCount_0f7a4 ∈ tG := inG (i := 1054) (by decide +kernel) (by decide +kernel)
theorem m_J6_bitCount_0f7a4 : MS Y_J6_bitCount_0f7a4 1 := ⟨⟨inG (i := 1056) (by decide +kernel) (by decide +kernel), inG (i := 118) (by decide +kernel) (by decide +kernel), by decide, by decide, by decide, by decide +kernel⟩, inG (i := 1055) (by decide +kernel) (by decide +kernel)⟩
def P_X11_twins_L4    (Q : Int → St → Prop) : Nat → Int → Int → St → Prop
  | 0, _, _, _ => False
  | n + 1, x1, x2, σ => (if (σ 8 0 10) ≤ x2 then Q x1 σ else P_X1_fallers x2 σ (fun r_2 σ_1 => P_J6_bitCount_0f7a4 r_2 σ_1 (fun r_4 σ_3 => (P_X11_twins_L4 Q n) (wi (x1 + (wi ((wi (r_4 * (wi (r_4 - 1)))).tdiv 2)))) (wi (x2 + 1)) σ_3)))
set_option maxRecDepth 20000 in
set_option maxHeartbeats 2000000 in
theorem e_P_X11_twins_L4    {Q : Int → St → Prop}   : ∀ (n : Nat) (x1 : Int) (x2 : Int) (σ : St), P_X11_twins_L4 Q n x1 x2 σ → E Y_X11_twins 3 0 0 (QI Q) ww 0 0 4 [some (vR 11 0), some (vI x1), some (vI x2), none] [] σ := by
  intro n
  induction n with
  | zero => intro x1 x2 σ h; exact h.elim
  | succ n hR =>
    intro x1 x2 σ h
    unfold P_X11_twins_L4 at h
    refine E_iload_n dX11_twins_4 rfl rfl ?_
    refine E_aload_n dX11_twins_5 rfl rfl ?_
    refine E_getr (i := 0) dX11_twins_6 fl_RX11_19 rfl rfl (go_11_1 _ _) ?_
    refine E_geti (i := 0) dX11_twins_9 fl_RX11_226 rfl ?_
    refine E_icmp_ge (tgt := 43) dX11_twins_12 (by decide) (fun hc => ?_) (fun hc => ?_)
    · have h := Eq.mp (if_pos hc) h
      refine E_iload_n dX11_twins_43 rfl rfl ?_
      exact E_iret dX11_twins_44 rfl ⟨_, rfl, rfl, h⟩
    · have h := Eq.mp (if_neg hc) h
      refine E_aload_n dX11_twins_15 rfl rfl ?_
      refine E_getr (i := 0) dX11_twins_16 fl_RX11_89 rfl rfl (go_11_12 _ _) ?_
      refine E_iload_n dX11_twins_19 rfl rfl ?_
      refine E_callV (Y' := Y_X1_fallers) (as := [vI x2]) (st := []) dX11_twins_20 lk_RX11_229 m_X1_fallers (by decide) (Nat.le_refl _) (Nat.le_refl _) rfl rfl (Nat.le_of_ble_eq_true rfl) (s_X1_fallers h) (fun r0 B0 σ_1 h => ?_)
      obtain ⟨r_2, rfl, rfl, h⟩ := h
      refine E_callS (Y' := Y_J6_bitCount_0f7a4) (as := [vI r_2]) (st := []) dX11_twins_23 lk_RX11_208 m_J6_bitCount_0f7a4 (by decide) (Nat.le_refl _) (Nat.le_refl _) rfl rfl (Nat.le_of_ble_eq_true rfl) (s_J6_bitCount_0f7a4 h) (fun r0 B0 σ_3 h => ?_)
      obtain ⟨r_4, rfl, rfl, h⟩ := h
      refine E_istore_n (ls' := [some (vR 11 0), some (vI x1), some (vI x2), some (vI r_4)]) dX11_twins_26 rfl (by decide) rfl ?_
      refine E_iload_n dX11_twins_27 rfl rfl ?_
      refine E_iload_n dX11_twins_28 rfl rfl ?_
      refine E_iload_n dX11_twins_29 rfl rfl ?_
      refine E_ic dX11_twins_30 rfl ?_
      refine E_isub dX11_twins_31 ?_
      refine E_imul dX11_twins_32 ?_
      refine E_ic dX11_twins_33 rfl ?_
      refine E_idiv dX11_twins_34 (by decide) ?_
      refine E_iadd dX11_twins_35 ?_
      refine E_istore_n (ls' := [some (vR 11 0), some (vI (wi (x1 + (wi ((wi (r_4 * (wi (r_4 - 1)))).tdiv 2))))), some (vI x2), some (vI r_4)]) dX11_twins_36 rfl (by decide) rfl ?_
      refine E_iinc (ls' := [some (vR 11 0), some (vI (wi (x1 + (wi ((wi (r_4 * (wi (r_4 - 1)))).tdiv 2))))), some (vI (wi (x2 + 1))), some (vI r_4)]) dX11_twins_37 rfl (by decide) rfl rfl ?_
      refine E_goto (tgt := 4) dX11_twins_40 (by decide) ?_
      refine E_wk2 [some (vR 11 0), some (vI (wi (x1 + (wi ((wi (r_4 * (wi (r_4 - 1)))).tdiv 2))))), some (vI (wi (x2 + 1))), none] ⟨rfl, ⟨rfl, ⟨rfl, trivial⟩⟩⟩ ?_
      exact hR _ _ _ h
def P_X11_twins   (σ : St) (Q : Int → St → Prop) : Prop :=
  P_X11_twins_L4 Q FU 0 0 σ
set_option maxRecDepth 20000 in
set_option maxHeartbeats 2000000 in
theorem s_X11_twins    {σ : St} {Q : Int → St → Prop} (h : P_X11_twins  σ Q) : Cn Y_X11_twins 3 0 0 ww σ [vR 11 0] (QI Q) := by
  refine Cn_of [some (vR 11 0), none, none, none] (by decide) (Nat.le_of_ble_eq_true rfl) rfl ?_
  unfold P_X11_twins at h
  refine E_ic dX11_twins_0 rfl ?_
  refine E_istore_n (ls' := [some (vR 11 0), some (vI 0), none, none]) dX11_twins_1 rfl (by decide) rfl ?_
  refine E_ic dX11_twins_2 rfl ?_
  refine E_istore_n (ls' := [some (vR 11 0), some (vI 0), some (vI 0), none]) dX11_twins_3 rfl (by decide) rfl ?_
  refine e_P_X11_twins_L4  _ _ _ _ h
abbrev Y_X11_crowd : My := (yX11_crowd, cX11_crowd, 5, some .int)
theorem dX11_crowd_0 : decode cX11_crowd 0 = .ok (.iconst 0, 1) := by decide +kernel
theorem dX11_crowd_1 : decode cX11_crowd 1 = .ok (.istore_n 1, 1) := by decide +kernel
theorem dX11_crowd_2 : decode cX11_crowd 2 = .ok (.iconst (-1), 1) := by decide +kernel
theorem dX11_crowd_3 : decode cX11_crowd 3 = .ok (.istore_n 2, 1) := by decide +kernel
theorem dX11_crowd_4 : decode cX11_crowd 4 = .ok (.iconst 0, 1) := by decide +kernel
theorem dX11_crowd_5 : decode cX11_crowd 5 = .ok (.istore_n 3, 1) := by decide +kernel
theorem dX11_crowd_6 : decode cX11_crowd 6 = .ok (.iload_n 3, 1) := by decide +kernel
theorem dX11_crowd_7 : decode cX11_crowd 7 = .ok (.aload_n 0, 1) := by decide +kernel
theorem dX11_crowd_8 : decode cX11_crowd 8 = .ok (.getfield 19, 3) := by decide +kernel
theorem dX11_crowd_11 : decode cX11_crowd 11 = .ok (.getfield 226, 3) := by decide +kernel
theorem dX11_crowd_14 : decode cX11_crowd 14 = .ok (.if_icmp .ge 33, 3) := by decide +kernel
theorem dX11_crowd_17 : decode cX11_crowd 17 = .ok (.aload_n 0, 1) := by decide +kernel
theorem dX11_crowd_18 : decode cX11_crowd 18 = .ok (.getfield 89, 3) := by decide +kernel
theorem dX11_crowd_21 : decode cX11_crowd 21 = .ok (.iload_n 3, 1) := by decide +kernel
theorem dX11_crowd_22 : decode cX11_crowd 22 = .ok (.invokevirtual 229, 3) := by decide +kernel
theorem dX11_crowd_25 : decode cX11_crowd 25 = .ok (.invokestatic 208, 3) := by decide +kernel
theorem dX11_crowd_28 : decode cX11_crowd 28 = .ok (.istore 4, 2) := by decide +kernel
theorem dX11_crowd_30 : decode cX11_crowd 30 = .ok (.iload 4, 2) := by decide +kernel
theorem dX11_crowd_32 : decode cX11_crowd 32 = .ok (.iload_n 1, 1) := by decide +kernel
theorem dX11_crowd_33 : decode cX11_crowd 33 = .ok (.if_icmp .le 8, 3) := by decide +kernel
theorem dX11_crowd_36 : decode cX11_crowd 36 = .ok (.iload 4, 2) := by decide +kernel
theorem dX11_crowd_38 : decode cX11_crowd 38 = .ok (.istore_n 1, 1) := by decide +kernel
theorem dX11_crowd_39 : decode cX11_crowd 39 = .ok (.iload_n 3, 1) := by decide +kernel
theorem dX11_crowd_40 : decode cX11_crowd 40 = .ok (.istore_n 2, 1) := by decide +kernel
theorem dX11_crowd_41 : decode cX11_crowd 41 = .ok (.iinc 3 1, 3) := by decide +kernel
theorem dX11_crowd_44 : decode cX11_crowd 44 = .ok (.goto (-38), 3) := by decide +kernel
theorem dX11_crowd_47 : decode cX11_crowd 47 = .ok (.iload_n 2, 1) := by decide +kernel
theorem dX11_crowd_48 : decode cX11_crowd 48 = .ok (.ireturn, 1) := by decide +kernel
def P_X11_crowd_L6    (Q : Int → St → Prop) : Nat → Int → Int → Int → St → Prop
  | 0, _, _, _, _ => False
  | n + 1, x1, x2, x3, σ => (if (σ 8 0 10) ≤ x3 then Q x2 σ else P_X1_fallers x3 σ (fun r_2 σ_1 => P_J6_bitCount_0f7a4 r_2 σ_1 (fun r_4 σ_3 => (if r_4 ≤ x1 then (P_X11_crowd_L6 Q n) x1 x2 (wi (x3 + 1)) σ_3 else (P_X11_crowd_L6 Q n) r_4 x3 (wi (x3 + 1)) σ_3))))
set_option maxRecDepth 20000 in
set_option maxHeartbeats 2000000 in
theorem e_P_X11_crowd_L6    {Q : Int → St → Prop}   : ∀ (n : Nat) (x1 : Int) (x2 : Int) (x3 : Int) (σ : St), P_X11_crowd_L6 Q n x1 x2 x3 σ → E Y_X11_crowd 3 0 0 (QI Q) ww 0 0 6 [some (vR 11 0), some (vI x1), some (vI x2), some (vI x3), none] [] σ := by
  intro n
  induction n with
  | zero => intro x1 x2 x3 σ h; exact h.elim
  | succ n hR =>
    intro x1 x2 x3 σ h
    unfold P_X11_crowd_L6 at h
    refine E_iload_n dX11_crowd_6 rfl rfl ?_
    refine E_aload_n dX11_crowd_7 rfl rfl ?_
    refine E_getr (i := 0) dX11_crowd_8 fl_RX11_19 rfl rfl (go_11_1 _ _) ?_
    refine E_geti (i := 0) dX11_crowd_11 fl_RX11_226 rfl ?_
    refine E_icmp_ge (tgt := 47) dX11_crowd_14 (by decide) (fun hc => ?_) (fun hc => ?_)
    · have h := Eq.mp (if_pos hc) h
      refine E_iload_n dX11_crowd_47 rfl rfl ?_
      exact E_iret dX11_crowd_48 rfl ⟨_, rfl, rfl, h⟩
    · have h := Eq.mp (if_neg hc) h
      refine E_aload_n dX11_crowd_17 rfl rfl ?_
      refine E_getr (i := 0) dX11_crowd_18 fl_RX11_89 rfl rfl (go_11_12 _ _) ?_
      refine E_iload_n dX11_crowd_21 rfl rfl ?_
      refine E_callV (Y' := Y_X1_fallers) (as := [vI x3]) (st := []) dX11_crowd_22 lk_RX11_229 m_X1_fallers (by decide) (Nat.le_refl _) (Nat.le_refl _) rfl rfl (Nat.le_of_ble_eq_true rfl) (s_X1_fallers h) (fun r0 B0 σ_1 h => ?_)
      obtain ⟨r_2, rfl, rfl, h⟩ := h
      refine E_callS (Y' := Y_J6_bitCount_0f7a4) (as := [vI r_2]) (st := []) dX11_crowd_25 lk_RX11_208 m_J6_bitCount_0f7a4 (by decide) (Nat.le_refl _) (Nat.le_refl _) rfl rfl (Nat.le_of_ble_eq_true rfl) (s_J6_bitCount_0f7a4 h) (fun r0 B0 σ_3 h => ?_)
      obtain ⟨r_4, rfl, rfl, h⟩ := h
      refine E_istore (ls' := [some (vR 11 0), some (vI x1), some (vI x2), some (vI x3), some (vI r_4)]) dX11_crowd_28 (by decide) rfl ?_
      refine E_iload dX11_crowd_30 rfl ?_
      refine E_iload_n dX11_crowd_32 rfl rfl ?_
      refine E_icmp_le (tgt := 41) dX11_crowd_33 (by decide) (fun hc => ?_) (fun hc => ?_)
      · have h := Eq.mp (if_pos hc) h
        refine E_iinc (ls' := [some (vR 11 0), some (vI x1), some (vI x2), some (vI (wi (x3 + 1))), some (vI r_4)]) dX11_crowd_41 rfl (by decide) rfl rfl ?_
        refine E_goto (tgt := 6) dX11_crowd_44 (by decide) ?_
        refine E_wk2 [some (vR 11 0), some (vI x1), some (vI x2), some (vI (wi (x3 + 1))), none] ⟨rfl, ⟨rfl, ⟨rfl, ⟨rfl, trivial⟩⟩⟩⟩ ?_
        exact hR _ _ _ _ h
      · have h := Eq.mp (if_neg hc) h
        refine E_iload dX11_crowd_36 rfl ?_
        refine E_istore_n (ls' := [some (vR 11 0), some (vI r_4), some (vI x2), some (vI x3), some (vI r_4)]) dX11_crowd_38 rfl (by decide) rfl ?_
        refine E_iload_n dX11_crowd_39 rfl rfl ?_
        refine E_istore_n (ls' := [some (vR 11 0), some (vI r_4), some (vI x3), some (vI x3), some (vI r_4)]) dX11_crowd_40 rfl (by decide) rfl ?_
        refine E_iinc (ls' := [some (vR 11 0), some (vI r_4), some (vI x3), some (vI (wi (x3 + 1))), some (vI r_4)]) dX11_crowd_41 rfl (by decide) rfl rfl ?_
        refine E_goto (tgt := 6) dX11_crowd_44 (by decide) ?_
        refine E_wk2 [some (vR 11 0), some (vI r_4), some (vI x3), some (vI (wi (x3 + 1))), none] ⟨rfl, ⟨rfl, ⟨rfl, ⟨rfl, trivial⟩⟩⟩⟩ ?_
        exact hR _ _ _ _ h
def P_X11_crowd   (σ : St) (Q : Int → St → Prop) : Prop :=
  P_X11_crowd_L6 Q FU 0 (-1) 0 σ
set_option maxRecDepth 20000 in
set_option maxHeartbeats 2000000 in
theorem s_X11_crowd    {σ : St} {Q : Int → St → Prop} (h : P_X11_crowd  σ Q) : Cn Y_X11_crowd 3 0 0 ww σ [vR 11 0] (QI Q) := by
  refine Cn_of [some (vR 11 0), none, none, none, none] (by decide) (Nat.le_of_ble_eq_true rfl) rfl ?_
  unfold P_X11_crowd at h
  refine E_ic dX11_crowd_0 rfl ?_
  refine E_istore_n (ls' := [some (vR 11 0), some (vI 0), none, none, none]) dX11_crowd_1 rfl (by decide) rfl ?_
  refine E_ic dX11_crowd_2 rfl ?_
  refine E_istore_n (ls' := [some (vR 11 0), some (vI 0), some (vI (-1)), none, none]) dX11_crowd_3 rfl (by decide) rfl ?_
  refine E_ic dX11_crowd_4 rfl ?_
  refine E_istore_n (ls' := [some (vR 11 0), some (vI 0), some (vI (-1)), some (vI 0), none]) dX11_crowd_5 rfl (by decide) rfl ?_
  refine e_P_X11_crowd_L6  _ _ _ _ _ h
abbrev Y_X11_trim : My := (yX11_trim, cX11_trim, 3, some .int)
theorem dX11_trim_0 : decode cX11_trim 0 = .ok (.iload_n 1, 1) := by decide +kernel
theorem dX11_trim_1 : decode cX11_trim 1 = .ok (.iconst (-1), 1) := by decide +kernel
theorem dX11_trim_2 : decode cX11_trim 2 = .ok (.if_icmp .eq 17, 3) := by decide +kernel
theorem dX11_trim_5 : decode cX11_trim 5 = .ok (.aload_n 0, 1) := by decide +kernel
theorem dX11_trim_6 : decode cX11_trim 6 = .ok (.getfield 19, 3) := by decide +kernel
theorem dX11_trim_9 : decode cX11_trim 9 = .ok (.iload_n 1, 1) := by decide +kernel
theorem dX11_trim_10 : decode cX11_trim 10 = .ok (.invokevirtual 128, 3) := by decide +kernel
theorem dX11_trim_13 : decode cX11_trim 13 = .ok (.ifCond .ne 6, 3) := by decide +kernel
theorem dX11_trim_16 : decode cX11_trim 16 = .ok (.bipush (-2), 2) := by decide +kernel
theorem dX11_trim_18 : decode cX11_trim 18 = .ok (.ireturn, 1) := by decide +kernel
theorem dX11_trim_19 : decode cX11_trim 19 = .ok (.aload_n 0, 1) := by decide +kernel
theorem dX11_trim_20 : decode cX11_trim 20 = .ok (.getfield 89, 3) := by decide +kernel
theorem dX11_trim_23 : decode cX11_trim 23 = .ok (.invokevirtual 235, 3) := by decide +kernel
theorem dX11_trim_26 : decode cX11_trim 26 = .ok (.istore_n 2, 1) := by decide +kernel
theorem dX11_trim_27 : decode cX11_trim 27 = .ok (.iload_n 1, 1) := by decide +kernel
theorem dX11_trim_28 : decode cX11_trim 28 = .ok (.iconst (-1), 1) := by decide +kernel
theorem dX11_trim_29 : decode cX11_trim 29 = .ok (.if_icmp .ne 7, 3) := by decide +kernel
theorem dX11_trim_32 : decode cX11_trim 32 = .ok (.iload_n 2, 1) := by decide +kernel
theorem dX11_trim_33 : decode cX11_trim 33 = .ok (.goto 12, 3) := by decide +kernel
theorem dX11_trim_36 : decode cX11_trim 36 = .ok (.aload_n 0, 1) := by decide +kernel
theorem dX11_trim_37 : decode cX11_trim 37 = .ok (.getfield 89, 3) := by decide +kernel
theorem dX11_trim_40 : decode cX11_trim 40 = .ok (.getfield 238, 3) := by decide +kernel
theorem dX11_trim_43 : decode cX11_trim 43 = .ok (.iload_n 1, 1) := by decide +kernel
theorem dX11_trim_44 : decode cX11_trim 44 = .ok (.iaload, 1) := by decide +kernel
theorem dX11_trim_45 : decode cX11_trim 45 = .ok (.ireturn, 1) := by decide +kernel
theorem fl_RX11_238 : FL RX11 238 1 2 := ⟨inG (i := 429) (by decide +kernel) (by decide +kernel), by decide, by decide⟩
theorem lk_RX11_235 : Cond.methodLink RX11 235 yX1_plan ∈ tG := inG (i := 1121) (by decide +kernel) (by decide +kernel)
theorem m_X1_plan : MV Y_X1_plan 0 1 := ⟨⟨inG (i := 1124) (by decide +kernel) (by decide +kernel), inG (i := 108) (by decide +kernel) (by decide +kernel), by decide, by decide, by decide, by decide +kernel⟩, inG (i := 1122) (by decide +kernel) (by decide +kernel), inG (i := 1123) (by decide +kernel) (by decide +kernel), by decide⟩
def P_X11_trim_J19  (x1 : Int)  (Q : Int → St → Prop) (σ : St) : Prop :=
  P_X1_plan σ (fun r_2 σ_1 => (if x1 = (-1) then Q r_2 σ_1 else 0 ≤ x1 ∧ x1 < 6 ∧ Q (σ_1 202 0 x1) σ_1))
set_option maxRecDepth 20000 in
set_option maxHeartbeats 2000000 in
theorem e_P_X11_trim_J19  {x1 : Int}  {Q : Int → St → Prop} {σ : St}   (h : P_X11_trim_J19 x1 Q σ) : E Y_X11_trim 2 0 0 (QI Q) ww 0 0 19 [some (vR 11 0), some (vI x1), none] [] σ := by
  unfold P_X11_trim_J19 at h
  refine E_aload_n dX11_trim_19 rfl rfl ?_
  refine E_getr (i := 0) dX11_trim_20 fl_RX11_89 rfl rfl (go_11_12 _ _) ?_
  refine E_callV (Y' := Y_X1_plan) (as := []) (st := []) dX11_trim_23 lk_RX11_235 m_X1_plan (by decide) (Nat.le_refl _) (Nat.le_refl _) rfl rfl (Nat.le_of_ble_eq_true rfl) (s_X1_plan h) (fun r0 B0 σ_1 h => ?_)
  obtain ⟨r_2, rfl, rfl, h⟩ := h
  refine E_istore_n (ls' := [some (vR 11 0), some (vI x1), some (vI r_2)]) dX11_trim_26 rfl (by decide) rfl ?_
  refine E_iload_n dX11_trim_27 rfl rfl ?_
  refine E_ic dX11_trim_28 rfl ?_
  refine E_icmp_ne (tgt := 36) dX11_trim_29 (by decide) (fun hc => ?_) (fun hc => ?_)
  · have h := Eq.mp (if_neg hc) h
    refine E_aload_n dX11_trim_36 rfl rfl ?_
    refine E_getr (i := 0) dX11_trim_37 fl_RX11_89 rfl rfl (go_11_12 _ _) ?_
    refine E_getr (i := 0) dX11_trim_40 fl_RX11_238 rfl rfl (go_1_2 _ _) ?_
    refine E_iload_n dX11_trim_43 rfl rfl ?_
    obtain ⟨hg0, hg1, h⟩ := h
    refine E_iald dX11_trim_44 sh_202 hg0 hg1 ?_
    exact E_iret dX11_trim_45 rfl ⟨_, rfl, rfl, h⟩
  · have h := Eq.mp (if_pos hc) h
    refine E_iload_n dX11_trim_32 rfl rfl ?_
    refine E_goto (tgt := 45) dX11_trim_33 (by decide) ?_
    exact E_iret dX11_trim_45 rfl ⟨_, rfl, rfl, h⟩
def P_X11_trim  (x1 : Int) (σ : St) (Q : Int → St → Prop) : Prop :=
  (if x1 = (-1) then P_X11_trim_J19 x1 Q σ else P_X8_hasCounter 0 x1 σ (fun r_4 σ_3 => (if r_4 = 0 then Q (-2) σ_3 else P_X11_trim_J19 x1 Q σ_3)))
set_option maxRecDepth 20000 in
set_option maxHeartbeats 2000000 in
theorem s_X11_trim   {x1 : Int} {σ : St} {Q : Int → St → Prop} (h : P_X11_trim x1 σ Q) : Cn Y_X11_trim 2 0 0 ww σ [vR 11 0, vI x1] (QI Q) := by
  refine Cn_of [some (vR 11 0), some (vI x1), none] (by decide) (Nat.le_of_ble_eq_true rfl) rfl ?_
  unfold P_X11_trim at h
  refine E_iload_n dX11_trim_0 rfl rfl ?_
  refine E_ic dX11_trim_1 rfl ?_
  refine E_icmp_eq (tgt := 19) dX11_trim_2 (by decide) (fun hc => ?_) (fun hc => ?_)
  · have h := Eq.mp (if_pos hc) h
    exact e_P_X11_trim_J19 h
  · have h := Eq.mp (if_neg hc) h
    refine E_aload_n dX11_trim_5 rfl rfl ?_
    refine E_getr (i := 0) dX11_trim_6 fl_RX11_19 rfl rfl (go_11_1 _ _) ?_
    refine E_iload_n dX11_trim_9 rfl rfl ?_
    refine E_callV (Y' := Y_X8_hasCounter) (as := [vI x1]) (st := []) dX11_trim_10 lk_RX11_128 m_X8_hasCounter (by decide) (Nat.le_refl _) (Nat.le_refl _) rfl rfl (Nat.le_of_ble_eq_true rfl) (s_X8_hasCounter h) (fun r0 B0 σ_3 h => ?_)
    obtain ⟨r_4, rfl, rfl, h⟩ := h
    refine E_if_ne (tgt := 19) dX11_trim_13 (by decide) (fun hc => ?_) (fun hc => ?_)
    · have h := Eq.mp (if_neg hc) h
      exact e_P_X11_trim_J19 h
    · have h := Eq.mp (if_pos hc) h
      refine E_bp dX11_trim_16 rfl ?_
      exact E_iret dX11_trim_18 rfl ⟨_, rfl, rfl, h⟩
abbrev Y_X11_swap : My := (yX11_swap, cX11_swap, 1, some .int)
theorem dX11_swap_0 : decode cX11_swap 0 = .ok (.aload_n 0, 1) := by decide +kernel
theorem dX11_swap_1 : decode cX11_swap 1 = .ok (.getfield 89, 3) := by decide +kernel
theorem dX11_swap_4 : decode cX11_swap 4 = .ok (.invokevirtual 241, 3) := by decide +kernel
theorem dX11_swap_7 : decode cX11_swap 7 = .ok (.ireturn, 1) := by decide +kernel
theorem lk_RX11_241 : Cond.methodLink RX11 241 yX1_bestExchange ∈ tG := inG (i := 1138) (by decide +kernel) (by decide +kernel)
theorem m_X1_bestExchange : MV Y_X1_bestExchange 0 1 := ⟨⟨inG (i := 1141) (by decide +kernel) (by decide +kernel), inG (i := 108) (by decide +kernel) (by decide +kernel), by decide, by decide, by decide, by decide +kernel⟩, inG (i := 1139) (by decide +kernel) (by decide +kernel), inG (i := 1140) (by decide +kernel) (by decide +kernel), by decide⟩
def P_X11_swap   (σ : St) (Q : Int → St → Prop) : Prop :=
  P_X1_bestExchange σ (fun r_2 σ_1 => Q r_2 σ_1)
set_option maxRecDepth 20000 in
set_option maxHeartbeats 2000000 in
theorem s_X11_swap    {σ : St} {Q : Int → St → Prop} (h : P_X11_swap  σ Q) : Cn Y_X11_swap 3 0 0 ww σ [vR 11 0] (QI Q) := by
  refine Cn_of [some (vR 11 0)] (by decide) (Nat.le_of_ble_eq_true rfl) rfl ?_
  unfold P_X11_swap at h
  refine E_aload_n dX11_swap_0 rfl rfl ?_
  refine E_getr (i := 0) dX11_swap_1 fl_RX11_89 rfl rfl (go_11_12 _ _) ?_
  refine E_callV (Y' := Y_X1_bestExchange) (as := []) (st := []) dX11_swap_4 lk_RX11_241 m_X1_bestExchange (by decide) (Nat.le_refl _) (Nat.le_refl _) rfl rfl (Nat.le_of_ble_eq_true rfl) (s_X1_bestExchange h) (fun r0 B0 σ_1 h => ?_)
  obtain ⟨r_2, rfl, rfl, h⟩ := h
  exact E_iret dX11_swap_7 rfl ⟨_, rfl, rfl, h⟩
abbrev Y_X11_back : My := (yX11_back, cX11_back, 2, some .int)
theorem dX11_back_0 : decode cX11_back 0 = .ok (.aload_n 0, 1) := by decide +kernel
theorem dX11_back_1 : decode cX11_back 1 = .ok (.getfield 19, 3) := by decide +kernel
theorem dX11_back_4 : decode cX11_back 4 = .ok (.iload_n 1, 1) := by decide +kernel
theorem dX11_back_5 : decode cX11_back 5 = .ok (.invokevirtual 142, 3) := by decide +kernel
theorem dX11_back_8 : decode cX11_back 8 = .ok (.ifCond .ne 5, 3) := by decide +kernel
theorem dX11_back_11 : decode cX11_back 11 = .ok (.iconst (-1), 1) := by decide +kernel
theorem dX11_back_12 : decode cX11_back 12 = .ok (.ireturn, 1) := by decide +kernel
theorem dX11_back_13 : decode cX11_back 13 = .ok (.aload_n 0, 1) := by decide +kernel
theorem dX11_back_14 : decode cX11_back 14 = .ok (.getfield 54, 3) := by decide +kernel
theorem dX11_back_17 : decode cX11_back 17 = .ok (.aload_n 0, 1) := by decide +kernel
theorem dX11_back_18 : decode cX11_back 18 = .ok (.getfield 50, 3) := by decide +kernel
theorem dX11_back_21 : decode cX11_back 21 = .ok (.invokevirtual 244, 3) := by decide +kernel
theorem dX11_back_24 : decode cX11_back 24 = .ok (.aload_n 0, 1) := by decide +kernel
theorem dX11_back_25 : decode cX11_back 25 = .ok (.getfield 54, 3) := by decide +kernel
theorem dX11_back_28 : decode cX11_back 28 = .ok (.iload_n 1, 1) := by decide +kernel
theorem dX11_back_29 : decode cX11_back 29 = .ok (.invokevirtual 246, 3) := by decide +kernel
theorem dX11_back_32 : decode cX11_back 32 = .ok (.ireturn, 1) := by decide +kernel
theorem fl_RX11_54 : FL RX11 54 11 7 := ⟨inG (i := 481) (by decide +kernel) (by decide +kernel), by decide, by decide⟩
theorem go_11_7 (σ : St) (i : Nat) : go σ 11 i 7 = (9, 1) := rfl
theorem lk_RX11_244 : Cond.methodLink RX11 244 yX9_take ∈ tG := inG (i := 1151) (by decide +kernel) (by decide +kernel)
theorem lk_RX11_246 : Cond.methodLink RX11 246 yX9_passTillRests ∈ tG := inG (i := 1152) (by decide +kernel) (by decide +kernel)
theorem m_X9_passTillRests : MV Y_X9_passTillRests 1 9 := ⟨⟨inG (i := 1155) (by decide +kernel) (by decide +kernel), inG (i := 104) (by decide +kernel) (by decide +kernel), by decide, by decide, by decide, by decide +kernel⟩, inG (i := 1153) (by decide +kernel) (by decide +kernel), inG (i := 1154) (by decide +kernel) (by decide +kernel), by decide⟩
def P_X11_back  (x1 : Int) (σ : St) (Q : Int → St → Prop) : Prop :=
  P_X8_hasBall 0 x1 σ (fun r_2 σ_1 => (if r_2 = 0 then Q (-1) σ_1 else P_X9_take 1 0 σ_1 (fun σ_3 => P_X9_passTillRests 1 x1 σ_3 (fun r_5 σ_4 => Q r_5 σ_4))))
set_option maxRecDepth 20000 in
set_option maxHeartbeats 2000000 in
theorem s_X11_back   {x1 : Int} {σ : St} {Q : Int → St → Prop} (h : P_X11_back x1 σ Q) : Cn Y_X11_back 5 0 0 ww σ [vR 11 0, vI x1] (QI Q) := by
  refine Cn_of [some (vR 11 0), some (vI x1)] (by decide) (Nat.le_of_ble_eq_true rfl) rfl ?_
  unfold P_X11_back at h
  refine E_aload_n dX11_back_0 rfl rfl ?_
  refine E_getr (i := 0) dX11_back_1 fl_RX11_19 rfl rfl (go_11_1 _ _) ?_
  refine E_iload_n dX11_back_4 rfl rfl ?_
  refine E_callV (Y' := Y_X8_hasBall) (as := [vI x1]) (st := []) dX11_back_5 lk_RX11_142 m_X8_hasBall (by decide) (Nat.le_refl _) (Nat.le_refl _) rfl rfl (Nat.le_of_ble_eq_true rfl) (s_X8_hasBall h) (fun r0 B0 σ_1 h => ?_)
  obtain ⟨r_2, rfl, rfl, h⟩ := h
  refine E_if_ne (tgt := 13) dX11_back_8 (by decide) (fun hc => ?_) (fun hc => ?_)
  · have h := Eq.mp (if_neg hc) h
    refine E_aload_n dX11_back_13 rfl rfl ?_
    refine E_getr (i := 0) dX11_back_14 fl_RX11_54 rfl rfl (go_11_7 _ _) ?_
    refine E_aload_n dX11_back_17 rfl rfl ?_
    refine E_getr (i := 0) dX11_back_18 fl_RX11_50 rfl rfl (go_11_6 _ _) ?_
    refine E_callV (Y' := Y_X9_take) (as := [vR 9 0]) (st := []) dX11_back_21 lk_RX11_244 m_X9_take (by decide) (Nat.le_refl _) (Nat.le_refl _) rfl rfl (Nat.le_of_ble_eq_true rfl) (s_X9_take h) (fun r0 B0 σ_3 h => ?_)
    obtain ⟨rfl, rfl, h⟩ := h
    refine E_aload_n dX11_back_24 rfl rfl ?_
    refine E_getr (i := 0) dX11_back_25 fl_RX11_54 rfl rfl (go_11_7 _ _) ?_
    refine E_iload_n dX11_back_28 rfl rfl ?_
    refine E_callV (Y' := Y_X9_passTillRests) (as := [vI x1]) (st := []) dX11_back_29 lk_RX11_246 m_X9_passTillRests (by decide) (Nat.le_refl _) (Nat.le_refl _) rfl rfl (Nat.le_of_ble_eq_true rfl) (s_X9_passTillRests h) (fun r0 B0 σ_4 h => ?_)
    obtain ⟨r_5, rfl, rfl, h⟩ := h
    exact E_iret dX11_back_32 rfl ⟨_, rfl, rfl, h⟩
  · have h := Eq.mp (if_pos hc) h
    refine E_ic dX11_back_11 rfl ?_
    exact E_iret dX11_back_12 rfl ⟨_, rfl, rfl, h⟩
abbrev Y_X11_trip : My := (yX11_trip, cX11_trip, 2, some .int)
theorem dX11_trip_0 : decode cX11_trip 0 = .ok (.aload_n 0, 1) := by decide +kernel
theorem dX11_trip_1 : decode cX11_trip 1 = .ok (.getfield 50, 3) := by decide +kernel
theorem dX11_trip_4 : decode cX11_trip 4 = .ok (.iload_n 1, 1) := by decide +kernel
theorem dX11_trip_5 : decode cX11_trip 5 = .ok (.invokevirtual 163, 3) := by decide +kernel
theorem dX11_trip_8 : decode cX11_trip 8 = .ok (.ifCond .ne 5, 3) := by decide +kernel
theorem dX11_trip_11 : decode cX11_trip 11 = .ok (.iconst (-1), 1) := by decide +kernel
theorem dX11_trip_12 : decode cX11_trip 12 = .ok (.ireturn, 1) := by decide +kernel
theorem dX11_trip_13 : decode cX11_trip 13 = .ok (.aload_n 0, 1) := by decide +kernel
theorem dX11_trip_14 : decode cX11_trip 14 = .ok (.getfield 54, 3) := by decide +kernel
theorem dX11_trip_17 : decode cX11_trip 17 = .ok (.aload_n 0, 1) := by decide +kernel
theorem dX11_trip_18 : decode cX11_trip 18 = .ok (.getfield 50, 3) := by decide +kernel
theorem dX11_trip_21 : decode cX11_trip 21 = .ok (.invokevirtual 244, 3) := by decide +kernel
theorem dX11_trip_24 : decode cX11_trip 24 = .ok (.aload_n 0, 1) := by decide +kernel
theorem dX11_trip_25 : decode cX11_trip 25 = .ok (.getfield 54, 3) := by decide +kernel
theorem dX11_trip_28 : decode cX11_trip 28 = .ok (.iload_n 1, 1) := by decide +kernel
theorem dX11_trip_29 : decode cX11_trip 29 = .ok (.invokevirtual 170, 3) := by decide +kernel
theorem dX11_trip_32 : decode cX11_trip 32 = .ok (.pop, 1) := by decide +kernel
theorem dX11_trip_33 : decode cX11_trip 33 = .ok (.aload_n 0, 1) := by decide +kernel
theorem dX11_trip_34 : decode cX11_trip 34 = .ok (.getfield 54, 3) := by decide +kernel
theorem dX11_trip_37 : decode cX11_trip 37 = .ok (.iload_n 1, 1) := by decide +kernel
theorem dX11_trip_38 : decode cX11_trip 38 = .ok (.invokevirtual 246, 3) := by decide +kernel
theorem dX11_trip_41 : decode cX11_trip 41 = .ok (.ireturn, 1) := by decide +kernel
def P_X11_trip  (x1 : Int) (σ : St) (Q : Int → St → Prop) : Prop :=
  P_X9_canSend 0 x1 σ (fun r_2 σ_1 => (if r_2 = 0 then Q (-1) σ_1 else P_X9_take 1 0 σ_1 (fun σ_3 => P_X9_sendOff 1 x1 σ_3 (fun r_5 σ_4 => P_X9_passTillRests 1 x1 σ_4 (fun r_7 σ_6 => Q r_7 σ_6)))))
set_option maxRecDepth 20000 in
set_option maxHeartbeats 2000000 in
theorem s_X11_trip   {x1 : Int} {σ : St} {Q : Int → St → Prop} (h : P_X11_trip x1 σ Q) : Cn Y_X11_trip 5 0 0 ww σ [vR 11 0, vI x1] (QI Q) := by
  refine Cn_of [some (vR 11 0), some (vI x1)] (by decide) (Nat.le_of_ble_eq_true rfl) rfl ?_
  unfold P_X11_trip at h
  refine E_aload_n dX11_trip_0 rfl rfl ?_
  refine E_getr (i := 0) dX11_trip_1 fl_RX11_50 rfl rfl (go_11_6 _ _) ?_
  refine E_iload_n dX11_trip_4 rfl rfl ?_
  refine E_callV (Y' := Y_X9_canSend) (as := [vI x1]) (st := []) dX11_trip_5 lk_RX11_163 m_X9_canSend (by decide) (Nat.le_refl _) (Nat.le_refl _) rfl rfl (Nat.le_of_ble_eq_true rfl) (s_X9_canSend h) (fun r0 B0 σ_1 h => ?_)
  obtain ⟨r_2, rfl, rfl, h⟩ := h
  refine E_if_ne (tgt := 13) dX11_trip_8 (by decide) (fun hc => ?_) (fun hc => ?_)
  · have h := Eq.mp (if_neg hc) h
    refine E_aload_n dX11_trip_13 rfl rfl ?_
    refine E_getr (i := 0) dX11_trip_14 fl_RX11_54 rfl rfl (go_11_7 _ _) ?_
    refine E_aload_n dX11_trip_17 rfl rfl ?_
    refine E_getr (i := 0) dX11_trip_18 fl_RX11_50 rfl rfl (go_11_6 _ _) ?_
    refine E_callV (Y' := Y_X9_take) (as := [vR 9 0]) (st := []) dX11_trip_21 lk_RX11_244 m_X9_take (by decide) (Nat.le_refl _) (Nat.le_refl _) rfl rfl (Nat.le_of_ble_eq_true rfl) (s_X9_take h) (fun r0 B0 σ_3 h => ?_)
    obtain ⟨rfl, rfl, h⟩ := h
    refine E_aload_n dX11_trip_24 rfl rfl ?_
    refine E_getr (i := 0) dX11_trip_25 fl_RX11_54 rfl rfl (go_11_7 _ _) ?_
    refine E_iload_n dX11_trip_28 rfl rfl ?_
    refine E_callV (Y' := Y_X9_sendOff) (as := [vI x1]) (st := []) dX11_trip_29 lk_RX11_170 m_X9_sendOff (by decide) (Nat.le_refl _) (Nat.le_refl _) rfl rfl (Nat.le_of_ble_eq_true rfl) (s_X9_sendOff h) (fun r0 B0 σ_4 h => ?_)
    obtain ⟨r_5, rfl, rfl, h⟩ := h
    refine E_pop dX11_trip_32 (fun _ q => by cases q) ?_
    refine E_aload_n dX11_trip_33 rfl rfl ?_
    refine E_getr (i := 0) dX11_trip_34 fl_RX11_54 rfl rfl (go_11_7 _ _) ?_
    refine E_iload_n dX11_trip_37 rfl rfl ?_
    refine E_callV (Y' := Y_X9_passTillRests) (as := [vI x1]) (st := []) dX11_trip_38 lk_RX11_246 m_X9_passTillRests (by decide) (Nat.le_refl _) (Nat.le_refl _) rfl rfl (Nat.le_of_ble_eq_true rfl) (s_X9_passTillRests h) (fun r0 B0 σ_6 h => ?_)
    obtain ⟨r_7, rfl, rfl, h⟩ := h
    exact E_iret dX11_trip_41 rfl ⟨_, rfl, rfl, h⟩
  · have h := Eq.mp (if_pos hc) h
    refine E_ic dX11_trip_11 rfl ?_
    exact E_iret dX11_trip_12 rfl ⟨_, rfl, rfl, h⟩
abbrev Y_X11_rest : My := (yX11_rest, cX11_rest, 1, some .int)
theorem dX11_rest_0 : decode cX11_rest 0 = .ok (.aload_n 0, 1) := by decide +kernel
theorem dX11_rest_1 : decode cX11_rest 1 = .ok (.getfield 54, 3) := by decide +kernel
theorem dX11_rest_4 : decode cX11_rest 4 = .ok (.aload_n 0, 1) := by decide +kernel
theorem dX11_rest_5 : decode cX11_rest 5 = .ok (.getfield 50, 3) := by decide +kernel
theorem dX11_rest_8 : decode cX11_rest 8 = .ok (.invokevirtual 244, 3) := by decide +kernel
theorem dX11_rest_11 : decode cX11_rest 11 = .ok (.aload_n 0, 1) := by decide +kernel
theorem dX11_rest_12 : decode cX11_rest 12 = .ok (.getfield 54, 3) := by decide +kernel
theorem dX11_rest_15 : decode cX11_rest 15 = .ok (.invokevirtual 249, 3) := by decide +kernel
theorem dX11_rest_18 : decode cX11_rest 18 = .ok (.ireturn, 1) := by decide +kernel
theorem lk_RX11_249 : Cond.methodLink RX11 249 yX9_passTillAllRest ∈ tG := inG (i := 1164) (by decide +kernel) (by decide +kernel)
def P_X11_rest   (σ : St) (Q : Int → St → Prop) : Prop :=
  P_X9_take 1 0 σ (fun σ_1 => P_X9_passTillAllRest 1 σ_1 (fun r_3 σ_2 => Q r_3 σ_2))
set_option maxRecDepth 20000 in
set_option maxHeartbeats 2000000 in
theorem s_X11_rest    {σ : St} {Q : Int → St → Prop} (h : P_X11_rest  σ Q) : Cn Y_X11_rest 5 0 0 ww σ [vR 11 0] (QI Q) := by
  refine Cn_of [some (vR 11 0)] (by decide) (Nat.le_of_ble_eq_true rfl) rfl ?_
  unfold P_X11_rest at h
  refine E_aload_n dX11_rest_0 rfl rfl ?_
  refine E_getr (i := 0) dX11_rest_1 fl_RX11_54 rfl rfl (go_11_7 _ _) ?_
  refine E_aload_n dX11_rest_4 rfl rfl ?_
  refine E_getr (i := 0) dX11_rest_5 fl_RX11_50 rfl rfl (go_11_6 _ _) ?_
  refine E_callV (Y' := Y_X9_take) (as := [vR 9 0]) (st := []) dX11_rest_8 lk_RX11_244 m_X9_take (by decide) (Nat.le_refl _) (Nat.le_refl _) rfl rfl (Nat.le_of_ble_eq_true rfl) (s_X9_take h) (fun r0 B0 σ_1 h => ?_)
  obtain ⟨rfl, rfl, h⟩ := h
  refine E_aload_n dX11_rest_11 rfl rfl ?_
  refine E_getr (i := 0) dX11_rest_12 fl_RX11_54 rfl rfl (go_11_7 _ _) ?_
  refine E_callV (Y' := Y_X9_passTillAllRest) (as := []) (st := []) dX11_rest_15 lk_RX11_249 m_X9_passTillAllRest (by decide) (Nat.le_refl _) (Nat.le_refl _) rfl rfl (Nat.le_of_ble_eq_true rfl) (s_X9_passTillAllRest h) (fun r0 B0 σ_2 h => ?_)
  obtain ⟨r_3, rfl, rfl, h⟩ := h
  exact E_iret dX11_rest_18 rfl ⟨_, rfl, rfl, h⟩
abbrev Y_X11_last : My := (yX11_last, cX11_last, 5, some .int)
theorem dX11_last_0 : decode cX11_last 0 = .ok (.iconst (-1), 1) := by decide +kernel
theorem dX11_last_1 : decode cX11_last 1 = .ok (.istore_n 1, 1) := by decide +kernel
theorem dX11_last_2 : decode cX11_last 2 = .ok (.iconst 0, 1) := by decide +kernel
theorem dX11_last_3 : decode cX11_last 3 = .ok (.istore_n 2, 1) := by decide +kernel
theorem dX11_last_4 : decode cX11_last 4 = .ok (.iconst 0, 1) := by decide +kernel
theorem dX11_last_5 : decode cX11_last 5 = .ok (.istore_n 3, 1) := by decide +kernel
theorem dX11_last_6 : decode cX11_last 6 = .ok (.iload_n 3, 1) := by decide +kernel
theorem dX11_last_7 : decode cX11_last 7 = .ok (.aload_n 0, 1) := by decide +kernel
theorem dX11_last_8 : decode cX11_last 8 = .ok (.getfield 19, 3) := by decide +kernel
theorem dX11_last_11 : decode cX11_last 11 = .ok (.getfield 258, 3) := by decide +kernel
theorem dX11_last_14 : decode cX11_last 14 = .ok (.if_icmp .ge 41, 3) := by decide +kernel
theorem dX11_last_17 : decode cX11_last 17 = .ok (.aload_n 0, 1) := by decide +kernel
theorem dX11_last_18 : decode cX11_last 18 = .ok (.getfield 54, 3) := by decide +kernel
theorem dX11_last_21 : decode cX11_last 21 = .ok (.aload_n 0, 1) := by decide +kernel
theorem dX11_last_22 : decode cX11_last 22 = .ok (.getfield 50, 3) := by decide +kernel
theorem dX11_last_25 : decode cX11_last 25 = .ok (.invokevirtual 244, 3) := by decide +kernel
theorem dX11_last_28 : decode cX11_last 28 = .ok (.aload_n 0, 1) := by decide +kernel
theorem dX11_last_29 : decode cX11_last 29 = .ok (.getfield 54, 3) := by decide +kernel
theorem dX11_last_32 : decode cX11_last 32 = .ok (.iload_n 3, 1) := by decide +kernel
theorem dX11_last_33 : decode cX11_last 33 = .ok (.invokevirtual 246, 3) := by decide +kernel
theorem dX11_last_36 : decode cX11_last 36 = .ok (.istore 4, 2) := by decide +kernel
theorem dX11_last_38 : decode cX11_last 38 = .ok (.iload 4, 2) := by decide +kernel
theorem dX11_last_40 : decode cX11_last 40 = .ok (.iload_n 2, 1) := by decide +kernel
theorem dX11_last_41 : decode cX11_last 41 = .ok (.if_icmp .le 8, 3) := by decide +kernel
theorem dX11_last_44 : decode cX11_last 44 = .ok (.iload 4, 2) := by decide +kernel
theorem dX11_last_46 : decode cX11_last 46 = .ok (.istore_n 2, 1) := by decide +kernel
theorem dX11_last_47 : decode cX11_last 47 = .ok (.iload_n 3, 1) := by decide +kernel
theorem dX11_last_48 : decode cX11_last 48 = .ok (.istore_n 1, 1) := by decide +kernel
theorem dX11_last_49 : decode cX11_last 49 = .ok (.iinc 3 1, 3) := by decide +kernel
theorem dX11_last_52 : decode cX11_last 52 = .ok (.goto (-46), 3) := by decide +kernel
theorem dX11_last_55 : decode cX11_last 55 = .ok (.iload_n 1, 1) := by decide +kernel
theorem dX11_last_56 : decode cX11_last 56 = .ok (.ireturn, 1) := by decide +kernel
def P_X11_last_L6    (Q : Int → St → Prop) : Nat → Int → Int → Int → St → Prop
  | 0, _, _, _, _ => False
  | n + 1, x1, x2, x3, σ => (if (σ 8 0 11) ≤ x3 then Q x1 σ else P_X9_take 1 0 σ (fun σ_1 => P_X9_passTillRests 1 x3 σ_1 (fun r_3 σ_2 => (if r_3 ≤ x2 then (P_X11_last_L6 Q n) x1 x2 (wi (x3 + 1)) σ_2 else (P_X11_last_L6 Q n) x3 r_3 (wi (x3 + 1)) σ_2))))
set_option maxRecDepth 20000 in
set_option maxHeartbeats 2000000 in
theorem e_P_X11_last_L6    {Q : Int → St → Prop}   : ∀ (n : Nat) (x1 : Int) (x2 : Int) (x3 : Int) (σ : St), P_X11_last_L6 Q n x1 x2 x3 σ → E Y_X11_last 5 0 0 (QI Q) ww 0 0 6 [some (vR 11 0), some (vI x1), some (vI x2), some (vI x3), none] [] σ := by
  intro n
  induction n with
  | zero => intro x1 x2 x3 σ h; exact h.elim
  | succ n hR =>
    intro x1 x2 x3 σ h
    unfold P_X11_last_L6 at h
    refine E_iload_n dX11_last_6 rfl rfl ?_
    refine E_aload_n dX11_last_7 rfl rfl ?_
    refine E_getr (i := 0) dX11_last_8 fl_RX11_19 rfl rfl (go_11_1 _ _) ?_
    refine E_geti (i := 0) dX11_last_11 fl_RX11_258 rfl ?_
    refine E_icmp_ge (tgt := 55) dX11_last_14 (by decide) (fun hc => ?_) (fun hc => ?_)
    · have h := Eq.mp (if_pos hc) h
      refine E_iload_n dX11_last_55 rfl rfl ?_
      exact E_iret dX11_last_56 rfl ⟨_, rfl, rfl, h⟩
    · have h := Eq.mp (if_neg hc) h
      refine E_aload_n dX11_last_17 rfl rfl ?_
      refine E_getr (i := 0) dX11_last_18 fl_RX11_54 rfl rfl (go_11_7 _ _) ?_
      refine E_aload_n dX11_last_21 rfl rfl ?_
      refine E_getr (i := 0) dX11_last_22 fl_RX11_50 rfl rfl (go_11_6 _ _) ?_
      refine E_callV (Y' := Y_X9_take) (as := [vR 9 0]) (st := []) dX11_last_25 lk_RX11_244 m_X9_take (by decide) (Nat.le_refl _) (Nat.le_refl _) rfl rfl (Nat.le_of_ble_eq_true rfl) (s_X9_take h) (fun r0 B0 σ_1 h => ?_)
      obtain ⟨rfl, rfl, h⟩ := h
      refine E_aload_n dX11_last_28 rfl rfl ?_
      refine E_getr (i := 0) dX11_last_29 fl_RX11_54 rfl rfl (go_11_7 _ _) ?_
      refine E_iload_n dX11_last_32 rfl rfl ?_
      refine E_callV (Y' := Y_X9_passTillRests) (as := [vI x3]) (st := []) dX11_last_33 lk_RX11_246 m_X9_passTillRests (by decide) (Nat.le_refl _) (Nat.le_refl _) rfl rfl (Nat.le_of_ble_eq_true rfl) (s_X9_passTillRests h) (fun r0 B0 σ_2 h => ?_)
      obtain ⟨r_3, rfl, rfl, h⟩ := h
      refine E_istore (ls' := [some (vR 11 0), some (vI x1), some (vI x2), some (vI x3), some (vI r_3)]) dX11_last_36 (by decide) rfl ?_
      refine E_iload dX11_last_38 rfl ?_
      refine E_iload_n dX11_last_40 rfl rfl ?_
      refine E_icmp_le (tgt := 49) dX11_last_41 (by decide) (fun hc => ?_) (fun hc => ?_)
      · have h := Eq.mp (if_pos hc) h
        refine E_iinc (ls' := [some (vR 11 0), some (vI x1), some (vI x2), some (vI (wi (x3 + 1))), some (vI r_3)]) dX11_last_49 rfl (by decide) rfl rfl ?_
        refine E_goto (tgt := 6) dX11_last_52 (by decide) ?_
        refine E_wk2 [some (vR 11 0), some (vI x1), some (vI x2), some (vI (wi (x3 + 1))), none] ⟨rfl, ⟨rfl, ⟨rfl, ⟨rfl, trivial⟩⟩⟩⟩ ?_
        exact hR _ _ _ _ h
      · have h := Eq.mp (if_neg hc) h
        refine E_iload dX11_last_44 rfl ?_
        refine E_istore_n (ls' := [some (vR 11 0), some (vI x1), some (vI r_3), some (vI x3), some (vI r_3)]) dX11_last_46 rfl (by decide) rfl ?_
        refine E_iload_n dX11_last_47 rfl rfl ?_
        refine E_istore_n (ls' := [some (vR 11 0), some (vI x3), some (vI r_3), some (vI x3), some (vI r_3)]) dX11_last_48 rfl (by decide) rfl ?_
        refine E_iinc (ls' := [some (vR 11 0), some (vI x3), some (vI r_3), some (vI (wi (x3 + 1))), some (vI r_3)]) dX11_last_49 rfl (by decide) rfl rfl ?_
        refine E_goto (tgt := 6) dX11_last_52 (by decide) ?_
        refine E_wk2 [some (vR 11 0), some (vI x3), some (vI r_3), some (vI (wi (x3 + 1))), none] ⟨rfl, ⟨rfl, ⟨rfl, ⟨rfl, trivial⟩⟩⟩⟩ ?_
        exact hR _ _ _ _ h
def P_X11_last   (σ : St) (Q : Int → St → Prop) : Prop :=
  P_X11_last_L6 Q FU (-1) 0 0 σ
set_option maxRecDepth 20000 in
set_option maxHeartbeats 2000000 in
theorem s_X11_last    {σ : St} {Q : Int → St → Prop} (h : P_X11_last  σ Q) : Cn Y_X11_last 5 0 0 ww σ [vR 11 0] (QI Q) := by
  refine Cn_of [some (vR 11 0), none, none, none, none] (by decide) (Nat.le_of_ble_eq_true rfl) rfl ?_
  unfold P_X11_last at h
  refine E_ic dX11_last_0 rfl ?_
  refine E_istore_n (ls' := [some (vR 11 0), some (vI (-1)), none, none, none]) dX11_last_1 rfl (by decide) rfl ?_
  refine E_ic dX11_last_2 rfl ?_
  refine E_istore_n (ls' := [some (vR 11 0), some (vI (-1)), some (vI 0), none, none]) dX11_last_3 rfl (by decide) rfl ?_
  refine E_ic dX11_last_4 rfl ?_
  refine E_istore_n (ls' := [some (vR 11 0), some (vI (-1)), some (vI 0), some (vI 0), none]) dX11_last_5 rfl (by decide) rfl ?_
  refine e_P_X11_last_L6  _ _ _ _ _ h
