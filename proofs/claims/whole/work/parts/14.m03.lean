abbrev Y_X9_draw : My := (yX9_draw, cX9_draw, 2, some .long)
theorem dX9_draw_0 : decode cX9_draw 0 = .ok (.lload_n 0, 1) := by decide +kernel
theorem dX9_draw_1 : decode cX9_draw 1 = .ok (.ldc2_w 148, 3) := by decide +kernel
theorem dX9_draw_4 : decode cX9_draw 4 = .ok (.lmul, 1) := by decide +kernel
theorem dX9_draw_5 : decode cX9_draw 5 = .ok (.ldc2_w 150, 3) := by decide +kernel
theorem dX9_draw_8 : decode cX9_draw 8 = .ok (.ladd, 1) := by decide +kernel
theorem dX9_draw_9 : decode cX9_draw 9 = .ok (.ldc2_w 152, 3) := by decide +kernel
theorem dX9_draw_12 : decode cX9_draw 12 = .ok (.lrem, 1) := by decide +kernel
theorem dX9_draw_13 : decode cX9_draw 13 = .ok (.lreturn, 1) := by decide +kernel
theorem kl_RX9_148 : Cond.constantLong RX9 148 (1103515245) ∈ tG := inG (i := 1280) (by decide +kernel) (by decide +kernel)
theorem kl_RX9_150 : Cond.constantLong RX9 150 (12345) ∈ tG := inG (i := 1281) (by decide +kernel) (by decide +kernel)
theorem kl_RX9_152 : Cond.constantLong RX9 152 (2147483648) ∈ tG := inG (i := 1282) (by decide +kernel) (by decide +kernel)
def P_X9_draw  (x0 : Int) (σ : St) (Q : Int → St → Prop) : Prop :=
  Q ((wj ((wj (x0 * 1103515245)) + 12345)).tmod 2147483648) σ
set_option maxRecDepth 20000 in
set_option maxHeartbeats 2000000 in
theorem s_X9_draw   {x0 : Int} {σ : St} {Q : Int → St → Prop} (h : P_X9_draw x0 σ Q) : Cn Y_X9_draw 0 0 0 ww σ [vL x0] (QL Q) := by
  refine Cn_of [some (vL x0), none] (by decide) (Nat.le_of_ble_eq_true rfl) rfl ?_
  unfold P_X9_draw at h
  refine E_lload_n dX9_draw_0 rfl rfl ?_
  refine E_ldc2 (z := 1103515245) dX9_draw_1 kl_RX9_148 (by decide) ?_
  refine E_lmul dX9_draw_4 ?_
  refine E_ldc2 (z := 12345) dX9_draw_5 kl_RX9_150 (by decide) ?_
  refine E_ladd dX9_draw_8 ?_
  refine E_ldc2 (z := 2147483648) dX9_draw_9 kl_RX9_152 (by decide) ?_
  refine E_lrem dX9_draw_12 (by decide) ?_
  exact E_lret dX9_draw_13 rfl ⟨_, rfl, rfl, h⟩
abbrev Y_X10_put : My := (yX10_put, cX10_put, 6, none)
theorem dX10_put_0 : decode cX10_put 0 = .ok (.iload_n 1, 1) := by decide +kernel
theorem dX10_put_1 : decode cX10_put 1 = .ok (.ifCond .lt 32, 3) := by decide +kernel
theorem dX10_put_4 : decode cX10_put 4 = .ok (.iload_n 1, 1) := by decide +kernel
theorem dX10_put_5 : decode cX10_put 5 = .ok (.sipush 1000, 3) := by decide +kernel
theorem dX10_put_8 : decode cX10_put 8 = .ok (.if_icmp .gt 25, 3) := by decide +kernel
theorem dX10_put_11 : decode cX10_put 11 = .ok (.aload_n 0, 1) := by decide +kernel
theorem dX10_put_12 : decode cX10_put 12 = .ok (.getfield 15, 3) := by decide +kernel
theorem dX10_put_15 : decode cX10_put 15 = .ok (.iload_n 1, 1) := by decide +kernel
theorem dX10_put_16 : decode cX10_put 16 = .ok (.iload_n 2, 1) := by decide +kernel
theorem dX10_put_17 : decode cX10_put 17 = .ok (.iastore, 1) := by decide +kernel
theorem dX10_put_18 : decode cX10_put 18 = .ok (.aload_n 0, 1) := by decide +kernel
theorem dX10_put_19 : decode cX10_put 19 = .ok (.getfield 19, 3) := by decide +kernel
theorem dX10_put_22 : decode cX10_put 22 = .ok (.iload_n 1, 1) := by decide +kernel
theorem dX10_put_23 : decode cX10_put 23 = .ok (.iload_n 3, 1) := by decide +kernel
theorem dX10_put_24 : decode cX10_put 24 = .ok (.iastore, 1) := by decide +kernel
theorem dX10_put_25 : decode cX10_put 25 = .ok (.aload_n 0, 1) := by decide +kernel
theorem dX10_put_26 : decode cX10_put 26 = .ok (.getfield 22, 3) := by decide +kernel
theorem dX10_put_29 : decode cX10_put 29 = .ok (.iload_n 1, 1) := by decide +kernel
theorem dX10_put_30 : decode cX10_put 30 = .ok (.lload 4, 2) := by decide +kernel
theorem dX10_put_32 : decode cX10_put 32 = .ok (.lastore, 1) := by decide +kernel
theorem dX10_put_33 : decode cX10_put 33 = .ok (.return_, 1) := by decide +kernel
theorem fl_RX10_15 : FL RX10 15 10 1 := ⟨inG (i := 138) (by decide +kernel) (by decide +kernel), by decide, by decide⟩
theorem fl_RX10_19 : FL RX10 19 10 2 := ⟨inG (i := 139) (by decide +kernel) (by decide +kernel), by decide, by decide⟩
theorem fl_RX10_22 : FL RX10 22 10 3 := ⟨inG (i := 140) (by decide +kernel) (by decide +kernel), by decide, by decide⟩
theorem go_10_1 (σ : St) (i : Nat) : go σ 10 i 1 = (1101, i) := rfl
theorem go_10_2 (σ : St) (i : Nat) : go σ 10 i 2 = (1102, i) := rfl
theorem go_10_3 (σ : St) (i : Nat) : go σ 10 i 3 = (1103, i) := rfl
theorem sh_1101 : shp 1101 = (0, 1001) := rfl
theorem sh_1102 : shp 1102 = (0, 1001) := rfl
theorem sh_1103 : shp 1103 = (1, 1001) := rfl
def P_X10_put  (x1 : Int) (x2 : Int) (x3 : Int) (x4 : Int) (σ : St) (Q : St → Prop) : Prop :=
  (if x1 < 0 then Q σ else (if 1000 < x1 then Q σ else 0 ≤ x1 ∧ x1 < 1001 ∧ 0 ≤ x1 ∧ x1 < 1001 ∧ 0 ≤ x1 ∧ x1 < 1001 ∧ Q (up (up (up σ 1101 0 x1 x2) 1102 0 x1 x3) 1103 0 x1 x4)))
set_option maxRecDepth 20000 in
set_option maxHeartbeats 2000000 in
theorem s_X10_put   {x1 : Int} {x2 : Int} {x3 : Int} {x4 : Int} {σ : St} {Q : St → Prop} (h : P_X10_put x1 x2 x3 x4 σ Q) : Cn Y_X10_put 0 0 0 ww σ [vR 10 0, vI x1, vI x2, vI x3, vL x4] (QV Q) := by
  refine Cn_of [some (vR 10 0), some (vI x1), some (vI x2), some (vI x3), some (vL x4), none] (by decide) (Nat.le_of_ble_eq_true rfl) rfl ?_
  unfold P_X10_put at h
  refine E_iload_n dX10_put_0 rfl rfl ?_
  refine E_if_lt (tgt := 33) dX10_put_1 (by decide) (fun hc => ?_) (fun hc => ?_)
  · have h := Eq.mp (if_pos hc) h
    exact E_vret dX10_put_33 rfl ⟨rfl, rfl, h⟩
  · have h := Eq.mp (if_neg hc) h
    refine E_iload_n dX10_put_4 rfl rfl ?_
    refine E_sp dX10_put_5 rfl ?_
    refine E_icmp_gt (tgt := 33) dX10_put_8 (by decide) (fun hc => ?_) (fun hc => ?_)
    · have h := Eq.mp (if_pos hc) h
      exact E_vret dX10_put_33 rfl ⟨rfl, rfl, h⟩
    · have h := Eq.mp (if_neg hc) h
      refine E_aload_n dX10_put_11 rfl rfl ?_
      refine E_getr (i := 0) dX10_put_12 fl_RX10_15 rfl rfl (go_10_1 _ _) ?_
      refine E_iload_n dX10_put_15 rfl rfl ?_
      refine E_iload_n dX10_put_16 rfl rfl ?_
      obtain ⟨hg0, hg1, h⟩ := h
      refine E_iast dX10_put_17 sh_1101 hg0 hg1 ?_
      refine E_aload_n dX10_put_18 rfl rfl ?_
      refine E_getr (i := 0) dX10_put_19 fl_RX10_19 rfl rfl (go_10_2 _ _) ?_
      refine E_iload_n dX10_put_22 rfl rfl ?_
      refine E_iload_n dX10_put_23 rfl rfl ?_
      obtain ⟨hg0, hg1, h⟩ := h
      refine E_iast dX10_put_24 sh_1102 hg0 hg1 ?_
      refine E_aload_n dX10_put_25 rfl rfl ?_
      refine E_getr (i := 0) dX10_put_26 fl_RX10_22 rfl rfl (go_10_3 _ _) ?_
      refine E_iload_n dX10_put_29 rfl rfl ?_
      refine E_lload dX10_put_30 rfl ?_
      obtain ⟨hg0, hg1, h⟩ := h
      refine E_last dX10_put_32 sh_1103 hg0 hg1 ?_
      exact E_vret dX10_put_33 rfl ⟨rfl, rfl, h⟩
abbrev Y_X10_longer : My := (yX10_longer, cX10_longer, 3, some .long)
theorem dX10_longer_0 : decode cX10_longer 0 = .ok (.lload_n 0, 1) := by decide +kernel
theorem dX10_longer_1 : decode cX10_longer 1 = .ok (.ldc2_w 70, 3) := by decide +kernel
theorem dX10_longer_4 : decode cX10_longer 4 = .ok (.lmul, 1) := by decide +kernel
theorem dX10_longer_5 : decode cX10_longer 5 = .ok (.iload_n 2, 1) := by decide +kernel
theorem dX10_longer_6 : decode cX10_longer 6 = .ok (.i2l, 1) := by decide +kernel
theorem dX10_longer_7 : decode cX10_longer 7 = .ok (.ladd, 1) := by decide +kernel
theorem dX10_longer_8 : decode cX10_longer 8 = .ok (.ldc2_w 72, 3) := by decide +kernel
theorem dX10_longer_11 : decode cX10_longer 11 = .ok (.lsub, 1) := by decide +kernel
theorem dX10_longer_12 : decode cX10_longer 12 = .ok (.lconst 1, 1) := by decide +kernel
theorem dX10_longer_13 : decode cX10_longer 13 = .ok (.ladd, 1) := by decide +kernel
theorem dX10_longer_14 : decode cX10_longer 14 = .ok (.lreturn, 1) := by decide +kernel
theorem kl_RX10_70 : Cond.constantLong RX10 70 (32) ∈ tG := inG (i := 552) (by decide +kernel) (by decide +kernel)
theorem kl_RX10_72 : Cond.constantLong RX10 72 (97) ∈ tG := inG (i := 553) (by decide +kernel) (by decide +kernel)
def P_X10_longer  (x0 : Int) (x2 : Int) (σ : St) (Q : Int → St → Prop) : Prop :=
  Q (wj ((wj ((wj ((wj (x0 * 32)) + x2)) - 97)) + 1)) σ
set_option maxRecDepth 20000 in
set_option maxHeartbeats 2000000 in
theorem s_X10_longer   {x0 : Int} {x2 : Int} {σ : St} {Q : Int → St → Prop} (h : P_X10_longer x0 x2 σ Q) : Cn Y_X10_longer 0 0 0 ww σ [vL x0, vI x2] (QL Q) := by
  refine Cn_of [some (vL x0), none, some (vI x2)] (by decide) (Nat.le_of_ble_eq_true rfl) rfl ?_
  unfold P_X10_longer at h
  refine E_lload_n dX10_longer_0 rfl rfl ?_
  refine E_ldc2 (z := 32) dX10_longer_1 kl_RX10_70 (by decide) ?_
  refine E_lmul dX10_longer_4 ?_
  refine E_iload_n dX10_longer_5 rfl rfl ?_
  refine E_i2l dX10_longer_6 ?_
  refine E_ladd dX10_longer_7 ?_
  refine E_ldc2 (z := 97) dX10_longer_8 kl_RX10_72 (by decide) ?_
  refine E_lsub dX10_longer_11 ?_
  refine E_lc dX10_longer_12 rfl ?_
  refine E_ladd dX10_longer_13 ?_
  exact E_lret dX10_longer_14 rfl ⟨_, rfl, rfl, h⟩
abbrev Y_X10_isReserved : My := (yX10_isReserved, cX10_isReserved, 6, some .boolean)
theorem dX10_isReserved_0 : decode cX10_isReserved 0 = .ok (.lconst 0, 1) := by decide +kernel
theorem dX10_isReserved_1 : decode cX10_isReserved 1 = .ok (.lstore_n 2, 1) := by decide +kernel
theorem dX10_isReserved_2 : decode cX10_isReserved 2 = .ok (.iconst 0, 1) := by decide +kernel
theorem dX10_isReserved_3 : decode cX10_isReserved 3 = .ok (.istore 4, 2) := by decide +kernel
theorem dX10_isReserved_5 : decode cX10_isReserved 5 = .ok (.iload 4, 2) := by decide +kernel
theorem dX10_isReserved_7 : decode cX10_isReserved 7 = .ok (.ldc 74, 2) := by decide +kernel
theorem dX10_isReserved_9 : decode cX10_isReserved 9 = .ok (.invokevirtual 76, 3) := by decide +kernel
theorem dX10_isReserved_12 : decode cX10_isReserved 12 = .ok (.if_icmp .ge 45, 3) := by decide +kernel
theorem dX10_isReserved_15 : decode cX10_isReserved 15 = .ok (.ldc 74, 2) := by decide +kernel
theorem dX10_isReserved_17 : decode cX10_isReserved 17 = .ok (.iload 4, 2) := by decide +kernel
theorem dX10_isReserved_19 : decode cX10_isReserved 19 = .ok (.invokevirtual 79, 3) := by decide +kernel
theorem dX10_isReserved_22 : decode cX10_isReserved 22 = .ok (.istore 5, 2) := by decide +kernel
theorem dX10_isReserved_24 : decode cX10_isReserved 24 = .ok (.iload 5, 2) := by decide +kernel
theorem dX10_isReserved_26 : decode cX10_isReserved 26 = .ok (.bipush 32, 2) := by decide +kernel
theorem dX10_isReserved_28 : decode cX10_isReserved 28 = .ok (.if_icmp .eq 13, 3) := by decide +kernel
theorem dX10_isReserved_31 : decode cX10_isReserved 31 = .ok (.lload_n 2, 1) := by decide +kernel
theorem dX10_isReserved_32 : decode cX10_isReserved 32 = .ok (.iload 5, 2) := by decide +kernel
theorem dX10_isReserved_34 : decode cX10_isReserved 34 = .ok (.invokestatic 62, 3) := by decide +kernel
theorem dX10_isReserved_37 : decode cX10_isReserved 37 = .ok (.lstore_n 2, 1) := by decide +kernel
theorem dX10_isReserved_38 : decode cX10_isReserved 38 = .ok (.goto 13, 3) := by decide +kernel
theorem dX10_isReserved_41 : decode cX10_isReserved 41 = .ok (.lload_n 2, 1) := by decide +kernel
theorem dX10_isReserved_42 : decode cX10_isReserved 42 = .ok (.lload_n 0, 1) := by decide +kernel
theorem dX10_isReserved_43 : decode cX10_isReserved 43 = .ok (.lcmp, 1) := by decide +kernel
theorem dX10_isReserved_44 : decode cX10_isReserved 44 = .ok (.ifCond .ne 5, 3) := by decide +kernel
theorem dX10_isReserved_47 : decode cX10_isReserved 47 = .ok (.iconst 1, 1) := by decide +kernel
theorem dX10_isReserved_48 : decode cX10_isReserved 48 = .ok (.ireturn, 1) := by decide +kernel
theorem dX10_isReserved_49 : decode cX10_isReserved 49 = .ok (.lconst 0, 1) := by decide +kernel
theorem dX10_isReserved_50 : decode cX10_isReserved 50 = .ok (.lstore_n 2, 1) := by decide +kernel
theorem dX10_isReserved_51 : decode cX10_isReserved 51 = .ok (.iinc 4 1, 3) := by decide +kernel
theorem dX10_isReserved_54 : decode cX10_isReserved 54 = .ok (.goto (-49), 3) := by decide +kernel
theorem dX10_isReserved_57 : decode cX10_isReserved 57 = .ok (.iconst 0, 1) := by decide +kernel
theorem dX10_isReserved_58 : decode cX10_isReserved 58 = .ok (.ireturn, 1) := by decide +kernel
theorem lk_RX10_62 : Cond.methodLink RX10 62 yX10_longer ∈ tG := inG (i := 549) (by decide +kernel) (by decide +kernel)
theorem lk_RX10_76 : Cond.methodLink RX10 76 yJ0_length_8abf5 ∈ tG := inG (i := 660) (by decide +kernel) (by decide +kernel)
theorem lk_RX10_79 : Cond.methodLink RX10 79 yJ0_charAt_5068e ∈ tG := inG (i := 661) (by decide +kernel) (by decide +kernel)
theorem m_J0_charAt_5068e : MZ Y_J0_charAt_5068e 1 := ⟨⟨inG (i := 664) (by decide +kernel) (by decide +kernel), inG (i := 111) (by decide +kernel) (by decide +kernel), by decide, by decide, by decide, by decide +kernel⟩, inG (i := 662) (by decide +kernel) (by decide +kernel), inG (i := 663) (by decide +kernel) (by decide +kernel)⟩
theorem m_X10_longer : MS Y_X10_longer 2 := ⟨⟨inG (i := 551) (by decide +kernel) (by decide +kernel), inG (i := 99) (by decide +kernel) (by decide +kernel), by decide, by decide, by decide, by decide +kernel⟩, inG (i := 550) (by decide +kernel) (by decide +kernel)⟩
def P_X10_isReserved_L5  (x0 : Int)  (Q : Int → St → Prop) : Nat → Int → Int → St → Prop
  | 0, _, _, _ => False
  | n + 1, x2, x4, σ => P_J0_length_8abf5 2 σ (fun r_2 σ_1 => (if r_2 ≤ x4 then Q 0 σ_1 else P_J0_charAt_5068e 2 x4 σ_1 (fun r_4 σ_3 => (if r_4 = 32 then (if (lC x2 x0) = 0 then Q 1 σ_3 else (P_X10_isReserved_L5 x0 Q n) 0 (wi (x4 + 1)) σ_3) else P_X10_longer x2 r_4 σ_3 (fun r_6 σ_5 => (P_X10_isReserved_L5 x0 Q n) r_6 (wi (x4 + 1)) σ_5)))))
set_option maxRecDepth 20000 in
set_option maxHeartbeats 2000000 in
theorem e_P_X10_isReserved_L5  {x0 : Int}  {Q : Int → St → Prop}   : ∀ (n : Nat) (x2 : Int) (x4 : Int) (σ : St), P_X10_isReserved_L5 x0 Q n x2 x4 σ → E Y_X10_isReserved 4 0 0 (QI Q) ww 0 0 5 [some (vL x0), none, some (vL x2), none, some (vI x4), none] [] σ := by
  intro n
  induction n with
  | zero => intro x2 x4 σ h; exact h.elim
  | succ n hR =>
    intro x2 x4 σ h
    unfold P_X10_isReserved_L5 at h
    refine E_iload dX10_isReserved_5 rfl ?_
    refine E_lds (i := 2) dX10_isReserved_7 (List.mem_of_getElem? (i := 2) rfl) ?_
    refine E_callZ (Y' := Y_J0_length_8abf5) (as := []) (st := [vI x4]) dX10_isReserved_9 lk_RX10_76 m_J0_length_8abf5 (by decide) (by decide) (Nat.le_refl _) (Nat.le_refl _) rfl rfl (Nat.le_of_ble_eq_true rfl) (s_J0_length_8abf5 h) (fun r0 B0 σ_1 h => ?_)
    obtain ⟨r_2, rfl, rfl, h⟩ := h
    refine E_icmp_ge (tgt := 57) dX10_isReserved_12 (by decide) (fun hc => ?_) (fun hc => ?_)
    · have h := Eq.mp (if_pos hc) h
      refine E_ic dX10_isReserved_57 rfl ?_
      exact E_zret dX10_isReserved_58 rfl (by decide) ⟨_, rfl, rfl, h⟩
    · have h := Eq.mp (if_neg hc) h
      refine E_lds (i := 2) dX10_isReserved_15 (List.mem_of_getElem? (i := 2) rfl) ?_
      refine E_iload dX10_isReserved_17 rfl ?_
      refine E_callZ (Y' := Y_J0_charAt_5068e) (as := [vI x4]) (st := []) dX10_isReserved_19 lk_RX10_79 m_J0_charAt_5068e (by decide) (by decide) (Nat.le_refl _) (Nat.le_refl _) rfl rfl (Nat.le_of_ble_eq_true rfl) (s_J0_charAt_5068e h) (fun r0 B0 σ_3 h => ?_)
      obtain ⟨r_4, rfl, rfl, h⟩ := h
      refine E_istore (ls' := [some (vL x0), none, some (vL x2), none, some (vI x4), some (vI r_4)]) dX10_isReserved_22 (by decide) rfl ?_
      refine E_iload dX10_isReserved_24 rfl ?_
      refine E_bp dX10_isReserved_26 rfl ?_
      refine E_icmp_eq (tgt := 41) dX10_isReserved_28 (by decide) (fun hc => ?_) (fun hc => ?_)
      · have h := Eq.mp (if_pos hc) h
        refine E_lload_n dX10_isReserved_41 rfl rfl ?_
        refine E_lload_n dX10_isReserved_42 rfl rfl ?_
        refine E_lcmp dX10_isReserved_43 ?_
        refine E_if_ne (tgt := 49) dX10_isReserved_44 (by decide) (fun hc => ?_) (fun hc => ?_)
        · have h := Eq.mp (if_neg hc) h
          refine E_lc dX10_isReserved_49 rfl ?_
          refine E_lstore_n (ls' := [some (vL x0), none, some (vL 0), none, some (vI x4), some (vI r_4)]) dX10_isReserved_50 rfl (by decide) rfl ?_
          refine E_iinc (ls' := [some (vL x0), none, some (vL 0), none, some (vI (wi (x4 + 1))), some (vI r_4)]) dX10_isReserved_51 rfl (by decide) rfl rfl ?_
          refine E_goto (tgt := 5) dX10_isReserved_54 (by decide) ?_
          refine E_wk2 [some (vL x0), none, some (vL 0), none, some (vI (wi (x4 + 1))), none] ⟨rfl, ⟨rfl, ⟨rfl, trivial⟩⟩⟩ ?_
          exact hR _ _ _ h
        · have h := Eq.mp (if_pos hc) h
          refine E_ic dX10_isReserved_47 rfl ?_
          exact E_zret dX10_isReserved_48 rfl (by decide) ⟨_, rfl, rfl, h⟩
      · have h := Eq.mp (if_neg hc) h
        refine E_lload_n dX10_isReserved_31 rfl rfl ?_
        refine E_iload dX10_isReserved_32 rfl ?_
        refine E_callS (Y' := Y_X10_longer) (as := [vL x2, vI r_4]) (st := []) dX10_isReserved_34 lk_RX10_62 m_X10_longer (by decide) (Nat.le_refl _) (Nat.le_refl _) rfl rfl (Nat.le_of_ble_eq_true rfl) (s_X10_longer h) (fun r0 B0 σ_5 h => ?_)
        obtain ⟨r_6, rfl, rfl, h⟩ := h
        refine E_lstore_n (ls' := [some (vL x0), none, some (vL r_6), none, some (vI x4), some (vI r_4)]) dX10_isReserved_37 rfl (by decide) rfl ?_
        refine E_goto (tgt := 51) dX10_isReserved_38 (by decide) ?_
        refine E_iinc (ls' := [some (vL x0), none, some (vL r_6), none, some (vI (wi (x4 + 1))), some (vI r_4)]) dX10_isReserved_51 rfl (by decide) rfl rfl ?_
        refine E_goto (tgt := 5) dX10_isReserved_54 (by decide) ?_
        refine E_wk2 [some (vL x0), none, some (vL r_6), none, some (vI (wi (x4 + 1))), none] ⟨rfl, ⟨rfl, ⟨rfl, trivial⟩⟩⟩ ?_
        exact hR _ _ _ h
def P_X10_isReserved  (x0 : Int) (σ : St) (Q : Int → St → Prop) : Prop :=
  P_X10_isReserved_L5 x0 Q FU 0 0 σ
set_option maxRecDepth 20000 in
set_option maxHeartbeats 2000000 in
theorem s_X10_isReserved   {x0 : Int} {σ : St} {Q : Int → St → Prop} (h : P_X10_isReserved x0 σ Q) : Cn Y_X10_isReserved 4 0 0 ww σ [vL x0] (QI Q) := by
  refine Cn_of [some (vL x0), none, none, none, none, none] (by decide) (Nat.le_of_ble_eq_true rfl) rfl ?_
  unfold P_X10_isReserved at h
  refine E_lc dX10_isReserved_0 rfl ?_
  refine E_lstore_n (ls' := [some (vL x0), none, some (vL 0), none, none, none]) dX10_isReserved_1 rfl (by decide) rfl ?_
  refine E_ic dX10_isReserved_2 rfl ?_
  refine E_istore (ls' := [some (vL x0), none, some (vL 0), none, some (vI 0), none]) dX10_isReserved_3 (by decide) rfl ?_
  refine e_P_X10_isReserved_L5  _ _ _ _ h
abbrev Y_X10_isSound : My := (yX10_isSound, cX10_isSound, 1, some .boolean)
theorem dX10_isSound_0 : decode cX10_isSound 0 = .ok (.aload_n 0, 1) := by decide +kernel
theorem dX10_isSound_1 : decode cX10_isSound 1 = .ok (.getfield 33, 3) := by decide +kernel
theorem dX10_isSound_4 : decode cX10_isSound 4 = .ok (.ifCond .ne 7, 3) := by decide +kernel
theorem dX10_isSound_7 : decode cX10_isSound 7 = .ok (.iconst 1, 1) := by decide +kernel
theorem dX10_isSound_8 : decode cX10_isSound 8 = .ok (.goto 4, 3) := by decide +kernel
theorem dX10_isSound_11 : decode cX10_isSound 11 = .ok (.iconst 0, 1) := by decide +kernel
theorem dX10_isSound_12 : decode cX10_isSound 12 = .ok (.ireturn, 1) := by decide +kernel
theorem fl_RX10_33 : FL RX10 33 10 6 := ⟨inG (i := 144) (by decide +kernel) (by decide +kernel), by decide, by decide⟩
def P_X10_isSound   (σ : St) (Q : Int → St → Prop) : Prop :=
  (if (σ 10 0 6) = 0 then Q 1 σ else Q 0 σ)
set_option maxRecDepth 20000 in
set_option maxHeartbeats 2000000 in
theorem s_X10_isSound    {σ : St} {Q : Int → St → Prop} (h : P_X10_isSound  σ Q) : Cn Y_X10_isSound 0 0 0 ww σ [vR 10 0] (QI Q) := by
  refine Cn_of [some (vR 10 0)] (by decide) (Nat.le_of_ble_eq_true rfl) rfl ?_
  unfold P_X10_isSound at h
  refine E_aload_n dX10_isSound_0 rfl rfl ?_
  refine E_geti (i := 0) dX10_isSound_1 fl_RX10_33 rfl ?_
  refine E_if_ne (tgt := 11) dX10_isSound_4 (by decide) (fun hc => ?_) (fun hc => ?_)
  · have h := Eq.mp (if_neg hc) h
    refine E_ic dX10_isSound_11 rfl ?_
    exact E_zret dX10_isSound_12 rfl (by decide) ⟨_, rfl, rfl, h⟩
  · have h := Eq.mp (if_pos hc) h
    refine E_ic dX10_isSound_7 rfl ?_
    refine E_goto (tgt := 12) dX10_isSound_8 (by decide) ?_
    exact E_zret dX10_isSound_12 rfl (by decide) ⟨_, rfl, rfl, h⟩
abbrev Y_X10_goesOn : My := (yX10_goesOn, cX10_goesOn, 1, some .boolean)
theorem dX10_goesOn_0 : decode cX10_goesOn 0 = .ok (.aload_n 0, 1) := by decide +kernel
theorem dX10_goesOn_1 : decode cX10_goesOn 1 = .ok (.getfield 33, 3) := by decide +kernel
theorem dX10_goesOn_4 : decode cX10_goesOn 4 = .ok (.ifCond .ne 19, 3) := by decide +kernel
theorem dX10_goesOn_7 : decode cX10_goesOn 7 = .ok (.aload_n 0, 1) := by decide +kernel
theorem dX10_goesOn_8 : decode cX10_goesOn 8 = .ok (.getfield 15, 3) := by decide +kernel
theorem dX10_goesOn_11 : decode cX10_goesOn 11 = .ok (.aload_n 0, 1) := by decide +kernel
theorem dX10_goesOn_12 : decode cX10_goesOn 12 = .ok (.getfield 30, 3) := by decide +kernel
theorem dX10_goesOn_15 : decode cX10_goesOn 15 = .ok (.iaload, 1) := by decide +kernel
theorem dX10_goesOn_16 : decode cX10_goesOn 16 = .ok (.ifCond .eq 7, 3) := by decide +kernel
theorem dX10_goesOn_19 : decode cX10_goesOn 19 = .ok (.iconst 1, 1) := by decide +kernel
theorem dX10_goesOn_20 : decode cX10_goesOn 20 = .ok (.goto 4, 3) := by decide +kernel
theorem dX10_goesOn_23 : decode cX10_goesOn 23 = .ok (.iconst 0, 1) := by decide +kernel
theorem dX10_goesOn_24 : decode cX10_goesOn 24 = .ok (.ireturn, 1) := by decide +kernel
theorem fl_RX10_30 : FL RX10 30 10 5 := ⟨inG (i := 143) (by decide +kernel) (by decide +kernel), by decide, by decide⟩
def P_X10_goesOn_J23    (Q : Int → St → Prop) (σ : St) : Prop :=
  Q 0 σ
set_option maxRecDepth 20000 in
set_option maxHeartbeats 2000000 in
theorem e_P_X10_goesOn_J23    {Q : Int → St → Prop} {σ : St}   (h : P_X10_goesOn_J23  Q σ) : E Y_X10_goesOn 0 0 0 (QI Q) ww 0 0 23 [none] [] σ := by
  unfold P_X10_goesOn_J23 at h
  refine E_ic dX10_goesOn_23 rfl ?_
  exact E_zret dX10_goesOn_24 rfl (by decide) ⟨_, rfl, rfl, h⟩
def P_X10_goesOn   (σ : St) (Q : Int → St → Prop) : Prop :=
  (if (σ 10 0 6) = 0 then 0 ≤ σ 10 0 5 ∧ σ 10 0 5 < 1001 ∧ (if (σ 1101 0 (σ 10 0 5)) = 0 then P_X10_goesOn_J23 Q σ else Q 1 σ) else P_X10_goesOn_J23 Q σ)
set_option maxRecDepth 20000 in
set_option maxHeartbeats 2000000 in
theorem s_X10_goesOn    {σ : St} {Q : Int → St → Prop} (h : P_X10_goesOn  σ Q) : Cn Y_X10_goesOn 0 0 0 ww σ [vR 10 0] (QI Q) := by
  refine Cn_of [some (vR 10 0)] (by decide) (Nat.le_of_ble_eq_true rfl) rfl ?_
  unfold P_X10_goesOn at h
  refine E_aload_n dX10_goesOn_0 rfl rfl ?_
  refine E_geti (i := 0) dX10_goesOn_1 fl_RX10_33 rfl ?_
  refine E_if_ne (tgt := 23) dX10_goesOn_4 (by decide) (fun hc => ?_) (fun hc => ?_)
  · have h := Eq.mp (if_neg hc) h
    refine E_wk2 [none] trivial ?_
    exact e_P_X10_goesOn_J23 h
  · have h := Eq.mp (if_pos hc) h
    refine E_aload_n dX10_goesOn_7 rfl rfl ?_
    refine E_getr (i := 0) dX10_goesOn_8 fl_RX10_15 rfl rfl (go_10_1 _ _) ?_
    refine E_aload_n dX10_goesOn_11 rfl rfl ?_
    refine E_geti (i := 0) dX10_goesOn_12 fl_RX10_30 rfl ?_
    obtain ⟨hg0, hg1, h⟩ := h
    refine E_iald dX10_goesOn_15 sh_1101 hg0 hg1 ?_
    refine E_if_eq (tgt := 23) dX10_goesOn_16 (by decide) (fun hc => ?_) (fun hc => ?_)
    · have h := Eq.mp (if_pos hc) h
      refine E_wk2 [none] trivial ?_
      exact e_P_X10_goesOn_J23 h
    · have h := Eq.mp (if_neg hc) h
      refine E_ic dX10_goesOn_19 rfl ?_
      refine E_goto (tgt := 24) dX10_goesOn_20 (by decide) ?_
      exact E_zret dX10_goesOn_24 rfl (by decide) ⟨_, rfl, rfl, h⟩
abbrev Y_X10_wrong : My := (yX10_wrong, cX10_wrong, 2, none)
theorem dX10_wrong_0 : decode cX10_wrong 0 = .ok (.aload_n 0, 1) := by decide +kernel
theorem dX10_wrong_1 : decode cX10_wrong 1 = .ok (.getfield 33, 3) := by decide +kernel
theorem dX10_wrong_4 : decode cX10_wrong 4 = .ok (.ifCond .ne 21, 3) := by decide +kernel
theorem dX10_wrong_7 : decode cX10_wrong 7 = .ok (.aload_n 0, 1) := by decide +kernel
theorem dX10_wrong_8 : decode cX10_wrong 8 = .ok (.iload_n 1, 1) := by decide +kernel
theorem dX10_wrong_9 : decode cX10_wrong 9 = .ok (.bipush 16, 2) := by decide +kernel
theorem dX10_wrong_11 : decode cX10_wrong 11 = .ok (.aload_n 0, 1) := by decide +kernel
theorem dX10_wrong_12 : decode cX10_wrong 12 = .ok (.getfield 19, 3) := by decide +kernel
theorem dX10_wrong_15 : decode cX10_wrong 15 = .ok (.aload_n 0, 1) := by decide +kernel
theorem dX10_wrong_16 : decode cX10_wrong 16 = .ok (.getfield 30, 3) := by decide +kernel
theorem dX10_wrong_19 : decode cX10_wrong 19 = .ok (.iaload, 1) := by decide +kernel
theorem dX10_wrong_20 : decode cX10_wrong 20 = .ok (.imul, 1) := by decide +kernel
theorem dX10_wrong_21 : decode cX10_wrong 21 = .ok (.iadd, 1) := by decide +kernel
theorem dX10_wrong_22 : decode cX10_wrong 22 = .ok (.putfield 33, 3) := by decide +kernel
theorem dX10_wrong_25 : decode cX10_wrong 25 = .ok (.return_, 1) := by decide +kernel
def P_X10_wrong  (x1 : Int) (σ : St) (Q : St → Prop) : Prop :=
  (if (σ 10 0 6) = 0 then 0 ≤ σ 10 0 5 ∧ σ 10 0 5 < 1001 ∧ Q (up σ 10 0 6 (wi (x1 + (wi (16 * (σ 1102 0 (σ 10 0 5))))))) else Q σ)
set_option maxRecDepth 20000 in
set_option maxHeartbeats 2000000 in
theorem s_X10_wrong   {x1 : Int} {σ : St} {Q : St → Prop} (h : P_X10_wrong x1 σ Q) : Cn Y_X10_wrong 0 0 0 ww σ [vR 10 0, vI x1] (QV Q) := by
  refine Cn_of [some (vR 10 0), some (vI x1)] (by decide) (Nat.le_of_ble_eq_true rfl) rfl ?_
  unfold P_X10_wrong at h
  refine E_aload_n dX10_wrong_0 rfl rfl ?_
  refine E_geti (i := 0) dX10_wrong_1 fl_RX10_33 rfl ?_
  refine E_if_ne (tgt := 25) dX10_wrong_4 (by decide) (fun hc => ?_) (fun hc => ?_)
  · have h := Eq.mp (if_neg hc) h
    exact E_vret dX10_wrong_25 rfl ⟨rfl, rfl, h⟩
  · have h := Eq.mp (if_pos hc) h
    refine E_aload_n dX10_wrong_7 rfl rfl ?_
    refine E_iload_n dX10_wrong_8 rfl rfl ?_
    refine E_bp dX10_wrong_9 rfl ?_
    refine E_aload_n dX10_wrong_11 rfl rfl ?_
    refine E_getr (i := 0) dX10_wrong_12 fl_RX10_19 rfl rfl (go_10_2 _ _) ?_
    refine E_aload_n dX10_wrong_15 rfl rfl ?_
    refine E_geti (i := 0) dX10_wrong_16 fl_RX10_30 rfl ?_
    obtain ⟨hg0, hg1, h⟩ := h
    refine E_iald dX10_wrong_19 sh_1102 hg0 hg1 ?_
    refine E_imul dX10_wrong_20 ?_
    refine E_iadd dX10_wrong_21 ?_
    refine E_puti dX10_wrong_22 fl_RX10_33 rfl rfl rfl ?_
    exact E_vret dX10_wrong_25 rfl ⟨rfl, rfl, h⟩
abbrev Y_X10_next : My := (yX10_next, cX10_next, 1, none)
theorem dX10_next_0 : decode cX10_next 0 = .ok (.aload_n 0, 1) := by decide +kernel
theorem dX10_next_1 : decode cX10_next 1 = .ok (.invokevirtual 83, 3) := by decide +kernel
theorem dX10_next_4 : decode cX10_next 4 = .ok (.ifCond .eq 23, 3) := by decide +kernel
theorem dX10_next_7 : decode cX10_next 7 = .ok (.aload_n 0, 1) := by decide +kernel
theorem dX10_next_8 : decode cX10_next 8 = .ok (.getfield 30, 3) := by decide +kernel
theorem dX10_next_11 : decode cX10_next 11 = .ok (.sipush 1000, 3) := by decide +kernel
theorem dX10_next_14 : decode cX10_next 14 = .ok (.if_icmp .ge 13, 3) := by decide +kernel
theorem dX10_next_17 : decode cX10_next 17 = .ok (.aload_n 0, 1) := by decide +kernel
theorem dX10_next_18 : decode cX10_next 18 = .ok (.dup, 1) := by decide +kernel
theorem dX10_next_19 : decode cX10_next 19 = .ok (.getfield 30, 3) := by decide +kernel
theorem dX10_next_22 : decode cX10_next 22 = .ok (.iconst 1, 1) := by decide +kernel
theorem dX10_next_23 : decode cX10_next 23 = .ok (.iadd, 1) := by decide +kernel
theorem dX10_next_24 : decode cX10_next 24 = .ok (.putfield 30, 3) := by decide +kernel
theorem dX10_next_27 : decode cX10_next 27 = .ok (.return_, 1) := by decide +kernel
theorem lk_RX10_83 : Cond.methodLink RX10 83 yX10_goesOn ∈ tG := inG (i := 693) (by decide +kernel) (by decide +kernel)
theorem m_X10_goesOn : MV Y_X10_goesOn 0 10 := ⟨⟨inG (i := 654) (by decide +kernel) (by decide +kernel), inG (i := 99) (by decide +kernel) (by decide +kernel), by decide, by decide, by decide, by decide +kernel⟩, inG (i := 652) (by decide +kernel) (by decide +kernel), inG (i := 653) (by decide +kernel) (by decide +kernel), by decide⟩
def P_X10_next   (σ : St) (Q : St → Prop) : Prop :=
  P_X10_goesOn σ (fun r_2 σ_1 => (if r_2 = 0 then Q σ_1 else (if 1000 ≤ (σ_1 10 0 5) then Q σ_1 else Q (up σ_1 10 0 5 (wi ((σ_1 10 0 5) + 1))))))
set_option maxRecDepth 20000 in
set_option maxHeartbeats 2000000 in
theorem s_X10_next    {σ : St} {Q : St → Prop} (h : P_X10_next  σ Q) : Cn Y_X10_next 1 0 0 ww σ [vR 10 0] (QV Q) := by
  refine Cn_of [some (vR 10 0)] (by decide) (Nat.le_of_ble_eq_true rfl) rfl ?_
  unfold P_X10_next at h
  refine E_aload_n dX10_next_0 rfl rfl ?_
  refine E_callV (Y' := Y_X10_goesOn) (as := []) (st := []) dX10_next_1 lk_RX10_83 m_X10_goesOn (by decide) (Nat.le_refl _) (Nat.le_refl _) rfl rfl (Nat.le_of_ble_eq_true rfl) (s_X10_goesOn h) (fun r0 B0 σ_1 h => ?_)
  obtain ⟨r_2, rfl, rfl, h⟩ := h
  refine E_if_eq (tgt := 27) dX10_next_4 (by decide) (fun hc => ?_) (fun hc => ?_)
  · have h := Eq.mp (if_pos hc) h
    exact E_vret dX10_next_27 rfl ⟨rfl, rfl, h⟩
  · have h := Eq.mp (if_neg hc) h
    refine E_aload_n dX10_next_7 rfl rfl ?_
    refine E_geti (i := 0) dX10_next_8 fl_RX10_30 rfl ?_
    refine E_sp dX10_next_11 rfl ?_
    refine E_icmp_ge (tgt := 27) dX10_next_14 (by decide) (fun hc => ?_) (fun hc => ?_)
    · have h := Eq.mp (if_pos hc) h
      exact E_vret dX10_next_27 rfl ⟨rfl, rfl, h⟩
    · have h := Eq.mp (if_neg hc) h
      refine E_aload_n dX10_next_17 rfl rfl ?_
      refine E_dup dX10_next_18 (fun _ q => by cases q) ?_
      refine E_geti (i := 0) dX10_next_19 fl_RX10_30 rfl ?_
      refine E_ic dX10_next_22 rfl ?_
      refine E_iadd dX10_next_23 ?_
      refine E_puti dX10_next_24 fl_RX10_30 rfl rfl rfl ?_
      exact E_vret dX10_next_27 rfl ⟨rfl, rfl, h⟩
abbrev Y_X10_isWord : My := (yX10_isWord, cX10_isWord, 5, some .boolean)
theorem dX10_isWord_0 : decode cX10_isWord 0 = .ok (.lconst 0, 1) := by decide +kernel
theorem dX10_isWord_1 : decode cX10_isWord 1 = .ok (.lstore_n 2, 1) := by decide +kernel
theorem dX10_isWord_2 : decode cX10_isWord 2 = .ok (.iconst 0, 1) := by decide +kernel
theorem dX10_isWord_3 : decode cX10_isWord 3 = .ok (.istore 4, 2) := by decide +kernel
theorem dX10_isWord_5 : decode cX10_isWord 5 = .ok (.iload 4, 2) := by decide +kernel
theorem dX10_isWord_7 : decode cX10_isWord 7 = .ok (.aload_n 1, 1) := by decide +kernel
theorem dX10_isWord_8 : decode cX10_isWord 8 = .ok (.invokevirtual 76, 3) := by decide +kernel
theorem dX10_isWord_11 : decode cX10_isWord 11 = .ok (.if_icmp .ge 20, 3) := by decide +kernel
theorem dX10_isWord_14 : decode cX10_isWord 14 = .ok (.lload_n 2, 1) := by decide +kernel
theorem dX10_isWord_15 : decode cX10_isWord 15 = .ok (.aload_n 1, 1) := by decide +kernel
theorem dX10_isWord_16 : decode cX10_isWord 16 = .ok (.iload 4, 2) := by decide +kernel
theorem dX10_isWord_18 : decode cX10_isWord 18 = .ok (.invokevirtual 79, 3) := by decide +kernel
theorem dX10_isWord_21 : decode cX10_isWord 21 = .ok (.invokestatic 62, 3) := by decide +kernel
theorem dX10_isWord_24 : decode cX10_isWord 24 = .ok (.lstore_n 2, 1) := by decide +kernel
theorem dX10_isWord_25 : decode cX10_isWord 25 = .ok (.iinc 4 1, 3) := by decide +kernel
theorem dX10_isWord_28 : decode cX10_isWord 28 = .ok (.goto (-23), 3) := by decide +kernel
theorem dX10_isWord_31 : decode cX10_isWord 31 = .ok (.aload_n 0, 1) := by decide +kernel
theorem dX10_isWord_32 : decode cX10_isWord 32 = .ok (.getfield 15, 3) := by decide +kernel
theorem dX10_isWord_35 : decode cX10_isWord 35 = .ok (.aload_n 0, 1) := by decide +kernel
theorem dX10_isWord_36 : decode cX10_isWord 36 = .ok (.getfield 30, 3) := by decide +kernel
theorem dX10_isWord_39 : decode cX10_isWord 39 = .ok (.iaload, 1) := by decide +kernel
theorem dX10_isWord_40 : decode cX10_isWord 40 = .ok (.iconst 2, 1) := by decide +kernel
theorem dX10_isWord_41 : decode cX10_isWord 41 = .ok (.if_icmp .ne 21, 3) := by decide +kernel
theorem dX10_isWord_44 : decode cX10_isWord 44 = .ok (.aload_n 0, 1) := by decide +kernel
theorem dX10_isWord_45 : decode cX10_isWord 45 = .ok (.getfield 22, 3) := by decide +kernel
theorem dX10_isWord_48 : decode cX10_isWord 48 = .ok (.aload_n 0, 1) := by decide +kernel
theorem dX10_isWord_49 : decode cX10_isWord 49 = .ok (.getfield 30, 3) := by decide +kernel
theorem dX10_isWord_52 : decode cX10_isWord 52 = .ok (.laload, 1) := by decide +kernel
theorem dX10_isWord_53 : decode cX10_isWord 53 = .ok (.lload_n 2, 1) := by decide +kernel
theorem dX10_isWord_54 : decode cX10_isWord 54 = .ok (.lcmp, 1) := by decide +kernel
theorem dX10_isWord_55 : decode cX10_isWord 55 = .ok (.ifCond .ne 7, 3) := by decide +kernel
theorem dX10_isWord_58 : decode cX10_isWord 58 = .ok (.iconst 1, 1) := by decide +kernel
theorem dX10_isWord_59 : decode cX10_isWord 59 = .ok (.goto 4, 3) := by decide +kernel
theorem dX10_isWord_62 : decode cX10_isWord 62 = .ok (.iconst 0, 1) := by decide +kernel
theorem dX10_isWord_63 : decode cX10_isWord 63 = .ok (.ireturn, 1) := by decide +kernel
def P_X10_isWord_L5  (o1 : Nat) (K : Int → St → Prop) (Q : Int → St → Prop) : Nat → Int → Int → St → Prop
  | 0, _, _, _ => False
  | n + 1, x2, x4, σ => o1 < 27 ∧ P_J0_length_8abf5 o1 σ (fun r_2 σ_1 => (if r_2 ≤ x4 then K x2 σ_1 else o1 < 27 ∧ P_J0_charAt_5068e o1 x4 σ_1 (fun r_4 σ_3 => P_X10_longer x2 r_4 σ_3 (fun r_6 σ_5 => (P_X10_isWord_L5 o1 K Q n) r_6 (wi (x4 + 1)) σ_5))))
set_option maxRecDepth 20000 in
set_option maxHeartbeats 2000000 in
theorem e_P_X10_isWord_L5  {o1 : Nat} {K : Int → St → Prop} {Q : Int → St → Prop}  (hK : ∀ x2 σ, K x2 σ → E Y_X10_isWord 4 0 0 (QI Q) ww 0 0 31 [some (vR 10 0), none, some (vL x2), none, none] [] σ) : ∀ (n : Nat) (x2 : Int) (x4 : Int) (σ : St), P_X10_isWord_L5 o1 K Q n x2 x4 σ → E Y_X10_isWord 4 0 0 (QI Q) ww 0 0 5 [some (vR 10 0), some (vR 50 o1), some (vL x2), none, some (vI x4)] [] σ := by
  intro n
  induction n with
  | zero => intro x2 x4 σ h; exact h.elim
  | succ n hR =>
    intro x2 x4 σ h
    unfold P_X10_isWord_L5 at h
    refine E_iload dX10_isWord_5 rfl ?_
    refine E_aload_n dX10_isWord_7 rfl rfl ?_
    obtain ⟨hg0, h⟩ := h
    refine E_callZ (Y' := Y_J0_length_8abf5) (as := []) (st := [vI x4]) dX10_isWord_8 lk_RX10_76 m_J0_length_8abf5 hg0 (by decide) (Nat.le_refl _) (Nat.le_refl _) rfl rfl (Nat.le_of_ble_eq_true rfl) (s_J0_length_8abf5 h) (fun r0 B0 σ_1 h => ?_)
    obtain ⟨r_2, rfl, rfl, h⟩ := h
    refine E_icmp_ge (tgt := 31) dX10_isWord_11 (by decide) (fun hc => ?_) (fun hc => ?_)
    · have h := Eq.mp (if_pos hc) h
      refine E_wk2 [some (vR 10 0), none, some (vL x2), none, none] ⟨rfl, ⟨rfl, trivial⟩⟩ ?_
      exact hK _ _ h
    · have h := Eq.mp (if_neg hc) h
      refine E_lload_n dX10_isWord_14 rfl rfl ?_
      refine E_aload_n dX10_isWord_15 rfl rfl ?_
      refine E_iload dX10_isWord_16 rfl ?_
      obtain ⟨hg0, h⟩ := h
      refine E_callZ (Y' := Y_J0_charAt_5068e) (as := [vI x4]) (st := [vL x2]) dX10_isWord_18 lk_RX10_79 m_J0_charAt_5068e hg0 (by decide) (Nat.le_refl _) (Nat.le_refl _) rfl rfl (Nat.le_of_ble_eq_true rfl) (s_J0_charAt_5068e h) (fun r0 B0 σ_3 h => ?_)
      obtain ⟨r_4, rfl, rfl, h⟩ := h
      refine E_callS (Y' := Y_X10_longer) (as := [vL x2, vI r_4]) (st := []) dX10_isWord_21 lk_RX10_62 m_X10_longer (by decide) (Nat.le_refl _) (Nat.le_refl _) rfl rfl (Nat.le_of_ble_eq_true rfl) (s_X10_longer h) (fun r0 B0 σ_5 h => ?_)
      obtain ⟨r_6, rfl, rfl, h⟩ := h
      refine E_lstore_n (ls' := [some (vR 10 0), some (vR 50 o1), some (vL r_6), none, some (vI x4)]) dX10_isWord_24 rfl (by decide) rfl ?_
      refine E_iinc (ls' := [some (vR 10 0), some (vR 50 o1), some (vL r_6), none, some (vI (wi (x4 + 1)))]) dX10_isWord_25 rfl (by decide) rfl rfl ?_
      refine E_goto (tgt := 5) dX10_isWord_28 (by decide) ?_
      exact hR _ _ _ h
def P_X10_isWord_J62    (Q : Int → St → Prop) (σ : St) : Prop :=
  Q 0 σ
set_option maxRecDepth 20000 in
set_option maxHeartbeats 2000000 in
theorem e_P_X10_isWord_J62    {Q : Int → St → Prop} {σ : St}   (h : P_X10_isWord_J62  Q σ) : E Y_X10_isWord 4 0 0 (QI Q) ww 0 0 62 [none, none, none, none, none] [] σ := by
  unfold P_X10_isWord_J62 at h
  refine E_ic dX10_isWord_62 rfl ?_
  exact E_zret dX10_isWord_63 rfl (by decide) ⟨_, rfl, rfl, h⟩
def P_X10_isWord  (o1 : Nat) (σ : St) (Q : Int → St → Prop) : Prop :=
  P_X10_isWord_L5 o1 (fun x2_7 σ_8 => 0 ≤ σ_8 10 0 5 ∧ σ_8 10 0 5 < 1001 ∧ (if (σ_8 1101 0 (σ_8 10 0 5)) = 2 then 0 ≤ σ_8 10 0 5 ∧ σ_8 10 0 5 < 1001 ∧ (if (lC (σ_8 1103 0 (σ_8 10 0 5)) x2_7) = 0 then Q 1 σ_8 else P_X10_isWord_J62 Q σ_8) else P_X10_isWord_J62 Q σ_8)) Q FU 0 0 σ
set_option maxRecDepth 20000 in
set_option maxHeartbeats 2000000 in
theorem s_X10_isWord   {o1 : Nat} {σ : St} {Q : Int → St → Prop} (h : P_X10_isWord o1 σ Q) : Cn Y_X10_isWord 4 0 0 ww σ [vR 10 0, vR 50 o1] (QI Q) := by
  refine Cn_of [some (vR 10 0), some (vR 50 o1), none, none, none] (by decide) (Nat.le_of_ble_eq_true rfl) rfl ?_
  unfold P_X10_isWord at h
  refine E_lc dX10_isWord_0 rfl ?_
  refine E_lstore_n (ls' := [some (vR 10 0), some (vR 50 o1), some (vL 0), none, none]) dX10_isWord_1 rfl (by decide) rfl ?_
  refine E_ic dX10_isWord_2 rfl ?_
  refine E_istore (ls' := [some (vR 10 0), some (vR 50 o1), some (vL 0), none, some (vI 0)]) dX10_isWord_3 (by decide) rfl ?_
  refine e_P_X10_isWord_L5 ?_ _ _ _ _ h
  · intro x2_7 σ_8 h
    refine E_aload_n dX10_isWord_31 rfl rfl ?_
    refine E_getr (i := 0) dX10_isWord_32 fl_RX10_15 rfl rfl (go_10_1 _ _) ?_
    refine E_aload_n dX10_isWord_35 rfl rfl ?_
    refine E_geti (i := 0) dX10_isWord_36 fl_RX10_30 rfl ?_
    obtain ⟨hg0, hg1, h⟩ := h
    refine E_iald dX10_isWord_39 sh_1101 hg0 hg1 ?_
    refine E_ic dX10_isWord_40 rfl ?_
    refine E_icmp_ne (tgt := 62) dX10_isWord_41 (by decide) (fun hc => ?_) (fun hc => ?_)
    · have h := Eq.mp (if_neg hc) h
      refine E_wk2 [none, none, none, none, none] trivial ?_
      exact e_P_X10_isWord_J62 h
    · have h := Eq.mp (if_pos hc) h
      refine E_aload_n dX10_isWord_44 rfl rfl ?_
      refine E_getr (i := 0) dX10_isWord_45 fl_RX10_22 rfl rfl (go_10_3 _ _) ?_
      refine E_aload_n dX10_isWord_48 rfl rfl ?_
      refine E_geti (i := 0) dX10_isWord_49 fl_RX10_30 rfl ?_
      obtain ⟨hg0, hg1, h⟩ := h
      refine E_lald dX10_isWord_52 sh_1103 hg0 hg1 ?_
      refine E_lload_n dX10_isWord_53 rfl rfl ?_
      refine E_lcmp dX10_isWord_54 ?_
      refine E_if_ne (tgt := 62) dX10_isWord_55 (by decide) (fun hc => ?_) (fun hc => ?_)
      · have h := Eq.mp (if_neg hc) h
        refine E_wk2 [none, none, none, none, none] trivial ?_
        exact e_P_X10_isWord_J62 h
      · have h := Eq.mp (if_pos hc) h
        refine E_ic dX10_isWord_58 rfl ?_
        refine E_goto (tgt := 63) dX10_isWord_59 (by decide) ?_
        exact E_zret dX10_isWord_63 rfl (by decide) ⟨_, rfl, rfl, h⟩
abbrev Y_X10_isSign : My := (yX10_isSign, cX10_isSign, 2, some .boolean)
theorem dX10_isSign_0 : decode cX10_isSign 0 = .ok (.aload_n 0, 1) := by decide +kernel
theorem dX10_isSign_1 : decode cX10_isSign 1 = .ok (.getfield 15, 3) := by decide +kernel
theorem dX10_isSign_4 : decode cX10_isSign 4 = .ok (.aload_n 0, 1) := by decide +kernel
theorem dX10_isSign_5 : decode cX10_isSign 5 = .ok (.getfield 30, 3) := by decide +kernel
theorem dX10_isSign_8 : decode cX10_isSign 8 = .ok (.iaload, 1) := by decide +kernel
theorem dX10_isSign_9 : decode cX10_isSign 9 = .ok (.iconst 4, 1) := by decide +kernel
theorem dX10_isSign_10 : decode cX10_isSign 10 = .ok (.if_icmp .ne 22, 3) := by decide +kernel
theorem dX10_isSign_13 : decode cX10_isSign 13 = .ok (.aload_n 0, 1) := by decide +kernel
theorem dX10_isSign_14 : decode cX10_isSign 14 = .ok (.getfield 22, 3) := by decide +kernel
theorem dX10_isSign_17 : decode cX10_isSign 17 = .ok (.aload_n 0, 1) := by decide +kernel
theorem dX10_isSign_18 : decode cX10_isSign 18 = .ok (.getfield 30, 3) := by decide +kernel
theorem dX10_isSign_21 : decode cX10_isSign 21 = .ok (.laload, 1) := by decide +kernel
theorem dX10_isSign_22 : decode cX10_isSign 22 = .ok (.iload_n 1, 1) := by decide +kernel
theorem dX10_isSign_23 : decode cX10_isSign 23 = .ok (.i2l, 1) := by decide +kernel
theorem dX10_isSign_24 : decode cX10_isSign 24 = .ok (.lcmp, 1) := by decide +kernel
theorem dX10_isSign_25 : decode cX10_isSign 25 = .ok (.ifCond .ne 7, 3) := by decide +kernel
theorem dX10_isSign_28 : decode cX10_isSign 28 = .ok (.iconst 1, 1) := by decide +kernel
theorem dX10_isSign_29 : decode cX10_isSign 29 = .ok (.goto 4, 3) := by decide +kernel
theorem dX10_isSign_32 : decode cX10_isSign 32 = .ok (.iconst 0, 1) := by decide +kernel
theorem dX10_isSign_33 : decode cX10_isSign 33 = .ok (.ireturn, 1) := by decide +kernel
def P_X10_isSign_J32    (Q : Int → St → Prop) (σ : St) : Prop :=
  Q 0 σ
set_option maxRecDepth 20000 in
set_option maxHeartbeats 2000000 in
theorem e_P_X10_isSign_J32    {Q : Int → St → Prop} {σ : St}   (h : P_X10_isSign_J32  Q σ) : E Y_X10_isSign 0 0 0 (QI Q) ww 0 0 32 [none, none] [] σ := by
  unfold P_X10_isSign_J32 at h
  refine E_ic dX10_isSign_32 rfl ?_
  exact E_zret dX10_isSign_33 rfl (by decide) ⟨_, rfl, rfl, h⟩
def P_X10_isSign  (x1 : Int) (σ : St) (Q : Int → St → Prop) : Prop :=
  0 ≤ σ 10 0 5 ∧ σ 10 0 5 < 1001 ∧ (if (σ 1101 0 (σ 10 0 5)) = 4 then 0 ≤ σ 10 0 5 ∧ σ 10 0 5 < 1001 ∧ (if (lC (σ 1103 0 (σ 10 0 5)) x1) = 0 then Q 1 σ else P_X10_isSign_J32 Q σ) else P_X10_isSign_J32 Q σ)
set_option maxRecDepth 20000 in
set_option maxHeartbeats 2000000 in
theorem s_X10_isSign   {x1 : Int} {σ : St} {Q : Int → St → Prop} (h : P_X10_isSign x1 σ Q) : Cn Y_X10_isSign 0 0 0 ww σ [vR 10 0, vI x1] (QI Q) := by
  refine Cn_of [some (vR 10 0), some (vI x1)] (by decide) (Nat.le_of_ble_eq_true rfl) rfl ?_
  unfold P_X10_isSign at h
  refine E_aload_n dX10_isSign_0 rfl rfl ?_
  refine E_getr (i := 0) dX10_isSign_1 fl_RX10_15 rfl rfl (go_10_1 _ _) ?_
  refine E_aload_n dX10_isSign_4 rfl rfl ?_
  refine E_geti (i := 0) dX10_isSign_5 fl_RX10_30 rfl ?_
  obtain ⟨hg0, hg1, h⟩ := h
  refine E_iald dX10_isSign_8 sh_1101 hg0 hg1 ?_
  refine E_ic dX10_isSign_9 rfl ?_
  refine E_icmp_ne (tgt := 32) dX10_isSign_10 (by decide) (fun hc => ?_) (fun hc => ?_)
  · have h := Eq.mp (if_neg hc) h
    refine E_wk2 [none, none] trivial ?_
    exact e_P_X10_isSign_J32 h
  · have h := Eq.mp (if_pos hc) h
    refine E_aload_n dX10_isSign_13 rfl rfl ?_
    refine E_getr (i := 0) dX10_isSign_14 fl_RX10_22 rfl rfl (go_10_3 _ _) ?_
    refine E_aload_n dX10_isSign_17 rfl rfl ?_
    refine E_geti (i := 0) dX10_isSign_18 fl_RX10_30 rfl ?_
    obtain ⟨hg0, hg1, h⟩ := h
    refine E_lald dX10_isSign_21 sh_1103 hg0 hg1 ?_
    refine E_iload_n dX10_isSign_22 rfl rfl ?_
    refine E_i2l dX10_isSign_23 ?_
    refine E_lcmp dX10_isSign_24 ?_
    refine E_if_ne (tgt := 32) dX10_isSign_25 (by decide) (fun hc => ?_) (fun hc => ?_)
    · have h := Eq.mp (if_neg hc) h
      refine E_wk2 [none, none] trivial ?_
      exact e_P_X10_isSign_J32 h
    · have h := Eq.mp (if_pos hc) h
      refine E_ic dX10_isSign_28 rfl ?_
      refine E_goto (tgt := 33) dX10_isSign_29 (by decide) ?_
      exact E_zret dX10_isSign_33 rfl (by decide) ⟨_, rfl, rfl, h⟩
abbrev Y_X10_isNumber : My := (yX10_isNumber, cX10_isNumber, 1, some .boolean)
theorem dX10_isNumber_0 : decode cX10_isNumber 0 = .ok (.aload_n 0, 1) := by decide +kernel
theorem dX10_isNumber_1 : decode cX10_isNumber 1 = .ok (.getfield 15, 3) := by decide +kernel
theorem dX10_isNumber_4 : decode cX10_isNumber 4 = .ok (.aload_n 0, 1) := by decide +kernel
theorem dX10_isNumber_5 : decode cX10_isNumber 5 = .ok (.getfield 30, 3) := by decide +kernel
theorem dX10_isNumber_8 : decode cX10_isNumber 8 = .ok (.iaload, 1) := by decide +kernel
theorem dX10_isNumber_9 : decode cX10_isNumber 9 = .ok (.iconst 3, 1) := by decide +kernel
theorem dX10_isNumber_10 : decode cX10_isNumber 10 = .ok (.if_icmp .ne 7, 3) := by decide +kernel
theorem dX10_isNumber_13 : decode cX10_isNumber 13 = .ok (.iconst 1, 1) := by decide +kernel
theorem dX10_isNumber_14 : decode cX10_isNumber 14 = .ok (.goto 4, 3) := by decide +kernel
theorem dX10_isNumber_17 : decode cX10_isNumber 17 = .ok (.iconst 0, 1) := by decide +kernel
theorem dX10_isNumber_18 : decode cX10_isNumber 18 = .ok (.ireturn, 1) := by decide +kernel
def P_X10_isNumber   (σ : St) (Q : Int → St → Prop) : Prop :=
  0 ≤ σ 10 0 5 ∧ σ 10 0 5 < 1001 ∧ (if (σ 1101 0 (σ 10 0 5)) = 3 then Q 1 σ else Q 0 σ)
set_option maxRecDepth 20000 in
set_option maxHeartbeats 2000000 in
theorem s_X10_isNumber    {σ : St} {Q : Int → St → Prop} (h : P_X10_isNumber  σ Q) : Cn Y_X10_isNumber 0 0 0 ww σ [vR 10 0] (QI Q) := by
  refine Cn_of [some (vR 10 0)] (by decide) (Nat.le_of_ble_eq_true rfl) rfl ?_
  unfold P_X10_isNumber at h
  refine E_aload_n dX10_isNumber_0 rfl rfl ?_
  refine E_getr (i := 0) dX10_isNumber_1 fl_RX10_15 rfl rfl (go_10_1 _ _) ?_
  refine E_aload_n dX10_isNumber_4 rfl rfl ?_
  refine E_geti (i := 0) dX10_isNumber_5 fl_RX10_30 rfl ?_
  obtain ⟨hg0, hg1, h⟩ := h
  refine E_iald dX10_isNumber_8 sh_1101 hg0 hg1 ?_
  refine E_ic dX10_isNumber_9 rfl ?_
  refine E_icmp_ne (tgt := 17) dX10_isNumber_10 (by decide) (fun hc => ?_) (fun hc => ?_)
  · have h := Eq.mp (if_neg hc) h
    refine E_ic dX10_isNumber_17 rfl ?_
    exact E_zret dX10_isNumber_18 rfl (by decide) ⟨_, rfl, rfl, h⟩
  · have h := Eq.mp (if_pos hc) h
    refine E_ic dX10_isNumber_13 rfl ?_
    refine E_goto (tgt := 18) dX10_isNumber_14 (by decide) ?_
    exact E_zret dX10_isNumber_18 rfl (by decide) ⟨_, rfl, rfl, h⟩
abbrev Y_X10_isName : My := (yX10_isName, cX10_isName, 1, some .boolean)
theorem dX10_isName_0 : decode cX10_isName 0 = .ok (.aload_n 0, 1) := by decide +kernel
theorem dX10_isName_1 : decode cX10_isName 1 = .ok (.getfield 15, 3) := by decide +kernel
theorem dX10_isName_4 : decode cX10_isName 4 = .ok (.aload_n 0, 1) := by decide +kernel
theorem dX10_isName_5 : decode cX10_isName 5 = .ok (.getfield 30, 3) := by decide +kernel
theorem dX10_isName_8 : decode cX10_isName 8 = .ok (.iaload, 1) := by decide +kernel
theorem dX10_isName_9 : decode cX10_isName 9 = .ok (.iconst 2, 1) := by decide +kernel
theorem dX10_isName_10 : decode cX10_isName 10 = .ok (.if_icmp .ne 22, 3) := by decide +kernel
theorem dX10_isName_13 : decode cX10_isName 13 = .ok (.aload_n 0, 1) := by decide +kernel
theorem dX10_isName_14 : decode cX10_isName 14 = .ok (.getfield 22, 3) := by decide +kernel
theorem dX10_isName_17 : decode cX10_isName 17 = .ok (.aload_n 0, 1) := by decide +kernel
theorem dX10_isName_18 : decode cX10_isName 18 = .ok (.getfield 30, 3) := by decide +kernel
theorem dX10_isName_21 : decode cX10_isName 21 = .ok (.laload, 1) := by decide +kernel
theorem dX10_isName_22 : decode cX10_isName 22 = .ok (.invokestatic 87, 3) := by decide +kernel
theorem dX10_isName_25 : decode cX10_isName 25 = .ok (.ifCond .ne 7, 3) := by decide +kernel
theorem dX10_isName_28 : decode cX10_isName 28 = .ok (.iconst 1, 1) := by decide +kernel
theorem dX10_isName_29 : decode cX10_isName 29 = .ok (.goto 4, 3) := by decide +kernel
theorem dX10_isName_32 : decode cX10_isName 32 = .ok (.iconst 0, 1) := by decide +kernel
theorem dX10_isName_33 : decode cX10_isName 33 = .ok (.ireturn, 1) := by decide +kernel
theorem lk_RX10_87 : Cond.methodLink RX10 87 yX10_isReserved ∈ tG := inG (i := 706) (by decide +kernel) (by decide +kernel)
theorem m_X10_isReserved : MS Y_X10_isReserved 1 := ⟨⟨inG (i := 708) (by decide +kernel) (by decide +kernel), inG (i := 99) (by decide +kernel) (by decide +kernel), by decide, by decide, by decide, by decide +kernel⟩, inG (i := 707) (by decide +kernel) (by decide +kernel)⟩
def P_X10_isName_J32    (Q : Int → St → Prop) (σ : St) : Prop :=
  Q 0 σ
set_option maxRecDepth 20000 in
set_option maxHeartbeats 2000000 in
theorem e_P_X10_isName_J32    {Q : Int → St → Prop} {σ : St}   (h : P_X10_isName_J32  Q σ) : E Y_X10_isName 5 0 0 (QI Q) ww 0 0 32 [none] [] σ := by
  unfold P_X10_isName_J32 at h
  refine E_ic dX10_isName_32 rfl ?_
  exact E_zret dX10_isName_33 rfl (by decide) ⟨_, rfl, rfl, h⟩
def P_X10_isName   (σ : St) (Q : Int → St → Prop) : Prop :=
  0 ≤ σ 10 0 5 ∧ σ 10 0 5 < 1001 ∧ (if (σ 1101 0 (σ 10 0 5)) = 2 then 0 ≤ σ 10 0 5 ∧ σ 10 0 5 < 1001 ∧ P_X10_isReserved (σ 1103 0 (σ 10 0 5)) σ (fun r_2 σ_1 => (if r_2 = 0 then Q 1 σ_1 else P_X10_isName_J32 Q σ_1)) else P_X10_isName_J32 Q σ)
set_option maxRecDepth 20000 in
set_option maxHeartbeats 2000000 in
theorem s_X10_isName    {σ : St} {Q : Int → St → Prop} (h : P_X10_isName  σ Q) : Cn Y_X10_isName 5 0 0 ww σ [vR 10 0] (QI Q) := by
  refine Cn_of [some (vR 10 0)] (by decide) (Nat.le_of_ble_eq_true rfl) rfl ?_
  unfold P_X10_isName at h
  refine E_aload_n dX10_isName_0 rfl rfl ?_
  refine E_getr (i := 0) dX10_isName_1 fl_RX10_15 rfl rfl (go_10_1 _ _) ?_
  refine E_aload_n dX10_isName_4 rfl rfl ?_
  refine E_geti (i := 0) dX10_isName_5 fl_RX10_30 rfl ?_
  obtain ⟨hg0, hg1, h⟩ := h
  refine E_iald dX10_isName_8 sh_1101 hg0 hg1 ?_
  refine E_ic dX10_isName_9 rfl ?_
  refine E_icmp_ne (tgt := 32) dX10_isName_10 (by decide) (fun hc => ?_) (fun hc => ?_)
  · have h := Eq.mp (if_neg hc) h
    refine E_wk2 [none] trivial ?_
    exact e_P_X10_isName_J32 h
  · have h := Eq.mp (if_pos hc) h
    refine E_aload_n dX10_isName_13 rfl rfl ?_
    refine E_getr (i := 0) dX10_isName_14 fl_RX10_22 rfl rfl (go_10_3 _ _) ?_
    refine E_aload_n dX10_isName_17 rfl rfl ?_
    refine E_geti (i := 0) dX10_isName_18 fl_RX10_30 rfl ?_
    obtain ⟨hg0, hg1, h⟩ := h
    refine E_lald dX10_isName_21 sh_1103 hg0 hg1 ?_
    refine E_callS (Y' := Y_X10_isReserved) (as := [vL (σ 1103 0 (σ 10 0 5))]) (st := []) dX10_isName_22 lk_RX10_87 m_X10_isReserved (by decide) (Nat.le_refl _) (Nat.le_refl _) rfl rfl (Nat.le_of_ble_eq_true rfl) (s_X10_isReserved h) (fun r0 B0 σ_1 h => ?_)
    obtain ⟨r_2, rfl, rfl, h⟩ := h
    refine E_if_ne (tgt := 32) dX10_isName_25 (by decide) (fun hc => ?_) (fun hc => ?_)
    · have h := Eq.mp (if_neg hc) h
      refine E_wk2 [none] trivial ?_
      exact e_P_X10_isName_J32 h
    · have h := Eq.mp (if_pos hc) h
      refine E_ic dX10_isName_28 rfl ?_
      refine E_goto (tgt := 33) dX10_isName_29 (by decide) ?_
      exact E_zret dX10_isName_33 rfl (by decide) ⟨_, rfl, rfl, h⟩
abbrev Y_X10_value : My := (yX10_value, cX10_value, 1, some .long)
theorem dX10_value_0 : decode cX10_value 0 = .ok (.aload_n 0, 1) := by decide +kernel
theorem dX10_value_1 : decode cX10_value 1 = .ok (.getfield 22, 3) := by decide +kernel
theorem dX10_value_4 : decode cX10_value 4 = .ok (.aload_n 0, 1) := by decide +kernel
theorem dX10_value_5 : decode cX10_value 5 = .ok (.getfield 30, 3) := by decide +kernel
theorem dX10_value_8 : decode cX10_value 8 = .ok (.laload, 1) := by decide +kernel
theorem dX10_value_9 : decode cX10_value 9 = .ok (.lreturn, 1) := by decide +kernel
def P_X10_value   (σ : St) (Q : Int → St → Prop) : Prop :=
  0 ≤ σ 10 0 5 ∧ σ 10 0 5 < 1001 ∧ Q (σ 1103 0 (σ 10 0 5)) σ
set_option maxRecDepth 20000 in
set_option maxHeartbeats 2000000 in
theorem s_X10_value    {σ : St} {Q : Int → St → Prop} (h : P_X10_value  σ Q) : Cn Y_X10_value 0 0 0 ww σ [vR 10 0] (QL Q) := by
  refine Cn_of [some (vR 10 0)] (by decide) (Nat.le_of_ble_eq_true rfl) rfl ?_
  unfold P_X10_value at h
  refine E_aload_n dX10_value_0 rfl rfl ?_
  refine E_getr (i := 0) dX10_value_1 fl_RX10_22 rfl rfl (go_10_3 _ _) ?_
  refine E_aload_n dX10_value_4 rfl rfl ?_
  refine E_geti (i := 0) dX10_value_5 fl_RX10_30 rfl ?_
  obtain ⟨hg0, hg1, h⟩ := h
  refine E_lald dX10_value_8 sh_1103 hg0 hg1 ?_
  exact E_lret dX10_value_9 rfl ⟨_, rfl, rfl, h⟩
abbrev Y_X10_takeWord : My := (yX10_takeWord, cX10_takeWord, 2, none)
theorem dX10_takeWord_0 : decode cX10_takeWord 0 = .ok (.aload_n 0, 1) := by decide +kernel
theorem dX10_takeWord_1 : decode cX10_takeWord 1 = .ok (.aload_n 1, 1) := by decide +kernel
theorem dX10_takeWord_2 : decode cX10_takeWord 2 = .ok (.invokevirtual 91, 3) := by decide +kernel
theorem dX10_takeWord_5 : decode cX10_takeWord 5 = .ok (.ifCond .eq 10, 3) := by decide +kernel
theorem dX10_takeWord_8 : decode cX10_takeWord 8 = .ok (.aload_n 0, 1) := by decide +kernel
theorem dX10_takeWord_9 : decode cX10_takeWord 9 = .ok (.invokevirtual 95, 3) := by decide +kernel
theorem dX10_takeWord_12 : decode cX10_takeWord 12 = .ok (.goto 8, 3) := by decide +kernel
theorem dX10_takeWord_15 : decode cX10_takeWord 15 = .ok (.aload_n 0, 1) := by decide +kernel
theorem dX10_takeWord_16 : decode cX10_takeWord 16 = .ok (.iconst 1, 1) := by decide +kernel
theorem dX10_takeWord_17 : decode cX10_takeWord 17 = .ok (.invokevirtual 98, 3) := by decide +kernel
theorem dX10_takeWord_20 : decode cX10_takeWord 20 = .ok (.return_, 1) := by decide +kernel
theorem lk_RX10_91 : Cond.methodLink RX10 91 yX10_isWord ∈ tG := inG (i := 722) (by decide +kernel) (by decide +kernel)
theorem lk_RX10_95 : Cond.methodLink RX10 95 yX10_next ∈ tG := inG (i := 723) (by decide +kernel) (by decide +kernel)
theorem lk_RX10_98 : Cond.methodLink RX10 98 yX10_wrong ∈ tG := inG (i := 724) (by decide +kernel) (by decide +kernel)
theorem m_X10_isWord : MV Y_X10_isWord 1 10 := ⟨⟨inG (i := 659) (by decide +kernel) (by decide +kernel), inG (i := 99) (by decide +kernel) (by decide +kernel), by decide, by decide, by decide, by decide +kernel⟩, inG (i := 657) (by decide +kernel) (by decide +kernel), inG (i := 658) (by decide +kernel) (by decide +kernel), by decide⟩
theorem m_X10_next : MV Y_X10_next 0 10 := ⟨⟨inG (i := 692) (by decide +kernel) (by decide +kernel), inG (i := 99) (by decide +kernel) (by decide +kernel), by decide, by decide, by decide, by decide +kernel⟩, inG (i := 690) (by decide +kernel) (by decide +kernel), inG (i := 691) (by decide +kernel) (by decide +kernel), by decide⟩
theorem m_X10_wrong : MV Y_X10_wrong 1 10 := ⟨⟨inG (i := 688) (by decide +kernel) (by decide +kernel), inG (i := 99) (by decide +kernel) (by decide +kernel), by decide, by decide, by decide, by decide +kernel⟩, inG (i := 686) (by decide +kernel) (by decide +kernel), inG (i := 687) (by decide +kernel) (by decide +kernel), by decide⟩
def P_X10_takeWord  (o1 : Nat) (σ : St) (Q : St → Prop) : Prop :=
  P_X10_isWord o1 σ (fun r_2 σ_1 => (if r_2 = 0 then P_X10_wrong 1 σ_1 (fun σ_3 => Q σ_3) else P_X10_next σ_1 (fun σ_4 => Q σ_4)))
set_option maxRecDepth 20000 in
set_option maxHeartbeats 2000000 in
theorem s_X10_takeWord   {o1 : Nat} {σ : St} {Q : St → Prop} (h : P_X10_takeWord o1 σ Q) : Cn Y_X10_takeWord 5 0 0 ww σ [vR 10 0, vR 50 o1] (QV Q) := by
  refine Cn_of [some (vR 10 0), some (vR 50 o1)] (by decide) (Nat.le_of_ble_eq_true rfl) rfl ?_
  unfold P_X10_takeWord at h
  refine E_aload_n dX10_takeWord_0 rfl rfl ?_
  refine E_aload_n dX10_takeWord_1 rfl rfl ?_
  refine E_callV (Y' := Y_X10_isWord) (as := [vR 50 o1]) (st := []) dX10_takeWord_2 lk_RX10_91 m_X10_isWord (by decide) (Nat.le_refl _) (Nat.le_refl _) rfl rfl (Nat.le_of_ble_eq_true rfl) (s_X10_isWord h) (fun r0 B0 σ_1 h => ?_)
  obtain ⟨r_2, rfl, rfl, h⟩ := h
  refine E_if_eq (tgt := 15) dX10_takeWord_5 (by decide) (fun hc => ?_) (fun hc => ?_)
  · have h := Eq.mp (if_pos hc) h
    refine E_aload_n dX10_takeWord_15 rfl rfl ?_
    refine E_ic dX10_takeWord_16 rfl ?_
    refine E_callV (Y' := Y_X10_wrong) (as := [vI 1]) (st := []) dX10_takeWord_17 lk_RX10_98 m_X10_wrong (by decide) (Nat.le_refl _) (Nat.le_refl _) rfl rfl (Nat.le_of_ble_eq_true rfl) (s_X10_wrong h) (fun r0 B0 σ_3 h => ?_)
    obtain ⟨rfl, rfl, h⟩ := h
    exact E_vret dX10_takeWord_20 rfl ⟨rfl, rfl, h⟩
  · have h := Eq.mp (if_neg hc) h
    refine E_aload_n dX10_takeWord_8 rfl rfl ?_
    refine E_callV (Y' := Y_X10_next) (as := []) (st := []) dX10_takeWord_9 lk_RX10_95 m_X10_next (by decide) (Nat.le_refl _) (Nat.le_refl _) rfl rfl (Nat.le_of_ble_eq_true rfl) (s_X10_next h) (fun r0 B0 σ_4 h => ?_)
    obtain ⟨rfl, rfl, h⟩ := h
    refine E_goto (tgt := 20) dX10_takeWord_12 (by decide) ?_
    exact E_vret dX10_takeWord_20 rfl ⟨rfl, rfl, h⟩
abbrev Y_X10_takeSign : My := (yX10_takeSign, cX10_takeSign, 2, none)
theorem dX10_takeSign_0 : decode cX10_takeSign 0 = .ok (.aload_n 0, 1) := by decide +kernel
theorem dX10_takeSign_1 : decode cX10_takeSign 1 = .ok (.iload_n 1, 1) := by decide +kernel
theorem dX10_takeSign_2 : decode cX10_takeSign 2 = .ok (.invokevirtual 102, 3) := by decide +kernel
theorem dX10_takeSign_5 : decode cX10_takeSign 5 = .ok (.ifCond .eq 10, 3) := by decide +kernel
theorem dX10_takeSign_8 : decode cX10_takeSign 8 = .ok (.aload_n 0, 1) := by decide +kernel
theorem dX10_takeSign_9 : decode cX10_takeSign 9 = .ok (.invokevirtual 95, 3) := by decide +kernel
theorem dX10_takeSign_12 : decode cX10_takeSign 12 = .ok (.goto 8, 3) := by decide +kernel
theorem dX10_takeSign_15 : decode cX10_takeSign 15 = .ok (.aload_n 0, 1) := by decide +kernel
theorem dX10_takeSign_16 : decode cX10_takeSign 16 = .ok (.iconst 1, 1) := by decide +kernel
theorem dX10_takeSign_17 : decode cX10_takeSign 17 = .ok (.invokevirtual 98, 3) := by decide +kernel
theorem dX10_takeSign_20 : decode cX10_takeSign 20 = .ok (.return_, 1) := by decide +kernel
theorem lk_RX10_102 : Cond.methodLink RX10 102 yX10_isSign ∈ tG := inG (i := 829) (by decide +kernel) (by decide +kernel)
theorem m_X10_isSign : MV Y_X10_isSign 1 10 := ⟨⟨inG (i := 820) (by decide +kernel) (by decide +kernel), inG (i := 99) (by decide +kernel) (by decide +kernel), by decide, by decide, by decide, by decide +kernel⟩, inG (i := 818) (by decide +kernel) (by decide +kernel), inG (i := 819) (by decide +kernel) (by decide +kernel), by decide⟩
def P_X10_takeSign  (x1 : Int) (σ : St) (Q : St → Prop) : Prop :=
  P_X10_isSign x1 σ (fun r_2 σ_1 => (if r_2 = 0 then P_X10_wrong 1 σ_1 (fun σ_3 => Q σ_3) else P_X10_next σ_1 (fun σ_4 => Q σ_4)))
set_option maxRecDepth 20000 in
set_option maxHeartbeats 2000000 in
theorem s_X10_takeSign   {x1 : Int} {σ : St} {Q : St → Prop} (h : P_X10_takeSign x1 σ Q) : Cn Y_X10_takeSign 2 0 0 ww σ [vR 10 0, vI x1] (QV Q) := by
  refine Cn_of [some (vR 10 0), some (vI x1)] (by decide) (Nat.le_of_ble_eq_true rfl) rfl ?_
  unfold P_X10_takeSign at h
  refine E_aload_n dX10_takeSign_0 rfl rfl ?_
  refine E_iload_n dX10_takeSign_1 rfl rfl ?_
  refine E_callV (Y' := Y_X10_isSign) (as := [vI x1]) (st := []) dX10_takeSign_2 lk_RX10_102 m_X10_isSign (by decide) (Nat.le_refl _) (Nat.le_refl _) rfl rfl (Nat.le_of_ble_eq_true rfl) (s_X10_isSign h) (fun r0 B0 σ_1 h => ?_)
  obtain ⟨r_2, rfl, rfl, h⟩ := h
  refine E_if_eq (tgt := 15) dX10_takeSign_5 (by decide) (fun hc => ?_) (fun hc => ?_)
  · have h := Eq.mp (if_pos hc) h
    refine E_aload_n dX10_takeSign_15 rfl rfl ?_
    refine E_ic dX10_takeSign_16 rfl ?_
    refine E_callV (Y' := Y_X10_wrong) (as := [vI 1]) (st := []) dX10_takeSign_17 lk_RX10_98 m_X10_wrong (by decide) (Nat.le_refl _) (Nat.le_refl _) rfl rfl (Nat.le_of_ble_eq_true rfl) (s_X10_wrong h) (fun r0 B0 σ_3 h => ?_)
    obtain ⟨rfl, rfl, h⟩ := h
    exact E_vret dX10_takeSign_20 rfl ⟨rfl, rfl, h⟩
  · have h := Eq.mp (if_neg hc) h
    refine E_aload_n dX10_takeSign_8 rfl rfl ?_
    refine E_callV (Y' := Y_X10_next) (as := []) (st := []) dX10_takeSign_9 lk_RX10_95 m_X10_next (by decide) (Nat.le_refl _) (Nat.le_refl _) rfl rfl (Nat.le_of_ble_eq_true rfl) (s_X10_next h) (fun r0 B0 σ_4 h => ?_)
    obtain ⟨rfl, rfl, h⟩ := h
    refine E_goto (tgt := 20) dX10_takeSign_12 (by decide) ?_
    exact E_vret dX10_takeSign_20 rfl ⟨rfl, rfl, h⟩
abbrev Y_X10_indexOf : My := (yX10_indexOf, cX10_indexOf, 5, some .int)
theorem dX10_indexOf_0 : decode cX10_indexOf 0 = .ok (.iconst 0, 1) := by decide +kernel
theorem dX10_indexOf_1 : decode cX10_indexOf 1 = .ok (.istore 4, 2) := by decide +kernel
theorem dX10_indexOf_3 : decode cX10_indexOf 3 = .ok (.iload 4, 2) := by decide +kernel
theorem dX10_indexOf_5 : decode cX10_indexOf 5 = .ok (.iload_n 1, 1) := by decide +kernel
theorem dX10_indexOf_6 : decode cX10_indexOf 6 = .ok (.if_icmp .ge 28, 3) := by decide +kernel
theorem dX10_indexOf_9 : decode cX10_indexOf 9 = .ok (.iload 4, 2) := by decide +kernel
theorem dX10_indexOf_11 : decode cX10_indexOf 11 = .ok (.aload_n 0, 1) := by decide +kernel
theorem dX10_indexOf_12 : decode cX10_indexOf 12 = .ok (.arraylength, 1) := by decide +kernel
theorem dX10_indexOf_13 : decode cX10_indexOf 13 = .ok (.if_icmp .ge 21, 3) := by decide +kernel
theorem dX10_indexOf_16 : decode cX10_indexOf 16 = .ok (.aload_n 0, 1) := by decide +kernel
theorem dX10_indexOf_17 : decode cX10_indexOf 17 = .ok (.iload 4, 2) := by decide +kernel
theorem dX10_indexOf_19 : decode cX10_indexOf 19 = .ok (.laload, 1) := by decide +kernel
theorem dX10_indexOf_20 : decode cX10_indexOf 20 = .ok (.lload_n 2, 1) := by decide +kernel
theorem dX10_indexOf_21 : decode cX10_indexOf 21 = .ok (.lcmp, 1) := by decide +kernel
theorem dX10_indexOf_22 : decode cX10_indexOf 22 = .ok (.ifCond .ne 6, 3) := by decide +kernel
theorem dX10_indexOf_25 : decode cX10_indexOf 25 = .ok (.iload 4, 2) := by decide +kernel
theorem dX10_indexOf_27 : decode cX10_indexOf 27 = .ok (.ireturn, 1) := by decide +kernel
theorem dX10_indexOf_28 : decode cX10_indexOf 28 = .ok (.iinc 4 1, 3) := by decide +kernel
theorem dX10_indexOf_31 : decode cX10_indexOf 31 = .ok (.goto (-28), 3) := by decide +kernel
theorem dX10_indexOf_34 : decode cX10_indexOf 34 = .ok (.iconst (-1), 1) := by decide +kernel
theorem dX10_indexOf_35 : decode cX10_indexOf 35 = .ok (.ireturn, 1) := by decide +kernel
def P_X10_indexOf_L3  (t0 : Nat) (o0 : Nat) (x1 : Int) (x2 : Int)  (Q : Int → St → Prop) : Nat → Int → St → Prop
  | 0, _, _ => False
  | n + 1, x4, σ => (if x1 ≤ x4 then Q (-1) σ else (shp t0).1 = 1 ∧ (shp t0).2 < 2147483648 ∧ (if ((shp t0).2 : Int) ≤ x4 then Q (-1) σ else (shp t0).1 = 1 ∧ 0 ≤ x4 ∧ x4 < ((shp t0).2 : Int) ∧ (if (lC (σ t0 o0 x4) x2) = 0 then Q x4 σ else (P_X10_indexOf_L3 t0 o0 x1 x2 Q n) (wi (x4 + 1)) σ)))
set_option maxRecDepth 20000 in
set_option maxHeartbeats 2000000 in
theorem e_P_X10_indexOf_L3  {t0 : Nat} {o0 : Nat} {x1 : Int} {x2 : Int}  {Q : Int → St → Prop}   : ∀ (n : Nat) (x4 : Int) (σ : St), P_X10_indexOf_L3 t0 o0 x1 x2 Q n x4 σ → E Y_X10_indexOf 0 0 0 (QI Q) ww 0 0 3 [some (vR t0 o0), some (vI x1), some (vL x2), none, some (vI x4)] [] σ := by
  intro n
  induction n with
  | zero => intro x4 σ h; exact h.elim
  | succ n hR =>
    intro x4 σ h
    unfold P_X10_indexOf_L3 at h
    refine E_iload dX10_indexOf_3 rfl ?_
    refine E_iload_n dX10_indexOf_5 rfl rfl ?_
    refine E_icmp_ge (tgt := 34) dX10_indexOf_6 (by decide) (fun hc => ?_) (fun hc => ?_)
    · have h := Eq.mp (if_pos hc) h
      refine E_ic dX10_indexOf_34 rfl ?_
      exact E_iret dX10_indexOf_35 rfl ⟨_, rfl, rfl, h⟩
    · have h := Eq.mp (if_neg hc) h
      refine E_iload dX10_indexOf_9 rfl ?_
      refine E_aload_n dX10_indexOf_11 rfl rfl ?_
      obtain ⟨hg0, hg1, h⟩ := h
      refine E_alen dX10_indexOf_12 (Prod.ext hg0 rfl) (by decide) hg1 ?_
      refine E_icmp_ge (tgt := 34) dX10_indexOf_13 (by decide) (fun hc => ?_) (fun hc => ?_)
      · have h := Eq.mp (if_pos hc) h
        refine E_ic dX10_indexOf_34 rfl ?_
        exact E_iret dX10_indexOf_35 rfl ⟨_, rfl, rfl, h⟩
      · have h := Eq.mp (if_neg hc) h
        refine E_aload_n dX10_indexOf_16 rfl rfl ?_
        refine E_iload dX10_indexOf_17 rfl ?_
        obtain ⟨hg0, hg1, hg2, h⟩ := h
        refine E_lald dX10_indexOf_19 (Prod.ext hg0 rfl) hg1 hg2 ?_
        refine E_lload_n dX10_indexOf_20 rfl rfl ?_
        refine E_lcmp dX10_indexOf_21 ?_
        refine E_if_ne (tgt := 28) dX10_indexOf_22 (by decide) (fun hc => ?_) (fun hc => ?_)
        · have h := Eq.mp (if_neg hc) h
          refine E_iinc (ls' := [some (vR t0 o0), some (vI x1), some (vL x2), none, some (vI (wi (x4 + 1)))]) dX10_indexOf_28 rfl (by decide) rfl rfl ?_
          refine E_goto (tgt := 3) dX10_indexOf_31 (by decide) ?_
          exact hR _ _ h
        · have h := Eq.mp (if_pos hc) h
          refine E_iload dX10_indexOf_25 rfl ?_
          exact E_iret dX10_indexOf_27 rfl ⟨_, rfl, rfl, h⟩
def P_X10_indexOf  (t0 : Nat) (o0 : Nat) (x1 : Int) (x2 : Int) (σ : St) (Q : Int → St → Prop) : Prop :=
  P_X10_indexOf_L3 t0 o0 x1 x2 Q FU 0 σ
set_option maxRecDepth 20000 in
set_option maxHeartbeats 2000000 in
theorem s_X10_indexOf   {t0 : Nat} {o0 : Nat} {x1 : Int} {x2 : Int} {σ : St} {Q : Int → St → Prop} (h : P_X10_indexOf t0 o0 x1 x2 σ Q) : Cn Y_X10_indexOf 0 0 0 ww σ [vR t0 o0, vI x1, vL x2] (QI Q) := by
  refine Cn_of [some (vR t0 o0), some (vI x1), some (vL x2), none, none] (by decide) (Nat.le_of_ble_eq_true rfl) rfl ?_
  unfold P_X10_indexOf at h
  refine E_ic dX10_indexOf_0 rfl ?_
  refine E_istore (ls' := [some (vR t0 o0), some (vI x1), some (vL x2), none, some (vI 0)]) dX10_indexOf_1 (by decide) rfl ?_
  refine e_P_X10_indexOf_L3  _ _ _ h
abbrev Y_X11_counter : My := (yX11_counter, cX11_counter, 3, some .int)
theorem dX11_counter_0 : decode cX11_counter 0 = .ok (.aload_n 0, 1) := by decide +kernel
theorem dX11_counter_1 : decode cX11_counter 1 = .ok (.getfield 19, 3) := by decide +kernel
theorem dX11_counter_4 : decode cX11_counter 4 = .ok (.iload_n 1, 1) := by decide +kernel
theorem dX11_counter_5 : decode cX11_counter 5 = .ok (.invokevirtual 128, 3) := by decide +kernel
theorem dX11_counter_8 : decode cX11_counter 8 = .ok (.ifCond .ne 5, 3) := by decide +kernel
theorem dX11_counter_11 : decode cX11_counter 11 = .ok (.iconst (-1), 1) := by decide +kernel
theorem dX11_counter_12 : decode cX11_counter 12 = .ok (.ireturn, 1) := by decide +kernel
theorem dX11_counter_13 : decode cX11_counter 13 = .ok (.iload_n 2, 1) := by decide +kernel
theorem dX11_counter_14 : decode cX11_counter 14 = .ok (.tableswitch 55 0 2 #[26, 36, 46], 26) := by decide +kernel
theorem dX11_counter_40 : decode cX11_counter 40 = .ok (.aload_n 0, 1) := by decide +kernel
theorem dX11_counter_41 : decode cX11_counter 41 = .ok (.getfield 19, 3) := by decide +kernel
theorem dX11_counter_44 : decode cX11_counter 44 = .ok (.getfield 132, 3) := by decide +kernel
theorem dX11_counter_47 : decode cX11_counter 47 = .ok (.iload_n 1, 1) := by decide +kernel
theorem dX11_counter_48 : decode cX11_counter 48 = .ok (.iaload, 1) := by decide +kernel
theorem dX11_counter_49 : decode cX11_counter 49 = .ok (.ireturn, 1) := by decide +kernel
theorem dX11_counter_50 : decode cX11_counter 50 = .ok (.aload_n 0, 1) := by decide +kernel
theorem dX11_counter_51 : decode cX11_counter 51 = .ok (.getfield 50, 3) := by decide +kernel
theorem dX11_counter_54 : decode cX11_counter 54 = .ok (.getfield 136, 3) := by decide +kernel
theorem dX11_counter_57 : decode cX11_counter 57 = .ok (.iload_n 1, 1) := by decide +kernel
theorem dX11_counter_58 : decode cX11_counter 58 = .ok (.iaload, 1) := by decide +kernel
theorem dX11_counter_59 : decode cX11_counter 59 = .ok (.ireturn, 1) := by decide +kernel
theorem dX11_counter_60 : decode cX11_counter 60 = .ok (.aload_n 0, 1) := by decide +kernel
theorem dX11_counter_61 : decode cX11_counter 61 = .ok (.getfield 50, 3) := by decide +kernel
theorem dX11_counter_64 : decode cX11_counter 64 = .ok (.iload_n 1, 1) := by decide +kernel
theorem dX11_counter_65 : decode cX11_counter 65 = .ok (.invokevirtual 138, 3) := by decide +kernel
theorem dX11_counter_68 : decode cX11_counter 68 = .ok (.ireturn, 1) := by decide +kernel
theorem dX11_counter_69 : decode cX11_counter 69 = .ok (.iconst (-1), 1) := by decide +kernel
theorem dX11_counter_70 : decode cX11_counter 70 = .ok (.ireturn, 1) := by decide +kernel
theorem fl_RX11_132 : FL RX11 132 8 0 := ⟨inG (i := 191) (by decide +kernel) (by decide +kernel), by decide, by decide⟩
theorem fl_RX11_136 : FL RX11 136 9 1 := ⟨inG (i := 307) (by decide +kernel) (by decide +kernel), by decide, by decide⟩
theorem fl_RX11_19 : FL RX11 19 11 1 := ⟨inG (i := 475) (by decide +kernel) (by decide +kernel), by decide, by decide⟩
theorem fl_RX11_50 : FL RX11 50 11 6 := ⟨inG (i := 480) (by decide +kernel) (by decide +kernel), by decide, by decide⟩
theorem go_11_1 (σ : St) (i : Nat) : go σ 11 i 1 = (8, 0) := rfl
theorem go_11_6 (σ : St) (i : Nat) : go σ 11 i 6 = (9, 0) := rfl
theorem lk_RX11_128 : Cond.methodLink RX11 128 yX8_hasCounter ∈ tG := inG (i := 887) (by decide +kernel) (by decide +kernel)
theorem lk_RX11_138 : Cond.methodLink RX11 138 yX9_basket ∈ tG := inG (i := 891) (by decide +kernel) (by decide +kernel)
theorem m_X9_basket : MV Y_X9_basket 1 9 := ⟨⟨inG (i := 894) (by decide +kernel) (by decide +kernel), inG (i := 104) (by decide +kernel) (by decide +kernel), by decide, by decide, by decide, by decide +kernel⟩, inG (i := 892) (by decide +kernel) (by decide +kernel), inG (i := 893) (by decide +kernel) (by decide +kernel), by decide⟩
def P_X11_counter  (x1 : Int) (x2 : Int) (σ : St) (Q : Int → St → Prop) : Prop :=
  P_X8_hasCounter 0 x1 σ (fun r_2 σ_1 => (if r_2 = 0 then Q (-1) σ_1 else (if x2 = 0 then 0 ≤ x1 ∧ x1 < 6 ∧ Q (σ_1 900 0 x1) σ_1 else if x2 = 1 then 0 ≤ x1 ∧ x1 < 6 ∧ Q (σ_1 1001 0 x1) σ_1 else if x2 = 2 then P_X9_basket 0 x1 σ_1 (fun r_4 σ_3 => Q r_4 σ_3) else Q (-1) σ_1)))
set_option maxRecDepth 20000 in
set_option maxHeartbeats 2000000 in
theorem s_X11_counter   {x1 : Int} {x2 : Int} {σ : St} {Q : Int → St → Prop} (h : P_X11_counter x1 x2 σ Q) : Cn Y_X11_counter 1 0 0 ww σ [vR 11 0, vI x1, vI x2] (QI Q) := by
  refine Cn_of [some (vR 11 0), some (vI x1), some (vI x2)] (by decide) (Nat.le_of_ble_eq_true rfl) rfl ?_
  unfold P_X11_counter at h
  refine E_aload_n dX11_counter_0 rfl rfl ?_
  refine E_getr (i := 0) dX11_counter_1 fl_RX11_19 rfl rfl (go_11_1 _ _) ?_
  refine E_iload_n dX11_counter_4 rfl rfl ?_
  refine E_callV (Y' := Y_X8_hasCounter) (as := [vI x1]) (st := []) dX11_counter_5 lk_RX11_128 m_X8_hasCounter (by decide) (Nat.le_refl _) (Nat.le_refl _) rfl rfl (Nat.le_of_ble_eq_true rfl) (s_X8_hasCounter h) (fun r0 B0 σ_1 h => ?_)
  obtain ⟨r_2, rfl, rfl, h⟩ := h
  refine E_if_ne (tgt := 13) dX11_counter_8 (by decide) (fun hc => ?_) (fun hc => ?_)
  · have h := Eq.mp (if_neg hc) h
    refine E_iload_n dX11_counter_13 rfl rfl ?_
    by_cases hc : x2 = 0
    · have h := Eq.mp (if_pos hc) h
      refine E_tableIn (off := 26) (tgt := 40) dX11_counter_14 (by omega) (by omega) (by rw [hc]; rfl) (by decide) ?_
      refine E_aload_n dX11_counter_40 rfl rfl ?_
      refine E_getr (i := 0) dX11_counter_41 fl_RX11_19 rfl rfl (go_11_1 _ _) ?_
      refine E_getr (i := 0) dX11_counter_44 fl_RX11_132 rfl rfl (go_8_0 _ _) ?_
      refine E_iload_n dX11_counter_47 rfl rfl ?_
      obtain ⟨hg0, hg1, h⟩ := h
      refine E_iald dX11_counter_48 sh_900 hg0 hg1 ?_
      exact E_iret dX11_counter_49 rfl ⟨_, rfl, rfl, h⟩
    have h := Eq.mp (if_neg hc) h
    have hc0 := hc
    clear hc
    by_cases hc : x2 = 1
    · have h := Eq.mp (if_pos hc) h
      refine E_tableIn (off := 36) (tgt := 50) dX11_counter_14 (by omega) (by omega) (by rw [hc]; rfl) (by decide) ?_
      refine E_aload_n dX11_counter_50 rfl rfl ?_
      refine E_getr (i := 0) dX11_counter_51 fl_RX11_50 rfl rfl (go_11_6 _ _) ?_
      refine E_getr (i := 0) dX11_counter_54 fl_RX11_136 rfl rfl (go_9_1 _ _) ?_
      refine E_iload_n dX11_counter_57 rfl rfl ?_
      obtain ⟨hg0, hg1, h⟩ := h
      refine E_iald dX11_counter_58 sh_1001 hg0 hg1 ?_
      exact E_iret dX11_counter_59 rfl ⟨_, rfl, rfl, h⟩
    have h := Eq.mp (if_neg hc) h
    have hc1 := hc
    clear hc
    by_cases hc : x2 = 2
    · have h := Eq.mp (if_pos hc) h
      refine E_tableIn (off := 46) (tgt := 60) dX11_counter_14 (by omega) (by omega) (by rw [hc]; rfl) (by decide) ?_
      refine E_aload_n dX11_counter_60 rfl rfl ?_
      refine E_getr (i := 0) dX11_counter_61 fl_RX11_50 rfl rfl (go_11_6 _ _) ?_
      refine E_iload_n dX11_counter_64 rfl rfl ?_
      refine E_callV (Y' := Y_X9_basket) (as := [vI x1]) (st := []) dX11_counter_65 lk_RX11_138 m_X9_basket (by decide) (Nat.le_refl _) (Nat.le_refl _) rfl rfl (Nat.le_of_ble_eq_true rfl) (s_X9_basket h) (fun r0 B0 σ_3 h => ?_)
      obtain ⟨r_4, rfl, rfl, h⟩ := h
      exact E_iret dX11_counter_68 rfl ⟨_, rfl, rfl, h⟩
    have h := Eq.mp (if_neg hc) h
    have hc2 := hc
    clear hc
    refine E_tableOut (tgt := 69) dX11_counter_14 (by omega) (by decide) ?_
    refine E_ic dX11_counter_69 rfl ?_
    exact E_iret dX11_counter_70 rfl ⟨_, rfl, rfl, h⟩
  · have h := Eq.mp (if_pos hc) h
    refine E_ic dX11_counter_11 rfl ?_
    exact E_iret dX11_counter_12 rfl ⟨_, rfl, rfl, h⟩
abbrev Y_X11_ball : My := (yX11_ball, cX11_ball, 3, some .int)
theorem dX11_ball_0 : decode cX11_ball 0 = .ok (.aload_n 0, 1) := by decide +kernel
theorem dX11_ball_1 : decode cX11_ball 1 = .ok (.getfield 19, 3) := by decide +kernel
theorem dX11_ball_4 : decode cX11_ball 4 = .ok (.iload_n 1, 1) := by decide +kernel
theorem dX11_ball_5 : decode cX11_ball 5 = .ok (.invokevirtual 142, 3) := by decide +kernel
theorem dX11_ball_8 : decode cX11_ball 8 = .ok (.ifCond .ne 6, 3) := by decide +kernel
theorem dX11_ball_11 : decode cX11_ball 11 = .ok (.bipush (-2), 2) := by decide +kernel
theorem dX11_ball_13 : decode cX11_ball 13 = .ok (.ireturn, 1) := by decide +kernel
theorem dX11_ball_14 : decode cX11_ball 14 = .ok (.iload_n 2, 1) := by decide +kernel
theorem dX11_ball_15 : decode cX11_ball 15 = .ok (.tableswitch 113 0 5 #[37, 47, 57, 67, 93, 103], 37) := by decide +kernel
theorem dX11_ball_52 : decode cX11_ball 52 = .ok (.aload_n 0, 1) := by decide +kernel
theorem dX11_ball_53 : decode cX11_ball 53 = .ok (.getfield 19, 3) := by decide +kernel
theorem dX11_ball_56 : decode cX11_ball 56 = .ok (.getfield 145, 3) := by decide +kernel
theorem dX11_ball_59 : decode cX11_ball 59 = .ok (.iload_n 1, 1) := by decide +kernel
theorem dX11_ball_60 : decode cX11_ball 60 = .ok (.iaload, 1) := by decide +kernel
theorem dX11_ball_61 : decode cX11_ball 61 = .ok (.ireturn, 1) := by decide +kernel
theorem dX11_ball_62 : decode cX11_ball 62 = .ok (.aload_n 0, 1) := by decide +kernel
theorem dX11_ball_63 : decode cX11_ball 63 = .ok (.getfield 50, 3) := by decide +kernel
theorem dX11_ball_66 : decode cX11_ball 66 = .ok (.getfield 148, 3) := by decide +kernel
theorem dX11_ball_69 : decode cX11_ball 69 = .ok (.iload_n 1, 1) := by decide +kernel
theorem dX11_ball_70 : decode cX11_ball 70 = .ok (.iaload, 1) := by decide +kernel
theorem dX11_ball_71 : decode cX11_ball 71 = .ok (.ireturn, 1) := by decide +kernel
theorem dX11_ball_72 : decode cX11_ball 72 = .ok (.aload_n 0, 1) := by decide +kernel
theorem dX11_ball_73 : decode cX11_ball 73 = .ok (.getfield 19, 3) := by decide +kernel
theorem dX11_ball_76 : decode cX11_ball 76 = .ok (.getfield 151, 3) := by decide +kernel
theorem dX11_ball_79 : decode cX11_ball 79 = .ok (.iload_n 1, 1) := by decide +kernel
theorem dX11_ball_80 : decode cX11_ball 80 = .ok (.iaload, 1) := by decide +kernel
theorem dX11_ball_81 : decode cX11_ball 81 = .ok (.ireturn, 1) := by decide +kernel
theorem dX11_ball_82 : decode cX11_ball 82 = .ok (.aload_n 0, 1) := by decide +kernel
theorem dX11_ball_83 : decode cX11_ball 83 = .ok (.getfield 50, 3) := by decide +kernel
theorem dX11_ball_86 : decode cX11_ball 86 = .ok (.getfield 154, 3) := by decide +kernel
theorem dX11_ball_89 : decode cX11_ball 89 = .ok (.iload_n 1, 1) := by decide +kernel
theorem dX11_ball_90 : decode cX11_ball 90 = .ok (.iaload, 1) := by decide +kernel
theorem dX11_ball_91 : decode cX11_ball 91 = .ok (.ifCond .ne 15, 3) := by decide +kernel
theorem dX11_ball_94 : decode cX11_ball 94 = .ok (.aload_n 0, 1) := by decide +kernel
theorem dX11_ball_95 : decode cX11_ball 95 = .ok (.getfield 50, 3) := by decide +kernel
theorem dX11_ball_98 : decode cX11_ball 98 = .ok (.getfield 157, 3) := by decide +kernel
theorem dX11_ball_101 : decode cX11_ball 101 = .ok (.iload_n 1, 1) := by decide +kernel
theorem dX11_ball_102 : decode cX11_ball 102 = .ok (.iaload, 1) := by decide +kernel
theorem dX11_ball_103 : decode cX11_ball 103 = .ok (.goto 4, 3) := by decide +kernel
theorem dX11_ball_106 : decode cX11_ball 106 = .ok (.iconst (-1), 1) := by decide +kernel
theorem dX11_ball_107 : decode cX11_ball 107 = .ok (.ireturn, 1) := by decide +kernel
theorem dX11_ball_108 : decode cX11_ball 108 = .ok (.aload_n 0, 1) := by decide +kernel
theorem dX11_ball_109 : decode cX11_ball 109 = .ok (.getfield 50, 3) := by decide +kernel
theorem dX11_ball_112 : decode cX11_ball 112 = .ok (.getfield 154, 3) := by decide +kernel
theorem dX11_ball_115 : decode cX11_ball 115 = .ok (.iload_n 1, 1) := by decide +kernel
theorem dX11_ball_116 : decode cX11_ball 116 = .ok (.iaload, 1) := by decide +kernel
theorem dX11_ball_117 : decode cX11_ball 117 = .ok (.ireturn, 1) := by decide +kernel
theorem dX11_ball_118 : decode cX11_ball 118 = .ok (.aload_n 0, 1) := by decide +kernel
theorem dX11_ball_119 : decode cX11_ball 119 = .ok (.getfield 50, 3) := by decide +kernel
theorem dX11_ball_122 : decode cX11_ball 122 = .ok (.getfield 160, 3) := by decide +kernel
theorem dX11_ball_125 : decode cX11_ball 125 = .ok (.iload_n 1, 1) := by decide +kernel
theorem dX11_ball_126 : decode cX11_ball 126 = .ok (.iaload, 1) := by decide +kernel
theorem dX11_ball_127 : decode cX11_ball 127 = .ok (.ireturn, 1) := by decide +kernel
theorem dX11_ball_128 : decode cX11_ball 128 = .ok (.bipush (-2), 2) := by decide +kernel
theorem dX11_ball_130 : decode cX11_ball 130 = .ok (.ireturn, 1) := by decide +kernel
theorem fl_RX11_145 : FL RX11 145 8 4 := ⟨inG (i := 199) (by decide +kernel) (by decide +kernel), by decide, by decide⟩
theorem fl_RX11_148 : FL RX11 148 9 2 := ⟨inG (i := 311) (by decide +kernel) (by decide +kernel), by decide, by decide⟩
theorem fl_RX11_151 : FL RX11 151 8 6 := ⟨inG (i := 206) (by decide +kernel) (by decide +kernel), by decide, by decide⟩
theorem fl_RX11_154 : FL RX11 154 9 4 := ⟨inG (i := 315) (by decide +kernel) (by decide +kernel), by decide, by decide⟩
theorem fl_RX11_157 : FL RX11 157 9 3 := ⟨inG (i := 313) (by decide +kernel) (by decide +kernel), by decide, by decide⟩
theorem fl_RX11_160 : FL RX11 160 9 6 := ⟨inG (i := 319) (by decide +kernel) (by decide +kernel), by decide, by decide⟩
theorem lk_RX11_142 : Cond.methodLink RX11 142 yX8_hasBall ∈ tG := inG (i := 899) (by decide +kernel) (by decide +kernel)
def P_X11_ball  (x1 : Int) (x2 : Int) (σ : St) (Q : Int → St → Prop) : Prop :=
  P_X8_hasBall 0 x1 σ (fun r_2 σ_1 => (if r_2 = 0 then Q (-2) σ_1 else (if x2 = 0 then 0 ≤ x1 ∧ x1 < 6 ∧ Q (σ_1 904 0 x1) σ_1 else if x2 = 1 then 0 ≤ x1 ∧ x1 < 6 ∧ Q (σ_1 1002 0 x1) σ_1 else if x2 = 2 then 0 ≤ x1 ∧ x1 < 6 ∧ Q (σ_1 906 0 x1) σ_1 else if x2 = 3 then 0 ≤ x1 ∧ x1 < 6 ∧ (if (σ_1 1004 0 x1) = 0 then 0 ≤ x1 ∧ x1 < 6 ∧ Q (σ_1 1003 0 x1) σ_1 else Q (-1) σ_1) else if x2 = 4 then 0 ≤ x1 ∧ x1 < 6 ∧ Q (σ_1 1004 0 x1) σ_1 else if x2 = 5 then 0 ≤ x1 ∧ x1 < 6 ∧ Q (σ_1 1006 0 x1) σ_1 else Q (-2) σ_1)))
set_option maxRecDepth 20000 in
set_option maxHeartbeats 2000000 in
theorem s_X11_ball   {x1 : Int} {x2 : Int} {σ : St} {Q : Int → St → Prop} (h : P_X11_ball x1 x2 σ Q) : Cn Y_X11_ball 1 0 0 ww σ [vR 11 0, vI x1, vI x2] (QI Q) := by
  refine Cn_of [some (vR 11 0), some (vI x1), some (vI x2)] (by decide) (Nat.le_of_ble_eq_true rfl) rfl ?_
  unfold P_X11_ball at h
  refine E_aload_n dX11_ball_0 rfl rfl ?_
  refine E_getr (i := 0) dX11_ball_1 fl_RX11_19 rfl rfl (go_11_1 _ _) ?_
  refine E_iload_n dX11_ball_4 rfl rfl ?_
  refine E_callV (Y' := Y_X8_hasBall) (as := [vI x1]) (st := []) dX11_ball_5 lk_RX11_142 m_X8_hasBall (by decide) (Nat.le_refl _) (Nat.le_refl _) rfl rfl (Nat.le_of_ble_eq_true rfl) (s_X8_hasBall h) (fun r0 B0 σ_1 h => ?_)
  obtain ⟨r_2, rfl, rfl, h⟩ := h
  refine E_if_ne (tgt := 14) dX11_ball_8 (by decide) (fun hc => ?_) (fun hc => ?_)
  · have h := Eq.mp (if_neg hc) h
    refine E_iload_n dX11_ball_14 rfl rfl ?_
    by_cases hc : x2 = 0
    · have h := Eq.mp (if_pos hc) h
      refine E_tableIn (off := 37) (tgt := 52) dX11_ball_15 (by omega) (by omega) (by rw [hc]; rfl) (by decide) ?_
      refine E_aload_n dX11_ball_52 rfl rfl ?_
      refine E_getr (i := 0) dX11_ball_53 fl_RX11_19 rfl rfl (go_11_1 _ _) ?_
      refine E_getr (i := 0) dX11_ball_56 fl_RX11_145 rfl rfl (go_8_4 _ _) ?_
      refine E_iload_n dX11_ball_59 rfl rfl ?_
      obtain ⟨hg0, hg1, h⟩ := h
      refine E_iald dX11_ball_60 sh_904 hg0 hg1 ?_
      exact E_iret dX11_ball_61 rfl ⟨_, rfl, rfl, h⟩
    have h := Eq.mp (if_neg hc) h
    have hc0 := hc
    clear hc
    by_cases hc : x2 = 1
    · have h := Eq.mp (if_pos hc) h
      refine E_tableIn (off := 47) (tgt := 62) dX11_ball_15 (by omega) (by omega) (by rw [hc]; rfl) (by decide) ?_
      refine E_aload_n dX11_ball_62 rfl rfl ?_
      refine E_getr (i := 0) dX11_ball_63 fl_RX11_50 rfl rfl (go_11_6 _ _) ?_
      refine E_getr (i := 0) dX11_ball_66 fl_RX11_148 rfl rfl (go_9_2 _ _) ?_
      refine E_iload_n dX11_ball_69 rfl rfl ?_
      obtain ⟨hg0, hg1, h⟩ := h
      refine E_iald dX11_ball_70 sh_1002 hg0 hg1 ?_
      exact E_iret dX11_ball_71 rfl ⟨_, rfl, rfl, h⟩
    have h := Eq.mp (if_neg hc) h
    have hc1 := hc
    clear hc
    by_cases hc : x2 = 2
    · have h := Eq.mp (if_pos hc) h
      refine E_tableIn (off := 57) (tgt := 72) dX11_ball_15 (by omega) (by omega) (by rw [hc]; rfl) (by decide) ?_
      refine E_aload_n dX11_ball_72 rfl rfl ?_
      refine E_getr (i := 0) dX11_ball_73 fl_RX11_19 rfl rfl (go_11_1 _ _) ?_
      refine E_getr (i := 0) dX11_ball_76 fl_RX11_151 rfl rfl (go_8_6 _ _) ?_
      refine E_iload_n dX11_ball_79 rfl rfl ?_
      obtain ⟨hg0, hg1, h⟩ := h
      refine E_iald dX11_ball_80 sh_906 hg0 hg1 ?_
      exact E_iret dX11_ball_81 rfl ⟨_, rfl, rfl, h⟩
    have h := Eq.mp (if_neg hc) h
    have hc2 := hc
    clear hc
    by_cases hc : x2 = 3
    · have h := Eq.mp (if_pos hc) h
      refine E_tableIn (off := 67) (tgt := 82) dX11_ball_15 (by omega) (by omega) (by rw [hc]; rfl) (by decide) ?_
      refine E_aload_n dX11_ball_82 rfl rfl ?_
      refine E_getr (i := 0) dX11_ball_83 fl_RX11_50 rfl rfl (go_11_6 _ _) ?_
      refine E_getr (i := 0) dX11_ball_86 fl_RX11_154 rfl rfl (go_9_4 _ _) ?_
      refine E_iload_n dX11_ball_89 rfl rfl ?_
      obtain ⟨hg0, hg1, h⟩ := h
      refine E_iald dX11_ball_90 sh_1004 hg0 hg1 ?_
      refine E_if_ne (tgt := 106) dX11_ball_91 (by decide) (fun hc => ?_) (fun hc => ?_)
      · have h := Eq.mp (if_neg hc) h
        refine E_ic dX11_ball_106 rfl ?_
        exact E_iret dX11_ball_107 rfl ⟨_, rfl, rfl, h⟩
      · have h := Eq.mp (if_pos hc) h
        refine E_aload_n dX11_ball_94 rfl rfl ?_
        refine E_getr (i := 0) dX11_ball_95 fl_RX11_50 rfl rfl (go_11_6 _ _) ?_
        refine E_getr (i := 0) dX11_ball_98 fl_RX11_157 rfl rfl (go_9_3 _ _) ?_
        refine E_iload_n dX11_ball_101 rfl rfl ?_
        obtain ⟨hg0, hg1, h⟩ := h
        refine E_iald dX11_ball_102 sh_1003 hg0 hg1 ?_
        refine E_goto (tgt := 107) dX11_ball_103 (by decide) ?_
        exact E_iret dX11_ball_107 rfl ⟨_, rfl, rfl, h⟩
    have h := Eq.mp (if_neg hc) h
    have hc3 := hc
    clear hc
    by_cases hc : x2 = 4
    · have h := Eq.mp (if_pos hc) h
      refine E_tableIn (off := 93) (tgt := 108) dX11_ball_15 (by omega) (by omega) (by rw [hc]; rfl) (by decide) ?_
      refine E_aload_n dX11_ball_108 rfl rfl ?_
      refine E_getr (i := 0) dX11_ball_109 fl_RX11_50 rfl rfl (go_11_6 _ _) ?_
      refine E_getr (i := 0) dX11_ball_112 fl_RX11_154 rfl rfl (go_9_4 _ _) ?_
      refine E_iload_n dX11_ball_115 rfl rfl ?_
      obtain ⟨hg0, hg1, h⟩ := h
      refine E_iald dX11_ball_116 sh_1004 hg0 hg1 ?_
      exact E_iret dX11_ball_117 rfl ⟨_, rfl, rfl, h⟩
    have h := Eq.mp (if_neg hc) h
    have hc4 := hc
    clear hc
    by_cases hc : x2 = 5
    · have h := Eq.mp (if_pos hc) h
      refine E_tableIn (off := 103) (tgt := 118) dX11_ball_15 (by omega) (by omega) (by rw [hc]; rfl) (by decide) ?_
      refine E_aload_n dX11_ball_118 rfl rfl ?_
      refine E_getr (i := 0) dX11_ball_119 fl_RX11_50 rfl rfl (go_11_6 _ _) ?_
      refine E_getr (i := 0) dX11_ball_122 fl_RX11_160 rfl rfl (go_9_6 _ _) ?_
      refine E_iload_n dX11_ball_125 rfl rfl ?_
      obtain ⟨hg0, hg1, h⟩ := h
      refine E_iald dX11_ball_126 sh_1006 hg0 hg1 ?_
      exact E_iret dX11_ball_127 rfl ⟨_, rfl, rfl, h⟩
    have h := Eq.mp (if_neg hc) h
    have hc5 := hc
    clear hc
    refine E_tableOut (tgt := 128) dX11_ball_15 (by omega) (by decide) ?_
    refine E_bp dX11_ball_128 rfl ?_
    exact E_iret dX11_ball_130 rfl ⟨_, rfl, rfl, h⟩
  · have h := Eq.mp (if_pos hc) h
    refine E_bp dX11_ball_11 rfl ?_
    exact E_iret dX11_ball_13 rfl ⟨_, rfl, rfl, h⟩
abbrev Y_X11_falls : My := (yX11_falls, cX11_falls, 2, some .int)
theorem dX11_falls_0 : decode cX11_falls 0 = .ok (.aload_n 0, 1) := by decide +kernel
theorem dX11_falls_1 : decode cX11_falls 1 = .ok (.getfield 19, 3) := by decide +kernel
theorem dX11_falls_4 : decode cX11_falls 4 = .ok (.iload_n 1, 1) := by decide +kernel
theorem dX11_falls_5 : decode cX11_falls 5 = .ok (.invokevirtual 142, 3) := by decide +kernel
theorem dX11_falls_8 : decode cX11_falls 8 = .ok (.ifCond .eq 14, 3) := by decide +kernel
theorem dX11_falls_11 : decode cX11_falls 11 = .ok (.aload_n 0, 1) := by decide +kernel
theorem dX11_falls_12 : decode cX11_falls 12 = .ok (.getfield 50, 3) := by decide +kernel
theorem dX11_falls_15 : decode cX11_falls 15 = .ok (.iload_n 1, 1) := by decide +kernel
theorem dX11_falls_16 : decode cX11_falls 16 = .ok (.invokevirtual 213, 3) := by decide +kernel
theorem dX11_falls_19 : decode cX11_falls 19 = .ok (.goto 4, 3) := by decide +kernel
theorem dX11_falls_22 : decode cX11_falls 22 = .ok (.iconst (-1), 1) := by decide +kernel
theorem dX11_falls_23 : decode cX11_falls 23 = .ok (.ireturn, 1) := by decide +kernel
theorem lk_RX11_213 : Cond.methodLink RX11 213 yX9_fallOf ∈ tG := inG (i := 1064) (by decide +kernel) (by decide +kernel)
def P_X11_falls  (x1 : Int) (σ : St) (Q : Int → St → Prop) : Prop :=
  P_X8_hasBall 0 x1 σ (fun r_2 σ_1 => (if r_2 = 0 then Q (-1) σ_1 else P_X9_fallOf 0 x1 σ_1 (fun r_4 σ_3 => Q r_4 σ_3)))
set_option maxRecDepth 20000 in
set_option maxHeartbeats 2000000 in
theorem s_X11_falls   {x1 : Int} {σ : St} {Q : Int → St → Prop} (h : P_X11_falls x1 σ Q) : Cn Y_X11_falls 2 0 0 ww σ [vR 11 0, vI x1] (QI Q) := by
  refine Cn_of [some (vR 11 0), some (vI x1)] (by decide) (Nat.le_of_ble_eq_true rfl) rfl ?_
  unfold P_X11_falls at h
  refine E_aload_n dX11_falls_0 rfl rfl ?_
  refine E_getr (i := 0) dX11_falls_1 fl_RX11_19 rfl rfl (go_11_1 _ _) ?_
  refine E_iload_n dX11_falls_4 rfl rfl ?_
  refine E_callV (Y' := Y_X8_hasBall) (as := [vI x1]) (st := []) dX11_falls_5 lk_RX11_142 m_X8_hasBall (by decide) (Nat.le_refl _) (Nat.le_refl _) rfl rfl (Nat.le_of_ble_eq_true rfl) (s_X8_hasBall h) (fun r0 B0 σ_1 h => ?_)
  obtain ⟨r_2, rfl, rfl, h⟩ := h
  refine E_if_eq (tgt := 22) dX11_falls_8 (by decide) (fun hc => ?_) (fun hc => ?_)
  · have h := Eq.mp (if_pos hc) h
    refine E_ic dX11_falls_22 rfl ?_
    exact E_iret dX11_falls_23 rfl ⟨_, rfl, rfl, h⟩
  · have h := Eq.mp (if_neg hc) h
    refine E_aload_n dX11_falls_11 rfl rfl ?_
    refine E_getr (i := 0) dX11_falls_12 fl_RX11_50 rfl rfl (go_11_6 _ _) ?_
    refine E_iload_n dX11_falls_15 rfl rfl ?_
    refine E_callV (Y' := Y_X9_fallOf) (as := [vI x1]) (st := []) dX11_falls_16 lk_RX11_213 m_X9_fallOf (by decide) (Nat.le_refl _) (Nat.le_refl _) rfl rfl (Nat.le_of_ble_eq_true rfl) (s_X9_fallOf h) (fun r0 B0 σ_3 h => ?_)
    obtain ⟨r_4, rfl, rfl, h⟩ := h
    refine E_goto (tgt := 23) dX11_falls_19 (by decide) ?_
    exact E_iret dX11_falls_23 rfl ⟨_, rfl, rfl, h⟩
abbrev Y_X11_row : My := (yX11_row, cX11_row, 2, some .int)
theorem dX11_row_0 : decode cX11_row 0 = .ok (.iload_n 1, 1) := by decide +kernel
theorem dX11_row_1 : decode cX11_row 1 = .ok (.ifCond .lt 26, 3) := by decide +kernel
theorem dX11_row_4 : decode cX11_row 4 = .ok (.iload_n 1, 1) := by decide +kernel
theorem dX11_row_5 : decode cX11_row 5 = .ok (.aload_n 0, 1) := by decide +kernel
theorem dX11_row_6 : decode cX11_row 6 = .ok (.getfield 50, 3) := by decide +kernel
theorem dX11_row_9 : decode cX11_row 9 = .ok (.getfield 252, 3) := by decide +kernel
theorem dX11_row_12 : decode cX11_row 12 = .ok (.if_icmp .ge 15, 3) := by decide +kernel
theorem dX11_row_15 : decode cX11_row 15 = .ok (.aload_n 0, 1) := by decide +kernel
theorem dX11_row_16 : decode cX11_row 16 = .ok (.getfield 50, 3) := by decide +kernel
theorem dX11_row_19 : decode cX11_row 19 = .ok (.getfield 255, 3) := by decide +kernel
theorem dX11_row_22 : decode cX11_row 22 = .ok (.iload_n 1, 1) := by decide +kernel
theorem dX11_row_23 : decode cX11_row 23 = .ok (.iaload, 1) := by decide +kernel
theorem dX11_row_24 : decode cX11_row 24 = .ok (.goto 4, 3) := by decide +kernel
theorem dX11_row_27 : decode cX11_row 27 = .ok (.iconst (-1), 1) := by decide +kernel
theorem dX11_row_28 : decode cX11_row 28 = .ok (.ireturn, 1) := by decide +kernel
theorem fl_RX11_252 : FL RX11 252 9 8 := ⟨inG (i := 323) (by decide +kernel) (by decide +kernel), by decide, by decide⟩
theorem fl_RX11_255 : FL RX11 255 9 7 := ⟨inG (i := 321) (by decide +kernel) (by decide +kernel), by decide, by decide⟩
def P_X11_row_J27    (Q : Int → St → Prop) (σ : St) : Prop :=
  Q (-1) σ
set_option maxRecDepth 20000 in
set_option maxHeartbeats 2000000 in
theorem e_P_X11_row_J27    {Q : Int → St → Prop} {σ : St}   (h : P_X11_row_J27  Q σ) : E Y_X11_row 0 0 0 (QI Q) ww 0 0 27 [none, none] [] σ := by
  unfold P_X11_row_J27 at h
  refine E_ic dX11_row_27 rfl ?_
  exact E_iret dX11_row_28 rfl ⟨_, rfl, rfl, h⟩
def P_X11_row  (x1 : Int) (σ : St) (Q : Int → St → Prop) : Prop :=
  (if x1 < 0 then P_X11_row_J27 Q σ else (if (σ 9 0 8) ≤ x1 then P_X11_row_J27 Q σ else 0 ≤ x1 ∧ x1 < 6 ∧ Q (σ 1007 0 x1) σ))
set_option maxRecDepth 20000 in
set_option maxHeartbeats 2000000 in
theorem s_X11_row   {x1 : Int} {σ : St} {Q : Int → St → Prop} (h : P_X11_row x1 σ Q) : Cn Y_X11_row 0 0 0 ww σ [vR 11 0, vI x1] (QI Q) := by
  refine Cn_of [some (vR 11 0), some (vI x1)] (by decide) (Nat.le_of_ble_eq_true rfl) rfl ?_
  unfold P_X11_row at h
  refine E_iload_n dX11_row_0 rfl rfl ?_
  refine E_if_lt (tgt := 27) dX11_row_1 (by decide) (fun hc => ?_) (fun hc => ?_)
  · have h := Eq.mp (if_pos hc) h
    refine E_wk2 [none, none] trivial ?_
    exact e_P_X11_row_J27 h
  · have h := Eq.mp (if_neg hc) h
    refine E_iload_n dX11_row_4 rfl rfl ?_
    refine E_aload_n dX11_row_5 rfl rfl ?_
    refine E_getr (i := 0) dX11_row_6 fl_RX11_50 rfl rfl (go_11_6 _ _) ?_
    refine E_geti (i := 0) dX11_row_9 fl_RX11_252 rfl ?_
    refine E_icmp_ge (tgt := 27) dX11_row_12 (by decide) (fun hc => ?_) (fun hc => ?_)
    · have h := Eq.mp (if_pos hc) h
      refine E_wk2 [none, none] trivial ?_
      exact e_P_X11_row_J27 h
    · have h := Eq.mp (if_neg hc) h
      refine E_aload_n dX11_row_15 rfl rfl ?_
      refine E_getr (i := 0) dX11_row_16 fl_RX11_50 rfl rfl (go_11_6 _ _) ?_
      refine E_getr (i := 0) dX11_row_19 fl_RX11_255 rfl rfl (go_9_7 _ _) ?_
      refine E_iload_n dX11_row_22 rfl rfl ?_
      obtain ⟨hg0, hg1, h⟩ := h
      refine E_iald dX11_row_23 sh_1007 hg0 hg1 ?_
      refine E_goto (tgt := 28) dX11_row_24 (by decide) ?_
      exact E_iret dX11_row_28 rfl ⟨_, rfl, rfl, h⟩
abbrev Y_X11_count : My := (yX11_count, cX11_count, 2, some .int)
theorem dX11_count_0 : decode cX11_count 0 = .ok (.iload_n 1, 1) := by decide +kernel
theorem dX11_count_1 : decode cX11_count 1 = .ok (.tableswitch 192 0 13 #[71, 79, 87, 95, 103, 118, 126, 135, 144, 152, 160, 168, 176, 184], 71) := by decide +kernel
theorem dX11_count_72 : decode cX11_count 72 = .ok (.aload_n 0, 1) := by decide +kernel
theorem dX11_count_73 : decode cX11_count 73 = .ok (.getfield 19, 3) := by decide +kernel
theorem dX11_count_76 : decode cX11_count 76 = .ok (.getfield 226, 3) := by decide +kernel
theorem dX11_count_79 : decode cX11_count 79 = .ok (.ireturn, 1) := by decide +kernel
theorem dX11_count_80 : decode cX11_count 80 = .ok (.aload_n 0, 1) := by decide +kernel
theorem dX11_count_81 : decode cX11_count 81 = .ok (.getfield 19, 3) := by decide +kernel
theorem dX11_count_84 : decode cX11_count 84 = .ok (.getfield 258, 3) := by decide +kernel
theorem dX11_count_87 : decode cX11_count 87 = .ok (.ireturn, 1) := by decide +kernel
theorem dX11_count_88 : decode cX11_count 88 = .ok (.aload_n 0, 1) := by decide +kernel
theorem dX11_count_89 : decode cX11_count 89 = .ok (.getfield 50, 3) := by decide +kernel
theorem dX11_count_92 : decode cX11_count 92 = .ok (.getfield 313, 3) := by decide +kernel
theorem dX11_count_95 : decode cX11_count 95 = .ok (.ireturn, 1) := by decide +kernel
theorem dX11_count_96 : decode cX11_count 96 = .ok (.aload_n 0, 1) := by decide +kernel
theorem dX11_count_97 : decode cX11_count 97 = .ok (.getfield 50, 3) := by decide +kernel
theorem dX11_count_100 : decode cX11_count 100 = .ok (.getfield 316, 3) := by decide +kernel
theorem dX11_count_103 : decode cX11_count 103 = .ok (.ireturn, 1) := by decide +kernel
theorem dX11_count_104 : decode cX11_count 104 = .ok (.aload_n 0, 1) := by decide +kernel
theorem dX11_count_105 : decode cX11_count 105 = .ok (.getfield 19, 3) := by decide +kernel
theorem dX11_count_108 : decode cX11_count 108 = .ok (.aload_n 0, 1) := by decide +kernel
theorem dX11_count_109 : decode cX11_count 109 = .ok (.getfield 50, 3) := by decide +kernel
theorem dX11_count_112 : decode cX11_count 112 = .ok (.getfield 313, 3) := by decide +kernel
theorem dX11_count_115 : decode cX11_count 115 = .ok (.invokevirtual 319, 3) := by decide +kernel
theorem dX11_count_118 : decode cX11_count 118 = .ok (.ireturn, 1) := by decide +kernel
theorem dX11_count_119 : decode cX11_count 119 = .ok (.aload_n 0, 1) := by decide +kernel
theorem dX11_count_120 : decode cX11_count 120 = .ok (.getfield 50, 3) := by decide +kernel
theorem dX11_count_123 : decode cX11_count 123 = .ok (.getfield 252, 3) := by decide +kernel
theorem dX11_count_126 : decode cX11_count 126 = .ok (.ireturn, 1) := by decide +kernel
theorem dX11_count_127 : decode cX11_count 127 = .ok (.aload_n 0, 1) := by decide +kernel
theorem dX11_count_128 : decode cX11_count 128 = .ok (.getfield 50, 3) := by decide +kernel
theorem dX11_count_131 : decode cX11_count 131 = .ok (.iconst 1, 1) := by decide +kernel
theorem dX11_count_132 : decode cX11_count 132 = .ok (.invokevirtual 322, 3) := by decide +kernel
theorem dX11_count_135 : decode cX11_count 135 = .ok (.ireturn, 1) := by decide +kernel
theorem dX11_count_136 : decode cX11_count 136 = .ok (.aload_n 0, 1) := by decide +kernel
theorem dX11_count_137 : decode cX11_count 137 = .ok (.getfield 50, 3) := by decide +kernel
theorem dX11_count_140 : decode cX11_count 140 = .ok (.iconst 3, 1) := by decide +kernel
theorem dX11_count_141 : decode cX11_count 141 = .ok (.invokevirtual 322, 3) := by decide +kernel
theorem dX11_count_144 : decode cX11_count 144 = .ok (.ireturn, 1) := by decide +kernel
theorem dX11_count_145 : decode cX11_count 145 = .ok (.aload_n 0, 1) := by decide +kernel
theorem dX11_count_146 : decode cX11_count 146 = .ok (.getfield 50, 3) := by decide +kernel
theorem dX11_count_149 : decode cX11_count 149 = .ok (.invokevirtual 205, 3) := by decide +kernel
theorem dX11_count_152 : decode cX11_count 152 = .ok (.ireturn, 1) := by decide +kernel
theorem dX11_count_153 : decode cX11_count 153 = .ok (.aload_n 0, 1) := by decide +kernel
theorem dX11_count_154 : decode cX11_count 154 = .ok (.getfield 19, 3) := by decide +kernel
theorem dX11_count_157 : decode cX11_count 157 = .ok (.getfield 325, 3) := by decide +kernel
theorem dX11_count_160 : decode cX11_count 160 = .ok (.ireturn, 1) := by decide +kernel
theorem dX11_count_161 : decode cX11_count 161 = .ok (.aload_n 0, 1) := by decide +kernel
theorem dX11_count_162 : decode cX11_count 162 = .ok (.getfield 29, 3) := by decide +kernel
theorem dX11_count_165 : decode cX11_count 165 = .ok (.getfield 112, 3) := by decide +kernel
theorem dX11_count_168 : decode cX11_count 168 = .ok (.ireturn, 1) := by decide +kernel
theorem dX11_count_169 : decode cX11_count 169 = .ok (.aload_n 0, 1) := by decide +kernel
theorem dX11_count_170 : decode cX11_count 170 = .ok (.getfield 67, 3) := by decide +kernel
theorem dX11_count_173 : decode cX11_count 173 = .ok (.getfield 115, 3) := by decide +kernel
theorem dX11_count_176 : decode cX11_count 176 = .ok (.ireturn, 1) := by decide +kernel
theorem dX11_count_177 : decode cX11_count 177 = .ok (.aload_n 0, 1) := by decide +kernel
theorem dX11_count_178 : decode cX11_count 178 = .ok (.getfield 60, 3) := by decide +kernel
theorem dX11_count_181 : decode cX11_count 181 = .ok (.getfield 116, 3) := by decide +kernel
theorem dX11_count_184 : decode cX11_count 184 = .ok (.ireturn, 1) := by decide +kernel
theorem dX11_count_185 : decode cX11_count 185 = .ok (.aload_n 0, 1) := by decide +kernel
theorem dX11_count_186 : decode cX11_count 186 = .ok (.getfield 10, 3) := by decide +kernel
theorem dX11_count_189 : decode cX11_count 189 = .ok (.getfield 98, 3) := by decide +kernel
theorem dX11_count_192 : decode cX11_count 192 = .ok (.ireturn, 1) := by decide +kernel
theorem dX11_count_193 : decode cX11_count 193 = .ok (.iconst (-1), 1) := by decide +kernel
theorem dX11_count_194 : decode cX11_count 194 = .ok (.ireturn, 1) := by decide +kernel
theorem fl_RX11_10 : FL RX11 10 11 0 := ⟨inG (i := 474) (by decide +kernel) (by decide +kernel), by decide, by decide⟩
theorem fl_RX11_112 : FL RX11 112 3 3 := ⟨inG (i := 270) (by decide +kernel) (by decide +kernel), by decide, by decide⟩
theorem fl_RX11_115 : FL RX11 115 7 3 := ⟨inG (i := 386) (by decide +kernel) (by decide +kernel), by decide, by decide⟩
theorem fl_RX11_116 : FL RX11 116 5 1 := ⟨inG (i := 370) (by decide +kernel) (by decide +kernel), by decide, by decide⟩
theorem fl_RX11_226 : FL RX11 226 8 10 := ⟨inG (i := 217) (by decide +kernel) (by decide +kernel), by decide, by decide⟩
theorem fl_RX11_258 : FL RX11 258 8 11 := ⟨inG (i := 224) (by decide +kernel) (by decide +kernel), by decide, by decide⟩
theorem fl_RX11_29 : FL RX11 29 11 3 := ⟨inG (i := 477) (by decide +kernel) (by decide +kernel), by decide, by decide⟩
theorem fl_RX11_313 : FL RX11 313 9 10 := ⟨inG (i := 327) (by decide +kernel) (by decide +kernel), by decide, by decide⟩
theorem fl_RX11_316 : FL RX11 316 9 11 := ⟨inG (i := 329) (by decide +kernel) (by decide +kernel), by decide, by decide⟩
theorem fl_RX11_325 : FL RX11 325 8 13 := ⟨inG (i := 230) (by decide +kernel) (by decide +kernel), by decide, by decide⟩
theorem fl_RX11_60 : FL RX11 60 11 8 := ⟨inG (i := 482) (by decide +kernel) (by decide +kernel), by decide, by decide⟩
theorem fl_RX11_67 : FL RX11 67 11 9 := ⟨inG (i := 483) (by decide +kernel) (by decide +kernel), by decide, by decide⟩
theorem fl_RX11_98 : FL RX11 98 10 4 := ⟨inG (i := 142) (by decide +kernel) (by decide +kernel), by decide, by decide⟩
theorem go_11_0 (σ : St) (i : Nat) : go σ 11 i 0 = (10, 0) := rfl
theorem go_11_3 (σ : St) (i : Nat) : go σ 11 i 3 = (3, 0) := rfl
theorem go_11_8 (σ : St) (i : Nat) : go σ 11 i 8 = (5, 0) := rfl
theorem go_11_9 (σ : St) (i : Nat) : go σ 11 i 9 = (7, 0) := rfl
theorem lk_RX11_205 : Cond.methodLink RX11 205 yX9_astray ∈ tG := inG (i := 1050) (by decide +kernel) (by decide +kernel)
theorem lk_RX11_319 : Cond.methodLink RX11 319 yX8_dampOn ∈ tG := inG (i := 1313) (by decide +kernel) (by decide +kernel)
theorem lk_RX11_322 : Cond.methodLink RX11 322 yX9_inPhase ∈ tG := inG (i := 1314) (by decide +kernel) (by decide +kernel)
theorem m_X8_dampOn : MV Y_X8_dampOn 1 8 := ⟨⟨inG (i := 1007) (by decide +kernel) (by decide +kernel), inG (i := 100) (by decide +kernel) (by decide +kernel), by decide, by decide, by decide, by decide +kernel⟩, inG (i := 1005) (by decide +kernel) (by decide +kernel), inG (i := 1006) (by decide +kernel) (by decide +kernel), by decide⟩
theorem m_X9_astray : MV Y_X9_astray 0 9 := ⟨⟨inG (i := 1053) (by decide +kernel) (by decide +kernel), inG (i := 104) (by decide +kernel) (by decide +kernel), by decide, by decide, by decide, by decide +kernel⟩, inG (i := 1051) (by decide +kernel) (by decide +kernel), inG (i := 1052) (by decide +kernel) (by decide +kernel), by decide⟩
theorem m_X9_inPhase : MV Y_X9_inPhase 1 9 := ⟨⟨inG (i := 1002) (by decide +kernel) (by decide +kernel), inG (i := 104) (by decide +kernel) (by decide +kernel), by decide, by decide, by decide, by decide +kernel⟩, inG (i := 1000) (by decide +kernel) (by decide +kernel), inG (i := 1001) (by decide +kernel) (by decide +kernel), by decide⟩
def P_X11_count  (x1 : Int) (σ : St) (Q : Int → St → Prop) : Prop :=
  (if x1 = 0 then Q (σ 8 0 10) σ else if x1 = 1 then Q (σ 8 0 11) σ else if x1 = 2 then Q (σ 9 0 10) σ else if x1 = 3 then Q (σ 9 0 11) σ else if x1 = 4 then P_X8_dampOn 0 (σ 9 0 10) σ (fun r_2 σ_1 => Q r_2 σ_1) else if x1 = 5 then Q (σ 9 0 8) σ else if x1 = 6 then P_X9_inPhase 0 1 σ (fun r_4 σ_3 => Q r_4 σ_3) else if x1 = 7 then P_X9_inPhase 0 3 σ (fun r_6 σ_5 => Q r_6 σ_5) else if x1 = 8 then P_X9_astray 0 σ (fun r_8 σ_7 => Q r_8 σ_7) else if x1 = 9 then Q (σ 8 0 13) σ else if x1 = 10 then Q (σ 3 0 3) σ else if x1 = 11 then Q (σ 7 0 3) σ else if x1 = 12 then Q (σ 5 0 1) σ else if x1 = 13 then Q (σ 10 0 4) σ else Q (-1) σ)
set_option maxRecDepth 20000 in
set_option maxHeartbeats 2000000 in
theorem s_X11_count   {x1 : Int} {σ : St} {Q : Int → St → Prop} (h : P_X11_count x1 σ Q) : Cn Y_X11_count 1 0 0 ww σ [vR 11 0, vI x1] (QI Q) := by
  refine Cn_of [some (vR 11 0), some (vI x1)] (by decide) (Nat.le_of_ble_eq_true rfl) rfl ?_
  unfold P_X11_count at h
  refine E_iload_n dX11_count_0 rfl rfl ?_
  by_cases hc : x1 = 0
  · have h := Eq.mp (if_pos hc) h
    refine E_tableIn (off := 71) (tgt := 72) dX11_count_1 (by omega) (by omega) (by rw [hc]; rfl) (by decide) ?_
    refine E_aload_n dX11_count_72 rfl rfl ?_
    refine E_getr (i := 0) dX11_count_73 fl_RX11_19 rfl rfl (go_11_1 _ _) ?_
    refine E_geti (i := 0) dX11_count_76 fl_RX11_226 rfl ?_
    exact E_iret dX11_count_79 rfl ⟨_, rfl, rfl, h⟩
  have h := Eq.mp (if_neg hc) h
  have hc0 := hc
  clear hc
  by_cases hc : x1 = 1
  · have h := Eq.mp (if_pos hc) h
    refine E_tableIn (off := 79) (tgt := 80) dX11_count_1 (by omega) (by omega) (by rw [hc]; rfl) (by decide) ?_
    refine E_aload_n dX11_count_80 rfl rfl ?_
    refine E_getr (i := 0) dX11_count_81 fl_RX11_19 rfl rfl (go_11_1 _ _) ?_
    refine E_geti (i := 0) dX11_count_84 fl_RX11_258 rfl ?_
    exact E_iret dX11_count_87 rfl ⟨_, rfl, rfl, h⟩
  have h := Eq.mp (if_neg hc) h
  have hc1 := hc
  clear hc
  by_cases hc : x1 = 2
  · have h := Eq.mp (if_pos hc) h
    refine E_tableIn (off := 87) (tgt := 88) dX11_count_1 (by omega) (by omega) (by rw [hc]; rfl) (by decide) ?_
    refine E_aload_n dX11_count_88 rfl rfl ?_
    refine E_getr (i := 0) dX11_count_89 fl_RX11_50 rfl rfl (go_11_6 _ _) ?_
    refine E_geti (i := 0) dX11_count_92 fl_RX11_313 rfl ?_
    exact E_iret dX11_count_95 rfl ⟨_, rfl, rfl, h⟩
  have h := Eq.mp (if_neg hc) h
  have hc2 := hc
  clear hc
  by_cases hc : x1 = 3
  · have h := Eq.mp (if_pos hc) h
    refine E_tableIn (off := 95) (tgt := 96) dX11_count_1 (by omega) (by omega) (by rw [hc]; rfl) (by decide) ?_
    refine E_aload_n dX11_count_96 rfl rfl ?_
    refine E_getr (i := 0) dX11_count_97 fl_RX11_50 rfl rfl (go_11_6 _ _) ?_
    refine E_geti (i := 0) dX11_count_100 fl_RX11_316 rfl ?_
    exact E_iret dX11_count_103 rfl ⟨_, rfl, rfl, h⟩
  have h := Eq.mp (if_neg hc) h
  have hc3 := hc
  clear hc
  by_cases hc : x1 = 4
  · have h := Eq.mp (if_pos hc) h
    refine E_tableIn (off := 103) (tgt := 104) dX11_count_1 (by omega) (by omega) (by rw [hc]; rfl) (by decide) ?_
    refine E_aload_n dX11_count_104 rfl rfl ?_
    refine E_getr (i := 0) dX11_count_105 fl_RX11_19 rfl rfl (go_11_1 _ _) ?_
    refine E_aload_n dX11_count_108 rfl rfl ?_
    refine E_getr (i := 0) dX11_count_109 fl_RX11_50 rfl rfl (go_11_6 _ _) ?_
    refine E_geti (i := 0) dX11_count_112 fl_RX11_313 rfl ?_
    refine E_callV (Y' := Y_X8_dampOn) (as := [vI (σ 9 0 10)]) (st := []) dX11_count_115 lk_RX11_319 m_X8_dampOn (by decide) (Nat.le_refl _) (Nat.le_refl _) rfl rfl (Nat.le_of_ble_eq_true rfl) (s_X8_dampOn h) (fun r0 B0 σ_1 h => ?_)
    obtain ⟨r_2, rfl, rfl, h⟩ := h
    exact E_iret dX11_count_118 rfl ⟨_, rfl, rfl, h⟩
  have h := Eq.mp (if_neg hc) h
  have hc4 := hc
  clear hc
  by_cases hc : x1 = 5
  · have h := Eq.mp (if_pos hc) h
    refine E_tableIn (off := 118) (tgt := 119) dX11_count_1 (by omega) (by omega) (by rw [hc]; rfl) (by decide) ?_
    refine E_aload_n dX11_count_119 rfl rfl ?_
    refine E_getr (i := 0) dX11_count_120 fl_RX11_50 rfl rfl (go_11_6 _ _) ?_
    refine E_geti (i := 0) dX11_count_123 fl_RX11_252 rfl ?_
    exact E_iret dX11_count_126 rfl ⟨_, rfl, rfl, h⟩
  have h := Eq.mp (if_neg hc) h
  have hc5 := hc
  clear hc
  by_cases hc : x1 = 6
  · have h := Eq.mp (if_pos hc) h
    refine E_tableIn (off := 126) (tgt := 127) dX11_count_1 (by omega) (by omega) (by rw [hc]; rfl) (by decide) ?_
    refine E_aload_n dX11_count_127 rfl rfl ?_
    refine E_getr (i := 0) dX11_count_128 fl_RX11_50 rfl rfl (go_11_6 _ _) ?_
    refine E_ic dX11_count_131 rfl ?_
    refine E_callV (Y' := Y_X9_inPhase) (as := [vI 1]) (st := []) dX11_count_132 lk_RX11_322 m_X9_inPhase (by decide) (Nat.le_refl _) (Nat.le_refl _) rfl rfl (Nat.le_of_ble_eq_true rfl) (s_X9_inPhase h) (fun r0 B0 σ_3 h => ?_)
    obtain ⟨r_4, rfl, rfl, h⟩ := h
    exact E_iret dX11_count_135 rfl ⟨_, rfl, rfl, h⟩
  have h := Eq.mp (if_neg hc) h
  have hc6 := hc
  clear hc
  by_cases hc : x1 = 7
  · have h := Eq.mp (if_pos hc) h
    refine E_tableIn (off := 135) (tgt := 136) dX11_count_1 (by omega) (by omega) (by rw [hc]; rfl) (by decide) ?_
    refine E_aload_n dX11_count_136 rfl rfl ?_
    refine E_getr (i := 0) dX11_count_137 fl_RX11_50 rfl rfl (go_11_6 _ _) ?_
    refine E_ic dX11_count_140 rfl ?_
    refine E_callV (Y' := Y_X9_inPhase) (as := [vI 3]) (st := []) dX11_count_141 lk_RX11_322 m_X9_inPhase (by decide) (Nat.le_refl _) (Nat.le_refl _) rfl rfl (Nat.le_of_ble_eq_true rfl) (s_X9_inPhase h) (fun r0 B0 σ_5 h => ?_)
    obtain ⟨r_6, rfl, rfl, h⟩ := h
    exact E_iret dX11_count_144 rfl ⟨_, rfl, rfl, h⟩
  have h := Eq.mp (if_neg hc) h
  have hc7 := hc
  clear hc
  by_cases hc : x1 = 8
  · have h := Eq.mp (if_pos hc) h
    refine E_tableIn (off := 144) (tgt := 145) dX11_count_1 (by omega) (by omega) (by rw [hc]; rfl) (by decide) ?_
    refine E_aload_n dX11_count_145 rfl rfl ?_
    refine E_getr (i := 0) dX11_count_146 fl_RX11_50 rfl rfl (go_11_6 _ _) ?_
    refine E_callV (Y' := Y_X9_astray) (as := []) (st := []) dX11_count_149 lk_RX11_205 m_X9_astray (by decide) (Nat.le_refl _) (Nat.le_refl _) rfl rfl (Nat.le_of_ble_eq_true rfl) (s_X9_astray h) (fun r0 B0 σ_7 h => ?_)
    obtain ⟨r_8, rfl, rfl, h⟩ := h
    exact E_iret dX11_count_152 rfl ⟨_, rfl, rfl, h⟩
  have h := Eq.mp (if_neg hc) h
  have hc8 := hc
  clear hc
  by_cases hc : x1 = 9
  · have h := Eq.mp (if_pos hc) h
    refine E_tableIn (off := 152) (tgt := 153) dX11_count_1 (by omega) (by omega) (by rw [hc]; rfl) (by decide) ?_
    refine E_aload_n dX11_count_153 rfl rfl ?_
    refine E_getr (i := 0) dX11_count_154 fl_RX11_19 rfl rfl (go_11_1 _ _) ?_
    refine E_geti (i := 0) dX11_count_157 fl_RX11_325 rfl ?_
    exact E_iret dX11_count_160 rfl ⟨_, rfl, rfl, h⟩
  have h := Eq.mp (if_neg hc) h
  have hc9 := hc
  clear hc
  by_cases hc : x1 = 10
  · have h := Eq.mp (if_pos hc) h
    refine E_tableIn (off := 160) (tgt := 161) dX11_count_1 (by omega) (by omega) (by rw [hc]; rfl) (by decide) ?_
    refine E_aload_n dX11_count_161 rfl rfl ?_
    refine E_getr (i := 0) dX11_count_162 fl_RX11_29 rfl rfl (go_11_3 _ _) ?_
    refine E_geti (i := 0) dX11_count_165 fl_RX11_112 rfl ?_
    exact E_iret dX11_count_168 rfl ⟨_, rfl, rfl, h⟩
  have h := Eq.mp (if_neg hc) h
  have hc10 := hc
  clear hc
  by_cases hc : x1 = 11
  · have h := Eq.mp (if_pos hc) h
    refine E_tableIn (off := 168) (tgt := 169) dX11_count_1 (by omega) (by omega) (by rw [hc]; rfl) (by decide) ?_
    refine E_aload_n dX11_count_169 rfl rfl ?_
    refine E_getr (i := 0) dX11_count_170 fl_RX11_67 rfl rfl (go_11_9 _ _) ?_
    refine E_geti (i := 0) dX11_count_173 fl_RX11_115 rfl ?_
    exact E_iret dX11_count_176 rfl ⟨_, rfl, rfl, h⟩
  have h := Eq.mp (if_neg hc) h
  have hc11 := hc
  clear hc
  by_cases hc : x1 = 12
  · have h := Eq.mp (if_pos hc) h
    refine E_tableIn (off := 176) (tgt := 177) dX11_count_1 (by omega) (by omega) (by rw [hc]; rfl) (by decide) ?_
    refine E_aload_n dX11_count_177 rfl rfl ?_
    refine E_getr (i := 0) dX11_count_178 fl_RX11_60 rfl rfl (go_11_8 _ _) ?_
    refine E_geti (i := 0) dX11_count_181 fl_RX11_116 rfl ?_
    exact E_iret dX11_count_184 rfl ⟨_, rfl, rfl, h⟩
  have h := Eq.mp (if_neg hc) h
  have hc12 := hc
  clear hc
  by_cases hc : x1 = 13
  · have h := Eq.mp (if_pos hc) h
    refine E_tableIn (off := 184) (tgt := 185) dX11_count_1 (by omega) (by omega) (by rw [hc]; rfl) (by decide) ?_
    refine E_aload_n dX11_count_185 rfl rfl ?_
    refine E_getr (i := 0) dX11_count_186 fl_RX11_10 rfl rfl (go_11_0 _ _) ?_
    refine E_geti (i := 0) dX11_count_189 fl_RX11_98 rfl ?_
    exact E_iret dX11_count_192 rfl ⟨_, rfl, rfl, h⟩
  have h := Eq.mp (if_neg hc) h
  have hc13 := hc
  clear hc
  refine E_tableOut (tgt := 193) dX11_count_1 (by omega) (by decide) ?_
  refine E_ic dX11_count_193 rfl ?_
  exact E_iret dX11_count_194 rfl ⟨_, rfl, rfl, h⟩
abbrev Y_X11_within : My := (yX11_within, cX11_within, 3, some .boolean)
theorem dX11_within_0 : decode cX11_within 0 = .ok (.iload_n 0, 1) := by decide +kernel
theorem dX11_within_1 : decode cX11_within 1 = .ok (.iload_n 1, 1) := by decide +kernel
theorem dX11_within_2 : decode cX11_within 2 = .ok (.if_icmp .lt 12, 3) := by decide +kernel
theorem dX11_within_5 : decode cX11_within 5 = .ok (.iload_n 0, 1) := by decide +kernel
theorem dX11_within_6 : decode cX11_within 6 = .ok (.iload_n 2, 1) := by decide +kernel
theorem dX11_within_7 : decode cX11_within 7 = .ok (.if_icmp .gt 7, 3) := by decide +kernel
theorem dX11_within_10 : decode cX11_within 10 = .ok (.iconst 1, 1) := by decide +kernel
theorem dX11_within_11 : decode cX11_within 11 = .ok (.goto 4, 3) := by decide +kernel
theorem dX11_within_14 : decode cX11_within 14 = .ok (.iconst 0, 1) := by decide +kernel
theorem dX11_within_15 : decode cX11_within 15 = .ok (.ireturn, 1) := by decide +kernel
def P_X11_within_J14    (Q : Int → St → Prop) (σ : St) : Prop :=
  Q 0 σ
set_option maxRecDepth 20000 in
set_option maxHeartbeats 2000000 in
theorem e_P_X11_within_J14    {Q : Int → St → Prop} {σ : St}   (h : P_X11_within_J14  Q σ) : E Y_X11_within 0 0 0 (QI Q) ww 0 0 14 [none, none, none] [] σ := by
  unfold P_X11_within_J14 at h
  refine E_ic dX11_within_14 rfl ?_
  exact E_zret dX11_within_15 rfl (by decide) ⟨_, rfl, rfl, h⟩
def P_X11_within  (x0 : Int) (x1 : Int) (x2 : Int) (σ : St) (Q : Int → St → Prop) : Prop :=
  (if x0 < x1 then P_X11_within_J14 Q σ else (if x2 < x0 then P_X11_within_J14 Q σ else Q 1 σ))
set_option maxRecDepth 20000 in
set_option maxHeartbeats 2000000 in
theorem s_X11_within   {x0 : Int} {x1 : Int} {x2 : Int} {σ : St} {Q : Int → St → Prop} (h : P_X11_within x0 x1 x2 σ Q) : Cn Y_X11_within 0 0 0 ww σ [vI x0, vI x1, vI x2] (QI Q) := by
  refine Cn_of [some (vI x0), some (vI x1), some (vI x2)] (by decide) (Nat.le_of_ble_eq_true rfl) rfl ?_
  unfold P_X11_within at h
  refine E_iload_n dX11_within_0 rfl rfl ?_
  refine E_iload_n dX11_within_1 rfl rfl ?_
  refine E_icmp_lt (tgt := 14) dX11_within_2 (by decide) (fun hc => ?_) (fun hc => ?_)
  · have h := Eq.mp (if_pos hc) h
    refine E_wk2 [none, none, none] trivial ?_
    exact e_P_X11_within_J14 h
  · have h := Eq.mp (if_neg hc) h
    refine E_iload_n dX11_within_5 rfl rfl ?_
    refine E_iload_n dX11_within_6 rfl rfl ?_
    refine E_icmp_gt (tgt := 14) dX11_within_7 (by decide) (fun hc => ?_) (fun hc => ?_)
    · have h := Eq.mp (if_pos hc) h
      refine E_wk2 [none, none, none] trivial ?_
      exact e_P_X11_within_J14 h
    · have h := Eq.mp (if_neg hc) h
      refine E_ic dX11_within_10 rfl ?_
      refine E_goto (tgt := 15) dX11_within_11 (by decide) ?_
      exact E_zret dX11_within_15 rfl (by decide) ⟨_, rfl, rfl, h⟩
abbrev Y_X11_limited : My := (yX11_limited, cX11_limited, 3, some .int)
theorem dX11_limited_0 : decode cX11_limited 0 = .ok (.iload_n 1, 1) := by decide +kernel
theorem dX11_limited_1 : decode cX11_limited 1 = .ok (.iload_n 2, 1) := by decide +kernel
theorem dX11_limited_2 : decode cX11_limited 2 = .ok (.iload_n 0, 1) := by decide +kernel
theorem dX11_limited_3 : decode cX11_limited 3 = .ok (.invokestatic 328, 3) := by decide +kernel
theorem dX11_limited_6 : decode cX11_limited 6 = .ok (.invokestatic 333, 3) := by decide +kernel
theorem dX11_limited_9 : decode cX11_limited 9 = .ok (.ireturn, 1) := by decide +kernel
theorem lk_RX11_328 : Cond.methodLink RX11 328 Lib.Math.min.name ∈ tG := inG (i := 1026) (by decide +kernel) (by decide +kernel)
theorem lk_RX11_333 : Cond.methodLink RX11 333 Lib.Math.max.name ∈ tG := inG (i := 1027) (by decide +kernel) (by decide +kernel)
def P_X11_limited  (x0 : Int) (x1 : Int) (x2 : Int) (σ : St) (Q : Int → St → Prop) : Prop :=
  Q (max x1 (min x2 x0)) σ
set_option maxRecDepth 20000 in
set_option maxHeartbeats 2000000 in
theorem s_X11_limited   {x0 : Int} {x1 : Int} {x2 : Int} {σ : St} {Q : Int → St → Prop} (h : P_X11_limited x0 x1 x2 σ Q) : Cn Y_X11_limited 1 0 0 ww σ [vI x0, vI x1, vI x2] (QI Q) := by
  refine Cn_of [some (vI x0), some (vI x1), some (vI x2)] (by decide) (Nat.le_of_ble_eq_true rfl) rfl ?_
  unfold P_X11_limited at h
  refine E_iload_n dX11_limited_0 rfl rfl ?_
  refine E_iload_n dX11_limited_1 rfl rfl ?_
  refine E_iload_n dX11_limited_2 rfl rfl ?_
  refine E_mmin dX11_limited_3 lk_RX11_328 (by decide) (Nat.le_refl _) (Nat.le_refl _) (Nat.le_of_ble_eq_true rfl) ?_
  refine E_mmax dX11_limited_6 lk_RX11_333 (by decide) (Nat.le_refl _) (Nat.le_refl _) (Nat.le_of_ble_eq_true rfl) ?_
  exact E_iret dX11_limited_9 rfl ⟨_, rfl, rfl, h⟩
abbrev Y_X11_gain : My := (yX11_gain, cX11_gain, 5, some .int)
theorem dX11_gain_0 : decode cX11_gain 0 = .ok (.iload_n 0, 1) := by decide +kernel
theorem dX11_gain_1 : decode cX11_gain 1 = .ok (.iconst 1, 1) := by decide +kernel
theorem dX11_gain_2 : decode cX11_gain 2 = .ok (.if_icmp .ne 15, 3) := by decide +kernel
theorem dX11_gain_5 : decode cX11_gain 5 = .ok (.iload_n 1, 1) := by decide +kernel
theorem dX11_gain_6 : decode cX11_gain 6 = .ok (.iconst 1, 1) := by decide +kernel
theorem dX11_gain_7 : decode cX11_gain 7 = .ok (.if_icmp .ne 8, 3) := by decide +kernel
theorem dX11_gain_10 : decode cX11_gain 10 = .ok (.iload_n 2, 1) := by decide +kernel
theorem dX11_gain_11 : decode cX11_gain 11 = .ok (.ineg, 1) := by decide +kernel
theorem dX11_gain_12 : decode cX11_gain 12 = .ok (.goto 4, 3) := by decide +kernel
theorem dX11_gain_15 : decode cX11_gain 15 = .ok (.iload_n 3, 1) := by decide +kernel
theorem dX11_gain_16 : decode cX11_gain 16 = .ok (.ireturn, 1) := by decide +kernel
theorem dX11_gain_17 : decode cX11_gain 17 = .ok (.iload_n 1, 1) := by decide +kernel
theorem dX11_gain_18 : decode cX11_gain 18 = .ok (.iconst 1, 1) := by decide +kernel
theorem dX11_gain_19 : decode cX11_gain 19 = .ok (.if_icmp .ne 8, 3) := by decide +kernel
theorem dX11_gain_22 : decode cX11_gain 22 = .ok (.iload 4, 2) := by decide +kernel
theorem dX11_gain_24 : decode cX11_gain 24 = .ok (.goto 4, 3) := by decide +kernel
theorem dX11_gain_27 : decode cX11_gain 27 = .ok (.iconst 0, 1) := by decide +kernel
theorem dX11_gain_28 : decode cX11_gain 28 = .ok (.ireturn, 1) := by decide +kernel
def P_X11_gain  (x0 : Int) (x1 : Int) (x2 : Int) (x3 : Int) (x4 : Int) (σ : St) (Q : Int → St → Prop) : Prop :=
  (if x0 = 1 then (if x1 = 1 then Q (wi (-x2)) σ else Q x3 σ) else (if x1 = 1 then Q x4 σ else Q 0 σ))
set_option maxRecDepth 20000 in
set_option maxHeartbeats 2000000 in
theorem s_X11_gain   {x0 : Int} {x1 : Int} {x2 : Int} {x3 : Int} {x4 : Int} {σ : St} {Q : Int → St → Prop} (h : P_X11_gain x0 x1 x2 x3 x4 σ Q) : Cn Y_X11_gain 0 0 0 ww σ [vI x0, vI x1, vI x2, vI x3, vI x4] (QI Q) := by
  refine Cn_of [some (vI x0), some (vI x1), some (vI x2), some (vI x3), some (vI x4)] (by decide) (Nat.le_of_ble_eq_true rfl) rfl ?_
  unfold P_X11_gain at h
  refine E_iload_n dX11_gain_0 rfl rfl ?_
  refine E_ic dX11_gain_1 rfl ?_
  refine E_icmp_ne (tgt := 17) dX11_gain_2 (by decide) (fun hc => ?_) (fun hc => ?_)
  · have h := Eq.mp (if_neg hc) h
    refine E_iload_n dX11_gain_17 rfl rfl ?_
    refine E_ic dX11_gain_18 rfl ?_
    refine E_icmp_ne (tgt := 27) dX11_gain_19 (by decide) (fun hc => ?_) (fun hc => ?_)
    · have h := Eq.mp (if_neg hc) h
      refine E_ic dX11_gain_27 rfl ?_
      exact E_iret dX11_gain_28 rfl ⟨_, rfl, rfl, h⟩
    · have h := Eq.mp (if_pos hc) h
      refine E_iload dX11_gain_22 rfl ?_
      refine E_goto (tgt := 28) dX11_gain_24 (by decide) ?_
      exact E_iret dX11_gain_28 rfl ⟨_, rfl, rfl, h⟩
  · have h := Eq.mp (if_pos hc) h
    refine E_iload_n dX11_gain_5 rfl rfl ?_
    refine E_ic dX11_gain_6 rfl ?_
    refine E_icmp_ne (tgt := 15) dX11_gain_7 (by decide) (fun hc => ?_) (fun hc => ?_)
    · have h := Eq.mp (if_neg hc) h
      refine E_iload_n dX11_gain_15 rfl rfl ?_
      exact E_iret dX11_gain_16 rfl ⟨_, rfl, rfl, h⟩
    · have h := Eq.mp (if_pos hc) h
      refine E_iload_n dX11_gain_10 rfl rfl ?_
      refine E_ineg dX11_gain_11 ?_
      refine E_goto (tgt := 16) dX11_gain_12 (by decide) ?_
      exact E_iret dX11_gain_16 rfl ⟨_, rfl, rfl, h⟩
