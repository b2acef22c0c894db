abbrev Y_X12_thrown : My := (yX12_thrown, cX12_thrown, 1, some .int)
theorem dX12_thrown_0 : decode cX12_thrown 0 = .ok (.aload_n 0, 1) := by decide +kernel
theorem dX12_thrown_1 : decode cX12_thrown 1 = .ok (.getfield 141, 3) := by decide +kernel
theorem dX12_thrown_4 : decode cX12_thrown 4 = .ok (.ireturn, 1) := by decide +kernel
theorem fl_RX12_141 : FL RX12 141 12 0 := ⟨inG (i := 1400) (by decide +kernel) (by decide +kernel), by decide, by decide⟩
def P_X12_thrown   (σ : St) (Q : Int → St → Prop) : Prop :=
  Q (σ 12 0 0) σ
set_option maxRecDepth 20000 in
set_option maxHeartbeats 2000000 in
theorem s_X12_thrown    {σ : St} {Q : Int → St → Prop} (h : P_X12_thrown  σ Q) : Cn Y_X12_thrown 0 0 0 ww σ [vR 12 0] (QI Q) := by
  refine Cn_of [some (vR 12 0)] (by decide) (Nat.le_of_ble_eq_true rfl) rfl ?_
  unfold P_X12_thrown at h
  refine E_aload_n dX12_thrown_0 rfl rfl ?_
  refine E_geti (i := 0) dX12_thrown_1 fl_RX12_141 rfl ?_
  exact E_iret dX12_thrown_4 rfl ⟨_, rfl, rfl, h⟩
abbrev Y_X12_within : My := (yX12_within, cX12_within, 3, some .boolean)
theorem dX12_within_0 : decode cX12_within 0 = .ok (.iload_n 0, 1) := by decide +kernel
theorem dX12_within_1 : decode cX12_within 1 = .ok (.iload_n 1, 1) := by decide +kernel
theorem dX12_within_2 : decode cX12_within 2 = .ok (.if_icmp .lt 12, 3) := by decide +kernel
theorem dX12_within_5 : decode cX12_within 5 = .ok (.iload_n 0, 1) := by decide +kernel
theorem dX12_within_6 : decode cX12_within 6 = .ok (.iload_n 2, 1) := by decide +kernel
theorem dX12_within_7 : decode cX12_within 7 = .ok (.if_icmp .gt 7, 3) := by decide +kernel
theorem dX12_within_10 : decode cX12_within 10 = .ok (.iconst 1, 1) := by decide +kernel
theorem dX12_within_11 : decode cX12_within 11 = .ok (.goto 4, 3) := by decide +kernel
theorem dX12_within_14 : decode cX12_within 14 = .ok (.iconst 0, 1) := by decide +kernel
theorem dX12_within_15 : decode cX12_within 15 = .ok (.ireturn, 1) := by decide +kernel
def P_X12_within_J14    (Q : Int → St → Prop) (σ : St) : Prop :=
  Q 0 σ
set_option maxRecDepth 20000 in
set_option maxHeartbeats 2000000 in
theorem e_P_X12_within_J14    {Q : Int → St → Prop} {σ : St}   (h : P_X12_within_J14  Q σ) : E Y_X12_within 0 0 0 (QI Q) ww 0 0 14 [none, none, none] [] σ := by
  unfold P_X12_within_J14 at h
  refine E_ic dX12_within_14 rfl ?_
  exact E_zret dX12_within_15 rfl (by decide) ⟨_, rfl, rfl, h⟩
def P_X12_within  (x0 : Int) (x1 : Int) (x2 : Int) (σ : St) (Q : Int → St → Prop) : Prop :=
  (if x0 < x1 then P_X12_within_J14 Q σ else (if x2 < x0 then P_X12_within_J14 Q σ else Q 1 σ))
set_option maxRecDepth 20000 in
set_option maxHeartbeats 2000000 in
theorem s_X12_within   {x0 : Int} {x1 : Int} {x2 : Int} {σ : St} {Q : Int → St → Prop} (h : P_X12_within x0 x1 x2 σ Q) : Cn Y_X12_within 0 0 0 ww σ [vI x0, vI x1, vI x2] (QI Q) := by
  refine Cn_of [some (vI x0), some (vI x1), some (vI x2)] (by decide) (Nat.le_of_ble_eq_true rfl) rfl ?_
  unfold P_X12_within at h
  refine E_iload_n dX12_within_0 rfl rfl ?_
  refine E_iload_n dX12_within_1 rfl rfl ?_
  refine E_icmp_lt (tgt := 14) dX12_within_2 (by decide) (fun hc => ?_) (fun hc => ?_)
  · have h := Eq.mp (if_pos hc) h
    refine E_wk2 [none, none, none] trivial ?_
    exact e_P_X12_within_J14 h
  · have h := Eq.mp (if_neg hc) h
    refine E_iload_n dX12_within_5 rfl rfl ?_
    refine E_iload_n dX12_within_6 rfl rfl ?_
    refine E_icmp_gt (tgt := 14) dX12_within_7 (by decide) (fun hc => ?_) (fun hc => ?_)
    · have h := Eq.mp (if_pos hc) h
      refine E_wk2 [none, none, none] trivial ?_
      exact e_P_X12_within_J14 h
    · have h := Eq.mp (if_neg hc) h
      refine E_ic dX12_within_10 rfl ?_
      refine E_goto (tgt := 15) dX12_within_11 (by decide) ?_
      exact E_zret dX12_within_15 rfl (by decide) ⟨_, rfl, rfl, h⟩
abbrev Y_X12_between : My := (yX12_between, cX12_between, 3, some .int)
theorem dX12_between_0 : decode cX12_between 0 = .ok (.iload_n 0, 1) := by decide +kernel
theorem dX12_between_1 : decode cX12_between 1 = .ok (.iload_n 1, 1) := by decide +kernel
theorem dX12_between_2 : decode cX12_between 2 = .ok (.if_icmp .ge 7, 3) := by decide +kernel
theorem dX12_between_5 : decode cX12_between 5 = .ok (.iload_n 1, 1) := by decide +kernel
theorem dX12_between_6 : decode cX12_between 6 = .ok (.goto 13, 3) := by decide +kernel
theorem dX12_between_9 : decode cX12_between 9 = .ok (.iload_n 0, 1) := by decide +kernel
theorem dX12_between_10 : decode cX12_between 10 = .ok (.iload_n 2, 1) := by decide +kernel
theorem dX12_between_11 : decode cX12_between 11 = .ok (.if_icmp .le 7, 3) := by decide +kernel
theorem dX12_between_14 : decode cX12_between 14 = .ok (.iload_n 2, 1) := by decide +kernel
theorem dX12_between_15 : decode cX12_between 15 = .ok (.goto 4, 3) := by decide +kernel
theorem dX12_between_18 : decode cX12_between 18 = .ok (.iload_n 0, 1) := by decide +kernel
theorem dX12_between_19 : decode cX12_between 19 = .ok (.ireturn, 1) := by decide +kernel
def P_X12_between  (x0 : Int) (x1 : Int) (x2 : Int) (σ : St) (Q : Int → St → Prop) : Prop :=
  (if x1 ≤ x0 then (if x0 ≤ x2 then Q x0 σ else Q x2 σ) else Q x1 σ)
set_option maxRecDepth 20000 in
set_option maxHeartbeats 2000000 in
theorem s_X12_between   {x0 : Int} {x1 : Int} {x2 : Int} {σ : St} {Q : Int → St → Prop} (h : P_X12_between x0 x1 x2 σ Q) : Cn Y_X12_between 0 0 0 ww σ [vI x0, vI x1, vI x2] (QI Q) := by
  refine Cn_of [some (vI x0), some (vI x1), some (vI x2)] (by decide) (Nat.le_of_ble_eq_true rfl) rfl ?_
  unfold P_X12_between at h
  refine E_iload_n dX12_between_0 rfl rfl ?_
  refine E_iload_n dX12_between_1 rfl rfl ?_
  refine E_icmp_ge (tgt := 9) dX12_between_2 (by decide) (fun hc => ?_) (fun hc => ?_)
  · have h := Eq.mp (if_pos hc) h
    refine E_iload_n dX12_between_9 rfl rfl ?_
    refine E_iload_n dX12_between_10 rfl rfl ?_
    refine E_icmp_le (tgt := 18) dX12_between_11 (by decide) (fun hc => ?_) (fun hc => ?_)
    · have h := Eq.mp (if_pos hc) h
      refine E_iload_n dX12_between_18 rfl rfl ?_
      exact E_iret dX12_between_19 rfl ⟨_, rfl, rfl, h⟩
    · have h := Eq.mp (if_neg hc) h
      refine E_iload_n dX12_between_14 rfl rfl ?_
      refine E_goto (tgt := 19) dX12_between_15 (by decide) ?_
      exact E_iret dX12_between_19 rfl ⟨_, rfl, rfl, h⟩
  · have h := Eq.mp (if_neg hc) h
    refine E_iload_n dX12_between_5 rfl rfl ?_
    refine E_goto (tgt := 19) dX12_between_6 (by decide) ?_
    exact E_iret dX12_between_19 rfl ⟨_, rfl, rfl, h⟩
abbrev Y_X12_bits : My := (yX12_bits, cX12_bits, 3, some .int)
theorem dX12_bits_0 : decode cX12_bits 0 = .ok (.iconst 0, 1) := by decide +kernel
theorem dX12_bits_1 : decode cX12_bits 1 = .ok (.istore_n 1, 1) := by decide +kernel
theorem dX12_bits_2 : decode cX12_bits 2 = .ok (.iconst 0, 1) := by decide +kernel
theorem dX12_bits_3 : decode cX12_bits 3 = .ok (.istore_n 2, 1) := by decide +kernel
theorem dX12_bits_4 : decode cX12_bits 4 = .ok (.iload_n 2, 1) := by decide +kernel
theorem dX12_bits_5 : decode cX12_bits 5 = .ok (.bipush 6, 2) := by decide +kernel
theorem dX12_bits_7 : decode cX12_bits 7 = .ok (.if_icmp .ge 17, 3) := by decide +kernel
theorem dX12_bits_10 : decode cX12_bits 10 = .ok (.iload_n 1, 1) := by decide +kernel
theorem dX12_bits_11 : decode cX12_bits 11 = .ok (.iload_n 0, 1) := by decide +kernel
theorem dX12_bits_12 : decode cX12_bits 12 = .ok (.iload_n 2, 1) := by decide +kernel
theorem dX12_bits_13 : decode cX12_bits 13 = .ok (.ishr, 1) := by decide +kernel
theorem dX12_bits_14 : decode cX12_bits 14 = .ok (.iconst 1, 1) := by decide +kernel
theorem dX12_bits_15 : decode cX12_bits 15 = .ok (.iand, 1) := by decide +kernel
theorem dX12_bits_16 : decode cX12_bits 16 = .ok (.iadd, 1) := by decide +kernel
theorem dX12_bits_17 : decode cX12_bits 17 = .ok (.istore_n 1, 1) := by decide +kernel
theorem dX12_bits_18 : decode cX12_bits 18 = .ok (.iinc 2 1, 3) := by decide +kernel
theorem dX12_bits_21 : decode cX12_bits 21 = .ok (.goto (-17), 3) := by decide +kernel
theorem dX12_bits_24 : decode cX12_bits 24 = .ok (.iload_n 1, 1) := by decide +kernel
theorem dX12_bits_25 : decode cX12_bits 25 = .ok (.ireturn, 1) := by decide +kernel
def P_X12_bits_L4  (x0 : Int)  (Q : Int → St → Prop) : Nat → Int → Int → St → Prop
  | 0, _, _, _ => False
  | n + 1, x1, x2, σ => (if 6 ≤ x2 then Q x1 σ else (P_X12_bits_L4 x0 Q n) (wi (x1 + (bA (bR x0 x2) 1))) (wi (x2 + 1)) σ)
set_option maxRecDepth 20000 in
set_option maxHeartbeats 2000000 in
theorem e_P_X12_bits_L4  {x0 : Int}  {Q : Int → St → Prop}   : ∀ (n : Nat) (x1 : Int) (x2 : Int) (σ : St), P_X12_bits_L4 x0 Q n x1 x2 σ → E Y_X12_bits 0 0 0 (QI Q) ww 0 0 4 [some (vI x0), some (vI x1), some (vI x2)] [] σ := by
  intro n
  induction n with
  | zero => intro x1 x2 σ h; exact h.elim
  | succ n hR =>
    intro x1 x2 σ h
    unfold P_X12_bits_L4 at h
    refine E_iload_n dX12_bits_4 rfl rfl ?_
    refine E_bp dX12_bits_5 rfl ?_
    refine E_icmp_ge (tgt := 24) dX12_bits_7 (by decide) (fun hc => ?_) (fun hc => ?_)
    · have h := Eq.mp (if_pos hc) h
      refine E_iload_n dX12_bits_24 rfl rfl ?_
      exact E_iret dX12_bits_25 rfl ⟨_, rfl, rfl, h⟩
    · have h := Eq.mp (if_neg hc) h
      refine E_iload_n dX12_bits_10 rfl rfl ?_
      refine E_iload_n dX12_bits_11 rfl rfl ?_
      refine E_iload_n dX12_bits_12 rfl rfl ?_
      refine E_ishr dX12_bits_13 ?_
      refine E_ic dX12_bits_14 rfl ?_
      refine E_iand dX12_bits_15 ?_
      refine E_iadd dX12_bits_16 ?_
      refine E_istore_n (ls' := [some (vI x0), some (vI (wi (x1 + (bA (bR x0 x2) 1)))), some (vI x2)]) dX12_bits_17 rfl (by decide) rfl ?_
      refine E_iinc (ls' := [some (vI x0), some (vI (wi (x1 + (bA (bR x0 x2) 1)))), some (vI (wi (x2 + 1)))]) dX12_bits_18 rfl (by decide) rfl rfl ?_
      refine E_goto (tgt := 4) dX12_bits_21 (by decide) ?_
      exact hR _ _ _ h
def P_X12_bits  (x0 : Int) (σ : St) (Q : Int → St → Prop) : Prop :=
  P_X12_bits_L4 x0 Q FU 0 0 σ
set_option maxRecDepth 20000 in
set_option maxHeartbeats 2000000 in
theorem s_X12_bits   {x0 : Int} {σ : St} {Q : Int → St → Prop} (h : P_X12_bits x0 σ Q) : Cn Y_X12_bits 0 0 0 ww σ [vI x0] (QI Q) := by
  refine Cn_of [some (vI x0), none, none] (by decide) (Nat.le_of_ble_eq_true rfl) rfl ?_
  unfold P_X12_bits at h
  refine E_ic dX12_bits_0 rfl ?_
  refine E_istore_n (ls' := [some (vI x0), some (vI 0), none]) dX12_bits_1 rfl (by decide) rfl ?_
  refine E_ic dX12_bits_2 rfl ?_
  refine E_istore_n (ls' := [some (vI x0), some (vI 0), some (vI 0)]) dX12_bits_3 rfl (by decide) rfl ?_
  refine e_P_X12_bits_L4  _ _ _ _ h
abbrev Y_X12_feed : My := (yX12_feed, cX12_feed, 11, some .int)
theorem dX12_feed_0 : decode cX12_feed 0 = .ok (.aload_n 0, 1) := by decide +kernel
theorem dX12_feed_1 : decode cX12_feed 1 = .ok (.iconst 0, 1) := by decide +kernel
theorem dX12_feed_2 : decode cX12_feed 2 = .ok (.putfield 141, 3) := by decide +kernel
theorem dX12_feed_5 : decode cX12_feed 5 = .ok (.iconst 0, 1) := by decide +kernel
theorem dX12_feed_6 : decode cX12_feed 6 = .ok (.istore 7, 2) := by decide +kernel
theorem dX12_feed_8 : decode cX12_feed 8 = .ok (.iload 7, 2) := by decide +kernel
theorem dX12_feed_10 : decode cX12_feed 10 = .ok (.bipush 24, 2) := by decide +kernel
theorem dX12_feed_12 : decode cX12_feed 12 = .ok (.if_icmp .ge 108, 3) := by decide +kernel
theorem dX12_feed_15 : decode cX12_feed 15 = .ok (.iload 7, 2) := by decide +kernel
theorem dX12_feed_17 : decode cX12_feed 17 = .ok (.bipush 8, 2) := by decide +kernel
theorem dX12_feed_19 : decode cX12_feed 19 = .ok (.if_icmp .ge 7, 3) := by decide +kernel
theorem dX12_feed_22 : decode cX12_feed 22 = .ok (.lload_n 1, 1) := by decide +kernel
theorem dX12_feed_23 : decode cX12_feed 23 = .ok (.goto 16, 3) := by decide +kernel
theorem dX12_feed_26 : decode cX12_feed 26 = .ok (.iload 7, 2) := by decide +kernel
theorem dX12_feed_28 : decode cX12_feed 28 = .ok (.bipush 16, 2) := by decide +kernel
theorem dX12_feed_30 : decode cX12_feed 30 = .ok (.if_icmp .ge 7, 3) := by decide +kernel
theorem dX12_feed_33 : decode cX12_feed 33 = .ok (.lload_n 3, 1) := by decide +kernel
theorem dX12_feed_34 : decode cX12_feed 34 = .ok (.goto 5, 3) := by decide +kernel
theorem dX12_feed_37 : decode cX12_feed 37 = .ok (.lload 5, 2) := by decide +kernel
theorem dX12_feed_39 : decode cX12_feed 39 = .ok (.lstore 8, 2) := by decide +kernel
theorem dX12_feed_41 : decode cX12_feed 41 = .ok (.lload 8, 2) := by decide +kernel
theorem dX12_feed_43 : decode cX12_feed 43 = .ok (.bipush 56, 2) := by decide +kernel
theorem dX12_feed_45 : decode cX12_feed 45 = .ok (.bipush 8, 2) := by decide +kernel
theorem dX12_feed_47 : decode cX12_feed 47 = .ok (.iload 7, 2) := by decide +kernel
theorem dX12_feed_49 : decode cX12_feed 49 = .ok (.bipush 7, 2) := by decide +kernel
theorem dX12_feed_51 : decode cX12_feed 51 = .ok (.iand, 1) := by decide +kernel
theorem dX12_feed_52 : decode cX12_feed 52 = .ok (.imul, 1) := by decide +kernel
theorem dX12_feed_53 : decode cX12_feed 53 = .ok (.isub, 1) := by decide +kernel
theorem dX12_feed_54 : decode cX12_feed 54 = .ok (.lushr, 1) := by decide +kernel
theorem dX12_feed_55 : decode cX12_feed 55 = .ok (.ldc2_w 145, 3) := by decide +kernel
theorem dX12_feed_58 : decode cX12_feed 58 = .ok (.land, 1) := by decide +kernel
theorem dX12_feed_59 : decode cX12_feed 59 = .ok (.l2i, 1) := by decide +kernel
theorem dX12_feed_60 : decode cX12_feed 60 = .ok (.istore 10, 2) := by decide +kernel
theorem dX12_feed_62 : decode cX12_feed 62 = .ok (.aload_n 0, 1) := by decide +kernel
theorem dX12_feed_63 : decode cX12_feed 63 = .ok (.getfield 147, 3) := by decide +kernel
theorem dX12_feed_66 : decode cX12_feed 66 = .ok (.sipush 1000, 3) := by decide +kernel
theorem dX12_feed_69 : decode cX12_feed 69 = .ok (.if_icmp .ge 45, 3) := by decide +kernel
theorem dX12_feed_72 : decode cX12_feed 72 = .ok (.iload 10, 2) := by decide +kernel
theorem dX12_feed_74 : decode cX12_feed 74 = .ok (.bipush 10, 2) := by decide +kernel
theorem dX12_feed_76 : decode cX12_feed 76 = .ok (.if_icmp .eq 17, 3) := by decide +kernel
theorem dX12_feed_79 : decode cX12_feed 79 = .ok (.iload 10, 2) := by decide +kernel
theorem dX12_feed_81 : decode cX12_feed 81 = .ok (.bipush 32, 2) := by decide +kernel
theorem dX12_feed_83 : decode cX12_feed 83 = .ok (.if_icmp .lt 31, 3) := by decide +kernel
theorem dX12_feed_86 : decode cX12_feed 86 = .ok (.iload 10, 2) := by decide +kernel
theorem dX12_feed_88 : decode cX12_feed 88 = .ok (.bipush 126, 2) := by decide +kernel
theorem dX12_feed_90 : decode cX12_feed 90 = .ok (.if_icmp .gt 24, 3) := by decide +kernel
theorem dX12_feed_93 : decode cX12_feed 93 = .ok (.aload_n 0, 1) := by decide +kernel
theorem dX12_feed_94 : decode cX12_feed 94 = .ok (.getfield 7, 3) := by decide +kernel
theorem dX12_feed_97 : decode cX12_feed 97 = .ok (.aload_n 0, 1) := by decide +kernel
theorem dX12_feed_98 : decode cX12_feed 98 = .ok (.getfield 147, 3) := by decide +kernel
theorem dX12_feed_101 : decode cX12_feed 101 = .ok (.iload 10, 2) := by decide +kernel
theorem dX12_feed_103 : decode cX12_feed 103 = .ok (.iastore, 1) := by decide +kernel
theorem dX12_feed_104 : decode cX12_feed 104 = .ok (.aload_n 0, 1) := by decide +kernel
theorem dX12_feed_105 : decode cX12_feed 105 = .ok (.dup, 1) := by decide +kernel
theorem dX12_feed_106 : decode cX12_feed 106 = .ok (.getfield 147, 3) := by decide +kernel
theorem dX12_feed_109 : decode cX12_feed 109 = .ok (.iconst 1, 1) := by decide +kernel
theorem dX12_feed_110 : decode cX12_feed 110 = .ok (.iadd, 1) := by decide +kernel
theorem dX12_feed_111 : decode cX12_feed 111 = .ok (.putfield 147, 3) := by decide +kernel
theorem dX12_feed_114 : decode cX12_feed 114 = .ok (.iinc 7 1, 3) := by decide +kernel
theorem dX12_feed_117 : decode cX12_feed 117 = .ok (.goto (-109), 3) := by decide +kernel
theorem dX12_feed_120 : decode cX12_feed 120 = .ok (.aload_n 0, 1) := by decide +kernel
theorem dX12_feed_121 : decode cX12_feed 121 = .ok (.getfield 147, 3) := by decide +kernel
theorem dX12_feed_124 : decode cX12_feed 124 = .ok (.ireturn, 1) := by decide +kernel
theorem fl_RX12_147 : FL RX12 147 12 1 := ⟨inG (i := 1401) (by decide +kernel) (by decide +kernel), by decide, by decide⟩
theorem fl_RX12_7 : FL RX12 7 12 2 := ⟨inG (i := 1402) (by decide +kernel) (by decide +kernel), by decide, by decide⟩
theorem go_12_2 (σ : St) (i : Nat) : go σ 12 i 2 = (1302, i) := rfl
theorem kl_RX12_145 : Cond.constantLong RX12 145 (255) ∈ tG := inG (i := 1586) (by decide +kernel) (by decide +kernel)
theorem sh_1302 : shp 1302 = (0, 1000) := rfl
def P_X12_feed_J93  (x1 : Int) (x3 : Int) (x5 : Int) (x7 : Int) (x10 : Int) (R : Int → St → Prop) (Q : Int → St → Prop) (σ : St) : Prop :=
  0 ≤ σ 12 0 1 ∧ σ 12 0 1 < 1000 ∧ R (wi (x7 + 1)) (up (up σ 1302 0 (σ 12 0 1) x10) 12 0 1 (wi (((up σ 1302 0 (σ 12 0 1) x10) 12 0 1) + 1)))
set_option maxRecDepth 20000 in
set_option maxHeartbeats 2000000 in
theorem e_P_X12_feed_J93  {x1 : Int} {x3 : Int} {x5 : Int} {x7 : Int} {x10 : Int} {R : Int → St → Prop} {Q : Int → St → Prop} {σ : St}  (hR : ∀ x7 σ, R x7 σ → E Y_X12_feed 0 0 0 (QI Q) ww 0 0 8 [some (vR 12 0), some (vL x1), none, some (vL x3), none, some (vL x5), none, some (vI x7), none, none, none] [] σ) (h : P_X12_feed_J93 x1 x3 x5 x7 x10 R Q σ) : E Y_X12_feed 0 0 0 (QI Q) ww 0 0 93 [some (vR 12 0), some (vL x1), none, some (vL x3), none, some (vL x5), none, some (vI x7), none, none, some (vI x10)] [] σ := by
  unfold P_X12_feed_J93 at h
  refine E_aload_n dX12_feed_93 rfl rfl ?_
  refine E_getr (i := 0) dX12_feed_94 fl_RX12_7 rfl rfl (go_12_2 _ _) ?_
  refine E_aload_n dX12_feed_97 rfl rfl ?_
  refine E_geti (i := 0) dX12_feed_98 fl_RX12_147 rfl ?_
  refine E_iload dX12_feed_101 rfl ?_
  obtain ⟨hg0, hg1, h⟩ := h
  refine E_iast dX12_feed_103 sh_1302 hg0 hg1 ?_
  refine E_aload_n dX12_feed_104 rfl rfl ?_
  refine E_dup dX12_feed_105 (fun _ q => by cases q) ?_
  refine E_geti (i := 0) dX12_feed_106 fl_RX12_147 rfl ?_
  refine E_ic dX12_feed_109 rfl ?_
  refine E_iadd dX12_feed_110 ?_
  refine E_puti dX12_feed_111 fl_RX12_147 rfl rfl rfl ?_
  refine E_iinc (ls' := [some (vR 12 0), some (vL x1), none, some (vL x3), none, some (vL x5), none, some (vI (wi (x7 + 1))), none, none, some (vI x10)]) dX12_feed_114 rfl (by decide) rfl rfl ?_
  refine E_goto (tgt := 8) dX12_feed_117 (by decide) ?_
  refine E_wk2 [some (vR 12 0), some (vL x1), none, some (vL x3), none, some (vL x5), none, some (vI (wi (x7 + 1))), none, none, none] ⟨rfl, ⟨rfl, ⟨rfl, ⟨rfl, ⟨rfl, trivial⟩⟩⟩⟩⟩ ?_
  exact hR _ _ h
def P_X12_feed_J39  (x1 : Int) (x3 : Int) (x5 : Int) (x7 : Int) (y0 : Int) (R : Int → St → Prop) (Q : Int → St → Prop) (σ : St) : Prop :=
  (if 1000 ≤ (σ 12 0 1) then R (wi (x7 + 1)) σ else (if (wi (lA (lU y0 (wi (56 - (wi (8 * (bA x7 7)))))) 255)) = 10 then P_X12_feed_J93 x1 x3 x5 x7 (wi (lA (lU y0 (wi (56 - (wi (8 * (bA x7 7)))))) 255)) R Q σ else (if (wi (lA (lU y0 (wi (56 - (wi (8 * (bA x7 7)))))) 255)) < 32 then R (wi (x7 + 1)) σ else (if 126 < (wi (lA (lU y0 (wi (56 - (wi (8 * (bA x7 7)))))) 255)) then R (wi (x7 + 1)) σ else P_X12_feed_J93 x1 x3 x5 x7 (wi (lA (lU y0 (wi (56 - (wi (8 * (bA x7 7)))))) 255)) R Q σ))))
set_option maxRecDepth 20000 in
set_option maxHeartbeats 2000000 in
theorem e_P_X12_feed_J39  {x1 : Int} {x3 : Int} {x5 : Int} {x7 : Int} {y0 : Int} {R : Int → St → Prop} {Q : Int → St → Prop} {σ : St}  (hR : ∀ x7 σ, R x7 σ → E Y_X12_feed 0 0 0 (QI Q) ww 0 0 8 [some (vR 12 0), some (vL x1), none, some (vL x3), none, some (vL x5), none, some (vI x7), none, none, none] [] σ) (h : P_X12_feed_J39 x1 x3 x5 x7 y0 R Q σ) : E Y_X12_feed 0 0 0 (QI Q) ww 0 0 39 [some (vR 12 0), some (vL x1), none, some (vL x3), none, some (vL x5), none, some (vI x7), none, none, none] [vL y0] σ := by
  unfold P_X12_feed_J39 at h
  refine E_lstore (ls' := [some (vR 12 0), some (vL x1), none, some (vL x3), none, some (vL x5), none, some (vI x7), some (vL y0), none, none]) dX12_feed_39 (by decide) rfl ?_
  refine E_lload dX12_feed_41 rfl ?_
  refine E_bp dX12_feed_43 rfl ?_
  refine E_bp dX12_feed_45 rfl ?_
  refine E_iload dX12_feed_47 rfl ?_
  refine E_bp dX12_feed_49 rfl ?_
  refine E_iand dX12_feed_51 ?_
  refine E_imul dX12_feed_52 ?_
  refine E_isub dX12_feed_53 ?_
  refine E_lushr dX12_feed_54 ?_
  refine E_ldc2 (z := 255) dX12_feed_55 kl_RX12_145 (by decide) ?_
  refine E_land dX12_feed_58 ?_
  refine E_l2i dX12_feed_59 ?_
  refine E_istore (ls' := [some (vR 12 0), some (vL x1), none, some (vL x3), none, some (vL x5), none, some (vI x7), some (vL y0), none, some (vI (wi (lA (lU y0 (wi (56 - (wi (8 * (bA x7 7)))))) 255)))]) dX12_feed_60 (by decide) rfl ?_
  refine E_aload_n dX12_feed_62 rfl rfl ?_
  refine E_geti (i := 0) dX12_feed_63 fl_RX12_147 rfl ?_
  refine E_sp dX12_feed_66 rfl ?_
  refine E_icmp_ge (tgt := 114) dX12_feed_69 (by decide) (fun hc => ?_) (fun hc => ?_)
  · have h := Eq.mp (if_pos hc) h
    refine E_iinc (ls' := [some (vR 12 0), some (vL x1), none, some (vL x3), none, some (vL x5), none, some (vI (wi (x7 + 1))), some (vL y0), none, some (vI (wi (lA (lU y0 (wi (56 - (wi (8 * (bA x7 7)))))) 255)))]) dX12_feed_114 rfl (by decide) rfl rfl ?_
    refine E_goto (tgt := 8) dX12_feed_117 (by decide) ?_
    refine E_wk2 [some (vR 12 0), some (vL x1), none, some (vL x3), none, some (vL x5), none, some (vI (wi (x7 + 1))), none, none, none] ⟨rfl, ⟨rfl, ⟨rfl, ⟨rfl, ⟨rfl, trivial⟩⟩⟩⟩⟩ ?_
    exact hR _ _ h
  · have h := Eq.mp (if_neg hc) h
    refine E_iload dX12_feed_72 rfl ?_
    refine E_bp dX12_feed_74 rfl ?_
    refine E_icmp_eq (tgt := 93) dX12_feed_76 (by decide) (fun hc => ?_) (fun hc => ?_)
    · have h := Eq.mp (if_pos hc) h
      refine E_wk2 [some (vR 12 0), some (vL x1), none, some (vL x3), none, some (vL x5), none, some (vI x7), none, none, some (vI (wi (lA (lU y0 (wi (56 - (wi (8 * (bA x7 7)))))) 255)))] ⟨rfl, ⟨rfl, ⟨rfl, ⟨rfl, ⟨rfl, ⟨rfl, trivial⟩⟩⟩⟩⟩⟩ ?_
      exact e_P_X12_feed_J93 hR h
    · have h := Eq.mp (if_neg hc) h
      refine E_iload dX12_feed_79 rfl ?_
      refine E_bp dX12_feed_81 rfl ?_
      refine E_icmp_lt (tgt := 114) dX12_feed_83 (by decide) (fun hc => ?_) (fun hc => ?_)
      · have h := Eq.mp (if_pos hc) h
        refine E_iinc (ls' := [some (vR 12 0), some (vL x1), none, some (vL x3), none, some (vL x5), none, some (vI (wi (x7 + 1))), some (vL y0), none, some (vI (wi (lA (lU y0 (wi (56 - (wi (8 * (bA x7 7)))))) 255)))]) dX12_feed_114 rfl (by decide) rfl rfl ?_
        refine E_goto (tgt := 8) dX12_feed_117 (by decide) ?_
        refine E_wk2 [some (vR 12 0), some (vL x1), none, some (vL x3), none, some (vL x5), none, some (vI (wi (x7 + 1))), none, none, none] ⟨rfl, ⟨rfl, ⟨rfl, ⟨rfl, ⟨rfl, trivial⟩⟩⟩⟩⟩ ?_
        exact hR _ _ h
      · have h := Eq.mp (if_neg hc) h
        refine E_iload dX12_feed_86 rfl ?_
        refine E_bp dX12_feed_88 rfl ?_
        refine E_icmp_gt (tgt := 114) dX12_feed_90 (by decide) (fun hc => ?_) (fun hc => ?_)
        · have h := Eq.mp (if_pos hc) h
          refine E_iinc (ls' := [some (vR 12 0), some (vL x1), none, some (vL x3), none, some (vL x5), none, some (vI (wi (x7 + 1))), some (vL y0), none, some (vI (wi (lA (lU y0 (wi (56 - (wi (8 * (bA x7 7)))))) 255)))]) dX12_feed_114 rfl (by decide) rfl rfl ?_
          refine E_goto (tgt := 8) dX12_feed_117 (by decide) ?_
          refine E_wk2 [some (vR 12 0), some (vL x1), none, some (vL x3), none, some (vL x5), none, some (vI (wi (x7 + 1))), none, none, none] ⟨rfl, ⟨rfl, ⟨rfl, ⟨rfl, ⟨rfl, trivial⟩⟩⟩⟩⟩ ?_
          exact hR _ _ h
        · have h := Eq.mp (if_neg hc) h
          refine E_wk2 [some (vR 12 0), some (vL x1), none, some (vL x3), none, some (vL x5), none, some (vI x7), none, none, some (vI (wi (lA (lU y0 (wi (56 - (wi (8 * (bA x7 7)))))) 255)))] ⟨rfl, ⟨rfl, ⟨rfl, ⟨rfl, ⟨rfl, ⟨rfl, trivial⟩⟩⟩⟩⟩⟩ ?_
          exact e_P_X12_feed_J93 hR h
def P_X12_feed_L8  (x1 : Int) (x3 : Int) (x5 : Int)  (Q : Int → St → Prop) : Nat → Int → St → Prop
  | 0, _, _ => False
  | n + 1, x7, σ => (if 24 ≤ x7 then Q (σ 12 0 1) σ else (if 8 ≤ x7 then (if 16 ≤ x7 then P_X12_feed_J39 x1 x3 x5 x7 x5 (P_X12_feed_L8 x1 x3 x5 Q n) Q σ else P_X12_feed_J39 x1 x3 x5 x7 x3 (P_X12_feed_L8 x1 x3 x5 Q n) Q σ) else P_X12_feed_J39 x1 x3 x5 x7 x1 (P_X12_feed_L8 x1 x3 x5 Q n) Q σ))
set_option maxRecDepth 20000 in
set_option maxHeartbeats 2000000 in
theorem e_P_X12_feed_L8  {x1 : Int} {x3 : Int} {x5 : Int}  {Q : Int → St → Prop}   : ∀ (n : Nat) (x7 : Int) (σ : St), P_X12_feed_L8 x1 x3 x5 Q n x7 σ → E Y_X12_feed 0 0 0 (QI Q) ww 0 0 8 [some (vR 12 0), some (vL x1), none, some (vL x3), none, some (vL x5), none, some (vI x7), none, none, none] [] σ := by
  intro n
  induction n with
  | zero => intro x7 σ h; exact h.elim
  | succ n hR =>
    intro x7 σ h
    unfold P_X12_feed_L8 at h
    refine E_iload dX12_feed_8 rfl ?_
    refine E_bp dX12_feed_10 rfl ?_
    refine E_icmp_ge (tgt := 120) dX12_feed_12 (by decide) (fun hc => ?_) (fun hc => ?_)
    · have h := Eq.mp (if_pos hc) h
      refine E_aload_n dX12_feed_120 rfl rfl ?_
      refine E_geti (i := 0) dX12_feed_121 fl_RX12_147 rfl ?_
      exact E_iret dX12_feed_124 rfl ⟨_, rfl, rfl, h⟩
    · have h := Eq.mp (if_neg hc) h
      refine E_iload dX12_feed_15 rfl ?_
      refine E_bp dX12_feed_17 rfl ?_
      refine E_icmp_ge (tgt := 26) dX12_feed_19 (by decide) (fun hc => ?_) (fun hc => ?_)
      · have h := Eq.mp (if_pos hc) h
        refine E_iload dX12_feed_26 rfl ?_
        refine E_bp dX12_feed_28 rfl ?_
        refine E_icmp_ge (tgt := 37) dX12_feed_30 (by decide) (fun hc => ?_) (fun hc => ?_)
        · have h := Eq.mp (if_pos hc) h
          refine E_lload dX12_feed_37 rfl ?_
          exact e_P_X12_feed_J39 hR h
        · have h := Eq.mp (if_neg hc) h
          refine E_lload_n dX12_feed_33 rfl rfl ?_
          refine E_goto (tgt := 39) dX12_feed_34 (by decide) ?_
          exact e_P_X12_feed_J39 hR h
      · have h := Eq.mp (if_neg hc) h
        refine E_lload_n dX12_feed_22 rfl rfl ?_
        refine E_goto (tgt := 39) dX12_feed_23 (by decide) ?_
        exact e_P_X12_feed_J39 hR h
def P_X12_feed  (x1 : Int) (x3 : Int) (x5 : Int) (σ : St) (Q : Int → St → Prop) : Prop :=
  P_X12_feed_L8 x1 x3 x5 Q FU 0 (up σ 12 0 0 0)
set_option maxRecDepth 20000 in
set_option maxHeartbeats 2000000 in
theorem s_X12_feed   {x1 : Int} {x3 : Int} {x5 : Int} {σ : St} {Q : Int → St → Prop} (h : P_X12_feed x1 x3 x5 σ Q) : Cn Y_X12_feed 0 0 0 ww σ [vR 12 0, vL x1, vL x3, vL x5] (QI Q) := by
  refine Cn_of [some (vR 12 0), some (vL x1), none, some (vL x3), none, some (vL x5), none, none, none, none, none] (by decide) (Nat.le_of_ble_eq_true rfl) rfl ?_
  unfold P_X12_feed at h
  refine E_aload_n dX12_feed_0 rfl rfl ?_
  refine E_ic dX12_feed_1 rfl ?_
  refine E_puti dX12_feed_2 fl_RX12_141 rfl rfl rfl ?_
  refine E_ic dX12_feed_5 rfl ?_
  refine E_istore (ls' := [some (vR 12 0), some (vL x1), none, some (vL x3), none, some (vL x5), none, some (vI 0), none, none, none]) dX12_feed_6 (by decide) rfl ?_
  refine e_P_X12_feed_L8  _ _ _ h
abbrev Y_X12_signAt : My := (yX12_signAt, cX12_signAt, 2, some .int)
theorem dX12_signAt_0 : decode cX12_signAt 0 = .ok (.iload_n 1, 1) := by decide +kernel
theorem dX12_signAt_1 : decode cX12_signAt 1 = .ok (.aload_n 0, 1) := by decide +kernel
theorem dX12_signAt_2 : decode cX12_signAt 2 = .ok (.getfield 150, 3) := by decide +kernel
theorem dX12_signAt_5 : decode cX12_signAt 5 = .ok (.if_icmp .ge 12, 3) := by decide +kernel
theorem dX12_signAt_8 : decode cX12_signAt 8 = .ok (.aload_n 0, 1) := by decide +kernel
theorem dX12_signAt_9 : decode cX12_signAt 9 = .ok (.getfield 7, 3) := by decide +kernel
theorem dX12_signAt_12 : decode cX12_signAt 12 = .ok (.iload_n 1, 1) := by decide +kernel
theorem dX12_signAt_13 : decode cX12_signAt 13 = .ok (.iaload, 1) := by decide +kernel
theorem dX12_signAt_14 : decode cX12_signAt 14 = .ok (.goto 4, 3) := by decide +kernel
theorem dX12_signAt_17 : decode cX12_signAt 17 = .ok (.iconst 0, 1) := by decide +kernel
theorem dX12_signAt_18 : decode cX12_signAt 18 = .ok (.ireturn, 1) := by decide +kernel
theorem fl_RX12_150 : FL RX12 150 12 3 := ⟨inG (i := 1403) (by decide +kernel) (by decide +kernel), by decide, by decide⟩
def P_X12_signAt  (x1 : Int) (σ : St) (Q : Int → St → Prop) : Prop :=
  (if (σ 12 0 3) ≤ x1 then Q 0 σ else 0 ≤ x1 ∧ x1 < 1000 ∧ Q (σ 1302 0 x1) σ)
set_option maxRecDepth 20000 in
set_option maxHeartbeats 2000000 in
theorem s_X12_signAt   {x1 : Int} {σ : St} {Q : Int → St → Prop} (h : P_X12_signAt x1 σ Q) : Cn Y_X12_signAt 0 0 0 ww σ [vR 12 0, vI x1] (QI Q) := by
  refine Cn_of [some (vR 12 0), some (vI x1)] (by decide) (Nat.le_of_ble_eq_true rfl) rfl ?_
  unfold P_X12_signAt at h
  refine E_iload_n dX12_signAt_0 rfl rfl ?_
  refine E_aload_n dX12_signAt_1 rfl rfl ?_
  refine E_geti (i := 0) dX12_signAt_2 fl_RX12_150 rfl ?_
  refine E_icmp_ge (tgt := 17) dX12_signAt_5 (by decide) (fun hc => ?_) (fun hc => ?_)
  · have h := Eq.mp (if_pos hc) h
    refine E_ic dX12_signAt_17 rfl ?_
    exact E_iret dX12_signAt_18 rfl ⟨_, rfl, rfl, h⟩
  · have h := Eq.mp (if_neg hc) h
    refine E_aload_n dX12_signAt_8 rfl rfl ?_
    refine E_getr (i := 0) dX12_signAt_9 fl_RX12_7 rfl rfl (go_12_2 _ _) ?_
    refine E_iload_n dX12_signAt_12 rfl rfl ?_
    obtain ⟨hg0, hg1, h⟩ := h
    refine E_iald dX12_signAt_13 sh_1302 hg0 hg1 ?_
    refine E_goto (tgt := 18) dX12_signAt_14 (by decide) ?_
    exact E_iret dX12_signAt_18 rfl ⟨_, rfl, rfl, h⟩
abbrev Y_X12_nextToken : My := (yX12_nextToken, cX12_nextToken, 2, none)
theorem dX12_nextToken_0 : decode cX12_nextToken 0 = .ok (.aload_n 0, 1) := by decide +kernel
theorem dX12_nextToken_1 : decode cX12_nextToken 1 = .ok (.getfield 153, 3) := by decide +kernel
theorem dX12_nextToken_4 : decode cX12_nextToken 4 = .ok (.aload_n 0, 1) := by decide +kernel
theorem dX12_nextToken_5 : decode cX12_nextToken 5 = .ok (.getfield 150, 3) := by decide +kernel
theorem dX12_nextToken_8 : decode cX12_nextToken 8 = .ok (.if_icmp .ge 44, 3) := by decide +kernel
theorem dX12_nextToken_11 : decode cX12_nextToken 11 = .ok (.aload_n 0, 1) := by decide +kernel
theorem dX12_nextToken_12 : decode cX12_nextToken 12 = .ok (.getfield 7, 3) := by decide +kernel
theorem dX12_nextToken_15 : decode cX12_nextToken 15 = .ok (.aload_n 0, 1) := by decide +kernel
theorem dX12_nextToken_16 : decode cX12_nextToken 16 = .ok (.getfield 153, 3) := by decide +kernel
theorem dX12_nextToken_19 : decode cX12_nextToken 19 = .ok (.iaload, 1) := by decide +kernel
theorem dX12_nextToken_20 : decode cX12_nextToken 20 = .ok (.bipush 32, 2) := by decide +kernel
theorem dX12_nextToken_22 : decode cX12_nextToken 22 = .ok (.if_icmp .eq 17, 3) := by decide +kernel
theorem dX12_nextToken_25 : decode cX12_nextToken 25 = .ok (.aload_n 0, 1) := by decide +kernel
theorem dX12_nextToken_26 : decode cX12_nextToken 26 = .ok (.getfield 7, 3) := by decide +kernel
theorem dX12_nextToken_29 : decode cX12_nextToken 29 = .ok (.aload_n 0, 1) := by decide +kernel
theorem dX12_nextToken_30 : decode cX12_nextToken 30 = .ok (.getfield 153, 3) := by decide +kernel
theorem dX12_nextToken_33 : decode cX12_nextToken 33 = .ok (.iaload, 1) := by decide +kernel
theorem dX12_nextToken_34 : decode cX12_nextToken 34 = .ok (.bipush 10, 2) := by decide +kernel
theorem dX12_nextToken_36 : decode cX12_nextToken 36 = .ok (.if_icmp .ne 16, 3) := by decide +kernel
theorem dX12_nextToken_39 : decode cX12_nextToken 39 = .ok (.aload_n 0, 1) := by decide +kernel
theorem dX12_nextToken_40 : decode cX12_nextToken 40 = .ok (.dup, 1) := by decide +kernel
theorem dX12_nextToken_41 : decode cX12_nextToken 41 = .ok (.getfield 153, 3) := by decide +kernel
theorem dX12_nextToken_44 : decode cX12_nextToken 44 = .ok (.iconst 1, 1) := by decide +kernel
theorem dX12_nextToken_45 : decode cX12_nextToken 45 = .ok (.iadd, 1) := by decide +kernel
theorem dX12_nextToken_46 : decode cX12_nextToken 46 = .ok (.putfield 153, 3) := by decide +kernel
theorem dX12_nextToken_49 : decode cX12_nextToken 49 = .ok (.goto (-49), 3) := by decide +kernel
theorem dX12_nextToken_52 : decode cX12_nextToken 52 = .ok (.aload_n 0, 1) := by decide +kernel
theorem dX12_nextToken_53 : decode cX12_nextToken 53 = .ok (.aload_n 0, 1) := by decide +kernel
theorem dX12_nextToken_54 : decode cX12_nextToken 54 = .ok (.getfield 153, 3) := by decide +kernel
theorem dX12_nextToken_57 : decode cX12_nextToken 57 = .ok (.putfield 156, 3) := by decide +kernel
theorem dX12_nextToken_60 : decode cX12_nextToken 60 = .ok (.aload_n 0, 1) := by decide +kernel
theorem dX12_nextToken_61 : decode cX12_nextToken 61 = .ok (.lconst 0, 1) := by decide +kernel
theorem dX12_nextToken_62 : decode cX12_nextToken 62 = .ok (.putfield 159, 3) := by decide +kernel
theorem dX12_nextToken_65 : decode cX12_nextToken 65 = .ok (.aload_n 0, 1) := by decide +kernel
theorem dX12_nextToken_66 : decode cX12_nextToken 66 = .ok (.iconst 0, 1) := by decide +kernel
theorem dX12_nextToken_67 : decode cX12_nextToken 67 = .ok (.putfield 163, 3) := by decide +kernel
theorem dX12_nextToken_70 : decode cX12_nextToken 70 = .ok (.aload_n 0, 1) := by decide +kernel
theorem dX12_nextToken_71 : decode cX12_nextToken 71 = .ok (.getfield 153, 3) := by decide +kernel
theorem dX12_nextToken_74 : decode cX12_nextToken 74 = .ok (.aload_n 0, 1) := by decide +kernel
theorem dX12_nextToken_75 : decode cX12_nextToken 75 = .ok (.getfield 150, 3) := by decide +kernel
theorem dX12_nextToken_78 : decode cX12_nextToken 78 = .ok (.if_icmp .ne 9, 3) := by decide +kernel
theorem dX12_nextToken_81 : decode cX12_nextToken 81 = .ok (.aload_n 0, 1) := by decide +kernel
theorem dX12_nextToken_82 : decode cX12_nextToken 82 = .ok (.iconst 0, 1) := by decide +kernel
theorem dX12_nextToken_83 : decode cX12_nextToken 83 = .ok (.putfield 166, 3) := by decide +kernel
theorem dX12_nextToken_86 : decode cX12_nextToken 86 = .ok (.return_, 1) := by decide +kernel
theorem dX12_nextToken_87 : decode cX12_nextToken 87 = .ok (.aload_n 0, 1) := by decide +kernel
theorem dX12_nextToken_88 : decode cX12_nextToken 88 = .ok (.getfield 7, 3) := by decide +kernel
theorem dX12_nextToken_91 : decode cX12_nextToken 91 = .ok (.aload_n 0, 1) := by decide +kernel
theorem dX12_nextToken_92 : decode cX12_nextToken 92 = .ok (.getfield 153, 3) := by decide +kernel
theorem dX12_nextToken_95 : decode cX12_nextToken 95 = .ok (.iaload, 1) := by decide +kernel
theorem dX12_nextToken_96 : decode cX12_nextToken 96 = .ok (.istore_n 1, 1) := by decide +kernel
theorem dX12_nextToken_97 : decode cX12_nextToken 97 = .ok (.iload_n 1, 1) := by decide +kernel
theorem dX12_nextToken_98 : decode cX12_nextToken 98 = .ok (.bipush 97, 2) := by decide +kernel
theorem dX12_nextToken_100 : decode cX12_nextToken 100 = .ok (.if_icmp .lt 112, 3) := by decide +kernel
theorem dX12_nextToken_103 : decode cX12_nextToken 103 = .ok (.iload_n 1, 1) := by decide +kernel
theorem dX12_nextToken_104 : decode cX12_nextToken 104 = .ok (.bipush 122, 2) := by decide +kernel
theorem dX12_nextToken_106 : decode cX12_nextToken 106 = .ok (.if_icmp .gt 106, 3) := by decide +kernel
theorem dX12_nextToken_109 : decode cX12_nextToken 109 = .ok (.aload_n 0, 1) := by decide +kernel
theorem dX12_nextToken_110 : decode cX12_nextToken 110 = .ok (.aload_n 0, 1) := by decide +kernel
theorem dX12_nextToken_111 : decode cX12_nextToken 111 = .ok (.getfield 153, 3) := by decide +kernel
theorem dX12_nextToken_114 : decode cX12_nextToken 114 = .ok (.invokevirtual 169, 3) := by decide +kernel
theorem dX12_nextToken_117 : decode cX12_nextToken 117 = .ok (.bipush 97, 2) := by decide +kernel
theorem dX12_nextToken_119 : decode cX12_nextToken 119 = .ok (.if_icmp .lt 69, 3) := by decide +kernel
theorem dX12_nextToken_122 : decode cX12_nextToken 122 = .ok (.aload_n 0, 1) := by decide +kernel
theorem dX12_nextToken_123 : decode cX12_nextToken 123 = .ok (.aload_n 0, 1) := by decide +kernel
theorem dX12_nextToken_124 : decode cX12_nextToken 124 = .ok (.getfield 153, 3) := by decide +kernel
theorem dX12_nextToken_127 : decode cX12_nextToken 127 = .ok (.invokevirtual 169, 3) := by decide +kernel
theorem dX12_nextToken_130 : decode cX12_nextToken 130 = .ok (.bipush 122, 2) := by decide +kernel
theorem dX12_nextToken_132 : decode cX12_nextToken 132 = .ok (.if_icmp .gt 56, 3) := by decide +kernel
theorem dX12_nextToken_135 : decode cX12_nextToken 135 = .ok (.aload_n 0, 1) := by decide +kernel
theorem dX12_nextToken_136 : decode cX12_nextToken 136 = .ok (.getfield 153, 3) := by decide +kernel
theorem dX12_nextToken_139 : decode cX12_nextToken 139 = .ok (.aload_n 0, 1) := by decide +kernel
theorem dX12_nextToken_140 : decode cX12_nextToken 140 = .ok (.getfield 156, 3) := by decide +kernel
theorem dX12_nextToken_143 : decode cX12_nextToken 143 = .ok (.isub, 1) := by decide +kernel
theorem dX12_nextToken_144 : decode cX12_nextToken 144 = .ok (.bipush 8, 2) := by decide +kernel
theorem dX12_nextToken_146 : decode cX12_nextToken 146 = .ok (.if_icmp .ge 29, 3) := by decide +kernel
theorem dX12_nextToken_149 : decode cX12_nextToken 149 = .ok (.aload_n 0, 1) := by decide +kernel
theorem dX12_nextToken_150 : decode cX12_nextToken 150 = .ok (.aload_n 0, 1) := by decide +kernel
theorem dX12_nextToken_151 : decode cX12_nextToken 151 = .ok (.getfield 159, 3) := by decide +kernel
theorem dX12_nextToken_154 : decode cX12_nextToken 154 = .ok (.ldc2_w 173, 3) := by decide +kernel
theorem dX12_nextToken_157 : decode cX12_nextToken 157 = .ok (.lmul, 1) := by decide +kernel
theorem dX12_nextToken_158 : decode cX12_nextToken 158 = .ok (.aload_n 0, 1) := by decide +kernel
theorem dX12_nextToken_159 : decode cX12_nextToken 159 = .ok (.aload_n 0, 1) := by decide +kernel
theorem dX12_nextToken_160 : decode cX12_nextToken 160 = .ok (.getfield 153, 3) := by decide +kernel
theorem dX12_nextToken_163 : decode cX12_nextToken 163 = .ok (.invokevirtual 169, 3) := by decide +kernel
theorem dX12_nextToken_166 : decode cX12_nextToken 166 = .ok (.i2l, 1) := by decide +kernel
theorem dX12_nextToken_167 : decode cX12_nextToken 167 = .ok (.ladd, 1) := by decide +kernel
theorem dX12_nextToken_168 : decode cX12_nextToken 168 = .ok (.ldc2_w 175, 3) := by decide +kernel
theorem dX12_nextToken_171 : decode cX12_nextToken 171 = .ok (.lsub, 1) := by decide +kernel
theorem dX12_nextToken_172 : decode cX12_nextToken 172 = .ok (.putfield 159, 3) := by decide +kernel
theorem dX12_nextToken_175 : decode cX12_nextToken 175 = .ok (.aload_n 0, 1) := by decide +kernel
theorem dX12_nextToken_176 : decode cX12_nextToken 176 = .ok (.dup, 1) := by decide +kernel
theorem dX12_nextToken_177 : decode cX12_nextToken 177 = .ok (.getfield 153, 3) := by decide +kernel
theorem dX12_nextToken_180 : decode cX12_nextToken 180 = .ok (.iconst 1, 1) := by decide +kernel
theorem dX12_nextToken_181 : decode cX12_nextToken 181 = .ok (.iadd, 1) := by decide +kernel
theorem dX12_nextToken_182 : decode cX12_nextToken 182 = .ok (.putfield 153, 3) := by decide +kernel
theorem dX12_nextToken_185 : decode cX12_nextToken 185 = .ok (.goto (-76), 3) := by decide +kernel
theorem dX12_nextToken_188 : decode cX12_nextToken 188 = .ok (.aload_n 0, 1) := by decide +kernel
theorem dX12_nextToken_189 : decode cX12_nextToken 189 = .ok (.aload_n 0, 1) := by decide +kernel
theorem dX12_nextToken_190 : decode cX12_nextToken 190 = .ok (.getfield 153, 3) := by decide +kernel
theorem dX12_nextToken_193 : decode cX12_nextToken 193 = .ok (.aload_n 0, 1) := by decide +kernel
theorem dX12_nextToken_194 : decode cX12_nextToken 194 = .ok (.getfield 156, 3) := by decide +kernel
theorem dX12_nextToken_197 : decode cX12_nextToken 197 = .ok (.isub, 1) := by decide +kernel
theorem dX12_nextToken_198 : decode cX12_nextToken 198 = .ok (.bipush 8, 2) := by decide +kernel
theorem dX12_nextToken_200 : decode cX12_nextToken 200 = .ok (.if_icmp .le 7, 3) := by decide +kernel
theorem dX12_nextToken_203 : decode cX12_nextToken 203 = .ok (.iconst 4, 1) := by decide +kernel
theorem dX12_nextToken_204 : decode cX12_nextToken 204 = .ok (.goto 4, 3) := by decide +kernel
theorem dX12_nextToken_207 : decode cX12_nextToken 207 = .ok (.iconst 1, 1) := by decide +kernel
theorem dX12_nextToken_208 : decode cX12_nextToken 208 = .ok (.putfield 166, 3) := by decide +kernel
theorem dX12_nextToken_211 : decode cX12_nextToken 211 = .ok (.return_, 1) := by decide +kernel
theorem dX12_nextToken_212 : decode cX12_nextToken 212 = .ok (.iload_n 1, 1) := by decide +kernel
theorem dX12_nextToken_213 : decode cX12_nextToken 213 = .ok (.bipush 48, 2) := by decide +kernel
theorem dX12_nextToken_215 : decode cX12_nextToken 215 = .ok (.if_icmp .lt 107, 3) := by decide +kernel
theorem dX12_nextToken_218 : decode cX12_nextToken 218 = .ok (.iload_n 1, 1) := by decide +kernel
theorem dX12_nextToken_219 : decode cX12_nextToken 219 = .ok (.bipush 57, 2) := by decide +kernel
theorem dX12_nextToken_221 : decode cX12_nextToken 221 = .ok (.if_icmp .gt 101, 3) := by decide +kernel
theorem dX12_nextToken_224 : decode cX12_nextToken 224 = .ok (.aload_n 0, 1) := by decide +kernel
theorem dX12_nextToken_225 : decode cX12_nextToken 225 = .ok (.aload_n 0, 1) := by decide +kernel
theorem dX12_nextToken_226 : decode cX12_nextToken 226 = .ok (.getfield 153, 3) := by decide +kernel
theorem dX12_nextToken_229 : decode cX12_nextToken 229 = .ok (.invokevirtual 169, 3) := by decide +kernel
theorem dX12_nextToken_232 : decode cX12_nextToken 232 = .ok (.bipush 48, 2) := by decide +kernel
theorem dX12_nextToken_234 : decode cX12_nextToken 234 = .ok (.if_icmp .lt 65, 3) := by decide +kernel
theorem dX12_nextToken_237 : decode cX12_nextToken 237 = .ok (.aload_n 0, 1) := by decide +kernel
theorem dX12_nextToken_238 : decode cX12_nextToken 238 = .ok (.aload_n 0, 1) := by decide +kernel
theorem dX12_nextToken_239 : decode cX12_nextToken 239 = .ok (.getfield 153, 3) := by decide +kernel
theorem dX12_nextToken_242 : decode cX12_nextToken 242 = .ok (.invokevirtual 169, 3) := by decide +kernel
theorem dX12_nextToken_245 : decode cX12_nextToken 245 = .ok (.bipush 57, 2) := by decide +kernel
theorem dX12_nextToken_247 : decode cX12_nextToken 247 = .ok (.if_icmp .gt 52, 3) := by decide +kernel
theorem dX12_nextToken_250 : decode cX12_nextToken 250 = .ok (.aload_n 0, 1) := by decide +kernel
theorem dX12_nextToken_251 : decode cX12_nextToken 251 = .ok (.getfield 153, 3) := by decide +kernel
theorem dX12_nextToken_254 : decode cX12_nextToken 254 = .ok (.aload_n 0, 1) := by decide +kernel
theorem dX12_nextToken_255 : decode cX12_nextToken 255 = .ok (.getfield 156, 3) := by decide +kernel
theorem dX12_nextToken_258 : decode cX12_nextToken 258 = .ok (.isub, 1) := by decide +kernel
theorem dX12_nextToken_259 : decode cX12_nextToken 259 = .ok (.iconst 4, 1) := by decide +kernel
theorem dX12_nextToken_260 : decode cX12_nextToken 260 = .ok (.if_icmp .ge 26, 3) := by decide +kernel
theorem dX12_nextToken_263 : decode cX12_nextToken 263 = .ok (.aload_n 0, 1) := by decide +kernel
theorem dX12_nextToken_264 : decode cX12_nextToken 264 = .ok (.aload_n 0, 1) := by decide +kernel
theorem dX12_nextToken_265 : decode cX12_nextToken 265 = .ok (.getfield 163, 3) := by decide +kernel
theorem dX12_nextToken_268 : decode cX12_nextToken 268 = .ok (.bipush 10, 2) := by decide +kernel
theorem dX12_nextToken_270 : decode cX12_nextToken 270 = .ok (.imul, 1) := by decide +kernel
theorem dX12_nextToken_271 : decode cX12_nextToken 271 = .ok (.aload_n 0, 1) := by decide +kernel
theorem dX12_nextToken_272 : decode cX12_nextToken 272 = .ok (.aload_n 0, 1) := by decide +kernel
theorem dX12_nextToken_273 : decode cX12_nextToken 273 = .ok (.getfield 153, 3) := by decide +kernel
theorem dX12_nextToken_276 : decode cX12_nextToken 276 = .ok (.invokevirtual 169, 3) := by decide +kernel
theorem dX12_nextToken_279 : decode cX12_nextToken 279 = .ok (.iadd, 1) := by decide +kernel
theorem dX12_nextToken_280 : decode cX12_nextToken 280 = .ok (.bipush 48, 2) := by decide +kernel
theorem dX12_nextToken_282 : decode cX12_nextToken 282 = .ok (.isub, 1) := by decide +kernel
theorem dX12_nextToken_283 : decode cX12_nextToken 283 = .ok (.putfield 163, 3) := by decide +kernel
theorem dX12_nextToken_286 : decode cX12_nextToken 286 = .ok (.aload_n 0, 1) := by decide +kernel
theorem dX12_nextToken_287 : decode cX12_nextToken 287 = .ok (.dup, 1) := by decide +kernel
theorem dX12_nextToken_288 : decode cX12_nextToken 288 = .ok (.getfield 153, 3) := by decide +kernel
theorem dX12_nextToken_291 : decode cX12_nextToken 291 = .ok (.iconst 1, 1) := by decide +kernel
theorem dX12_nextToken_292 : decode cX12_nextToken 292 = .ok (.iadd, 1) := by decide +kernel
theorem dX12_nextToken_293 : decode cX12_nextToken 293 = .ok (.putfield 153, 3) := by decide +kernel
theorem dX12_nextToken_296 : decode cX12_nextToken 296 = .ok (.goto (-72), 3) := by decide +kernel
theorem dX12_nextToken_299 : decode cX12_nextToken 299 = .ok (.aload_n 0, 1) := by decide +kernel
theorem dX12_nextToken_300 : decode cX12_nextToken 300 = .ok (.aload_n 0, 1) := by decide +kernel
theorem dX12_nextToken_301 : decode cX12_nextToken 301 = .ok (.getfield 153, 3) := by decide +kernel
theorem dX12_nextToken_304 : decode cX12_nextToken 304 = .ok (.aload_n 0, 1) := by decide +kernel
theorem dX12_nextToken_305 : decode cX12_nextToken 305 = .ok (.getfield 156, 3) := by decide +kernel
theorem dX12_nextToken_308 : decode cX12_nextToken 308 = .ok (.isub, 1) := by decide +kernel
theorem dX12_nextToken_309 : decode cX12_nextToken 309 = .ok (.iconst 4, 1) := by decide +kernel
theorem dX12_nextToken_310 : decode cX12_nextToken 310 = .ok (.if_icmp .le 7, 3) := by decide +kernel
theorem dX12_nextToken_313 : decode cX12_nextToken 313 = .ok (.iconst 4, 1) := by decide +kernel
theorem dX12_nextToken_314 : decode cX12_nextToken 314 = .ok (.goto 4, 3) := by decide +kernel
theorem dX12_nextToken_317 : decode cX12_nextToken 317 = .ok (.iconst 2, 1) := by decide +kernel
theorem dX12_nextToken_318 : decode cX12_nextToken 318 = .ok (.putfield 166, 3) := by decide +kernel
theorem dX12_nextToken_321 : decode cX12_nextToken 321 = .ok (.return_, 1) := by decide +kernel
theorem dX12_nextToken_322 : decode cX12_nextToken 322 = .ok (.aload_n 0, 1) := by decide +kernel
theorem dX12_nextToken_323 : decode cX12_nextToken 323 = .ok (.dup, 1) := by decide +kernel
theorem dX12_nextToken_324 : decode cX12_nextToken 324 = .ok (.getfield 153, 3) := by decide +kernel
theorem dX12_nextToken_327 : decode cX12_nextToken 327 = .ok (.iconst 1, 1) := by decide +kernel
theorem dX12_nextToken_328 : decode cX12_nextToken 328 = .ok (.iadd, 1) := by decide +kernel
theorem dX12_nextToken_329 : decode cX12_nextToken 329 = .ok (.putfield 153, 3) := by decide +kernel
theorem dX12_nextToken_332 : decode cX12_nextToken 332 = .ok (.aload_n 0, 1) := by decide +kernel
theorem dX12_nextToken_333 : decode cX12_nextToken 333 = .ok (.iload_n 1, 1) := by decide +kernel
theorem dX12_nextToken_334 : decode cX12_nextToken 334 = .ok (.bipush 40, 2) := by decide +kernel
theorem dX12_nextToken_336 : decode cX12_nextToken 336 = .ok (.if_icmp .lt 9, 3) := by decide +kernel
theorem dX12_nextToken_339 : decode cX12_nextToken 339 = .ok (.iload_n 1, 1) := by decide +kernel
theorem dX12_nextToken_340 : decode cX12_nextToken 340 = .ok (.bipush 43, 2) := by decide +kernel
theorem dX12_nextToken_342 : decode cX12_nextToken 342 = .ok (.if_icmp .le 21, 3) := by decide +kernel
theorem dX12_nextToken_345 : decode cX12_nextToken 345 = .ok (.iload_n 1, 1) := by decide +kernel
theorem dX12_nextToken_346 : decode cX12_nextToken 346 = .ok (.bipush 45, 2) := by decide +kernel
theorem dX12_nextToken_348 : decode cX12_nextToken 348 = .ok (.if_icmp .eq 15, 3) := by decide +kernel
theorem dX12_nextToken_351 : decode cX12_nextToken 351 = .ok (.iload_n 1, 1) := by decide +kernel
theorem dX12_nextToken_352 : decode cX12_nextToken 352 = .ok (.bipush 59, 2) := by decide +kernel
theorem dX12_nextToken_354 : decode cX12_nextToken 354 = .ok (.if_icmp .lt 13, 3) := by decide +kernel
theorem dX12_nextToken_357 : decode cX12_nextToken 357 = .ok (.iload_n 1, 1) := by decide +kernel
theorem dX12_nextToken_358 : decode cX12_nextToken 358 = .ok (.bipush 61, 2) := by decide +kernel
theorem dX12_nextToken_360 : decode cX12_nextToken 360 = .ok (.if_icmp .gt 7, 3) := by decide +kernel
theorem dX12_nextToken_363 : decode cX12_nextToken 363 = .ok (.iconst 3, 1) := by decide +kernel
theorem dX12_nextToken_364 : decode cX12_nextToken 364 = .ok (.goto 4, 3) := by decide +kernel
theorem dX12_nextToken_367 : decode cX12_nextToken 367 = .ok (.iconst 4, 1) := by decide +kernel
theorem dX12_nextToken_368 : decode cX12_nextToken 368 = .ok (.putfield 166, 3) := by decide +kernel
theorem dX12_nextToken_371 : decode cX12_nextToken 371 = .ok (.return_, 1) := by decide +kernel
theorem fl_RX12_153 : FL RX12 153 12 4 := ⟨inG (i := 1404) (by decide +kernel) (by decide +kernel), by decide, by decide⟩
theorem fl_RX12_156 : FL RX12 156 12 5 := ⟨inG (i := 1405) (by decide +kernel) (by decide +kernel), by decide, by decide⟩
theorem fl_RX12_159 : FL RX12 159 12 7 := ⟨inG (i := 1407) (by decide +kernel) (by decide +kernel), by decide, by decide⟩
theorem fl_RX12_163 : FL RX12 163 12 8 := ⟨inG (i := 1408) (by decide +kernel) (by decide +kernel), by decide, by decide⟩
theorem fl_RX12_166 : FL RX12 166 12 6 := ⟨inG (i := 1406) (by decide +kernel) (by decide +kernel), by decide, by decide⟩
theorem kl_RX12_173 : Cond.constantLong RX12 173 (27) ∈ tG := inG (i := 1607) (by decide +kernel) (by decide +kernel)
theorem kl_RX12_175 : Cond.constantLong RX12 175 (96) ∈ tG := inG (i := 1608) (by decide +kernel) (by decide +kernel)
theorem lk_RX12_169 : Cond.methodLink RX12 169 yX12_signAt ∈ tG := inG (i := 1603) (by decide +kernel) (by decide +kernel)
theorem m_X12_signAt : MV Y_X12_signAt 1 12 := ⟨⟨inG (i := 1606) (by decide +kernel) (by decide +kernel), inG (i := 110) (by decide +kernel) (by decide +kernel), by decide, by decide, by decide, by decide +kernel⟩, inG (i := 1605) (by decide +kernel) (by decide +kernel), inG (i := 35) (by decide +kernel) (by decide +kernel), by decide⟩
def P_X12_nextToken_J39   (R : St → Prop) (K : St → Prop) (Q : St → Prop) (σ : St) : Prop :=
  R (up σ 12 0 4 (wi ((σ 12 0 4) + 1)))
set_option maxRecDepth 20000 in
set_option maxHeartbeats 2000000 in
theorem e_P_X12_nextToken_J39   {R : St → Prop} {K : St → Prop} {Q : St → Prop} {σ : St}  (hR : ∀ σ, R σ → E Y_X12_nextToken 1 0 0 (QV Q) ww 0 0 0 [some (vR 12 0), none] [] σ) (hK : ∀ σ, K σ → E Y_X12_nextToken 1 0 0 (QV Q) ww 0 0 52 [some (vR 12 0), none] [] σ) (h : P_X12_nextToken_J39 R K Q σ) : E Y_X12_nextToken 1 0 0 (QV Q) ww 0 0 39 [some (vR 12 0), none] [] σ := by
  unfold P_X12_nextToken_J39 at h
  refine E_aload_n dX12_nextToken_39 rfl rfl ?_
  refine E_dup dX12_nextToken_40 (fun _ q => by cases q) ?_
  refine E_geti (i := 0) dX12_nextToken_41 fl_RX12_153 rfl ?_
  refine E_ic dX12_nextToken_44 rfl ?_
  refine E_iadd dX12_nextToken_45 ?_
  refine E_puti dX12_nextToken_46 fl_RX12_153 rfl rfl rfl ?_
  refine E_goto (tgt := 0) dX12_nextToken_49 (by decide) ?_
  exact hR _ h
def P_X12_nextToken_L0   (K : St → Prop) (Q : St → Prop) : Nat → St → Prop
  | 0, _ => False
  | n + 1, σ => (if (σ 12 0 3) ≤ (σ 12 0 4) then K σ else 0 ≤ σ 12 0 4 ∧ σ 12 0 4 < 1000 ∧ (if (σ 1302 0 (σ 12 0 4)) = 32 then P_X12_nextToken_J39 (P_X12_nextToken_L0 K Q n) K Q σ else 0 ≤ σ 12 0 4 ∧ σ 12 0 4 < 1000 ∧ (if (σ 1302 0 (σ 12 0 4)) = 10 then P_X12_nextToken_J39 (P_X12_nextToken_L0 K Q n) K Q σ else K σ)))
set_option maxRecDepth 20000 in
set_option maxHeartbeats 2000000 in
theorem e_P_X12_nextToken_L0   {K : St → Prop} {Q : St → Prop}  (hK : ∀ σ, K σ → E Y_X12_nextToken 1 0 0 (QV Q) ww 0 0 52 [some (vR 12 0), none] [] σ) : ∀ (n : Nat) (σ : St), P_X12_nextToken_L0 K Q n  σ → E Y_X12_nextToken 1 0 0 (QV Q) ww 0 0 0 [some (vR 12 0), none] [] σ := by
  intro n
  induction n with
  | zero => intro  σ h; exact h.elim
  | succ n hR =>
    intro  σ h
    unfold P_X12_nextToken_L0 at h
    refine E_aload_n dX12_nextToken_0 rfl rfl ?_
    refine E_geti (i := 0) dX12_nextToken_1 fl_RX12_153 rfl ?_
    refine E_aload_n dX12_nextToken_4 rfl rfl ?_
    refine E_geti (i := 0) dX12_nextToken_5 fl_RX12_150 rfl ?_
    refine E_icmp_ge (tgt := 52) dX12_nextToken_8 (by decide) (fun hc => ?_) (fun hc => ?_)
    · have h := Eq.mp (if_pos hc) h
      exact hK _ h
    · have h := Eq.mp (if_neg hc) h
      refine E_aload_n dX12_nextToken_11 rfl rfl ?_
      refine E_getr (i := 0) dX12_nextToken_12 fl_RX12_7 rfl rfl (go_12_2 _ _) ?_
      refine E_aload_n dX12_nextToken_15 rfl rfl ?_
      refine E_geti (i := 0) dX12_nextToken_16 fl_RX12_153 rfl ?_
      obtain ⟨hg0, hg1, h⟩ := h
      refine E_iald dX12_nextToken_19 sh_1302 hg0 hg1 ?_
      refine E_bp dX12_nextToken_20 rfl ?_
      refine E_icmp_eq (tgt := 39) dX12_nextToken_22 (by decide) (fun hc => ?_) (fun hc => ?_)
      · have h := Eq.mp (if_pos hc) h
        exact e_P_X12_nextToken_J39 hR hK h
      · have h := Eq.mp (if_neg hc) h
        refine E_aload_n dX12_nextToken_25 rfl rfl ?_
        refine E_getr (i := 0) dX12_nextToken_26 fl_RX12_7 rfl rfl (go_12_2 _ _) ?_
        refine E_aload_n dX12_nextToken_29 rfl rfl ?_
        refine E_geti (i := 0) dX12_nextToken_30 fl_RX12_153 rfl ?_
        obtain ⟨hg0, hg1, h⟩ := h
        refine E_iald dX12_nextToken_33 sh_1302 hg0 hg1 ?_
        refine E_bp dX12_nextToken_34 rfl ?_
        refine E_icmp_ne (tgt := 52) dX12_nextToken_36 (by decide) (fun hc => ?_) (fun hc => ?_)
        · have h := Eq.mp (if_neg hc) h
          exact hK _ h
        · have h := Eq.mp (if_pos hc) h
          exact e_P_X12_nextToken_J39 hR hK h
def P_X12_nextToken_J368  (y0 : Int)  (Q : St → Prop) (σ : St) : Prop :=
  Q (up σ 12 0 6 y0)
set_option maxRecDepth 20000 in
set_option maxHeartbeats 2000000 in
theorem e_P_X12_nextToken_J368  {y0 : Int}  {Q : St → Prop} {σ : St}   (h : P_X12_nextToken_J368 y0 Q σ) : E Y_X12_nextToken 1 0 0 (QV Q) ww 0 0 368 [none, none] [vI y0, vR 12 0] σ := by
  unfold P_X12_nextToken_J368 at h
  refine E_puti dX12_nextToken_368 fl_RX12_166 rfl rfl rfl ?_
  exact E_vret dX12_nextToken_371 rfl ⟨rfl, rfl, h⟩
def P_X12_nextToken_J363    (Q : St → Prop) (σ : St) : Prop :=
  P_X12_nextToken_J368 3 Q σ
set_option maxRecDepth 20000 in
set_option maxHeartbeats 2000000 in
theorem e_P_X12_nextToken_J363    {Q : St → Prop} {σ : St}   (h : P_X12_nextToken_J363  Q σ) : E Y_X12_nextToken 1 0 0 (QV Q) ww 0 0 363 [none, none] [vR 12 0] σ := by
  unfold P_X12_nextToken_J363 at h
  refine E_ic dX12_nextToken_363 rfl ?_
  refine E_goto (tgt := 368) dX12_nextToken_364 (by decide) ?_
  exact e_P_X12_nextToken_J368 h
def P_X12_nextToken_J367    (Q : St → Prop) (σ : St) : Prop :=
  P_X12_nextToken_J368 4 Q σ
set_option maxRecDepth 20000 in
set_option maxHeartbeats 2000000 in
theorem e_P_X12_nextToken_J367    {Q : St → Prop} {σ : St}   (h : P_X12_nextToken_J367  Q σ) : E Y_X12_nextToken 1 0 0 (QV Q) ww 0 0 367 [none, none] [vR 12 0] σ := by
  unfold P_X12_nextToken_J367 at h
  refine E_ic dX12_nextToken_367 rfl ?_
  exact e_P_X12_nextToken_J368 h
def P_X12_nextToken_J345  (x1 : Int)  (Q : St → Prop) (σ : St) : Prop :=
  (if x1 = 45 then P_X12_nextToken_J363 Q σ else (if x1 < 59 then P_X12_nextToken_J367 Q σ else (if 61 < x1 then P_X12_nextToken_J367 Q σ else P_X12_nextToken_J363 Q σ)))
set_option maxRecDepth 20000 in
set_option maxHeartbeats 2000000 in
theorem e_P_X12_nextToken_J345  {x1 : Int}  {Q : St → Prop} {σ : St}   (h : P_X12_nextToken_J345 x1 Q σ) : E Y_X12_nextToken 1 0 0 (QV Q) ww 0 0 345 [none, some (vI x1)] [vR 12 0] σ := by
  unfold P_X12_nextToken_J345 at h
  refine E_iload_n dX12_nextToken_345 rfl rfl ?_
  refine E_bp dX12_nextToken_346 rfl ?_
  refine E_icmp_eq (tgt := 363) dX12_nextToken_348 (by decide) (fun hc => ?_) (fun hc => ?_)
  · have h := Eq.mp (if_pos hc) h
    refine E_wk2 [none, none] trivial ?_
    exact e_P_X12_nextToken_J363 h
  · have h := Eq.mp (if_neg hc) h
    refine E_iload_n dX12_nextToken_351 rfl rfl ?_
    refine E_bp dX12_nextToken_352 rfl ?_
    refine E_icmp_lt (tgt := 367) dX12_nextToken_354 (by decide) (fun hc => ?_) (fun hc => ?_)
    · have h := Eq.mp (if_pos hc) h
      refine E_wk2 [none, none] trivial ?_
      exact e_P_X12_nextToken_J367 h
    · have h := Eq.mp (if_neg hc) h
      refine E_iload_n dX12_nextToken_357 rfl rfl ?_
      refine E_bp dX12_nextToken_358 rfl ?_
      refine E_icmp_gt (tgt := 367) dX12_nextToken_360 (by decide) (fun hc => ?_) (fun hc => ?_)
      · have h := Eq.mp (if_pos hc) h
        refine E_wk2 [none, none] trivial ?_
        exact e_P_X12_nextToken_J367 h
      · have h := Eq.mp (if_neg hc) h
        refine E_wk2 [none, none] trivial ?_
        exact e_P_X12_nextToken_J363 h
def P_X12_nextToken_J322  (x1 : Int)  (Q : St → Prop) (σ : St) : Prop :=
  (if x1 < 40 then P_X12_nextToken_J345 x1 Q (up σ 12 0 4 (wi ((σ 12 0 4) + 1))) else (if x1 ≤ 43 then P_X12_nextToken_J363 Q (up σ 12 0 4 (wi ((σ 12 0 4) + 1))) else P_X12_nextToken_J345 x1 Q (up σ 12 0 4 (wi ((σ 12 0 4) + 1)))))
set_option maxRecDepth 20000 in
set_option maxHeartbeats 2000000 in
theorem e_P_X12_nextToken_J322  {x1 : Int}  {Q : St → Prop} {σ : St}   (h : P_X12_nextToken_J322 x1 Q σ) : E Y_X12_nextToken 1 0 0 (QV Q) ww 0 0 322 [some (vR 12 0), some (vI x1)] [] σ := by
  unfold P_X12_nextToken_J322 at h
  refine E_aload_n dX12_nextToken_322 rfl rfl ?_
  refine E_dup dX12_nextToken_323 (fun _ q => by cases q) ?_
  refine E_geti (i := 0) dX12_nextToken_324 fl_RX12_153 rfl ?_
  refine E_ic dX12_nextToken_327 rfl ?_
  refine E_iadd dX12_nextToken_328 ?_
  refine E_puti dX12_nextToken_329 fl_RX12_153 rfl rfl rfl ?_
  refine E_aload_n dX12_nextToken_332 rfl rfl ?_
  refine E_iload_n dX12_nextToken_333 rfl rfl ?_
  refine E_bp dX12_nextToken_334 rfl ?_
  refine E_icmp_lt (tgt := 345) dX12_nextToken_336 (by decide) (fun hc => ?_) (fun hc => ?_)
  · have h := Eq.mp (if_pos hc) h
    refine E_wk2 [none, some (vI x1)] ⟨rfl, trivial⟩ ?_
    exact e_P_X12_nextToken_J345 h
  · have h := Eq.mp (if_neg hc) h
    refine E_iload_n dX12_nextToken_339 rfl rfl ?_
    refine E_bp dX12_nextToken_340 rfl ?_
    refine E_icmp_le (tgt := 363) dX12_nextToken_342 (by decide) (fun hc => ?_) (fun hc => ?_)
    · have h := Eq.mp (if_pos hc) h
      refine E_wk2 [none, none] trivial ?_
      exact e_P_X12_nextToken_J363 h
    · have h := Eq.mp (if_neg hc) h
      refine E_wk2 [none, some (vI x1)] ⟨rfl, trivial⟩ ?_
      exact e_P_X12_nextToken_J345 h
def P_X12_nextToken_J286   (R : St → Prop) (K : St → Prop) (Q : St → Prop) (σ : St) : Prop :=
  R (up σ 12 0 4 (wi ((σ 12 0 4) + 1)))
set_option maxRecDepth 20000 in
set_option maxHeartbeats 2000000 in
theorem e_P_X12_nextToken_J286   {R : St → Prop} {K : St → Prop} {Q : St → Prop} {σ : St}  (hR : ∀ σ, R σ → E Y_X12_nextToken 1 0 0 (QV Q) ww 0 0 224 [some (vR 12 0), none] [] σ) (hK : ∀ σ, K σ → E Y_X12_nextToken 1 0 0 (QV Q) ww 0 0 299 [some (vR 12 0), none] [] σ) (h : P_X12_nextToken_J286 R K Q σ) : E Y_X12_nextToken 1 0 0 (QV Q) ww 0 0 286 [some (vR 12 0), none] [] σ := by
  unfold P_X12_nextToken_J286 at h
  refine E_aload_n dX12_nextToken_286 rfl rfl ?_
  refine E_dup dX12_nextToken_287 (fun _ q => by cases q) ?_
  refine E_geti (i := 0) dX12_nextToken_288 fl_RX12_153 rfl ?_
  refine E_ic dX12_nextToken_291 rfl ?_
  refine E_iadd dX12_nextToken_292 ?_
  refine E_puti dX12_nextToken_293 fl_RX12_153 rfl rfl rfl ?_
  refine E_goto (tgt := 224) dX12_nextToken_296 (by decide) ?_
  exact hR _ h
def P_X12_nextToken_L224   (K : St → Prop) (Q : St → Prop) : Nat → St → Prop
  | 0, _ => False
  | n + 1, σ => P_X12_signAt (σ 12 0 4) σ (fun r_3 σ_2 => (if r_3 < 48 then K σ_2 else P_X12_signAt (σ_2 12 0 4) σ_2 (fun r_5 σ_4 => (if 57 < r_5 then K σ_4 else (if 4 ≤ (wi ((σ_4 12 0 4) - (σ_4 12 0 5))) then P_X12_nextToken_J286 (P_X12_nextToken_L224 K Q n) K Q σ_4 else P_X12_signAt (σ_4 12 0 4) σ_4 (fun r_7 σ_6 => P_X12_nextToken_J286 (P_X12_nextToken_L224 K Q n) K Q (up σ_6 12 0 8 (wi ((wi ((wi ((σ_4 12 0 8) * 10)) + r_7)) - 48)))))))))
set_option maxRecDepth 20000 in
set_option maxHeartbeats 2000000 in
theorem e_P_X12_nextToken_L224   {K : St → Prop} {Q : St → Prop}  (hK : ∀ σ, K σ → E Y_X12_nextToken 1 0 0 (QV Q) ww 0 0 299 [some (vR 12 0), none] [] σ) : ∀ (n : Nat) (σ : St), P_X12_nextToken_L224 K Q n  σ → E Y_X12_nextToken 1 0 0 (QV Q) ww 0 0 224 [some (vR 12 0), none] [] σ := by
  intro n
  induction n with
  | zero => intro  σ h; exact h.elim
  | succ n hR =>
    intro  σ h
    unfold P_X12_nextToken_L224 at h
    refine E_aload_n dX12_nextToken_224 rfl rfl ?_
    refine E_aload_n dX12_nextToken_225 rfl rfl ?_
    refine E_geti (i := 0) dX12_nextToken_226 fl_RX12_153 rfl ?_
    refine E_callV (Y' := Y_X12_signAt) (as := [vI (σ 12 0 4)]) (st := []) dX12_nextToken_229 lk_RX12_169 m_X12_signAt (by decide) (Nat.le_refl _) (Nat.le_refl _) rfl rfl (Nat.le_of_ble_eq_true rfl) (s_X12_signAt h) (fun r0 B0 σ_2 h => ?_)
    obtain ⟨r_3, rfl, rfl, h⟩ := h
    refine E_bp dX12_nextToken_232 rfl ?_
    refine E_icmp_lt (tgt := 299) dX12_nextToken_234 (by decide) (fun hc => ?_) (fun hc => ?_)
    · have h := Eq.mp (if_pos hc) h
      exact hK _ h
    · have h := Eq.mp (if_neg hc) h
      refine E_aload_n dX12_nextToken_237 rfl rfl ?_
      refine E_aload_n dX12_nextToken_238 rfl rfl ?_
      refine E_geti (i := 0) dX12_nextToken_239 fl_RX12_153 rfl ?_
      refine E_callV (Y' := Y_X12_signAt) (as := [vI (σ_2 12 0 4)]) (st := []) dX12_nextToken_242 lk_RX12_169 m_X12_signAt (by decide) (Nat.le_refl _) (Nat.le_refl _) rfl rfl (Nat.le_of_ble_eq_true rfl) (s_X12_signAt h) (fun r0 B0 σ_4 h => ?_)
      obtain ⟨r_5, rfl, rfl, h⟩ := h
      refine E_bp dX12_nextToken_245 rfl ?_
      refine E_icmp_gt (tgt := 299) dX12_nextToken_247 (by decide) (fun hc => ?_) (fun hc => ?_)
      · have h := Eq.mp (if_pos hc) h
        exact hK _ h
      · have h := Eq.mp (if_neg hc) h
        refine E_aload_n dX12_nextToken_250 rfl rfl ?_
        refine E_geti (i := 0) dX12_nextToken_251 fl_RX12_153 rfl ?_
        refine E_aload_n dX12_nextToken_254 rfl rfl ?_
        refine E_geti (i := 0) dX12_nextToken_255 fl_RX12_156 rfl ?_
        refine E_isub dX12_nextToken_258 ?_
        refine E_ic dX12_nextToken_259 rfl ?_
        refine E_icmp_ge (tgt := 286) dX12_nextToken_260 (by decide) (fun hc => ?_) (fun hc => ?_)
        · have h := Eq.mp (if_pos hc) h
          exact e_P_X12_nextToken_J286 hR hK h
        · have h := Eq.mp (if_neg hc) h
          refine E_aload_n dX12_nextToken_263 rfl rfl ?_
          refine E_aload_n dX12_nextToken_264 rfl rfl ?_
          refine E_geti (i := 0) dX12_nextToken_265 fl_RX12_163 rfl ?_
          refine E_bp dX12_nextToken_268 rfl ?_
          refine E_imul dX12_nextToken_270 ?_
          refine E_aload_n dX12_nextToken_271 rfl rfl ?_
          refine E_aload_n dX12_nextToken_272 rfl rfl ?_
          refine E_geti (i := 0) dX12_nextToken_273 fl_RX12_153 rfl ?_
          refine E_callV (Y' := Y_X12_signAt) (as := [vI (σ_4 12 0 4)]) (st := [vI (wi ((σ_4 12 0 8) * 10)), vR 12 0]) dX12_nextToken_276 lk_RX12_169 m_X12_signAt (by decide) (Nat.le_refl _) (Nat.le_refl _) rfl rfl (Nat.le_of_ble_eq_true rfl) (s_X12_signAt h) (fun r0 B0 σ_6 h => ?_)
          obtain ⟨r_7, rfl, rfl, h⟩ := h
          refine E_iadd dX12_nextToken_279 ?_
          refine E_bp dX12_nextToken_280 rfl ?_
          refine E_isub dX12_nextToken_282 ?_
          refine E_puti dX12_nextToken_283 fl_RX12_163 rfl rfl rfl ?_
          exact e_P_X12_nextToken_J286 hR hK h
def P_X12_nextToken_J318  (y0 : Int)  (Q : St → Prop) (σ : St) : Prop :=
  Q (up σ 12 0 6 y0)
set_option maxRecDepth 20000 in
set_option maxHeartbeats 2000000 in
theorem e_P_X12_nextToken_J318  {y0 : Int}  {Q : St → Prop} {σ : St}   (h : P_X12_nextToken_J318 y0 Q σ) : E Y_X12_nextToken 1 0 0 (QV Q) ww 0 0 318 [none, none] [vI y0, vR 12 0] σ := by
  unfold P_X12_nextToken_J318 at h
  refine E_puti dX12_nextToken_318 fl_RX12_166 rfl rfl rfl ?_
  exact E_vret dX12_nextToken_321 rfl ⟨rfl, rfl, h⟩
def P_X12_nextToken_J299    (Q : St → Prop) (σ : St) : Prop :=
  (if (wi ((σ 12 0 4) - (σ 12 0 5))) ≤ 4 then P_X12_nextToken_J318 2 Q σ else P_X12_nextToken_J318 4 Q σ)
set_option maxRecDepth 20000 in
set_option maxHeartbeats 2000000 in
theorem e_P_X12_nextToken_J299    {Q : St → Prop} {σ : St}   (h : P_X12_nextToken_J299  Q σ) : E Y_X12_nextToken 1 0 0 (QV Q) ww 0 0 299 [some (vR 12 0), none] [] σ := by
  unfold P_X12_nextToken_J299 at h
  refine E_aload_n dX12_nextToken_299 rfl rfl ?_
  refine E_aload_n dX12_nextToken_300 rfl rfl ?_
  refine E_geti (i := 0) dX12_nextToken_301 fl_RX12_153 rfl ?_
  refine E_aload_n dX12_nextToken_304 rfl rfl ?_
  refine E_geti (i := 0) dX12_nextToken_305 fl_RX12_156 rfl ?_
  refine E_isub dX12_nextToken_308 ?_
  refine E_ic dX12_nextToken_309 rfl ?_
  refine E_icmp_le (tgt := 317) dX12_nextToken_310 (by decide) (fun hc => ?_) (fun hc => ?_)
  · have h := Eq.mp (if_pos hc) h
    refine E_ic dX12_nextToken_317 rfl ?_
    refine E_wk2 [none, none] trivial ?_
    exact e_P_X12_nextToken_J318 h
  · have h := Eq.mp (if_neg hc) h
    refine E_ic dX12_nextToken_313 rfl ?_
    refine E_goto (tgt := 318) dX12_nextToken_314 (by decide) ?_
    refine E_wk2 [none, none] trivial ?_
    exact e_P_X12_nextToken_J318 h
def P_X12_nextToken_J212  (x1 : Int)  (Q : St → Prop) (σ : St) : Prop :=
  (if x1 < 48 then P_X12_nextToken_J322 x1 Q σ else (if 57 < x1 then P_X12_nextToken_J322 x1 Q σ else P_X12_nextToken_L224 (fun σ_8 => P_X12_nextToken_J299 Q σ_8) Q FU σ))
set_option maxRecDepth 20000 in
set_option maxHeartbeats 2000000 in
theorem e_P_X12_nextToken_J212  {x1 : Int}  {Q : St → Prop} {σ : St}   (h : P_X12_nextToken_J212 x1 Q σ) : E Y_X12_nextToken 1 0 0 (QV Q) ww 0 0 212 [some (vR 12 0), some (vI x1)] [] σ := by
  unfold P_X12_nextToken_J212 at h
  refine E_iload_n dX12_nextToken_212 rfl rfl ?_
  refine E_bp dX12_nextToken_213 rfl ?_
  refine E_icmp_lt (tgt := 322) dX12_nextToken_215 (by decide) (fun hc => ?_) (fun hc => ?_)
  · have h := Eq.mp (if_pos hc) h
    exact e_P_X12_nextToken_J322 h
  · have h := Eq.mp (if_neg hc) h
    refine E_iload_n dX12_nextToken_218 rfl rfl ?_
    refine E_bp dX12_nextToken_219 rfl ?_
    refine E_icmp_gt (tgt := 322) dX12_nextToken_221 (by decide) (fun hc => ?_) (fun hc => ?_)
    · have h := Eq.mp (if_pos hc) h
      exact e_P_X12_nextToken_J322 h
    · have h := Eq.mp (if_neg hc) h
      refine E_wk2 [some (vR 12 0), none] ⟨rfl, trivial⟩ ?_
      refine e_P_X12_nextToken_L224 ?_ _ _ h
      · intro σ_8 h
        exact e_P_X12_nextToken_J299 h
def P_X12_nextToken_J175   (R : St → Prop) (K : St → Prop) (Q : St → Prop) (σ : St) : Prop :=
  R (up σ 12 0 4 (wi ((σ 12 0 4) + 1)))
set_option maxRecDepth 20000 in
set_option maxHeartbeats 2000000 in
theorem e_P_X12_nextToken_J175   {R : St → Prop} {K : St → Prop} {Q : St → Prop} {σ : St}  (hR : ∀ σ, R σ → E Y_X12_nextToken 1 0 0 (QV Q) ww 0 0 109 [some (vR 12 0), none] [] σ) (hK : ∀ σ, K σ → E Y_X12_nextToken 1 0 0 (QV Q) ww 0 0 188 [some (vR 12 0), none] [] σ) (h : P_X12_nextToken_J175 R K Q σ) : E Y_X12_nextToken 1 0 0 (QV Q) ww 0 0 175 [some (vR 12 0), none] [] σ := by
  unfold P_X12_nextToken_J175 at h
  refine E_aload_n dX12_nextToken_175 rfl rfl ?_
  refine E_dup dX12_nextToken_176 (fun _ q => by cases q) ?_
  refine E_geti (i := 0) dX12_nextToken_177 fl_RX12_153 rfl ?_
  refine E_ic dX12_nextToken_180 rfl ?_
  refine E_iadd dX12_nextToken_181 ?_
  refine E_puti dX12_nextToken_182 fl_RX12_153 rfl rfl rfl ?_
  refine E_goto (tgt := 109) dX12_nextToken_185 (by decide) ?_
  exact hR _ h
def P_X12_nextToken_L109   (K : St → Prop) (Q : St → Prop) : Nat → St → Prop
  | 0, _ => False
  | n + 1, σ => P_X12_signAt (σ 12 0 4) σ (fun r_10 σ_9 => (if r_10 < 97 then K σ_9 else P_X12_signAt (σ_9 12 0 4) σ_9 (fun r_12 σ_11 => (if 122 < r_12 then K σ_11 else (if 8 ≤ (wi ((σ_11 12 0 4) - (σ_11 12 0 5))) then P_X12_nextToken_J175 (P_X12_nextToken_L109 K Q n) K Q σ_11 else P_X12_signAt (σ_11 12 0 4) σ_11 (fun r_14 σ_13 => P_X12_nextToken_J175 (P_X12_nextToken_L109 K Q n) K Q (up σ_13 12 0 7 (wj ((wj ((wj ((σ_11 12 0 7) * 27)) + r_14)) - 96)))))))))
set_option maxRecDepth 20000 in
set_option maxHeartbeats 2000000 in
theorem e_P_X12_nextToken_L109   {K : St → Prop} {Q : St → Prop}  (hK : ∀ σ, K σ → E Y_X12_nextToken 1 0 0 (QV Q) ww 0 0 188 [some (vR 12 0), none] [] σ) : ∀ (n : Nat) (σ : St), P_X12_nextToken_L109 K Q n  σ → E Y_X12_nextToken 1 0 0 (QV Q) ww 0 0 109 [some (vR 12 0), none] [] σ := by
  intro n
  induction n with
  | zero => intro  σ h; exact h.elim
  | succ n hR =>
    intro  σ h
    unfold P_X12_nextToken_L109 at h
    refine E_aload_n dX12_nextToken_109 rfl rfl ?_
    refine E_aload_n dX12_nextToken_110 rfl rfl ?_
    refine E_geti (i := 0) dX12_nextToken_111 fl_RX12_153 rfl ?_
    refine E_callV (Y' := Y_X12_signAt) (as := [vI (σ 12 0 4)]) (st := []) dX12_nextToken_114 lk_RX12_169 m_X12_signAt (by decide) (Nat.le_refl _) (Nat.le_refl _) rfl rfl (Nat.le_of_ble_eq_true rfl) (s_X12_signAt h) (fun r0 B0 σ_9 h => ?_)
    obtain ⟨r_10, rfl, rfl, h⟩ := h
    refine E_bp dX12_nextToken_117 rfl ?_
    refine E_icmp_lt (tgt := 188) dX12_nextToken_119 (by decide) (fun hc => ?_) (fun hc => ?_)
    · have h := Eq.mp (if_pos hc) h
      exact hK _ h
    · have h := Eq.mp (if_neg hc) h
      refine E_aload_n dX12_nextToken_122 rfl rfl ?_
      refine E_aload_n dX12_nextToken_123 rfl rfl ?_
      refine E_geti (i := 0) dX12_nextToken_124 fl_RX12_153 rfl ?_
      refine E_callV (Y' := Y_X12_signAt) (as := [vI (σ_9 12 0 4)]) (st := []) dX12_nextToken_127 lk_RX12_169 m_X12_signAt (by decide) (Nat.le_refl _) (Nat.le_refl _) rfl rfl (Nat.le_of_ble_eq_true rfl) (s_X12_signAt h) (fun r0 B0 σ_11 h => ?_)
      obtain ⟨r_12, rfl, rfl, h⟩ := h
      refine E_bp dX12_nextToken_130 rfl ?_
      refine E_icmp_gt (tgt := 188) dX12_nextToken_132 (by decide) (fun hc => ?_) (fun hc => ?_)
      · have h := Eq.mp (if_pos hc) h
        exact hK _ h
      · have h := Eq.mp (if_neg hc) h
        refine E_aload_n dX12_nextToken_135 rfl rfl ?_
        refine E_geti (i := 0) dX12_nextToken_136 fl_RX12_153 rfl ?_
        refine E_aload_n dX12_nextToken_139 rfl rfl ?_
        refine E_geti (i := 0) dX12_nextToken_140 fl_RX12_156 rfl ?_
        refine E_isub dX12_nextToken_143 ?_
        refine E_bp dX12_nextToken_144 rfl ?_
        refine E_icmp_ge (tgt := 175) dX12_nextToken_146 (by decide) (fun hc => ?_) (fun hc => ?_)
        · have h := Eq.mp (if_pos hc) h
          exact e_P_X12_nextToken_J175 hR hK h
        · have h := Eq.mp (if_neg hc) h
          refine E_aload_n dX12_nextToken_149 rfl rfl ?_
          refine E_aload_n dX12_nextToken_150 rfl rfl ?_
          refine E_getl (i := 0) dX12_nextToken_151 fl_RX12_159 rfl ?_
          refine E_ldc2 (z := 27) dX12_nextToken_154 kl_RX12_173 (by decide) ?_
          refine E_lmul dX12_nextToken_157 ?_
          refine E_aload_n dX12_nextToken_158 rfl rfl ?_
          refine E_aload_n dX12_nextToken_159 rfl rfl ?_
          refine E_geti (i := 0) dX12_nextToken_160 fl_RX12_153 rfl ?_
          refine E_callV (Y' := Y_X12_signAt) (as := [vI (σ_11 12 0 4)]) (st := [vL (wj ((σ_11 12 0 7) * 27)), vR 12 0]) dX12_nextToken_163 lk_RX12_169 m_X12_signAt (by decide) (Nat.le_refl _) (Nat.le_refl _) rfl rfl (Nat.le_of_ble_eq_true rfl) (s_X12_signAt h) (fun r0 B0 σ_13 h => ?_)
          obtain ⟨r_14, rfl, rfl, h⟩ := h
          refine E_i2l dX12_nextToken_166 ?_
          refine E_ladd dX12_nextToken_167 ?_
          refine E_ldc2 (z := 96) dX12_nextToken_168 kl_RX12_175 (by decide) ?_
          refine E_lsub dX12_nextToken_171 ?_
          refine E_putl dX12_nextToken_172 fl_RX12_159 rfl rfl rfl ?_
          exact e_P_X12_nextToken_J175 hR hK h
def P_X12_nextToken_J208  (y0 : Int)  (Q : St → Prop) (σ : St) : Prop :=
  Q (up σ 12 0 6 y0)
set_option maxRecDepth 20000 in
set_option maxHeartbeats 2000000 in
theorem e_P_X12_nextToken_J208  {y0 : Int}  {Q : St → Prop} {σ : St}   (h : P_X12_nextToken_J208 y0 Q σ) : E Y_X12_nextToken 1 0 0 (QV Q) ww 0 0 208 [none, none] [vI y0, vR 12 0] σ := by
  unfold P_X12_nextToken_J208 at h
  refine E_puti dX12_nextToken_208 fl_RX12_166 rfl rfl rfl ?_
  exact E_vret dX12_nextToken_211 rfl ⟨rfl, rfl, h⟩
def P_X12_nextToken_J188    (Q : St → Prop) (σ : St) : Prop :=
  (if (wi ((σ 12 0 4) - (σ 12 0 5))) ≤ 8 then P_X12_nextToken_J208 1 Q σ else P_X12_nextToken_J208 4 Q σ)
set_option maxRecDepth 20000 in
set_option maxHeartbeats 2000000 in
theorem e_P_X12_nextToken_J188    {Q : St → Prop} {σ : St}   (h : P_X12_nextToken_J188  Q σ) : E Y_X12_nextToken 1 0 0 (QV Q) ww 0 0 188 [some (vR 12 0), none] [] σ := by
  unfold P_X12_nextToken_J188 at h
  refine E_aload_n dX12_nextToken_188 rfl rfl ?_
  refine E_aload_n dX12_nextToken_189 rfl rfl ?_
  refine E_geti (i := 0) dX12_nextToken_190 fl_RX12_153 rfl ?_
  refine E_aload_n dX12_nextToken_193 rfl rfl ?_
  refine E_geti (i := 0) dX12_nextToken_194 fl_RX12_156 rfl ?_
  refine E_isub dX12_nextToken_197 ?_
  refine E_bp dX12_nextToken_198 rfl ?_
  refine E_icmp_le (tgt := 207) dX12_nextToken_200 (by decide) (fun hc => ?_) (fun hc => ?_)
  · have h := Eq.mp (if_pos hc) h
    refine E_ic dX12_nextToken_207 rfl ?_
    refine E_wk2 [none, none] trivial ?_
    exact e_P_X12_nextToken_J208 h
  · have h := Eq.mp (if_neg hc) h
    refine E_ic dX12_nextToken_203 rfl ?_
    refine E_goto (tgt := 208) dX12_nextToken_204 (by decide) ?_
    refine E_wk2 [none, none] trivial ?_
    exact e_P_X12_nextToken_J208 h
def P_X12_nextToken_J52    (Q : St → Prop) (σ : St) : Prop :=
  (if ((up (up (up σ 12 0 5 (σ 12 0 4)) 12 0 7 0) 12 0 8 0) 12 0 4) = ((up (up (up σ 12 0 5 (σ 12 0 4)) 12 0 7 0) 12 0 8 0) 12 0 3) then Q (up (up (up (up σ 12 0 5 (σ 12 0 4)) 12 0 7 0) 12 0 8 0) 12 0 6 0) else 0 ≤ (up (up (up σ 12 0 5 (σ 12 0 4)) 12 0 7 0) 12 0 8 0) 12 0 4 ∧ (up (up (up σ 12 0 5 (σ 12 0 4)) 12 0 7 0) 12 0 8 0) 12 0 4 < 1000 ∧ (if ((up (up (up σ 12 0 5 (σ 12 0 4)) 12 0 7 0) 12 0 8 0) 1302 0 ((up (up (up σ 12 0 5 (σ 12 0 4)) 12 0 7 0) 12 0 8 0) 12 0 4)) < 97 then P_X12_nextToken_J212 ((up (up (up σ 12 0 5 (σ 12 0 4)) 12 0 7 0) 12 0 8 0) 1302 0 ((up (up (up σ 12 0 5 (σ 12 0 4)) 12 0 7 0) 12 0 8 0) 12 0 4)) Q (up (up (up σ 12 0 5 (σ 12 0 4)) 12 0 7 0) 12 0 8 0) else (if 122 < ((up (up (up σ 12 0 5 (σ 12 0 4)) 12 0 7 0) 12 0 8 0) 1302 0 ((up (up (up σ 12 0 5 (σ 12 0 4)) 12 0 7 0) 12 0 8 0) 12 0 4)) then P_X12_nextToken_J212 ((up (up (up σ 12 0 5 (σ 12 0 4)) 12 0 7 0) 12 0 8 0) 1302 0 ((up (up (up σ 12 0 5 (σ 12 0 4)) 12 0 7 0) 12 0 8 0) 12 0 4)) Q (up (up (up σ 12 0 5 (σ 12 0 4)) 12 0 7 0) 12 0 8 0) else P_X12_nextToken_L109 (fun σ_15 => P_X12_nextToken_J188 Q σ_15) Q FU (up (up (up σ 12 0 5 (σ 12 0 4)) 12 0 7 0) 12 0 8 0))))
set_option maxRecDepth 20000 in
set_option maxHeartbeats 2000000 in
theorem e_P_X12_nextToken_J52    {Q : St → Prop} {σ : St}   (h : P_X12_nextToken_J52  Q σ) : E Y_X12_nextToken 1 0 0 (QV Q) ww 0 0 52 [some (vR 12 0), none] [] σ := by
  unfold P_X12_nextToken_J52 at h
  refine E_aload_n dX12_nextToken_52 rfl rfl ?_
  refine E_aload_n dX12_nextToken_53 rfl rfl ?_
  refine E_geti (i := 0) dX12_nextToken_54 fl_RX12_153 rfl ?_
  refine E_puti dX12_nextToken_57 fl_RX12_156 rfl rfl rfl ?_
  refine E_aload_n dX12_nextToken_60 rfl rfl ?_
  refine E_lc dX12_nextToken_61 rfl ?_
  refine E_putl dX12_nextToken_62 fl_RX12_159 rfl rfl rfl ?_
  refine E_aload_n dX12_nextToken_65 rfl rfl ?_
  refine E_ic dX12_nextToken_66 rfl ?_
  refine E_puti dX12_nextToken_67 fl_RX12_163 rfl rfl rfl ?_
  refine E_aload_n dX12_nextToken_70 rfl rfl ?_
  refine E_geti (i := 0) dX12_nextToken_71 fl_RX12_153 rfl ?_
  refine E_aload_n dX12_nextToken_74 rfl rfl ?_
  refine E_geti (i := 0) dX12_nextToken_75 fl_RX12_150 rfl ?_
  refine E_icmp_ne (tgt := 87) dX12_nextToken_78 (by decide) (fun hc => ?_) (fun hc => ?_)
  · have h := Eq.mp (if_neg hc) h
    refine E_aload_n dX12_nextToken_87 rfl rfl ?_
    refine E_getr (i := 0) dX12_nextToken_88 fl_RX12_7 rfl rfl (go_12_2 _ _) ?_
    refine E_aload_n dX12_nextToken_91 rfl rfl ?_
    refine E_geti (i := 0) dX12_nextToken_92 fl_RX12_153 rfl ?_
    obtain ⟨hg0, hg1, h⟩ := h
    refine E_iald dX12_nextToken_95 sh_1302 hg0 hg1 ?_
    refine E_istore_n (ls' := [some (vR 12 0), some (vI ((up (up (up σ 12 0 5 (σ 12 0 4)) 12 0 7 0) 12 0 8 0) 1302 0 ((up (up (up σ 12 0 5 (σ 12 0 4)) 12 0 7 0) 12 0 8 0) 12 0 4)))]) dX12_nextToken_96 rfl (by decide) rfl ?_
    refine E_iload_n dX12_nextToken_97 rfl rfl ?_
    refine E_bp dX12_nextToken_98 rfl ?_
    refine E_icmp_lt (tgt := 212) dX12_nextToken_100 (by decide) (fun hc => ?_) (fun hc => ?_)
    · have h := Eq.mp (if_pos hc) h
      exact e_P_X12_nextToken_J212 h
    · have h := Eq.mp (if_neg hc) h
      refine E_iload_n dX12_nextToken_103 rfl rfl ?_
      refine E_bp dX12_nextToken_104 rfl ?_
      refine E_icmp_gt (tgt := 212) dX12_nextToken_106 (by decide) (fun hc => ?_) (fun hc => ?_)
      · have h := Eq.mp (if_pos hc) h
        exact e_P_X12_nextToken_J212 h
      · have h := Eq.mp (if_neg hc) h
        refine E_wk2 [some (vR 12 0), none] ⟨rfl, trivial⟩ ?_
        refine e_P_X12_nextToken_L109 ?_ _ _ h
        · intro σ_15 h
          exact e_P_X12_nextToken_J188 h
  · have h := Eq.mp (if_pos hc) h
    refine E_aload_n dX12_nextToken_81 rfl rfl ?_
    refine E_ic dX12_nextToken_82 rfl ?_
    refine E_puti dX12_nextToken_83 fl_RX12_166 rfl rfl rfl ?_
    exact E_vret dX12_nextToken_86 rfl ⟨rfl, rfl, h⟩
def P_X12_nextToken   (σ : St) (Q : St → Prop) : Prop :=
  P_X12_nextToken_L0 (fun σ_1 => P_X12_nextToken_J52 Q σ_1) Q FU σ
set_option maxRecDepth 20000 in
set_option maxHeartbeats 2000000 in
theorem s_X12_nextToken    {σ : St} {Q : St → Prop} (h : P_X12_nextToken  σ Q) : Cn Y_X12_nextToken 1 0 0 ww σ [vR 12 0] (QV Q) := by
  refine Cn_of [some (vR 12 0), none] (by decide) (Nat.le_of_ble_eq_true rfl) rfl ?_
  unfold P_X12_nextToken at h
  refine e_P_X12_nextToken_L0 ?_ _ _ h
  · intro σ_1 h
    exact e_P_X12_nextToken_J52 h
abbrev Y_X12_isWord : My := (yX12_isWord, cX12_isWord, 3, some .boolean)
theorem dX12_isWord_0 : decode cX12_isWord 0 = .ok (.aload_n 0, 1) := by decide +kernel
theorem dX12_isWord_1 : decode cX12_isWord 1 = .ok (.getfield 166, 3) := by decide +kernel
theorem dX12_isWord_4 : decode cX12_isWord 4 = .ok (.iconst 1, 1) := by decide +kernel
theorem dX12_isWord_5 : decode cX12_isWord 5 = .ok (.if_icmp .ne 16, 3) := by decide +kernel
theorem dX12_isWord_8 : decode cX12_isWord 8 = .ok (.aload_n 0, 1) := by decide +kernel
theorem dX12_isWord_9 : decode cX12_isWord 9 = .ok (.getfield 159, 3) := by decide +kernel
theorem dX12_isWord_12 : decode cX12_isWord 12 = .ok (.lload_n 1, 1) := by decide +kernel
theorem dX12_isWord_13 : decode cX12_isWord 13 = .ok (.lcmp, 1) := by decide +kernel
theorem dX12_isWord_14 : decode cX12_isWord 14 = .ok (.ifCond .ne 7, 3) := by decide +kernel
theorem dX12_isWord_17 : decode cX12_isWord 17 = .ok (.iconst 1, 1) := by decide +kernel
theorem dX12_isWord_18 : decode cX12_isWord 18 = .ok (.goto 4, 3) := by decide +kernel
theorem dX12_isWord_21 : decode cX12_isWord 21 = .ok (.iconst 0, 1) := by decide +kernel
theorem dX12_isWord_22 : decode cX12_isWord 22 = .ok (.ireturn, 1) := by decide +kernel
def P_X12_isWord_J21    (Q : Int → St → Prop) (σ : St) : Prop :=
  Q 0 σ
set_option maxRecDepth 20000 in
set_option maxHeartbeats 2000000 in
theorem e_P_X12_isWord_J21    {Q : Int → St → Prop} {σ : St}   (h : P_X12_isWord_J21  Q σ) : E Y_X12_isWord 0 0 0 (QI Q) ww 0 0 21 [none, none, none] [] σ := by
  unfold P_X12_isWord_J21 at h
  refine E_ic dX12_isWord_21 rfl ?_
  exact E_zret dX12_isWord_22 rfl (by decide) ⟨_, rfl, rfl, h⟩
def P_X12_isWord  (x1 : Int) (σ : St) (Q : Int → St → Prop) : Prop :=
  (if (σ 12 0 6) = 1 then (if (lC (σ 12 0 7) x1) = 0 then Q 1 σ else P_X12_isWord_J21 Q σ) else P_X12_isWord_J21 Q σ)
set_option maxRecDepth 20000 in
set_option maxHeartbeats 2000000 in
theorem s_X12_isWord   {x1 : Int} {σ : St} {Q : Int → St → Prop} (h : P_X12_isWord x1 σ Q) : Cn Y_X12_isWord 0 0 0 ww σ [vR 12 0, vL x1] (QI Q) := by
  refine Cn_of [some (vR 12 0), some (vL x1), none] (by decide) (Nat.le_of_ble_eq_true rfl) rfl ?_
  unfold P_X12_isWord at h
  refine E_aload_n dX12_isWord_0 rfl rfl ?_
  refine E_geti (i := 0) dX12_isWord_1 fl_RX12_166 rfl ?_
  refine E_ic dX12_isWord_4 rfl ?_
  refine E_icmp_ne (tgt := 21) dX12_isWord_5 (by decide) (fun hc => ?_) (fun hc => ?_)
  · have h := Eq.mp (if_neg hc) h
    refine E_wk2 [none, none, none] trivial ?_
    exact e_P_X12_isWord_J21 h
  · have h := Eq.mp (if_pos hc) h
    refine E_aload_n dX12_isWord_8 rfl rfl ?_
    refine E_getl (i := 0) dX12_isWord_9 fl_RX12_159 rfl ?_
    refine E_lload_n dX12_isWord_12 rfl rfl ?_
    refine E_lcmp dX12_isWord_13 ?_
    refine E_if_ne (tgt := 21) dX12_isWord_14 (by decide) (fun hc => ?_) (fun hc => ?_)
    · have h := Eq.mp (if_neg hc) h
      refine E_wk2 [none, none, none] trivial ?_
      exact e_P_X12_isWord_J21 h
    · have h := Eq.mp (if_pos hc) h
      refine E_ic dX12_isWord_17 rfl ?_
      refine E_goto (tgt := 22) dX12_isWord_18 (by decide) ?_
      exact E_zret dX12_isWord_22 rfl (by decide) ⟨_, rfl, rfl, h⟩
abbrev Y_X12_isSign : My := (yX12_isSign, cX12_isSign, 2, some .boolean)
theorem dX12_isSign_0 : decode cX12_isSign 0 = .ok (.aload_n 0, 1) := by decide +kernel
theorem dX12_isSign_1 : decode cX12_isSign 1 = .ok (.getfield 166, 3) := by decide +kernel
theorem dX12_isSign_4 : decode cX12_isSign 4 = .ok (.iconst 3, 1) := by decide +kernel
theorem dX12_isSign_5 : decode cX12_isSign 5 = .ok (.if_icmp .ne 20, 3) := by decide +kernel
theorem dX12_isSign_8 : decode cX12_isSign 8 = .ok (.aload_n 0, 1) := by decide +kernel
theorem dX12_isSign_9 : decode cX12_isSign 9 = .ok (.getfield 7, 3) := by decide +kernel
theorem dX12_isSign_12 : decode cX12_isSign 12 = .ok (.aload_n 0, 1) := by decide +kernel
theorem dX12_isSign_13 : decode cX12_isSign 13 = .ok (.getfield 156, 3) := by decide +kernel
theorem dX12_isSign_16 : decode cX12_isSign 16 = .ok (.iaload, 1) := by decide +kernel
theorem dX12_isSign_17 : decode cX12_isSign 17 = .ok (.iload_n 1, 1) := by decide +kernel
theorem dX12_isSign_18 : decode cX12_isSign 18 = .ok (.if_icmp .ne 7, 3) := by decide +kernel
theorem dX12_isSign_21 : decode cX12_isSign 21 = .ok (.iconst 1, 1) := by decide +kernel
theorem dX12_isSign_22 : decode cX12_isSign 22 = .ok (.goto 4, 3) := by decide +kernel
theorem dX12_isSign_25 : decode cX12_isSign 25 = .ok (.iconst 0, 1) := by decide +kernel
theorem dX12_isSign_26 : decode cX12_isSign 26 = .ok (.ireturn, 1) := by decide +kernel
def P_X12_isSign_J25    (Q : Int → St → Prop) (σ : St) : Prop :=
  Q 0 σ
set_option maxRecDepth 20000 in
set_option maxHeartbeats 2000000 in
theorem e_P_X12_isSign_J25    {Q : Int → St → Prop} {σ : St}   (h : P_X12_isSign_J25  Q σ) : E Y_X12_isSign 0 0 0 (QI Q) ww 0 0 25 [none, none] [] σ := by
  unfold P_X12_isSign_J25 at h
  refine E_ic dX12_isSign_25 rfl ?_
  exact E_zret dX12_isSign_26 rfl (by decide) ⟨_, rfl, rfl, h⟩
def P_X12_isSign  (x1 : Int) (σ : St) (Q : Int → St → Prop) : Prop :=
  (if (σ 12 0 6) = 3 then 0 ≤ σ 12 0 5 ∧ σ 12 0 5 < 1000 ∧ (if (σ 1302 0 (σ 12 0 5)) = x1 then Q 1 σ else P_X12_isSign_J25 Q σ) else P_X12_isSign_J25 Q σ)
set_option maxRecDepth 20000 in
set_option maxHeartbeats 2000000 in
theorem s_X12_isSign   {x1 : Int} {σ : St} {Q : Int → St → Prop} (h : P_X12_isSign x1 σ Q) : Cn Y_X12_isSign 0 0 0 ww σ [vR 12 0, vI x1] (QI Q) := by
  refine Cn_of [some (vR 12 0), some (vI x1)] (by decide) (Nat.le_of_ble_eq_true rfl) rfl ?_
  unfold P_X12_isSign at h
  refine E_aload_n dX12_isSign_0 rfl rfl ?_
  refine E_geti (i := 0) dX12_isSign_1 fl_RX12_166 rfl ?_
  refine E_ic dX12_isSign_4 rfl ?_
  refine E_icmp_ne (tgt := 25) dX12_isSign_5 (by decide) (fun hc => ?_) (fun hc => ?_)
  · have h := Eq.mp (if_neg hc) h
    refine E_wk2 [none, none] trivial ?_
    exact e_P_X12_isSign_J25 h
  · have h := Eq.mp (if_pos hc) h
    refine E_aload_n dX12_isSign_8 rfl rfl ?_
    refine E_getr (i := 0) dX12_isSign_9 fl_RX12_7 rfl rfl (go_12_2 _ _) ?_
    refine E_aload_n dX12_isSign_12 rfl rfl ?_
    refine E_geti (i := 0) dX12_isSign_13 fl_RX12_156 rfl ?_
    obtain ⟨hg0, hg1, h⟩ := h
    refine E_iald dX12_isSign_16 sh_1302 hg0 hg1 ?_
    refine E_iload_n dX12_isSign_17 rfl rfl ?_
    refine E_icmp_ne (tgt := 25) dX12_isSign_18 (by decide) (fun hc => ?_) (fun hc => ?_)
    · have h := Eq.mp (if_neg hc) h
      refine E_wk2 [none, none] trivial ?_
      exact e_P_X12_isSign_J25 h
    · have h := Eq.mp (if_pos hc) h
      refine E_ic dX12_isSign_21 rfl ?_
      refine E_goto (tgt := 26) dX12_isSign_22 (by decide) ?_
      exact E_zret dX12_isSign_26 rfl (by decide) ⟨_, rfl, rfl, h⟩
abbrev Y_X12_fails : My := (yX12_fails, cX12_fails, 2, some .boolean)
theorem dX12_fails_0 : decode cX12_fails 0 = .ok (.aload_n 0, 1) := by decide +kernel
theorem dX12_fails_1 : decode cX12_fails 1 = .ok (.iload_n 1, 1) := by decide +kernel
theorem dX12_fails_2 : decode cX12_fails 2 = .ok (.bipush 16, 2) := by decide +kernel
theorem dX12_fails_4 : decode cX12_fails 4 = .ok (.aload_n 0, 1) := by decide +kernel
theorem dX12_fails_5 : decode cX12_fails 5 = .ok (.getfield 156, 3) := by decide +kernel
theorem dX12_fails_8 : decode cX12_fails 8 = .ok (.imul, 1) := by decide +kernel
theorem dX12_fails_9 : decode cX12_fails 9 = .ok (.iadd, 1) := by decide +kernel
theorem dX12_fails_10 : decode cX12_fails 10 = .ok (.putfield 177, 3) := by decide +kernel
theorem dX12_fails_13 : decode cX12_fails 13 = .ok (.iconst 0, 1) := by decide +kernel
theorem dX12_fails_14 : decode cX12_fails 14 = .ok (.ireturn, 1) := by decide +kernel
theorem fl_RX12_177 : FL RX12 177 12 9 := ⟨inG (i := 1409) (by decide +kernel) (by decide +kernel), by decide, by decide⟩
def P_X12_fails  (x1 : Int) (σ : St) (Q : Int → St → Prop) : Prop :=
  Q 0 (up σ 12 0 9 (wi (x1 + (wi (16 * (σ 12 0 5))))))
set_option maxRecDepth 20000 in
set_option maxHeartbeats 2000000 in
theorem s_X12_fails   {x1 : Int} {σ : St} {Q : Int → St → Prop} (h : P_X12_fails x1 σ Q) : Cn Y_X12_fails 0 0 0 ww σ [vR 12 0, vI x1] (QI Q) := by
  refine Cn_of [some (vR 12 0), some (vI x1)] (by decide) (Nat.le_of_ble_eq_true rfl) rfl ?_
  unfold P_X12_fails at h
  refine E_aload_n dX12_fails_0 rfl rfl ?_
  refine E_iload_n dX12_fails_1 rfl rfl ?_
  refine E_bp dX12_fails_2 rfl ?_
  refine E_aload_n dX12_fails_4 rfl rfl ?_
  refine E_geti (i := 0) dX12_fails_5 fl_RX12_156 rfl ?_
  refine E_imul dX12_fails_8 ?_
  refine E_iadd dX12_fails_9 ?_
  refine E_puti dX12_fails_10 fl_RX12_177 rfl rfl rfl ?_
  refine E_ic dX12_fails_13 rfl ?_
  exact E_zret dX12_fails_14 rfl (by decide) ⟨_, rfl, rfl, h⟩
abbrev Y_X12_puts : My := (yX12_puts, cX12_puts, 2, none)
theorem dX12_puts_0 : decode cX12_puts 0 = .ok (.aload_n 0, 1) := by decide +kernel
theorem dX12_puts_1 : decode cX12_puts 1 = .ok (.getfield 47, 3) := by decide +kernel
theorem dX12_puts_4 : decode cX12_puts 4 = .ok (.aload_n 0, 1) := by decide +kernel
theorem dX12_puts_5 : decode cX12_puts 5 = .ok (.getfield 180, 3) := by decide +kernel
theorem dX12_puts_8 : decode cX12_puts 8 = .ok (.iload_n 1, 1) := by decide +kernel
theorem dX12_puts_9 : decode cX12_puts 9 = .ok (.iastore, 1) := by decide +kernel
theorem dX12_puts_10 : decode cX12_puts 10 = .ok (.aload_n 0, 1) := by decide +kernel
theorem dX12_puts_11 : decode cX12_puts 11 = .ok (.dup, 1) := by decide +kernel
theorem dX12_puts_12 : decode cX12_puts 12 = .ok (.getfield 180, 3) := by decide +kernel
theorem dX12_puts_15 : decode cX12_puts 15 = .ok (.iconst 1, 1) := by decide +kernel
theorem dX12_puts_16 : decode cX12_puts 16 = .ok (.iadd, 1) := by decide +kernel
theorem dX12_puts_17 : decode cX12_puts 17 = .ok (.putfield 180, 3) := by decide +kernel
theorem dX12_puts_20 : decode cX12_puts 20 = .ok (.return_, 1) := by decide +kernel
theorem fl_RX12_180 : FL RX12 180 12 22 := ⟨inG (i := 1422) (by decide +kernel) (by decide +kernel), by decide, by decide⟩
theorem fl_RX12_47 : FL RX12 47 12 21 := ⟨inG (i := 1421) (by decide +kernel) (by decide +kernel), by decide, by decide⟩
theorem go_12_21 (σ : St) (i : Nat) : go σ 12 i 21 = (1321, i) := rfl
theorem sh_1321 : shp 1321 = (0, 2000) := rfl
def P_X12_puts  (x1 : Int) (σ : St) (Q : St → Prop) : Prop :=
  0 ≤ σ 12 0 22 ∧ σ 12 0 22 < 2000 ∧ Q (up (up σ 1321 0 (σ 12 0 22) x1) 12 0 22 (wi (((up σ 1321 0 (σ 12 0 22) x1) 12 0 22) + 1)))
set_option maxRecDepth 20000 in
set_option maxHeartbeats 2000000 in
theorem s_X12_puts   {x1 : Int} {σ : St} {Q : St → Prop} (h : P_X12_puts x1 σ Q) : Cn Y_X12_puts 0 0 0 ww σ [vR 12 0, vI x1] (QV Q) := by
  refine Cn_of [some (vR 12 0), some (vI x1)] (by decide) (Nat.le_of_ble_eq_true rfl) rfl ?_
  unfold P_X12_puts at h
  refine E_aload_n dX12_puts_0 rfl rfl ?_
  refine E_getr (i := 0) dX12_puts_1 fl_RX12_47 rfl rfl (go_12_21 _ _) ?_
  refine E_aload_n dX12_puts_4 rfl rfl ?_
  refine E_geti (i := 0) dX12_puts_5 fl_RX12_180 rfl ?_
  refine E_iload_n dX12_puts_8 rfl rfl ?_
  obtain ⟨hg0, hg1, h⟩ := h
  refine E_iast dX12_puts_9 sh_1321 hg0 hg1 ?_
  refine E_aload_n dX12_puts_10 rfl rfl ?_
  refine E_dup dX12_puts_11 (fun _ q => by cases q) ?_
  refine E_geti (i := 0) dX12_puts_12 fl_RX12_180 rfl ?_
  refine E_ic dX12_puts_15 rfl ?_
  refine E_iadd dX12_puts_16 ?_
  refine E_puti dX12_puts_17 fl_RX12_180 rfl rfl rfl ?_
  exact E_vret dX12_puts_20 rfl ⟨rfl, rfl, h⟩
abbrev Y_X12_fact : My := (yX12_fact, cX12_fact, 1, some .int)
theorem dX12_fact_0 : decode cX12_fact 0 = .ok (.aload_n 0, 1) := by decide +kernel
theorem dX12_fact_1 : decode cX12_fact 1 = .ok (.getfield 166, 3) := by decide +kernel
theorem dX12_fact_4 : decode cX12_fact 4 = .ok (.iconst 1, 1) := by decide +kernel
theorem dX12_fact_5 : decode cX12_fact 5 = .ok (.if_icmp .eq 5, 3) := by decide +kernel
theorem dX12_fact_8 : decode cX12_fact 8 = .ok (.iconst 0, 1) := by decide +kernel
theorem dX12_fact_9 : decode cX12_fact 9 = .ok (.ireturn, 1) := by decide +kernel
theorem dX12_fact_10 : decode cX12_fact 10 = .ok (.aload_n 0, 1) := by decide +kernel
theorem dX12_fact_11 : decode cX12_fact 11 = .ok (.getfield 159, 3) := by decide +kernel
theorem dX12_fact_14 : decode cX12_fact 14 = .ok (.ldc2_w 183, 3) := by decide +kernel
theorem dX12_fact_17 : decode cX12_fact 17 = .ok (.lcmp, 1) := by decide +kernel
theorem dX12_fact_18 : decode cX12_fact 18 = .ok (.ifCond .ne 5, 3) := by decide +kernel
theorem dX12_fact_21 : decode cX12_fact 21 = .ok (.iconst 1, 1) := by decide +kernel
theorem dX12_fact_22 : decode cX12_fact 22 = .ok (.ireturn, 1) := by decide +kernel
theorem dX12_fact_23 : decode cX12_fact 23 = .ok (.aload_n 0, 1) := by decide +kernel
theorem dX12_fact_24 : decode cX12_fact 24 = .ok (.getfield 159, 3) := by decide +kernel
theorem dX12_fact_27 : decode cX12_fact 27 = .ok (.ldc2_w 185, 3) := by decide +kernel
theorem dX12_fact_30 : decode cX12_fact 30 = .ok (.lcmp, 1) := by decide +kernel
theorem dX12_fact_31 : decode cX12_fact 31 = .ok (.ifCond .ne 5, 3) := by decide +kernel
theorem dX12_fact_34 : decode cX12_fact 34 = .ok (.iconst 2, 1) := by decide +kernel
theorem dX12_fact_35 : decode cX12_fact 35 = .ok (.ireturn, 1) := by decide +kernel
theorem dX12_fact_36 : decode cX12_fact 36 = .ok (.aload_n 0, 1) := by decide +kernel
theorem dX12_fact_37 : decode cX12_fact 37 = .ok (.getfield 159, 3) := by decide +kernel
theorem dX12_fact_40 : decode cX12_fact 40 = .ok (.ldc2_w 187, 3) := by decide +kernel
theorem dX12_fact_43 : decode cX12_fact 43 = .ok (.lcmp, 1) := by decide +kernel
theorem dX12_fact_44 : decode cX12_fact 44 = .ok (.ifCond .ne 7, 3) := by decide +kernel
theorem dX12_fact_47 : decode cX12_fact 47 = .ok (.iconst 3, 1) := by decide +kernel
theorem dX12_fact_48 : decode cX12_fact 48 = .ok (.goto 19, 3) := by decide +kernel
theorem dX12_fact_51 : decode cX12_fact 51 = .ok (.aload_n 0, 1) := by decide +kernel
theorem dX12_fact_52 : decode cX12_fact 52 = .ok (.getfield 159, 3) := by decide +kernel
theorem dX12_fact_55 : decode cX12_fact 55 = .ok (.ldc2_w 189, 3) := by decide +kernel
theorem dX12_fact_58 : decode cX12_fact 58 = .ok (.lcmp, 1) := by decide +kernel
theorem dX12_fact_59 : decode cX12_fact 59 = .ok (.ifCond .ne 7, 3) := by decide +kernel
theorem dX12_fact_62 : decode cX12_fact 62 = .ok (.iconst 4, 1) := by decide +kernel
theorem dX12_fact_63 : decode cX12_fact 63 = .ok (.goto 4, 3) := by decide +kernel
theorem dX12_fact_66 : decode cX12_fact 66 = .ok (.iconst 0, 1) := by decide +kernel
theorem dX12_fact_67 : decode cX12_fact 67 = .ok (.ireturn, 1) := by decide +kernel
theorem kl_RX12_183 : Cond.constantLong RX12 183 (12403754) ∈ tG := inG (i := 1709) (by decide +kernel) (by decide +kernel)
theorem kl_RX12_185 : Cond.constantLong RX12 185 (370000) ∈ tG := inG (i := 1710) (by decide +kernel) (by decide +kernel)
theorem kl_RX12_187 : Cond.constantLong RX12 187 (16922) ∈ tG := inG (i := 1711) (by decide +kernel) (by decide +kernel)
theorem kl_RX12_189 : Cond.constantLong RX12 189 (80006) ∈ tG := inG (i := 1712) (by decide +kernel) (by decide +kernel)
def P_X12_fact   (σ : St) (Q : Int → St → Prop) : Prop :=
  (if (σ 12 0 6) = 1 then (if (lC (σ 12 0 7) 12403754) = 0 then Q 1 σ else (if (lC (σ 12 0 7) 370000) = 0 then Q 2 σ else (if (lC (σ 12 0 7) 16922) = 0 then Q 3 σ else (if (lC (σ 12 0 7) 80006) = 0 then Q 4 σ else Q 0 σ)))) else Q 0 σ)
set_option maxRecDepth 20000 in
set_option maxHeartbeats 2000000 in
theorem s_X12_fact    {σ : St} {Q : Int → St → Prop} (h : P_X12_fact  σ Q) : Cn Y_X12_fact 0 0 0 ww σ [vR 12 0] (QI Q) := by
  refine Cn_of [some (vR 12 0)] (by decide) (Nat.le_of_ble_eq_true rfl) rfl ?_
  unfold P_X12_fact at h
  refine E_aload_n dX12_fact_0 rfl rfl ?_
  refine E_geti (i := 0) dX12_fact_1 fl_RX12_166 rfl ?_
  refine E_ic dX12_fact_4 rfl ?_
  refine E_icmp_eq (tgt := 10) dX12_fact_5 (by decide) (fun hc => ?_) (fun hc => ?_)
  · have h := Eq.mp (if_pos hc) h
    refine E_aload_n dX12_fact_10 rfl rfl ?_
    refine E_getl (i := 0) dX12_fact_11 fl_RX12_159 rfl ?_
    refine E_ldc2 (z := 12403754) dX12_fact_14 kl_RX12_183 (by decide) ?_
    refine E_lcmp dX12_fact_17 ?_
    refine E_if_ne (tgt := 23) dX12_fact_18 (by decide) (fun hc => ?_) (fun hc => ?_)
    · have h := Eq.mp (if_neg hc) h
      refine E_aload_n dX12_fact_23 rfl rfl ?_
      refine E_getl (i := 0) dX12_fact_24 fl_RX12_159 rfl ?_
      refine E_ldc2 (z := 370000) dX12_fact_27 kl_RX12_185 (by decide) ?_
      refine E_lcmp dX12_fact_30 ?_
      refine E_if_ne (tgt := 36) dX12_fact_31 (by decide) (fun hc => ?_) (fun hc => ?_)
      · have h := Eq.mp (if_neg hc) h
        refine E_aload_n dX12_fact_36 rfl rfl ?_
        refine E_getl (i := 0) dX12_fact_37 fl_RX12_159 rfl ?_
        refine E_ldc2 (z := 16922) dX12_fact_40 kl_RX12_187 (by decide) ?_
        refine E_lcmp dX12_fact_43 ?_
        refine E_if_ne (tgt := 51) dX12_fact_44 (by decide) (fun hc => ?_) (fun hc => ?_)
        · have h := Eq.mp (if_neg hc) h
          refine E_aload_n dX12_fact_51 rfl rfl ?_
          refine E_getl (i := 0) dX12_fact_52 fl_RX12_159 rfl ?_
          refine E_ldc2 (z := 80006) dX12_fact_55 kl_RX12_189 (by decide) ?_
          refine E_lcmp dX12_fact_58 ?_
          refine E_if_ne (tgt := 66) dX12_fact_59 (by decide) (fun hc => ?_) (fun hc => ?_)
          · have h := Eq.mp (if_neg hc) h
            refine E_ic dX12_fact_66 rfl ?_
            exact E_iret dX12_fact_67 rfl ⟨_, rfl, rfl, h⟩
          · have h := Eq.mp (if_pos hc) h
            refine E_ic dX12_fact_62 rfl ?_
            refine E_goto (tgt := 67) dX12_fact_63 (by decide) ?_
            exact E_iret dX12_fact_67 rfl ⟨_, rfl, rfl, h⟩
        · have h := Eq.mp (if_pos hc) h
          refine E_ic dX12_fact_47 rfl ?_
          refine E_goto (tgt := 67) dX12_fact_48 (by decide) ?_
          exact E_iret dX12_fact_67 rfl ⟨_, rfl, rfl, h⟩
      · have h := Eq.mp (if_pos hc) h
        refine E_ic dX12_fact_34 rfl ?_
        exact E_iret dX12_fact_35 rfl ⟨_, rfl, rfl, h⟩
    · have h := Eq.mp (if_pos hc) h
      refine E_ic dX12_fact_21 rfl ?_
      exact E_iret dX12_fact_22 rfl ⟨_, rfl, rfl, h⟩
  · have h := Eq.mp (if_neg hc) h
    refine E_ic dX12_fact_8 rfl ?_
    exact E_iret dX12_fact_9 rfl ⟨_, rfl, rfl, h⟩
abbrev Y_X12_reads : My := (yX12_reads, cX12_reads, 6, some .boolean)
theorem dX12_reads_0 : decode cX12_reads 0 = .ok (.iconst 0, 1) := by decide +kernel
theorem dX12_reads_1 : decode cX12_reads 1 = .ok (.istore_n 1, 1) := by decide +kernel
theorem dX12_reads_2 : decode cX12_reads 2 = .ok (.iconst 1, 1) := by decide +kernel
theorem dX12_reads_3 : decode cX12_reads 3 = .ok (.istore_n 2, 1) := by decide +kernel
theorem dX12_reads_4 : decode cX12_reads 4 = .ok (.aload_n 0, 1) := by decide +kernel
theorem dX12_reads_5 : decode cX12_reads 5 = .ok (.getfield 53, 3) := by decide +kernel
theorem dX12_reads_8 : decode cX12_reads 8 = .ok (.iconst 0, 1) := by decide +kernel
theorem dX12_reads_9 : decode cX12_reads 9 = .ok (.iconst 0, 1) := by decide +kernel
theorem dX12_reads_10 : decode cX12_reads 10 = .ok (.bastore, 1) := by decide +kernel
theorem dX12_reads_11 : decode cX12_reads 11 = .ok (.iload_n 2, 1) := by decide +kernel
theorem dX12_reads_12 : decode cX12_reads 12 = .ok (.ifCond .eq 167, 3) := by decide +kernel
theorem dX12_reads_15 : decode cX12_reads 15 = .ok (.aload_n 0, 1) := by decide +kernel
theorem dX12_reads_16 : decode cX12_reads 16 = .ok (.invokevirtual 191, 3) := by decide +kernel
theorem dX12_reads_19 : decode cX12_reads 19 = .ok (.istore_n 3, 1) := by decide +kernel
theorem dX12_reads_20 : decode cX12_reads 20 = .ok (.aload_n 0, 1) := by decide +kernel
theorem dX12_reads_21 : decode cX12_reads 21 = .ok (.ldc2_w 195, 3) := by decide +kernel
theorem dX12_reads_24 : decode cX12_reads 24 = .ok (.invokevirtual 197, 3) := by decide +kernel
theorem dX12_reads_27 : decode cX12_reads 27 = .ok (.istore 4, 2) := by decide +kernel
theorem dX12_reads_29 : decode cX12_reads 29 = .ok (.aload_n 0, 1) := by decide +kernel
theorem dX12_reads_30 : decode cX12_reads 30 = .ok (.bipush 40, 2) := by decide +kernel
theorem dX12_reads_32 : decode cX12_reads 32 = .ok (.invokevirtual 201, 3) := by decide +kernel
theorem dX12_reads_35 : decode cX12_reads 35 = .ok (.istore 5, 2) := by decide +kernel
theorem dX12_reads_37 : decode cX12_reads 37 = .ok (.iload_n 3, 1) := by decide +kernel
theorem dX12_reads_38 : decode cX12_reads 38 = .ok (.ifCond .ne 27, 3) := by decide +kernel
theorem dX12_reads_41 : decode cX12_reads 41 = .ok (.iload 4, 2) := by decide +kernel
theorem dX12_reads_43 : decode cX12_reads 43 = .ok (.ifCond .ne 22, 3) := by decide +kernel
theorem dX12_reads_46 : decode cX12_reads 46 = .ok (.iload 5, 2) := by decide +kernel
theorem dX12_reads_48 : decode cX12_reads 48 = .ok (.ifCond .ne 17, 3) := by decide +kernel
theorem dX12_reads_51 : decode cX12_reads 51 = .ok (.aload_n 0, 1) := by decide +kernel
theorem dX12_reads_52 : decode cX12_reads 52 = .ok (.getfield 166, 3) := by decide +kernel
theorem dX12_reads_55 : decode cX12_reads 55 = .ok (.iconst 2, 1) := by decide +kernel
theorem dX12_reads_56 : decode cX12_reads 56 = .ok (.if_icmp .eq 9, 3) := by decide +kernel
theorem dX12_reads_59 : decode cX12_reads 59 = .ok (.aload_n 0, 1) := by decide +kernel
theorem dX12_reads_60 : decode cX12_reads 60 = .ok (.iconst 1, 1) := by decide +kernel
theorem dX12_reads_61 : decode cX12_reads 61 = .ok (.invokevirtual 205, 3) := by decide +kernel
theorem dX12_reads_64 : decode cX12_reads 64 = .ok (.ireturn, 1) := by decide +kernel
theorem dX12_reads_65 : decode cX12_reads 65 = .ok (.iload_n 1, 1) := by decide +kernel
theorem dX12_reads_66 : decode cX12_reads 66 = .ok (.iconst 5, 1) := by decide +kernel
theorem dX12_reads_67 : decode cX12_reads 67 = .ok (.if_icmp .ne 9, 3) := by decide +kernel
theorem dX12_reads_70 : decode cX12_reads 70 = .ok (.aload_n 0, 1) := by decide +kernel
theorem dX12_reads_71 : decode cX12_reads 71 = .ok (.iconst 5, 1) := by decide +kernel
theorem dX12_reads_72 : decode cX12_reads 72 = .ok (.invokevirtual 205, 3) := by decide +kernel
theorem dX12_reads_75 : decode cX12_reads 75 = .ok (.ireturn, 1) := by decide +kernel
theorem dX12_reads_76 : decode cX12_reads 76 = .ok (.iload 4, 2) := by decide +kernel
theorem dX12_reads_78 : decode cX12_reads 78 = .ok (.ifCond .ne 8, 3) := by decide +kernel
theorem dX12_reads_81 : decode cX12_reads 81 = .ok (.iload 5, 2) := by decide +kernel
theorem dX12_reads_83 : decode cX12_reads 83 = .ok (.ifCond .eq 48, 3) := by decide +kernel
theorem dX12_reads_86 : decode cX12_reads 86 = .ok (.aload_n 0, 1) := by decide +kernel
theorem dX12_reads_87 : decode cX12_reads 87 = .ok (.iload 4, 2) := by decide +kernel
theorem dX12_reads_89 : decode cX12_reads 89 = .ok (.ifCond .eq 8, 3) := by decide +kernel
theorem dX12_reads_92 : decode cX12_reads 92 = .ok (.bipush 30, 2) := by decide +kernel
theorem dX12_reads_94 : decode cX12_reads 94 = .ok (.goto 5, 3) := by decide +kernel
theorem dX12_reads_97 : decode cX12_reads 97 = .ok (.bipush 28, 2) := by decide +kernel
theorem dX12_reads_99 : decode cX12_reads 99 = .ok (.invokevirtual 208, 3) := by decide +kernel
theorem dX12_reads_102 : decode cX12_reads 102 = .ok (.iinc 1 1, 3) := by decide +kernel
theorem dX12_reads_105 : decode cX12_reads 105 = .ok (.aload_n 0, 1) := by decide +kernel
theorem dX12_reads_106 : decode cX12_reads 106 = .ok (.getfield 50, 3) := by decide +kernel
theorem dX12_reads_109 : decode cX12_reads 109 = .ok (.iload_n 1, 1) := by decide +kernel
theorem dX12_reads_110 : decode cX12_reads 110 = .ok (.iload 4, 2) := by decide +kernel
theorem dX12_reads_112 : decode cX12_reads 112 = .ok (.ifCond .eq 7, 3) := by decide +kernel
theorem dX12_reads_115 : decode cX12_reads 115 = .ok (.iconst 1, 1) := by decide +kernel
theorem dX12_reads_116 : decode cX12_reads 116 = .ok (.goto 4, 3) := by decide +kernel
theorem dX12_reads_119 : decode cX12_reads 119 = .ok (.iconst 2, 1) := by decide +kernel
theorem dX12_reads_120 : decode cX12_reads 120 = .ok (.iastore, 1) := by decide +kernel
theorem dX12_reads_121 : decode cX12_reads 121 = .ok (.aload_n 0, 1) := by decide +kernel
theorem dX12_reads_122 : decode cX12_reads 122 = .ok (.getfield 53, 3) := by decide +kernel
theorem dX12_reads_125 : decode cX12_reads 125 = .ok (.iload_n 1, 1) := by decide +kernel
theorem dX12_reads_126 : decode cX12_reads 126 = .ok (.iconst 0, 1) := by decide +kernel
theorem dX12_reads_127 : decode cX12_reads 127 = .ok (.bastore, 1) := by decide +kernel
theorem dX12_reads_128 : decode cX12_reads 128 = .ok (.goto 44, 3) := by decide +kernel
theorem dX12_reads_131 : decode cX12_reads 131 = .ok (.aload_n 0, 1) := by decide +kernel
theorem dX12_reads_132 : decode cX12_reads 132 = .ok (.iload_n 3, 1) := by decide +kernel
theorem dX12_reads_133 : decode cX12_reads 133 = .ok (.ifCond .le 7, 3) := by decide +kernel
theorem dX12_reads_136 : decode cX12_reads 136 = .ok (.iload_n 3, 1) := by decide +kernel
theorem dX12_reads_137 : decode cX12_reads 137 = .ok (.goto 10, 3) := by decide +kernel
theorem dX12_reads_140 : decode cX12_reads 140 = .ok (.bipush 100, 2) := by decide +kernel
theorem dX12_reads_142 : decode cX12_reads 142 = .ok (.aload_n 0, 1) := by decide +kernel
theorem dX12_reads_143 : decode cX12_reads 143 = .ok (.getfield 163, 3) := by decide +kernel
theorem dX12_reads_146 : decode cX12_reads 146 = .ok (.iadd, 1) := by decide +kernel
theorem dX12_reads_147 : decode cX12_reads 147 = .ok (.invokevirtual 208, 3) := by decide +kernel
theorem dX12_reads_150 : decode cX12_reads 150 = .ok (.iconst 0, 1) := by decide +kernel
theorem dX12_reads_151 : decode cX12_reads 151 = .ok (.istore_n 2, 1) := by decide +kernel
theorem dX12_reads_152 : decode cX12_reads 152 = .ok (.iload_n 1, 1) := by decide +kernel
theorem dX12_reads_153 : decode cX12_reads 153 = .ok (.ifCond .le 19, 3) := by decide +kernel
theorem dX12_reads_156 : decode cX12_reads 156 = .ok (.aload_n 0, 1) := by decide +kernel
theorem dX12_reads_157 : decode cX12_reads 157 = .ok (.getfield 50, 3) := by decide +kernel
theorem dX12_reads_160 : decode cX12_reads 160 = .ok (.iload_n 1, 1) := by decide +kernel
theorem dX12_reads_161 : decode cX12_reads 161 = .ok (.iaload, 1) := by decide +kernel
theorem dX12_reads_162 : decode cX12_reads 162 = .ok (.iconst 1, 1) := by decide +kernel
theorem dX12_reads_163 : decode cX12_reads 163 = .ok (.if_icmp .ne 9, 3) := by decide +kernel
theorem dX12_reads_166 : decode cX12_reads 166 = .ok (.iinc 1 (-1), 3) := by decide +kernel
theorem dX12_reads_169 : decode cX12_reads 169 = .ok (.goto (-17), 3) := by decide +kernel
theorem dX12_reads_172 : decode cX12_reads 172 = .ok (.aload_n 0, 1) := by decide +kernel
theorem dX12_reads_173 : decode cX12_reads 173 = .ok (.invokevirtual 212, 3) := by decide +kernel
theorem dX12_reads_176 : decode cX12_reads 176 = .ok (.goto (-165), 3) := by decide +kernel
theorem dX12_reads_179 : decode cX12_reads 179 = .ok (.aload_n 0, 1) := by decide +kernel
theorem dX12_reads_180 : decode cX12_reads 180 = .ok (.bipush 43, 2) := by decide +kernel
theorem dX12_reads_182 : decode cX12_reads 182 = .ok (.invokevirtual 201, 3) := by decide +kernel
theorem dX12_reads_185 : decode cX12_reads 185 = .ok (.ifCond .ne 21, 3) := by decide +kernel
theorem dX12_reads_188 : decode cX12_reads 188 = .ok (.aload_n 0, 1) := by decide +kernel
theorem dX12_reads_189 : decode cX12_reads 189 = .ok (.bipush 45, 2) := by decide +kernel
theorem dX12_reads_191 : decode cX12_reads 191 = .ok (.invokevirtual 201, 3) := by decide +kernel
theorem dX12_reads_194 : decode cX12_reads 194 = .ok (.ifCond .ne 12, 3) := by decide +kernel
theorem dX12_reads_197 : decode cX12_reads 197 = .ok (.aload_n 0, 1) := by decide +kernel
theorem dX12_reads_198 : decode cX12_reads 198 = .ok (.bipush 42, 2) := by decide +kernel
theorem dX12_reads_200 : decode cX12_reads 200 = .ok (.invokevirtual 201, 3) := by decide +kernel
theorem dX12_reads_203 : decode cX12_reads 203 = .ok (.ifCond .eq 42, 3) := by decide +kernel
theorem dX12_reads_206 : decode cX12_reads 206 = .ok (.aload_n 0, 1) := by decide +kernel
theorem dX12_reads_207 : decode cX12_reads 207 = .ok (.aload_n 0, 1) := by decide +kernel
theorem dX12_reads_208 : decode cX12_reads 208 = .ok (.bipush 43, 2) := by decide +kernel
theorem dX12_reads_210 : decode cX12_reads 210 = .ok (.invokevirtual 201, 3) := by decide +kernel
theorem dX12_reads_213 : decode cX12_reads 213 = .ok (.ifCond .eq 8, 3) := by decide +kernel
theorem dX12_reads_216 : decode cX12_reads 216 = .ok (.bipush 20, 2) := by decide +kernel
theorem dX12_reads_218 : decode cX12_reads 218 = .ok (.goto 19, 3) := by decide +kernel
theorem dX12_reads_221 : decode cX12_reads 221 = .ok (.aload_n 0, 1) := by decide +kernel
theorem dX12_reads_222 : decode cX12_reads 222 = .ok (.bipush 45, 2) := by decide +kernel
theorem dX12_reads_224 : decode cX12_reads 224 = .ok (.invokevirtual 201, 3) := by decide +kernel
theorem dX12_reads_227 : decode cX12_reads 227 = .ok (.ifCond .eq 8, 3) := by decide +kernel
theorem dX12_reads_230 : decode cX12_reads 230 = .ok (.bipush 21, 2) := by decide +kernel
theorem dX12_reads_232 : decode cX12_reads 232 = .ok (.goto 5, 3) := by decide +kernel
theorem dX12_reads_235 : decode cX12_reads 235 = .ok (.bipush 22, 2) := by decide +kernel
theorem dX12_reads_237 : decode cX12_reads 237 = .ok (.invokevirtual 208, 3) := by decide +kernel
theorem dX12_reads_240 : decode cX12_reads 240 = .ok (.iconst 1, 1) := by decide +kernel
theorem dX12_reads_241 : decode cX12_reads 241 = .ok (.istore_n 2, 1) := by decide +kernel
theorem dX12_reads_242 : decode cX12_reads 242 = .ok (.goto 182, 3) := by decide +kernel
theorem dX12_reads_245 : decode cX12_reads 245 = .ok (.aload_n 0, 1) := by decide +kernel
theorem dX12_reads_246 : decode cX12_reads 246 = .ok (.bipush 60, 2) := by decide +kernel
theorem dX12_reads_248 : decode cX12_reads 248 = .ok (.invokevirtual 201, 3) := by decide +kernel
theorem dX12_reads_251 : decode cX12_reads 251 = .ok (.ifCond .ne 12, 3) := by decide +kernel
theorem dX12_reads_254 : decode cX12_reads 254 = .ok (.aload_n 0, 1) := by decide +kernel
theorem dX12_reads_255 : decode cX12_reads 255 = .ok (.bipush 61, 2) := by decide +kernel
theorem dX12_reads_257 : decode cX12_reads 257 = .ok (.invokevirtual 201, 3) := by decide +kernel
theorem dX12_reads_260 : decode cX12_reads 260 = .ok (.ifCond .eq 44, 3) := by decide +kernel
theorem dX12_reads_263 : decode cX12_reads 263 = .ok (.aload_n 0, 1) := by decide +kernel
theorem dX12_reads_264 : decode cX12_reads 264 = .ok (.getfield 53, 3) := by decide +kernel
theorem dX12_reads_267 : decode cX12_reads 267 = .ok (.iload_n 1, 1) := by decide +kernel
theorem dX12_reads_268 : decode cX12_reads 268 = .ok (.baload, 1) := by decide +kernel
theorem dX12_reads_269 : decode cX12_reads 269 = .ok (.ifCond .ne 35, 3) := by decide +kernel
theorem dX12_reads_272 : decode cX12_reads 272 = .ok (.aload_n 0, 1) := by decide +kernel
theorem dX12_reads_273 : decode cX12_reads 273 = .ok (.aload_n 0, 1) := by decide +kernel
theorem dX12_reads_274 : decode cX12_reads 274 = .ok (.bipush 60, 2) := by decide +kernel
theorem dX12_reads_276 : decode cX12_reads 276 = .ok (.invokevirtual 201, 3) := by decide +kernel
theorem dX12_reads_279 : decode cX12_reads 279 = .ok (.ifCond .eq 8, 3) := by decide +kernel
theorem dX12_reads_282 : decode cX12_reads 282 = .ok (.bipush 24, 2) := by decide +kernel
theorem dX12_reads_284 : decode cX12_reads 284 = .ok (.goto 5, 3) := by decide +kernel
theorem dX12_reads_287 : decode cX12_reads 287 = .ok (.bipush 25, 2) := by decide +kernel
theorem dX12_reads_289 : decode cX12_reads 289 = .ok (.invokevirtual 208, 3) := by decide +kernel
theorem dX12_reads_292 : decode cX12_reads 292 = .ok (.aload_n 0, 1) := by decide +kernel
theorem dX12_reads_293 : decode cX12_reads 293 = .ok (.getfield 53, 3) := by decide +kernel
theorem dX12_reads_296 : decode cX12_reads 296 = .ok (.iload_n 1, 1) := by decide +kernel
theorem dX12_reads_297 : decode cX12_reads 297 = .ok (.iconst 1, 1) := by decide +kernel
theorem dX12_reads_298 : decode cX12_reads 298 = .ok (.bastore, 1) := by decide +kernel
theorem dX12_reads_299 : decode cX12_reads 299 = .ok (.iconst 1, 1) := by decide +kernel
theorem dX12_reads_300 : decode cX12_reads 300 = .ok (.istore_n 2, 1) := by decide +kernel
theorem dX12_reads_301 : decode cX12_reads 301 = .ok (.goto 123, 3) := by decide +kernel
theorem dX12_reads_304 : decode cX12_reads 304 = .ok (.aload_n 0, 1) := by decide +kernel
theorem dX12_reads_305 : decode cX12_reads 305 = .ok (.ldc2_w 215, 3) := by decide +kernel
theorem dX12_reads_308 : decode cX12_reads 308 = .ok (.invokevirtual 197, 3) := by decide +kernel
theorem dX12_reads_311 : decode cX12_reads 311 = .ok (.ifCond .ne 13, 3) := by decide +kernel
theorem dX12_reads_314 : decode cX12_reads 314 = .ok (.aload_n 0, 1) := by decide +kernel
theorem dX12_reads_315 : decode cX12_reads 315 = .ok (.ldc2_w 217, 3) := by decide +kernel
theorem dX12_reads_318 : decode cX12_reads 318 = .ok (.invokevirtual 197, 3) := by decide +kernel
theorem dX12_reads_321 : decode cX12_reads 321 = .ok (.ifCond .eq 36, 3) := by decide +kernel
theorem dX12_reads_324 : decode cX12_reads 324 = .ok (.aload_n 0, 1) := by decide +kernel
theorem dX12_reads_325 : decode cX12_reads 325 = .ok (.aload_n 0, 1) := by decide +kernel
theorem dX12_reads_326 : decode cX12_reads 326 = .ok (.ldc2_w 215, 3) := by decide +kernel
theorem dX12_reads_329 : decode cX12_reads 329 = .ok (.invokevirtual 197, 3) := by decide +kernel
theorem dX12_reads_332 : decode cX12_reads 332 = .ok (.ifCond .eq 8, 3) := by decide +kernel
theorem dX12_reads_335 : decode cX12_reads 335 = .ok (.bipush 26, 2) := by decide +kernel
theorem dX12_reads_337 : decode cX12_reads 337 = .ok (.goto 5, 3) := by decide +kernel
theorem dX12_reads_340 : decode cX12_reads 340 = .ok (.bipush 27, 2) := by decide +kernel
theorem dX12_reads_342 : decode cX12_reads 342 = .ok (.invokevirtual 208, 3) := by decide +kernel
theorem dX12_reads_345 : decode cX12_reads 345 = .ok (.aload_n 0, 1) := by decide +kernel
theorem dX12_reads_346 : decode cX12_reads 346 = .ok (.getfield 53, 3) := by decide +kernel
theorem dX12_reads_349 : decode cX12_reads 349 = .ok (.iload_n 1, 1) := by decide +kernel
theorem dX12_reads_350 : decode cX12_reads 350 = .ok (.iconst 0, 1) := by decide +kernel
theorem dX12_reads_351 : decode cX12_reads 351 = .ok (.bastore, 1) := by decide +kernel
theorem dX12_reads_352 : decode cX12_reads 352 = .ok (.iconst 1, 1) := by decide +kernel
theorem dX12_reads_353 : decode cX12_reads 353 = .ok (.istore_n 2, 1) := by decide +kernel
theorem dX12_reads_354 : decode cX12_reads 354 = .ok (.goto 70, 3) := by decide +kernel
theorem dX12_reads_357 : decode cX12_reads 357 = .ok (.aload_n 0, 1) := by decide +kernel
theorem dX12_reads_358 : decode cX12_reads 358 = .ok (.bipush 41, 2) := by decide +kernel
theorem dX12_reads_360 : decode cX12_reads 360 = .ok (.invokevirtual 201, 3) := by decide +kernel
theorem dX12_reads_363 : decode cX12_reads 363 = .ok (.ifCond .eq 36, 3) := by decide +kernel
theorem dX12_reads_366 : decode cX12_reads 366 = .ok (.iload_n 1, 1) := by decide +kernel
theorem dX12_reads_367 : decode cX12_reads 367 = .ok (.ifCond .le 32, 3) := by decide +kernel
theorem dX12_reads_370 : decode cX12_reads 370 = .ok (.aload_n 0, 1) := by decide +kernel
theorem dX12_reads_371 : decode cX12_reads 371 = .ok (.bipush 29, 2) := by decide +kernel
theorem dX12_reads_373 : decode cX12_reads 373 = .ok (.invokevirtual 208, 3) := by decide +kernel
theorem dX12_reads_376 : decode cX12_reads 376 = .ok (.iinc 1 (-1), 3) := by decide +kernel
theorem dX12_reads_379 : decode cX12_reads 379 = .ok (.iload_n 1, 1) := by decide +kernel
theorem dX12_reads_380 : decode cX12_reads 380 = .ok (.ifCond .le 44, 3) := by decide +kernel
theorem dX12_reads_383 : decode cX12_reads 383 = .ok (.aload_n 0, 1) := by decide +kernel
theorem dX12_reads_384 : decode cX12_reads 384 = .ok (.getfield 50, 3) := by decide +kernel
theorem dX12_reads_387 : decode cX12_reads 387 = .ok (.iload_n 1, 1) := by decide +kernel
theorem dX12_reads_388 : decode cX12_reads 388 = .ok (.iaload, 1) := by decide +kernel
theorem dX12_reads_389 : decode cX12_reads 389 = .ok (.iconst 1, 1) := by decide +kernel
theorem dX12_reads_390 : decode cX12_reads 390 = .ok (.if_icmp .ne 34, 3) := by decide +kernel
theorem dX12_reads_393 : decode cX12_reads 393 = .ok (.iinc 1 (-1), 3) := by decide +kernel
theorem dX12_reads_396 : decode cX12_reads 396 = .ok (.goto (-17), 3) := by decide +kernel
theorem dX12_reads_399 : decode cX12_reads 399 = .ok (.iload_n 1, 1) := by decide +kernel
theorem dX12_reads_400 : decode cX12_reads 400 = .ok (.ifCond .ne 18, 3) := by decide +kernel
theorem dX12_reads_403 : decode cX12_reads 403 = .ok (.aload_n 0, 1) := by decide +kernel
theorem dX12_reads_404 : decode cX12_reads 404 = .ok (.bipush 59, 2) := by decide +kernel
theorem dX12_reads_406 : decode cX12_reads 406 = .ok (.invokevirtual 201, 3) := by decide +kernel
theorem dX12_reads_409 : decode cX12_reads 409 = .ok (.ifCond .eq 9, 3) := by decide +kernel
theorem dX12_reads_412 : decode cX12_reads 412 = .ok (.aload_n 0, 1) := by decide +kernel
theorem dX12_reads_413 : decode cX12_reads 413 = .ok (.invokevirtual 212, 3) := by decide +kernel
theorem dX12_reads_416 : decode cX12_reads 416 = .ok (.iconst 1, 1) := by decide +kernel
theorem dX12_reads_417 : decode cX12_reads 417 = .ok (.ireturn, 1) := by decide +kernel
theorem dX12_reads_418 : decode cX12_reads 418 = .ok (.aload_n 0, 1) := by decide +kernel
theorem dX12_reads_419 : decode cX12_reads 419 = .ok (.iconst 1, 1) := by decide +kernel
theorem dX12_reads_420 : decode cX12_reads 420 = .ok (.invokevirtual 205, 3) := by decide +kernel
theorem dX12_reads_423 : decode cX12_reads 423 = .ok (.ireturn, 1) := by decide +kernel
theorem dX12_reads_424 : decode cX12_reads 424 = .ok (.aload_n 0, 1) := by decide +kernel
theorem dX12_reads_425 : decode cX12_reads 425 = .ok (.invokevirtual 212, 3) := by decide +kernel
theorem dX12_reads_428 : decode cX12_reads 428 = .ok (.goto (-417), 3) := by decide +kernel
theorem fl_RX12_50 : FL RX12 50 12 24 := ⟨inG (i := 1424) (by decide +kernel) (by decide +kernel), by decide, by decide⟩
theorem fl_RX12_53 : FL RX12 53 12 25 := ⟨inG (i := 1425) (by decide +kernel) (by decide +kernel), by decide, by decide⟩
theorem go_12_24 (σ : St) (i : Nat) : go σ 12 i 24 = (1324, i) := rfl
theorem go_12_25 (σ : St) (i : Nat) : go σ 12 i 25 = (1325, i) := rfl
theorem kl_RX12_195 : Cond.constantLong RX12 195 (10631) ∈ tG := inG (i := 1647) (by decide +kernel) (by decide +kernel)
theorem kl_RX12_215 : Cond.constantLong RX12 215 (1111) ∈ tG := inG (i := 1648) (by decide +kernel) (by decide +kernel)
theorem kl_RX12_217 : Cond.constantLong RX12 217 (423) ∈ tG := inG (i := 1649) (by decide +kernel) (by decide +kernel)
theorem lk_RX12_191 : Cond.methodLink RX12 191 yX12_fact ∈ tG := inG (i := 1705) (by decide +kernel) (by decide +kernel)
theorem lk_RX12_197 : Cond.methodLink RX12 197 yX12_isWord ∈ tG := inG (i := 1610) (by decide +kernel) (by decide +kernel)
theorem lk_RX12_201 : Cond.methodLink RX12 201 yX12_isSign ∈ tG := inG (i := 1677) (by decide +kernel) (by decide +kernel)
theorem lk_RX12_205 : Cond.methodLink RX12 205 yX12_fails ∈ tG := inG (i := 1618) (by decide +kernel) (by decide +kernel)
theorem lk_RX12_208 : Cond.methodLink RX12 208 yX12_puts ∈ tG := inG (i := 1713) (by decide +kernel) (by decide +kernel)
theorem lk_RX12_212 : Cond.methodLink RX12 212 yX12_nextToken ∈ tG := inG (i := 1599) (by decide +kernel) (by decide +kernel)
theorem m_X12_fact : MV Y_X12_fact 0 12 := ⟨⟨inG (i := 1708) (by decide +kernel) (by decide +kernel), inG (i := 110) (by decide +kernel) (by decide +kernel), by decide, by decide, by decide, by decide +kernel⟩, inG (i := 1707) (by decide +kernel) (by decide +kernel), inG (i := 54) (by decide +kernel) (by decide +kernel), by decide⟩
theorem m_X12_fails : MV Y_X12_fails 1 12 := ⟨⟨inG (i := 1621) (by decide +kernel) (by decide +kernel), inG (i := 110) (by decide +kernel) (by decide +kernel), by decide, by decide, by decide, by decide +kernel⟩, inG (i := 1620) (by decide +kernel) (by decide +kernel), inG (i := 38) (by decide +kernel) (by decide +kernel), by decide⟩
theorem m_X12_isSign : MV Y_X12_isSign 1 12 := ⟨⟨inG (i := 1680) (by decide +kernel) (by decide +kernel), inG (i := 110) (by decide +kernel) (by decide +kernel), by decide, by decide, by decide, by decide +kernel⟩, inG (i := 1679) (by decide +kernel) (by decide +kernel), inG (i := 47) (by decide +kernel) (by decide +kernel), by decide⟩
theorem m_X12_isWord : MV Y_X12_isWord 1 12 := ⟨⟨inG (i := 1613) (by decide +kernel) (by decide +kernel), inG (i := 110) (by decide +kernel) (by decide +kernel), by decide, by decide, by decide, by decide +kernel⟩, inG (i := 1612) (by decide +kernel) (by decide +kernel), inG (i := 36) (by decide +kernel) (by decide +kernel), by decide⟩
theorem m_X12_nextToken : MV Y_X12_nextToken 0 12 := ⟨⟨inG (i := 1602) (by decide +kernel) (by decide +kernel), inG (i := 110) (by decide +kernel) (by decide +kernel), by decide, by decide, by decide, by decide +kernel⟩, inG (i := 1601) (by decide +kernel) (by decide +kernel), inG (i := 34) (by decide +kernel) (by decide +kernel), by decide⟩
theorem m_X12_puts : MV Y_X12_puts 1 12 := ⟨⟨inG (i := 1716) (by decide +kernel) (by decide +kernel), inG (i := 110) (by decide +kernel) (by decide +kernel), by decide, by decide, by decide, by decide +kernel⟩, inG (i := 1715) (by decide +kernel) (by decide +kernel), inG (i := 55) (by decide +kernel) (by decide +kernel), by decide⟩
theorem sh_1324 : shp 1324 = (0, 7) := rfl
theorem sh_1325 : shp 1325 = (2, 7) := rfl
def P_X12_reads_J424  (x1 : Int) (x2 : Int) (R : Int → Int → St → Prop) (K0 : St → Prop) (K1 : St → Prop) (K2 : Int → St → Prop) (Q : Int → St → Prop) (σ : St) : Prop :=
  P_X12_nextToken σ (fun σ_8 => R x1 x2 σ_8)
set_option maxRecDepth 20000 in
set_option maxHeartbeats 2000000 in
theorem e_P_X12_reads_J424  {x1 : Int} {x2 : Int} {R : Int → Int → St → Prop} {K0 : St → Prop} {K1 : St → Prop} {K2 : Int → St → Prop} {Q : Int → St → Prop} {σ : St}  (hR : ∀ x1 x2 σ, R x1 x2 σ → E Y_X12_reads 2 0 0 (QI Q) ww 0 0 11 [some (vR 12 0), some (vI x1), some (vI x2), none, none, none] [] σ) (hK0 : ∀ σ, K0 σ → E Y_X12_reads 2 0 0 (QI Q) ww 0 0 59 [some (vR 12 0), none, none, none, none, none] [] σ) (hK1 : ∀ σ, K1 σ → E Y_X12_reads 2 0 0 (QI Q) ww 0 0 70 [some (vR 12 0), none, none, none, none, none] [] σ) (hK2 : ∀ x1 σ, K2 x1 σ → E Y_X12_reads 2 0 0 (QI Q) ww 0 0 399 [some (vR 12 0), some (vI x1), none, none, none, none] [] σ) (h : P_X12_reads_J424 x1 x2 R K0 K1 K2 Q σ) : E Y_X12_reads 2 0 0 (QI Q) ww 0 0 424 [some (vR 12 0), some (vI x1), some (vI x2), none, none, none] [] σ := by
  unfold P_X12_reads_J424 at h
  refine E_aload_n dX12_reads_424 rfl rfl ?_
  refine E_callV (Y' := Y_X12_nextToken) (as := []) (st := []) dX12_reads_425 lk_RX12_212 m_X12_nextToken (by decide) (Nat.le_refl _) (Nat.le_refl _) rfl rfl (Nat.le_of_ble_eq_true rfl) (s_X12_nextToken h) (fun r0 B0 σ_8 h => ?_)
  obtain ⟨rfl, rfl, h⟩ := h
  refine E_goto (tgt := 11) dX12_reads_428 (by decide) ?_
  exact hR _ _ _ h
def P_X12_reads_J237  (x1 : Int) (y0 : Int) (R : Int → Int → St → Prop) (K0 : St → Prop) (K1 : St → Prop) (K2 : Int → St → Prop) (Q : Int → St → Prop) (σ : St) : Prop :=
  P_X12_puts y0 σ (fun σ_7 => P_X12_reads_J424 x1 1 R K0 K1 K2 Q σ_7)
set_option maxRecDepth 20000 in
set_option maxHeartbeats 2000000 in
theorem e_P_X12_reads_J237  {x1 : Int} {y0 : Int} {R : Int → Int → St → Prop} {K0 : St → Prop} {K1 : St → Prop} {K2 : Int → St → Prop} {Q : Int → St → Prop} {σ : St}  (hR : ∀ x1 x2 σ, R x1 x2 σ → E Y_X12_reads 2 0 0 (QI Q) ww 0 0 11 [some (vR 12 0), some (vI x1), some (vI x2), none, none, none] [] σ) (hK0 : ∀ σ, K0 σ → E Y_X12_reads 2 0 0 (QI Q) ww 0 0 59 [some (vR 12 0), none, none, none, none, none] [] σ) (hK1 : ∀ σ, K1 σ → E Y_X12_reads 2 0 0 (QI Q) ww 0 0 70 [some (vR 12 0), none, none, none, none, none] [] σ) (hK2 : ∀ x1 σ, K2 x1 σ → E Y_X12_reads 2 0 0 (QI Q) ww 0 0 399 [some (vR 12 0), some (vI x1), none, none, none, none] [] σ) (h : P_X12_reads_J237 x1 y0 R K0 K1 K2 Q σ) : E Y_X12_reads 2 0 0 (QI Q) ww 0 0 237 [some (vR 12 0), some (vI x1), none, none, none, none] [vI y0, vR 12 0] σ := by
  unfold P_X12_reads_J237 at h
  refine E_callV (Y' := Y_X12_puts) (as := [vI y0]) (st := []) dX12_reads_237 lk_RX12_208 m_X12_puts (by decide) (Nat.le_refl _) (Nat.le_refl _) rfl rfl (Nat.le_of_ble_eq_true rfl) (s_X12_puts h) (fun r0 B0 σ_7 h => ?_)
  obtain ⟨rfl, rfl, h⟩ := h
  refine E_ic dX12_reads_240 rfl ?_
  refine E_istore_n (ls' := [some (vR 12 0), some (vI x1), some (vI 1), none, none, none]) dX12_reads_241 rfl (by decide) rfl ?_
  refine E_goto (tgt := 424) dX12_reads_242 (by decide) ?_
  exact e_P_X12_reads_J424 hR hK0 hK1 hK2 h
def P_X12_reads_J206  (x1 : Int) (R : Int → Int → St → Prop) (K0 : St → Prop) (K1 : St → Prop) (K2 : Int → St → Prop) (Q : Int → St → Prop) (σ : St) : Prop :=
  P_X12_isSign 43 σ (fun r_4 σ_3 => (if r_4 = 0 then P_X12_isSign 45 σ_3 (fun r_6 σ_5 => (if r_6 = 0 then P_X12_reads_J237 x1 22 R K0 K1 K2 Q σ_5 else P_X12_reads_J237 x1 21 R K0 K1 K2 Q σ_5)) else P_X12_reads_J237 x1 20 R K0 K1 K2 Q σ_3))
set_option maxRecDepth 20000 in
set_option maxHeartbeats 2000000 in
theorem e_P_X12_reads_J206  {x1 : Int} {R : Int → Int → St → Prop} {K0 : St → Prop} {K1 : St → Prop} {K2 : Int → St → Prop} {Q : Int → St → Prop} {σ : St}  (hR : ∀ x1 x2 σ, R x1 x2 σ → E Y_X12_reads 2 0 0 (QI Q) ww 0 0 11 [some (vR 12 0), some (vI x1), some (vI x2), none, none, none] [] σ) (hK0 : ∀ σ, K0 σ → E Y_X12_reads 2 0 0 (QI Q) ww 0 0 59 [some (vR 12 0), none, none, none, none, none] [] σ) (hK1 : ∀ σ, K1 σ → E Y_X12_reads 2 0 0 (QI Q) ww 0 0 70 [some (vR 12 0), none, none, none, none, none] [] σ) (hK2 : ∀ x1 σ, K2 x1 σ → E Y_X12_reads 2 0 0 (QI Q) ww 0 0 399 [some (vR 12 0), some (vI x1), none, none, none, none] [] σ) (h : P_X12_reads_J206 x1 R K0 K1 K2 Q σ) : E Y_X12_reads 2 0 0 (QI Q) ww 0 0 206 [some (vR 12 0), some (vI x1), none, none, none, none] [] σ := by
  unfold P_X12_reads_J206 at h
  refine E_aload_n dX12_reads_206 rfl rfl ?_
  refine E_aload_n dX12_reads_207 rfl rfl ?_
  refine E_bp dX12_reads_208 rfl ?_
  refine E_callV (Y' := Y_X12_isSign) (as := [vI 43]) (st := [vR 12 0]) dX12_reads_210 lk_RX12_201 m_X12_isSign (by decide) (Nat.le_refl _) (Nat.le_refl _) rfl rfl (Nat.le_of_ble_eq_true rfl) (s_X12_isSign h) (fun r0 B0 σ_3 h => ?_)
  obtain ⟨r_4, rfl, rfl, h⟩ := h
  refine E_if_eq (tgt := 221) dX12_reads_213 (by decide) (fun hc => ?_) (fun hc => ?_)
  · have h := Eq.mp (if_pos hc) h
    refine E_aload_n dX12_reads_221 rfl rfl ?_
    refine E_bp dX12_reads_222 rfl ?_
    refine E_callV (Y' := Y_X12_isSign) (as := [vI 45]) (st := [vR 12 0]) dX12_reads_224 lk_RX12_201 m_X12_isSign (by decide) (Nat.le_refl _) (Nat.le_refl _) rfl rfl (Nat.le_of_ble_eq_true rfl) (s_X12_isSign h) (fun r0 B0 σ_5 h => ?_)
    obtain ⟨r_6, rfl, rfl, h⟩ := h
    refine E_if_eq (tgt := 235) dX12_reads_227 (by decide) (fun hc => ?_) (fun hc => ?_)
    · have h := Eq.mp (if_pos hc) h
      refine E_bp dX12_reads_235 rfl ?_
      exact e_P_X12_reads_J237 hR hK0 hK1 hK2 h
    · have h := Eq.mp (if_neg hc) h
      refine E_bp dX12_reads_230 rfl ?_
      refine E_goto (tgt := 237) dX12_reads_232 (by decide) ?_
      exact e_P_X12_reads_J237 hR hK0 hK1 hK2 h
  · have h := Eq.mp (if_neg hc) h
    refine E_bp dX12_reads_216 rfl ?_
    refine E_goto (tgt := 237) dX12_reads_218 (by decide) ?_
    exact e_P_X12_reads_J237 hR hK0 hK1 hK2 h
def P_X12_reads_J342  (x1 : Int) (y0 : Int) (R : Int → Int → St → Prop) (K0 : St → Prop) (K1 : St → Prop) (K2 : Int → St → Prop) (Q : Int → St → Prop) (σ : St) : Prop :=
  P_X12_puts y0 σ (fun σ_19 => 0 ≤ x1 ∧ x1 < 7 ∧ P_X12_reads_J424 x1 1 R K0 K1 K2 Q (up σ_19 1325 0 x1 0))
set_option maxRecDepth 20000 in
set_option maxHeartbeats 2000000 in
theorem e_P_X12_reads_J342  {x1 : Int} {y0 : Int} {R : Int → Int → St → Prop} {K0 : St → Prop} {K1 : St → Prop} {K2 : Int → St → Prop} {Q : Int → St → Prop} {σ : St}  (hR : ∀ x1 x2 σ, R x1 x2 σ → E Y_X12_reads 2 0 0 (QI Q) ww 0 0 11 [some (vR 12 0), some (vI x1), some (vI x2), none, none, none] [] σ) (hK0 : ∀ σ, K0 σ → E Y_X12_reads 2 0 0 (QI Q) ww 0 0 59 [some (vR 12 0), none, none, none, none, none] [] σ) (hK1 : ∀ σ, K1 σ → E Y_X12_reads 2 0 0 (QI Q) ww 0 0 70 [some (vR 12 0), none, none, none, none, none] [] σ) (hK2 : ∀ x1 σ, K2 x1 σ → E Y_X12_reads 2 0 0 (QI Q) ww 0 0 399 [some (vR 12 0), some (vI x1), none, none, none, none] [] σ) (h : P_X12_reads_J342 x1 y0 R K0 K1 K2 Q σ) : E Y_X12_reads 2 0 0 (QI Q) ww 0 0 342 [some (vR 12 0), some (vI x1), none, none, none, none] [vI y0, vR 12 0] σ := by
  unfold P_X12_reads_J342 at h
  refine E_callV (Y' := Y_X12_puts) (as := [vI y0]) (st := []) dX12_reads_342 lk_RX12_208 m_X12_puts (by decide) (Nat.le_refl _) (Nat.le_refl _) rfl rfl (Nat.le_of_ble_eq_true rfl) (s_X12_puts h) (fun r0 B0 σ_19 h => ?_)
  obtain ⟨rfl, rfl, h⟩ := h
  refine E_aload_n dX12_reads_345 rfl rfl ?_
  refine E_getr (i := 0) dX12_reads_346 fl_RX12_53 rfl rfl (go_12_25 _ _) ?_
  refine E_iload_n dX12_reads_349 rfl rfl ?_
  refine E_ic dX12_reads_350 rfl ?_
  obtain ⟨hg0, hg1, h⟩ := h
  refine E_zast dX12_reads_351 sh_1325 hg0 hg1 (by decide) ?_
  refine E_ic dX12_reads_352 rfl ?_
  refine E_istore_n (ls' := [some (vR 12 0), some (vI x1), some (vI 1), none, none, none]) dX12_reads_353 rfl (by decide) rfl ?_
  refine E_goto (tgt := 424) dX12_reads_354 (by decide) ?_
  exact e_P_X12_reads_J424 hR hK0 hK1 hK2 h
def P_X12_reads_J324  (x1 : Int) (R : Int → Int → St → Prop) (K0 : St → Prop) (K1 : St → Prop) (K2 : Int → St → Prop) (Q : Int → St → Prop) (σ : St) : Prop :=
  P_X12_isWord 1111 σ (fun r_18 σ_17 => (if r_18 = 0 then P_X12_reads_J342 x1 27 R K0 K1 K2 Q σ_17 else P_X12_reads_J342 x1 26 R K0 K1 K2 Q σ_17))
set_option maxRecDepth 20000 in
set_option maxHeartbeats 2000000 in
theorem e_P_X12_reads_J324  {x1 : Int} {R : Int → Int → St → Prop} {K0 : St → Prop} {K1 : St → Prop} {K2 : Int → St → Prop} {Q : Int → St → Prop} {σ : St}  (hR : ∀ x1 x2 σ, R x1 x2 σ → E Y_X12_reads 2 0 0 (QI Q) ww 0 0 11 [some (vR 12 0), some (vI x1), some (vI x2), none, none, none] [] σ) (hK0 : ∀ σ, K0 σ → E Y_X12_reads 2 0 0 (QI Q) ww 0 0 59 [some (vR 12 0), none, none, none, none, none] [] σ) (hK1 : ∀ σ, K1 σ → E Y_X12_reads 2 0 0 (QI Q) ww 0 0 70 [some (vR 12 0), none, none, none, none, none] [] σ) (hK2 : ∀ x1 σ, K2 x1 σ → E Y_X12_reads 2 0 0 (QI Q) ww 0 0 399 [some (vR 12 0), some (vI x1), none, none, none, none] [] σ) (h : P_X12_reads_J324 x1 R K0 K1 K2 Q σ) : E Y_X12_reads 2 0 0 (QI Q) ww 0 0 324 [some (vR 12 0), some (vI x1), none, none, none, none] [] σ := by
  unfold P_X12_reads_J324 at h
  refine E_aload_n dX12_reads_324 rfl rfl ?_
  refine E_aload_n dX12_reads_325 rfl rfl ?_
  refine E_ldc2 (z := 1111) dX12_reads_326 kl_RX12_215 (by decide) ?_
  refine E_callV (Y' := Y_X12_isWord) (as := [vL 1111]) (st := [vR 12 0]) dX12_reads_329 lk_RX12_197 m_X12_isWord (by decide) (Nat.le_refl _) (Nat.le_refl _) rfl rfl (Nat.le_of_ble_eq_true rfl) (s_X12_isWord h) (fun r0 B0 σ_17 h => ?_)
  obtain ⟨r_18, rfl, rfl, h⟩ := h
  refine E_if_eq (tgt := 340) dX12_reads_332 (by decide) (fun hc => ?_) (fun hc => ?_)
  · have h := Eq.mp (if_pos hc) h
    refine E_bp dX12_reads_340 rfl ?_
    exact e_P_X12_reads_J342 hR hK0 hK1 hK2 h
  · have h := Eq.mp (if_neg hc) h
    refine E_bp dX12_reads_335 rfl ?_
    refine E_goto (tgt := 342) dX12_reads_337 (by decide) ?_
    exact e_P_X12_reads_J342 hR hK0 hK1 hK2 h
def P_X12_reads_L379  (x2 : Int) (K : Int → St → Prop) (Q : Int → St → Prop) : Nat → Int → St → Prop
  | 0, _, _ => False
  | n + 1, x1, σ => (if x1 ≤ 0 then K x1 σ else 0 ≤ x1 ∧ x1 < 7 ∧ (if (σ 1324 0 x1) = 1 then (P_X12_reads_L379 x2 K Q n) (wi (x1 + (-1))) σ else K x1 σ))
set_option maxRecDepth 20000 in
set_option maxHeartbeats 2000000 in
theorem e_P_X12_reads_L379  {x2 : Int} {K : Int → St → Prop} {Q : Int → St → Prop}  (hK : ∀ x1 σ, K x1 σ → E Y_X12_reads 2 0 0 (QI Q) ww 0 0 424 [some (vR 12 0), some (vI x1), some (vI x2), none, none, none] [] σ) : ∀ (n : Nat) (x1 : Int) (σ : St), P_X12_reads_L379 x2 K Q n x1 σ → E Y_X12_reads 2 0 0 (QI Q) ww 0 0 379 [some (vR 12 0), some (vI x1), some (vI x2), none, none, none] [] σ := by
  intro n
  induction n with
  | zero => intro x1 σ h; exact h.elim
  | succ n hR =>
    intro x1 σ h
    unfold P_X12_reads_L379 at h
    refine E_iload_n dX12_reads_379 rfl rfl ?_
    refine E_if_le (tgt := 424) dX12_reads_380 (by decide) (fun hc => ?_) (fun hc => ?_)
    · have h := Eq.mp (if_pos hc) h
      exact hK _ _ h
    · have h := Eq.mp (if_neg hc) h
      refine E_aload_n dX12_reads_383 rfl rfl ?_
      refine E_getr (i := 0) dX12_reads_384 fl_RX12_50 rfl rfl (go_12_24 _ _) ?_
      refine E_iload_n dX12_reads_387 rfl rfl ?_
      obtain ⟨hg0, hg1, h⟩ := h
      refine E_iald dX12_reads_388 sh_1324 hg0 hg1 ?_
      refine E_ic dX12_reads_389 rfl ?_
      refine E_icmp_ne (tgt := 424) dX12_reads_390 (by decide) (fun hc => ?_) (fun hc => ?_)
      · have h := Eq.mp (if_neg hc) h
        exact hK _ _ h
      · have h := Eq.mp (if_pos hc) h
        refine E_iinc (ls' := [some (vR 12 0), some (vI (wi (x1 + (-1)))), some (vI x2), none, none, none]) dX12_reads_393 rfl (by decide) rfl rfl ?_
        refine E_goto (tgt := 379) dX12_reads_396 (by decide) ?_
        exact hR _ _ h
def P_X12_reads_J304  (x1 : Int) (x2 : Int) (R : Int → Int → St → Prop) (K0 : St → Prop) (K1 : St → Prop) (K2 : Int → St → Prop) (Q : Int → St → Prop) (σ : St) : Prop :=
  P_X12_isWord 1111 σ (fun r_16 σ_15 => (if r_16 = 0 then P_X12_isWord 423 σ_15 (fun r_21 σ_20 => (if r_21 = 0 then P_X12_isSign 41 σ_20 (fun r_23 σ_22 => (if r_23 = 0 then K2 x1 σ_22 else (if x1 ≤ 0 then K2 x1 σ_22 else P_X12_puts 29 σ_22 (fun σ_24 => P_X12_reads_L379 x2 (fun x1_25 σ_26 => P_X12_reads_J424 x1_25 x2 R K0 K1 K2 Q σ_26) Q FU (wi (x1 + (-1))) σ_24)))) else P_X12_reads_J324 x1 R K0 K1 K2 Q σ_20)) else P_X12_reads_J324 x1 R K0 K1 K2 Q σ_15))
set_option maxRecDepth 20000 in
set_option maxHeartbeats 2000000 in
theorem e_P_X12_reads_J304  {x1 : Int} {x2 : Int} {R : Int → Int → St → Prop} {K0 : St → Prop} {K1 : St → Prop} {K2 : Int → St → Prop} {Q : Int → St → Prop} {σ : St}  (hR : ∀ x1 x2 σ, R x1 x2 σ → E Y_X12_reads 2 0 0 (QI Q) ww 0 0 11 [some (vR 12 0), some (vI x1), some (vI x2), none, none, none] [] σ) (hK0 : ∀ σ, K0 σ → E Y_X12_reads 2 0 0 (QI Q) ww 0 0 59 [some (vR 12 0), none, none, none, none, none] [] σ) (hK1 : ∀ σ, K1 σ → E Y_X12_reads 2 0 0 (QI Q) ww 0 0 70 [some (vR 12 0), none, none, none, none, none] [] σ) (hK2 : ∀ x1 σ, K2 x1 σ → E Y_X12_reads 2 0 0 (QI Q) ww 0 0 399 [some (vR 12 0), some (vI x1), none, none, none, none] [] σ) (h : P_X12_reads_J304 x1 x2 R K0 K1 K2 Q σ) : E Y_X12_reads 2 0 0 (QI Q) ww 0 0 304 [some (vR 12 0), some (vI x1), some (vI x2), none, none, none] [] σ := by
  unfold P_X12_reads_J304 at h
  refine E_aload_n dX12_reads_304 rfl rfl ?_
  refine E_ldc2 (z := 1111) dX12_reads_305 kl_RX12_215 (by decide) ?_
  refine E_callV (Y' := Y_X12_isWord) (as := [vL 1111]) (st := []) dX12_reads_308 lk_RX12_197 m_X12_isWord (by decide) (Nat.le_refl _) (Nat.le_refl _) rfl rfl (Nat.le_of_ble_eq_true rfl) (s_X12_isWord h) (fun r0 B0 σ_15 h => ?_)
  obtain ⟨r_16, rfl, rfl, h⟩ := h
  refine E_if_ne (tgt := 324) dX12_reads_311 (by decide) (fun hc => ?_) (fun hc => ?_)
  · have h := Eq.mp (if_neg hc) h
    refine E_wk2 [some (vR 12 0), some (vI x1), none, none, none, none] ⟨rfl, ⟨rfl, trivial⟩⟩ ?_
    exact e_P_X12_reads_J324 hR hK0 hK1 hK2 h
  · have h := Eq.mp (if_pos hc) h
    refine E_aload_n dX12_reads_314 rfl rfl ?_
    refine E_ldc2 (z := 423) dX12_reads_315 kl_RX12_217 (by decide) ?_
    refine E_callV (Y' := Y_X12_isWord) (as := [vL 423]) (st := []) dX12_reads_318 lk_RX12_197 m_X12_isWord (by decide) (Nat.le_refl _) (Nat.le_refl _) rfl rfl (Nat.le_of_ble_eq_true rfl) (s_X12_isWord h) (fun r0 B0 σ_20 h => ?_)
    obtain ⟨r_21, rfl, rfl, h⟩ := h
    refine E_if_eq (tgt := 357) dX12_reads_321 (by decide) (fun hc => ?_) (fun hc => ?_)
    · have h := Eq.mp (if_pos hc) h
      refine E_aload_n dX12_reads_357 rfl rfl ?_
      refine E_bp dX12_reads_358 rfl ?_
      refine E_callV (Y' := Y_X12_isSign) (as := [vI 41]) (st := []) dX12_reads_360 lk_RX12_201 m_X12_isSign (by decide) (Nat.le_refl _) (Nat.le_refl _) rfl rfl (Nat.le_of_ble_eq_true rfl) (s_X12_isSign h) (fun r0 B0 σ_22 h => ?_)
      obtain ⟨r_23, rfl, rfl, h⟩ := h
      refine E_if_eq (tgt := 399) dX12_reads_363 (by decide) (fun hc => ?_) (fun hc => ?_)
      · have h := Eq.mp (if_pos hc) h
        refine E_wk2 [some (vR 12 0), some (vI x1), none, none, none, none] ⟨rfl, ⟨rfl, trivial⟩⟩ ?_
        exact hK2 _ _ h
      · have h := Eq.mp (if_neg hc) h
        refine E_iload_n dX12_reads_366 rfl rfl ?_
        refine E_if_le (tgt := 399) dX12_reads_367 (by decide) (fun hc => ?_) (fun hc => ?_)
        · have h := Eq.mp (if_pos hc) h
          refine E_wk2 [some (vR 12 0), some (vI x1), none, none, none, none] ⟨rfl, ⟨rfl, trivial⟩⟩ ?_
          exact hK2 _ _ h
        · have h := Eq.mp (if_neg hc) h
          refine E_aload_n dX12_reads_370 rfl rfl ?_
          refine E_bp dX12_reads_371 rfl ?_
          refine E_callV (Y' := Y_X12_puts) (as := [vI 29]) (st := []) dX12_reads_373 lk_RX12_208 m_X12_puts (by decide) (Nat.le_refl _) (Nat.le_refl _) rfl rfl (Nat.le_of_ble_eq_true rfl) (s_X12_puts h) (fun r0 B0 σ_24 h => ?_)
          obtain ⟨rfl, rfl, h⟩ := h
          refine E_iinc (ls' := [some (vR 12 0), some (vI (wi (x1 + (-1)))), some (vI x2), none, none, none]) dX12_reads_376 rfl (by decide) rfl rfl ?_
          refine e_P_X12_reads_L379 ?_ _ _ _ h
          · intro x1_25 σ_26 h
            exact e_P_X12_reads_J424 hR hK0 hK1 hK2 h
    · have h := Eq.mp (if_neg hc) h
      refine E_wk2 [some (vR 12 0), some (vI x1), none, none, none, none] ⟨rfl, ⟨rfl, trivial⟩⟩ ?_
      exact e_P_X12_reads_J324 hR hK0 hK1 hK2 h
def P_X12_reads_J289  (x1 : Int) (y0 : Int) (R : Int → Int → St → Prop) (K0 : St → Prop) (K1 : St → Prop) (K2 : Int → St → Prop) (Q : Int → St → Prop) (σ : St) : Prop :=
  P_X12_puts y0 σ (fun σ_29 => 0 ≤ x1 ∧ x1 < 7 ∧ P_X12_reads_J424 x1 1 R K0 K1 K2 Q (up σ_29 1325 0 x1 1))
set_option maxRecDepth 20000 in
set_option maxHeartbeats 2000000 in
theorem e_P_X12_reads_J289  {x1 : Int} {y0 : Int} {R : Int → Int → St → Prop} {K0 : St → Prop} {K1 : St → Prop} {K2 : Int → St → Prop} {Q : Int → St → Prop} {σ : St}  (hR : ∀ x1 x2 σ, R x1 x2 σ → E Y_X12_reads 2 0 0 (QI Q) ww 0 0 11 [some (vR 12 0), some (vI x1), some (vI x2), none, none, none] [] σ) (hK0 : ∀ σ, K0 σ → E Y_X12_reads 2 0 0 (QI Q) ww 0 0 59 [some (vR 12 0), none, none, none, none, none] [] σ) (hK1 : ∀ σ, K1 σ → E Y_X12_reads 2 0 0 (QI Q) ww 0 0 70 [some (vR 12 0), none, none, none, none, none] [] σ) (hK2 : ∀ x1 σ, K2 x1 σ → E Y_X12_reads 2 0 0 (QI Q) ww 0 0 399 [some (vR 12 0), some (vI x1), none, none, none, none] [] σ) (h : P_X12_reads_J289 x1 y0 R K0 K1 K2 Q σ) : E Y_X12_reads 2 0 0 (QI Q) ww 0 0 289 [some (vR 12 0), some (vI x1), none, none, none, none] [vI y0, vR 12 0] σ := by
  unfold P_X12_reads_J289 at h
  refine E_callV (Y' := Y_X12_puts) (as := [vI y0]) (st := []) dX12_reads_289 lk_RX12_208 m_X12_puts (by decide) (Nat.le_refl _) (Nat.le_refl _) rfl rfl (Nat.le_of_ble_eq_true rfl) (s_X12_puts h) (fun r0 B0 σ_29 h => ?_)
  obtain ⟨rfl, rfl, h⟩ := h
  refine E_aload_n dX12_reads_292 rfl rfl ?_
  refine E_getr (i := 0) dX12_reads_293 fl_RX12_53 rfl rfl (go_12_25 _ _) ?_
  refine E_iload_n dX12_reads_296 rfl rfl ?_
  refine E_ic dX12_reads_297 rfl ?_
  obtain ⟨hg0, hg1, h⟩ := h
  refine E_zast dX12_reads_298 sh_1325 hg0 hg1 (by decide) ?_
  refine E_ic dX12_reads_299 rfl ?_
  refine E_istore_n (ls' := [some (vR 12 0), some (vI x1), some (vI 1), none, none, none]) dX12_reads_300 rfl (by decide) rfl ?_
  refine E_goto (tgt := 424) dX12_reads_301 (by decide) ?_
  exact e_P_X12_reads_J424 hR hK0 hK1 hK2 h
def P_X12_reads_J263  (x1 : Int) (x2 : Int) (R : Int → Int → St → Prop) (K0 : St → Prop) (K1 : St → Prop) (K2 : Int → St → Prop) (Q : Int → St → Prop) (σ : St) : Prop :=
  0 ≤ x1 ∧ x1 < 7 ∧ (if (σ 1325 0 x1) = 0 then P_X12_isSign 60 σ (fun r_28 σ_27 => (if r_28 = 0 then P_X12_reads_J289 x1 25 R K0 K1 K2 Q σ_27 else P_X12_reads_J289 x1 24 R K0 K1 K2 Q σ_27)) else P_X12_reads_J304 x1 x2 R K0 K1 K2 Q σ)
set_option maxRecDepth 20000 in
set_option maxHeartbeats 2000000 in
theorem e_P_X12_reads_J263  {x1 : Int} {x2 : Int} {R : Int → Int → St → Prop} {K0 : St → Prop} {K1 : St → Prop} {K2 : Int → St → Prop} {Q : Int → St → Prop} {σ : St}  (hR : ∀ x1 x2 σ, R x1 x2 σ → E Y_X12_reads 2 0 0 (QI Q) ww 0 0 11 [some (vR 12 0), some (vI x1), some (vI x2), none, none, none] [] σ) (hK0 : ∀ σ, K0 σ → E Y_X12_reads 2 0 0 (QI Q) ww 0 0 59 [some (vR 12 0), none, none, none, none, none] [] σ) (hK1 : ∀ σ, K1 σ → E Y_X12_reads 2 0 0 (QI Q) ww 0 0 70 [some (vR 12 0), none, none, none, none, none] [] σ) (hK2 : ∀ x1 σ, K2 x1 σ → E Y_X12_reads 2 0 0 (QI Q) ww 0 0 399 [some (vR 12 0), some (vI x1), none, none, none, none] [] σ) (h : P_X12_reads_J263 x1 x2 R K0 K1 K2 Q σ) : E Y_X12_reads 2 0 0 (QI Q) ww 0 0 263 [some (vR 12 0), some (vI x1), some (vI x2), none, none, none] [] σ := by
  unfold P_X12_reads_J263 at h
  refine E_aload_n dX12_reads_263 rfl rfl ?_
  refine E_getr (i := 0) dX12_reads_264 fl_RX12_53 rfl rfl (go_12_25 _ _) ?_
  refine E_iload_n dX12_reads_267 rfl rfl ?_
  obtain ⟨hg0, hg1, h⟩ := h
  refine E_zald dX12_reads_268 sh_1325 hg0 hg1 ?_
  refine E_if_ne (tgt := 304) dX12_reads_269 (by decide) (fun hc => ?_) (fun hc => ?_)
  · have h := Eq.mp (if_neg hc) h
    exact e_P_X12_reads_J304 hR hK0 hK1 hK2 h
  · have h := Eq.mp (if_pos hc) h
    refine E_aload_n dX12_reads_272 rfl rfl ?_
    refine E_aload_n dX12_reads_273 rfl rfl ?_
    refine E_bp dX12_reads_274 rfl ?_
    refine E_callV (Y' := Y_X12_isSign) (as := [vI 60]) (st := [vR 12 0]) dX12_reads_276 lk_RX12_201 m_X12_isSign (by decide) (Nat.le_refl _) (Nat.le_refl _) rfl rfl (Nat.le_of_ble_eq_true rfl) (s_X12_isSign h) (fun r0 B0 σ_27 h => ?_)
    obtain ⟨r_28, rfl, rfl, h⟩ := h
    refine E_if_eq (tgt := 287) dX12_reads_279 (by decide) (fun hc => ?_) (fun hc => ?_)
    · have h := Eq.mp (if_pos hc) h
      refine E_bp dX12_reads_287 rfl ?_
      refine E_wk2 [some (vR 12 0), some (vI x1), none, none, none, none] ⟨rfl, ⟨rfl, trivial⟩⟩ ?_
      exact e_P_X12_reads_J289 hR hK0 hK1 hK2 h
    · have h := Eq.mp (if_neg hc) h
      refine E_bp dX12_reads_282 rfl ?_
      refine E_goto (tgt := 289) dX12_reads_284 (by decide) ?_
      refine E_wk2 [some (vR 12 0), some (vI x1), none, none, none, none] ⟨rfl, ⟨rfl, trivial⟩⟩ ?_
      exact e_P_X12_reads_J289 hR hK0 hK1 hK2 h
def P_X12_reads_J172  (x1 : Int) (x2 : Int) (R : Int → Int → St → Prop) (K0 : St → Prop) (K1 : St → Prop) (K2 : Int → St → Prop) (Q : Int → St → Prop) (σ : St) : Prop :=
  P_X12_nextToken σ (fun σ_39 => R x1 x2 σ_39)
set_option maxRecDepth 20000 in
set_option maxHeartbeats 2000000 in
theorem e_P_X12_reads_J172  {x1 : Int} {x2 : Int} {R : Int → Int → St → Prop} {K0 : St → Prop} {K1 : St → Prop} {K2 : Int → St → Prop} {Q : Int → St → Prop} {σ : St}  (hR : ∀ x1 x2 σ, R x1 x2 σ → E Y_X12_reads 2 0 0 (QI Q) ww 0 0 11 [some (vR 12 0), some (vI x1), some (vI x2), none, none, none] [] σ) (hK0 : ∀ σ, K0 σ → E Y_X12_reads 2 0 0 (QI Q) ww 0 0 59 [some (vR 12 0), none, none, none, none, none] [] σ) (hK1 : ∀ σ, K1 σ → E Y_X12_reads 2 0 0 (QI Q) ww 0 0 70 [some (vR 12 0), none, none, none, none, none] [] σ) (hK2 : ∀ x1 σ, K2 x1 σ → E Y_X12_reads 2 0 0 (QI Q) ww 0 0 399 [some (vR 12 0), some (vI x1), none, none, none, none] [] σ) (h : P_X12_reads_J172 x1 x2 R K0 K1 K2 Q σ) : E Y_X12_reads 2 0 0 (QI Q) ww 0 0 172 [some (vR 12 0), some (vI x1), some (vI x2), none, none, none] [] σ := by
  unfold P_X12_reads_J172 at h
  refine E_aload_n dX12_reads_172 rfl rfl ?_
  refine E_callV (Y' := Y_X12_nextToken) (as := []) (st := []) dX12_reads_173 lk_RX12_212 m_X12_nextToken (by decide) (Nat.le_refl _) (Nat.le_refl _) rfl rfl (Nat.le_of_ble_eq_true rfl) (s_X12_nextToken h) (fun r0 B0 σ_39 h => ?_)
  obtain ⟨rfl, rfl, h⟩ := h
  refine E_goto (tgt := 11) dX12_reads_176 (by decide) ?_
  exact hR _ _ _ h
def P_X12_reads_J120  (x1 : Int) (x2 : Int) (y0 : Int) (y1 : Int) (R : Int → Int → St → Prop) (K0 : St → Prop) (K1 : St → Prop) (K2 : Int → St → Prop) (Q : Int → St → Prop) (σ : St) : Prop :=
  0 ≤ y1 ∧ y1 < 7 ∧ 0 ≤ x1 ∧ x1 < 7 ∧ P_X12_reads_J172 x1 x2 R K0 K1 K2 Q (up (up σ 1324 0 y1 y0) 1325 0 x1 0)
set_option maxRecDepth 20000 in
set_option maxHeartbeats 2000000 in
theorem e_P_X12_reads_J120  {x1 : Int} {x2 : Int} {y0 : Int} {y1 : Int} {R : Int → Int → St → Prop} {K0 : St → Prop} {K1 : St → Prop} {K2 : Int → St → Prop} {Q : Int → St → Prop} {σ : St}  (hR : ∀ x1 x2 σ, R x1 x2 σ → E Y_X12_reads 2 0 0 (QI Q) ww 0 0 11 [some (vR 12 0), some (vI x1), some (vI x2), none, none, none] [] σ) (hK0 : ∀ σ, K0 σ → E Y_X12_reads 2 0 0 (QI Q) ww 0 0 59 [some (vR 12 0), none, none, none, none, none] [] σ) (hK1 : ∀ σ, K1 σ → E Y_X12_reads 2 0 0 (QI Q) ww 0 0 70 [some (vR 12 0), none, none, none, none, none] [] σ) (hK2 : ∀ x1 σ, K2 x1 σ → E Y_X12_reads 2 0 0 (QI Q) ww 0 0 399 [some (vR 12 0), some (vI x1), none, none, none, none] [] σ) (h : P_X12_reads_J120 x1 x2 y0 y1 R K0 K1 K2 Q σ) : E Y_X12_reads 2 0 0 (QI Q) ww 0 0 120 [some (vR 12 0), some (vI x1), some (vI x2), none, none, none] [vI y0, vI y1, vR 1324 0] σ := by
  unfold P_X12_reads_J120 at h
  obtain ⟨hg0, hg1, h⟩ := h
  refine E_iast dX12_reads_120 sh_1324 hg0 hg1 ?_
  refine E_aload_n dX12_reads_121 rfl rfl ?_
  refine E_getr (i := 0) dX12_reads_122 fl_RX12_53 rfl rfl (go_12_25 _ _) ?_
  refine E_iload_n dX12_reads_125 rfl rfl ?_
  refine E_ic dX12_reads_126 rfl ?_
  obtain ⟨hg0, hg1, h⟩ := h
  refine E_zast dX12_reads_127 sh_1325 hg0 hg1 (by decide) ?_
  refine E_goto (tgt := 172) dX12_reads_128 (by decide) ?_
  exact e_P_X12_reads_J172 hR hK0 hK1 hK2 h
def P_X12_reads_J99  (x1 : Int) (x2 : Int) (x4 : Int) (y0 : Int) (R : Int → Int → St → Prop) (K0 : St → Prop) (K1 : St → Prop) (K2 : Int → St → Prop) (Q : Int → St → Prop) (σ : St) : Prop :=
  P_X12_puts y0 σ (fun σ_38 => (if x4 = 0 then P_X12_reads_J120 (wi (x1 + 1)) x2 2 (wi (x1 + 1)) R K0 K1 K2 Q σ_38 else P_X12_reads_J120 (wi (x1 + 1)) x2 1 (wi (x1 + 1)) R K0 K1 K2 Q σ_38))
set_option maxRecDepth 20000 in
set_option maxHeartbeats 2000000 in
theorem e_P_X12_reads_J99  {x1 : Int} {x2 : Int} {x4 : Int} {y0 : Int} {R : Int → Int → St → Prop} {K0 : St → Prop} {K1 : St → Prop} {K2 : Int → St → Prop} {Q : Int → St → Prop} {σ : St}  (hR : ∀ x1 x2 σ, R x1 x2 σ → E Y_X12_reads 2 0 0 (QI Q) ww 0 0 11 [some (vR 12 0), some (vI x1), some (vI x2), none, none, none] [] σ) (hK0 : ∀ σ, K0 σ → E Y_X12_reads 2 0 0 (QI Q) ww 0 0 59 [some (vR 12 0), none, none, none, none, none] [] σ) (hK1 : ∀ σ, K1 σ → E Y_X12_reads 2 0 0 (QI Q) ww 0 0 70 [some (vR 12 0), none, none, none, none, none] [] σ) (hK2 : ∀ x1 σ, K2 x1 σ → E Y_X12_reads 2 0 0 (QI Q) ww 0 0 399 [some (vR 12 0), some (vI x1), none, none, none, none] [] σ) (h : P_X12_reads_J99 x1 x2 x4 y0 R K0 K1 K2 Q σ) : E Y_X12_reads 2 0 0 (QI Q) ww 0 0 99 [some (vR 12 0), some (vI x1), some (vI x2), none, some (vI x4), none] [vI y0, vR 12 0] σ := by
  unfold P_X12_reads_J99 at h
  refine E_callV (Y' := Y_X12_puts) (as := [vI y0]) (st := []) dX12_reads_99 lk_RX12_208 m_X12_puts (by decide) (Nat.le_refl _) (Nat.le_refl _) rfl rfl (Nat.le_of_ble_eq_true rfl) (s_X12_puts h) (fun r0 B0 σ_38 h => ?_)
  obtain ⟨rfl, rfl, h⟩ := h
  refine E_iinc (ls' := [some (vR 12 0), some (vI (wi (x1 + 1))), some (vI x2), none, some (vI x4), none]) dX12_reads_102 rfl (by decide) rfl rfl ?_
  refine E_aload_n dX12_reads_105 rfl rfl ?_
  refine E_getr (i := 0) dX12_reads_106 fl_RX12_50 rfl rfl (go_12_24 _ _) ?_
  refine E_iload_n dX12_reads_109 rfl rfl ?_
  refine E_iload dX12_reads_110 rfl ?_
  refine E_if_eq (tgt := 119) dX12_reads_112 (by decide) (fun hc => ?_) (fun hc => ?_)
  · have h := Eq.mp (if_pos hc) h
    refine E_ic dX12_reads_119 rfl ?_
    refine E_wk2 [some (vR 12 0), some (vI (wi (x1 + 1))), some (vI x2), none, none, none] ⟨rfl, ⟨rfl, ⟨rfl, trivial⟩⟩⟩ ?_
    exact e_P_X12_reads_J120 hR hK0 hK1 hK2 h
  · have h := Eq.mp (if_neg hc) h
    refine E_ic dX12_reads_115 rfl ?_
    refine E_goto (tgt := 120) dX12_reads_116 (by decide) ?_
    refine E_wk2 [some (vR 12 0), some (vI (wi (x1 + 1))), some (vI x2), none, none, none] ⟨rfl, ⟨rfl, ⟨rfl, trivial⟩⟩⟩ ?_
    exact e_P_X12_reads_J120 hR hK0 hK1 hK2 h
def P_X12_reads_J86  (x1 : Int) (x2 : Int) (x4 : Int) (R : Int → Int → St → Prop) (K0 : St → Prop) (K1 : St → Prop) (K2 : Int → St → Prop) (Q : Int → St → Prop) (σ : St) : Prop :=
  (if x4 = 0 then P_X12_reads_J99 x1 x2 x4 28 R K0 K1 K2 Q σ else P_X12_reads_J99 x1 x2 x4 30 R K0 K1 K2 Q σ)
set_option maxRecDepth 20000 in
set_option maxHeartbeats 2000000 in
theorem e_P_X12_reads_J86  {x1 : Int} {x2 : Int} {x4 : Int} {R : Int → Int → St → Prop} {K0 : St → Prop} {K1 : St → Prop} {K2 : Int → St → Prop} {Q : Int → St → Prop} {σ : St}  (hR : ∀ x1 x2 σ, R x1 x2 σ → E Y_X12_reads 2 0 0 (QI Q) ww 0 0 11 [some (vR 12 0), some (vI x1), some (vI x2), none, none, none] [] σ) (hK0 : ∀ σ, K0 σ → E Y_X12_reads 2 0 0 (QI Q) ww 0 0 59 [some (vR 12 0), none, none, none, none, none] [] σ) (hK1 : ∀ σ, K1 σ → E Y_X12_reads 2 0 0 (QI Q) ww 0 0 70 [some (vR 12 0), none, none, none, none, none] [] σ) (hK2 : ∀ x1 σ, K2 x1 σ → E Y_X12_reads 2 0 0 (QI Q) ww 0 0 399 [some (vR 12 0), some (vI x1), none, none, none, none] [] σ) (h : P_X12_reads_J86 x1 x2 x4 R K0 K1 K2 Q σ) : E Y_X12_reads 2 0 0 (QI Q) ww 0 0 86 [some (vR 12 0), some (vI x1), some (vI x2), none, some (vI x4), none] [] σ := by
  unfold P_X12_reads_J86 at h
  refine E_aload_n dX12_reads_86 rfl rfl ?_
  refine E_iload dX12_reads_87 rfl ?_
  refine E_if_eq (tgt := 97) dX12_reads_89 (by decide) (fun hc => ?_) (fun hc => ?_)
  · have h := Eq.mp (if_pos hc) h
    refine E_bp dX12_reads_97 rfl ?_
    exact e_P_X12_reads_J99 hR hK0 hK1 hK2 h
  · have h := Eq.mp (if_neg hc) h
    refine E_bp dX12_reads_92 rfl ?_
    refine E_goto (tgt := 99) dX12_reads_94 (by decide) ?_
    exact e_P_X12_reads_J99 hR hK0 hK1 hK2 h
def P_X12_reads_L152  (x2 : Int) (K : Int → St → Prop) (Q : Int → St → Prop) : Nat → Int → St → Prop
  | 0, _, _ => False
  | n + 1, x1, σ => (if x1 ≤ 0 then K x1 σ else 0 ≤ x1 ∧ x1 < 7 ∧ (if (σ 1324 0 x1) = 1 then (P_X12_reads_L152 x2 K Q n) (wi (x1 + (-1))) σ else K x1 σ))
set_option maxRecDepth 20000 in
set_option maxHeartbeats 2000000 in
theorem e_P_X12_reads_L152  {x2 : Int} {K : Int → St → Prop} {Q : Int → St → Prop}  (hK : ∀ x1 σ, K x1 σ → E Y_X12_reads 2 0 0 (QI Q) ww 0 0 172 [some (vR 12 0), some (vI x1), some (vI x2), none, none, none] [] σ) : ∀ (n : Nat) (x1 : Int) (σ : St), P_X12_reads_L152 x2 K Q n x1 σ → E Y_X12_reads 2 0 0 (QI Q) ww 0 0 152 [some (vR 12 0), some (vI x1), some (vI x2), none, none, none] [] σ := by
  intro n
  induction n with
  | zero => intro x1 σ h; exact h.elim
  | succ n hR =>
    intro x1 σ h
    unfold P_X12_reads_L152 at h
    refine E_iload_n dX12_reads_152 rfl rfl ?_
    refine E_if_le (tgt := 172) dX12_reads_153 (by decide) (fun hc => ?_) (fun hc => ?_)
    · have h := Eq.mp (if_pos hc) h
      exact hK _ _ h
    · have h := Eq.mp (if_neg hc) h
      refine E_aload_n dX12_reads_156 rfl rfl ?_
      refine E_getr (i := 0) dX12_reads_157 fl_RX12_50 rfl rfl (go_12_24 _ _) ?_
      refine E_iload_n dX12_reads_160 rfl rfl ?_
      obtain ⟨hg0, hg1, h⟩ := h
      refine E_iald dX12_reads_161 sh_1324 hg0 hg1 ?_
      refine E_ic dX12_reads_162 rfl ?_
      refine E_icmp_ne (tgt := 172) dX12_reads_163 (by decide) (fun hc => ?_) (fun hc => ?_)
      · have h := Eq.mp (if_neg hc) h
        exact hK _ _ h
      · have h := Eq.mp (if_pos hc) h
        refine E_iinc (ls' := [some (vR 12 0), some (vI (wi (x1 + (-1)))), some (vI x2), none, none, none]) dX12_reads_166 rfl (by decide) rfl rfl ?_
        refine E_goto (tgt := 152) dX12_reads_169 (by decide) ?_
        exact hR _ _ h
def P_X12_reads_J147  (x1 : Int) (y0 : Int) (R : Int → Int → St → Prop) (K0 : St → Prop) (K1 : St → Prop) (K2 : Int → St → Prop) (Q : Int → St → Prop) (σ : St) : Prop :=
  P_X12_puts y0 σ (fun σ_40 => P_X12_reads_L152 0 (fun x1_41 σ_42 => P_X12_reads_J172 x1_41 0 R K0 K1 K2 Q σ_42) Q FU x1 σ_40)
set_option maxRecDepth 20000 in
set_option maxHeartbeats 2000000 in
theorem e_P_X12_reads_J147  {x1 : Int} {y0 : Int} {R : Int → Int → St → Prop} {K0 : St → Prop} {K1 : St → Prop} {K2 : Int → St → Prop} {Q : Int → St → Prop} {σ : St}  (hR : ∀ x1 x2 σ, R x1 x2 σ → E Y_X12_reads 2 0 0 (QI Q) ww 0 0 11 [some (vR 12 0), some (vI x1), some (vI x2), none, none, none] [] σ) (hK0 : ∀ σ, K0 σ → E Y_X12_reads 2 0 0 (QI Q) ww 0 0 59 [some (vR 12 0), none, none, none, none, none] [] σ) (hK1 : ∀ σ, K1 σ → E Y_X12_reads 2 0 0 (QI Q) ww 0 0 70 [some (vR 12 0), none, none, none, none, none] [] σ) (hK2 : ∀ x1 σ, K2 x1 σ → E Y_X12_reads 2 0 0 (QI Q) ww 0 0 399 [some (vR 12 0), some (vI x1), none, none, none, none] [] σ) (h : P_X12_reads_J147 x1 y0 R K0 K1 K2 Q σ) : E Y_X12_reads 2 0 0 (QI Q) ww 0 0 147 [some (vR 12 0), some (vI x1), none, none, none, none] [vI y0, vR 12 0] σ := by
  unfold P_X12_reads_J147 at h
  refine E_callV (Y' := Y_X12_puts) (as := [vI y0]) (st := []) dX12_reads_147 lk_RX12_208 m_X12_puts (by decide) (Nat.le_refl _) (Nat.le_refl _) rfl rfl (Nat.le_of_ble_eq_true rfl) (s_X12_puts h) (fun r0 B0 σ_40 h => ?_)
  obtain ⟨rfl, rfl, h⟩ := h
  refine E_ic dX12_reads_150 rfl ?_
  refine E_istore_n (ls' := [some (vR 12 0), some (vI x1), some (vI 0), none, none, none]) dX12_reads_151 rfl (by decide) rfl ?_
  refine e_P_X12_reads_L152 ?_ _ _ _ h
  · intro x1_41 σ_42 h
    exact e_P_X12_reads_J172 hR hK0 hK1 hK2 h
def P_X12_reads_J65  (x1 : Int) (x2 : Int) (x3 : Int) (x4 : Int) (x5 : Int) (R : Int → Int → St → Prop) (K0 : St → Prop) (K1 : St → Prop) (K2 : Int → St → Prop) (Q : Int → St → Prop) (σ : St) : Prop :=
  (if x1 = 5 then K1 σ else (if x4 = 0 then (if x5 = 0 then (if x3 ≤ 0 then P_X12_reads_J147 x1 (wi (100 + (σ 12 0 8))) R K0 K1 K2 Q σ else P_X12_reads_J147 x1 x3 R K0 K1 K2 Q σ) else P_X12_reads_J86 x1 x2 x4 R K0 K1 K2 Q σ) else P_X12_reads_J86 x1 x2 x4 R K0 K1 K2 Q σ))
set_option maxRecDepth 20000 in
set_option maxHeartbeats 2000000 in
theorem e_P_X12_reads_J65  {x1 : Int} {x2 : Int} {x3 : Int} {x4 : Int} {x5 : Int} {R : Int → Int → St → Prop} {K0 : St → Prop} {K1 : St → Prop} {K2 : Int → St → Prop} {Q : Int → St → Prop} {σ : St}  (hR : ∀ x1 x2 σ, R x1 x2 σ → E Y_X12_reads 2 0 0 (QI Q) ww 0 0 11 [some (vR 12 0), some (vI x1), some (vI x2), none, none, none] [] σ) (hK0 : ∀ σ, K0 σ → E Y_X12_reads 2 0 0 (QI Q) ww 0 0 59 [some (vR 12 0), none, none, none, none, none] [] σ) (hK1 : ∀ σ, K1 σ → E Y_X12_reads 2 0 0 (QI Q) ww 0 0 70 [some (vR 12 0), none, none, none, none, none] [] σ) (hK2 : ∀ x1 σ, K2 x1 σ → E Y_X12_reads 2 0 0 (QI Q) ww 0 0 399 [some (vR 12 0), some (vI x1), none, none, none, none] [] σ) (h : P_X12_reads_J65 x1 x2 x3 x4 x5 R K0 K1 K2 Q σ) : E Y_X12_reads 2 0 0 (QI Q) ww 0 0 65 [some (vR 12 0), some (vI x1), some (vI x2), some (vI x3), some (vI x4), some (vI x5)] [] σ := by
  unfold P_X12_reads_J65 at h
  refine E_iload_n dX12_reads_65 rfl rfl ?_
  refine E_ic dX12_reads_66 rfl ?_
  refine E_icmp_ne (tgt := 76) dX12_reads_67 (by decide) (fun hc => ?_) (fun hc => ?_)
  · have h := Eq.mp (if_neg hc) h
    refine E_iload dX12_reads_76 rfl ?_
    refine E_if_ne (tgt := 86) dX12_reads_78 (by decide) (fun hc => ?_) (fun hc => ?_)
    · have h := Eq.mp (if_neg hc) h
      refine E_wk2 [some (vR 12 0), some (vI x1), some (vI x2), none, some (vI x4), none] ⟨rfl, ⟨rfl, ⟨rfl, ⟨rfl, trivial⟩⟩⟩⟩ ?_
      exact e_P_X12_reads_J86 hR hK0 hK1 hK2 h
    · have h := Eq.mp (if_pos hc) h
      refine E_iload dX12_reads_81 rfl ?_
      refine E_if_eq (tgt := 131) dX12_reads_83 (by decide) (fun hc => ?_) (fun hc => ?_)
      · have h := Eq.mp (if_pos hc) h
        refine E_aload_n dX12_reads_131 rfl rfl ?_
        refine E_iload_n dX12_reads_132 rfl rfl ?_
        refine E_if_le (tgt := 140) dX12_reads_133 (by decide) (fun hc => ?_) (fun hc => ?_)
        · have h := Eq.mp (if_pos hc) h
          refine E_bp dX12_reads_140 rfl ?_
          refine E_aload_n dX12_reads_142 rfl rfl ?_
          refine E_geti (i := 0) dX12_reads_143 fl_RX12_163 rfl ?_
          refine E_iadd dX12_reads_146 ?_
          refine E_wk2 [some (vR 12 0), some (vI x1), none, none, none, none] ⟨rfl, ⟨rfl, trivial⟩⟩ ?_
          exact e_P_X12_reads_J147 hR hK0 hK1 hK2 h
        · have h := Eq.mp (if_neg hc) h
          refine E_iload_n dX12_reads_136 rfl rfl ?_
          refine E_goto (tgt := 147) dX12_reads_137 (by decide) ?_
          refine E_wk2 [some (vR 12 0), some (vI x1), none, none, none, none] ⟨rfl, ⟨rfl, trivial⟩⟩ ?_
          exact e_P_X12_reads_J147 hR hK0 hK1 hK2 h
      · have h := Eq.mp (if_neg hc) h
        refine E_wk2 [some (vR 12 0), some (vI x1), some (vI x2), none, some (vI x4), none] ⟨rfl, ⟨rfl, ⟨rfl, ⟨rfl, trivial⟩⟩⟩⟩ ?_
        exact e_P_X12_reads_J86 hR hK0 hK1 hK2 h
  · have h := Eq.mp (if_pos hc) h
    refine E_wk2 [some (vR 12 0), none, none, none, none, none] ⟨rfl, trivial⟩ ?_
    exact hK1 _ h
def P_X12_reads_L11   (K0 : St → Prop) (K1 : St → Prop) (K2 : Int → St → Prop) (Q : Int → St → Prop) : Nat → Int → Int → St → Prop
  | 0, _, _, _ => False
  | n + 1, x1, x2, σ => (if x2 = 0 then P_X12_isSign 43 σ (fun r_2 σ_1 => (if r_2 = 0 then P_X12_isSign 45 σ_1 (fun r_10 σ_9 => (if r_10 = 0 then P_X12_isSign 42 σ_9 (fun r_12 σ_11 => (if r_12 = 0 then P_X12_isSign 60 σ_11 (fun r_14 σ_13 => (if r_14 = 0 then P_X12_isSign 61 σ_13 (fun r_31 σ_30 => (if r_31 = 0 then P_X12_reads_J304 x1 x2 (P_X12_reads_L11 K0 K1 K2 Q n) K0 K1 K2 Q σ_30 else P_X12_reads_J263 x1 x2 (P_X12_reads_L11 K0 K1 K2 Q n) K0 K1 K2 Q σ_30)) else P_X12_reads_J263 x1 x2 (P_X12_reads_L11 K0 K1 K2 Q n) K0 K1 K2 Q σ_13)) else P_X12_reads_J206 x1 (P_X12_reads_L11 K0 K1 K2 Q n) K0 K1 K2 Q σ_11)) else P_X12_reads_J206 x1 (P_X12_reads_L11 K0 K1 K2 Q n) K0 K1 K2 Q σ_9)) else P_X12_reads_J206 x1 (P_X12_reads_L11 K0 K1 K2 Q n) K0 K1 K2 Q σ_1)) else P_X12_fact σ (fun r_33 σ_32 => P_X12_isWord 10631 σ_32 (fun r_35 σ_34 => P_X12_isSign 40 σ_34 (fun r_37 σ_36 => (if r_33 = 0 then (if r_35 = 0 then (if r_37 = 0 then (if (σ_36 12 0 6) = 2 then P_X12_reads_J65 x1 x2 r_33 r_35 r_37 (P_X12_reads_L11 K0 K1 K2 Q n) K0 K1 K2 Q σ_36 else K0 σ_36) else P_X12_reads_J65 x1 x2 r_33 r_35 r_37 (P_X12_reads_L11 K0 K1 K2 Q n) K0 K1 K2 Q σ_36) else P_X12_reads_J65 x1 x2 r_33 r_35 r_37 (P_X12_reads_L11 K0 K1 K2 Q n) K0 K1 K2 Q σ_36) else P_X12_reads_J65 x1 x2 r_33 r_35 r_37 (P_X12_reads_L11 K0 K1 K2 Q n) K0 K1 K2 Q σ_36)))))
set_option maxRecDepth 20000 in
set_option maxHeartbeats 2000000 in
theorem e_P_X12_reads_L11   {K0 : St → Prop} {K1 : St → Prop} {K2 : Int → St → Prop} {Q : Int → St → Prop}  (hK0 : ∀ σ, K0 σ → E Y_X12_reads 2 0 0 (QI Q) ww 0 0 59 [some (vR 12 0), none, none, none, none, none] [] σ) (hK1 : ∀ σ, K1 σ → E Y_X12_reads 2 0 0 (QI Q) ww 0 0 70 [some (vR 12 0), none, none, none, none, none] [] σ) (hK2 : ∀ x1 σ, K2 x1 σ → E Y_X12_reads 2 0 0 (QI Q) ww 0 0 399 [some (vR 12 0), some (vI x1), none, none, none, none] [] σ) : ∀ (n : Nat) (x1 : Int) (x2 : Int) (σ : St), P_X12_reads_L11 K0 K1 K2 Q n x1 x2 σ → E Y_X12_reads 2 0 0 (QI Q) ww 0 0 11 [some (vR 12 0), some (vI x1), some (vI x2), none, none, none] [] σ := by
  intro n
  induction n with
  | zero => intro x1 x2 σ h; exact h.elim
  | succ n hR =>
    intro x1 x2 σ h
    unfold P_X12_reads_L11 at h
    refine E_iload_n dX12_reads_11 rfl rfl ?_
    refine E_if_eq (tgt := 179) dX12_reads_12 (by decide) (fun hc => ?_) (fun hc => ?_)
    · have h := Eq.mp (if_pos hc) h
      refine E_aload_n dX12_reads_179 rfl rfl ?_
      refine E_bp dX12_reads_180 rfl ?_
      refine E_callV (Y' := Y_X12_isSign) (as := [vI 43]) (st := []) dX12_reads_182 lk_RX12_201 m_X12_isSign (by decide) (Nat.le_refl _) (Nat.le_refl _) rfl rfl (Nat.le_of_ble_eq_true rfl) (s_X12_isSign h) (fun r0 B0 σ_1 h => ?_)
      obtain ⟨r_2, rfl, rfl, h⟩ := h
      refine E_if_ne (tgt := 206) dX12_reads_185 (by decide) (fun hc => ?_) (fun hc => ?_)
      · have h := Eq.mp (if_neg hc) h
        refine E_wk2 [some (vR 12 0), some (vI x1), none, none, none, none] ⟨rfl, ⟨rfl, trivial⟩⟩ ?_
        exact e_P_X12_reads_J206 hR hK0 hK1 hK2 h
      · have h := Eq.mp (if_pos hc) h
        refine E_aload_n dX12_reads_188 rfl rfl ?_
        refine E_bp dX12_reads_189 rfl ?_
        refine E_callV (Y' := Y_X12_isSign) (as := [vI 45]) (st := []) dX12_reads_191 lk_RX12_201 m_X12_isSign (by decide) (Nat.le_refl _) (Nat.le_refl _) rfl rfl (Nat.le_of_ble_eq_true rfl) (s_X12_isSign h) (fun r0 B0 σ_9 h => ?_)
        obtain ⟨r_10, rfl, rfl, h⟩ := h
        refine E_if_ne (tgt := 206) dX12_reads_194 (by decide) (fun hc => ?_) (fun hc => ?_)
        · have h := Eq.mp (if_neg hc) h
          refine E_wk2 [some (vR 12 0), some (vI x1), none, none, none, none] ⟨rfl, ⟨rfl, trivial⟩⟩ ?_
          exact e_P_X12_reads_J206 hR hK0 hK1 hK2 h
        · have h := Eq.mp (if_pos hc) h
          refine E_aload_n dX12_reads_197 rfl rfl ?_
          refine E_bp dX12_reads_198 rfl ?_
          refine E_callV (Y' := Y_X12_isSign) (as := [vI 42]) (st := []) dX12_reads_200 lk_RX12_201 m_X12_isSign (by decide) (Nat.le_refl _) (Nat.le_refl _) rfl rfl (Nat.le_of_ble_eq_true rfl) (s_X12_isSign h) (fun r0 B0 σ_11 h => ?_)
          obtain ⟨r_12, rfl, rfl, h⟩ := h
          refine E_if_eq (tgt := 245) dX12_reads_203 (by decide) (fun hc => ?_) (fun hc => ?_)
          · have h := Eq.mp (if_pos hc) h
            refine E_aload_n dX12_reads_245 rfl rfl ?_
            refine E_bp dX12_reads_246 rfl ?_
            refine E_callV (Y' := Y_X12_isSign) (as := [vI 60]) (st := []) dX12_reads_248 lk_RX12_201 m_X12_isSign (by decide) (Nat.le_refl _) (Nat.le_refl _) rfl rfl (Nat.le_of_ble_eq_true rfl) (s_X12_isSign h) (fun r0 B0 σ_13 h => ?_)
            obtain ⟨r_14, rfl, rfl, h⟩ := h
            refine E_if_ne (tgt := 263) dX12_reads_251 (by decide) (fun hc => ?_) (fun hc => ?_)
            · have h := Eq.mp (if_neg hc) h
              exact e_P_X12_reads_J263 hR hK0 hK1 hK2 h
            · have h := Eq.mp (if_pos hc) h
              refine E_aload_n dX12_reads_254 rfl rfl ?_
              refine E_bp dX12_reads_255 rfl ?_
              refine E_callV (Y' := Y_X12_isSign) (as := [vI 61]) (st := []) dX12_reads_257 lk_RX12_201 m_X12_isSign (by decide) (Nat.le_refl _) (Nat.le_refl _) rfl rfl (Nat.le_of_ble_eq_true rfl) (s_X12_isSign h) (fun r0 B0 σ_30 h => ?_)
              obtain ⟨r_31, rfl, rfl, h⟩ := h
              refine E_if_eq (tgt := 304) dX12_reads_260 (by decide) (fun hc => ?_) (fun hc => ?_)
              · have h := Eq.mp (if_pos hc) h
                exact e_P_X12_reads_J304 hR hK0 hK1 hK2 h
              · have h := Eq.mp (if_neg hc) h
                exact e_P_X12_reads_J263 hR hK0 hK1 hK2 h
          · have h := Eq.mp (if_neg hc) h
            refine E_wk2 [some (vR 12 0), some (vI x1), none, none, none, none] ⟨rfl, ⟨rfl, trivial⟩⟩ ?_
            exact e_P_X12_reads_J206 hR hK0 hK1 hK2 h
    · have h := Eq.mp (if_neg hc) h
      refine E_aload_n dX12_reads_15 rfl rfl ?_
      refine E_callV (Y' := Y_X12_fact) (as := []) (st := []) dX12_reads_16 lk_RX12_191 m_X12_fact (by decide) (Nat.le_refl _) (Nat.le_refl _) rfl rfl (Nat.le_of_ble_eq_true rfl) (s_X12_fact h) (fun r0 B0 σ_32 h => ?_)
      obtain ⟨r_33, rfl, rfl, h⟩ := h
      refine E_istore_n (ls' := [some (vR 12 0), some (vI x1), some (vI x2), some (vI r_33), none, none]) dX12_reads_19 rfl (by decide) rfl ?_
      refine E_aload_n dX12_reads_20 rfl rfl ?_
      refine E_ldc2 (z := 10631) dX12_reads_21 kl_RX12_195 (by decide) ?_
      refine E_callV (Y' := Y_X12_isWord) (as := [vL 10631]) (st := []) dX12_reads_24 lk_RX12_197 m_X12_isWord (by decide) (Nat.le_refl _) (Nat.le_refl _) rfl rfl (Nat.le_of_ble_eq_true rfl) (s_X12_isWord h) (fun r0 B0 σ_34 h => ?_)
      obtain ⟨r_35, rfl, rfl, h⟩ := h
      refine E_istore (ls' := [some (vR 12 0), some (vI x1), some (vI x2), some (vI r_33), some (vI r_35), none]) dX12_reads_27 (by decide) rfl ?_
      refine E_aload_n dX12_reads_29 rfl rfl ?_
      refine E_bp dX12_reads_30 rfl ?_
      refine E_callV (Y' := Y_X12_isSign) (as := [vI 40]) (st := []) dX12_reads_32 lk_RX12_201 m_X12_isSign (by decide) (Nat.le_refl _) (Nat.le_refl _) rfl rfl (Nat.le_of_ble_eq_true rfl) (s_X12_isSign h) (fun r0 B0 σ_36 h => ?_)
      obtain ⟨r_37, rfl, rfl, h⟩ := h
      refine E_istore (ls' := [some (vR 12 0), some (vI x1), some (vI x2), some (vI r_33), some (vI r_35), some (vI r_37)]) dX12_reads_35 (by decide) rfl ?_
      refine E_iload_n dX12_reads_37 rfl rfl ?_
      refine E_if_ne (tgt := 65) dX12_reads_38 (by decide) (fun hc => ?_) (fun hc => ?_)
      · have h := Eq.mp (if_neg hc) h
        exact e_P_X12_reads_J65 hR hK0 hK1 hK2 h
      · have h := Eq.mp (if_pos hc) h
        refine E_iload dX12_reads_41 rfl ?_
        refine E_if_ne (tgt := 65) dX12_reads_43 (by decide) (fun hc => ?_) (fun hc => ?_)
        · have h := Eq.mp (if_neg hc) h
          exact e_P_X12_reads_J65 hR hK0 hK1 hK2 h
        · have h := Eq.mp (if_pos hc) h
          refine E_iload dX12_reads_46 rfl ?_
          refine E_if_ne (tgt := 65) dX12_reads_48 (by decide) (fun hc => ?_) (fun hc => ?_)
          · have h := Eq.mp (if_neg hc) h
            exact e_P_X12_reads_J65 hR hK0 hK1 hK2 h
          · have h := Eq.mp (if_pos hc) h
            refine E_aload_n dX12_reads_51 rfl rfl ?_
            refine E_geti (i := 0) dX12_reads_52 fl_RX12_166 rfl ?_
            refine E_ic dX12_reads_55 rfl ?_
            refine E_icmp_eq (tgt := 65) dX12_reads_56 (by decide) (fun hc => ?_) (fun hc => ?_)
            · have h := Eq.mp (if_pos hc) h
              exact e_P_X12_reads_J65 hR hK0 hK1 hK2 h
            · have h := Eq.mp (if_neg hc) h
              refine E_wk2 [some (vR 12 0), none, none, none, none, none] ⟨rfl, trivial⟩ ?_
              exact hK0 _ h
def P_X12_reads_J418    (Q : Int → St → Prop) (σ : St) : Prop :=
  P_X12_fails 1 σ (fun r_52 σ_51 => (r_52 = 0 ∨ r_52 = 1) ∧ Q r_52 σ_51)
set_option maxRecDepth 20000 in
set_option maxHeartbeats 2000000 in
theorem e_P_X12_reads_J418    {Q : Int → St → Prop} {σ : St}   (h : P_X12_reads_J418  Q σ) : E Y_X12_reads 2 0 0 (QI Q) ww 0 0 418 [some (vR 12 0), none, none, none, none, none] [] σ := by
  unfold P_X12_reads_J418 at h
  refine E_aload_n dX12_reads_418 rfl rfl ?_
  refine E_ic dX12_reads_419 rfl ?_
  refine E_callV (Y' := Y_X12_fails) (as := [vI 1]) (st := []) dX12_reads_420 lk_RX12_205 m_X12_fails (by decide) (Nat.le_refl _) (Nat.le_refl _) rfl rfl (Nat.le_of_ble_eq_true rfl) (s_X12_fails h) (fun r0 B0 σ_51 h => ?_)
  obtain ⟨r_52, rfl, rfl, h⟩ := h
  obtain ⟨hg0, h⟩ := h
  exact E_zret dX12_reads_423 rfl hg0 ⟨_, rfl, rfl, h⟩
def P_X12_reads_J399  (x1 : Int)  (Q : Int → St → Prop) (σ : St) : Prop :=
  (if x1 = 0 then P_X12_isSign 59 σ (fun r_54 σ_53 => (if r_54 = 0 then P_X12_reads_J418 Q σ_53 else P_X12_nextToken σ_53 (fun σ_55 => Q 1 σ_55))) else P_X12_reads_J418 Q σ)
set_option maxRecDepth 20000 in
set_option maxHeartbeats 2000000 in
theorem e_P_X12_reads_J399  {x1 : Int}  {Q : Int → St → Prop} {σ : St}   (h : P_X12_reads_J399 x1 Q σ) : E Y_X12_reads 2 0 0 (QI Q) ww 0 0 399 [some (vR 12 0), some (vI x1), none, none, none, none] [] σ := by
  unfold P_X12_reads_J399 at h
  refine E_iload_n dX12_reads_399 rfl rfl ?_
  refine E_if_ne (tgt := 418) dX12_reads_400 (by decide) (fun hc => ?_) (fun hc => ?_)
  · have h := Eq.mp (if_neg hc) h
    refine E_wk2 [some (vR 12 0), none, none, none, none, none] ⟨rfl, trivial⟩ ?_
    exact e_P_X12_reads_J418 h
  · have h := Eq.mp (if_pos hc) h
    refine E_aload_n dX12_reads_403 rfl rfl ?_
    refine E_bp dX12_reads_404 rfl ?_
    refine E_callV (Y' := Y_X12_isSign) (as := [vI 59]) (st := []) dX12_reads_406 lk_RX12_201 m_X12_isSign (by decide) (Nat.le_refl _) (Nat.le_refl _) rfl rfl (Nat.le_of_ble_eq_true rfl) (s_X12_isSign h) (fun r0 B0 σ_53 h => ?_)
    obtain ⟨r_54, rfl, rfl, h⟩ := h
    refine E_if_eq (tgt := 418) dX12_reads_409 (by decide) (fun hc => ?_) (fun hc => ?_)
    · have h := Eq.mp (if_pos hc) h
      refine E_wk2 [some (vR 12 0), none, none, none, none, none] ⟨rfl, trivial⟩ ?_
      exact e_P_X12_reads_J418 h
    · have h := Eq.mp (if_neg hc) h
      refine E_aload_n dX12_reads_412 rfl rfl ?_
      refine E_callV (Y' := Y_X12_nextToken) (as := []) (st := []) dX12_reads_413 lk_RX12_212 m_X12_nextToken (by decide) (Nat.le_refl _) (Nat.le_refl _) rfl rfl (Nat.le_of_ble_eq_true rfl) (s_X12_nextToken h) (fun r0 B0 σ_55 h => ?_)
      obtain ⟨rfl, rfl, h⟩ := h
      refine E_ic dX12_reads_416 rfl ?_
      exact E_zret dX12_reads_417 rfl (by decide) ⟨_, rfl, rfl, h⟩
def P_X12_reads   (σ : St) (Q : Int → St → Prop) : Prop :=
  P_X12_reads_L11 (fun σ_43 => P_X12_fails 1 σ_43 (fun r_45 σ_44 => (r_45 = 0 ∨ r_45 = 1) ∧ Q r_45 σ_44)) (fun σ_46 => P_X12_fails 5 σ_46 (fun r_48 σ_47 => (r_48 = 0 ∨ r_48 = 1) ∧ Q r_48 σ_47)) (fun x1_49 σ_50 => P_X12_reads_J399 x1_49 Q σ_50) Q FU 0 1 (up σ 1325 0 0 0)
set_option maxRecDepth 20000 in
set_option maxHeartbeats 2000000 in
theorem s_X12_reads    {σ : St} {Q : Int → St → Prop} (h : P_X12_reads  σ Q) : Cn Y_X12_reads 2 0 0 ww σ [vR 12 0] (QI Q) := by
  refine Cn_of [some (vR 12 0), none, none, none, none, none] (by decide) (Nat.le_of_ble_eq_true rfl) rfl ?_
  unfold P_X12_reads at h
  refine E_ic dX12_reads_0 rfl ?_
  refine E_istore_n (ls' := [some (vR 12 0), some (vI 0), none, none, none, none]) dX12_reads_1 rfl (by decide) rfl ?_
  refine E_ic dX12_reads_2 rfl ?_
  refine E_istore_n (ls' := [some (vR 12 0), some (vI 0), some (vI 1), none, none, none]) dX12_reads_3 rfl (by decide) rfl ?_
  refine E_aload_n dX12_reads_4 rfl rfl ?_
  refine E_getr (i := 0) dX12_reads_5 fl_RX12_53 rfl rfl (go_12_25 _ _) ?_
  refine E_ic dX12_reads_8 rfl ?_
  refine E_ic dX12_reads_9 rfl ?_
  refine E_zast dX12_reads_10 sh_1325 (by decide) (by decide) (by decide) ?_
  refine e_P_X12_reads_L11 ?_ ?_ ?_ _ _ _ _ h
  · intro σ_43 h
    refine E_aload_n dX12_reads_59 rfl rfl ?_
    refine E_ic dX12_reads_60 rfl ?_
    refine E_callV (Y' := Y_X12_fails) (as := [vI 1]) (st := []) dX12_reads_61 lk_RX12_205 m_X12_fails (by decide) (Nat.le_refl _) (Nat.le_refl _) rfl rfl (Nat.le_of_ble_eq_true rfl) (s_X12_fails h) (fun r0 B0 σ_44 h => ?_)
    obtain ⟨r_45, rfl, rfl, h⟩ := h
    obtain ⟨hg0, h⟩ := h
    exact E_zret dX12_reads_64 rfl hg0 ⟨_, rfl, rfl, h⟩
  · intro σ_46 h
    refine E_aload_n dX12_reads_70 rfl rfl ?_
    refine E_ic dX12_reads_71 rfl ?_
    refine E_callV (Y' := Y_X12_fails) (as := [vI 5]) (st := []) dX12_reads_72 lk_RX12_205 m_X12_fails (by decide) (Nat.le_refl _) (Nat.le_refl _) rfl rfl (Nat.le_of_ble_eq_true rfl) (s_X12_fails h) (fun r0 B0 σ_47 h => ?_)
    obtain ⟨r_48, rfl, rfl, h⟩ := h
    obtain ⟨hg0, h⟩ := h
    exact E_zret dX12_reads_75 rfl hg0 ⟨_, rfl, rfl, h⟩
  · intro x1_49 σ_50 h
    exact e_P_X12_reads_J399 h
