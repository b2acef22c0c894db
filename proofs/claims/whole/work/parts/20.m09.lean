abbrev Y_X12_doAllRest : My := (yX12_doAllRest, cX12_doAllRest, 2, some .boolean)
theorem dX12_doAllRest_0 : decode cX12_doAllRest 0 = .ok (.iconst 0, 1) := by decide +kernel
theorem dX12_doAllRest_1 : decode cX12_doAllRest 1 = .ok (.istore_n 1, 1) := by decide +kernel
theorem dX12_doAllRest_2 : decode cX12_doAllRest 2 = .ok (.iload_n 1, 1) := by decide +kernel
theorem dX12_doAllRest_3 : decode cX12_doAllRest 3 = .ok (.aload_n 0, 1) := by decide +kernel
theorem dX12_doAllRest_4 : decode cX12_doAllRest 4 = .ok (.getfield 13, 3) := by decide +kernel
theorem dX12_doAllRest_7 : decode cX12_doAllRest 7 = .ok (.iconst 1, 1) := by decide +kernel
theorem dX12_doAllRest_8 : decode cX12_doAllRest 8 = .ok (.iaload, 1) := by decide +kernel
theorem dX12_doAllRest_9 : decode cX12_doAllRest 9 = .ok (.if_icmp .ge 23, 3) := by decide +kernel
theorem dX12_doAllRest_12 : decode cX12_doAllRest 12 = .ok (.aload_n 0, 1) := by decide +kernel
theorem dX12_doAllRest_13 : decode cX12_doAllRest 13 = .ok (.getfield 111, 3) := by decide +kernel
theorem dX12_doAllRest_16 : decode cX12_doAllRest 16 = .ok (.bipush 22, 2) := by decide +kernel
theorem dX12_doAllRest_18 : decode cX12_doAllRest 18 = .ok (.iload_n 1, 1) := by decide +kernel
theorem dX12_doAllRest_19 : decode cX12_doAllRest 19 = .ok (.iadd, 1) := by decide +kernel
theorem dX12_doAllRest_20 : decode cX12_doAllRest 20 = .ok (.iaload, 1) := by decide +kernel
theorem dX12_doAllRest_21 : decode cX12_doAllRest 21 = .ok (.ifCond .eq 5, 3) := by decide +kernel
theorem dX12_doAllRest_24 : decode cX12_doAllRest 24 = .ok (.iconst 0, 1) := by decide +kernel
theorem dX12_doAllRest_25 : decode cX12_doAllRest 25 = .ok (.ireturn, 1) := by decide +kernel
theorem dX12_doAllRest_26 : decode cX12_doAllRest 26 = .ok (.iinc 1 1, 3) := by decide +kernel
theorem dX12_doAllRest_29 : decode cX12_doAllRest 29 = .ok (.goto (-27), 3) := by decide +kernel
theorem dX12_doAllRest_32 : decode cX12_doAllRest 32 = .ok (.iconst 1, 1) := by decide +kernel
theorem dX12_doAllRest_33 : decode cX12_doAllRest 33 = .ok (.ireturn, 1) := by decide +kernel
def P_X12_doAllRest_L2    (Q : Int → St → Prop) : Nat → Int → St → Prop
  | 0, _, _ => False
  | n + 1, x1, σ => (if (σ 1310 0 1) ≤ x1 then Q 1 σ else 0 ≤ wi (22 + x1) ∧ wi (22 + x1) < 46 ∧ (if (σ 1346 0 (wi (22 + x1))) = 0 then (P_X12_doAllRest_L2 Q n) (wi (x1 + 1)) σ else Q 0 σ))
set_option maxRecDepth 20000 in
set_option maxHeartbeats 2000000 in
theorem e_P_X12_doAllRest_L2    {Q : Int → St → Prop}   : ∀ (n : Nat) (x1 : Int) (σ : St), P_X12_doAllRest_L2 Q n x1 σ → E Y_X12_doAllRest 0 0 0 (QI Q) ww 0 0 2 [some (vR 12 0), some (vI x1)] [] σ := by
  intro n
  induction n with
  | zero => intro x1 σ h; exact h.elim
  | succ n hR =>
    intro x1 σ h
    unfold P_X12_doAllRest_L2 at h
    refine E_iload_n dX12_doAllRest_2 rfl rfl ?_
    refine E_aload_n dX12_doAllRest_3 rfl rfl ?_
    refine E_getr (i := 0) dX12_doAllRest_4 fl_RX12_13 rfl rfl (go_12_10 _ _) ?_
    refine E_ic dX12_doAllRest_7 rfl ?_
    refine E_iald dX12_doAllRest_8 sh_1310 (by decide) (by decide) ?_
    refine E_icmp_ge (tgt := 32) dX12_doAllRest_9 (by decide) (fun hc => ?_) (fun hc => ?_)
    · have h := Eq.mp (if_pos hc) h
      refine E_ic dX12_doAllRest_32 rfl ?_
      exact E_zret dX12_doAllRest_33 rfl (by decide) ⟨_, rfl, rfl, h⟩
    · have h := Eq.mp (if_neg hc) h
      refine E_aload_n dX12_doAllRest_12 rfl rfl ?_
      refine E_getr (i := 0) dX12_doAllRest_13 fl_RX12_111 rfl rfl (go_12_46 _ _) ?_
      refine E_bp dX12_doAllRest_16 rfl ?_
      refine E_iload_n dX12_doAllRest_18 rfl rfl ?_
      refine E_iadd dX12_doAllRest_19 ?_
      obtain ⟨hg0, hg1, h⟩ := h
      refine E_iald dX12_doAllRest_20 sh_1346 hg0 hg1 ?_
      refine E_if_eq (tgt := 26) dX12_doAllRest_21 (by decide) (fun hc => ?_) (fun hc => ?_)
      · have h := Eq.mp (if_pos hc) h
        refine E_iinc (ls' := [some (vR 12 0), some (vI (wi (x1 + 1)))]) dX12_doAllRest_26 rfl (by decide) rfl rfl ?_
        refine E_goto (tgt := 2) dX12_doAllRest_29 (by decide) ?_
        exact hR _ _ h
      · have h := Eq.mp (if_neg hc) h
        refine E_ic dX12_doAllRest_24 rfl ?_
        exact E_zret dX12_doAllRest_25 rfl (by decide) ⟨_, rfl, rfl, h⟩
def P_X12_doAllRest   (σ : St) (Q : Int → St → Prop) : Prop :=
  P_X12_doAllRest_L2 Q FU 0 σ
set_option maxRecDepth 20000 in
set_option maxHeartbeats 2000000 in
theorem s_X12_doAllRest    {σ : St} {Q : Int → St → Prop} (h : P_X12_doAllRest  σ Q) : Cn Y_X12_doAllRest 0 0 0 ww σ [vR 12 0] (QI Q) := by
  refine Cn_of [some (vR 12 0), none] (by decide) (Nat.le_of_ble_eq_true rfl) rfl ?_
  unfold P_X12_doAllRest at h
  refine E_ic dX12_doAllRest_0 rfl ?_
  refine E_istore_n (ls' := [some (vR 12 0), some (vI 0)]) dX12_doAllRest_1 rfl (by decide) rfl ?_
  refine e_P_X12_doAllRest_L2  _ _ _ h
abbrev Y_X12_dampOf : My := (yX12_dampOf, cX12_dampOf, 2, some .int)
theorem dX12_dampOf_0 : decode cX12_dampOf 0 = .ok (.aload_n 0, 1) := by decide +kernel
theorem dX12_dampOf_1 : decode cX12_dampOf 1 = .ok (.getfield 13, 3) := by decide +kernel
theorem dX12_dampOf_4 : decode cX12_dampOf 4 = .ok (.iconst 3, 1) := by decide +kernel
theorem dX12_dampOf_5 : decode cX12_dampOf 5 = .ok (.iaload, 1) := by decide +kernel
theorem dX12_dampOf_6 : decode cX12_dampOf 6 = .ok (.ifCond .ne 7, 3) := by decide +kernel
theorem dX12_dampOf_9 : decode cX12_dampOf 9 = .ok (.iconst 0, 1) := by decide +kernel
theorem dX12_dampOf_10 : decode cX12_dampOf 10 = .ok (.goto 16, 3) := by decide +kernel
theorem dX12_dampOf_13 : decode cX12_dampOf 13 = .ok (.aload_n 0, 1) := by decide +kernel
theorem dX12_dampOf_14 : decode cX12_dampOf 14 = .ok (.getfield 38, 3) := by decide +kernel
theorem dX12_dampOf_17 : decode cX12_dampOf 17 = .ok (.iload_n 1, 1) := by decide +kernel
theorem dX12_dampOf_18 : decode cX12_dampOf 18 = .ok (.aload_n 0, 1) := by decide +kernel
theorem dX12_dampOf_19 : decode cX12_dampOf 19 = .ok (.getfield 13, 3) := by decide +kernel
theorem dX12_dampOf_22 : decode cX12_dampOf 22 = .ok (.iconst 3, 1) := by decide +kernel
theorem dX12_dampOf_23 : decode cX12_dampOf 23 = .ok (.iaload, 1) := by decide +kernel
theorem dX12_dampOf_24 : decode cX12_dampOf 24 = .ok (.irem, 1) := by decide +kernel
theorem dX12_dampOf_25 : decode cX12_dampOf 25 = .ok (.iaload, 1) := by decide +kernel
theorem dX12_dampOf_26 : decode cX12_dampOf 26 = .ok (.ireturn, 1) := by decide +kernel
def P_X12_dampOf  (x1 : Int) (σ : St) (Q : Int → St → Prop) : Prop :=
  (if (σ 1310 0 3) = 0 then Q 0 σ else ¬ (σ 1310 0 3) = 0 ∧ 0 ≤ x1.tmod (σ 1310 0 3) ∧ x1.tmod (σ 1310 0 3) < 24 ∧ Q (σ 1318 0 (x1.tmod (σ 1310 0 3))) σ)
set_option maxRecDepth 20000 in
set_option maxHeartbeats 2000000 in
theorem s_X12_dampOf   {x1 : Int} {σ : St} {Q : Int → St → Prop} (h : P_X12_dampOf x1 σ Q) : Cn Y_X12_dampOf 0 0 0 ww σ [vR 12 0, vI x1] (QI Q) := by
  refine Cn_of [some (vR 12 0), some (vI x1)] (by decide) (Nat.le_of_ble_eq_true rfl) rfl ?_
  unfold P_X12_dampOf at h
  refine E_aload_n dX12_dampOf_0 rfl rfl ?_
  refine E_getr (i := 0) dX12_dampOf_1 fl_RX12_13 rfl rfl (go_12_10 _ _) ?_
  refine E_ic dX12_dampOf_4 rfl ?_
  refine E_iald dX12_dampOf_5 sh_1310 (by decide) (by decide) ?_
  refine E_if_ne (tgt := 13) dX12_dampOf_6 (by decide) (fun hc => ?_) (fun hc => ?_)
  · have h := Eq.mp (if_neg hc) h
    refine E_aload_n dX12_dampOf_13 rfl rfl ?_
    refine E_getr (i := 0) dX12_dampOf_14 fl_RX12_38 rfl rfl (go_12_18 _ _) ?_
    refine E_iload_n dX12_dampOf_17 rfl rfl ?_
    refine E_aload_n dX12_dampOf_18 rfl rfl ?_
    refine E_getr (i := 0) dX12_dampOf_19 fl_RX12_13 rfl rfl (go_12_10 _ _) ?_
    refine E_ic dX12_dampOf_22 rfl ?_
    refine E_iald dX12_dampOf_23 sh_1310 (by decide) (by decide) ?_
    obtain ⟨hg0, h⟩ := h
    refine E_irem dX12_dampOf_24 hg0 ?_
    obtain ⟨hg0, hg1, h⟩ := h
    refine E_iald dX12_dampOf_25 sh_1318 hg0 hg1 ?_
    exact E_iret dX12_dampOf_26 rfl ⟨_, rfl, rfl, h⟩
  · have h := Eq.mp (if_pos hc) h
    refine E_ic dX12_dampOf_9 rfl ?_
    refine E_goto (tgt := 26) dX12_dampOf_10 (by decide) ?_
    exact E_iret dX12_dampOf_26 rfl ⟨_, rfl, rfl, h⟩
abbrev Y_X12_wearOf : My := (yX12_wearOf, cX12_wearOf, 4, some .int)
theorem dX12_wearOf_0 : decode cX12_wearOf 0 = .ok (.aload_n 0, 1) := by decide +kernel
theorem dX12_wearOf_1 : decode cX12_wearOf 1 = .ok (.getfield 44, 3) := by decide +kernel
theorem dX12_wearOf_4 : decode cX12_wearOf 4 = .ok (.iconst 0, 1) := by decide +kernel
theorem dX12_wearOf_5 : decode cX12_wearOf 5 = .ok (.iaload, 1) := by decide +kernel
theorem dX12_wearOf_6 : decode cX12_wearOf 6 = .ok (.aload_n 0, 1) := by decide +kernel
theorem dX12_wearOf_7 : decode cX12_wearOf 7 = .ok (.getfield 41, 3) := by decide +kernel
theorem dX12_wearOf_10 : decode cX12_wearOf 10 = .ok (.iconst 0, 1) := by decide +kernel
theorem dX12_wearOf_11 : decode cX12_wearOf 11 = .ok (.iaload, 1) := by decide +kernel
theorem dX12_wearOf_12 : decode cX12_wearOf 12 = .ok (.if_icmp .ne 5, 3) := by decide +kernel
theorem dX12_wearOf_15 : decode cX12_wearOf 15 = .ok (.iconst 0, 1) := by decide +kernel
theorem dX12_wearOf_16 : decode cX12_wearOf 16 = .ok (.ireturn, 1) := by decide +kernel
theorem dX12_wearOf_17 : decode cX12_wearOf 17 = .ok (.aload_n 0, 1) := by decide +kernel
theorem dX12_wearOf_18 : decode cX12_wearOf 18 = .ok (.getfield 84, 3) := by decide +kernel
theorem dX12_wearOf_21 : decode cX12_wearOf 21 = .ok (.iconst 1, 1) := by decide +kernel
theorem dX12_wearOf_22 : decode cX12_wearOf 22 = .ok (.aload_n 0, 1) := by decide +kernel
theorem dX12_wearOf_23 : decode cX12_wearOf 23 = .ok (.getfield 111, 3) := by decide +kernel
theorem dX12_wearOf_26 : decode cX12_wearOf 26 = .ok (.bipush 16, 2) := by decide +kernel
theorem dX12_wearOf_28 : decode cX12_wearOf 28 = .ok (.iload_n 1, 1) := by decide +kernel
theorem dX12_wearOf_29 : decode cX12_wearOf 29 = .ok (.iadd, 1) := by decide +kernel
theorem dX12_wearOf_30 : decode cX12_wearOf 30 = .ok (.iaload, 1) := by decide +kernel
theorem dX12_wearOf_31 : decode cX12_wearOf 31 = .ok (.iastore, 1) := by decide +kernel
theorem dX12_wearOf_32 : decode cX12_wearOf 32 = .ok (.aload_n 0, 1) := by decide +kernel
theorem dX12_wearOf_33 : decode cX12_wearOf 33 = .ok (.getfield 84, 3) := by decide +kernel
theorem dX12_wearOf_36 : decode cX12_wearOf 36 = .ok (.iconst 2, 1) := by decide +kernel
theorem dX12_wearOf_37 : decode cX12_wearOf 37 = .ok (.aload_n 0, 1) := by decide +kernel
theorem dX12_wearOf_38 : decode cX12_wearOf 38 = .ok (.getfield 111, 3) := by decide +kernel
theorem dX12_wearOf_41 : decode cX12_wearOf 41 = .ok (.bipush 40, 2) := by decide +kernel
theorem dX12_wearOf_43 : decode cX12_wearOf 43 = .ok (.iload_n 1, 1) := by decide +kernel
theorem dX12_wearOf_44 : decode cX12_wearOf 44 = .ok (.iadd, 1) := by decide +kernel
theorem dX12_wearOf_45 : decode cX12_wearOf 45 = .ok (.iaload, 1) := by decide +kernel
theorem dX12_wearOf_46 : decode cX12_wearOf 46 = .ok (.iastore, 1) := by decide +kernel
theorem dX12_wearOf_47 : decode cX12_wearOf 47 = .ok (.aload_n 0, 1) := by decide +kernel
theorem dX12_wearOf_48 : decode cX12_wearOf 48 = .ok (.getfield 84, 3) := by decide +kernel
theorem dX12_wearOf_51 : decode cX12_wearOf 51 = .ok (.iconst 3, 1) := by decide +kernel
theorem dX12_wearOf_52 : decode cX12_wearOf 52 = .ok (.iload_n 2, 1) := by decide +kernel
theorem dX12_wearOf_53 : decode cX12_wearOf 53 = .ok (.iastore, 1) := by decide +kernel
theorem dX12_wearOf_54 : decode cX12_wearOf 54 = .ok (.aload_n 0, 1) := by decide +kernel
theorem dX12_wearOf_55 : decode cX12_wearOf 55 = .ok (.getfield 84, 3) := by decide +kernel
theorem dX12_wearOf_58 : decode cX12_wearOf 58 = .ok (.iconst 4, 1) := by decide +kernel
theorem dX12_wearOf_59 : decode cX12_wearOf 59 = .ok (.aload_n 0, 1) := by decide +kernel
theorem dX12_wearOf_60 : decode cX12_wearOf 60 = .ok (.getfield 111, 3) := by decide +kernel
theorem dX12_wearOf_63 : decode cX12_wearOf 63 = .ok (.iconst 0, 1) := by decide +kernel
theorem dX12_wearOf_64 : decode cX12_wearOf 64 = .ok (.iaload, 1) := by decide +kernel
theorem dX12_wearOf_65 : decode cX12_wearOf 65 = .ok (.iastore, 1) := by decide +kernel
theorem dX12_wearOf_66 : decode cX12_wearOf 66 = .ok (.aload_n 0, 1) := by decide +kernel
theorem dX12_wearOf_67 : decode cX12_wearOf 67 = .ok (.iconst 0, 1) := by decide +kernel
theorem dX12_wearOf_68 : decode cX12_wearOf 68 = .ok (.invokevirtual 372, 3) := by decide +kernel
theorem dX12_wearOf_71 : decode cX12_wearOf 71 = .ok (.bipush (-9), 2) := by decide +kernel
theorem dX12_wearOf_73 : decode cX12_wearOf 73 = .ok (.bipush 9, 2) := by decide +kernel
theorem dX12_wearOf_75 : decode cX12_wearOf 75 = .ok (.invokestatic 375, 3) := by decide +kernel
theorem dX12_wearOf_78 : decode cX12_wearOf 78 = .ok (.istore_n 3, 1) := by decide +kernel
theorem dX12_wearOf_79 : decode cX12_wearOf 79 = .ok (.aload_n 0, 1) := by decide +kernel
theorem dX12_wearOf_80 : decode cX12_wearOf 80 = .ok (.getfield 29, 3) := by decide +kernel
theorem dX12_wearOf_83 : decode cX12_wearOf 83 = .ok (.iload_n 1, 1) := by decide +kernel
theorem dX12_wearOf_84 : decode cX12_wearOf 84 = .ok (.iaload, 1) := by decide +kernel
theorem dX12_wearOf_85 : decode cX12_wearOf 85 = .ok (.iconst 1, 1) := by decide +kernel
theorem dX12_wearOf_86 : decode cX12_wearOf 86 = .ok (.if_icmp .ne 12, 3) := by decide +kernel
theorem dX12_wearOf_89 : decode cX12_wearOf 89 = .ok (.iload_n 3, 1) := by decide +kernel
theorem dX12_wearOf_90 : decode cX12_wearOf 90 = .ok (.iconst (-1), 1) := by decide +kernel
theorem dX12_wearOf_91 : decode cX12_wearOf 91 = .ok (.iconst 1, 1) := by decide +kernel
theorem dX12_wearOf_92 : decode cX12_wearOf 92 = .ok (.invokestatic 375, 3) := by decide +kernel
theorem dX12_wearOf_95 : decode cX12_wearOf 95 = .ok (.goto 20, 3) := by decide +kernel
theorem dX12_wearOf_98 : decode cX12_wearOf 98 = .ok (.aload_n 0, 1) := by decide +kernel
theorem dX12_wearOf_99 : decode cX12_wearOf 99 = .ok (.getfield 29, 3) := by decide +kernel
theorem dX12_wearOf_102 : decode cX12_wearOf 102 = .ok (.iload_n 1, 1) := by decide +kernel
theorem dX12_wearOf_103 : decode cX12_wearOf 103 = .ok (.iaload, 1) := by decide +kernel
theorem dX12_wearOf_104 : decode cX12_wearOf 104 = .ok (.iconst 2, 1) := by decide +kernel
theorem dX12_wearOf_105 : decode cX12_wearOf 105 = .ok (.if_icmp .ne 9, 3) := by decide +kernel
theorem dX12_wearOf_108 : decode cX12_wearOf 108 = .ok (.iconst 2, 1) := by decide +kernel
theorem dX12_wearOf_109 : decode cX12_wearOf 109 = .ok (.iload_n 3, 1) := by decide +kernel
theorem dX12_wearOf_110 : decode cX12_wearOf 110 = .ok (.imul, 1) := by decide +kernel
theorem dX12_wearOf_111 : decode cX12_wearOf 111 = .ok (.goto 4, 3) := by decide +kernel
theorem dX12_wearOf_114 : decode cX12_wearOf 114 = .ok (.iload_n 3, 1) := by decide +kernel
theorem dX12_wearOf_115 : decode cX12_wearOf 115 = .ok (.ireturn, 1) := by decide +kernel
theorem lk_RX12_372 : Cond.methodLink RX12 372 yX12_worked ∈ tG := inG (i := 1849) (by decide +kernel) (by decide +kernel)
theorem lk_RX12_375 : Cond.methodLink RX12 375 yX12_between ∈ tG := inG (i := 1865) (by decide +kernel) (by decide +kernel)
theorem m_X12_between : MS Y_X12_between 3 := ⟨⟨inG (i := 1867) (by decide +kernel) (by decide +kernel), inG (i := 110) (by decide +kernel) (by decide +kernel), by decide, by decide, by decide, by decide +kernel⟩, inG (i := 1866) (by decide +kernel) (by decide +kernel)⟩
theorem m_X12_worked : MV Y_X12_worked 1 12 := ⟨⟨inG (i := 1852) (by decide +kernel) (by decide +kernel), inG (i := 110) (by decide +kernel) (by decide +kernel), by decide, by decide, by decide, by decide +kernel⟩, inG (i := 1851) (by decide +kernel) (by decide +kernel), inG (i := 78) (by decide +kernel) (by decide +kernel), by decide⟩
def P_X12_wearOf  (x1 : Int) (x2 : Int) (σ : St) (Q : Int → St → Prop) : Prop :=
  (if (σ 1320 0 0) = (σ 1319 0 0) then Q 0 σ else 0 ≤ wi (16 + x1) ∧ wi (16 + x1) < 46 ∧ 0 ≤ wi (40 + x1) ∧ wi (40 + x1) < 46 ∧ P_X12_worked 0 (up (up (up (up σ 1335 0 1 (σ 1346 0 (wi (16 + x1)))) 1335 0 2 ((up σ 1335 0 1 (σ 1346 0 (wi (16 + x1)))) 1346 0 (wi (40 + x1)))) 1335 0 3 x2) 1335 0 4 ((up (up (up σ 1335 0 1 (σ 1346 0 (wi (16 + x1)))) 1335 0 2 ((up σ 1335 0 1 (σ 1346 0 (wi (16 + x1)))) 1346 0 (wi (40 + x1)))) 1335 0 3 x2) 1346 0 0)) (fun r_2 σ_1 => P_X12_between r_2 (-9) 9 σ_1 (fun r_4 σ_3 => 0 ≤ x1 ∧ x1 < 12 ∧ (if (σ_3 1315 0 x1) = 1 then P_X12_between r_4 (-1) 1 σ_3 (fun r_6 σ_5 => Q r_6 σ_5) else 0 ≤ x1 ∧ x1 < 12 ∧ (if (σ_3 1315 0 x1) = 2 then Q (wi (2 * r_4)) σ_3 else Q r_4 σ_3)))))
set_option maxRecDepth 20000 in
set_option maxHeartbeats 2000000 in
theorem s_X12_wearOf   {x1 : Int} {x2 : Int} {σ : St} {Q : Int → St → Prop} (h : P_X12_wearOf x1 x2 σ Q) : Cn Y_X12_wearOf 3 0 0 ww σ [vR 12 0, vI x1, vI x2] (QI Q) := by
  refine Cn_of [some (vR 12 0), some (vI x1), some (vI x2), none] (by decide) (Nat.le_of_ble_eq_true rfl) rfl ?_
  unfold P_X12_wearOf at h
  refine E_aload_n dX12_wearOf_0 rfl rfl ?_
  refine E_getr (i := 0) dX12_wearOf_1 fl_RX12_44 rfl rfl (go_12_20 _ _) ?_
  refine E_ic dX12_wearOf_4 rfl ?_
  refine E_iald dX12_wearOf_5 sh_1320 (by decide) (by decide) ?_
  refine E_aload_n dX12_wearOf_6 rfl rfl ?_
  refine E_getr (i := 0) dX12_wearOf_7 fl_RX12_41 rfl rfl (go_12_19 _ _) ?_
  refine E_ic dX12_wearOf_10 rfl ?_
  refine E_iald dX12_wearOf_11 sh_1319 (by decide) (by decide) ?_
  refine E_icmp_ne (tgt := 17) dX12_wearOf_12 (by decide) (fun hc => ?_) (fun hc => ?_)
  · have h := Eq.mp (if_neg hc) h
    refine E_aload_n dX12_wearOf_17 rfl rfl ?_
    refine E_getr (i := 0) dX12_wearOf_18 fl_RX12_84 rfl rfl (go_12_35 _ _) ?_
    refine E_ic dX12_wearOf_21 rfl ?_
    refine E_aload_n dX12_wearOf_22 rfl rfl ?_
    refine E_getr (i := 0) dX12_wearOf_23 fl_RX12_111 rfl rfl (go_12_46 _ _) ?_
    refine E_bp dX12_wearOf_26 rfl ?_
    refine E_iload_n dX12_wearOf_28 rfl rfl ?_
    refine E_iadd dX12_wearOf_29 ?_
    obtain ⟨hg0, hg1, h⟩ := h
    refine E_iald dX12_wearOf_30 sh_1346 hg0 hg1 ?_
    refine E_iast dX12_wearOf_31 sh_1335 (by decide) (by decide) ?_
    refine E_aload_n dX12_wearOf_32 rfl rfl ?_
    refine E_getr (i := 0) dX12_wearOf_33 fl_RX12_84 rfl rfl (go_12_35 _ _) ?_
    refine E_ic dX12_wearOf_36 rfl ?_
    refine E_aload_n dX12_wearOf_37 rfl rfl ?_
    refine E_getr (i := 0) dX12_wearOf_38 fl_RX12_111 rfl rfl (go_12_46 _ _) ?_
    refine E_bp dX12_wearOf_41 rfl ?_
    refine E_iload_n dX12_wearOf_43 rfl rfl ?_
    refine E_iadd dX12_wearOf_44 ?_
    obtain ⟨hg0, hg1, h⟩ := h
    refine E_iald dX12_wearOf_45 sh_1346 hg0 hg1 ?_
    refine E_iast dX12_wearOf_46 sh_1335 (by decide) (by decide) ?_
    refine E_aload_n dX12_wearOf_47 rfl rfl ?_
    refine E_getr (i := 0) dX12_wearOf_48 fl_RX12_84 rfl rfl (go_12_35 _ _) ?_
    refine E_ic dX12_wearOf_51 rfl ?_
    refine E_iload_n dX12_wearOf_52 rfl rfl ?_
    refine E_iast dX12_wearOf_53 sh_1335 (by decide) (by decide) ?_
    refine E_aload_n dX12_wearOf_54 rfl rfl ?_
    refine E_getr (i := 0) dX12_wearOf_55 fl_RX12_84 rfl rfl (go_12_35 _ _) ?_
    refine E_ic dX12_wearOf_58 rfl ?_
    refine E_aload_n dX12_wearOf_59 rfl rfl ?_
    refine E_getr (i := 0) dX12_wearOf_60 fl_RX12_111 rfl rfl (go_12_46 _ _) ?_
    refine E_ic dX12_wearOf_63 rfl ?_
    refine E_iald dX12_wearOf_64 sh_1346 (by decide) (by decide) ?_
    refine E_iast dX12_wearOf_65 sh_1335 (by decide) (by decide) ?_
    refine E_aload_n dX12_wearOf_66 rfl rfl ?_
    refine E_ic dX12_wearOf_67 rfl ?_
    refine E_callV (Y' := Y_X12_worked) (as := [vI 0]) (st := []) dX12_wearOf_68 lk_RX12_372 m_X12_worked (by decide) (Nat.le_refl _) (Nat.le_refl _) rfl rfl (Nat.le_of_ble_eq_true rfl) (s_X12_worked h) (fun r0 B0 σ_1 h => ?_)
    obtain ⟨r_2, rfl, rfl, h⟩ := h
    refine E_bp dX12_wearOf_71 rfl ?_
    refine E_bp dX12_wearOf_73 rfl ?_
    refine E_callS (Y' := Y_X12_between) (as := [vI r_2, vI (-9), vI 9]) (st := []) dX12_wearOf_75 lk_RX12_375 m_X12_between (by decide) (Nat.le_refl _) (Nat.le_refl _) rfl rfl (Nat.le_of_ble_eq_true rfl) (s_X12_between h) (fun r0 B0 σ_3 h => ?_)
    obtain ⟨r_4, rfl, rfl, h⟩ := h
    refine E_istore_n (ls' := [some (vR 12 0), some (vI x1), some (vI x2), some (vI r_4)]) dX12_wearOf_78 rfl (by decide) rfl ?_
    refine E_aload_n dX12_wearOf_79 rfl rfl ?_
    refine E_getr (i := 0) dX12_wearOf_80 fl_RX12_29 rfl rfl (go_12_15 _ _) ?_
    refine E_iload_n dX12_wearOf_83 rfl rfl ?_
    obtain ⟨hg0, hg1, h⟩ := h
    refine E_iald dX12_wearOf_84 sh_1315 hg0 hg1 ?_
    refine E_ic dX12_wearOf_85 rfl ?_
    refine E_icmp_ne (tgt := 98) dX12_wearOf_86 (by decide) (fun hc => ?_) (fun hc => ?_)
    · have h := Eq.mp (if_neg hc) h
      refine E_aload_n dX12_wearOf_98 rfl rfl ?_
      refine E_getr (i := 0) dX12_wearOf_99 fl_RX12_29 rfl rfl (go_12_15 _ _) ?_
      refine E_iload_n dX12_wearOf_102 rfl rfl ?_
      obtain ⟨hg0, hg1, h⟩ := h
      refine E_iald dX12_wearOf_103 sh_1315 hg0 hg1 ?_
      refine E_ic dX12_wearOf_104 rfl ?_
      refine E_icmp_ne (tgt := 114) dX12_wearOf_105 (by decide) (fun hc => ?_) (fun hc => ?_)
      · have h := Eq.mp (if_neg hc) h
        refine E_iload_n dX12_wearOf_114 rfl rfl ?_
        exact E_iret dX12_wearOf_115 rfl ⟨_, rfl, rfl, h⟩
      · have h := Eq.mp (if_pos hc) h
        refine E_ic dX12_wearOf_108 rfl ?_
        refine E_iload_n dX12_wearOf_109 rfl rfl ?_
        refine E_imul dX12_wearOf_110 ?_
        refine E_goto (tgt := 115) dX12_wearOf_111 (by decide) ?_
        exact E_iret dX12_wearOf_115 rfl ⟨_, rfl, rfl, h⟩
    · have h := Eq.mp (if_pos hc) h
      refine E_iload_n dX12_wearOf_89 rfl rfl ?_
      refine E_ic dX12_wearOf_90 rfl ?_
      refine E_ic dX12_wearOf_91 rfl ?_
      refine E_callS (Y' := Y_X12_between) (as := [vI r_4, vI (-1), vI 1]) (st := []) dX12_wearOf_92 lk_RX12_375 m_X12_between (by decide) (Nat.le_refl _) (Nat.le_refl _) rfl rfl (Nat.le_of_ble_eq_true rfl) (s_X12_between h) (fun r0 B0 σ_5 h => ?_)
      obtain ⟨r_6, rfl, rfl, h⟩ := h
      refine E_goto (tgt := 115) dX12_wearOf_95 (by decide) ?_
      exact E_iret dX12_wearOf_115 rfl ⟨_, rfl, rfl, h⟩
  · have h := Eq.mp (if_pos hc) h
    refine E_ic dX12_wearOf_15 rfl ?_
    exact E_iret dX12_wearOf_16 rfl ⟨_, rfl, rfl, h⟩
abbrev Y_X12_astrayOf : My := (yX12_astrayOf, cX12_astrayOf, 4, some .int)
theorem dX12_astrayOf_0 : decode cX12_astrayOf 0 = .ok (.iconst 0, 1) := by decide +kernel
theorem dX12_astrayOf_1 : decode cX12_astrayOf 1 = .ok (.istore_n 2, 1) := by decide +kernel
theorem dX12_astrayOf_2 : decode cX12_astrayOf 2 = .ok (.iconst 0, 1) := by decide +kernel
theorem dX12_astrayOf_3 : decode cX12_astrayOf 3 = .ok (.istore_n 3, 1) := by decide +kernel
theorem dX12_astrayOf_4 : decode cX12_astrayOf 4 = .ok (.iload_n 3, 1) := by decide +kernel
theorem dX12_astrayOf_5 : decode cX12_astrayOf 5 = .ok (.aload_n 0, 1) := by decide +kernel
theorem dX12_astrayOf_6 : decode cX12_astrayOf 6 = .ok (.getfield 13, 3) := by decide +kernel
theorem dX12_astrayOf_9 : decode cX12_astrayOf 9 = .ok (.iconst 1, 1) := by decide +kernel
theorem dX12_astrayOf_10 : decode cX12_astrayOf 10 = .ok (.iaload, 1) := by decide +kernel
theorem dX12_astrayOf_11 : decode cX12_astrayOf 11 = .ok (.if_icmp .ge 46, 3) := by decide +kernel
theorem dX12_astrayOf_14 : decode cX12_astrayOf 14 = .ok (.iload_n 2, 1) := by decide +kernel
theorem dX12_astrayOf_15 : decode cX12_astrayOf 15 = .ok (.iload_n 1, 1) := by decide +kernel
theorem dX12_astrayOf_16 : decode cX12_astrayOf 16 = .ok (.iload_n 3, 1) := by decide +kernel
theorem dX12_astrayOf_17 : decode cX12_astrayOf 17 = .ok (.ishr, 1) := by decide +kernel
theorem dX12_astrayOf_18 : decode cX12_astrayOf 18 = .ok (.iconst 1, 1) := by decide +kernel
theorem dX12_astrayOf_19 : decode cX12_astrayOf 19 = .ok (.iand, 1) := by decide +kernel
theorem dX12_astrayOf_20 : decode cX12_astrayOf 20 = .ok (.iconst 1, 1) := by decide +kernel
theorem dX12_astrayOf_21 : decode cX12_astrayOf 21 = .ok (.if_icmp .ne 27, 3) := by decide +kernel
theorem dX12_astrayOf_24 : decode cX12_astrayOf 24 = .ok (.aload_n 0, 1) := by decide +kernel
theorem dX12_astrayOf_25 : decode cX12_astrayOf 25 = .ok (.getfield 111, 3) := by decide +kernel
theorem dX12_astrayOf_28 : decode cX12_astrayOf 28 = .ok (.bipush 28, 2) := by decide +kernel
theorem dX12_astrayOf_30 : decode cX12_astrayOf 30 = .ok (.iload_n 3, 1) := by decide +kernel
theorem dX12_astrayOf_31 : decode cX12_astrayOf 31 = .ok (.iadd, 1) := by decide +kernel
theorem dX12_astrayOf_32 : decode cX12_astrayOf 32 = .ok (.iaload, 1) := by decide +kernel
theorem dX12_astrayOf_33 : decode cX12_astrayOf 33 = .ok (.aload_n 0, 1) := by decide +kernel
theorem dX12_astrayOf_34 : decode cX12_astrayOf 34 = .ok (.getfield 35, 3) := by decide +kernel
theorem dX12_astrayOf_37 : decode cX12_astrayOf 37 = .ok (.iload_n 3, 1) := by decide +kernel
theorem dX12_astrayOf_38 : decode cX12_astrayOf 38 = .ok (.iaload, 1) := by decide +kernel
theorem dX12_astrayOf_39 : decode cX12_astrayOf 39 = .ok (.if_icmp .eq 9, 3) := by decide +kernel
theorem dX12_astrayOf_42 : decode cX12_astrayOf 42 = .ok (.iconst 1, 1) := by decide +kernel
theorem dX12_astrayOf_43 : decode cX12_astrayOf 43 = .ok (.iload_n 3, 1) := by decide +kernel
theorem dX12_astrayOf_44 : decode cX12_astrayOf 44 = .ok (.ishl, 1) := by decide +kernel
theorem dX12_astrayOf_45 : decode cX12_astrayOf 45 = .ok (.goto 4, 3) := by decide +kernel
theorem dX12_astrayOf_48 : decode cX12_astrayOf 48 = .ok (.iconst 0, 1) := by decide +kernel
theorem dX12_astrayOf_49 : decode cX12_astrayOf 49 = .ok (.ior, 1) := by decide +kernel
theorem dX12_astrayOf_50 : decode cX12_astrayOf 50 = .ok (.istore_n 2, 1) := by decide +kernel
theorem dX12_astrayOf_51 : decode cX12_astrayOf 51 = .ok (.iinc 3 1, 3) := by decide +kernel
theorem dX12_astrayOf_54 : decode cX12_astrayOf 54 = .ok (.goto (-50), 3) := by decide +kernel
theorem dX12_astrayOf_57 : decode cX12_astrayOf 57 = .ok (.iload_n 2, 1) := by decide +kernel
theorem dX12_astrayOf_58 : decode cX12_astrayOf 58 = .ok (.ireturn, 1) := by decide +kernel
def P_X12_astrayOf_J48  (x1 : Int) (x3 : Int) (y0 : Int) (R : Int → Int → St → Prop) (Q : Int → St → Prop) (σ : St) : Prop :=
  R (bO y0 0) (wi (x3 + 1)) σ
set_option maxRecDepth 20000 in
set_option maxHeartbeats 2000000 in
theorem e_P_X12_astrayOf_J48  {x1 : Int} {x3 : Int} {y0 : Int} {R : Int → Int → St → Prop} {Q : Int → St → Prop} {σ : St}  (hR : ∀ x2 x3 σ, R x2 x3 σ → E Y_X12_astrayOf 0 0 0 (QI Q) ww 0 0 4 [some (vR 12 0), some (vI x1), some (vI x2), some (vI x3)] [] σ) (h : P_X12_astrayOf_J48 x1 x3 y0 R Q σ) : E Y_X12_astrayOf 0 0 0 (QI Q) ww 0 0 48 [some (vR 12 0), some (vI x1), none, some (vI x3)] [vI y0] σ := by
  unfold P_X12_astrayOf_J48 at h
  refine E_ic dX12_astrayOf_48 rfl ?_
  refine E_ior dX12_astrayOf_49 ?_
  refine E_istore_n (ls' := [some (vR 12 0), some (vI x1), some (vI (bO y0 0)), some (vI x3)]) dX12_astrayOf_50 rfl (by decide) rfl ?_
  refine E_iinc (ls' := [some (vR 12 0), some (vI x1), some (vI (bO y0 0)), some (vI (wi (x3 + 1)))]) dX12_astrayOf_51 rfl (by decide) rfl rfl ?_
  refine E_goto (tgt := 4) dX12_astrayOf_54 (by decide) ?_
  exact hR _ _ _ h
def P_X12_astrayOf_L4  (x1 : Int)  (Q : Int → St → Prop) : Nat → Int → Int → St → Prop
  | 0, _, _, _ => False
  | n + 1, x2, x3, σ => (if (σ 1310 0 1) ≤ x3 then Q x2 σ else (if (bA (bR x1 x3) 1) = 1 then 0 ≤ wi (28 + x3) ∧ wi (28 + x3) < 46 ∧ 0 ≤ x3 ∧ x3 < 12 ∧ (if (σ 1346 0 (wi (28 + x3))) = (σ 1317 0 x3) then P_X12_astrayOf_J48 x1 x3 x2 (P_X12_astrayOf_L4 x1 Q n) Q σ else (P_X12_astrayOf_L4 x1 Q n) (bO x2 (bL 1 x3)) (wi (x3 + 1)) σ) else P_X12_astrayOf_J48 x1 x3 x2 (P_X12_astrayOf_L4 x1 Q n) Q σ))
set_option maxRecDepth 20000 in
set_option maxHeartbeats 2000000 in
theorem e_P_X12_astrayOf_L4  {x1 : Int}  {Q : Int → St → Prop}   : ∀ (n : Nat) (x2 : Int) (x3 : Int) (σ : St), P_X12_astrayOf_L4 x1 Q n x2 x3 σ → E Y_X12_astrayOf 0 0 0 (QI Q) ww 0 0 4 [some (vR 12 0), some (vI x1), some (vI x2), some (vI x3)] [] σ := by
  intro n
  induction n with
  | zero => intro x2 x3 σ h; exact h.elim
  | succ n hR =>
    intro x2 x3 σ h
    unfold P_X12_astrayOf_L4 at h
    refine E_iload_n dX12_astrayOf_4 rfl rfl ?_
    refine E_aload_n dX12_astrayOf_5 rfl rfl ?_
    refine E_getr (i := 0) dX12_astrayOf_6 fl_RX12_13 rfl rfl (go_12_10 _ _) ?_
    refine E_ic dX12_astrayOf_9 rfl ?_
    refine E_iald dX12_astrayOf_10 sh_1310 (by decide) (by decide) ?_
    refine E_icmp_ge (tgt := 57) dX12_astrayOf_11 (by decide) (fun hc => ?_) (fun hc => ?_)
    · have h := Eq.mp (if_pos hc) h
      refine E_iload_n dX12_astrayOf_57 rfl rfl ?_
      exact E_iret dX12_astrayOf_58 rfl ⟨_, rfl, rfl, h⟩
    · have h := Eq.mp (if_neg hc) h
      refine E_iload_n dX12_astrayOf_14 rfl rfl ?_
      refine E_iload_n dX12_astrayOf_15 rfl rfl ?_
      refine E_iload_n dX12_astrayOf_16 rfl rfl ?_
      refine E_ishr dX12_astrayOf_17 ?_
      refine E_ic dX12_astrayOf_18 rfl ?_
      refine E_iand dX12_astrayOf_19 ?_
      refine E_ic dX12_astrayOf_20 rfl ?_
      refine E_icmp_ne (tgt := 48) dX12_astrayOf_21 (by decide) (fun hc => ?_) (fun hc => ?_)
      · have h := Eq.mp (if_neg hc) h
        refine E_wk2 [some (vR 12 0), some (vI x1), none, some (vI x3)] ⟨rfl, ⟨rfl, ⟨rfl, trivial⟩⟩⟩ ?_
        exact e_P_X12_astrayOf_J48 hR h
      · have h := Eq.mp (if_pos hc) h
        refine E_aload_n dX12_astrayOf_24 rfl rfl ?_
        refine E_getr (i := 0) dX12_astrayOf_25 fl_RX12_111 rfl rfl (go_12_46 _ _) ?_
        refine E_bp dX12_astrayOf_28 rfl ?_
        refine E_iload_n dX12_astrayOf_30 rfl rfl ?_
        refine E_iadd dX12_astrayOf_31 ?_
        obtain ⟨hg0, hg1, h⟩ := h
        refine E_iald dX12_astrayOf_32 sh_1346 hg0 hg1 ?_
        refine E_aload_n dX12_astrayOf_33 rfl rfl ?_
        refine E_getr (i := 0) dX12_astrayOf_34 fl_RX12_35 rfl rfl (go_12_17 _ _) ?_
        refine E_iload_n dX12_astrayOf_37 rfl rfl ?_
        obtain ⟨hg0, hg1, h⟩ := h
        refine E_iald dX12_astrayOf_38 sh_1317 hg0 hg1 ?_
        refine E_icmp_eq (tgt := 48) dX12_astrayOf_39 (by decide) (fun hc => ?_) (fun hc => ?_)
        · have h := Eq.mp (if_pos hc) h
          refine E_wk2 [some (vR 12 0), some (vI x1), none, some (vI x3)] ⟨rfl, ⟨rfl, ⟨rfl, trivial⟩⟩⟩ ?_
          exact e_P_X12_astrayOf_J48 hR h
        · have h := Eq.mp (if_neg hc) h
          refine E_ic dX12_astrayOf_42 rfl ?_
          refine E_iload_n dX12_astrayOf_43 rfl rfl ?_
          refine E_ishl dX12_astrayOf_44 ?_
          refine E_goto (tgt := 49) dX12_astrayOf_45 (by decide) ?_
          refine E_ior dX12_astrayOf_49 ?_
          refine E_istore_n (ls' := [some (vR 12 0), some (vI x1), some (vI (bO x2 (bL 1 x3))), some (vI x3)]) dX12_astrayOf_50 rfl (by decide) rfl ?_
          refine E_iinc (ls' := [some (vR 12 0), some (vI x1), some (vI (bO x2 (bL 1 x3))), some (vI (wi (x3 + 1)))]) dX12_astrayOf_51 rfl (by decide) rfl rfl ?_
          refine E_goto (tgt := 4) dX12_astrayOf_54 (by decide) ?_
          exact hR _ _ _ h
def P_X12_astrayOf  (x1 : Int) (σ : St) (Q : Int → St → Prop) : Prop :=
  P_X12_astrayOf_L4 x1 Q FU 0 0 σ
set_option maxRecDepth 20000 in
set_option maxHeartbeats 2000000 in
theorem s_X12_astrayOf   {x1 : Int} {σ : St} {Q : Int → St → Prop} (h : P_X12_astrayOf x1 σ Q) : Cn Y_X12_astrayOf 0 0 0 ww σ [vR 12 0, vI x1] (QI Q) := by
  refine Cn_of [some (vR 12 0), some (vI x1), none, none] (by decide) (Nat.le_of_ble_eq_true rfl) rfl ?_
  unfold P_X12_astrayOf at h
  refine E_ic dX12_astrayOf_0 rfl ?_
  refine E_istore_n (ls' := [some (vR 12 0), some (vI x1), some (vI 0), none]) dX12_astrayOf_1 rfl (by decide) rfl ?_
  refine E_ic dX12_astrayOf_2 rfl ?_
  refine E_istore_n (ls' := [some (vR 12 0), some (vI x1), some (vI 0), some (vI 0)]) dX12_astrayOf_3 rfl (by decide) rfl ?_
  refine e_P_X12_astrayOf_L4  _ _ _ _ h
abbrev Y_X12_ends : My := (yX12_ends, cX12_ends, 4, some .int)
theorem dX12_ends_0 : decode cX12_ends 0 = .ok (.iconst 0, 1) := by decide +kernel
theorem dX12_ends_1 : decode cX12_ends 1 = .ok (.istore_n 2, 1) := by decide +kernel
theorem dX12_ends_2 : decode cX12_ends 2 = .ok (.aload_n 0, 1) := by decide +kernel
theorem dX12_ends_3 : decode cX12_ends 3 = .ok (.invokevirtual 379, 3) := by decide +kernel
theorem dX12_ends_6 : decode cX12_ends 6 = .ok (.ifCond .ne 29, 3) := by decide +kernel
theorem dX12_ends_9 : decode cX12_ends 9 = .ok (.aload_n 0, 1) := by decide +kernel
theorem dX12_ends_10 : decode cX12_ends 10 = .ok (.dup, 1) := by decide +kernel
theorem dX12_ends_11 : decode cX12_ends 11 = .ok (.getfield 382, 3) := by decide +kernel
theorem dX12_ends_14 : decode cX12_ends 14 = .ok (.aload_n 0, 1) := by decide +kernel
theorem dX12_ends_15 : decode cX12_ends 15 = .ok (.aload_n 0, 1) := by decide +kernel
theorem dX12_ends_16 : decode cX12_ends 16 = .ok (.invokevirtual 385, 3) := by decide +kernel
theorem dX12_ends_19 : decode cX12_ends 19 = .ok (.invokevirtual 388, 3) := by decide +kernel
theorem dX12_ends_22 : decode cX12_ends 22 = .ok (.invokestatic 391, 3) := by decide +kernel
theorem dX12_ends_25 : decode cX12_ends 25 = .ok (.iadd, 1) := by decide +kernel
theorem dX12_ends_26 : decode cX12_ends 26 = .ok (.putfield 382, 3) := by decide +kernel
theorem dX12_ends_29 : decode cX12_ends 29 = .ok (.iinc 2 1, 3) := by decide +kernel
theorem dX12_ends_32 : decode cX12_ends 32 = .ok (.goto (-30), 3) := by decide +kernel
theorem dX12_ends_35 : decode cX12_ends 35 = .ok (.iconst 0, 1) := by decide +kernel
theorem dX12_ends_36 : decode cX12_ends 36 = .ok (.istore_n 3, 1) := by decide +kernel
theorem dX12_ends_37 : decode cX12_ends 37 = .ok (.iload_n 3, 1) := by decide +kernel
theorem dX12_ends_38 : decode cX12_ends 38 = .ok (.aload_n 0, 1) := by decide +kernel
theorem dX12_ends_39 : decode cX12_ends 39 = .ok (.getfield 13, 3) := by decide +kernel
theorem dX12_ends_42 : decode cX12_ends 42 = .ok (.iconst 1, 1) := by decide +kernel
theorem dX12_ends_43 : decode cX12_ends 43 = .ok (.iaload, 1) := by decide +kernel
theorem dX12_ends_44 : decode cX12_ends 44 = .ok (.if_icmp .ge 50, 3) := by decide +kernel
theorem dX12_ends_47 : decode cX12_ends 47 = .ok (.aload_n 0, 1) := by decide +kernel
theorem dX12_ends_48 : decode cX12_ends 48 = .ok (.getfield 111, 3) := by decide +kernel
theorem dX12_ends_51 : decode cX12_ends 51 = .ok (.bipush 16, 2) := by decide +kernel
theorem dX12_ends_53 : decode cX12_ends 53 = .ok (.iload_n 3, 1) := by decide +kernel
theorem dX12_ends_54 : decode cX12_ends 54 = .ok (.iadd, 1) := by decide +kernel
theorem dX12_ends_55 : decode cX12_ends 55 = .ok (.aload_n 0, 1) := by decide +kernel
theorem dX12_ends_56 : decode cX12_ends 56 = .ok (.getfield 111, 3) := by decide +kernel
theorem dX12_ends_59 : decode cX12_ends 59 = .ok (.bipush 16, 2) := by decide +kernel
theorem dX12_ends_61 : decode cX12_ends 61 = .ok (.iload_n 3, 1) := by decide +kernel
theorem dX12_ends_62 : decode cX12_ends 62 = .ok (.iadd, 1) := by decide +kernel
theorem dX12_ends_63 : decode cX12_ends 63 = .ok (.iaload, 1) := by decide +kernel
theorem dX12_ends_64 : decode cX12_ends 64 = .ok (.aload_n 0, 1) := by decide +kernel
theorem dX12_ends_65 : decode cX12_ends 65 = .ok (.iload_n 3, 1) := by decide +kernel
theorem dX12_ends_66 : decode cX12_ends 66 = .ok (.iload_n 1, 1) := by decide +kernel
theorem dX12_ends_67 : decode cX12_ends 67 = .ok (.invokevirtual 394, 3) := by decide +kernel
theorem dX12_ends_70 : decode cX12_ends 70 = .ok (.isub, 1) := by decide +kernel
theorem dX12_ends_71 : decode cX12_ends 71 = .ok (.iconst 1, 1) := by decide +kernel
theorem dX12_ends_72 : decode cX12_ends 72 = .ok (.bipush 60, 2) := by decide +kernel
theorem dX12_ends_74 : decode cX12_ends 74 = .ok (.invokestatic 375, 3) := by decide +kernel
theorem dX12_ends_77 : decode cX12_ends 77 = .ok (.iastore, 1) := by decide +kernel
theorem dX12_ends_78 : decode cX12_ends 78 = .ok (.aload_n 0, 1) := by decide +kernel
theorem dX12_ends_79 : decode cX12_ends 79 = .ok (.getfield 111, 3) := by decide +kernel
theorem dX12_ends_82 : decode cX12_ends 82 = .ok (.bipush 40, 2) := by decide +kernel
theorem dX12_ends_84 : decode cX12_ends 84 = .ok (.iload_n 3, 1) := by decide +kernel
theorem dX12_ends_85 : decode cX12_ends 85 = .ok (.iadd, 1) := by decide +kernel
theorem dX12_ends_86 : decode cX12_ends 86 = .ok (.iconst 0, 1) := by decide +kernel
theorem dX12_ends_87 : decode cX12_ends 87 = .ok (.iastore, 1) := by decide +kernel
theorem dX12_ends_88 : decode cX12_ends 88 = .ok (.iinc 3 1, 3) := by decide +kernel
theorem dX12_ends_91 : decode cX12_ends 91 = .ok (.goto (-54), 3) := by decide +kernel
theorem dX12_ends_94 : decode cX12_ends 94 = .ok (.aload_n 0, 1) := by decide +kernel
theorem dX12_ends_95 : decode cX12_ends 95 = .ok (.getfield 111, 3) := by decide +kernel
theorem dX12_ends_98 : decode cX12_ends 98 = .ok (.iconst 0, 1) := by decide +kernel
theorem dX12_ends_99 : decode cX12_ends 99 = .ok (.dup2, 1) := by decide +kernel
theorem dX12_ends_100 : decode cX12_ends 100 = .ok (.iaload, 1) := by decide +kernel
theorem dX12_ends_101 : decode cX12_ends 101 = .ok (.iconst 1, 1) := by decide +kernel
theorem dX12_ends_102 : decode cX12_ends 102 = .ok (.iadd, 1) := by decide +kernel
theorem dX12_ends_103 : decode cX12_ends 103 = .ok (.iastore, 1) := by decide +kernel
theorem dX12_ends_104 : decode cX12_ends 104 = .ok (.aload_n 0, 1) := by decide +kernel
theorem dX12_ends_105 : decode cX12_ends 105 = .ok (.getfield 111, 3) := by decide +kernel
theorem dX12_ends_108 : decode cX12_ends 108 = .ok (.iconst 1, 1) := by decide +kernel
theorem dX12_ends_109 : decode cX12_ends 109 = .ok (.iconst 0, 1) := by decide +kernel
theorem dX12_ends_110 : decode cX12_ends 110 = .ok (.iastore, 1) := by decide +kernel
theorem dX12_ends_111 : decode cX12_ends 111 = .ok (.iload_n 2, 1) := by decide +kernel
theorem dX12_ends_112 : decode cX12_ends 112 = .ok (.ireturn, 1) := by decide +kernel
theorem fl_RX12_382 : FL RX12 382 12 54 := ⟨inG (i := 1454) (by decide +kernel) (by decide +kernel), by decide, by decide⟩
theorem lk_RX12_379 : Cond.methodLink RX12 379 yX12_doAllRest ∈ tG := inG (i := 1834) (by decide +kernel) (by decide +kernel)
theorem lk_RX12_385 : Cond.methodLink RX12 385 yX12_passes ∈ tG := inG (i := 1790) (by decide +kernel) (by decide +kernel)
theorem lk_RX12_388 : Cond.methodLink RX12 388 yX12_astrayOf ∈ tG := inG (i := 1838) (by decide +kernel) (by decide +kernel)
theorem lk_RX12_391 : Cond.methodLink RX12 391 yX12_bits ∈ tG := inG (i := 1842) (by decide +kernel) (by decide +kernel)
theorem lk_RX12_394 : Cond.methodLink RX12 394 yX12_wearOf ∈ tG := inG (i := 1845) (by decide +kernel) (by decide +kernel)
theorem m_X12_astrayOf : MV Y_X12_astrayOf 1 12 := ⟨⟨inG (i := 1841) (by decide +kernel) (by decide +kernel), inG (i := 110) (by decide +kernel) (by decide +kernel), by decide, by decide, by decide, by decide +kernel⟩, inG (i := 1840) (by decide +kernel) (by decide +kernel), inG (i := 76) (by decide +kernel) (by decide +kernel), by decide⟩
theorem m_X12_bits : MS Y_X12_bits 1 := ⟨⟨inG (i := 1844) (by decide +kernel) (by decide +kernel), inG (i := 110) (by decide +kernel) (by decide +kernel), by decide, by decide, by decide, by decide +kernel⟩, inG (i := 1843) (by decide +kernel) (by decide +kernel)⟩
theorem m_X12_doAllRest : MV Y_X12_doAllRest 0 12 := ⟨⟨inG (i := 1837) (by decide +kernel) (by decide +kernel), inG (i := 110) (by decide +kernel) (by decide +kernel), by decide, by decide, by decide, by decide +kernel⟩, inG (i := 1836) (by decide +kernel) (by decide +kernel), inG (i := 75) (by decide +kernel) (by decide +kernel), by decide⟩
theorem m_X12_passes : MV Y_X12_passes 0 12 := ⟨⟨inG (i := 1793) (by decide +kernel) (by decide +kernel), inG (i := 110) (by decide +kernel) (by decide +kernel), by decide, by decide, by decide, by decide +kernel⟩, inG (i := 1792) (by decide +kernel) (by decide +kernel), inG (i := 67) (by decide +kernel) (by decide +kernel), by decide⟩
theorem m_X12_wearOf : MV Y_X12_wearOf 2 12 := ⟨⟨inG (i := 1848) (by decide +kernel) (by decide +kernel), inG (i := 110) (by decide +kernel) (by decide +kernel), by decide, by decide, by decide, by decide +kernel⟩, inG (i := 1847) (by decide +kernel) (by decide +kernel), inG (i := 77) (by decide +kernel) (by decide +kernel), by decide⟩
def P_X12_ends_L2  (x1 : Int) (K : Int → St → Prop) (Q : Int → St → Prop) : Nat → Int → St → Prop
  | 0, _, _ => False
  | n + 1, x2, σ => P_X12_doAllRest σ (fun r_2 σ_1 => (if r_2 = 0 then P_X12_passes σ_1 (fun r_4 σ_3 => P_X12_astrayOf r_4 σ_3 (fun r_6 σ_5 => P_X12_bits r_6 σ_5 (fun r_8 σ_7 => (P_X12_ends_L2 x1 K Q n) (wi (x2 + 1)) (up σ_7 12 0 54 (wi ((σ_1 12 0 54) + r_8)))))) else K x2 σ_1))
set_option maxRecDepth 20000 in
set_option maxHeartbeats 2000000 in
theorem e_P_X12_ends_L2  {x1 : Int} {K : Int → St → Prop} {Q : Int → St → Prop}  (hK : ∀ x2 σ, K x2 σ → E Y_X12_ends 4 0 0 (QI Q) ww 0 0 35 [some (vR 12 0), some (vI x1), some (vI x2), none] [] σ) : ∀ (n : Nat) (x2 : Int) (σ : St), P_X12_ends_L2 x1 K Q n x2 σ → E Y_X12_ends 4 0 0 (QI Q) ww 0 0 2 [some (vR 12 0), some (vI x1), some (vI x2), none] [] σ := by
  intro n
  induction n with
  | zero => intro x2 σ h; exact h.elim
  | succ n hR =>
    intro x2 σ h
    unfold P_X12_ends_L2 at h
    refine E_aload_n dX12_ends_2 rfl rfl ?_
    refine E_callV (Y' := Y_X12_doAllRest) (as := []) (st := []) dX12_ends_3 lk_RX12_379 m_X12_doAllRest (by decide) (Nat.le_refl _) (Nat.le_refl _) rfl rfl (Nat.le_of_ble_eq_true rfl) (s_X12_doAllRest h) (fun r0 B0 σ_1 h => ?_)
    obtain ⟨r_2, rfl, rfl, h⟩ := h
    refine E_if_ne (tgt := 35) dX12_ends_6 (by decide) (fun hc => ?_) (fun hc => ?_)
    · have h := Eq.mp (if_neg hc) h
      exact hK _ _ h
    · have h := Eq.mp (if_pos hc) h
      refine E_aload_n dX12_ends_9 rfl rfl ?_
      refine E_dup dX12_ends_10 (fun _ q => by cases q) ?_
      refine E_geti (i := 0) dX12_ends_11 fl_RX12_382 rfl ?_
      refine E_aload_n dX12_ends_14 rfl rfl ?_
      refine E_aload_n dX12_ends_15 rfl rfl ?_
      refine E_callV (Y' := Y_X12_passes) (as := []) (st := [vR 12 0, vI (σ_1 12 0 54), vR 12 0]) dX12_ends_16 lk_RX12_385 m_X12_passes (by decide) (Nat.le_refl _) (Nat.le_refl _) rfl rfl (Nat.le_of_ble_eq_true rfl) (s_X12_passes h) (fun r0 B0 σ_3 h => ?_)
      obtain ⟨r_4, rfl, rfl, h⟩ := h
      refine E_callV (Y' := Y_X12_astrayOf) (as := [vI r_4]) (st := [vI (σ_1 12 0 54), vR 12 0]) dX12_ends_19 lk_RX12_388 m_X12_astrayOf (by decide) (Nat.le_refl _) (Nat.le_refl _) rfl rfl (Nat.le_of_ble_eq_true rfl) (s_X12_astrayOf h) (fun r0 B0 σ_5 h => ?_)
      obtain ⟨r_6, rfl, rfl, h⟩ := h
      refine E_callS (Y' := Y_X12_bits) (as := [vI r_6]) (st := [vI (σ_1 12 0 54), vR 12 0]) dX12_ends_22 lk_RX12_391 m_X12_bits (by decide) (Nat.le_refl _) (Nat.le_refl _) rfl rfl (Nat.le_of_ble_eq_true rfl) (s_X12_bits h) (fun r0 B0 σ_7 h => ?_)
      obtain ⟨r_8, rfl, rfl, h⟩ := h
      refine E_iadd dX12_ends_25 ?_
      refine E_puti dX12_ends_26 fl_RX12_382 rfl rfl rfl ?_
      refine E_iinc (ls' := [some (vR 12 0), some (vI x1), some (vI (wi (x2 + 1))), none]) dX12_ends_29 rfl (by decide) rfl rfl ?_
      refine E_goto (tgt := 2) dX12_ends_32 (by decide) ?_
      exact hR _ _ h
def P_X12_ends_L37  (x1 : Int) (x2 : Int) (K : St → Prop) (Q : Int → St → Prop) : Nat → Int → St → Prop
  | 0, _, _ => False
  | n + 1, x3, σ => (if (σ 1310 0 1) ≤ x3 then K σ else 0 ≤ wi (16 + x3) ∧ wi (16 + x3) < 46 ∧ P_X12_wearOf x3 x1 σ (fun r_12 σ_11 => P_X12_between (wi ((σ 1346 0 (wi (16 + x3))) - r_12)) 1 60 σ_11 (fun r_14 σ_13 => 0 ≤ wi (16 + x3) ∧ wi (16 + x3) < 46 ∧ 0 ≤ wi (40 + x3) ∧ wi (40 + x3) < 46 ∧ (P_X12_ends_L37 x1 x2 K Q n) (wi (x3 + 1)) (up (up σ_13 1346 0 (wi (16 + x3)) r_14) 1346 0 (wi (40 + x3)) 0))))
set_option maxRecDepth 20000 in
set_option maxHeartbeats 2000000 in
theorem e_P_X12_ends_L37  {x1 : Int} {x2 : Int} {K : St → Prop} {Q : Int → St → Prop}  (hK : ∀ σ, K σ → E Y_X12_ends 4 0 0 (QI Q) ww 0 0 94 [some (vR 12 0), none, some (vI x2), none] [] σ) : ∀ (n : Nat) (x3 : Int) (σ : St), P_X12_ends_L37 x1 x2 K Q n x3 σ → E Y_X12_ends 4 0 0 (QI Q) ww 0 0 37 [some (vR 12 0), some (vI x1), some (vI x2), some (vI x3)] [] σ := by
  intro n
  induction n with
  | zero => intro x3 σ h; exact h.elim
  | succ n hR =>
    intro x3 σ h
    unfold P_X12_ends_L37 at h
    refine E_iload_n dX12_ends_37 rfl rfl ?_
    refine E_aload_n dX12_ends_38 rfl rfl ?_
    refine E_getr (i := 0) dX12_ends_39 fl_RX12_13 rfl rfl (go_12_10 _ _) ?_
    refine E_ic dX12_ends_42 rfl ?_
    refine E_iald dX12_ends_43 sh_1310 (by decide) (by decide) ?_
    refine E_icmp_ge (tgt := 94) dX12_ends_44 (by decide) (fun hc => ?_) (fun hc => ?_)
    · have h := Eq.mp (if_pos hc) h
      refine E_wk2 [some (vR 12 0), none, some (vI x2), none] ⟨rfl, ⟨rfl, trivial⟩⟩ ?_
      exact hK _ h
    · have h := Eq.mp (if_neg hc) h
      refine E_aload_n dX12_ends_47 rfl rfl ?_
      refine E_getr (i := 0) dX12_ends_48 fl_RX12_111 rfl rfl (go_12_46 _ _) ?_
      refine E_bp dX12_ends_51 rfl ?_
      refine E_iload_n dX12_ends_53 rfl rfl ?_
      refine E_iadd dX12_ends_54 ?_
      refine E_aload_n dX12_ends_55 rfl rfl ?_
      refine E_getr (i := 0) dX12_ends_56 fl_RX12_111 rfl rfl (go_12_46 _ _) ?_
      refine E_bp dX12_ends_59 rfl ?_
      refine E_iload_n dX12_ends_61 rfl rfl ?_
      refine E_iadd dX12_ends_62 ?_
      obtain ⟨hg0, hg1, h⟩ := h
      refine E_iald dX12_ends_63 sh_1346 hg0 hg1 ?_
      refine E_aload_n dX12_ends_64 rfl rfl ?_
      refine E_iload_n dX12_ends_65 rfl rfl ?_
      refine E_iload_n dX12_ends_66 rfl rfl ?_
      refine E_callV (Y' := Y_X12_wearOf) (as := [vI x3, vI x1]) (st := [vI (σ 1346 0 (wi (16 + x3))), vI (wi (16 + x3)), vR 1346 0]) dX12_ends_67 lk_RX12_394 m_X12_wearOf (by decide) (Nat.le_refl _) (Nat.le_refl _) rfl rfl (Nat.le_of_ble_eq_true rfl) (s_X12_wearOf h) (fun r0 B0 σ_11 h => ?_)
      obtain ⟨r_12, rfl, rfl, h⟩ := h
      refine E_isub dX12_ends_70 ?_
      refine E_ic dX12_ends_71 rfl ?_
      refine E_bp dX12_ends_72 rfl ?_
      refine E_callS (Y' := Y_X12_between) (as := [vI (wi ((σ 1346 0 (wi (16 + x3))) - r_12)), vI 1, vI 60]) (st := [vI (wi (16 + x3)), vR 1346 0]) dX12_ends_74 lk_RX12_375 m_X12_between (by decide) (Nat.le_refl _) (Nat.le_refl _) rfl rfl (Nat.le_of_ble_eq_true rfl) (s_X12_between h) (fun r0 B0 σ_13 h => ?_)
      obtain ⟨r_14, rfl, rfl, h⟩ := h
      obtain ⟨hg0, hg1, h⟩ := h
      refine E_iast dX12_ends_77 sh_1346 hg0 hg1 ?_
      refine E_aload_n dX12_ends_78 rfl rfl ?_
      refine E_getr (i := 0) dX12_ends_79 fl_RX12_111 rfl rfl (go_12_46 _ _) ?_
      refine E_bp dX12_ends_82 rfl ?_
      refine E_iload_n dX12_ends_84 rfl rfl ?_
      refine E_iadd dX12_ends_85 ?_
      refine E_ic dX12_ends_86 rfl ?_
      obtain ⟨hg0, hg1, h⟩ := h
      refine E_iast dX12_ends_87 sh_1346 hg0 hg1 ?_
      refine E_iinc (ls' := [some (vR 12 0), some (vI x1), some (vI x2), some (vI (wi (x3 + 1)))]) dX12_ends_88 rfl (by decide) rfl rfl ?_
      refine E_goto (tgt := 37) dX12_ends_91 (by decide) ?_
      exact hR _ _ h
def P_X12_ends  (x1 : Int) (σ : St) (Q : Int → St → Prop) : Prop :=
  P_X12_ends_L2 x1 (fun x2_9 σ_10 => P_X12_ends_L37 x1 x2_9 (fun σ_15 => Q x2_9 (up (up σ_15 1346 0 0 (wi ((σ_15 1346 0 0) + 1))) 1346 0 1 0)) Q FU 0 σ_10) Q FU 0 σ
set_option maxRecDepth 20000 in
set_option maxHeartbeats 2000000 in
theorem s_X12_ends   {x1 : Int} {σ : St} {Q : Int → St → Prop} (h : P_X12_ends x1 σ Q) : Cn Y_X12_ends 4 0 0 ww σ [vR 12 0, vI x1] (QI Q) := by
  refine Cn_of [some (vR 12 0), some (vI x1), none, none] (by decide) (Nat.le_of_ble_eq_true rfl) rfl ?_
  unfold P_X12_ends at h
  refine E_ic dX12_ends_0 rfl ?_
  refine E_istore_n (ls' := [some (vR 12 0), some (vI x1), some (vI 0), none]) dX12_ends_1 rfl (by decide) rfl ?_
  refine e_P_X12_ends_L2 ?_ _ _ _ h
  · intro x2_9 σ_10 h
    refine E_ic dX12_ends_35 rfl ?_
    refine E_istore_n (ls' := [some (vR 12 0), some (vI x1), some (vI x2_9), some (vI 0)]) dX12_ends_36 rfl (by decide) rfl ?_
    refine e_P_X12_ends_L37 ?_ _ _ _ h
    · intro σ_15 h
      refine E_aload_n dX12_ends_94 rfl rfl ?_
      refine E_getr (i := 0) dX12_ends_95 fl_RX12_111 rfl rfl (go_12_46 _ _) ?_
      refine E_ic dX12_ends_98 rfl ?_
      refine E_dup2 dX12_ends_99 (fun _ q => by cases q) (fun _ q => by cases q) ?_
      refine E_iald dX12_ends_100 sh_1346 (by decide) (by decide) ?_
      refine E_ic dX12_ends_101 rfl ?_
      refine E_iadd dX12_ends_102 ?_
      refine E_iast dX12_ends_103 sh_1346 (by decide) (by decide) ?_
      refine E_aload_n dX12_ends_104 rfl rfl ?_
      refine E_getr (i := 0) dX12_ends_105 fl_RX12_111 rfl rfl (go_12_46 _ _) ?_
      refine E_ic dX12_ends_108 rfl ?_
      refine E_ic dX12_ends_109 rfl ?_
      refine E_iast dX12_ends_110 sh_1346 (by decide) (by decide) ?_
      refine E_iload_n dX12_ends_111 rfl rfl ?_
      exact E_iret dX12_ends_112 rfl ⟨_, rfl, rfl, h⟩
abbrev Y_X12_endsAsTold : My := (yX12_endsAsTold, cX12_endsAsTold, 1, some .int)
theorem dX12_endsAsTold_0 : decode cX12_endsAsTold 0 = .ok (.aload_n 0, 1) := by decide +kernel
theorem dX12_endsAsTold_1 : decode cX12_endsAsTold 1 = .ok (.aload_n 0, 1) := by decide +kernel
theorem dX12_endsAsTold_2 : decode cX12_endsAsTold 2 = .ok (.aload_n 0, 1) := by decide +kernel
theorem dX12_endsAsTold_3 : decode cX12_endsAsTold 3 = .ok (.getfield 111, 3) := by decide +kernel
theorem dX12_endsAsTold_6 : decode cX12_endsAsTold 6 = .ok (.iconst 0, 1) := by decide +kernel
theorem dX12_endsAsTold_7 : decode cX12_endsAsTold 7 = .ok (.iaload, 1) := by decide +kernel
theorem dX12_endsAsTold_8 : decode cX12_endsAsTold 8 = .ok (.invokevirtual 397, 3) := by decide +kernel
theorem dX12_endsAsTold_11 : decode cX12_endsAsTold 11 = .ok (.invokevirtual 400, 3) := by decide +kernel
theorem dX12_endsAsTold_14 : decode cX12_endsAsTold 14 = .ok (.ireturn, 1) := by decide +kernel
theorem lk_RX12_397 : Cond.methodLink RX12 397 yX12_dampOf ∈ tG := inG (i := 1826) (by decide +kernel) (by decide +kernel)
theorem lk_RX12_400 : Cond.methodLink RX12 400 yX12_ends ∈ tG := inG (i := 1830) (by decide +kernel) (by decide +kernel)
theorem m_X12_dampOf : MV Y_X12_dampOf 1 12 := ⟨⟨inG (i := 1829) (by decide +kernel) (by decide +kernel), inG (i := 110) (by decide +kernel) (by decide +kernel), by decide, by decide, by decide, by decide +kernel⟩, inG (i := 1828) (by decide +kernel) (by decide +kernel), inG (i := 73) (by decide +kernel) (by decide +kernel), by decide⟩
theorem m_X12_ends : MV Y_X12_ends 1 12 := ⟨⟨inG (i := 1833) (by decide +kernel) (by decide +kernel), inG (i := 110) (by decide +kernel) (by decide +kernel), by decide, by decide, by decide, by decide +kernel⟩, inG (i := 1832) (by decide +kernel) (by decide +kernel), inG (i := 74) (by decide +kernel) (by decide +kernel), by decide⟩
def P_X12_endsAsTold   (σ : St) (Q : Int → St → Prop) : Prop :=
  P_X12_dampOf (σ 1346 0 0) σ (fun r_2 σ_1 => P_X12_ends r_2 σ_1 (fun r_4 σ_3 => Q r_4 σ_3))
set_option maxRecDepth 20000 in
set_option maxHeartbeats 2000000 in
theorem s_X12_endsAsTold    {σ : St} {Q : Int → St → Prop} (h : P_X12_endsAsTold  σ Q) : Cn Y_X12_endsAsTold 5 0 0 ww σ [vR 12 0] (QI Q) := by
  refine Cn_of [some (vR 12 0)] (by decide) (Nat.le_of_ble_eq_true rfl) rfl ?_
  unfold P_X12_endsAsTold at h
  refine E_aload_n dX12_endsAsTold_0 rfl rfl ?_
  refine E_aload_n dX12_endsAsTold_1 rfl rfl ?_
  refine E_aload_n dX12_endsAsTold_2 rfl rfl ?_
  refine E_getr (i := 0) dX12_endsAsTold_3 fl_RX12_111 rfl rfl (go_12_46 _ _) ?_
  refine E_ic dX12_endsAsTold_6 rfl ?_
  refine E_iald dX12_endsAsTold_7 sh_1346 (by decide) (by decide) ?_
  refine E_callV (Y' := Y_X12_dampOf) (as := [vI (σ 1346 0 0)]) (st := [vR 12 0]) dX12_endsAsTold_8 lk_RX12_397 m_X12_dampOf (by decide) (Nat.le_refl _) (Nat.le_refl _) rfl rfl (Nat.le_of_ble_eq_true rfl) (s_X12_dampOf h) (fun r0 B0 σ_1 h => ?_)
  obtain ⟨r_2, rfl, rfl, h⟩ := h
  refine E_callV (Y' := Y_X12_ends) (as := [vI r_2]) (st := []) dX12_endsAsTold_11 lk_RX12_400 m_X12_ends (by decide) (Nat.le_refl _) (Nat.le_refl _) rfl rfl (Nat.le_of_ble_eq_true rfl) (s_X12_ends h) (fun r0 B0 σ_3 h => ?_)
  obtain ⟨r_4, rfl, rfl, h⟩ := h
  exact E_iret dX12_endsAsTold_14 rfl ⟨_, rfl, rfl, h⟩
abbrev Y_X12_astrayNow : My := (yX12_astrayNow, cX12_astrayNow, 3, some .int)
theorem dX12_astrayNow_0 : decode cX12_astrayNow 0 = .ok (.iconst 0, 1) := by decide +kernel
theorem dX12_astrayNow_1 : decode cX12_astrayNow 1 = .ok (.istore_n 1, 1) := by decide +kernel
theorem dX12_astrayNow_2 : decode cX12_astrayNow 2 = .ok (.iconst 0, 1) := by decide +kernel
theorem dX12_astrayNow_3 : decode cX12_astrayNow 3 = .ok (.istore_n 2, 1) := by decide +kernel
theorem dX12_astrayNow_4 : decode cX12_astrayNow 4 = .ok (.iload_n 2, 1) := by decide +kernel
theorem dX12_astrayNow_5 : decode cX12_astrayNow 5 = .ok (.aload_n 0, 1) := by decide +kernel
theorem dX12_astrayNow_6 : decode cX12_astrayNow 6 = .ok (.getfield 13, 3) := by decide +kernel
theorem dX12_astrayNow_9 : decode cX12_astrayNow 9 = .ok (.iconst 1, 1) := by decide +kernel
theorem dX12_astrayNow_10 : decode cX12_astrayNow 10 = .ok (.iaload, 1) := by decide +kernel
theorem dX12_astrayNow_11 : decode cX12_astrayNow 11 = .ok (.if_icmp .ge 31, 3) := by decide +kernel
theorem dX12_astrayNow_14 : decode cX12_astrayNow 14 = .ok (.iload_n 1, 1) := by decide +kernel
theorem dX12_astrayNow_15 : decode cX12_astrayNow 15 = .ok (.aload_n 0, 1) := by decide +kernel
theorem dX12_astrayNow_16 : decode cX12_astrayNow 16 = .ok (.getfield 111, 3) := by decide +kernel
theorem dX12_astrayNow_19 : decode cX12_astrayNow 19 = .ok (.bipush 22, 2) := by decide +kernel
theorem dX12_astrayNow_21 : decode cX12_astrayNow 21 = .ok (.iload_n 2, 1) := by decide +kernel
theorem dX12_astrayNow_22 : decode cX12_astrayNow 22 = .ok (.iadd, 1) := by decide +kernel
theorem dX12_astrayNow_23 : decode cX12_astrayNow 23 = .ok (.iaload, 1) := by decide +kernel
theorem dX12_astrayNow_24 : decode cX12_astrayNow 24 = .ok (.ifCond .ne 9, 3) := by decide +kernel
theorem dX12_astrayNow_27 : decode cX12_astrayNow 27 = .ok (.iconst 1, 1) := by decide +kernel
theorem dX12_astrayNow_28 : decode cX12_astrayNow 28 = .ok (.iload_n 2, 1) := by decide +kernel
theorem dX12_astrayNow_29 : decode cX12_astrayNow 29 = .ok (.ishl, 1) := by decide +kernel
theorem dX12_astrayNow_30 : decode cX12_astrayNow 30 = .ok (.goto 4, 3) := by decide +kernel
theorem dX12_astrayNow_33 : decode cX12_astrayNow 33 = .ok (.iconst 0, 1) := by decide +kernel
theorem dX12_astrayNow_34 : decode cX12_astrayNow 34 = .ok (.ior, 1) := by decide +kernel
theorem dX12_astrayNow_35 : decode cX12_astrayNow 35 = .ok (.istore_n 1, 1) := by decide +kernel
theorem dX12_astrayNow_36 : decode cX12_astrayNow 36 = .ok (.iinc 2 1, 3) := by decide +kernel
theorem dX12_astrayNow_39 : decode cX12_astrayNow 39 = .ok (.goto (-35), 3) := by decide +kernel
theorem dX12_astrayNow_42 : decode cX12_astrayNow 42 = .ok (.aload_n 0, 1) := by decide +kernel
theorem dX12_astrayNow_43 : decode cX12_astrayNow 43 = .ok (.iload_n 1, 1) := by decide +kernel
theorem dX12_astrayNow_44 : decode cX12_astrayNow 44 = .ok (.invokevirtual 388, 3) := by decide +kernel
theorem dX12_astrayNow_47 : decode cX12_astrayNow 47 = .ok (.ireturn, 1) := by decide +kernel
def P_X12_astrayNow_L4   (K : Int → St → Prop) (Q : Int → St → Prop) : Nat → Int → Int → St → Prop
  | 0, _, _, _ => False
  | n + 1, x1, x2, σ => (if (σ 1310 0 1) ≤ x2 then K x1 σ else 0 ≤ wi (22 + x2) ∧ wi (22 + x2) < 46 ∧ (if (σ 1346 0 (wi (22 + x2))) = 0 then (P_X12_astrayNow_L4 K Q n) (bO x1 (bL 1 x2)) (wi (x2 + 1)) σ else (P_X12_astrayNow_L4 K Q n) (bO x1 0) (wi (x2 + 1)) σ))
set_option maxRecDepth 20000 in
set_option maxHeartbeats 2000000 in
theorem e_P_X12_astrayNow_L4   {K : Int → St → Prop} {Q : Int → St → Prop}  (hK : ∀ x1 σ, K x1 σ → E Y_X12_astrayNow 1 0 0 (QI Q) ww 0 0 42 [some (vR 12 0), some (vI x1), none] [] σ) : ∀ (n : Nat) (x1 : Int) (x2 : Int) (σ : St), P_X12_astrayNow_L4 K Q n x1 x2 σ → E Y_X12_astrayNow 1 0 0 (QI Q) ww 0 0 4 [some (vR 12 0), some (vI x1), some (vI x2)] [] σ := by
  intro n
  induction n with
  | zero => intro x1 x2 σ h; exact h.elim
  | succ n hR =>
    intro x1 x2 σ h
    unfold P_X12_astrayNow_L4 at h
    refine E_iload_n dX12_astrayNow_4 rfl rfl ?_
    refine E_aload_n dX12_astrayNow_5 rfl rfl ?_
    refine E_getr (i := 0) dX12_astrayNow_6 fl_RX12_13 rfl rfl (go_12_10 _ _) ?_
    refine E_ic dX12_astrayNow_9 rfl ?_
    refine E_iald dX12_astrayNow_10 sh_1310 (by decide) (by decide) ?_
    refine E_icmp_ge (tgt := 42) dX12_astrayNow_11 (by decide) (fun hc => ?_) (fun hc => ?_)
    · have h := Eq.mp (if_pos hc) h
      refine E_wk2 [some (vR 12 0), some (vI x1), none] ⟨rfl, ⟨rfl, trivial⟩⟩ ?_
      exact hK _ _ h
    · have h := Eq.mp (if_neg hc) h
      refine E_iload_n dX12_astrayNow_14 rfl rfl ?_
      refine E_aload_n dX12_astrayNow_15 rfl rfl ?_
      refine E_getr (i := 0) dX12_astrayNow_16 fl_RX12_111 rfl rfl (go_12_46 _ _) ?_
      refine E_bp dX12_astrayNow_19 rfl ?_
      refine E_iload_n dX12_astrayNow_21 rfl rfl ?_
      refine E_iadd dX12_astrayNow_22 ?_
      obtain ⟨hg0, hg1, h⟩ := h
      refine E_iald dX12_astrayNow_23 sh_1346 hg0 hg1 ?_
      refine E_if_ne (tgt := 33) dX12_astrayNow_24 (by decide) (fun hc => ?_) (fun hc => ?_)
      · have h := Eq.mp (if_neg hc) h
        refine E_ic dX12_astrayNow_33 rfl ?_
        refine E_ior dX12_astrayNow_34 ?_
        refine E_istore_n (ls' := [some (vR 12 0), some (vI (bO x1 0)), some (vI x2)]) dX12_astrayNow_35 rfl (by decide) rfl ?_
        refine E_iinc (ls' := [some (vR 12 0), some (vI (bO x1 0)), some (vI (wi (x2 + 1)))]) dX12_astrayNow_36 rfl (by decide) rfl rfl ?_
        refine E_goto (tgt := 4) dX12_astrayNow_39 (by decide) ?_
        exact hR _ _ _ h
      · have h := Eq.mp (if_pos hc) h
        refine E_ic dX12_astrayNow_27 rfl ?_
        refine E_iload_n dX12_astrayNow_28 rfl rfl ?_
        refine E_ishl dX12_astrayNow_29 ?_
        refine E_goto (tgt := 34) dX12_astrayNow_30 (by decide) ?_
        refine E_ior dX12_astrayNow_34 ?_
        refine E_istore_n (ls' := [some (vR 12 0), some (vI (bO x1 (bL 1 x2))), some (vI x2)]) dX12_astrayNow_35 rfl (by decide) rfl ?_
        refine E_iinc (ls' := [some (vR 12 0), some (vI (bO x1 (bL 1 x2))), some (vI (wi (x2 + 1)))]) dX12_astrayNow_36 rfl (by decide) rfl rfl ?_
        refine E_goto (tgt := 4) dX12_astrayNow_39 (by decide) ?_
        exact hR _ _ _ h
def P_X12_astrayNow   (σ : St) (Q : Int → St → Prop) : Prop :=
  P_X12_astrayNow_L4 (fun x1_1 σ_2 => P_X12_astrayOf x1_1 σ_2 (fun r_4 σ_3 => Q r_4 σ_3)) Q FU 0 0 σ
set_option maxRecDepth 20000 in
set_option maxHeartbeats 2000000 in
theorem s_X12_astrayNow    {σ : St} {Q : Int → St → Prop} (h : P_X12_astrayNow  σ Q) : Cn Y_X12_astrayNow 1 0 0 ww σ [vR 12 0] (QI Q) := by
  refine Cn_of [some (vR 12 0), none, none] (by decide) (Nat.le_of_ble_eq_true rfl) rfl ?_
  unfold P_X12_astrayNow at h
  refine E_ic dX12_astrayNow_0 rfl ?_
  refine E_istore_n (ls' := [some (vR 12 0), some (vI 0), none]) dX12_astrayNow_1 rfl (by decide) rfl ?_
  refine E_ic dX12_astrayNow_2 rfl ?_
  refine E_istore_n (ls' := [some (vR 12 0), some (vI 0), some (vI 0)]) dX12_astrayNow_3 rfl (by decide) rfl ?_
  refine e_P_X12_astrayNow_L4 ?_ _ _ _ _ h
  · intro x1_1 σ_2 h
    refine E_aload_n dX12_astrayNow_42 rfl rfl ?_
    refine E_iload_n dX12_astrayNow_43 rfl rfl ?_
    refine E_callV (Y' := Y_X12_astrayOf) (as := [vI x1_1]) (st := []) dX12_astrayNow_44 lk_RX12_388 m_X12_astrayOf (by decide) (Nat.le_refl _) (Nat.le_refl _) rfl rfl (Nat.le_of_ble_eq_true rfl) (s_X12_astrayOf h) (fun r0 B0 σ_3 h => ?_)
    obtain ⟨r_4, rfl, rfl, h⟩ := h
    exact E_iret dX12_astrayNow_47 rfl ⟨_, rfl, rfl, h⟩
abbrev Y_X12_areSo : My := (yX12_areSo, cX12_areSo, 4, some .int)
theorem dX12_areSo_0 : decode cX12_areSo 0 = .ok (.iconst 0, 1) := by decide +kernel
theorem dX12_areSo_1 : decode cX12_areSo 1 = .ok (.istore_n 2, 1) := by decide +kernel
theorem dX12_areSo_2 : decode cX12_areSo 2 = .ok (.iconst 0, 1) := by decide +kernel
theorem dX12_areSo_3 : decode cX12_areSo 3 = .ok (.istore_n 3, 1) := by decide +kernel
theorem dX12_areSo_4 : decode cX12_areSo 4 = .ok (.iload_n 3, 1) := by decide +kernel
theorem dX12_areSo_5 : decode cX12_areSo 5 = .ok (.aload_n 0, 1) := by decide +kernel
theorem dX12_areSo_6 : decode cX12_areSo 6 = .ok (.getfield 13, 3) := by decide +kernel
theorem dX12_areSo_9 : decode cX12_areSo 9 = .ok (.iconst 1, 1) := by decide +kernel
theorem dX12_areSo_10 : decode cX12_areSo 10 = .ok (.iaload, 1) := by decide +kernel
theorem dX12_areSo_11 : decode cX12_areSo 11 = .ok (.if_icmp .ge 32, 3) := by decide +kernel
theorem dX12_areSo_14 : decode cX12_areSo 14 = .ok (.iload_n 2, 1) := by decide +kernel
theorem dX12_areSo_15 : decode cX12_areSo 15 = .ok (.aload_n 0, 1) := by decide +kernel
theorem dX12_areSo_16 : decode cX12_areSo 16 = .ok (.getfield 111, 3) := by decide +kernel
theorem dX12_areSo_19 : decode cX12_areSo 19 = .ok (.bipush 22, 2) := by decide +kernel
theorem dX12_areSo_21 : decode cX12_areSo 21 = .ok (.iload_n 3, 1) := by decide +kernel
theorem dX12_areSo_22 : decode cX12_areSo 22 = .ok (.iadd, 1) := by decide +kernel
theorem dX12_areSo_23 : decode cX12_areSo 23 = .ok (.iaload, 1) := by decide +kernel
theorem dX12_areSo_24 : decode cX12_areSo 24 = .ok (.iload_n 1, 1) := by decide +kernel
theorem dX12_areSo_25 : decode cX12_areSo 25 = .ok (.if_icmp .ne 9, 3) := by decide +kernel
theorem dX12_areSo_28 : decode cX12_areSo 28 = .ok (.iconst 1, 1) := by decide +kernel
theorem dX12_areSo_29 : decode cX12_areSo 29 = .ok (.iload_n 3, 1) := by decide +kernel
theorem dX12_areSo_30 : decode cX12_areSo 30 = .ok (.ishl, 1) := by decide +kernel
theorem dX12_areSo_31 : decode cX12_areSo 31 = .ok (.goto 4, 3) := by decide +kernel
theorem dX12_areSo_34 : decode cX12_areSo 34 = .ok (.iconst 0, 1) := by decide +kernel
theorem dX12_areSo_35 : decode cX12_areSo 35 = .ok (.ior, 1) := by decide +kernel
theorem dX12_areSo_36 : decode cX12_areSo 36 = .ok (.istore_n 2, 1) := by decide +kernel
theorem dX12_areSo_37 : decode cX12_areSo 37 = .ok (.iinc 3 1, 3) := by decide +kernel
theorem dX12_areSo_40 : decode cX12_areSo 40 = .ok (.goto (-36), 3) := by decide +kernel
theorem dX12_areSo_43 : decode cX12_areSo 43 = .ok (.iload_n 2, 1) := by decide +kernel
theorem dX12_areSo_44 : decode cX12_areSo 44 = .ok (.ireturn, 1) := by decide +kernel
def P_X12_areSo_L4  (x1 : Int)  (Q : Int → St → Prop) : Nat → Int → Int → St → Prop
  | 0, _, _, _ => False
  | n + 1, x2, x3, σ => (if (σ 1310 0 1) ≤ x3 then Q x2 σ else 0 ≤ wi (22 + x3) ∧ wi (22 + x3) < 46 ∧ (if (σ 1346 0 (wi (22 + x3))) = x1 then (P_X12_areSo_L4 x1 Q n) (bO x2 (bL 1 x3)) (wi (x3 + 1)) σ else (P_X12_areSo_L4 x1 Q n) (bO x2 0) (wi (x3 + 1)) σ))
set_option maxRecDepth 20000 in
set_option maxHeartbeats 2000000 in
theorem e_P_X12_areSo_L4  {x1 : Int}  {Q : Int → St → Prop}   : ∀ (n : Nat) (x2 : Int) (x3 : Int) (σ : St), P_X12_areSo_L4 x1 Q n x2 x3 σ → E Y_X12_areSo 0 0 0 (QI Q) ww 0 0 4 [some (vR 12 0), some (vI x1), some (vI x2), some (vI x3)] [] σ := by
  intro n
  induction n with
  | zero => intro x2 x3 σ h; exact h.elim
  | succ n hR =>
    intro x2 x3 σ h
    unfold P_X12_areSo_L4 at h
    refine E_iload_n dX12_areSo_4 rfl rfl ?_
    refine E_aload_n dX12_areSo_5 rfl rfl ?_
    refine E_getr (i := 0) dX12_areSo_6 fl_RX12_13 rfl rfl (go_12_10 _ _) ?_
    refine E_ic dX12_areSo_9 rfl ?_
    refine E_iald dX12_areSo_10 sh_1310 (by decide) (by decide) ?_
    refine E_icmp_ge (tgt := 43) dX12_areSo_11 (by decide) (fun hc => ?_) (fun hc => ?_)
    · have h := Eq.mp (if_pos hc) h
      refine E_iload_n dX12_areSo_43 rfl rfl ?_
      exact E_iret dX12_areSo_44 rfl ⟨_, rfl, rfl, h⟩
    · have h := Eq.mp (if_neg hc) h
      refine E_iload_n dX12_areSo_14 rfl rfl ?_
      refine E_aload_n dX12_areSo_15 rfl rfl ?_
      refine E_getr (i := 0) dX12_areSo_16 fl_RX12_111 rfl rfl (go_12_46 _ _) ?_
      refine E_bp dX12_areSo_19 rfl ?_
      refine E_iload_n dX12_areSo_21 rfl rfl ?_
      refine E_iadd dX12_areSo_22 ?_
      obtain ⟨hg0, hg1, h⟩ := h
      refine E_iald dX12_areSo_23 sh_1346 hg0 hg1 ?_
      refine E_iload_n dX12_areSo_24 rfl rfl ?_
      refine E_icmp_ne (tgt := 34) dX12_areSo_25 (by decide) (fun hc => ?_) (fun hc => ?_)
      · have h := Eq.mp (if_neg hc) h
        refine E_ic dX12_areSo_34 rfl ?_
        refine E_ior dX12_areSo_35 ?_
        refine E_istore_n (ls' := [some (vR 12 0), some (vI x1), some (vI (bO x2 0)), some (vI x3)]) dX12_areSo_36 rfl (by decide) rfl ?_
        refine E_iinc (ls' := [some (vR 12 0), some (vI x1), some (vI (bO x2 0)), some (vI (wi (x3 + 1)))]) dX12_areSo_37 rfl (by decide) rfl rfl ?_
        refine E_goto (tgt := 4) dX12_areSo_40 (by decide) ?_
        exact hR _ _ _ h
      · have h := Eq.mp (if_pos hc) h
        refine E_ic dX12_areSo_28 rfl ?_
        refine E_iload_n dX12_areSo_29 rfl rfl ?_
        refine E_ishl dX12_areSo_30 ?_
        refine E_goto (tgt := 35) dX12_areSo_31 (by decide) ?_
        refine E_ior dX12_areSo_35 ?_
        refine E_istore_n (ls' := [some (vR 12 0), some (vI x1), some (vI (bO x2 (bL 1 x3))), some (vI x3)]) dX12_areSo_36 rfl (by decide) rfl ?_
        refine E_iinc (ls' := [some (vR 12 0), some (vI x1), some (vI (bO x2 (bL 1 x3))), some (vI (wi (x3 + 1)))]) dX12_areSo_37 rfl (by decide) rfl rfl ?_
        refine E_goto (tgt := 4) dX12_areSo_40 (by decide) ?_
        exact hR _ _ _ h
def P_X12_areSo  (x1 : Int) (σ : St) (Q : Int → St → Prop) : Prop :=
  P_X12_areSo_L4 x1 Q FU 0 0 σ
set_option maxRecDepth 20000 in
set_option maxHeartbeats 2000000 in
theorem s_X12_areSo   {x1 : Int} {σ : St} {Q : Int → St → Prop} (h : P_X12_areSo x1 σ Q) : Cn Y_X12_areSo 0 0 0 ww σ [vR 12 0, vI x1] (QI Q) := by
  refine Cn_of [some (vR 12 0), some (vI x1), none, none] (by decide) (Nat.le_of_ble_eq_true rfl) rfl ?_
  unfold P_X12_areSo at h
  refine E_ic dX12_areSo_0 rfl ?_
  refine E_istore_n (ls' := [some (vR 12 0), some (vI x1), some (vI 0), none]) dX12_areSo_1 rfl (by decide) rfl ?_
  refine E_ic dX12_areSo_2 rfl ?_
  refine E_istore_n (ls' := [some (vR 12 0), some (vI x1), some (vI 0), some (vI 0)]) dX12_areSo_3 rfl (by decide) rfl ?_
  refine e_P_X12_areSo_L4  _ _ _ _ h
abbrev Y_X12_counter : My := (yX12_counter, cX12_counter, 5, some .int)
theorem dX12_counter_0 : decode cX12_counter 0 = .ok (.aload_n 0, 1) := by decide +kernel
theorem dX12_counter_1 : decode cX12_counter 1 = .ok (.iconst 0, 1) := by decide +kernel
theorem dX12_counter_2 : decode cX12_counter 2 = .ok (.putfield 141, 3) := by decide +kernel
theorem dX12_counter_5 : decode cX12_counter 5 = .ok (.aload_n 0, 1) := by decide +kernel
theorem dX12_counter_6 : decode cX12_counter 6 = .ok (.iload_n 1, 1) := by decide +kernel
theorem dX12_counter_7 : decode cX12_counter 7 = .ok (.invokevirtual 403, 3) := by decide +kernel
theorem dX12_counter_10 : decode cX12_counter 10 = .ok (.ifCond .eq 12, 3) := by decide +kernel
theorem dX12_counter_13 : decode cX12_counter 13 = .ok (.iload_n 2, 1) := by decide +kernel
theorem dX12_counter_14 : decode cX12_counter 14 = .ok (.iconst 0, 1) := by decide +kernel
theorem dX12_counter_15 : decode cX12_counter 15 = .ok (.iconst 2, 1) := by decide +kernel
theorem dX12_counter_16 : decode cX12_counter 16 = .ok (.invokestatic 264, 3) := by decide +kernel
theorem dX12_counter_19 : decode cX12_counter 19 = .ok (.ifCond .ne 5, 3) := by decide +kernel
theorem dX12_counter_22 : decode cX12_counter 22 = .ok (.iconst (-1), 1) := by decide +kernel
theorem dX12_counter_23 : decode cX12_counter 23 = .ok (.ireturn, 1) := by decide +kernel
theorem dX12_counter_24 : decode cX12_counter 24 = .ok (.iload_n 2, 1) := by decide +kernel
theorem dX12_counter_25 : decode cX12_counter 25 = .ok (.iconst 2, 1) := by decide +kernel
theorem dX12_counter_26 : decode cX12_counter 26 = .ok (.if_icmp .ge 26, 3) := by decide +kernel
theorem dX12_counter_29 : decode cX12_counter 29 = .ok (.iload_n 2, 1) := by decide +kernel
theorem dX12_counter_30 : decode cX12_counter 30 = .ok (.ifCond .ne 12, 3) := by decide +kernel
theorem dX12_counter_33 : decode cX12_counter 33 = .ok (.aload_n 0, 1) := by decide +kernel
theorem dX12_counter_34 : decode cX12_counter 34 = .ok (.getfield 23, 3) := by decide +kernel
theorem dX12_counter_37 : decode cX12_counter 37 = .ok (.iload_n 1, 1) := by decide +kernel
theorem dX12_counter_38 : decode cX12_counter 38 = .ok (.iaload, 1) := by decide +kernel
theorem dX12_counter_39 : decode cX12_counter 39 = .ok (.goto 12, 3) := by decide +kernel
theorem dX12_counter_42 : decode cX12_counter 42 = .ok (.aload_n 0, 1) := by decide +kernel
theorem dX12_counter_43 : decode cX12_counter 43 = .ok (.getfield 111, 3) := by decide +kernel
theorem dX12_counter_46 : decode cX12_counter 46 = .ok (.bipush 10, 2) := by decide +kernel
theorem dX12_counter_48 : decode cX12_counter 48 = .ok (.iload_n 1, 1) := by decide +kernel
theorem dX12_counter_49 : decode cX12_counter 49 = .ok (.iadd, 1) := by decide +kernel
theorem dX12_counter_50 : decode cX12_counter 50 = .ok (.iaload, 1) := by decide +kernel
theorem dX12_counter_51 : decode cX12_counter 51 = .ok (.ireturn, 1) := by decide +kernel
theorem dX12_counter_52 : decode cX12_counter 52 = .ok (.iconst 0, 1) := by decide +kernel
theorem dX12_counter_53 : decode cX12_counter 53 = .ok (.istore_n 3, 1) := by decide +kernel
theorem dX12_counter_54 : decode cX12_counter 54 = .ok (.iconst 0, 1) := by decide +kernel
theorem dX12_counter_55 : decode cX12_counter 55 = .ok (.istore 4, 2) := by decide +kernel
theorem dX12_counter_57 : decode cX12_counter 57 = .ok (.iload 4, 2) := by decide +kernel
theorem dX12_counter_59 : decode cX12_counter 59 = .ok (.aload_n 0, 1) := by decide +kernel
theorem dX12_counter_60 : decode cX12_counter 60 = .ok (.getfield 13, 3) := by decide +kernel
theorem dX12_counter_63 : decode cX12_counter 63 = .ok (.iconst 1, 1) := by decide +kernel
theorem dX12_counter_64 : decode cX12_counter 64 = .ok (.iaload, 1) := by decide +kernel
theorem dX12_counter_65 : decode cX12_counter 65 = .ok (.if_icmp .ge 47, 3) := by decide +kernel
theorem dX12_counter_68 : decode cX12_counter 68 = .ok (.iload_n 3, 1) := by decide +kernel
theorem dX12_counter_69 : decode cX12_counter 69 = .ok (.aload_n 0, 1) := by decide +kernel
theorem dX12_counter_70 : decode cX12_counter 70 = .ok (.getfield 111, 3) := by decide +kernel
theorem dX12_counter_73 : decode cX12_counter 73 = .ok (.bipush 22, 2) := by decide +kernel
theorem dX12_counter_75 : decode cX12_counter 75 = .ok (.iload 4, 2) := by decide +kernel
theorem dX12_counter_77 : decode cX12_counter 77 = .ok (.iadd, 1) := by decide +kernel
theorem dX12_counter_78 : decode cX12_counter 78 = .ok (.iaload, 1) := by decide +kernel
theorem dX12_counter_79 : decode cX12_counter 79 = .ok (.ifCond .ne 24, 3) := by decide +kernel
theorem dX12_counter_82 : decode cX12_counter 82 = .ok (.aload_n 0, 1) := by decide +kernel
theorem dX12_counter_83 : decode cX12_counter 83 = .ok (.getfield 111, 3) := by decide +kernel
theorem dX12_counter_86 : decode cX12_counter 86 = .ok (.bipush 28, 2) := by decide +kernel
theorem dX12_counter_88 : decode cX12_counter 88 = .ok (.iload 4, 2) := by decide +kernel
theorem dX12_counter_90 : decode cX12_counter 90 = .ok (.iadd, 1) := by decide +kernel
theorem dX12_counter_91 : decode cX12_counter 91 = .ok (.iaload, 1) := by decide +kernel
theorem dX12_counter_92 : decode cX12_counter 92 = .ok (.iload_n 1, 1) := by decide +kernel
theorem dX12_counter_93 : decode cX12_counter 93 = .ok (.if_icmp .ne 10, 3) := by decide +kernel
theorem dX12_counter_96 : decode cX12_counter 96 = .ok (.iconst 1, 1) := by decide +kernel
theorem dX12_counter_97 : decode cX12_counter 97 = .ok (.iload 4, 2) := by decide +kernel
theorem dX12_counter_99 : decode cX12_counter 99 = .ok (.ishl, 1) := by decide +kernel
theorem dX12_counter_100 : decode cX12_counter 100 = .ok (.goto 4, 3) := by decide +kernel
theorem dX12_counter_103 : decode cX12_counter 103 = .ok (.iconst 0, 1) := by decide +kernel
theorem dX12_counter_104 : decode cX12_counter 104 = .ok (.ior, 1) := by decide +kernel
theorem dX12_counter_105 : decode cX12_counter 105 = .ok (.istore_n 3, 1) := by decide +kernel
theorem dX12_counter_106 : decode cX12_counter 106 = .ok (.iinc 4 1, 3) := by decide +kernel
theorem dX12_counter_109 : decode cX12_counter 109 = .ok (.goto (-52), 3) := by decide +kernel
theorem dX12_counter_112 : decode cX12_counter 112 = .ok (.iload_n 3, 1) := by decide +kernel
theorem dX12_counter_113 : decode cX12_counter 113 = .ok (.ireturn, 1) := by decide +kernel
theorem lk_RX12_403 : Cond.methodLink RX12 403 yX12_isCounter ∈ tG := inG (i := 1747) (by decide +kernel) (by decide +kernel)
theorem m_X12_isCounter : MV Y_X12_isCounter 1 12 := ⟨⟨inG (i := 1750) (by decide +kernel) (by decide +kernel), inG (i := 110) (by decide +kernel) (by decide +kernel), by decide, by decide, by decide, by decide +kernel⟩, inG (i := 1749) (by decide +kernel) (by decide +kernel), inG (i := 60) (by decide +kernel) (by decide +kernel), by decide⟩
def P_X12_counter_J103  (x1 : Int) (x4 : Int) (y0 : Int) (R : Int → Int → St → Prop) (Q : Int → St → Prop) (σ : St) : Prop :=
  R (bO y0 0) (wi (x4 + 1)) σ
set_option maxRecDepth 20000 in
set_option maxHeartbeats 2000000 in
theorem e_P_X12_counter_J103  {x1 : Int} {x4 : Int} {y0 : Int} {R : Int → Int → St → Prop} {Q : Int → St → Prop} {σ : St}  (hR : ∀ x3 x4 σ, R x3 x4 σ → E Y_X12_counter 1 0 0 (QI Q) ww 0 0 57 [some (vR 12 0), some (vI x1), none, some (vI x3), some (vI x4)] [] σ) (h : P_X12_counter_J103 x1 x4 y0 R Q σ) : E Y_X12_counter 1 0 0 (QI Q) ww 0 0 103 [some (vR 12 0), some (vI x1), none, none, some (vI x4)] [vI y0] σ := by
  unfold P_X12_counter_J103 at h
  refine E_ic dX12_counter_103 rfl ?_
  refine E_ior dX12_counter_104 ?_
  refine E_istore_n (ls' := [some (vR 12 0), some (vI x1), none, some (vI (bO y0 0)), some (vI x4)]) dX12_counter_105 rfl (by decide) rfl ?_
  refine E_iinc (ls' := [some (vR 12 0), some (vI x1), none, some (vI (bO y0 0)), some (vI (wi (x4 + 1)))]) dX12_counter_106 rfl (by decide) rfl rfl ?_
  refine E_goto (tgt := 57) dX12_counter_109 (by decide) ?_
  exact hR _ _ _ h
def P_X12_counter_L57  (x1 : Int)  (Q : Int → St → Prop) : Nat → Int → Int → St → Prop
  | 0, _, _, _ => False
  | n + 1, x3, x4, σ => (if (σ 1310 0 1) ≤ x4 then Q x3 σ else 0 ≤ wi (22 + x4) ∧ wi (22 + x4) < 46 ∧ (if (σ 1346 0 (wi (22 + x4))) = 0 then 0 ≤ wi (28 + x4) ∧ wi (28 + x4) < 46 ∧ (if (σ 1346 0 (wi (28 + x4))) = x1 then (P_X12_counter_L57 x1 Q n) (bO x3 (bL 1 x4)) (wi (x4 + 1)) σ else P_X12_counter_J103 x1 x4 x3 (P_X12_counter_L57 x1 Q n) Q σ) else P_X12_counter_J103 x1 x4 x3 (P_X12_counter_L57 x1 Q n) Q σ))
set_option maxRecDepth 20000 in
set_option maxHeartbeats 2000000 in
theorem e_P_X12_counter_L57  {x1 : Int}  {Q : Int → St → Prop}   : ∀ (n : Nat) (x3 : Int) (x4 : Int) (σ : St), P_X12_counter_L57 x1 Q n x3 x4 σ → E Y_X12_counter 1 0 0 (QI Q) ww 0 0 57 [some (vR 12 0), some (vI x1), none, some (vI x3), some (vI x4)] [] σ := by
  intro n
  induction n with
  | zero => intro x3 x4 σ h; exact h.elim
  | succ n hR =>
    intro x3 x4 σ h
    unfold P_X12_counter_L57 at h
    refine E_iload dX12_counter_57 rfl ?_
    refine E_aload_n dX12_counter_59 rfl rfl ?_
    refine E_getr (i := 0) dX12_counter_60 fl_RX12_13 rfl rfl (go_12_10 _ _) ?_
    refine E_ic dX12_counter_63 rfl ?_
    refine E_iald dX12_counter_64 sh_1310 (by decide) (by decide) ?_
    refine E_icmp_ge (tgt := 112) dX12_counter_65 (by decide) (fun hc => ?_) (fun hc => ?_)
    · have h := Eq.mp (if_pos hc) h
      refine E_iload_n dX12_counter_112 rfl rfl ?_
      exact E_iret dX12_counter_113 rfl ⟨_, rfl, rfl, h⟩
    · have h := Eq.mp (if_neg hc) h
      refine E_iload_n dX12_counter_68 rfl rfl ?_
      refine E_aload_n dX12_counter_69 rfl rfl ?_
      refine E_getr (i := 0) dX12_counter_70 fl_RX12_111 rfl rfl (go_12_46 _ _) ?_
      refine E_bp dX12_counter_73 rfl ?_
      refine E_iload dX12_counter_75 rfl ?_
      refine E_iadd dX12_counter_77 ?_
      obtain ⟨hg0, hg1, h⟩ := h
      refine E_iald dX12_counter_78 sh_1346 hg0 hg1 ?_
      refine E_if_ne (tgt := 103) dX12_counter_79 (by decide) (fun hc => ?_) (fun hc => ?_)
      · have h := Eq.mp (if_neg hc) h
        refine E_wk2 [some (vR 12 0), some (vI x1), none, none, some (vI x4)] ⟨rfl, ⟨rfl, ⟨rfl, trivial⟩⟩⟩ ?_
        exact e_P_X12_counter_J103 hR h
      · have h := Eq.mp (if_pos hc) h
        refine E_aload_n dX12_counter_82 rfl rfl ?_
        refine E_getr (i := 0) dX12_counter_83 fl_RX12_111 rfl rfl (go_12_46 _ _) ?_
        refine E_bp dX12_counter_86 rfl ?_
        refine E_iload dX12_counter_88 rfl ?_
        refine E_iadd dX12_counter_90 ?_
        obtain ⟨hg0, hg1, h⟩ := h
        refine E_iald dX12_counter_91 sh_1346 hg0 hg1 ?_
        refine E_iload_n dX12_counter_92 rfl rfl ?_
        refine E_icmp_ne (tgt := 103) dX12_counter_93 (by decide) (fun hc => ?_) (fun hc => ?_)
        · have h := Eq.mp (if_neg hc) h
          refine E_wk2 [some (vR 12 0), some (vI x1), none, none, some (vI x4)] ⟨rfl, ⟨rfl, ⟨rfl, trivial⟩⟩⟩ ?_
          exact e_P_X12_counter_J103 hR h
        · have h := Eq.mp (if_pos hc) h
          refine E_ic dX12_counter_96 rfl ?_
          refine E_iload dX12_counter_97 rfl ?_
          refine E_ishl dX12_counter_99 ?_
          refine E_goto (tgt := 104) dX12_counter_100 (by decide) ?_
          refine E_ior dX12_counter_104 ?_
          refine E_istore_n (ls' := [some (vR 12 0), some (vI x1), none, some (vI (bO x3 (bL 1 x4))), some (vI x4)]) dX12_counter_105 rfl (by decide) rfl ?_
          refine E_iinc (ls' := [some (vR 12 0), some (vI x1), none, some (vI (bO x3 (bL 1 x4))), some (vI (wi (x4 + 1)))]) dX12_counter_106 rfl (by decide) rfl rfl ?_
          refine E_goto (tgt := 57) dX12_counter_109 (by decide) ?_
          exact hR _ _ _ h
def P_X12_counter  (x1 : Int) (x2 : Int) (σ : St) (Q : Int → St → Prop) : Prop :=
  P_X12_isCounter x1 (up σ 12 0 0 0) (fun r_2 σ_1 => (if r_2 = 0 then Q (-1) σ_1 else P_X12_within x2 0 2 σ_1 (fun r_4 σ_3 => (if r_4 = 0 then Q (-1) σ_3 else (if 2 ≤ x2 then P_X12_counter_L57 x1 Q FU 0 0 σ_3 else (if x2 = 0 then 0 ≤ x1 ∧ x1 < 12 ∧ Q (σ_3 1313 0 x1) σ_3 else 0 ≤ wi (10 + x1) ∧ wi (10 + x1) < 46 ∧ Q (σ_3 1346 0 (wi (10 + x1))) σ_3))))))
set_option maxRecDepth 20000 in
set_option maxHeartbeats 2000000 in
theorem s_X12_counter   {x1 : Int} {x2 : Int} {σ : St} {Q : Int → St → Prop} (h : P_X12_counter x1 x2 σ Q) : Cn Y_X12_counter 1 0 0 ww σ [vR 12 0, vI x1, vI x2] (QI Q) := by
  refine Cn_of [some (vR 12 0), some (vI x1), some (vI x2), none, none] (by decide) (Nat.le_of_ble_eq_true rfl) rfl ?_
  unfold P_X12_counter at h
  refine E_aload_n dX12_counter_0 rfl rfl ?_
  refine E_ic dX12_counter_1 rfl ?_
  refine E_puti dX12_counter_2 fl_RX12_141 rfl rfl rfl ?_
  refine E_aload_n dX12_counter_5 rfl rfl ?_
  refine E_iload_n dX12_counter_6 rfl rfl ?_
  refine E_callV (Y' := Y_X12_isCounter) (as := [vI x1]) (st := []) dX12_counter_7 lk_RX12_403 m_X12_isCounter (by decide) (Nat.le_refl _) (Nat.le_refl _) rfl rfl (Nat.le_of_ble_eq_true rfl) (s_X12_isCounter h) (fun r0 B0 σ_1 h => ?_)
  obtain ⟨r_2, rfl, rfl, h⟩ := h
  refine E_if_eq (tgt := 22) dX12_counter_10 (by decide) (fun hc => ?_) (fun hc => ?_)
  · have h := Eq.mp (if_pos hc) h
    refine E_ic dX12_counter_22 rfl ?_
    exact E_iret dX12_counter_23 rfl ⟨_, rfl, rfl, h⟩
  · have h := Eq.mp (if_neg hc) h
    refine E_iload_n dX12_counter_13 rfl rfl ?_
    refine E_ic dX12_counter_14 rfl ?_
    refine E_ic dX12_counter_15 rfl ?_
    refine E_callS (Y' := Y_X12_within) (as := [vI x2, vI 0, vI 2]) (st := []) dX12_counter_16 lk_RX12_264 m_X12_within (by decide) (Nat.le_refl _) (Nat.le_refl _) rfl rfl (Nat.le_of_ble_eq_true rfl) (s_X12_within h) (fun r0 B0 σ_3 h => ?_)
    obtain ⟨r_4, rfl, rfl, h⟩ := h
    refine E_if_ne (tgt := 24) dX12_counter_19 (by decide) (fun hc => ?_) (fun hc => ?_)
    · have h := Eq.mp (if_neg hc) h
      refine E_iload_n dX12_counter_24 rfl rfl ?_
      refine E_ic dX12_counter_25 rfl ?_
      refine E_icmp_ge (tgt := 52) dX12_counter_26 (by decide) (fun hc => ?_) (fun hc => ?_)
      · have h := Eq.mp (if_pos hc) h
        refine E_ic dX12_counter_52 rfl ?_
        refine E_istore_n (ls' := [some (vR 12 0), some (vI x1), some (vI x2), some (vI 0), none]) dX12_counter_53 rfl (by decide) rfl ?_
        refine E_ic dX12_counter_54 rfl ?_
        refine E_istore (ls' := [some (vR 12 0), some (vI x1), some (vI x2), some (vI 0), some (vI 0)]) dX12_counter_55 (by decide) rfl ?_
        refine E_wk2 [some (vR 12 0), some (vI x1), none, some (vI 0), some (vI 0)] ⟨rfl, ⟨rfl, ⟨rfl, ⟨rfl, trivial⟩⟩⟩⟩ ?_
        refine e_P_X12_counter_L57  _ _ _ _ h
      · have h := Eq.mp (if_neg hc) h
        refine E_iload_n dX12_counter_29 rfl rfl ?_
        refine E_if_ne (tgt := 42) dX12_counter_30 (by decide) (fun hc => ?_) (fun hc => ?_)
        · have h := Eq.mp (if_neg hc) h
          refine E_aload_n dX12_counter_42 rfl rfl ?_
          refine E_getr (i := 0) dX12_counter_43 fl_RX12_111 rfl rfl (go_12_46 _ _) ?_
          refine E_bp dX12_counter_46 rfl ?_
          refine E_iload_n dX12_counter_48 rfl rfl ?_
          refine E_iadd dX12_counter_49 ?_
          obtain ⟨hg0, hg1, h⟩ := h
          refine E_iald dX12_counter_50 sh_1346 hg0 hg1 ?_
          exact E_iret dX12_counter_51 rfl ⟨_, rfl, rfl, h⟩
        · have h := Eq.mp (if_pos hc) h
          refine E_aload_n dX12_counter_33 rfl rfl ?_
          refine E_getr (i := 0) dX12_counter_34 fl_RX12_23 rfl rfl (go_12_13 _ _) ?_
          refine E_iload_n dX12_counter_37 rfl rfl ?_
          obtain ⟨hg0, hg1, h⟩ := h
          refine E_iald dX12_counter_38 sh_1313 hg0 hg1 ?_
          refine E_goto (tgt := 51) dX12_counter_39 (by decide) ?_
          exact E_iret dX12_counter_51 rfl ⟨_, rfl, rfl, h⟩
    · have h := Eq.mp (if_pos hc) h
      refine E_ic dX12_counter_22 rfl ?_
      exact E_iret dX12_counter_23 rfl ⟨_, rfl, rfl, h⟩
abbrev Y_X12_ball : My := (yX12_ball, cX12_ball, 3, some .int)
theorem dX12_ball_0 : decode cX12_ball 0 = .ok (.aload_n 0, 1) := by decide +kernel
theorem dX12_ball_1 : decode cX12_ball 1 = .ok (.iconst 0, 1) := by decide +kernel
theorem dX12_ball_2 : decode cX12_ball 2 = .ok (.putfield 141, 3) := by decide +kernel
theorem dX12_ball_5 : decode cX12_ball 5 = .ok (.aload_n 0, 1) := by decide +kernel
theorem dX12_ball_6 : decode cX12_ball 6 = .ok (.iload_n 1, 1) := by decide +kernel
theorem dX12_ball_7 : decode cX12_ball 7 = .ok (.invokevirtual 406, 3) := by decide +kernel
theorem dX12_ball_10 : decode cX12_ball 10 = .ok (.ifCond .eq 12, 3) := by decide +kernel
theorem dX12_ball_13 : decode cX12_ball 13 = .ok (.iload_n 2, 1) := by decide +kernel
theorem dX12_ball_14 : decode cX12_ball 14 = .ok (.iconst 0, 1) := by decide +kernel
theorem dX12_ball_15 : decode cX12_ball 15 = .ok (.iconst 5, 1) := by decide +kernel
theorem dX12_ball_16 : decode cX12_ball 16 = .ok (.invokestatic 264, 3) := by decide +kernel
theorem dX12_ball_19 : decode cX12_ball 19 = .ok (.ifCond .ne 6, 3) := by decide +kernel
theorem dX12_ball_22 : decode cX12_ball 22 = .ok (.bipush (-2), 2) := by decide +kernel
theorem dX12_ball_24 : decode cX12_ball 24 = .ok (.ireturn, 1) := by decide +kernel
theorem dX12_ball_25 : decode cX12_ball 25 = .ok (.iload_n 2, 1) := by decide +kernel
theorem dX12_ball_26 : decode cX12_ball 26 = .ok (.iconst 3, 1) := by decide +kernel
theorem dX12_ball_27 : decode cX12_ball 27 = .ok (.if_icmp .ge 40, 3) := by decide +kernel
theorem dX12_ball_30 : decode cX12_ball 30 = .ok (.iload_n 2, 1) := by decide +kernel
theorem dX12_ball_31 : decode cX12_ball 31 = .ok (.ifCond .ne 12, 3) := by decide +kernel
theorem dX12_ball_34 : decode cX12_ball 34 = .ok (.aload_n 0, 1) := by decide +kernel
theorem dX12_ball_35 : decode cX12_ball 35 = .ok (.getfield 29, 3) := by decide +kernel
theorem dX12_ball_38 : decode cX12_ball 38 = .ok (.iload_n 1, 1) := by decide +kernel
theorem dX12_ball_39 : decode cX12_ball 39 = .ok (.iaload, 1) := by decide +kernel
theorem dX12_ball_40 : decode cX12_ball 40 = .ok (.goto 26, 3) := by decide +kernel
theorem dX12_ball_43 : decode cX12_ball 43 = .ok (.iload_n 2, 1) := by decide +kernel
theorem dX12_ball_44 : decode cX12_ball 44 = .ok (.iconst 1, 1) := by decide +kernel
theorem dX12_ball_45 : decode cX12_ball 45 = .ok (.if_icmp .ne 15, 3) := by decide +kernel
theorem dX12_ball_48 : decode cX12_ball 48 = .ok (.aload_n 0, 1) := by decide +kernel
theorem dX12_ball_49 : decode cX12_ball 49 = .ok (.getfield 111, 3) := by decide +kernel
theorem dX12_ball_52 : decode cX12_ball 52 = .ok (.bipush 16, 2) := by decide +kernel
theorem dX12_ball_54 : decode cX12_ball 54 = .ok (.iload_n 1, 1) := by decide +kernel
theorem dX12_ball_55 : decode cX12_ball 55 = .ok (.iadd, 1) := by decide +kernel
theorem dX12_ball_56 : decode cX12_ball 56 = .ok (.iaload, 1) := by decide +kernel
theorem dX12_ball_57 : decode cX12_ball 57 = .ok (.goto 9, 3) := by decide +kernel
theorem dX12_ball_60 : decode cX12_ball 60 = .ok (.aload_n 0, 1) := by decide +kernel
theorem dX12_ball_61 : decode cX12_ball 61 = .ok (.getfield 35, 3) := by decide +kernel
theorem dX12_ball_64 : decode cX12_ball 64 = .ok (.iload_n 1, 1) := by decide +kernel
theorem dX12_ball_65 : decode cX12_ball 65 = .ok (.iaload, 1) := by decide +kernel
theorem dX12_ball_66 : decode cX12_ball 66 = .ok (.ireturn, 1) := by decide +kernel
theorem dX12_ball_67 : decode cX12_ball 67 = .ok (.iload_n 2, 1) := by decide +kernel
theorem dX12_ball_68 : decode cX12_ball 68 = .ok (.iconst 3, 1) := by decide +kernel
theorem dX12_ball_69 : decode cX12_ball 69 = .ok (.if_icmp .ne 31, 3) := by decide +kernel
theorem dX12_ball_72 : decode cX12_ball 72 = .ok (.aload_n 0, 1) := by decide +kernel
theorem dX12_ball_73 : decode cX12_ball 73 = .ok (.getfield 111, 3) := by decide +kernel
theorem dX12_ball_76 : decode cX12_ball 76 = .ok (.bipush 22, 2) := by decide +kernel
theorem dX12_ball_78 : decode cX12_ball 78 = .ok (.iload_n 1, 1) := by decide +kernel
theorem dX12_ball_79 : decode cX12_ball 79 = .ok (.iadd, 1) := by decide +kernel
theorem dX12_ball_80 : decode cX12_ball 80 = .ok (.iaload, 1) := by decide +kernel
theorem dX12_ball_81 : decode cX12_ball 81 = .ok (.ifCond .ne 15, 3) := by decide +kernel
theorem dX12_ball_84 : decode cX12_ball 84 = .ok (.aload_n 0, 1) := by decide +kernel
theorem dX12_ball_85 : decode cX12_ball 85 = .ok (.getfield 111, 3) := by decide +kernel
theorem dX12_ball_88 : decode cX12_ball 88 = .ok (.bipush 28, 2) := by decide +kernel
theorem dX12_ball_90 : decode cX12_ball 90 = .ok (.iload_n 1, 1) := by decide +kernel
theorem dX12_ball_91 : decode cX12_ball 91 = .ok (.iadd, 1) := by decide +kernel
theorem dX12_ball_92 : decode cX12_ball 92 = .ok (.iaload, 1) := by decide +kernel
theorem dX12_ball_93 : decode cX12_ball 93 = .ok (.goto 33, 3) := by decide +kernel
theorem dX12_ball_96 : decode cX12_ball 96 = .ok (.iconst (-1), 1) := by decide +kernel
theorem dX12_ball_97 : decode cX12_ball 97 = .ok (.goto 29, 3) := by decide +kernel
theorem dX12_ball_100 : decode cX12_ball 100 = .ok (.iload_n 2, 1) := by decide +kernel
theorem dX12_ball_101 : decode cX12_ball 101 = .ok (.iconst 4, 1) := by decide +kernel
theorem dX12_ball_102 : decode cX12_ball 102 = .ok (.if_icmp .ne 15, 3) := by decide +kernel
theorem dX12_ball_105 : decode cX12_ball 105 = .ok (.aload_n 0, 1) := by decide +kernel
theorem dX12_ball_106 : decode cX12_ball 106 = .ok (.getfield 111, 3) := by decide +kernel
theorem dX12_ball_109 : decode cX12_ball 109 = .ok (.bipush 22, 2) := by decide +kernel
theorem dX12_ball_111 : decode cX12_ball 111 = .ok (.iload_n 1, 1) := by decide +kernel
theorem dX12_ball_112 : decode cX12_ball 112 = .ok (.iadd, 1) := by decide +kernel
theorem dX12_ball_113 : decode cX12_ball 113 = .ok (.iaload, 1) := by decide +kernel
theorem dX12_ball_114 : decode cX12_ball 114 = .ok (.goto 12, 3) := by decide +kernel
theorem dX12_ball_117 : decode cX12_ball 117 = .ok (.aload_n 0, 1) := by decide +kernel
theorem dX12_ball_118 : decode cX12_ball 118 = .ok (.getfield 111, 3) := by decide +kernel
theorem dX12_ball_121 : decode cX12_ball 121 = .ok (.bipush 40, 2) := by decide +kernel
theorem dX12_ball_123 : decode cX12_ball 123 = .ok (.iload_n 1, 1) := by decide +kernel
theorem dX12_ball_124 : decode cX12_ball 124 = .ok (.iadd, 1) := by decide +kernel
theorem dX12_ball_125 : decode cX12_ball 125 = .ok (.iaload, 1) := by decide +kernel
theorem dX12_ball_126 : decode cX12_ball 126 = .ok (.ireturn, 1) := by decide +kernel
theorem lk_RX12_406 : Cond.methodLink RX12 406 yX12_isBall ∈ tG := inG (i := 1755) (by decide +kernel) (by decide +kernel)
theorem m_X12_isBall : MV Y_X12_isBall 1 12 := ⟨⟨inG (i := 1758) (by decide +kernel) (by decide +kernel), inG (i := 110) (by decide +kernel) (by decide +kernel), by decide, by decide, by decide, by decide +kernel⟩, inG (i := 1757) (by decide +kernel) (by decide +kernel), inG (i := 61) (by decide +kernel) (by decide +kernel), by decide⟩
def P_X12_ball  (x1 : Int) (x2 : Int) (σ : St) (Q : Int → St → Prop) : Prop :=
  P_X12_isBall x1 (up σ 12 0 0 0) (fun r_2 σ_1 => (if r_2 = 0 then Q (-2) σ_1 else P_X12_within x2 0 5 σ_1 (fun r_4 σ_3 => (if r_4 = 0 then Q (-2) σ_3 else (if 3 ≤ x2 then (if x2 = 3 then 0 ≤ wi (22 + x1) ∧ wi (22 + x1) < 46 ∧ (if (σ_3 1346 0 (wi (22 + x1))) = 0 then 0 ≤ wi (28 + x1) ∧ wi (28 + x1) < 46 ∧ Q (σ_3 1346 0 (wi (28 + x1))) σ_3 else Q (-1) σ_3) else (if x2 = 4 then 0 ≤ wi (22 + x1) ∧ wi (22 + x1) < 46 ∧ Q (σ_3 1346 0 (wi (22 + x1))) σ_3 else 0 ≤ wi (40 + x1) ∧ wi (40 + x1) < 46 ∧ Q (σ_3 1346 0 (wi (40 + x1))) σ_3)) else (if x2 = 0 then 0 ≤ x1 ∧ x1 < 12 ∧ Q (σ_3 1315 0 x1) σ_3 else (if x2 = 1 then 0 ≤ wi (16 + x1) ∧ wi (16 + x1) < 46 ∧ Q (σ_3 1346 0 (wi (16 + x1))) σ_3 else 0 ≤ x1 ∧ x1 < 12 ∧ Q (σ_3 1317 0 x1) σ_3)))))))
set_option maxRecDepth 20000 in
set_option maxHeartbeats 2000000 in
theorem s_X12_ball   {x1 : Int} {x2 : Int} {σ : St} {Q : Int → St → Prop} (h : P_X12_ball x1 x2 σ Q) : Cn Y_X12_ball 1 0 0 ww σ [vR 12 0, vI x1, vI x2] (QI Q) := by
  refine Cn_of [some (vR 12 0), some (vI x1), some (vI x2)] (by decide) (Nat.le_of_ble_eq_true rfl) rfl ?_
  unfold P_X12_ball at h
  refine E_aload_n dX12_ball_0 rfl rfl ?_
  refine E_ic dX12_ball_1 rfl ?_
  refine E_puti dX12_ball_2 fl_RX12_141 rfl rfl rfl ?_
  refine E_aload_n dX12_ball_5 rfl rfl ?_
  refine E_iload_n dX12_ball_6 rfl rfl ?_
  refine E_callV (Y' := Y_X12_isBall) (as := [vI x1]) (st := []) dX12_ball_7 lk_RX12_406 m_X12_isBall (by decide) (Nat.le_refl _) (Nat.le_refl _) rfl rfl (Nat.le_of_ble_eq_true rfl) (s_X12_isBall h) (fun r0 B0 σ_1 h => ?_)
  obtain ⟨r_2, rfl, rfl, h⟩ := h
  refine E_if_eq (tgt := 22) dX12_ball_10 (by decide) (fun hc => ?_) (fun hc => ?_)
  · have h := Eq.mp (if_pos hc) h
    refine E_bp dX12_ball_22 rfl ?_
    exact E_iret dX12_ball_24 rfl ⟨_, rfl, rfl, h⟩
  · have h := Eq.mp (if_neg hc) h
    refine E_iload_n dX12_ball_13 rfl rfl ?_
    refine E_ic dX12_ball_14 rfl ?_
    refine E_ic dX12_ball_15 rfl ?_
    refine E_callS (Y' := Y_X12_within) (as := [vI x2, vI 0, vI 5]) (st := []) dX12_ball_16 lk_RX12_264 m_X12_within (by decide) (Nat.le_refl _) (Nat.le_refl _) rfl rfl (Nat.le_of_ble_eq_true rfl) (s_X12_within h) (fun r0 B0 σ_3 h => ?_)
    obtain ⟨r_4, rfl, rfl, h⟩ := h
    refine E_if_ne (tgt := 25) dX12_ball_19 (by decide) (fun hc => ?_) (fun hc => ?_)
    · have h := Eq.mp (if_neg hc) h
      refine E_iload_n dX12_ball_25 rfl rfl ?_
      refine E_ic dX12_ball_26 rfl ?_
      refine E_icmp_ge (tgt := 67) dX12_ball_27 (by decide) (fun hc => ?_) (fun hc => ?_)
      · have h := Eq.mp (if_pos hc) h
        refine E_iload_n dX12_ball_67 rfl rfl ?_
        refine E_ic dX12_ball_68 rfl ?_
        refine E_icmp_ne (tgt := 100) dX12_ball_69 (by decide) (fun hc => ?_) (fun hc => ?_)
        · have h := Eq.mp (if_neg hc) h
          refine E_iload_n dX12_ball_100 rfl rfl ?_
          refine E_ic dX12_ball_101 rfl ?_
          refine E_icmp_ne (tgt := 117) dX12_ball_102 (by decide) (fun hc => ?_) (fun hc => ?_)
          · have h := Eq.mp (if_neg hc) h
            refine E_aload_n dX12_ball_117 rfl rfl ?_
            refine E_getr (i := 0) dX12_ball_118 fl_RX12_111 rfl rfl (go_12_46 _ _) ?_
            refine E_bp dX12_ball_121 rfl ?_
            refine E_iload_n dX12_ball_123 rfl rfl ?_
            refine E_iadd dX12_ball_124 ?_
            obtain ⟨hg0, hg1, h⟩ := h
            refine E_iald dX12_ball_125 sh_1346 hg0 hg1 ?_
            exact E_iret dX12_ball_126 rfl ⟨_, rfl, rfl, h⟩
          · have h := Eq.mp (if_pos hc) h
            refine E_aload_n dX12_ball_105 rfl rfl ?_
            refine E_getr (i := 0) dX12_ball_106 fl_RX12_111 rfl rfl (go_12_46 _ _) ?_
            refine E_bp dX12_ball_109 rfl ?_
            refine E_iload_n dX12_ball_111 rfl rfl ?_
            refine E_iadd dX12_ball_112 ?_
            obtain ⟨hg0, hg1, h⟩ := h
            refine E_iald dX12_ball_113 sh_1346 hg0 hg1 ?_
            refine E_goto (tgt := 126) dX12_ball_114 (by decide) ?_
            exact E_iret dX12_ball_126 rfl ⟨_, rfl, rfl, h⟩
        · have h := Eq.mp (if_pos hc) h
          refine E_aload_n dX12_ball_72 rfl rfl ?_
          refine E_getr (i := 0) dX12_ball_73 fl_RX12_111 rfl rfl (go_12_46 _ _) ?_
          refine E_bp dX12_ball_76 rfl ?_
          refine E_iload_n dX12_ball_78 rfl rfl ?_
          refine E_iadd dX12_ball_79 ?_
          obtain ⟨hg0, hg1, h⟩ := h
          refine E_iald dX12_ball_80 sh_1346 hg0 hg1 ?_
          refine E_if_ne (tgt := 96) dX12_ball_81 (by decide) (fun hc => ?_) (fun hc => ?_)
          · have h := Eq.mp (if_neg hc) h
            refine E_ic dX12_ball_96 rfl ?_
            refine E_goto (tgt := 126) dX12_ball_97 (by decide) ?_
            exact E_iret dX12_ball_126 rfl ⟨_, rfl, rfl, h⟩
          · have h := Eq.mp (if_pos hc) h
            refine E_aload_n dX12_ball_84 rfl rfl ?_
            refine E_getr (i := 0) dX12_ball_85 fl_RX12_111 rfl rfl (go_12_46 _ _) ?_
            refine E_bp dX12_ball_88 rfl ?_
            refine E_iload_n dX12_ball_90 rfl rfl ?_
            refine E_iadd dX12_ball_91 ?_
            obtain ⟨hg0, hg1, h⟩ := h
            refine E_iald dX12_ball_92 sh_1346 hg0 hg1 ?_
            refine E_goto (tgt := 126) dX12_ball_93 (by decide) ?_
            exact E_iret dX12_ball_126 rfl ⟨_, rfl, rfl, h⟩
      · have h := Eq.mp (if_neg hc) h
        refine E_iload_n dX12_ball_30 rfl rfl ?_
        refine E_if_ne (tgt := 43) dX12_ball_31 (by decide) (fun hc => ?_) (fun hc => ?_)
        · have h := Eq.mp (if_neg hc) h
          refine E_iload_n dX12_ball_43 rfl rfl ?_
          refine E_ic dX12_ball_44 rfl ?_
          refine E_icmp_ne (tgt := 60) dX12_ball_45 (by decide) (fun hc => ?_) (fun hc => ?_)
          · have h := Eq.mp (if_neg hc) h
            refine E_aload_n dX12_ball_60 rfl rfl ?_
            refine E_getr (i := 0) dX12_ball_61 fl_RX12_35 rfl rfl (go_12_17 _ _) ?_
            refine E_iload_n dX12_ball_64 rfl rfl ?_
            obtain ⟨hg0, hg1, h⟩ := h
            refine E_iald dX12_ball_65 sh_1317 hg0 hg1 ?_
            exact E_iret dX12_ball_66 rfl ⟨_, rfl, rfl, h⟩
          · have h := Eq.mp (if_pos hc) h
            refine E_aload_n dX12_ball_48 rfl rfl ?_
            refine E_getr (i := 0) dX12_ball_49 fl_RX12_111 rfl rfl (go_12_46 _ _) ?_
            refine E_bp dX12_ball_52 rfl ?_
            refine E_iload_n dX12_ball_54 rfl rfl ?_
            refine E_iadd dX12_ball_55 ?_
            obtain ⟨hg0, hg1, h⟩ := h
            refine E_iald dX12_ball_56 sh_1346 hg0 hg1 ?_
            refine E_goto (tgt := 66) dX12_ball_57 (by decide) ?_
            exact E_iret dX12_ball_66 rfl ⟨_, rfl, rfl, h⟩
        · have h := Eq.mp (if_pos hc) h
          refine E_aload_n dX12_ball_34 rfl rfl ?_
          refine E_getr (i := 0) dX12_ball_35 fl_RX12_29 rfl rfl (go_12_15 _ _) ?_
          refine E_iload_n dX12_ball_38 rfl rfl ?_
          obtain ⟨hg0, hg1, h⟩ := h
          refine E_iald dX12_ball_39 sh_1315 hg0 hg1 ?_
          refine E_goto (tgt := 66) dX12_ball_40 (by decide) ?_
          exact E_iret dX12_ball_66 rfl ⟨_, rfl, rfl, h⟩
    · have h := Eq.mp (if_pos hc) h
      refine E_bp dX12_ball_22 rfl ?_
      exact E_iret dX12_ball_24 rfl ⟨_, rfl, rfl, h⟩
abbrev Y_X12_keeps : My := (yX12_keeps, cX12_keeps, 2, none)
theorem dX12_keeps_0 : decode cX12_keeps 0 = .ok (.aload_n 0, 1) := by decide +kernel
theorem dX12_keeps_1 : decode cX12_keeps 1 = .ok (.getfield 346, 3) := by decide +kernel
theorem dX12_keeps_4 : decode cX12_keeps 4 = .ok (.bipush 16, 2) := by decide +kernel
theorem dX12_keeps_6 : decode cX12_keeps 6 = .ok (.if_icmp .ne 43, 3) := by decide +kernel
theorem dX12_keeps_9 : decode cX12_keeps 9 = .ok (.iconst 0, 1) := by decide +kernel
theorem dX12_keeps_10 : decode cX12_keeps 10 = .ok (.istore_n 1, 1) := by decide +kernel
theorem dX12_keeps_11 : decode cX12_keeps 11 = .ok (.iload_n 1, 1) := by decide +kernel
theorem dX12_keeps_12 : decode cX12_keeps 12 = .ok (.sipush 690, 3) := by decide +kernel
theorem dX12_keeps_15 : decode cX12_keeps 15 = .ok (.if_icmp .ge 24, 3) := by decide +kernel
theorem dX12_keeps_18 : decode cX12_keeps 18 = .ok (.aload_n 0, 1) := by decide +kernel
theorem dX12_keeps_19 : decode cX12_keeps 19 = .ok (.getfield 123, 3) := by decide +kernel
theorem dX12_keeps_22 : decode cX12_keeps 22 = .ok (.iload_n 1, 1) := by decide +kernel
theorem dX12_keeps_23 : decode cX12_keeps 23 = .ok (.aload_n 0, 1) := by decide +kernel
theorem dX12_keeps_24 : decode cX12_keeps 24 = .ok (.getfield 123, 3) := by decide +kernel
theorem dX12_keeps_27 : decode cX12_keeps 27 = .ok (.iload_n 1, 1) := by decide +kernel
theorem dX12_keeps_28 : decode cX12_keeps 28 = .ok (.bipush 46, 2) := by decide +kernel
theorem dX12_keeps_30 : decode cX12_keeps 30 = .ok (.iadd, 1) := by decide +kernel
theorem dX12_keeps_31 : decode cX12_keeps 31 = .ok (.iaload, 1) := by decide +kernel
theorem dX12_keeps_32 : decode cX12_keeps 32 = .ok (.iastore, 1) := by decide +kernel
theorem dX12_keeps_33 : decode cX12_keeps 33 = .ok (.iinc 1 1, 3) := by decide +kernel
theorem dX12_keeps_36 : decode cX12_keeps 36 = .ok (.goto (-25), 3) := by decide +kernel
theorem dX12_keeps_39 : decode cX12_keeps 39 = .ok (.aload_n 0, 1) := by decide +kernel
theorem dX12_keeps_40 : decode cX12_keeps 40 = .ok (.dup, 1) := by decide +kernel
theorem dX12_keeps_41 : decode cX12_keeps 41 = .ok (.getfield 346, 3) := by decide +kernel
theorem dX12_keeps_44 : decode cX12_keeps 44 = .ok (.iconst 1, 1) := by decide +kernel
theorem dX12_keeps_45 : decode cX12_keeps 45 = .ok (.isub, 1) := by decide +kernel
theorem dX12_keeps_46 : decode cX12_keeps 46 = .ok (.putfield 346, 3) := by decide +kernel
theorem dX12_keeps_49 : decode cX12_keeps 49 = .ok (.aload_n 0, 1) := by decide +kernel
theorem dX12_keeps_50 : decode cX12_keeps 50 = .ok (.getfield 111, 3) := by decide +kernel
theorem dX12_keeps_53 : decode cX12_keeps 53 = .ok (.iconst 0, 1) := by decide +kernel
theorem dX12_keeps_54 : decode cX12_keeps 54 = .ok (.aload_n 0, 1) := by decide +kernel
theorem dX12_keeps_55 : decode cX12_keeps 55 = .ok (.getfield 123, 3) := by decide +kernel
theorem dX12_keeps_58 : decode cX12_keeps 58 = .ok (.bipush 46, 2) := by decide +kernel
theorem dX12_keeps_60 : decode cX12_keeps 60 = .ok (.aload_n 0, 1) := by decide +kernel
theorem dX12_keeps_61 : decode cX12_keeps 61 = .ok (.getfield 346, 3) := by decide +kernel
theorem dX12_keeps_64 : decode cX12_keeps 64 = .ok (.imul, 1) := by decide +kernel
theorem dX12_keeps_65 : decode cX12_keeps 65 = .ok (.invokestatic 409, 3) := by decide +kernel
theorem dX12_keeps_68 : decode cX12_keeps 68 = .ok (.aload_n 0, 1) := by decide +kernel
theorem dX12_keeps_69 : decode cX12_keeps 69 = .ok (.dup, 1) := by decide +kernel
theorem dX12_keeps_70 : decode cX12_keeps 70 = .ok (.getfield 346, 3) := by decide +kernel
theorem dX12_keeps_73 : decode cX12_keeps 73 = .ok (.iconst 1, 1) := by decide +kernel
theorem dX12_keeps_74 : decode cX12_keeps 74 = .ok (.iadd, 1) := by decide +kernel
theorem dX12_keeps_75 : decode cX12_keeps 75 = .ok (.putfield 346, 3) := by decide +kernel
theorem dX12_keeps_78 : decode cX12_keeps 78 = .ok (.return_, 1) := by decide +kernel
theorem fl_RX12_123 : FL RX12 123 12 50 := ⟨inG (i := 1450) (by decide +kernel) (by decide +kernel), by decide, by decide⟩
theorem go_12_50 (σ : St) (i : Nat) : go σ 12 i 50 = (1350, i) := rfl
theorem lk_RX12_409 : Cond.methodLink RX12 409 yX12_copies ∈ tG := inG (i := 1771) (by decide +kernel) (by decide +kernel)
theorem m_X12_copies : MS Y_X12_copies 4 := ⟨⟨inG (i := 1773) (by decide +kernel) (by decide +kernel), inG (i := 110) (by decide +kernel) (by decide +kernel), by decide, by decide, by decide, by decide +kernel⟩, inG (i := 1772) (by decide +kernel) (by decide +kernel)⟩
theorem sh_1350 : shp 1350 = (0, 736) := rfl
def P_X12_keeps_J49    (Q : St → Prop) (σ : St) : Prop :=
  P_X12_copies 1346 0 0 1350 0 (wi (46 * (σ 12 0 52))) σ (fun σ_1 => Q (up σ_1 12 0 52 (wi ((σ_1 12 0 52) + 1))))
set_option maxRecDepth 20000 in
set_option maxHeartbeats 2000000 in
theorem e_P_X12_keeps_J49    {Q : St → Prop} {σ : St}   (h : P_X12_keeps_J49  Q σ) : E Y_X12_keeps 1 0 0 (QV Q) ww 0 0 49 [some (vR 12 0), none] [] σ := by
  unfold P_X12_keeps_J49 at h
  refine E_aload_n dX12_keeps_49 rfl rfl ?_
  refine E_getr (i := 0) dX12_keeps_50 fl_RX12_111 rfl rfl (go_12_46 _ _) ?_
  refine E_ic dX12_keeps_53 rfl ?_
  refine E_aload_n dX12_keeps_54 rfl rfl ?_
  refine E_getr (i := 0) dX12_keeps_55 fl_RX12_123 rfl rfl (go_12_50 _ _) ?_
  refine E_bp dX12_keeps_58 rfl ?_
  refine E_aload_n dX12_keeps_60 rfl rfl ?_
  refine E_geti (i := 0) dX12_keeps_61 fl_RX12_346 rfl ?_
  refine E_imul dX12_keeps_64 ?_
  refine E_callS (Y' := Y_X12_copies) (as := [vR 1346 0, vI 0, vR 1350 0, vI (wi (46 * (σ 12 0 52)))]) (st := []) dX12_keeps_65 lk_RX12_409 m_X12_copies (by decide) (Nat.le_refl _) (Nat.le_refl _) rfl rfl (Nat.le_of_ble_eq_true rfl) (s_X12_copies h) (fun r0 B0 σ_1 h => ?_)
  obtain ⟨rfl, rfl, h⟩ := h
  refine E_aload_n dX12_keeps_68 rfl rfl ?_
  refine E_dup dX12_keeps_69 (fun _ q => by cases q) ?_
  refine E_geti (i := 0) dX12_keeps_70 fl_RX12_346 rfl ?_
  refine E_ic dX12_keeps_73 rfl ?_
  refine E_iadd dX12_keeps_74 ?_
  refine E_puti dX12_keeps_75 fl_RX12_346 rfl rfl rfl ?_
  exact E_vret dX12_keeps_78 rfl ⟨rfl, rfl, h⟩
def P_X12_keeps_L11   (K : St → Prop) (Q : St → Prop) : Nat → Int → St → Prop
  | 0, _, _ => False
  | n + 1, x1, σ => (if 690 ≤ x1 then K σ else 0 ≤ wi (x1 + 46) ∧ wi (x1 + 46) < 736 ∧ 0 ≤ x1 ∧ x1 < 736 ∧ (P_X12_keeps_L11 K Q n) (wi (x1 + 1)) (up σ 1350 0 x1 (σ 1350 0 (wi (x1 + 46)))))
set_option maxRecDepth 20000 in
set_option maxHeartbeats 2000000 in
theorem e_P_X12_keeps_L11   {K : St → Prop} {Q : St → Prop}  (hK : ∀ σ, K σ → E Y_X12_keeps 1 0 0 (QV Q) ww 0 0 39 [some (vR 12 0), none] [] σ) : ∀ (n : Nat) (x1 : Int) (σ : St), P_X12_keeps_L11 K Q n x1 σ → E Y_X12_keeps 1 0 0 (QV Q) ww 0 0 11 [some (vR 12 0), some (vI x1)] [] σ := by
  intro n
  induction n with
  | zero => intro x1 σ h; exact h.elim
  | succ n hR =>
    intro x1 σ h
    unfold P_X12_keeps_L11 at h
    refine E_iload_n dX12_keeps_11 rfl rfl ?_
    refine E_sp dX12_keeps_12 rfl ?_
    refine E_icmp_ge (tgt := 39) dX12_keeps_15 (by decide) (fun hc => ?_) (fun hc => ?_)
    · have h := Eq.mp (if_pos hc) h
      refine E_wk2 [some (vR 12 0), none] ⟨rfl, trivial⟩ ?_
      exact hK _ h
    · have h := Eq.mp (if_neg hc) h
      refine E_aload_n dX12_keeps_18 rfl rfl ?_
      refine E_getr (i := 0) dX12_keeps_19 fl_RX12_123 rfl rfl (go_12_50 _ _) ?_
      refine E_iload_n dX12_keeps_22 rfl rfl ?_
      refine E_aload_n dX12_keeps_23 rfl rfl ?_
      refine E_getr (i := 0) dX12_keeps_24 fl_RX12_123 rfl rfl (go_12_50 _ _) ?_
      refine E_iload_n dX12_keeps_27 rfl rfl ?_
      refine E_bp dX12_keeps_28 rfl ?_
      refine E_iadd dX12_keeps_30 ?_
      obtain ⟨hg0, hg1, h⟩ := h
      refine E_iald dX12_keeps_31 sh_1350 hg0 hg1 ?_
      obtain ⟨hg0, hg1, h⟩ := h
      refine E_iast dX12_keeps_32 sh_1350 hg0 hg1 ?_
      refine E_iinc (ls' := [some (vR 12 0), some (vI (wi (x1 + 1)))]) dX12_keeps_33 rfl (by decide) rfl rfl ?_
      refine E_goto (tgt := 11) dX12_keeps_36 (by decide) ?_
      exact hR _ _ h
def P_X12_keeps   (σ : St) (Q : St → Prop) : Prop :=
  (if (σ 12 0 52) = 16 then P_X12_keeps_L11 (fun σ_2 => P_X12_keeps_J49 Q (up σ_2 12 0 52 (wi ((σ_2 12 0 52) - 1)))) Q FU 0 σ else P_X12_keeps_J49 Q σ)
set_option maxRecDepth 20000 in
set_option maxHeartbeats 2000000 in
theorem s_X12_keeps    {σ : St} {Q : St → Prop} (h : P_X12_keeps  σ Q) : Cn Y_X12_keeps 1 0 0 ww σ [vR 12 0] (QV Q) := by
  refine Cn_of [some (vR 12 0), none] (by decide) (Nat.le_of_ble_eq_true rfl) rfl ?_
  unfold P_X12_keeps at h
  refine E_aload_n dX12_keeps_0 rfl rfl ?_
  refine E_geti (i := 0) dX12_keeps_1 fl_RX12_346 rfl ?_
  refine E_bp dX12_keeps_4 rfl ?_
  refine E_icmp_ne (tgt := 49) dX12_keeps_6 (by decide) (fun hc => ?_) (fun hc => ?_)
  · have h := Eq.mp (if_neg hc) h
    exact e_P_X12_keeps_J49 h
  · have h := Eq.mp (if_pos hc) h
    refine E_ic dX12_keeps_9 rfl ?_
    refine E_istore_n (ls' := [some (vR 12 0), some (vI 0)]) dX12_keeps_10 rfl (by decide) rfl ?_
    refine e_P_X12_keeps_L11 ?_ _ _ _ h
    · intro σ_2 h
      refine E_aload_n dX12_keeps_39 rfl rfl ?_
      refine E_dup dX12_keeps_40 (fun _ q => by cases q) ?_
      refine E_geti (i := 0) dX12_keeps_41 fl_RX12_346 rfl ?_
      refine E_ic dX12_keeps_44 rfl ?_
      refine E_isub dX12_keeps_45 ?_
      refine E_puti dX12_keeps_46 fl_RX12_346 rfl rfl rfl ?_
      exact e_P_X12_keeps_J49 h
