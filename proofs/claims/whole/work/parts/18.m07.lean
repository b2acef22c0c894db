abbrev Y_X12_readsWears : My := (yX12_readsWears, cX12_readsWears, 1, some .boolean)
theorem dX12_readsWears_0 : decode cX12_readsWears 0 = .ok (.aload_n 0, 1) := by decide +kernel
theorem dX12_readsWears_1 : decode cX12_readsWears 1 = .ok (.getfield 44, 3) := by decide +kernel
theorem dX12_readsWears_4 : decode cX12_readsWears 4 = .ok (.iconst 1, 1) := by decide +kernel
theorem dX12_readsWears_5 : decode cX12_readsWears 5 = .ok (.iaload, 1) := by decide +kernel
theorem dX12_readsWears_6 : decode cX12_readsWears 6 = .ok (.aload_n 0, 1) := by decide +kernel
theorem dX12_readsWears_7 : decode cX12_readsWears 7 = .ok (.getfield 41, 3) := by decide +kernel
theorem dX12_readsWears_10 : decode cX12_readsWears 10 = .ok (.iconst 1, 1) := by decide +kernel
theorem dX12_readsWears_11 : decode cX12_readsWears 11 = .ok (.iaload, 1) := by decide +kernel
theorem dX12_readsWears_12 : decode cX12_readsWears 12 = .ok (.if_icmp .le 9, 3) := by decide +kernel
theorem dX12_readsWears_15 : decode cX12_readsWears 15 = .ok (.aload_n 0, 1) := by decide +kernel
theorem dX12_readsWears_16 : decode cX12_readsWears 16 = .ok (.iconst 3, 1) := by decide +kernel
theorem dX12_readsWears_17 : decode cX12_readsWears 17 = .ok (.invokevirtual 205, 3) := by decide +kernel
theorem dX12_readsWears_20 : decode cX12_readsWears 20 = .ok (.ireturn, 1) := by decide +kernel
theorem dX12_readsWears_21 : decode cX12_readsWears 21 = .ok (.aload_n 0, 1) := by decide +kernel
theorem dX12_readsWears_22 : decode cX12_readsWears 22 = .ok (.invokevirtual 212, 3) := by decide +kernel
theorem dX12_readsWears_25 : decode cX12_readsWears 25 = .ok (.aload_n 0, 1) := by decide +kernel
theorem dX12_readsWears_26 : decode cX12_readsWears 26 = .ok (.getfield 41, 3) := by decide +kernel
theorem dX12_readsWears_29 : decode cX12_readsWears 29 = .ok (.iconst 1, 1) := by decide +kernel
theorem dX12_readsWears_30 : decode cX12_readsWears 30 = .ok (.aload_n 0, 1) := by decide +kernel
theorem dX12_readsWears_31 : decode cX12_readsWears 31 = .ok (.getfield 180, 3) := by decide +kernel
theorem dX12_readsWears_34 : decode cX12_readsWears 34 = .ok (.iastore, 1) := by decide +kernel
theorem dX12_readsWears_35 : decode cX12_readsWears 35 = .ok (.aload_n 0, 1) := by decide +kernel
theorem dX12_readsWears_36 : decode cX12_readsWears 36 = .ok (.invokevirtual 308, 3) := by decide +kernel
theorem dX12_readsWears_39 : decode cX12_readsWears 39 = .ok (.ifCond .ne 5, 3) := by decide +kernel
theorem dX12_readsWears_42 : decode cX12_readsWears 42 = .ok (.iconst 0, 1) := by decide +kernel
theorem dX12_readsWears_43 : decode cX12_readsWears 43 = .ok (.ireturn, 1) := by decide +kernel
theorem dX12_readsWears_44 : decode cX12_readsWears 44 = .ok (.aload_n 0, 1) := by decide +kernel
theorem dX12_readsWears_45 : decode cX12_readsWears 45 = .ok (.getfield 44, 3) := by decide +kernel
theorem dX12_readsWears_48 : decode cX12_readsWears 48 = .ok (.iconst 1, 1) := by decide +kernel
theorem dX12_readsWears_49 : decode cX12_readsWears 49 = .ok (.aload_n 0, 1) := by decide +kernel
theorem dX12_readsWears_50 : decode cX12_readsWears 50 = .ok (.getfield 180, 3) := by decide +kernel
theorem dX12_readsWears_53 : decode cX12_readsWears 53 = .ok (.iastore, 1) := by decide +kernel
theorem dX12_readsWears_54 : decode cX12_readsWears 54 = .ok (.iconst 1, 1) := by decide +kernel
theorem dX12_readsWears_55 : decode cX12_readsWears 55 = .ok (.ireturn, 1) := by decide +kernel
theorem lk_RX12_308 : Cond.methodLink RX12 308 yX12_reads ∈ tG := inG (i := 1701) (by decide +kernel) (by decide +kernel)
theorem m_X12_reads : MV Y_X12_reads 0 12 := ⟨⟨inG (i := 1704) (by decide +kernel) (by decide +kernel), inG (i := 110) (by decide +kernel) (by decide +kernel), by decide, by decide, by decide, by decide +kernel⟩, inG (i := 1703) (by decide +kernel) (by decide +kernel), inG (i := 53) (by decide +kernel) (by decide +kernel), by decide⟩
def P_X12_readsWears   (σ : St) (Q : Int → St → Prop) : Prop :=
  (if (σ 1320 0 1) ≤ (σ 1319 0 1) then P_X12_nextToken σ (fun σ_1 => P_X12_reads (up σ_1 1319 0 1 (σ_1 12 0 22)) (fun r_3 σ_2 => (if r_3 = 0 then Q 0 σ_2 else Q 1 (up σ_2 1320 0 1 (σ_2 12 0 22))))) else P_X12_fails 3 σ (fun r_5 σ_4 => (r_5 = 0 ∨ r_5 = 1) ∧ Q r_5 σ_4))
set_option maxRecDepth 20000 in
set_option maxHeartbeats 2000000 in
theorem s_X12_readsWears    {σ : St} {Q : Int → St → Prop} (h : P_X12_readsWears  σ Q) : Cn Y_X12_readsWears 3 0 0 ww σ [vR 12 0] (QI Q) := by
  refine Cn_of [some (vR 12 0)] (by decide) (Nat.le_of_ble_eq_true rfl) rfl ?_
  unfold P_X12_readsWears at h
  refine E_aload_n dX12_readsWears_0 rfl rfl ?_
  refine E_getr (i := 0) dX12_readsWears_1 fl_RX12_44 rfl rfl (go_12_20 _ _) ?_
  refine E_ic dX12_readsWears_4 rfl ?_
  refine E_iald dX12_readsWears_5 sh_1320 (by decide) (by decide) ?_
  refine E_aload_n dX12_readsWears_6 rfl rfl ?_
  refine E_getr (i := 0) dX12_readsWears_7 fl_RX12_41 rfl rfl (go_12_19 _ _) ?_
  refine E_ic dX12_readsWears_10 rfl ?_
  refine E_iald dX12_readsWears_11 sh_1319 (by decide) (by decide) ?_
  refine E_icmp_le (tgt := 21) dX12_readsWears_12 (by decide) (fun hc => ?_) (fun hc => ?_)
  · have h := Eq.mp (if_pos hc) h
    refine E_aload_n dX12_readsWears_21 rfl rfl ?_
    refine E_callV (Y' := Y_X12_nextToken) (as := []) (st := []) dX12_readsWears_22 lk_RX12_212 m_X12_nextToken (by decide) (Nat.le_refl _) (Nat.le_refl _) rfl rfl (Nat.le_of_ble_eq_true rfl) (s_X12_nextToken h) (fun r0 B0 σ_1 h => ?_)
    obtain ⟨rfl, rfl, h⟩ := h
    refine E_aload_n dX12_readsWears_25 rfl rfl ?_
    refine E_getr (i := 0) dX12_readsWears_26 fl_RX12_41 rfl rfl (go_12_19 _ _) ?_
    refine E_ic dX12_readsWears_29 rfl ?_
    refine E_aload_n dX12_readsWears_30 rfl rfl ?_
    refine E_geti (i := 0) dX12_readsWears_31 fl_RX12_180 rfl ?_
    refine E_iast dX12_readsWears_34 sh_1319 (by decide) (by decide) ?_
    refine E_aload_n dX12_readsWears_35 rfl rfl ?_
    refine E_callV (Y' := Y_X12_reads) (as := []) (st := []) dX12_readsWears_36 lk_RX12_308 m_X12_reads (by decide) (Nat.le_refl _) (Nat.le_refl _) rfl rfl (Nat.le_of_ble_eq_true rfl) (s_X12_reads h) (fun r0 B0 σ_2 h => ?_)
    obtain ⟨r_3, rfl, rfl, h⟩ := h
    refine E_if_ne (tgt := 44) dX12_readsWears_39 (by decide) (fun hc => ?_) (fun hc => ?_)
    · have h := Eq.mp (if_neg hc) h
      refine E_aload_n dX12_readsWears_44 rfl rfl ?_
      refine E_getr (i := 0) dX12_readsWears_45 fl_RX12_44 rfl rfl (go_12_20 _ _) ?_
      refine E_ic dX12_readsWears_48 rfl ?_
      refine E_aload_n dX12_readsWears_49 rfl rfl ?_
      refine E_geti (i := 0) dX12_readsWears_50 fl_RX12_180 rfl ?_
      refine E_iast dX12_readsWears_53 sh_1320 (by decide) (by decide) ?_
      refine E_ic dX12_readsWears_54 rfl ?_
      exact E_zret dX12_readsWears_55 rfl (by decide) ⟨_, rfl, rfl, h⟩
    · have h := Eq.mp (if_pos hc) h
      refine E_ic dX12_readsWears_42 rfl ?_
      exact E_zret dX12_readsWears_43 rfl (by decide) ⟨_, rfl, rfl, h⟩
  · have h := Eq.mp (if_neg hc) h
    refine E_aload_n dX12_readsWears_15 rfl rfl ?_
    refine E_ic dX12_readsWears_16 rfl ?_
    refine E_callV (Y' := Y_X12_fails) (as := [vI 3]) (st := []) dX12_readsWears_17 lk_RX12_205 m_X12_fails (by decide) (Nat.le_refl _) (Nat.le_refl _) rfl rfl (Nat.le_of_ble_eq_true rfl) (s_X12_fails h) (fun r0 B0 σ_4 h => ?_)
    obtain ⟨r_5, rfl, rfl, h⟩ := h
    obtain ⟨hg0, h⟩ := h
    exact E_zret dX12_readsWears_20 rfl hg0 ⟨_, rfl, rfl, h⟩
abbrev Y_X12_begins : My := (yX12_begins, cX12_begins, 1, none)
theorem dX12_begins_0 : decode cX12_begins 0 = .ok (.aload_n 0, 1) := by decide +kernel
theorem dX12_begins_1 : decode cX12_begins 1 = .ok (.aload_n 0, 1) := by decide +kernel
theorem dX12_begins_2 : decode cX12_begins 2 = .ok (.getfield 147, 3) := by decide +kernel
theorem dX12_begins_5 : decode cX12_begins 5 = .ok (.putfield 150, 3) := by decide +kernel
theorem dX12_begins_8 : decode cX12_begins 8 = .ok (.aload_n 0, 1) := by decide +kernel
theorem dX12_begins_9 : decode cX12_begins 9 = .ok (.iconst 0, 1) := by decide +kernel
theorem dX12_begins_10 : decode cX12_begins 10 = .ok (.putfield 147, 3) := by decide +kernel
theorem dX12_begins_13 : decode cX12_begins 13 = .ok (.aload_n 0, 1) := by decide +kernel
theorem dX12_begins_14 : decode cX12_begins 14 = .ok (.iconst 0, 1) := by decide +kernel
theorem dX12_begins_15 : decode cX12_begins 15 = .ok (.putfield 153, 3) := by decide +kernel
theorem dX12_begins_18 : decode cX12_begins 18 = .ok (.aload_n 0, 1) := by decide +kernel
theorem dX12_begins_19 : decode cX12_begins 19 = .ok (.invokevirtual 212, 3) := by decide +kernel
theorem dX12_begins_22 : decode cX12_begins 22 = .ok (.return_, 1) := by decide +kernel
def P_X12_begins   (σ : St) (Q : St → Prop) : Prop :=
  P_X12_nextToken (up (up (up σ 12 0 3 (σ 12 0 1)) 12 0 1 0) 12 0 4 0) (fun σ_1 => Q σ_1)
set_option maxRecDepth 20000 in
set_option maxHeartbeats 2000000 in
theorem s_X12_begins    {σ : St} {Q : St → Prop} (h : P_X12_begins  σ Q) : Cn Y_X12_begins 2 0 0 ww σ [vR 12 0] (QV Q) := by
  refine Cn_of [some (vR 12 0)] (by decide) (Nat.le_of_ble_eq_true rfl) rfl ?_
  unfold P_X12_begins at h
  refine E_aload_n dX12_begins_0 rfl rfl ?_
  refine E_aload_n dX12_begins_1 rfl rfl ?_
  refine E_geti (i := 0) dX12_begins_2 fl_RX12_147 rfl ?_
  refine E_puti dX12_begins_5 fl_RX12_150 rfl rfl rfl ?_
  refine E_aload_n dX12_begins_8 rfl rfl ?_
  refine E_ic dX12_begins_9 rfl ?_
  refine E_puti dX12_begins_10 fl_RX12_147 rfl rfl rfl ?_
  refine E_aload_n dX12_begins_13 rfl rfl ?_
  refine E_ic dX12_begins_14 rfl ?_
  refine E_puti dX12_begins_15 fl_RX12_153 rfl rfl rfl ?_
  refine E_aload_n dX12_begins_18 rfl rfl ?_
  refine E_callV (Y' := Y_X12_nextToken) (as := []) (st := []) dX12_begins_19 lk_RX12_212 m_X12_nextToken (by decide) (Nat.le_refl _) (Nat.le_refl _) rfl rfl (Nat.le_of_ble_eq_true rfl) (s_X12_nextToken h) (fun r0 B0 σ_1 h => ?_)
  obtain ⟨rfl, rfl, h⟩ := h
  exact E_vret dX12_begins_22 rfl ⟨rfl, rfl, h⟩
abbrev Y_X12_readsAll : My := (yX12_readsAll, cX12_readsAll, 2, some .boolean)
theorem dX12_readsAll_0 : decode cX12_readsAll 0 = .ok (.iconst 0, 1) := by decide +kernel
theorem dX12_readsAll_1 : decode cX12_readsAll 1 = .ok (.istore_n 1, 1) := by decide +kernel
theorem dX12_readsAll_2 : decode cX12_readsAll 2 = .ok (.iload_n 1, 1) := by decide +kernel
theorem dX12_readsAll_3 : decode cX12_readsAll 3 = .ok (.iconst 4, 1) := by decide +kernel
theorem dX12_readsAll_4 : decode cX12_readsAll 4 = .ok (.if_icmp .ge 27, 3) := by decide +kernel
theorem dX12_readsAll_7 : decode cX12_readsAll 7 = .ok (.aload_n 0, 1) := by decide +kernel
theorem dX12_readsAll_8 : decode cX12_readsAll 8 = .ok (.getfield 13, 3) := by decide +kernel
theorem dX12_readsAll_11 : decode cX12_readsAll 11 = .ok (.iconst 4, 1) := by decide +kernel
theorem dX12_readsAll_12 : decode cX12_readsAll 12 = .ok (.iload_n 1, 1) := by decide +kernel
theorem dX12_readsAll_13 : decode cX12_readsAll 13 = .ok (.iadd, 1) := by decide +kernel
theorem dX12_readsAll_14 : decode cX12_readsAll 14 = .ok (.iload_n 1, 1) := by decide +kernel
theorem dX12_readsAll_15 : decode cX12_readsAll 15 = .ok (.iconst 2, 1) := by decide +kernel
theorem dX12_readsAll_16 : decode cX12_readsAll 16 = .ok (.if_icmp .ne 7, 3) := by decide +kernel
theorem dX12_readsAll_19 : decode cX12_readsAll 19 = .ok (.iconst 2, 1) := by decide +kernel
theorem dX12_readsAll_20 : decode cX12_readsAll 20 = .ok (.goto 4, 3) := by decide +kernel
theorem dX12_readsAll_23 : decode cX12_readsAll 23 = .ok (.iconst 0, 1) := by decide +kernel
theorem dX12_readsAll_24 : decode cX12_readsAll 24 = .ok (.iastore, 1) := by decide +kernel
theorem dX12_readsAll_25 : decode cX12_readsAll 25 = .ok (.iinc 1 1, 3) := by decide +kernel
theorem dX12_readsAll_28 : decode cX12_readsAll 28 = .ok (.goto (-26), 3) := by decide +kernel
theorem dX12_readsAll_31 : decode cX12_readsAll 31 = .ok (.aload_n 0, 1) := by decide +kernel
theorem dX12_readsAll_32 : decode cX12_readsAll 32 = .ok (.iconst 0, 1) := by decide +kernel
theorem dX12_readsAll_33 : decode cX12_readsAll 33 = .ok (.putfield 304, 3) := by decide +kernel
theorem dX12_readsAll_36 : decode cX12_readsAll 36 = .ok (.aload_n 0, 1) := by decide +kernel
theorem dX12_readsAll_37 : decode cX12_readsAll 37 = .ok (.getfield 41, 3) := by decide +kernel
theorem dX12_readsAll_40 : decode cX12_readsAll 40 = .ok (.iconst 1, 1) := by decide +kernel
theorem dX12_readsAll_41 : decode cX12_readsAll 41 = .ok (.sipush 1000, 3) := by decide +kernel
theorem dX12_readsAll_44 : decode cX12_readsAll 44 = .ok (.iastore, 1) := by decide +kernel
theorem dX12_readsAll_45 : decode cX12_readsAll 45 = .ok (.aload_n 0, 1) := by decide +kernel
theorem dX12_readsAll_46 : decode cX12_readsAll 46 = .ok (.getfield 44, 3) := by decide +kernel
theorem dX12_readsAll_49 : decode cX12_readsAll 49 = .ok (.iconst 1, 1) := by decide +kernel
theorem dX12_readsAll_50 : decode cX12_readsAll 50 = .ok (.sipush 1000, 3) := by decide +kernel
theorem dX12_readsAll_53 : decode cX12_readsAll 53 = .ok (.iastore, 1) := by decide +kernel
theorem dX12_readsAll_54 : decode cX12_readsAll 54 = .ok (.aload_n 0, 1) := by decide +kernel
theorem dX12_readsAll_55 : decode cX12_readsAll 55 = .ok (.sipush 1000, 3) := by decide +kernel
theorem dX12_readsAll_58 : decode cX12_readsAll 58 = .ok (.putfield 180, 3) := by decide +kernel
theorem dX12_readsAll_61 : decode cX12_readsAll 61 = .ok (.aload_n 0, 1) := by decide +kernel
theorem dX12_readsAll_62 : decode cX12_readsAll 62 = .ok (.invokevirtual 311, 3) := by decide +kernel
theorem dX12_readsAll_65 : decode cX12_readsAll 65 = .ok (.aload_n 0, 1) := by decide +kernel
theorem dX12_readsAll_66 : decode cX12_readsAll 66 = .ok (.getfield 166, 3) := by decide +kernel
theorem dX12_readsAll_69 : decode cX12_readsAll 69 = .ok (.ifCond .eq 103, 3) := by decide +kernel
theorem dX12_readsAll_72 : decode cX12_readsAll 72 = .ok (.aload_n 0, 1) := by decide +kernel
theorem dX12_readsAll_73 : decode cX12_readsAll 73 = .ok (.ldc2_w 228, 3) := by decide +kernel
theorem dX12_readsAll_76 : decode cX12_readsAll 76 = .ok (.invokevirtual 197, 3) := by decide +kernel
theorem dX12_readsAll_79 : decode cX12_readsAll 79 = .ok (.ifCond .eq 10, 3) := by decide +kernel
theorem dX12_readsAll_82 : decode cX12_readsAll 82 = .ok (.aload_n 0, 1) := by decide +kernel
theorem dX12_readsAll_83 : decode cX12_readsAll 83 = .ok (.invokevirtual 314, 3) := by decide +kernel
theorem dX12_readsAll_86 : decode cX12_readsAll 86 = .ok (.goto 76, 3) := by decide +kernel
theorem dX12_readsAll_89 : decode cX12_readsAll 89 = .ok (.aload_n 0, 1) := by decide +kernel
theorem dX12_readsAll_90 : decode cX12_readsAll 90 = .ok (.ldc2_w 234, 3) := by decide +kernel
theorem dX12_readsAll_93 : decode cX12_readsAll 93 = .ok (.invokevirtual 197, 3) := by decide +kernel
theorem dX12_readsAll_96 : decode cX12_readsAll 96 = .ok (.ifCond .eq 10, 3) := by decide +kernel
theorem dX12_readsAll_99 : decode cX12_readsAll 99 = .ok (.aload_n 0, 1) := by decide +kernel
theorem dX12_readsAll_100 : decode cX12_readsAll 100 = .ok (.invokevirtual 317, 3) := by decide +kernel
theorem dX12_readsAll_103 : decode cX12_readsAll 103 = .ok (.goto 59, 3) := by decide +kernel
theorem dX12_readsAll_106 : decode cX12_readsAll 106 = .ok (.aload_n 0, 1) := by decide +kernel
theorem dX12_readsAll_107 : decode cX12_readsAll 107 = .ok (.ldc2_w 240, 3) := by decide +kernel
theorem dX12_readsAll_110 : decode cX12_readsAll 110 = .ok (.invokevirtual 197, 3) := by decide +kernel
theorem dX12_readsAll_113 : decode cX12_readsAll 113 = .ok (.ifCond .eq 10, 3) := by decide +kernel
theorem dX12_readsAll_116 : decode cX12_readsAll 116 = .ok (.aload_n 0, 1) := by decide +kernel
theorem dX12_readsAll_117 : decode cX12_readsAll 117 = .ok (.invokevirtual 320, 3) := by decide +kernel
theorem dX12_readsAll_120 : decode cX12_readsAll 120 = .ok (.goto 42, 3) := by decide +kernel
theorem dX12_readsAll_123 : decode cX12_readsAll 123 = .ok (.aload_n 0, 1) := by decide +kernel
theorem dX12_readsAll_124 : decode cX12_readsAll 124 = .ok (.ldc2_w 242, 3) := by decide +kernel
theorem dX12_readsAll_127 : decode cX12_readsAll 127 = .ok (.invokevirtual 197, 3) := by decide +kernel
theorem dX12_readsAll_130 : decode cX12_readsAll 130 = .ok (.ifCond .eq 10, 3) := by decide +kernel
theorem dX12_readsAll_133 : decode cX12_readsAll 133 = .ok (.aload_n 0, 1) := by decide +kernel
theorem dX12_readsAll_134 : decode cX12_readsAll 134 = .ok (.invokevirtual 323, 3) := by decide +kernel
theorem dX12_readsAll_137 : decode cX12_readsAll 137 = .ok (.goto 25, 3) := by decide +kernel
theorem dX12_readsAll_140 : decode cX12_readsAll 140 = .ok (.aload_n 0, 1) := by decide +kernel
theorem dX12_readsAll_141 : decode cX12_readsAll 141 = .ok (.ldc2_w 244, 3) := by decide +kernel
theorem dX12_readsAll_144 : decode cX12_readsAll 144 = .ok (.invokevirtual 197, 3) := by decide +kernel
theorem dX12_readsAll_147 : decode cX12_readsAll 147 = .ok (.ifCond .eq 10, 3) := by decide +kernel
theorem dX12_readsAll_150 : decode cX12_readsAll 150 = .ok (.aload_n 0, 1) := by decide +kernel
theorem dX12_readsAll_151 : decode cX12_readsAll 151 = .ok (.invokevirtual 326, 3) := by decide +kernel
theorem dX12_readsAll_154 : decode cX12_readsAll 154 = .ok (.goto 8, 3) := by decide +kernel
theorem dX12_readsAll_157 : decode cX12_readsAll 157 = .ok (.aload_n 0, 1) := by decide +kernel
theorem dX12_readsAll_158 : decode cX12_readsAll 158 = .ok (.iconst 1, 1) := by decide +kernel
theorem dX12_readsAll_159 : decode cX12_readsAll 159 = .ok (.invokevirtual 205, 3) := by decide +kernel
theorem dX12_readsAll_162 : decode cX12_readsAll 162 = .ok (.istore_n 1, 1) := by decide +kernel
theorem dX12_readsAll_163 : decode cX12_readsAll 163 = .ok (.iload_n 1, 1) := by decide +kernel
theorem dX12_readsAll_164 : decode cX12_readsAll 164 = .ok (.ifCond .ne 5, 3) := by decide +kernel
theorem dX12_readsAll_167 : decode cX12_readsAll 167 = .ok (.iconst 0, 1) := by decide +kernel
theorem dX12_readsAll_168 : decode cX12_readsAll 168 = .ok (.ireturn, 1) := by decide +kernel
theorem dX12_readsAll_169 : decode cX12_readsAll 169 = .ok (.goto (-104), 3) := by decide +kernel
theorem dX12_readsAll_172 : decode cX12_readsAll 172 = .ok (.iconst 1, 1) := by decide +kernel
theorem dX12_readsAll_173 : decode cX12_readsAll 173 = .ok (.ireturn, 1) := by decide +kernel
theorem lk_RX12_311 : Cond.methodLink RX12 311 yX12_begins ∈ tG := inG (i := 1595) (by decide +kernel) (by decide +kernel)
theorem lk_RX12_314 : Cond.methodLink RX12 314 yX12_readsCounter ∈ tG := inG (i := 1614) (by decide +kernel) (by decide +kernel)
theorem lk_RX12_317 : Cond.methodLink RX12 317 yX12_readsBall ∈ tG := inG (i := 1681) (by decide +kernel) (by decide +kernel)
theorem lk_RX12_320 : Cond.methodLink RX12 320 yX12_readsDesk ∈ tG := inG (i := 1689) (by decide +kernel) (by decide +kernel)
theorem lk_RX12_323 : Cond.methodLink RX12 323 yX12_readsDamp ∈ tG := inG (i := 1693) (by decide +kernel) (by decide +kernel)
theorem lk_RX12_326 : Cond.methodLink RX12 326 yX12_readsWears ∈ tG := inG (i := 1697) (by decide +kernel) (by decide +kernel)
theorem m_X12_begins : MV Y_X12_begins 0 12 := ⟨⟨inG (i := 1598) (by decide +kernel) (by decide +kernel), inG (i := 110) (by decide +kernel) (by decide +kernel), by decide, by decide, by decide, by decide +kernel⟩, inG (i := 1597) (by decide +kernel) (by decide +kernel), inG (i := 33) (by decide +kernel) (by decide +kernel), by decide⟩
theorem m_X12_readsBall : MV Y_X12_readsBall 0 12 := ⟨⟨inG (i := 1684) (by decide +kernel) (by decide +kernel), inG (i := 110) (by decide +kernel) (by decide +kernel), by decide, by decide, by decide, by decide +kernel⟩, inG (i := 1683) (by decide +kernel) (by decide +kernel), inG (i := 48) (by decide +kernel) (by decide +kernel), by decide⟩
theorem m_X12_readsCounter : MV Y_X12_readsCounter 0 12 := ⟨⟨inG (i := 1617) (by decide +kernel) (by decide +kernel), inG (i := 110) (by decide +kernel) (by decide +kernel), by decide, by decide, by decide, by decide +kernel⟩, inG (i := 1616) (by decide +kernel) (by decide +kernel), inG (i := 37) (by decide +kernel) (by decide +kernel), by decide⟩
theorem m_X12_readsDamp : MV Y_X12_readsDamp 0 12 := ⟨⟨inG (i := 1696) (by decide +kernel) (by decide +kernel), inG (i := 110) (by decide +kernel) (by decide +kernel), by decide, by decide, by decide, by decide +kernel⟩, inG (i := 1695) (by decide +kernel) (by decide +kernel), inG (i := 51) (by decide +kernel) (by decide +kernel), by decide⟩
theorem m_X12_readsDesk : MV Y_X12_readsDesk 0 12 := ⟨⟨inG (i := 1692) (by decide +kernel) (by decide +kernel), inG (i := 110) (by decide +kernel) (by decide +kernel), by decide, by decide, by decide, by decide +kernel⟩, inG (i := 1691) (by decide +kernel) (by decide +kernel), inG (i := 50) (by decide +kernel) (by decide +kernel), by decide⟩
theorem m_X12_readsWears : MV Y_X12_readsWears 0 12 := ⟨⟨inG (i := 1700) (by decide +kernel) (by decide +kernel), inG (i := 110) (by decide +kernel) (by decide +kernel), by decide, by decide, by decide, by decide +kernel⟩, inG (i := 1699) (by decide +kernel) (by decide +kernel), inG (i := 52) (by decide +kernel) (by decide +kernel), by decide⟩
def P_X12_readsAll_J24  (x1 : Int) (y0 : Int) (y1 : Int) (R : Int → St → Prop) (K : St → Prop) (Q : Int → St → Prop) (σ : St) : Prop :=
  0 ≤ y1 ∧ y1 < 8 ∧ R (wi (x1 + 1)) (up σ 1310 0 y1 y0)
set_option maxRecDepth 20000 in
set_option maxHeartbeats 2000000 in
theorem e_P_X12_readsAll_J24  {x1 : Int} {y0 : Int} {y1 : Int} {R : Int → St → Prop} {K : St → Prop} {Q : Int → St → Prop} {σ : St}  (hR : ∀ x1 σ, R x1 σ → E Y_X12_readsAll 5 0 0 (QI Q) ww 0 0 2 [some (vR 12 0), some (vI x1)] [] σ) (hK : ∀ σ, K σ → E Y_X12_readsAll 5 0 0 (QI Q) ww 0 0 31 [some (vR 12 0), none] [] σ) (h : P_X12_readsAll_J24 x1 y0 y1 R K Q σ) : E Y_X12_readsAll 5 0 0 (QI Q) ww 0 0 24 [some (vR 12 0), some (vI x1)] [vI y0, vI y1, vR 1310 0] σ := by
  unfold P_X12_readsAll_J24 at h
  obtain ⟨hg0, hg1, h⟩ := h
  refine E_iast dX12_readsAll_24 sh_1310 hg0 hg1 ?_
  refine E_iinc (ls' := [some (vR 12 0), some (vI (wi (x1 + 1)))]) dX12_readsAll_25 rfl (by decide) rfl rfl ?_
  refine E_goto (tgt := 2) dX12_readsAll_28 (by decide) ?_
  exact hR _ _ h
def P_X12_readsAll_L2   (K : St → Prop) (Q : Int → St → Prop) : Nat → Int → St → Prop
  | 0, _, _ => False
  | n + 1, x1, σ => (if 4 ≤ x1 then K σ else (if x1 = 2 then P_X12_readsAll_J24 x1 2 (wi (4 + x1)) (P_X12_readsAll_L2 K Q n) K Q σ else P_X12_readsAll_J24 x1 0 (wi (4 + x1)) (P_X12_readsAll_L2 K Q n) K Q σ))
set_option maxRecDepth 20000 in
set_option maxHeartbeats 2000000 in
theorem e_P_X12_readsAll_L2   {K : St → Prop} {Q : Int → St → Prop}  (hK : ∀ σ, K σ → E Y_X12_readsAll 5 0 0 (QI Q) ww 0 0 31 [some (vR 12 0), none] [] σ) : ∀ (n : Nat) (x1 : Int) (σ : St), P_X12_readsAll_L2 K Q n x1 σ → E Y_X12_readsAll 5 0 0 (QI Q) ww 0 0 2 [some (vR 12 0), some (vI x1)] [] σ := by
  intro n
  induction n with
  | zero => intro x1 σ h; exact h.elim
  | succ n hR =>
    intro x1 σ h
    unfold P_X12_readsAll_L2 at h
    refine E_iload_n dX12_readsAll_2 rfl rfl ?_
    refine E_ic dX12_readsAll_3 rfl ?_
    refine E_icmp_ge (tgt := 31) dX12_readsAll_4 (by decide) (fun hc => ?_) (fun hc => ?_)
    · have h := Eq.mp (if_pos hc) h
      refine E_wk2 [some (vR 12 0), none] ⟨rfl, trivial⟩ ?_
      exact hK _ h
    · have h := Eq.mp (if_neg hc) h
      refine E_aload_n dX12_readsAll_7 rfl rfl ?_
      refine E_getr (i := 0) dX12_readsAll_8 fl_RX12_13 rfl rfl (go_12_10 _ _) ?_
      refine E_ic dX12_readsAll_11 rfl ?_
      refine E_iload_n dX12_readsAll_12 rfl rfl ?_
      refine E_iadd dX12_readsAll_13 ?_
      refine E_iload_n dX12_readsAll_14 rfl rfl ?_
      refine E_ic dX12_readsAll_15 rfl ?_
      refine E_icmp_ne (tgt := 23) dX12_readsAll_16 (by decide) (fun hc => ?_) (fun hc => ?_)
      · have h := Eq.mp (if_neg hc) h
        refine E_ic dX12_readsAll_23 rfl ?_
        exact e_P_X12_readsAll_J24 hR hK h
      · have h := Eq.mp (if_pos hc) h
        refine E_ic dX12_readsAll_19 rfl ?_
        refine E_goto (tgt := 24) dX12_readsAll_20 (by decide) ?_
        exact e_P_X12_readsAll_J24 hR hK h
def P_X12_readsAll_J162  (y0 : Int) (R : St → Prop) (Q : Int → St → Prop) (σ : St) : Prop :=
  (if y0 = 0 then Q 0 σ else R σ)
set_option maxRecDepth 20000 in
set_option maxHeartbeats 2000000 in
theorem e_P_X12_readsAll_J162  {y0 : Int} {R : St → Prop} {Q : Int → St → Prop} {σ : St}  (hR : ∀ σ, R σ → E Y_X12_readsAll 5 0 0 (QI Q) ww 0 0 65 [some (vR 12 0), none] [] σ) (h : P_X12_readsAll_J162 y0 R Q σ) : E Y_X12_readsAll 5 0 0 (QI Q) ww 0 0 162 [some (vR 12 0), none] [vI y0] σ := by
  unfold P_X12_readsAll_J162 at h
  refine E_istore_n (ls' := [some (vR 12 0), some (vI y0)]) dX12_readsAll_162 rfl (by decide) rfl ?_
  refine E_iload_n dX12_readsAll_163 rfl rfl ?_
  refine E_if_ne (tgt := 169) dX12_readsAll_164 (by decide) (fun hc => ?_) (fun hc => ?_)
  · have h := Eq.mp (if_neg hc) h
    refine E_goto (tgt := 65) dX12_readsAll_169 (by decide) ?_
    refine E_wk2 [some (vR 12 0), none] ⟨rfl, trivial⟩ ?_
    exact hR _ h
  · have h := Eq.mp (if_pos hc) h
    refine E_ic dX12_readsAll_167 rfl ?_
    exact E_zret dX12_readsAll_168 rfl (by decide) ⟨_, rfl, rfl, h⟩
def P_X12_readsAll_L65    (Q : Int → St → Prop) : Nat → St → Prop
  | 0, _ => False
  | n + 1, σ => (if (σ 12 0 6) = 0 then Q 1 σ else P_X12_isWord 1388945628 σ (fun r_4 σ_3 => (if r_4 = 0 then P_X12_isWord 40431 σ_3 (fun r_6 σ_5 => (if r_6 = 0 then P_X12_isWord 82901 σ_5 (fun r_8 σ_7 => (if r_8 = 0 then P_X12_isWord 79828 σ_7 (fun r_10 σ_9 => (if r_10 = 0 then P_X12_isWord 12322792 σ_9 (fun r_12 σ_11 => (if r_12 = 0 then P_X12_fails 1 σ_11 (fun r_14 σ_13 => P_X12_readsAll_J162 r_14 (P_X12_readsAll_L65 Q n) Q σ_13) else P_X12_readsWears σ_11 (fun r_16 σ_15 => P_X12_readsAll_J162 r_16 (P_X12_readsAll_L65 Q n) Q σ_15))) else P_X12_readsDamp σ_9 (fun r_18 σ_17 => P_X12_readsAll_J162 r_18 (P_X12_readsAll_L65 Q n) Q σ_17))) else P_X12_readsDesk σ_7 (fun r_20 σ_19 => P_X12_readsAll_J162 r_20 (P_X12_readsAll_L65 Q n) Q σ_19))) else P_X12_readsBall σ_5 (fun r_22 σ_21 => P_X12_readsAll_J162 r_22 (P_X12_readsAll_L65 Q n) Q σ_21))) else P_X12_readsCounter σ_3 (fun r_24 σ_23 => P_X12_readsAll_J162 r_24 (P_X12_readsAll_L65 Q n) Q σ_23))))
set_option maxRecDepth 20000 in
set_option maxHeartbeats 2000000 in
theorem e_P_X12_readsAll_L65    {Q : Int → St → Prop}   : ∀ (n : Nat) (σ : St), P_X12_readsAll_L65 Q n  σ → E Y_X12_readsAll 5 0 0 (QI Q) ww 0 0 65 [some (vR 12 0), none] [] σ := by
  intro n
  induction n with
  | zero => intro  σ h; exact h.elim
  | succ n hR =>
    intro  σ h
    unfold P_X12_readsAll_L65 at h
    refine E_aload_n dX12_readsAll_65 rfl rfl ?_
    refine E_geti (i := 0) dX12_readsAll_66 fl_RX12_166 rfl ?_
    refine E_if_eq (tgt := 172) dX12_readsAll_69 (by decide) (fun hc => ?_) (fun hc => ?_)
    · have h := Eq.mp (if_pos hc) h
      refine E_ic dX12_readsAll_172 rfl ?_
      exact E_zret dX12_readsAll_173 rfl (by decide) ⟨_, rfl, rfl, h⟩
    · have h := Eq.mp (if_neg hc) h
      refine E_aload_n dX12_readsAll_72 rfl rfl ?_
      refine E_ldc2 (z := 1388945628) dX12_readsAll_73 kl_RX12_228 (by decide) ?_
      refine E_callV (Y' := Y_X12_isWord) (as := [vL 1388945628]) (st := []) dX12_readsAll_76 lk_RX12_197 m_X12_isWord (by decide) (Nat.le_refl _) (Nat.le_refl _) rfl rfl (Nat.le_of_ble_eq_true rfl) (s_X12_isWord h) (fun r0 B0 σ_3 h => ?_)
      obtain ⟨r_4, rfl, rfl, h⟩ := h
      refine E_if_eq (tgt := 89) dX12_readsAll_79 (by decide) (fun hc => ?_) (fun hc => ?_)
      · have h := Eq.mp (if_pos hc) h
        refine E_aload_n dX12_readsAll_89 rfl rfl ?_
        refine E_ldc2 (z := 40431) dX12_readsAll_90 kl_RX12_234 (by decide) ?_
        refine E_callV (Y' := Y_X12_isWord) (as := [vL 40431]) (st := []) dX12_readsAll_93 lk_RX12_197 m_X12_isWord (by decide) (Nat.le_refl _) (Nat.le_refl _) rfl rfl (Nat.le_of_ble_eq_true rfl) (s_X12_isWord h) (fun r0 B0 σ_5 h => ?_)
        obtain ⟨r_6, rfl, rfl, h⟩ := h
        refine E_if_eq (tgt := 106) dX12_readsAll_96 (by decide) (fun hc => ?_) (fun hc => ?_)
        · have h := Eq.mp (if_pos hc) h
          refine E_aload_n dX12_readsAll_106 rfl rfl ?_
          refine E_ldc2 (z := 82901) dX12_readsAll_107 kl_RX12_240 (by decide) ?_
          refine E_callV (Y' := Y_X12_isWord) (as := [vL 82901]) (st := []) dX12_readsAll_110 lk_RX12_197 m_X12_isWord (by decide) (Nat.le_refl _) (Nat.le_refl _) rfl rfl (Nat.le_of_ble_eq_true rfl) (s_X12_isWord h) (fun r0 B0 σ_7 h => ?_)
          obtain ⟨r_8, rfl, rfl, h⟩ := h
          refine E_if_eq (tgt := 123) dX12_readsAll_113 (by decide) (fun hc => ?_) (fun hc => ?_)
          · have h := Eq.mp (if_pos hc) h
            refine E_aload_n dX12_readsAll_123 rfl rfl ?_
            refine E_ldc2 (z := 79828) dX12_readsAll_124 kl_RX12_242 (by decide) ?_
            refine E_callV (Y' := Y_X12_isWord) (as := [vL 79828]) (st := []) dX12_readsAll_127 lk_RX12_197 m_X12_isWord (by decide) (Nat.le_refl _) (Nat.le_refl _) rfl rfl (Nat.le_of_ble_eq_true rfl) (s_X12_isWord h) (fun r0 B0 σ_9 h => ?_)
            obtain ⟨r_10, rfl, rfl, h⟩ := h
            refine E_if_eq (tgt := 140) dX12_readsAll_130 (by decide) (fun hc => ?_) (fun hc => ?_)
            · have h := Eq.mp (if_pos hc) h
              refine E_aload_n dX12_readsAll_140 rfl rfl ?_
              refine E_ldc2 (z := 12322792) dX12_readsAll_141 kl_RX12_244 (by decide) ?_
              refine E_callV (Y' := Y_X12_isWord) (as := [vL 12322792]) (st := []) dX12_readsAll_144 lk_RX12_197 m_X12_isWord (by decide) (Nat.le_refl _) (Nat.le_refl _) rfl rfl (Nat.le_of_ble_eq_true rfl) (s_X12_isWord h) (fun r0 B0 σ_11 h => ?_)
              obtain ⟨r_12, rfl, rfl, h⟩ := h
              refine E_if_eq (tgt := 157) dX12_readsAll_147 (by decide) (fun hc => ?_) (fun hc => ?_)
              · have h := Eq.mp (if_pos hc) h
                refine E_aload_n dX12_readsAll_157 rfl rfl ?_
                refine E_ic dX12_readsAll_158 rfl ?_
                refine E_callV (Y' := Y_X12_fails) (as := [vI 1]) (st := []) dX12_readsAll_159 lk_RX12_205 m_X12_fails (by decide) (Nat.le_refl _) (Nat.le_refl _) rfl rfl (Nat.le_of_ble_eq_true rfl) (s_X12_fails h) (fun r0 B0 σ_13 h => ?_)
                obtain ⟨r_14, rfl, rfl, h⟩ := h
                exact e_P_X12_readsAll_J162 hR h
              · have h := Eq.mp (if_neg hc) h
                refine E_aload_n dX12_readsAll_150 rfl rfl ?_
                refine E_callV (Y' := Y_X12_readsWears) (as := []) (st := []) dX12_readsAll_151 lk_RX12_326 m_X12_readsWears (by decide) (Nat.le_refl _) (Nat.le_refl _) rfl rfl (Nat.le_of_ble_eq_true rfl) (s_X12_readsWears h) (fun r0 B0 σ_15 h => ?_)
                obtain ⟨r_16, rfl, rfl, h⟩ := h
                refine E_goto (tgt := 162) dX12_readsAll_154 (by decide) ?_
                exact e_P_X12_readsAll_J162 hR h
            · have h := Eq.mp (if_neg hc) h
              refine E_aload_n dX12_readsAll_133 rfl rfl ?_
              refine E_callV (Y' := Y_X12_readsDamp) (as := []) (st := []) dX12_readsAll_134 lk_RX12_323 m_X12_readsDamp (by decide) (Nat.le_refl _) (Nat.le_refl _) rfl rfl (Nat.le_of_ble_eq_true rfl) (s_X12_readsDamp h) (fun r0 B0 σ_17 h => ?_)
              obtain ⟨r_18, rfl, rfl, h⟩ := h
              refine E_goto (tgt := 162) dX12_readsAll_137 (by decide) ?_
              exact e_P_X12_readsAll_J162 hR h
          · have h := Eq.mp (if_neg hc) h
            refine E_aload_n dX12_readsAll_116 rfl rfl ?_
            refine E_callV (Y' := Y_X12_readsDesk) (as := []) (st := []) dX12_readsAll_117 lk_RX12_320 m_X12_readsDesk (by decide) (Nat.le_refl _) (Nat.le_refl _) rfl rfl (Nat.le_of_ble_eq_true rfl) (s_X12_readsDesk h) (fun r0 B0 σ_19 h => ?_)
            obtain ⟨r_20, rfl, rfl, h⟩ := h
            refine E_goto (tgt := 162) dX12_readsAll_120 (by decide) ?_
            exact e_P_X12_readsAll_J162 hR h
        · have h := Eq.mp (if_neg hc) h
          refine E_aload_n dX12_readsAll_99 rfl rfl ?_
          refine E_callV (Y' := Y_X12_readsBall) (as := []) (st := []) dX12_readsAll_100 lk_RX12_317 m_X12_readsBall (by decide) (Nat.le_refl _) (Nat.le_refl _) rfl rfl (Nat.le_of_ble_eq_true rfl) (s_X12_readsBall h) (fun r0 B0 σ_21 h => ?_)
          obtain ⟨r_22, rfl, rfl, h⟩ := h
          refine E_goto (tgt := 162) dX12_readsAll_103 (by decide) ?_
          exact e_P_X12_readsAll_J162 hR h
      · have h := Eq.mp (if_neg hc) h
        refine E_aload_n dX12_readsAll_82 rfl rfl ?_
        refine E_callV (Y' := Y_X12_readsCounter) (as := []) (st := []) dX12_readsAll_83 lk_RX12_314 m_X12_readsCounter (by decide) (Nat.le_refl _) (Nat.le_refl _) rfl rfl (Nat.le_of_ble_eq_true rfl) (s_X12_readsCounter h) (fun r0 B0 σ_23 h => ?_)
        obtain ⟨r_24, rfl, rfl, h⟩ := h
        refine E_goto (tgt := 162) dX12_readsAll_86 (by decide) ?_
        exact e_P_X12_readsAll_J162 hR h
def P_X12_readsAll   (σ : St) (Q : Int → St → Prop) : Prop :=
  P_X12_readsAll_L2 (fun σ_1 => P_X12_begins (up (up (up (up σ_1 12 0 23 0) 1319 0 1 1000) 1320 0 1 1000) 12 0 22 1000) (fun σ_2 => P_X12_readsAll_L65 Q FU σ_2)) Q FU 0 σ
set_option maxRecDepth 20000 in
set_option maxHeartbeats 2000000 in
theorem s_X12_readsAll    {σ : St} {Q : Int → St → Prop} (h : P_X12_readsAll  σ Q) : Cn Y_X12_readsAll 5 0 0 ww σ [vR 12 0] (QI Q) := by
  refine Cn_of [some (vR 12 0), none] (by decide) (Nat.le_of_ble_eq_true rfl) rfl ?_
  unfold P_X12_readsAll at h
  refine E_ic dX12_readsAll_0 rfl ?_
  refine E_istore_n (ls' := [some (vR 12 0), some (vI 0)]) dX12_readsAll_1 rfl (by decide) rfl ?_
  refine e_P_X12_readsAll_L2 ?_ _ _ _ h
  · intro σ_1 h
    refine E_aload_n dX12_readsAll_31 rfl rfl ?_
    refine E_ic dX12_readsAll_32 rfl ?_
    refine E_putz dX12_readsAll_33 fl_RX12_304 rfl rfl rfl (by decide) ?_
    refine E_aload_n dX12_readsAll_36 rfl rfl ?_
    refine E_getr (i := 0) dX12_readsAll_37 fl_RX12_41 rfl rfl (go_12_19 _ _) ?_
    refine E_ic dX12_readsAll_40 rfl ?_
    refine E_sp dX12_readsAll_41 rfl ?_
    refine E_iast dX12_readsAll_44 sh_1319 (by decide) (by decide) ?_
    refine E_aload_n dX12_readsAll_45 rfl rfl ?_
    refine E_getr (i := 0) dX12_readsAll_46 fl_RX12_44 rfl rfl (go_12_20 _ _) ?_
    refine E_ic dX12_readsAll_49 rfl ?_
    refine E_sp dX12_readsAll_50 rfl ?_
    refine E_iast dX12_readsAll_53 sh_1320 (by decide) (by decide) ?_
    refine E_aload_n dX12_readsAll_54 rfl rfl ?_
    refine E_sp dX12_readsAll_55 rfl ?_
    refine E_puti dX12_readsAll_58 fl_RX12_180 rfl rfl rfl ?_
    refine E_aload_n dX12_readsAll_61 rfl rfl ?_
    refine E_callV (Y' := Y_X12_begins) (as := []) (st := []) dX12_readsAll_62 lk_RX12_311 m_X12_begins (by decide) (Nat.le_refl _) (Nat.le_refl _) rfl rfl (Nat.le_of_ble_eq_true rfl) (s_X12_begins h) (fun r0 B0 σ_2 h => ?_)
    obtain ⟨rfl, rfl, h⟩ := h
    refine e_P_X12_readsAll_L65  _ _ h
abbrev Y_X12_shifts : My := (yX12_shifts, cX12_shifts, 3, none)
theorem dX12_shifts_0 : decode cX12_shifts 0 = .ok (.iconst 0, 1) := by decide +kernel
theorem dX12_shifts_1 : decode cX12_shifts 1 = .ok (.istore_n 2, 1) := by decide +kernel
theorem dX12_shifts_2 : decode cX12_shifts 2 = .ok (.iload_n 2, 1) := by decide +kernel
theorem dX12_shifts_3 : decode cX12_shifts 3 = .ok (.iload_n 1, 1) := by decide +kernel
theorem dX12_shifts_4 : decode cX12_shifts 4 = .ok (.if_icmp .ge 17, 3) := by decide +kernel
theorem dX12_shifts_7 : decode cX12_shifts 7 = .ok (.aload_n 0, 1) := by decide +kernel
theorem dX12_shifts_8 : decode cX12_shifts 8 = .ok (.iload_n 2, 1) := by decide +kernel
theorem dX12_shifts_9 : decode cX12_shifts 9 = .ok (.aload_n 0, 1) := by decide +kernel
theorem dX12_shifts_10 : decode cX12_shifts 10 = .ok (.iload_n 1, 1) := by decide +kernel
theorem dX12_shifts_11 : decode cX12_shifts 11 = .ok (.iload_n 2, 1) := by decide +kernel
theorem dX12_shifts_12 : decode cX12_shifts 12 = .ok (.iadd, 1) := by decide +kernel
theorem dX12_shifts_13 : decode cX12_shifts 13 = .ok (.iaload, 1) := by decide +kernel
theorem dX12_shifts_14 : decode cX12_shifts 14 = .ok (.iastore, 1) := by decide +kernel
theorem dX12_shifts_15 : decode cX12_shifts 15 = .ok (.iinc 2 1, 3) := by decide +kernel
theorem dX12_shifts_18 : decode cX12_shifts 18 = .ok (.goto (-16), 3) := by decide +kernel
theorem dX12_shifts_21 : decode cX12_shifts 21 = .ok (.return_, 1) := by decide +kernel
def P_X12_shifts_L2  (t0 : Nat) (o0 : Nat) (x1 : Int)  (Q : St → Prop) : Nat → Int → St → Prop
  | 0, _, _ => False
  | n + 1, x2, σ => (if x1 ≤ x2 then Q σ else (shp t0).1 = 0 ∧ 0 ≤ wi (x1 + x2) ∧ wi (x1 + x2) < ((shp t0).2 : Int) ∧ (shp t0).1 = 0 ∧ 0 ≤ x2 ∧ x2 < ((shp t0).2 : Int) ∧ (P_X12_shifts_L2 t0 o0 x1 Q n) (wi (x2 + 1)) (up σ t0 o0 x2 (σ t0 o0 (wi (x1 + x2)))))
set_option maxRecDepth 20000 in
set_option maxHeartbeats 2000000 in
theorem e_P_X12_shifts_L2  {t0 : Nat} {o0 : Nat} {x1 : Int}  {Q : St → Prop}   : ∀ (n : Nat) (x2 : Int) (σ : St), P_X12_shifts_L2 t0 o0 x1 Q n x2 σ → E Y_X12_shifts 0 0 0 (QV Q) ww 0 0 2 [some (vR t0 o0), some (vI x1), some (vI x2)] [] σ := by
  intro n
  induction n with
  | zero => intro x2 σ h; exact h.elim
  | succ n hR =>
    intro x2 σ h
    unfold P_X12_shifts_L2 at h
    refine E_iload_n dX12_shifts_2 rfl rfl ?_
    refine E_iload_n dX12_shifts_3 rfl rfl ?_
    refine E_icmp_ge (tgt := 21) dX12_shifts_4 (by decide) (fun hc => ?_) (fun hc => ?_)
    · have h := Eq.mp (if_pos hc) h
      exact E_vret dX12_shifts_21 rfl ⟨rfl, rfl, h⟩
    · have h := Eq.mp (if_neg hc) h
      refine E_aload_n dX12_shifts_7 rfl rfl ?_
      refine E_iload_n dX12_shifts_8 rfl rfl ?_
      refine E_aload_n dX12_shifts_9 rfl rfl ?_
      refine E_iload_n dX12_shifts_10 rfl rfl ?_
      refine E_iload_n dX12_shifts_11 rfl rfl ?_
      refine E_iadd dX12_shifts_12 ?_
      obtain ⟨hg0, hg1, hg2, h⟩ := h
      refine E_iald dX12_shifts_13 (Prod.ext hg0 rfl) hg1 hg2 ?_
      obtain ⟨hg0, hg1, hg2, h⟩ := h
      refine E_iast dX12_shifts_14 (Prod.ext hg0 rfl) hg1 hg2 ?_
      refine E_iinc (ls' := [some (vR t0 o0), some (vI x1), some (vI (wi (x2 + 1)))]) dX12_shifts_15 rfl (by decide) rfl rfl ?_
      refine E_goto (tgt := 2) dX12_shifts_18 (by decide) ?_
      exact hR _ _ h
def P_X12_shifts  (t0 : Nat) (o0 : Nat) (x1 : Int) (σ : St) (Q : St → Prop) : Prop :=
  P_X12_shifts_L2 t0 o0 x1 Q FU 0 σ
set_option maxRecDepth 20000 in
set_option maxHeartbeats 2000000 in
theorem s_X12_shifts   {t0 : Nat} {o0 : Nat} {x1 : Int} {σ : St} {Q : St → Prop} (h : P_X12_shifts t0 o0 x1 σ Q) : Cn Y_X12_shifts 0 0 0 ww σ [vR t0 o0, vI x1] (QV Q) := by
  refine Cn_of [some (vR t0 o0), some (vI x1), none] (by decide) (Nat.le_of_ble_eq_true rfl) rfl ?_
  unfold P_X12_shifts at h
  refine E_ic dX12_shifts_0 rfl ?_
  refine E_istore_n (ls' := [some (vR t0 o0), some (vI x1), some (vI 0)]) dX12_shifts_1 rfl (by decide) rfl ?_
  refine e_P_X12_shifts_L2  _ _ _ h
abbrev Y_X12_shiftsNames : My := (yX12_shiftsNames, cX12_shiftsNames, 3, none)
theorem dX12_shiftsNames_0 : decode cX12_shiftsNames 0 = .ok (.iconst 0, 1) := by decide +kernel
theorem dX12_shiftsNames_1 : decode cX12_shiftsNames 1 = .ok (.istore_n 2, 1) := by decide +kernel
theorem dX12_shiftsNames_2 : decode cX12_shiftsNames 2 = .ok (.iload_n 2, 1) := by decide +kernel
theorem dX12_shiftsNames_3 : decode cX12_shiftsNames 3 = .ok (.iload_n 1, 1) := by decide +kernel
theorem dX12_shiftsNames_4 : decode cX12_shiftsNames 4 = .ok (.if_icmp .ge 17, 3) := by decide +kernel
theorem dX12_shiftsNames_7 : decode cX12_shiftsNames 7 = .ok (.aload_n 0, 1) := by decide +kernel
theorem dX12_shiftsNames_8 : decode cX12_shiftsNames 8 = .ok (.iload_n 2, 1) := by decide +kernel
theorem dX12_shiftsNames_9 : decode cX12_shiftsNames 9 = .ok (.aload_n 0, 1) := by decide +kernel
theorem dX12_shiftsNames_10 : decode cX12_shiftsNames 10 = .ok (.iload_n 1, 1) := by decide +kernel
theorem dX12_shiftsNames_11 : decode cX12_shiftsNames 11 = .ok (.iload_n 2, 1) := by decide +kernel
theorem dX12_shiftsNames_12 : decode cX12_shiftsNames 12 = .ok (.iadd, 1) := by decide +kernel
theorem dX12_shiftsNames_13 : decode cX12_shiftsNames 13 = .ok (.laload, 1) := by decide +kernel
theorem dX12_shiftsNames_14 : decode cX12_shiftsNames 14 = .ok (.lastore, 1) := by decide +kernel
theorem dX12_shiftsNames_15 : decode cX12_shiftsNames 15 = .ok (.iinc 2 1, 3) := by decide +kernel
theorem dX12_shiftsNames_18 : decode cX12_shiftsNames 18 = .ok (.goto (-16), 3) := by decide +kernel
theorem dX12_shiftsNames_21 : decode cX12_shiftsNames 21 = .ok (.return_, 1) := by decide +kernel
def P_X12_shiftsNames_L2  (t0 : Nat) (o0 : Nat) (x1 : Int)  (Q : St → Prop) : Nat → Int → St → Prop
  | 0, _, _ => False
  | n + 1, x2, σ => (if x1 ≤ x2 then Q σ else (shp t0).1 = 1 ∧ 0 ≤ wi (x1 + x2) ∧ wi (x1 + x2) < ((shp t0).2 : Int) ∧ (shp t0).1 = 1 ∧ 0 ≤ x2 ∧ x2 < ((shp t0).2 : Int) ∧ (P_X12_shiftsNames_L2 t0 o0 x1 Q n) (wi (x2 + 1)) (up σ t0 o0 x2 (σ t0 o0 (wi (x1 + x2)))))
set_option maxRecDepth 20000 in
set_option maxHeartbeats 2000000 in
theorem e_P_X12_shiftsNames_L2  {t0 : Nat} {o0 : Nat} {x1 : Int}  {Q : St → Prop}   : ∀ (n : Nat) (x2 : Int) (σ : St), P_X12_shiftsNames_L2 t0 o0 x1 Q n x2 σ → E Y_X12_shiftsNames 0 0 0 (QV Q) ww 0 0 2 [some (vR t0 o0), some (vI x1), some (vI x2)] [] σ := by
  intro n
  induction n with
  | zero => intro x2 σ h; exact h.elim
  | succ n hR =>
    intro x2 σ h
    unfold P_X12_shiftsNames_L2 at h
    refine E_iload_n dX12_shiftsNames_2 rfl rfl ?_
    refine E_iload_n dX12_shiftsNames_3 rfl rfl ?_
    refine E_icmp_ge (tgt := 21) dX12_shiftsNames_4 (by decide) (fun hc => ?_) (fun hc => ?_)
    · have h := Eq.mp (if_pos hc) h
      exact E_vret dX12_shiftsNames_21 rfl ⟨rfl, rfl, h⟩
    · have h := Eq.mp (if_neg hc) h
      refine E_aload_n dX12_shiftsNames_7 rfl rfl ?_
      refine E_iload_n dX12_shiftsNames_8 rfl rfl ?_
      refine E_aload_n dX12_shiftsNames_9 rfl rfl ?_
      refine E_iload_n dX12_shiftsNames_10 rfl rfl ?_
      refine E_iload_n dX12_shiftsNames_11 rfl rfl ?_
      refine E_iadd dX12_shiftsNames_12 ?_
      obtain ⟨hg0, hg1, hg2, h⟩ := h
      refine E_lald dX12_shiftsNames_13 (Prod.ext hg0 rfl) hg1 hg2 ?_
      obtain ⟨hg0, hg1, hg2, h⟩ := h
      refine E_last dX12_shiftsNames_14 (Prod.ext hg0 rfl) hg1 hg2 ?_
      refine E_iinc (ls' := [some (vR t0 o0), some (vI x1), some (vI (wi (x2 + 1)))]) dX12_shiftsNames_15 rfl (by decide) rfl rfl ?_
      refine E_goto (tgt := 2) dX12_shiftsNames_18 (by decide) ?_
      exact hR _ _ h
def P_X12_shiftsNames  (t0 : Nat) (o0 : Nat) (x1 : Int) (σ : St) (Q : St → Prop) : Prop :=
  P_X12_shiftsNames_L2 t0 o0 x1 Q FU 0 σ
set_option maxRecDepth 20000 in
set_option maxHeartbeats 2000000 in
theorem s_X12_shiftsNames   {t0 : Nat} {o0 : Nat} {x1 : Int} {σ : St} {Q : St → Prop} (h : P_X12_shiftsNames t0 o0 x1 σ Q) : Cn Y_X12_shiftsNames 0 0 0 ww σ [vR t0 o0, vI x1] (QV Q) := by
  refine Cn_of [some (vR t0 o0), some (vI x1), none] (by decide) (Nat.le_of_ble_eq_true rfl) rfl ?_
  unfold P_X12_shiftsNames at h
  refine E_ic dX12_shiftsNames_0 rfl ?_
  refine E_istore_n (ls' := [some (vR t0 o0), some (vI x1), some (vI 0)]) dX12_shiftsNames_1 rfl (by decide) rfl ?_
  refine e_P_X12_shiftsNames_L2  _ _ _ h
abbrev Y_X12_lays : My := (yX12_lays, cX12_lays, 1, none)
theorem dX12_lays_0 : decode cX12_lays 0 = .ok (.aload_n 0, 1) := by decide +kernel
theorem dX12_lays_1 : decode cX12_lays 1 = .ok (.getfield 13, 3) := by decide +kernel
theorem dX12_lays_4 : decode cX12_lays 4 = .ok (.iconst 4, 1) := by decide +kernel
theorem dX12_lays_5 : decode cX12_lays 5 = .ok (.invokestatic 329, 3) := by decide +kernel
theorem dX12_lays_8 : decode cX12_lays 8 = .ok (.aload_n 0, 1) := by decide +kernel
theorem dX12_lays_9 : decode cX12_lays 9 = .ok (.getfield 16, 3) := by decide +kernel
theorem dX12_lays_12 : decode cX12_lays 12 = .ok (.bipush 6, 2) := by decide +kernel
theorem dX12_lays_14 : decode cX12_lays 14 = .ok (.invokestatic 333, 3) := by decide +kernel
theorem dX12_lays_17 : decode cX12_lays 17 = .ok (.aload_n 0, 1) := by decide +kernel
theorem dX12_lays_18 : decode cX12_lays 18 = .ok (.getfield 20, 3) := by decide +kernel
theorem dX12_lays_21 : decode cX12_lays 21 = .ok (.bipush 6, 2) := by decide +kernel
theorem dX12_lays_23 : decode cX12_lays 23 = .ok (.invokestatic 333, 3) := by decide +kernel
theorem dX12_lays_26 : decode cX12_lays 26 = .ok (.aload_n 0, 1) := by decide +kernel
theorem dX12_lays_27 : decode cX12_lays 27 = .ok (.getfield 23, 3) := by decide +kernel
theorem dX12_lays_30 : decode cX12_lays 30 = .ok (.bipush 6, 2) := by decide +kernel
theorem dX12_lays_32 : decode cX12_lays 32 = .ok (.invokestatic 329, 3) := by decide +kernel
theorem dX12_lays_35 : decode cX12_lays 35 = .ok (.aload_n 0, 1) := by decide +kernel
theorem dX12_lays_36 : decode cX12_lays 36 = .ok (.getfield 26, 3) := by decide +kernel
theorem dX12_lays_39 : decode cX12_lays 39 = .ok (.bipush 6, 2) := by decide +kernel
theorem dX12_lays_41 : decode cX12_lays 41 = .ok (.invokestatic 329, 3) := by decide +kernel
theorem dX12_lays_44 : decode cX12_lays 44 = .ok (.aload_n 0, 1) := by decide +kernel
theorem dX12_lays_45 : decode cX12_lays 45 = .ok (.getfield 29, 3) := by decide +kernel
theorem dX12_lays_48 : decode cX12_lays 48 = .ok (.bipush 6, 2) := by decide +kernel
theorem dX12_lays_50 : decode cX12_lays 50 = .ok (.invokestatic 329, 3) := by decide +kernel
theorem dX12_lays_53 : decode cX12_lays 53 = .ok (.aload_n 0, 1) := by decide +kernel
theorem dX12_lays_54 : decode cX12_lays 54 = .ok (.getfield 32, 3) := by decide +kernel
theorem dX12_lays_57 : decode cX12_lays 57 = .ok (.bipush 6, 2) := by decide +kernel
theorem dX12_lays_59 : decode cX12_lays 59 = .ok (.invokestatic 329, 3) := by decide +kernel
theorem dX12_lays_62 : decode cX12_lays 62 = .ok (.aload_n 0, 1) := by decide +kernel
theorem dX12_lays_63 : decode cX12_lays 63 = .ok (.getfield 35, 3) := by decide +kernel
theorem dX12_lays_66 : decode cX12_lays 66 = .ok (.bipush 6, 2) := by decide +kernel
theorem dX12_lays_68 : decode cX12_lays 68 = .ok (.invokestatic 329, 3) := by decide +kernel
theorem dX12_lays_71 : decode cX12_lays 71 = .ok (.aload_n 0, 1) := by decide +kernel
theorem dX12_lays_72 : decode cX12_lays 72 = .ok (.getfield 38, 3) := by decide +kernel
theorem dX12_lays_75 : decode cX12_lays 75 = .ok (.bipush 12, 2) := by decide +kernel
theorem dX12_lays_77 : decode cX12_lays 77 = .ok (.invokestatic 329, 3) := by decide +kernel
theorem dX12_lays_80 : decode cX12_lays 80 = .ok (.aload_n 0, 1) := by decide +kernel
theorem dX12_lays_81 : decode cX12_lays 81 = .ok (.getfield 47, 3) := by decide +kernel
theorem dX12_lays_84 : decode cX12_lays 84 = .ok (.sipush 1000, 3) := by decide +kernel
theorem dX12_lays_87 : decode cX12_lays 87 = .ok (.invokestatic 329, 3) := by decide +kernel
theorem dX12_lays_90 : decode cX12_lays 90 = .ok (.aload_n 0, 1) := by decide +kernel
theorem dX12_lays_91 : decode cX12_lays 91 = .ok (.getfield 41, 3) := by decide +kernel
theorem dX12_lays_94 : decode cX12_lays 94 = .ok (.iconst 0, 1) := by decide +kernel
theorem dX12_lays_95 : decode cX12_lays 95 = .ok (.aload_n 0, 1) := by decide +kernel
theorem dX12_lays_96 : decode cX12_lays 96 = .ok (.getfield 41, 3) := by decide +kernel
theorem dX12_lays_99 : decode cX12_lays 99 = .ok (.iconst 1, 1) := by decide +kernel
theorem dX12_lays_100 : decode cX12_lays 100 = .ok (.iaload, 1) := by decide +kernel
theorem dX12_lays_101 : decode cX12_lays 101 = .ok (.sipush 1000, 3) := by decide +kernel
theorem dX12_lays_104 : decode cX12_lays 104 = .ok (.isub, 1) := by decide +kernel
theorem dX12_lays_105 : decode cX12_lays 105 = .ok (.iastore, 1) := by decide +kernel
theorem dX12_lays_106 : decode cX12_lays 106 = .ok (.aload_n 0, 1) := by decide +kernel
theorem dX12_lays_107 : decode cX12_lays 107 = .ok (.getfield 44, 3) := by decide +kernel
theorem dX12_lays_110 : decode cX12_lays 110 = .ok (.iconst 0, 1) := by decide +kernel
theorem dX12_lays_111 : decode cX12_lays 111 = .ok (.aload_n 0, 1) := by decide +kernel
theorem dX12_lays_112 : decode cX12_lays 112 = .ok (.getfield 44, 3) := by decide +kernel
theorem dX12_lays_115 : decode cX12_lays 115 = .ok (.iconst 1, 1) := by decide +kernel
theorem dX12_lays_116 : decode cX12_lays 116 = .ok (.iaload, 1) := by decide +kernel
theorem dX12_lays_117 : decode cX12_lays 117 = .ok (.sipush 1000, 3) := by decide +kernel
theorem dX12_lays_120 : decode cX12_lays 120 = .ok (.isub, 1) := by decide +kernel
theorem dX12_lays_121 : decode cX12_lays 121 = .ok (.iastore, 1) := by decide +kernel
theorem dX12_lays_122 : decode cX12_lays 122 = .ok (.return_, 1) := by decide +kernel
theorem lk_RX12_329 : Cond.methodLink RX12 329 yX12_shifts ∈ tG := inG (i := 1721) (by decide +kernel) (by decide +kernel)
theorem lk_RX12_333 : Cond.methodLink RX12 333 yX12_shiftsNames ∈ tG := inG (i := 1724) (by decide +kernel) (by decide +kernel)
theorem m_X12_shifts : MS Y_X12_shifts 2 := ⟨⟨inG (i := 1723) (by decide +kernel) (by decide +kernel), inG (i := 110) (by decide +kernel) (by decide +kernel), by decide, by decide, by decide, by decide +kernel⟩, inG (i := 1722) (by decide +kernel) (by decide +kernel)⟩
theorem m_X12_shiftsNames : MS Y_X12_shiftsNames 2 := ⟨⟨inG (i := 1726) (by decide +kernel) (by decide +kernel), inG (i := 110) (by decide +kernel) (by decide +kernel), by decide, by decide, by decide, by decide +kernel⟩, inG (i := 1725) (by decide +kernel) (by decide +kernel)⟩
def P_X12_lays   (σ : St) (Q : St → Prop) : Prop :=
  P_X12_shifts 1310 0 4 σ (fun σ_1 => P_X12_shiftsNames 1311 0 6 σ_1 (fun σ_2 => P_X12_shiftsNames 1312 0 6 σ_2 (fun σ_3 => P_X12_shifts 1313 0 6 σ_3 (fun σ_4 => P_X12_shifts 1314 0 6 σ_4 (fun σ_5 => P_X12_shifts 1315 0 6 σ_5 (fun σ_6 => P_X12_shifts 1316 0 6 σ_6 (fun σ_7 => P_X12_shifts 1317 0 6 σ_7 (fun σ_8 => P_X12_shifts 1318 0 12 σ_8 (fun σ_9 => P_X12_shifts 1321 0 1000 σ_9 (fun σ_10 => Q (up (up σ_10 1319 0 0 (wi ((σ_10 1319 0 1) - 1000))) 1320 0 0 (wi (((up σ_10 1319 0 0 (wi ((σ_10 1319 0 1) - 1000))) 1320 0 1) - 1000)))))))))))))
set_option maxRecDepth 20000 in
set_option maxHeartbeats 2000000 in
theorem s_X12_lays    {σ : St} {Q : St → Prop} (h : P_X12_lays  σ Q) : Cn Y_X12_lays 1 0 0 ww σ [vR 12 0] (QV Q) := by
  refine Cn_of [some (vR 12 0)] (by decide) (Nat.le_of_ble_eq_true rfl) rfl ?_
  unfold P_X12_lays at h
  refine E_aload_n dX12_lays_0 rfl rfl ?_
  refine E_getr (i := 0) dX12_lays_1 fl_RX12_13 rfl rfl (go_12_10 _ _) ?_
  refine E_ic dX12_lays_4 rfl ?_
  refine E_callS (Y' := Y_X12_shifts) (as := [vR 1310 0, vI 4]) (st := []) dX12_lays_5 lk_RX12_329 m_X12_shifts (by decide) (Nat.le_refl _) (Nat.le_refl _) rfl rfl (Nat.le_of_ble_eq_true rfl) (s_X12_shifts h) (fun r0 B0 σ_1 h => ?_)
  obtain ⟨rfl, rfl, h⟩ := h
  refine E_aload_n dX12_lays_8 rfl rfl ?_
  refine E_getr (i := 0) dX12_lays_9 fl_RX12_16 rfl rfl (go_12_11 _ _) ?_
  refine E_bp dX12_lays_12 rfl ?_
  refine E_callS (Y' := Y_X12_shiftsNames) (as := [vR 1311 0, vI 6]) (st := []) dX12_lays_14 lk_RX12_333 m_X12_shiftsNames (by decide) (Nat.le_refl _) (Nat.le_refl _) rfl rfl (Nat.le_of_ble_eq_true rfl) (s_X12_shiftsNames h) (fun r0 B0 σ_2 h => ?_)
  obtain ⟨rfl, rfl, h⟩ := h
  refine E_aload_n dX12_lays_17 rfl rfl ?_
  refine E_getr (i := 0) dX12_lays_18 fl_RX12_20 rfl rfl (go_12_12 _ _) ?_
  refine E_bp dX12_lays_21 rfl ?_
  refine E_callS (Y' := Y_X12_shiftsNames) (as := [vR 1312 0, vI 6]) (st := []) dX12_lays_23 lk_RX12_333 m_X12_shiftsNames (by decide) (Nat.le_refl _) (Nat.le_refl _) rfl rfl (Nat.le_of_ble_eq_true rfl) (s_X12_shiftsNames h) (fun r0 B0 σ_3 h => ?_)
  obtain ⟨rfl, rfl, h⟩ := h
  refine E_aload_n dX12_lays_26 rfl rfl ?_
  refine E_getr (i := 0) dX12_lays_27 fl_RX12_23 rfl rfl (go_12_13 _ _) ?_
  refine E_bp dX12_lays_30 rfl ?_
  refine E_callS (Y' := Y_X12_shifts) (as := [vR 1313 0, vI 6]) (st := []) dX12_lays_32 lk_RX12_329 m_X12_shifts (by decide) (Nat.le_refl _) (Nat.le_refl _) rfl rfl (Nat.le_of_ble_eq_true rfl) (s_X12_shifts h) (fun r0 B0 σ_4 h => ?_)
  obtain ⟨rfl, rfl, h⟩ := h
  refine E_aload_n dX12_lays_35 rfl rfl ?_
  refine E_getr (i := 0) dX12_lays_36 fl_RX12_26 rfl rfl (go_12_14 _ _) ?_
  refine E_bp dX12_lays_39 rfl ?_
  refine E_callS (Y' := Y_X12_shifts) (as := [vR 1314 0, vI 6]) (st := []) dX12_lays_41 lk_RX12_329 m_X12_shifts (by decide) (Nat.le_refl _) (Nat.le_refl _) rfl rfl (Nat.le_of_ble_eq_true rfl) (s_X12_shifts h) (fun r0 B0 σ_5 h => ?_)
  obtain ⟨rfl, rfl, h⟩ := h
  refine E_aload_n dX12_lays_44 rfl rfl ?_
  refine E_getr (i := 0) dX12_lays_45 fl_RX12_29 rfl rfl (go_12_15 _ _) ?_
  refine E_bp dX12_lays_48 rfl ?_
  refine E_callS (Y' := Y_X12_shifts) (as := [vR 1315 0, vI 6]) (st := []) dX12_lays_50 lk_RX12_329 m_X12_shifts (by decide) (Nat.le_refl _) (Nat.le_refl _) rfl rfl (Nat.le_of_ble_eq_true rfl) (s_X12_shifts h) (fun r0 B0 σ_6 h => ?_)
  obtain ⟨rfl, rfl, h⟩ := h
  refine E_aload_n dX12_lays_53 rfl rfl ?_
  refine E_getr (i := 0) dX12_lays_54 fl_RX12_32 rfl rfl (go_12_16 _ _) ?_
  refine E_bp dX12_lays_57 rfl ?_
  refine E_callS (Y' := Y_X12_shifts) (as := [vR 1316 0, vI 6]) (st := []) dX12_lays_59 lk_RX12_329 m_X12_shifts (by decide) (Nat.le_refl _) (Nat.le_refl _) rfl rfl (Nat.le_of_ble_eq_true rfl) (s_X12_shifts h) (fun r0 B0 σ_7 h => ?_)
  obtain ⟨rfl, rfl, h⟩ := h
  refine E_aload_n dX12_lays_62 rfl rfl ?_
  refine E_getr (i := 0) dX12_lays_63 fl_RX12_35 rfl rfl (go_12_17 _ _) ?_
  refine E_bp dX12_lays_66 rfl ?_
  refine E_callS (Y' := Y_X12_shifts) (as := [vR 1317 0, vI 6]) (st := []) dX12_lays_68 lk_RX12_329 m_X12_shifts (by decide) (Nat.le_refl _) (Nat.le_refl _) rfl rfl (Nat.le_of_ble_eq_true rfl) (s_X12_shifts h) (fun r0 B0 σ_8 h => ?_)
  obtain ⟨rfl, rfl, h⟩ := h
  refine E_aload_n dX12_lays_71 rfl rfl ?_
  refine E_getr (i := 0) dX12_lays_72 fl_RX12_38 rfl rfl (go_12_18 _ _) ?_
  refine E_bp dX12_lays_75 rfl ?_
  refine E_callS (Y' := Y_X12_shifts) (as := [vR 1318 0, vI 12]) (st := []) dX12_lays_77 lk_RX12_329 m_X12_shifts (by decide) (Nat.le_refl _) (Nat.le_refl _) rfl rfl (Nat.le_of_ble_eq_true rfl) (s_X12_shifts h) (fun r0 B0 σ_9 h => ?_)
  obtain ⟨rfl, rfl, h⟩ := h
  refine E_aload_n dX12_lays_80 rfl rfl ?_
  refine E_getr (i := 0) dX12_lays_81 fl_RX12_47 rfl rfl (go_12_21 _ _) ?_
  refine E_sp dX12_lays_84 rfl ?_
  refine E_callS (Y' := Y_X12_shifts) (as := [vR 1321 0, vI 1000]) (st := []) dX12_lays_87 lk_RX12_329 m_X12_shifts (by decide) (Nat.le_refl _) (Nat.le_refl _) rfl rfl (Nat.le_of_ble_eq_true rfl) (s_X12_shifts h) (fun r0 B0 σ_10 h => ?_)
  obtain ⟨rfl, rfl, h⟩ := h
  refine E_aload_n dX12_lays_90 rfl rfl ?_
  refine E_getr (i := 0) dX12_lays_91 fl_RX12_41 rfl rfl (go_12_19 _ _) ?_
  refine E_ic dX12_lays_94 rfl ?_
  refine E_aload_n dX12_lays_95 rfl rfl ?_
  refine E_getr (i := 0) dX12_lays_96 fl_RX12_41 rfl rfl (go_12_19 _ _) ?_
  refine E_ic dX12_lays_99 rfl ?_
  refine E_iald dX12_lays_100 sh_1319 (by decide) (by decide) ?_
  refine E_sp dX12_lays_101 rfl ?_
  refine E_isub dX12_lays_104 ?_
  refine E_iast dX12_lays_105 sh_1319 (by decide) (by decide) ?_
  refine E_aload_n dX12_lays_106 rfl rfl ?_
  refine E_getr (i := 0) dX12_lays_107 fl_RX12_44 rfl rfl (go_12_20 _ _) ?_
  refine E_ic dX12_lays_110 rfl ?_
  refine E_aload_n dX12_lays_111 rfl rfl ?_
  refine E_getr (i := 0) dX12_lays_112 fl_RX12_44 rfl rfl (go_12_20 _ _) ?_
  refine E_ic dX12_lays_115 rfl ?_
  refine E_iald dX12_lays_116 sh_1320 (by decide) (by decide) ?_
  refine E_sp dX12_lays_117 rfl ?_
  refine E_isub dX12_lays_120 ?_
  refine E_iast dX12_lays_121 sh_1320 (by decide) (by decide) ?_
  exact E_vret dX12_lays_122 rfl ⟨rfl, rfl, h⟩
abbrev Y_X12_copies : My := (yX12_copies, cX12_copies, 5, none)
theorem dX12_copies_0 : decode cX12_copies 0 = .ok (.iconst 0, 1) := by decide +kernel
theorem dX12_copies_1 : decode cX12_copies 1 = .ok (.istore 4, 2) := by decide +kernel
theorem dX12_copies_3 : decode cX12_copies 3 = .ok (.iload 4, 2) := by decide +kernel
theorem dX12_copies_5 : decode cX12_copies 5 = .ok (.bipush 46, 2) := by decide +kernel
theorem dX12_copies_7 : decode cX12_copies 7 = .ok (.if_icmp .ge 21, 3) := by decide +kernel
theorem dX12_copies_10 : decode cX12_copies 10 = .ok (.aload_n 2, 1) := by decide +kernel
theorem dX12_copies_11 : decode cX12_copies 11 = .ok (.iload_n 3, 1) := by decide +kernel
theorem dX12_copies_12 : decode cX12_copies 12 = .ok (.iload 4, 2) := by decide +kernel
theorem dX12_copies_14 : decode cX12_copies 14 = .ok (.iadd, 1) := by decide +kernel
theorem dX12_copies_15 : decode cX12_copies 15 = .ok (.aload_n 0, 1) := by decide +kernel
theorem dX12_copies_16 : decode cX12_copies 16 = .ok (.iload_n 1, 1) := by decide +kernel
theorem dX12_copies_17 : decode cX12_copies 17 = .ok (.iload 4, 2) := by decide +kernel
theorem dX12_copies_19 : decode cX12_copies 19 = .ok (.iadd, 1) := by decide +kernel
theorem dX12_copies_20 : decode cX12_copies 20 = .ok (.iaload, 1) := by decide +kernel
theorem dX12_copies_21 : decode cX12_copies 21 = .ok (.iastore, 1) := by decide +kernel
theorem dX12_copies_22 : decode cX12_copies 22 = .ok (.iinc 4 1, 3) := by decide +kernel
theorem dX12_copies_25 : decode cX12_copies 25 = .ok (.goto (-22), 3) := by decide +kernel
theorem dX12_copies_28 : decode cX12_copies 28 = .ok (.return_, 1) := by decide +kernel
def P_X12_copies_L3  (t0 : Nat) (o0 : Nat) (x1 : Int) (t2 : Nat) (o2 : Nat) (x3 : Int)  (Q : St → Prop) : Nat → Int → St → Prop
  | 0, _, _ => False
  | n + 1, x4, σ => (if 46 ≤ x4 then Q σ else (shp t0).1 = 0 ∧ 0 ≤ wi (x1 + x4) ∧ wi (x1 + x4) < ((shp t0).2 : Int) ∧ (shp t2).1 = 0 ∧ 0 ≤ wi (x3 + x4) ∧ wi (x3 + x4) < ((shp t2).2 : Int) ∧ (P_X12_copies_L3 t0 o0 x1 t2 o2 x3 Q n) (wi (x4 + 1)) (up σ t2 o2 (wi (x3 + x4)) (σ t0 o0 (wi (x1 + x4)))))
set_option maxRecDepth 20000 in
set_option maxHeartbeats 2000000 in
theorem e_P_X12_copies_L3  {t0 : Nat} {o0 : Nat} {x1 : Int} {t2 : Nat} {o2 : Nat} {x3 : Int}  {Q : St → Prop}   : ∀ (n : Nat) (x4 : Int) (σ : St), P_X12_copies_L3 t0 o0 x1 t2 o2 x3 Q n x4 σ → E Y_X12_copies 0 0 0 (QV Q) ww 0 0 3 [some (vR t0 o0), some (vI x1), some (vR t2 o2), some (vI x3), some (vI x4)] [] σ := by
  intro n
  induction n with
  | zero => intro x4 σ h; exact h.elim
  | succ n hR =>
    intro x4 σ h
    unfold P_X12_copies_L3 at h
    refine E_iload dX12_copies_3 rfl ?_
    refine E_bp dX12_copies_5 rfl ?_
    refine E_icmp_ge (tgt := 28) dX12_copies_7 (by decide) (fun hc => ?_) (fun hc => ?_)
    · have h := Eq.mp (if_pos hc) h
      exact E_vret dX12_copies_28 rfl ⟨rfl, rfl, h⟩
    · have h := Eq.mp (if_neg hc) h
      refine E_aload_n dX12_copies_10 rfl rfl ?_
      refine E_iload_n dX12_copies_11 rfl rfl ?_
      refine E_iload dX12_copies_12 rfl ?_
      refine E_iadd dX12_copies_14 ?_
      refine E_aload_n dX12_copies_15 rfl rfl ?_
      refine E_iload_n dX12_copies_16 rfl rfl ?_
      refine E_iload dX12_copies_17 rfl ?_
      refine E_iadd dX12_copies_19 ?_
      obtain ⟨hg0, hg1, hg2, h⟩ := h
      refine E_iald dX12_copies_20 (Prod.ext hg0 rfl) hg1 hg2 ?_
      obtain ⟨hg0, hg1, hg2, h⟩ := h
      refine E_iast dX12_copies_21 (Prod.ext hg0 rfl) hg1 hg2 ?_
      refine E_iinc (ls' := [some (vR t0 o0), some (vI x1), some (vR t2 o2), some (vI x3), some (vI (wi (x4 + 1)))]) dX12_copies_22 rfl (by decide) rfl rfl ?_
      refine E_goto (tgt := 3) dX12_copies_25 (by decide) ?_
      exact hR _ _ h
def P_X12_copies  (t0 : Nat) (o0 : Nat) (x1 : Int) (t2 : Nat) (o2 : Nat) (x3 : Int) (σ : St) (Q : St → Prop) : Prop :=
  P_X12_copies_L3 t0 o0 x1 t2 o2 x3 Q FU 0 σ
set_option maxRecDepth 20000 in
set_option maxHeartbeats 2000000 in
theorem s_X12_copies   {t0 : Nat} {o0 : Nat} {x1 : Int} {t2 : Nat} {o2 : Nat} {x3 : Int} {σ : St} {Q : St → Prop} (h : P_X12_copies t0 o0 x1 t2 o2 x3 σ Q) : Cn Y_X12_copies 0 0 0 ww σ [vR t0 o0, vI x1, vR t2 o2, vI x3] (QV Q) := by
  refine Cn_of [some (vR t0 o0), some (vI x1), some (vR t2 o2), some (vI x3), none] (by decide) (Nat.le_of_ble_eq_true rfl) rfl ?_
  unfold P_X12_copies at h
  refine E_ic dX12_copies_0 rfl ?_
  refine E_istore (ls' := [some (vR t0 o0), some (vI x1), some (vR t2 o2), some (vI x3), some (vI 0)]) dX12_copies_1 (by decide) rfl ?_
  refine e_P_X12_copies_L3  _ _ _ h
abbrev Y_X12_readsLine : My := (yX12_readsLine, cX12_readsLine, 3, some .boolean)
theorem dX12_readsLine_0 : decode cX12_readsLine 0 = .ok (.aload_n 0, 1) := by decide +kernel
theorem dX12_readsLine_1 : decode cX12_readsLine 1 = .ok (.ldc2_w 246, 3) := by decide +kernel
theorem dX12_readsLine_4 : decode cX12_readsLine 4 = .ok (.invokevirtual 197, 3) := by decide +kernel
theorem dX12_readsLine_7 : decode cX12_readsLine 7 = .ok (.ifCond .eq 7, 3) := by decide +kernel
theorem dX12_readsLine_10 : decode cX12_readsLine 10 = .ok (.iconst 0, 1) := by decide +kernel
theorem dX12_readsLine_11 : decode cX12_readsLine 11 = .ok (.goto 60, 3) := by decide +kernel
theorem dX12_readsLine_14 : decode cX12_readsLine 14 = .ok (.aload_n 0, 1) := by decide +kernel
theorem dX12_readsLine_15 : decode cX12_readsLine 15 = .ok (.ldc2_w 248, 3) := by decide +kernel
theorem dX12_readsLine_18 : decode cX12_readsLine 18 = .ok (.invokevirtual 197, 3) := by decide +kernel
theorem dX12_readsLine_21 : decode cX12_readsLine 21 = .ok (.ifCond .eq 7, 3) := by decide +kernel
theorem dX12_readsLine_24 : decode cX12_readsLine 24 = .ok (.iconst 1, 1) := by decide +kernel
theorem dX12_readsLine_25 : decode cX12_readsLine 25 = .ok (.goto 46, 3) := by decide +kernel
theorem dX12_readsLine_28 : decode cX12_readsLine 28 = .ok (.aload_n 0, 1) := by decide +kernel
theorem dX12_readsLine_29 : decode cX12_readsLine 29 = .ok (.ldc2_w 250, 3) := by decide +kernel
theorem dX12_readsLine_32 : decode cX12_readsLine 32 = .ok (.invokevirtual 197, 3) := by decide +kernel
theorem dX12_readsLine_35 : decode cX12_readsLine 35 = .ok (.ifCond .eq 7, 3) := by decide +kernel
theorem dX12_readsLine_38 : decode cX12_readsLine 38 = .ok (.iconst 2, 1) := by decide +kernel
theorem dX12_readsLine_39 : decode cX12_readsLine 39 = .ok (.goto 32, 3) := by decide +kernel
theorem dX12_readsLine_42 : decode cX12_readsLine 42 = .ok (.aload_n 0, 1) := by decide +kernel
theorem dX12_readsLine_43 : decode cX12_readsLine 43 = .ok (.ldc2_w 252, 3) := by decide +kernel
theorem dX12_readsLine_46 : decode cX12_readsLine 46 = .ok (.invokevirtual 197, 3) := by decide +kernel
theorem dX12_readsLine_49 : decode cX12_readsLine 49 = .ok (.ifCond .eq 7, 3) := by decide +kernel
theorem dX12_readsLine_52 : decode cX12_readsLine 52 = .ok (.iconst 3, 1) := by decide +kernel
theorem dX12_readsLine_53 : decode cX12_readsLine 53 = .ok (.goto 18, 3) := by decide +kernel
theorem dX12_readsLine_56 : decode cX12_readsLine 56 = .ok (.aload_n 0, 1) := by decide +kernel
theorem dX12_readsLine_57 : decode cX12_readsLine 57 = .ok (.ldc2_w 254, 3) := by decide +kernel
theorem dX12_readsLine_60 : decode cX12_readsLine 60 = .ok (.invokevirtual 197, 3) := by decide +kernel
theorem dX12_readsLine_63 : decode cX12_readsLine 63 = .ok (.ifCond .eq 7, 3) := by decide +kernel
theorem dX12_readsLine_66 : decode cX12_readsLine 66 = .ok (.iconst 4, 1) := by decide +kernel
theorem dX12_readsLine_67 : decode cX12_readsLine 67 = .ok (.goto 4, 3) := by decide +kernel
theorem dX12_readsLine_70 : decode cX12_readsLine 70 = .ok (.iconst (-1), 1) := by decide +kernel
theorem dX12_readsLine_71 : decode cX12_readsLine 71 = .ok (.istore_n 1, 1) := by decide +kernel
theorem dX12_readsLine_72 : decode cX12_readsLine 72 = .ok (.iload_n 1, 1) := by decide +kernel
theorem dX12_readsLine_73 : decode cX12_readsLine 73 = .ok (.ifCond .ge 9, 3) := by decide +kernel
theorem dX12_readsLine_76 : decode cX12_readsLine 76 = .ok (.aload_n 0, 1) := by decide +kernel
theorem dX12_readsLine_77 : decode cX12_readsLine 77 = .ok (.iconst 1, 1) := by decide +kernel
theorem dX12_readsLine_78 : decode cX12_readsLine 78 = .ok (.invokevirtual 205, 3) := by decide +kernel
theorem dX12_readsLine_81 : decode cX12_readsLine 81 = .ok (.ireturn, 1) := by decide +kernel
theorem dX12_readsLine_82 : decode cX12_readsLine 82 = .ok (.aload_n 0, 1) := by decide +kernel
theorem dX12_readsLine_83 : decode cX12_readsLine 83 = .ok (.getfield 87, 3) := by decide +kernel
theorem dX12_readsLine_86 : decode cX12_readsLine 86 = .ok (.iconst 5, 1) := by decide +kernel
theorem dX12_readsLine_87 : decode cX12_readsLine 87 = .ok (.iaload, 1) := by decide +kernel
theorem dX12_readsLine_88 : decode cX12_readsLine 88 = .ok (.bipush 40, 2) := by decide +kernel
theorem dX12_readsLine_90 : decode cX12_readsLine 90 = .ok (.if_icmp .ne 9, 3) := by decide +kernel
theorem dX12_readsLine_93 : decode cX12_readsLine 93 = .ok (.aload_n 0, 1) := by decide +kernel
theorem dX12_readsLine_94 : decode cX12_readsLine 94 = .ok (.iconst 5, 1) := by decide +kernel
theorem dX12_readsLine_95 : decode cX12_readsLine 95 = .ok (.invokevirtual 205, 3) := by decide +kernel
theorem dX12_readsLine_98 : decode cX12_readsLine 98 = .ok (.ireturn, 1) := by decide +kernel
theorem dX12_readsLine_99 : decode cX12_readsLine 99 = .ok (.aload_n 0, 1) := by decide +kernel
theorem dX12_readsLine_100 : decode cX12_readsLine 100 = .ok (.invokevirtual 212, 3) := by decide +kernel
theorem dX12_readsLine_103 : decode cX12_readsLine 103 = .ok (.sipush 200, 3) := by decide +kernel
theorem dX12_readsLine_106 : decode cX12_readsLine 106 = .ok (.aload_n 0, 1) := by decide +kernel
theorem dX12_readsLine_107 : decode cX12_readsLine 107 = .ok (.getfield 87, 3) := by decide +kernel
theorem dX12_readsLine_110 : decode cX12_readsLine 110 = .ok (.iconst 5, 1) := by decide +kernel
theorem dX12_readsLine_111 : decode cX12_readsLine 111 = .ok (.iaload, 1) := by decide +kernel
theorem dX12_readsLine_112 : decode cX12_readsLine 112 = .ok (.iadd, 1) := by decide +kernel
theorem dX12_readsLine_113 : decode cX12_readsLine 113 = .ok (.istore_n 2, 1) := by decide +kernel
theorem dX12_readsLine_114 : decode cX12_readsLine 114 = .ok (.aload_n 0, 1) := by decide +kernel
theorem dX12_readsLine_115 : decode cX12_readsLine 115 = .ok (.getfield 90, 3) := by decide +kernel
theorem dX12_readsLine_118 : decode cX12_readsLine 118 = .ok (.iload_n 2, 1) := by decide +kernel
theorem dX12_readsLine_119 : decode cX12_readsLine 119 = .ok (.iload_n 1, 1) := by decide +kernel
theorem dX12_readsLine_120 : decode cX12_readsLine 120 = .ok (.iastore, 1) := by decide +kernel
theorem dX12_readsLine_121 : decode cX12_readsLine 121 = .ok (.iload_n 1, 1) := by decide +kernel
theorem dX12_readsLine_122 : decode cX12_readsLine 122 = .ok (.iconst 1, 1) := by decide +kernel
theorem dX12_readsLine_123 : decode cX12_readsLine 123 = .ok (.if_icmp .eq 8, 3) := by decide +kernel
theorem dX12_readsLine_126 : decode cX12_readsLine 126 = .ok (.iload_n 1, 1) := by decide +kernel
theorem dX12_readsLine_127 : decode cX12_readsLine 127 = .ok (.iconst 3, 1) := by decide +kernel
theorem dX12_readsLine_128 : decode cX12_readsLine 128 = .ok (.if_icmp .ne 27, 3) := by decide +kernel
theorem dX12_readsLine_131 : decode cX12_readsLine 131 = .ok (.aload_n 0, 1) := by decide +kernel
theorem dX12_readsLine_132 : decode cX12_readsLine 132 = .ok (.aload_n 0, 1) := by decide +kernel
theorem dX12_readsLine_133 : decode cX12_readsLine 133 = .ok (.iconst 0, 1) := by decide +kernel
theorem dX12_readsLine_134 : decode cX12_readsLine 134 = .ok (.invokevirtual 285, 3) := by decide +kernel
theorem dX12_readsLine_137 : decode cX12_readsLine 137 = .ok (.invokevirtual 301, 3) := by decide +kernel
theorem dX12_readsLine_140 : decode cX12_readsLine 140 = .ok (.ifCond .ne 5, 3) := by decide +kernel
theorem dX12_readsLine_143 : decode cX12_readsLine 143 = .ok (.iconst 0, 1) := by decide +kernel
theorem dX12_readsLine_144 : decode cX12_readsLine 144 = .ok (.ireturn, 1) := by decide +kernel
theorem dX12_readsLine_145 : decode cX12_readsLine 145 = .ok (.aload_n 0, 1) := by decide +kernel
theorem dX12_readsLine_146 : decode cX12_readsLine 146 = .ok (.getfield 93, 3) := by decide +kernel
theorem dX12_readsLine_149 : decode cX12_readsLine 149 = .ok (.iload_n 2, 1) := by decide +kernel
theorem dX12_readsLine_150 : decode cX12_readsLine 150 = .ok (.aload_n 0, 1) := by decide +kernel
theorem dX12_readsLine_151 : decode cX12_readsLine 151 = .ok (.getfield 268, 3) := by decide +kernel
theorem dX12_readsLine_154 : decode cX12_readsLine 154 = .ok (.iastore, 1) := by decide +kernel
theorem dX12_readsLine_155 : decode cX12_readsLine 155 = .ok (.iload_n 1, 1) := by decide +kernel
theorem dX12_readsLine_156 : decode cX12_readsLine 156 = .ok (.iconst 2, 1) := by decide +kernel
theorem dX12_readsLine_157 : decode cX12_readsLine 157 = .ok (.if_icmp .eq 8, 3) := by decide +kernel
theorem dX12_readsLine_160 : decode cX12_readsLine 160 = .ok (.iload_n 1, 1) := by decide +kernel
theorem dX12_readsLine_161 : decode cX12_readsLine 161 = .ok (.iconst 3, 1) := by decide +kernel
theorem dX12_readsLine_162 : decode cX12_readsLine 162 = .ok (.if_icmp .ne 27, 3) := by decide +kernel
theorem dX12_readsLine_165 : decode cX12_readsLine 165 = .ok (.aload_n 0, 1) := by decide +kernel
theorem dX12_readsLine_166 : decode cX12_readsLine 166 = .ok (.aload_n 0, 1) := by decide +kernel
theorem dX12_readsLine_167 : decode cX12_readsLine 167 = .ok (.iconst 0, 1) := by decide +kernel
theorem dX12_readsLine_168 : decode cX12_readsLine 168 = .ok (.invokevirtual 282, 3) := by decide +kernel
theorem dX12_readsLine_171 : decode cX12_readsLine 171 = .ok (.invokevirtual 301, 3) := by decide +kernel
theorem dX12_readsLine_174 : decode cX12_readsLine 174 = .ok (.ifCond .ne 5, 3) := by decide +kernel
theorem dX12_readsLine_177 : decode cX12_readsLine 177 = .ok (.iconst 0, 1) := by decide +kernel
theorem dX12_readsLine_178 : decode cX12_readsLine 178 = .ok (.ireturn, 1) := by decide +kernel
theorem dX12_readsLine_179 : decode cX12_readsLine 179 = .ok (.aload_n 0, 1) := by decide +kernel
theorem dX12_readsLine_180 : decode cX12_readsLine 180 = .ok (.getfield 96, 3) := by decide +kernel
theorem dX12_readsLine_183 : decode cX12_readsLine 183 = .ok (.iload_n 2, 1) := by decide +kernel
theorem dX12_readsLine_184 : decode cX12_readsLine 184 = .ok (.aload_n 0, 1) := by decide +kernel
theorem dX12_readsLine_185 : decode cX12_readsLine 185 = .ok (.getfield 268, 3) := by decide +kernel
theorem dX12_readsLine_188 : decode cX12_readsLine 188 = .ok (.iastore, 1) := by decide +kernel
theorem dX12_readsLine_189 : decode cX12_readsLine 189 = .ok (.iload_n 1, 1) := by decide +kernel
theorem dX12_readsLine_190 : decode cX12_readsLine 190 = .ok (.iconst 2, 1) := by decide +kernel
theorem dX12_readsLine_191 : decode cX12_readsLine 191 = .ok (.if_icmp .ne 25, 3) := by decide +kernel
theorem dX12_readsLine_194 : decode cX12_readsLine 194 = .ok (.aload_n 0, 1) := by decide +kernel
theorem dX12_readsLine_195 : decode cX12_readsLine 195 = .ok (.iconst 0, 1) := by decide +kernel
theorem dX12_readsLine_196 : decode cX12_readsLine 196 = .ok (.bipush 60, 2) := by decide +kernel
theorem dX12_readsLine_198 : decode cX12_readsLine 198 = .ok (.invokevirtual 274, 3) := by decide +kernel
theorem dX12_readsLine_201 : decode cX12_readsLine 201 = .ok (.ifCond .ne 5, 3) := by decide +kernel
theorem dX12_readsLine_204 : decode cX12_readsLine 204 = .ok (.iconst 0, 1) := by decide +kernel
theorem dX12_readsLine_205 : decode cX12_readsLine 205 = .ok (.ireturn, 1) := by decide +kernel
theorem dX12_readsLine_206 : decode cX12_readsLine 206 = .ok (.aload_n 0, 1) := by decide +kernel
theorem dX12_readsLine_207 : decode cX12_readsLine 207 = .ok (.getfield 93, 3) := by decide +kernel
theorem dX12_readsLine_210 : decode cX12_readsLine 210 = .ok (.iload_n 2, 1) := by decide +kernel
theorem dX12_readsLine_211 : decode cX12_readsLine 211 = .ok (.aload_n 0, 1) := by decide +kernel
theorem dX12_readsLine_212 : decode cX12_readsLine 212 = .ok (.getfield 268, 3) := by decide +kernel
theorem dX12_readsLine_215 : decode cX12_readsLine 215 = .ok (.iastore, 1) := by decide +kernel
theorem dX12_readsLine_216 : decode cX12_readsLine 216 = .ok (.aload_n 0, 1) := by decide +kernel
theorem dX12_readsLine_217 : decode cX12_readsLine 217 = .ok (.getfield 87, 3) := by decide +kernel
theorem dX12_readsLine_220 : decode cX12_readsLine 220 = .ok (.iconst 5, 1) := by decide +kernel
theorem dX12_readsLine_221 : decode cX12_readsLine 221 = .ok (.dup2, 1) := by decide +kernel
theorem dX12_readsLine_222 : decode cX12_readsLine 222 = .ok (.iaload, 1) := by decide +kernel
theorem dX12_readsLine_223 : decode cX12_readsLine 223 = .ok (.iconst 1, 1) := by decide +kernel
theorem dX12_readsLine_224 : decode cX12_readsLine 224 = .ok (.iadd, 1) := by decide +kernel
theorem dX12_readsLine_225 : decode cX12_readsLine 225 = .ok (.iastore, 1) := by decide +kernel
theorem dX12_readsLine_226 : decode cX12_readsLine 226 = .ok (.aload_n 0, 1) := by decide +kernel
theorem dX12_readsLine_227 : decode cX12_readsLine 227 = .ok (.invokevirtual 298, 3) := by decide +kernel
theorem dX12_readsLine_230 : decode cX12_readsLine 230 = .ok (.ireturn, 1) := by decide +kernel
theorem fl_RX12_87 : FL RX12 87 12 38 := ⟨inG (i := 1438) (by decide +kernel) (by decide +kernel), by decide, by decide⟩
theorem fl_RX12_90 : FL RX12 90 12 39 := ⟨inG (i := 1439) (by decide +kernel) (by decide +kernel), by decide, by decide⟩
theorem fl_RX12_93 : FL RX12 93 12 40 := ⟨inG (i := 1440) (by decide +kernel) (by decide +kernel), by decide, by decide⟩
theorem fl_RX12_96 : FL RX12 96 12 41 := ⟨inG (i := 1441) (by decide +kernel) (by decide +kernel), by decide, by decide⟩
theorem go_12_38 (σ : St) (i : Nat) : go σ 12 i 38 = (1338, i) := rfl
theorem go_12_39 (σ : St) (i : Nat) : go σ 12 i 39 = (1339, i) := rfl
theorem go_12_40 (σ : St) (i : Nat) : go σ 12 i 40 = (1340, i) := rfl
theorem go_12_41 (σ : St) (i : Nat) : go σ 12 i 41 = (1341, i) := rfl
theorem sh_1338 : shp 1338 = (0, 6) := rfl
theorem sh_1339 : shp 1339 = (0, 240) := rfl
theorem sh_1340 : shp 1340 = (0, 240) := rfl
theorem sh_1341 : shp 1341 = (0, 240) := rfl
def P_X12_readsLine_J216    (Q : Int → St → Prop) (σ : St) : Prop :=
  P_X12_closes (up σ 1338 0 5 (wi ((σ 1338 0 5) + 1))) (fun r_21 σ_20 => (r_21 = 0 ∨ r_21 = 1) ∧ Q r_21 σ_20)
set_option maxRecDepth 20000 in
set_option maxHeartbeats 2000000 in
theorem e_P_X12_readsLine_J216    {Q : Int → St → Prop} {σ : St}   (h : P_X12_readsLine_J216  Q σ) : E Y_X12_readsLine 3 0 0 (QI Q) ww 0 0 216 [some (vR 12 0), none, none] [] σ := by
  unfold P_X12_readsLine_J216 at h
  refine E_aload_n dX12_readsLine_216 rfl rfl ?_
  refine E_getr (i := 0) dX12_readsLine_217 fl_RX12_87 rfl rfl (go_12_38 _ _) ?_
  refine E_ic dX12_readsLine_220 rfl ?_
  refine E_dup2 dX12_readsLine_221 (fun _ q => by cases q) (fun _ q => by cases q) ?_
  refine E_iald dX12_readsLine_222 sh_1338 (by decide) (by decide) ?_
  refine E_ic dX12_readsLine_223 rfl ?_
  refine E_iadd dX12_readsLine_224 ?_
  refine E_iast dX12_readsLine_225 sh_1338 (by decide) (by decide) ?_
  refine E_aload_n dX12_readsLine_226 rfl rfl ?_
  refine E_callV (Y' := Y_X12_closes) (as := []) (st := []) dX12_readsLine_227 lk_RX12_298 m_X12_closes (by decide) (Nat.le_refl _) (Nat.le_refl _) rfl rfl (Nat.le_of_ble_eq_true rfl) (s_X12_closes h) (fun r0 B0 σ_20 h => ?_)
  obtain ⟨r_21, rfl, rfl, h⟩ := h
  obtain ⟨hg0, h⟩ := h
  exact E_zret dX12_readsLine_230 rfl hg0 ⟨_, rfl, rfl, h⟩
def P_X12_readsLine_J189  (x1 : Int) (x2 : Int)  (Q : Int → St → Prop) (σ : St) : Prop :=
  (if x1 = 2 then P_X12_needsNumber 0 60 σ (fun r_23 σ_22 => (if r_23 = 0 then Q 0 σ_22 else 0 ≤ x2 ∧ x2 < 240 ∧ P_X12_readsLine_J216 Q (up σ_22 1340 0 x2 (σ_22 12 0 36)))) else P_X12_readsLine_J216 Q σ)
set_option maxRecDepth 20000 in
set_option maxHeartbeats 2000000 in
theorem e_P_X12_readsLine_J189  {x1 : Int} {x2 : Int}  {Q : Int → St → Prop} {σ : St}   (h : P_X12_readsLine_J189 x1 x2 Q σ) : E Y_X12_readsLine 3 0 0 (QI Q) ww 0 0 189 [some (vR 12 0), some (vI x1), some (vI x2)] [] σ := by
  unfold P_X12_readsLine_J189 at h
  refine E_iload_n dX12_readsLine_189 rfl rfl ?_
  refine E_ic dX12_readsLine_190 rfl ?_
  refine E_icmp_ne (tgt := 216) dX12_readsLine_191 (by decide) (fun hc => ?_) (fun hc => ?_)
  · have h := Eq.mp (if_neg hc) h
    refine E_wk2 [some (vR 12 0), none, none] ⟨rfl, trivial⟩ ?_
    exact e_P_X12_readsLine_J216 h
  · have h := Eq.mp (if_pos hc) h
    refine E_aload_n dX12_readsLine_194 rfl rfl ?_
    refine E_ic dX12_readsLine_195 rfl ?_
    refine E_bp dX12_readsLine_196 rfl ?_
    refine E_callV (Y' := Y_X12_needsNumber) (as := [vI 0, vI 60]) (st := []) dX12_readsLine_198 lk_RX12_274 m_X12_needsNumber (by decide) (Nat.le_refl _) (Nat.le_refl _) rfl rfl (Nat.le_of_ble_eq_true rfl) (s_X12_needsNumber h) (fun r0 B0 σ_22 h => ?_)
    obtain ⟨r_23, rfl, rfl, h⟩ := h
    refine E_if_ne (tgt := 206) dX12_readsLine_201 (by decide) (fun hc => ?_) (fun hc => ?_)
    · have h := Eq.mp (if_neg hc) h
      refine E_aload_n dX12_readsLine_206 rfl rfl ?_
      refine E_getr (i := 0) dX12_readsLine_207 fl_RX12_93 rfl rfl (go_12_40 _ _) ?_
      refine E_iload_n dX12_readsLine_210 rfl rfl ?_
      refine E_aload_n dX12_readsLine_211 rfl rfl ?_
      refine E_geti (i := 0) dX12_readsLine_212 fl_RX12_268 rfl ?_
      obtain ⟨hg0, hg1, h⟩ := h
      refine E_iast dX12_readsLine_215 sh_1340 hg0 hg1 ?_
      refine E_wk2 [some (vR 12 0), none, none] ⟨rfl, trivial⟩ ?_
      exact e_P_X12_readsLine_J216 h
    · have h := Eq.mp (if_pos hc) h
      refine E_ic dX12_readsLine_204 rfl ?_
      exact E_zret dX12_readsLine_205 rfl (by decide) ⟨_, rfl, rfl, h⟩
def P_X12_readsLine_J165  (x1 : Int) (x2 : Int)  (Q : Int → St → Prop) (σ : St) : Prop :=
  P_X12_counterNamed 0 σ (fun r_17 σ_16 => P_X12_passesFound r_17 σ_16 (fun r_19 σ_18 => (if r_19 = 0 then Q 0 σ_18 else 0 ≤ x2 ∧ x2 < 240 ∧ P_X12_readsLine_J189 x1 x2 Q (up σ_18 1341 0 x2 (σ_18 12 0 36)))))
set_option maxRecDepth 20000 in
set_option maxHeartbeats 2000000 in
theorem e_P_X12_readsLine_J165  {x1 : Int} {x2 : Int}  {Q : Int → St → Prop} {σ : St}   (h : P_X12_readsLine_J165 x1 x2 Q σ) : E Y_X12_readsLine 3 0 0 (QI Q) ww 0 0 165 [some (vR 12 0), some (vI x1), some (vI x2)] [] σ := by
  unfold P_X12_readsLine_J165 at h
  refine E_aload_n dX12_readsLine_165 rfl rfl ?_
  refine E_aload_n dX12_readsLine_166 rfl rfl ?_
  refine E_ic dX12_readsLine_167 rfl ?_
  refine E_callV (Y' := Y_X12_counterNamed) (as := [vI 0]) (st := [vR 12 0]) dX12_readsLine_168 lk_RX12_282 m_X12_counterNamed (by decide) (Nat.le_refl _) (Nat.le_refl _) rfl rfl (Nat.le_of_ble_eq_true rfl) (s_X12_counterNamed h) (fun r0 B0 σ_16 h => ?_)
  obtain ⟨r_17, rfl, rfl, h⟩ := h
  refine E_callV (Y' := Y_X12_passesFound) (as := [vI r_17]) (st := []) dX12_readsLine_171 lk_RX12_301 m_X12_passesFound (by decide) (Nat.le_refl _) (Nat.le_refl _) rfl rfl (Nat.le_of_ble_eq_true rfl) (s_X12_passesFound h) (fun r0 B0 σ_18 h => ?_)
  obtain ⟨r_19, rfl, rfl, h⟩ := h
  refine E_if_ne (tgt := 179) dX12_readsLine_174 (by decide) (fun hc => ?_) (fun hc => ?_)
  · have h := Eq.mp (if_neg hc) h
    refine E_aload_n dX12_readsLine_179 rfl rfl ?_
    refine E_getr (i := 0) dX12_readsLine_180 fl_RX12_96 rfl rfl (go_12_41 _ _) ?_
    refine E_iload_n dX12_readsLine_183 rfl rfl ?_
    refine E_aload_n dX12_readsLine_184 rfl rfl ?_
    refine E_geti (i := 0) dX12_readsLine_185 fl_RX12_268 rfl ?_
    obtain ⟨hg0, hg1, h⟩ := h
    refine E_iast dX12_readsLine_188 sh_1341 hg0 hg1 ?_
    exact e_P_X12_readsLine_J189 h
  · have h := Eq.mp (if_pos hc) h
    refine E_ic dX12_readsLine_177 rfl ?_
    exact E_zret dX12_readsLine_178 rfl (by decide) ⟨_, rfl, rfl, h⟩
def P_X12_readsLine_J155  (x1 : Int) (x2 : Int)  (Q : Int → St → Prop) (σ : St) : Prop :=
  (if x1 = 2 then P_X12_readsLine_J165 x1 x2 Q σ else (if x1 = 3 then P_X12_readsLine_J165 x1 x2 Q σ else P_X12_readsLine_J189 x1 x2 Q σ))
set_option maxRecDepth 20000 in
set_option maxHeartbeats 2000000 in
theorem e_P_X12_readsLine_J155  {x1 : Int} {x2 : Int}  {Q : Int → St → Prop} {σ : St}   (h : P_X12_readsLine_J155 x1 x2 Q σ) : E Y_X12_readsLine 3 0 0 (QI Q) ww 0 0 155 [some (vR 12 0), some (vI x1), some (vI x2)] [] σ := by
  unfold P_X12_readsLine_J155 at h
  refine E_iload_n dX12_readsLine_155 rfl rfl ?_
  refine E_ic dX12_readsLine_156 rfl ?_
  refine E_icmp_eq (tgt := 165) dX12_readsLine_157 (by decide) (fun hc => ?_) (fun hc => ?_)
  · have h := Eq.mp (if_pos hc) h
    exact e_P_X12_readsLine_J165 h
  · have h := Eq.mp (if_neg hc) h
    refine E_iload_n dX12_readsLine_160 rfl rfl ?_
    refine E_ic dX12_readsLine_161 rfl ?_
    refine E_icmp_ne (tgt := 189) dX12_readsLine_162 (by decide) (fun hc => ?_) (fun hc => ?_)
    · have h := Eq.mp (if_neg hc) h
      exact e_P_X12_readsLine_J189 h
    · have h := Eq.mp (if_pos hc) h
      exact e_P_X12_readsLine_J165 h
def P_X12_readsLine_J131  (x1 : Int) (x2 : Int)  (Q : Int → St → Prop) (σ : St) : Prop :=
  P_X12_ballNamed 0 σ (fun r_13 σ_12 => P_X12_passesFound r_13 σ_12 (fun r_15 σ_14 => (if r_15 = 0 then Q 0 σ_14 else 0 ≤ x2 ∧ x2 < 240 ∧ P_X12_readsLine_J155 x1 x2 Q (up σ_14 1340 0 x2 (σ_14 12 0 36)))))
set_option maxRecDepth 20000 in
set_option maxHeartbeats 2000000 in
theorem e_P_X12_readsLine_J131  {x1 : Int} {x2 : Int}  {Q : Int → St → Prop} {σ : St}   (h : P_X12_readsLine_J131 x1 x2 Q σ) : E Y_X12_readsLine 3 0 0 (QI Q) ww 0 0 131 [some (vR 12 0), some (vI x1), some (vI x2)] [] σ := by
  unfold P_X12_readsLine_J131 at h
  refine E_aload_n dX12_readsLine_131 rfl rfl ?_
  refine E_aload_n dX12_readsLine_132 rfl rfl ?_
  refine E_ic dX12_readsLine_133 rfl ?_
  refine E_callV (Y' := Y_X12_ballNamed) (as := [vI 0]) (st := [vR 12 0]) dX12_readsLine_134 lk_RX12_285 m_X12_ballNamed (by decide) (Nat.le_refl _) (Nat.le_refl _) rfl rfl (Nat.le_of_ble_eq_true rfl) (s_X12_ballNamed h) (fun r0 B0 σ_12 h => ?_)
  obtain ⟨r_13, rfl, rfl, h⟩ := h
  refine E_callV (Y' := Y_X12_passesFound) (as := [vI r_13]) (st := []) dX12_readsLine_137 lk_RX12_301 m_X12_passesFound (by decide) (Nat.le_refl _) (Nat.le_refl _) rfl rfl (Nat.le_of_ble_eq_true rfl) (s_X12_passesFound h) (fun r0 B0 σ_14 h => ?_)
  obtain ⟨r_15, rfl, rfl, h⟩ := h
  refine E_if_ne (tgt := 145) dX12_readsLine_140 (by decide) (fun hc => ?_) (fun hc => ?_)
  · have h := Eq.mp (if_neg hc) h
    refine E_aload_n dX12_readsLine_145 rfl rfl ?_
    refine E_getr (i := 0) dX12_readsLine_146 fl_RX12_93 rfl rfl (go_12_40 _ _) ?_
    refine E_iload_n dX12_readsLine_149 rfl rfl ?_
    refine E_aload_n dX12_readsLine_150 rfl rfl ?_
    refine E_geti (i := 0) dX12_readsLine_151 fl_RX12_268 rfl ?_
    obtain ⟨hg0, hg1, h⟩ := h
    refine E_iast dX12_readsLine_154 sh_1340 hg0 hg1 ?_
    exact e_P_X12_readsLine_J155 h
  · have h := Eq.mp (if_pos hc) h
    refine E_ic dX12_readsLine_143 rfl ?_
    exact E_zret dX12_readsLine_144 rfl (by decide) ⟨_, rfl, rfl, h⟩
def P_X12_readsLine_J71  (y0 : Int)  (Q : Int → St → Prop) (σ : St) : Prop :=
  (if 0 ≤ y0 then (if (σ 1338 0 5) = 40 then P_X12_fails 5 σ (fun r_25 σ_24 => (r_25 = 0 ∨ r_25 = 1) ∧ Q r_25 σ_24) else P_X12_nextToken σ (fun σ_11 => 0 ≤ wi (200 + (σ_11 1338 0 5)) ∧ wi (200 + (σ_11 1338 0 5)) < 240 ∧ (if y0 = 1 then P_X12_readsLine_J131 y0 (wi (200 + (σ_11 1338 0 5))) Q (up σ_11 1339 0 (wi (200 + (σ_11 1338 0 5))) y0) else (if y0 = 3 then P_X12_readsLine_J131 y0 (wi (200 + (σ_11 1338 0 5))) Q (up σ_11 1339 0 (wi (200 + (σ_11 1338 0 5))) y0) else P_X12_readsLine_J155 y0 (wi (200 + (σ_11 1338 0 5))) Q (up σ_11 1339 0 (wi (200 + (σ_11 1338 0 5))) y0))))) else P_X12_fails 1 σ (fun r_27 σ_26 => (r_27 = 0 ∨ r_27 = 1) ∧ Q r_27 σ_26))
set_option maxRecDepth 20000 in
set_option maxHeartbeats 2000000 in
theorem e_P_X12_readsLine_J71  {y0 : Int}  {Q : Int → St → Prop} {σ : St}   (h : P_X12_readsLine_J71 y0 Q σ) : E Y_X12_readsLine 3 0 0 (QI Q) ww 0 0 71 [some (vR 12 0), none, none] [vI y0] σ := by
  unfold P_X12_readsLine_J71 at h
  refine E_istore_n (ls' := [some (vR 12 0), some (vI y0), none]) dX12_readsLine_71 rfl (by decide) rfl ?_
  refine E_iload_n dX12_readsLine_72 rfl rfl ?_
  refine E_if_ge (tgt := 82) dX12_readsLine_73 (by decide) (fun hc => ?_) (fun hc => ?_)
  · have h := Eq.mp (if_pos hc) h
    refine E_aload_n dX12_readsLine_82 rfl rfl ?_
    refine E_getr (i := 0) dX12_readsLine_83 fl_RX12_87 rfl rfl (go_12_38 _ _) ?_
    refine E_ic dX12_readsLine_86 rfl ?_
    refine E_iald dX12_readsLine_87 sh_1338 (by decide) (by decide) ?_
    refine E_bp dX12_readsLine_88 rfl ?_
    refine E_icmp_ne (tgt := 99) dX12_readsLine_90 (by decide) (fun hc => ?_) (fun hc => ?_)
    · have h := Eq.mp (if_neg hc) h
      refine E_aload_n dX12_readsLine_99 rfl rfl ?_
      refine E_callV (Y' := Y_X12_nextToken) (as := []) (st := []) dX12_readsLine_100 lk_RX12_212 m_X12_nextToken (by decide) (Nat.le_refl _) (Nat.le_refl _) rfl rfl (Nat.le_of_ble_eq_true rfl) (s_X12_nextToken h) (fun r0 B0 σ_11 h => ?_)
      obtain ⟨rfl, rfl, h⟩ := h
      refine E_sp dX12_readsLine_103 rfl ?_
      refine E_aload_n dX12_readsLine_106 rfl rfl ?_
      refine E_getr (i := 0) dX12_readsLine_107 fl_RX12_87 rfl rfl (go_12_38 _ _) ?_
      refine E_ic dX12_readsLine_110 rfl ?_
      refine E_iald dX12_readsLine_111 sh_1338 (by decide) (by decide) ?_
      refine E_iadd dX12_readsLine_112 ?_
      refine E_istore_n (ls' := [some (vR 12 0), some (vI y0), some (vI (wi (200 + (σ_11 1338 0 5))))]) dX12_readsLine_113 rfl (by decide) rfl ?_
      refine E_aload_n dX12_readsLine_114 rfl rfl ?_
      refine E_getr (i := 0) dX12_readsLine_115 fl_RX12_90 rfl rfl (go_12_39 _ _) ?_
      refine E_iload_n dX12_readsLine_118 rfl rfl ?_
      refine E_iload_n dX12_readsLine_119 rfl rfl ?_
      obtain ⟨hg0, hg1, h⟩ := h
      refine E_iast dX12_readsLine_120 sh_1339 hg0 hg1 ?_
      refine E_iload_n dX12_readsLine_121 rfl rfl ?_
      refine E_ic dX12_readsLine_122 rfl ?_
      refine E_icmp_eq (tgt := 131) dX12_readsLine_123 (by decide) (fun hc => ?_) (fun hc => ?_)
      · have h := Eq.mp (if_pos hc) h
        exact e_P_X12_readsLine_J131 h
      · have h := Eq.mp (if_neg hc) h
        refine E_iload_n dX12_readsLine_126 rfl rfl ?_
        refine E_ic dX12_readsLine_127 rfl ?_
        refine E_icmp_ne (tgt := 155) dX12_readsLine_128 (by decide) (fun hc => ?_) (fun hc => ?_)
        · have h := Eq.mp (if_neg hc) h
          exact e_P_X12_readsLine_J155 h
        · have h := Eq.mp (if_pos hc) h
          exact e_P_X12_readsLine_J131 h
    · have h := Eq.mp (if_pos hc) h
      refine E_aload_n dX12_readsLine_93 rfl rfl ?_
      refine E_ic dX12_readsLine_94 rfl ?_
      refine E_callV (Y' := Y_X12_fails) (as := [vI 5]) (st := []) dX12_readsLine_95 lk_RX12_205 m_X12_fails (by decide) (Nat.le_refl _) (Nat.le_refl _) rfl rfl (Nat.le_of_ble_eq_true rfl) (s_X12_fails h) (fun r0 B0 σ_24 h => ?_)
      obtain ⟨r_25, rfl, rfl, h⟩ := h
      obtain ⟨hg0, h⟩ := h
      exact E_zret dX12_readsLine_98 rfl hg0 ⟨_, rfl, rfl, h⟩
  · have h := Eq.mp (if_neg hc) h
    refine E_aload_n dX12_readsLine_76 rfl rfl ?_
    refine E_ic dX12_readsLine_77 rfl ?_
    refine E_callV (Y' := Y_X12_fails) (as := [vI 1]) (st := []) dX12_readsLine_78 lk_RX12_205 m_X12_fails (by decide) (Nat.le_refl _) (Nat.le_refl _) rfl rfl (Nat.le_of_ble_eq_true rfl) (s_X12_fails h) (fun r0 B0 σ_26 h => ?_)
    obtain ⟨r_27, rfl, rfl, h⟩ := h
    obtain ⟨hg0, h⟩ := h
    exact E_zret dX12_readsLine_81 rfl hg0 ⟨_, rfl, rfl, h⟩
def P_X12_readsLine   (σ : St) (Q : Int → St → Prop) : Prop :=
  P_X12_isWord 43058 σ (fun r_2 σ_1 => (if r_2 = 0 then P_X12_isWord 378004 σ_1 (fun r_4 σ_3 => (if r_4 = 0 then P_X12_isWord 14006 σ_3 (fun r_6 σ_5 => (if r_6 = 0 then P_X12_isWord 1627639 σ_5 (fun r_8 σ_7 => (if r_8 = 0 then P_X12_isWord 2968 σ_7 (fun r_10 σ_9 => (if r_10 = 0 then P_X12_readsLine_J71 (-1) Q σ_9 else P_X12_readsLine_J71 4 Q σ_9)) else P_X12_readsLine_J71 3 Q σ_7)) else P_X12_readsLine_J71 2 Q σ_5)) else P_X12_readsLine_J71 1 Q σ_3)) else P_X12_readsLine_J71 0 Q σ_1))
set_option maxRecDepth 20000 in
set_option maxHeartbeats 2000000 in
theorem s_X12_readsLine    {σ : St} {Q : Int → St → Prop} (h : P_X12_readsLine  σ Q) : Cn Y_X12_readsLine 3 0 0 ww σ [vR 12 0] (QI Q) := by
  refine Cn_of [some (vR 12 0), none, none] (by decide) (Nat.le_of_ble_eq_true rfl) rfl ?_
  unfold P_X12_readsLine at h
  refine E_aload_n dX12_readsLine_0 rfl rfl ?_
  refine E_ldc2 (z := 43058) dX12_readsLine_1 kl_RX12_246 (by decide) ?_
  refine E_callV (Y' := Y_X12_isWord) (as := [vL 43058]) (st := []) dX12_readsLine_4 lk_RX12_197 m_X12_isWord (by decide) (Nat.le_refl _) (Nat.le_refl _) rfl rfl (Nat.le_of_ble_eq_true rfl) (s_X12_isWord h) (fun r0 B0 σ_1 h => ?_)
  obtain ⟨r_2, rfl, rfl, h⟩ := h
  refine E_if_eq (tgt := 14) dX12_readsLine_7 (by decide) (fun hc => ?_) (fun hc => ?_)
  · have h := Eq.mp (if_pos hc) h
    refine E_aload_n dX12_readsLine_14 rfl rfl ?_
    refine E_ldc2 (z := 378004) dX12_readsLine_15 kl_RX12_248 (by decide) ?_
    refine E_callV (Y' := Y_X12_isWord) (as := [vL 378004]) (st := []) dX12_readsLine_18 lk_RX12_197 m_X12_isWord (by decide) (Nat.le_refl _) (Nat.le_refl _) rfl rfl (Nat.le_of_ble_eq_true rfl) (s_X12_isWord h) (fun r0 B0 σ_3 h => ?_)
    obtain ⟨r_4, rfl, rfl, h⟩ := h
    refine E_if_eq (tgt := 28) dX12_readsLine_21 (by decide) (fun hc => ?_) (fun hc => ?_)
    · have h := Eq.mp (if_pos hc) h
      refine E_aload_n dX12_readsLine_28 rfl rfl ?_
      refine E_ldc2 (z := 14006) dX12_readsLine_29 kl_RX12_250 (by decide) ?_
      refine E_callV (Y' := Y_X12_isWord) (as := [vL 14006]) (st := []) dX12_readsLine_32 lk_RX12_197 m_X12_isWord (by decide) (Nat.le_refl _) (Nat.le_refl _) rfl rfl (Nat.le_of_ble_eq_true rfl) (s_X12_isWord h) (fun r0 B0 σ_5 h => ?_)
      obtain ⟨r_6, rfl, rfl, h⟩ := h
      refine E_if_eq (tgt := 42) dX12_readsLine_35 (by decide) (fun hc => ?_) (fun hc => ?_)
      · have h := Eq.mp (if_pos hc) h
        refine E_aload_n dX12_readsLine_42 rfl rfl ?_
        refine E_ldc2 (z := 1627639) dX12_readsLine_43 kl_RX12_252 (by decide) ?_
        refine E_callV (Y' := Y_X12_isWord) (as := [vL 1627639]) (st := []) dX12_readsLine_46 lk_RX12_197 m_X12_isWord (by decide) (Nat.le_refl _) (Nat.le_refl _) rfl rfl (Nat.le_of_ble_eq_true rfl) (s_X12_isWord h) (fun r0 B0 σ_7 h => ?_)
        obtain ⟨r_8, rfl, rfl, h⟩ := h
        refine E_if_eq (tgt := 56) dX12_readsLine_49 (by decide) (fun hc => ?_) (fun hc => ?_)
        · have h := Eq.mp (if_pos hc) h
          refine E_aload_n dX12_readsLine_56 rfl rfl ?_
          refine E_ldc2 (z := 2968) dX12_readsLine_57 kl_RX12_254 (by decide) ?_
          refine E_callV (Y' := Y_X12_isWord) (as := [vL 2968]) (st := []) dX12_readsLine_60 lk_RX12_197 m_X12_isWord (by decide) (Nat.le_refl _) (Nat.le_refl _) rfl rfl (Nat.le_of_ble_eq_true rfl) (s_X12_isWord h) (fun r0 B0 σ_9 h => ?_)
          obtain ⟨r_10, rfl, rfl, h⟩ := h
          refine E_if_eq (tgt := 70) dX12_readsLine_63 (by decide) (fun hc => ?_) (fun hc => ?_)
          · have h := Eq.mp (if_pos hc) h
            refine E_ic dX12_readsLine_70 rfl ?_
            exact e_P_X12_readsLine_J71 h
          · have h := Eq.mp (if_neg hc) h
            refine E_ic dX12_readsLine_66 rfl ?_
            refine E_goto (tgt := 71) dX12_readsLine_67 (by decide) ?_
            exact e_P_X12_readsLine_J71 h
        · have h := Eq.mp (if_neg hc) h
          refine E_ic dX12_readsLine_52 rfl ?_
          refine E_goto (tgt := 71) dX12_readsLine_53 (by decide) ?_
          exact e_P_X12_readsLine_J71 h
      · have h := Eq.mp (if_neg hc) h
        refine E_ic dX12_readsLine_38 rfl ?_
        refine E_goto (tgt := 71) dX12_readsLine_39 (by decide) ?_
        exact e_P_X12_readsLine_J71 h
    · have h := Eq.mp (if_neg hc) h
      refine E_ic dX12_readsLine_24 rfl ?_
      refine E_goto (tgt := 71) dX12_readsLine_25 (by decide) ?_
      exact e_P_X12_readsLine_J71 h
  · have h := Eq.mp (if_neg hc) h
    refine E_ic dX12_readsLine_10 rfl ?_
    refine E_goto (tgt := 71) dX12_readsLine_11 (by decide) ?_
    exact e_P_X12_readsLine_J71 h
abbrev Y_X12_laysLines : My := (yX12_laysLines, cX12_laysLines, 4, none)
theorem dX12_laysLines_0 : decode cX12_laysLines 0 = .ok (.aload_n 0, 1) := by decide +kernel
theorem dX12_laysLines_1 : decode cX12_laysLines 1 = .ok (.getfield 87, 3) := by decide +kernel
theorem dX12_laysLines_4 : decode cX12_laysLines 4 = .ok (.iload_n 2, 1) := by decide +kernel
theorem dX12_laysLines_5 : decode cX12_laysLines 5 = .ok (.aload_n 0, 1) := by decide +kernel
theorem dX12_laysLines_6 : decode cX12_laysLines 6 = .ok (.getfield 87, 3) := by decide +kernel
theorem dX12_laysLines_9 : decode cX12_laysLines 9 = .ok (.iload_n 1, 1) := by decide +kernel
theorem dX12_laysLines_10 : decode cX12_laysLines 10 = .ok (.iaload, 1) := by decide +kernel
theorem dX12_laysLines_11 : decode cX12_laysLines 11 = .ok (.iastore, 1) := by decide +kernel
theorem dX12_laysLines_12 : decode cX12_laysLines 12 = .ok (.iconst 0, 1) := by decide +kernel
theorem dX12_laysLines_13 : decode cX12_laysLines 13 = .ok (.istore_n 3, 1) := by decide +kernel
theorem dX12_laysLines_14 : decode cX12_laysLines 14 = .ok (.iload_n 3, 1) := by decide +kernel
theorem dX12_laysLines_15 : decode cX12_laysLines 15 = .ok (.bipush 40, 2) := by decide +kernel
theorem dX12_laysLines_17 : decode cX12_laysLines 17 = .ok (.if_icmp .ge 75, 3) := by decide +kernel
theorem dX12_laysLines_20 : decode cX12_laysLines 20 = .ok (.aload_n 0, 1) := by decide +kernel
theorem dX12_laysLines_21 : decode cX12_laysLines 21 = .ok (.getfield 90, 3) := by decide +kernel
theorem dX12_laysLines_24 : decode cX12_laysLines 24 = .ok (.bipush 40, 2) := by decide +kernel
theorem dX12_laysLines_26 : decode cX12_laysLines 26 = .ok (.iload_n 2, 1) := by decide +kernel
theorem dX12_laysLines_27 : decode cX12_laysLines 27 = .ok (.imul, 1) := by decide +kernel
theorem dX12_laysLines_28 : decode cX12_laysLines 28 = .ok (.iload_n 3, 1) := by decide +kernel
theorem dX12_laysLines_29 : decode cX12_laysLines 29 = .ok (.iadd, 1) := by decide +kernel
theorem dX12_laysLines_30 : decode cX12_laysLines 30 = .ok (.aload_n 0, 1) := by decide +kernel
theorem dX12_laysLines_31 : decode cX12_laysLines 31 = .ok (.getfield 90, 3) := by decide +kernel
theorem dX12_laysLines_34 : decode cX12_laysLines 34 = .ok (.bipush 40, 2) := by decide +kernel
theorem dX12_laysLines_36 : decode cX12_laysLines 36 = .ok (.iload_n 1, 1) := by decide +kernel
theorem dX12_laysLines_37 : decode cX12_laysLines 37 = .ok (.imul, 1) := by decide +kernel
theorem dX12_laysLines_38 : decode cX12_laysLines 38 = .ok (.iload_n 3, 1) := by decide +kernel
theorem dX12_laysLines_39 : decode cX12_laysLines 39 = .ok (.iadd, 1) := by decide +kernel
theorem dX12_laysLines_40 : decode cX12_laysLines 40 = .ok (.iaload, 1) := by decide +kernel
theorem dX12_laysLines_41 : decode cX12_laysLines 41 = .ok (.iastore, 1) := by decide +kernel
theorem dX12_laysLines_42 : decode cX12_laysLines 42 = .ok (.aload_n 0, 1) := by decide +kernel
theorem dX12_laysLines_43 : decode cX12_laysLines 43 = .ok (.getfield 93, 3) := by decide +kernel
theorem dX12_laysLines_46 : decode cX12_laysLines 46 = .ok (.bipush 40, 2) := by decide +kernel
theorem dX12_laysLines_48 : decode cX12_laysLines 48 = .ok (.iload_n 2, 1) := by decide +kernel
theorem dX12_laysLines_49 : decode cX12_laysLines 49 = .ok (.imul, 1) := by decide +kernel
theorem dX12_laysLines_50 : decode cX12_laysLines 50 = .ok (.iload_n 3, 1) := by decide +kernel
theorem dX12_laysLines_51 : decode cX12_laysLines 51 = .ok (.iadd, 1) := by decide +kernel
theorem dX12_laysLines_52 : decode cX12_laysLines 52 = .ok (.aload_n 0, 1) := by decide +kernel
theorem dX12_laysLines_53 : decode cX12_laysLines 53 = .ok (.getfield 93, 3) := by decide +kernel
theorem dX12_laysLines_56 : decode cX12_laysLines 56 = .ok (.bipush 40, 2) := by decide +kernel
theorem dX12_laysLines_58 : decode cX12_laysLines 58 = .ok (.iload_n 1, 1) := by decide +kernel
theorem dX12_laysLines_59 : decode cX12_laysLines 59 = .ok (.imul, 1) := by decide +kernel
theorem dX12_laysLines_60 : decode cX12_laysLines 60 = .ok (.iload_n 3, 1) := by decide +kernel
theorem dX12_laysLines_61 : decode cX12_laysLines 61 = .ok (.iadd, 1) := by decide +kernel
theorem dX12_laysLines_62 : decode cX12_laysLines 62 = .ok (.iaload, 1) := by decide +kernel
theorem dX12_laysLines_63 : decode cX12_laysLines 63 = .ok (.iastore, 1) := by decide +kernel
theorem dX12_laysLines_64 : decode cX12_laysLines 64 = .ok (.aload_n 0, 1) := by decide +kernel
theorem dX12_laysLines_65 : decode cX12_laysLines 65 = .ok (.getfield 96, 3) := by decide +kernel
theorem dX12_laysLines_68 : decode cX12_laysLines 68 = .ok (.bipush 40, 2) := by decide +kernel
theorem dX12_laysLines_70 : decode cX12_laysLines 70 = .ok (.iload_n 2, 1) := by decide +kernel
theorem dX12_laysLines_71 : decode cX12_laysLines 71 = .ok (.imul, 1) := by decide +kernel
theorem dX12_laysLines_72 : decode cX12_laysLines 72 = .ok (.iload_n 3, 1) := by decide +kernel
theorem dX12_laysLines_73 : decode cX12_laysLines 73 = .ok (.iadd, 1) := by decide +kernel
theorem dX12_laysLines_74 : decode cX12_laysLines 74 = .ok (.aload_n 0, 1) := by decide +kernel
theorem dX12_laysLines_75 : decode cX12_laysLines 75 = .ok (.getfield 96, 3) := by decide +kernel
theorem dX12_laysLines_78 : decode cX12_laysLines 78 = .ok (.bipush 40, 2) := by decide +kernel
theorem dX12_laysLines_80 : decode cX12_laysLines 80 = .ok (.iload_n 1, 1) := by decide +kernel
theorem dX12_laysLines_81 : decode cX12_laysLines 81 = .ok (.imul, 1) := by decide +kernel
theorem dX12_laysLines_82 : decode cX12_laysLines 82 = .ok (.iload_n 3, 1) := by decide +kernel
theorem dX12_laysLines_83 : decode cX12_laysLines 83 = .ok (.iadd, 1) := by decide +kernel
theorem dX12_laysLines_84 : decode cX12_laysLines 84 = .ok (.iaload, 1) := by decide +kernel
theorem dX12_laysLines_85 : decode cX12_laysLines 85 = .ok (.iastore, 1) := by decide +kernel
theorem dX12_laysLines_86 : decode cX12_laysLines 86 = .ok (.iinc 3 1, 3) := by decide +kernel
theorem dX12_laysLines_89 : decode cX12_laysLines 89 = .ok (.goto (-75), 3) := by decide +kernel
theorem dX12_laysLines_92 : decode cX12_laysLines 92 = .ok (.return_, 1) := by decide +kernel
def P_X12_laysLines_L14  (x1 : Int) (x2 : Int)  (Q : St → Prop) : Nat → Int → St → Prop
  | 0, _, _ => False
  | n + 1, x3, σ => (if 40 ≤ x3 then Q σ else 0 ≤ wi ((wi (40 * x1)) + x3) ∧ wi ((wi (40 * x1)) + x3) < 240 ∧ 0 ≤ wi ((wi (40 * x2)) + x3) ∧ wi ((wi (40 * x2)) + x3) < 240 ∧ 0 ≤ wi ((wi (40 * x1)) + x3) ∧ wi ((wi (40 * x1)) + x3) < 240 ∧ 0 ≤ wi ((wi (40 * x2)) + x3) ∧ wi ((wi (40 * x2)) + x3) < 240 ∧ 0 ≤ wi ((wi (40 * x1)) + x3) ∧ wi ((wi (40 * x1)) + x3) < 240 ∧ 0 ≤ wi ((wi (40 * x2)) + x3) ∧ wi ((wi (40 * x2)) + x3) < 240 ∧ (P_X12_laysLines_L14 x1 x2 Q n) (wi (x3 + 1)) (up (up (up σ 1339 0 (wi ((wi (40 * x2)) + x3)) (σ 1339 0 (wi ((wi (40 * x1)) + x3)))) 1340 0 (wi ((wi (40 * x2)) + x3)) ((up σ 1339 0 (wi ((wi (40 * x2)) + x3)) (σ 1339 0 (wi ((wi (40 * x1)) + x3)))) 1340 0 (wi ((wi (40 * x1)) + x3)))) 1341 0 (wi ((wi (40 * x2)) + x3)) ((up (up σ 1339 0 (wi ((wi (40 * x2)) + x3)) (σ 1339 0 (wi ((wi (40 * x1)) + x3)))) 1340 0 (wi ((wi (40 * x2)) + x3)) ((up σ 1339 0 (wi ((wi (40 * x2)) + x3)) (σ 1339 0 (wi ((wi (40 * x1)) + x3)))) 1340 0 (wi ((wi (40 * x1)) + x3)))) 1341 0 (wi ((wi (40 * x1)) + x3)))))
set_option maxRecDepth 20000 in
set_option maxHeartbeats 2000000 in
theorem e_P_X12_laysLines_L14  {x1 : Int} {x2 : Int}  {Q : St → Prop}   : ∀ (n : Nat) (x3 : Int) (σ : St), P_X12_laysLines_L14 x1 x2 Q n x3 σ → E Y_X12_laysLines 0 0 0 (QV Q) ww 0 0 14 [some (vR 12 0), some (vI x1), some (vI x2), some (vI x3)] [] σ := by
  intro n
  induction n with
  | zero => intro x3 σ h; exact h.elim
  | succ n hR =>
    intro x3 σ h
    unfold P_X12_laysLines_L14 at h
    refine E_iload_n dX12_laysLines_14 rfl rfl ?_
    refine E_bp dX12_laysLines_15 rfl ?_
    refine E_icmp_ge (tgt := 92) dX12_laysLines_17 (by decide) (fun hc => ?_) (fun hc => ?_)
    · have h := Eq.mp (if_pos hc) h
      exact E_vret dX12_laysLines_92 rfl ⟨rfl, rfl, h⟩
    · have h := Eq.mp (if_neg hc) h
      refine E_aload_n dX12_laysLines_20 rfl rfl ?_
      refine E_getr (i := 0) dX12_laysLines_21 fl_RX12_90 rfl rfl (go_12_39 _ _) ?_
      refine E_bp dX12_laysLines_24 rfl ?_
      refine E_iload_n dX12_laysLines_26 rfl rfl ?_
      refine E_imul dX12_laysLines_27 ?_
      refine E_iload_n dX12_laysLines_28 rfl rfl ?_
      refine E_iadd dX12_laysLines_29 ?_
      refine E_aload_n dX12_laysLines_30 rfl rfl ?_
      refine E_getr (i := 0) dX12_laysLines_31 fl_RX12_90 rfl rfl (go_12_39 _ _) ?_
      refine E_bp dX12_laysLines_34 rfl ?_
      refine E_iload_n dX12_laysLines_36 rfl rfl ?_
      refine E_imul dX12_laysLines_37 ?_
      refine E_iload_n dX12_laysLines_38 rfl rfl ?_
      refine E_iadd dX12_laysLines_39 ?_
      obtain ⟨hg0, hg1, h⟩ := h
      refine E_iald dX12_laysLines_40 sh_1339 hg0 hg1 ?_
      obtain ⟨hg0, hg1, h⟩ := h
      refine E_iast dX12_laysLines_41 sh_1339 hg0 hg1 ?_
      refine E_aload_n dX12_laysLines_42 rfl rfl ?_
      refine E_getr (i := 0) dX12_laysLines_43 fl_RX12_93 rfl rfl (go_12_40 _ _) ?_
      refine E_bp dX12_laysLines_46 rfl ?_
      refine E_iload_n dX12_laysLines_48 rfl rfl ?_
      refine E_imul dX12_laysLines_49 ?_
      refine E_iload_n dX12_laysLines_50 rfl rfl ?_
      refine E_iadd dX12_laysLines_51 ?_
      refine E_aload_n dX12_laysLines_52 rfl rfl ?_
      refine E_getr (i := 0) dX12_laysLines_53 fl_RX12_93 rfl rfl (go_12_40 _ _) ?_
      refine E_bp dX12_laysLines_56 rfl ?_
      refine E_iload_n dX12_laysLines_58 rfl rfl ?_
      refine E_imul dX12_laysLines_59 ?_
      refine E_iload_n dX12_laysLines_60 rfl rfl ?_
      refine E_iadd dX12_laysLines_61 ?_
      obtain ⟨hg0, hg1, h⟩ := h
      refine E_iald dX12_laysLines_62 sh_1340 hg0 hg1 ?_
      obtain ⟨hg0, hg1, h⟩ := h
      refine E_iast dX12_laysLines_63 sh_1340 hg0 hg1 ?_
      refine E_aload_n dX12_laysLines_64 rfl rfl ?_
      refine E_getr (i := 0) dX12_laysLines_65 fl_RX12_96 rfl rfl (go_12_41 _ _) ?_
      refine E_bp dX12_laysLines_68 rfl ?_
      refine E_iload_n dX12_laysLines_70 rfl rfl ?_
      refine E_imul dX12_laysLines_71 ?_
      refine E_iload_n dX12_laysLines_72 rfl rfl ?_
      refine E_iadd dX12_laysLines_73 ?_
      refine E_aload_n dX12_laysLines_74 rfl rfl ?_
      refine E_getr (i := 0) dX12_laysLines_75 fl_RX12_96 rfl rfl (go_12_41 _ _) ?_
      refine E_bp dX12_laysLines_78 rfl ?_
      refine E_iload_n dX12_laysLines_80 rfl rfl ?_
      refine E_imul dX12_laysLines_81 ?_
      refine E_iload_n dX12_laysLines_82 rfl rfl ?_
      refine E_iadd dX12_laysLines_83 ?_
      obtain ⟨hg0, hg1, h⟩ := h
      refine E_iald dX12_laysLines_84 sh_1341 hg0 hg1 ?_
      obtain ⟨hg0, hg1, h⟩ := h
      refine E_iast dX12_laysLines_85 sh_1341 hg0 hg1 ?_
      refine E_iinc (ls' := [some (vR 12 0), some (vI x1), some (vI x2), some (vI (wi (x3 + 1)))]) dX12_laysLines_86 rfl (by decide) rfl rfl ?_
      refine E_goto (tgt := 14) dX12_laysLines_89 (by decide) ?_
      exact hR _ _ h
def P_X12_laysLines  (x1 : Int) (x2 : Int) (σ : St) (Q : St → Prop) : Prop :=
  0 ≤ x1 ∧ x1 < 6 ∧ 0 ≤ x2 ∧ x2 < 6 ∧ P_X12_laysLines_L14 x1 x2 Q FU 0 (up σ 1338 0 x2 (σ 1338 0 x1))
set_option maxRecDepth 20000 in
set_option maxHeartbeats 2000000 in
theorem s_X12_laysLines   {x1 : Int} {x2 : Int} {σ : St} {Q : St → Prop} (h : P_X12_laysLines x1 x2 σ Q) : Cn Y_X12_laysLines 0 0 0 ww σ [vR 12 0, vI x1, vI x2] (QV Q) := by
  refine Cn_of [some (vR 12 0), some (vI x1), some (vI x2), none] (by decide) (Nat.le_of_ble_eq_true rfl) rfl ?_
  unfold P_X12_laysLines at h
  refine E_aload_n dX12_laysLines_0 rfl rfl ?_
  refine E_getr (i := 0) dX12_laysLines_1 fl_RX12_87 rfl rfl (go_12_38 _ _) ?_
  refine E_iload_n dX12_laysLines_4 rfl rfl ?_
  refine E_aload_n dX12_laysLines_5 rfl rfl ?_
  refine E_getr (i := 0) dX12_laysLines_6 fl_RX12_87 rfl rfl (go_12_38 _ _) ?_
  refine E_iload_n dX12_laysLines_9 rfl rfl ?_
  obtain ⟨hg0, hg1, h⟩ := h
  refine E_iald dX12_laysLines_10 sh_1338 hg0 hg1 ?_
  obtain ⟨hg0, hg1, h⟩ := h
  refine E_iast dX12_laysLines_11 sh_1338 hg0 hg1 ?_
  refine E_ic dX12_laysLines_12 rfl ?_
  refine E_istore_n (ls' := [some (vR 12 0), some (vI x1), some (vI x2), some (vI 0)]) dX12_laysLines_13 rfl (by decide) rfl ?_
  refine e_P_X12_laysLines_L14  _ _ _ h
abbrev Y_X12_laysSeen : My := (yX12_laysSeen, cX12_laysSeen, 4, none)
theorem dX12_laysSeen_0 : decode cX12_laysSeen 0 = .ok (.aload_n 0, 1) := by decide +kernel
theorem dX12_laysSeen_1 : decode cX12_laysSeen 1 = .ok (.getfield 99, 3) := by decide +kernel
theorem dX12_laysSeen_4 : decode cX12_laysSeen 4 = .ok (.iload_n 2, 1) := by decide +kernel
theorem dX12_laysSeen_5 : decode cX12_laysSeen 5 = .ok (.aload_n 0, 1) := by decide +kernel
theorem dX12_laysSeen_6 : decode cX12_laysSeen 6 = .ok (.getfield 99, 3) := by decide +kernel
theorem dX12_laysSeen_9 : decode cX12_laysSeen 9 = .ok (.iload_n 1, 1) := by decide +kernel
theorem dX12_laysSeen_10 : decode cX12_laysSeen 10 = .ok (.iaload, 1) := by decide +kernel
theorem dX12_laysSeen_11 : decode cX12_laysSeen 11 = .ok (.iastore, 1) := by decide +kernel
theorem dX12_laysSeen_12 : decode cX12_laysSeen 12 = .ok (.iconst 0, 1) := by decide +kernel
theorem dX12_laysSeen_13 : decode cX12_laysSeen 13 = .ok (.istore_n 3, 1) := by decide +kernel
theorem dX12_laysSeen_14 : decode cX12_laysSeen 14 = .ok (.iload_n 3, 1) := by decide +kernel
theorem dX12_laysSeen_15 : decode cX12_laysSeen 15 = .ok (.bipush 8, 2) := by decide +kernel
theorem dX12_laysSeen_17 : decode cX12_laysSeen 17 = .ok (.if_icmp .ge 75, 3) := by decide +kernel
theorem dX12_laysSeen_20 : decode cX12_laysSeen 20 = .ok (.aload_n 0, 1) := by decide +kernel
theorem dX12_laysSeen_21 : decode cX12_laysSeen 21 = .ok (.getfield 102, 3) := by decide +kernel
theorem dX12_laysSeen_24 : decode cX12_laysSeen 24 = .ok (.bipush 8, 2) := by decide +kernel
theorem dX12_laysSeen_26 : decode cX12_laysSeen 26 = .ok (.iload_n 2, 1) := by decide +kernel
theorem dX12_laysSeen_27 : decode cX12_laysSeen 27 = .ok (.imul, 1) := by decide +kernel
theorem dX12_laysSeen_28 : decode cX12_laysSeen 28 = .ok (.iload_n 3, 1) := by decide +kernel
theorem dX12_laysSeen_29 : decode cX12_laysSeen 29 = .ok (.iadd, 1) := by decide +kernel
theorem dX12_laysSeen_30 : decode cX12_laysSeen 30 = .ok (.aload_n 0, 1) := by decide +kernel
theorem dX12_laysSeen_31 : decode cX12_laysSeen 31 = .ok (.getfield 102, 3) := by decide +kernel
theorem dX12_laysSeen_34 : decode cX12_laysSeen 34 = .ok (.bipush 8, 2) := by decide +kernel
theorem dX12_laysSeen_36 : decode cX12_laysSeen 36 = .ok (.iload_n 1, 1) := by decide +kernel
theorem dX12_laysSeen_37 : decode cX12_laysSeen 37 = .ok (.imul, 1) := by decide +kernel
theorem dX12_laysSeen_38 : decode cX12_laysSeen 38 = .ok (.iload_n 3, 1) := by decide +kernel
theorem dX12_laysSeen_39 : decode cX12_laysSeen 39 = .ok (.iadd, 1) := by decide +kernel
theorem dX12_laysSeen_40 : decode cX12_laysSeen 40 = .ok (.iaload, 1) := by decide +kernel
theorem dX12_laysSeen_41 : decode cX12_laysSeen 41 = .ok (.iastore, 1) := by decide +kernel
theorem dX12_laysSeen_42 : decode cX12_laysSeen 42 = .ok (.aload_n 0, 1) := by decide +kernel
theorem dX12_laysSeen_43 : decode cX12_laysSeen 43 = .ok (.getfield 105, 3) := by decide +kernel
theorem dX12_laysSeen_46 : decode cX12_laysSeen 46 = .ok (.bipush 8, 2) := by decide +kernel
theorem dX12_laysSeen_48 : decode cX12_laysSeen 48 = .ok (.iload_n 2, 1) := by decide +kernel
theorem dX12_laysSeen_49 : decode cX12_laysSeen 49 = .ok (.imul, 1) := by decide +kernel
theorem dX12_laysSeen_50 : decode cX12_laysSeen 50 = .ok (.iload_n 3, 1) := by decide +kernel
theorem dX12_laysSeen_51 : decode cX12_laysSeen 51 = .ok (.iadd, 1) := by decide +kernel
theorem dX12_laysSeen_52 : decode cX12_laysSeen 52 = .ok (.aload_n 0, 1) := by decide +kernel
theorem dX12_laysSeen_53 : decode cX12_laysSeen 53 = .ok (.getfield 105, 3) := by decide +kernel
theorem dX12_laysSeen_56 : decode cX12_laysSeen 56 = .ok (.bipush 8, 2) := by decide +kernel
theorem dX12_laysSeen_58 : decode cX12_laysSeen 58 = .ok (.iload_n 1, 1) := by decide +kernel
theorem dX12_laysSeen_59 : decode cX12_laysSeen 59 = .ok (.imul, 1) := by decide +kernel
theorem dX12_laysSeen_60 : decode cX12_laysSeen 60 = .ok (.iload_n 3, 1) := by decide +kernel
theorem dX12_laysSeen_61 : decode cX12_laysSeen 61 = .ok (.iadd, 1) := by decide +kernel
theorem dX12_laysSeen_62 : decode cX12_laysSeen 62 = .ok (.iaload, 1) := by decide +kernel
theorem dX12_laysSeen_63 : decode cX12_laysSeen 63 = .ok (.iastore, 1) := by decide +kernel
theorem dX12_laysSeen_64 : decode cX12_laysSeen 64 = .ok (.aload_n 0, 1) := by decide +kernel
theorem dX12_laysSeen_65 : decode cX12_laysSeen 65 = .ok (.getfield 108, 3) := by decide +kernel
theorem dX12_laysSeen_68 : decode cX12_laysSeen 68 = .ok (.bipush 8, 2) := by decide +kernel
theorem dX12_laysSeen_70 : decode cX12_laysSeen 70 = .ok (.iload_n 2, 1) := by decide +kernel
theorem dX12_laysSeen_71 : decode cX12_laysSeen 71 = .ok (.imul, 1) := by decide +kernel
theorem dX12_laysSeen_72 : decode cX12_laysSeen 72 = .ok (.iload_n 3, 1) := by decide +kernel
theorem dX12_laysSeen_73 : decode cX12_laysSeen 73 = .ok (.iadd, 1) := by decide +kernel
theorem dX12_laysSeen_74 : decode cX12_laysSeen 74 = .ok (.aload_n 0, 1) := by decide +kernel
theorem dX12_laysSeen_75 : decode cX12_laysSeen 75 = .ok (.getfield 108, 3) := by decide +kernel
theorem dX12_laysSeen_78 : decode cX12_laysSeen 78 = .ok (.bipush 8, 2) := by decide +kernel
theorem dX12_laysSeen_80 : decode cX12_laysSeen 80 = .ok (.iload_n 1, 1) := by decide +kernel
theorem dX12_laysSeen_81 : decode cX12_laysSeen 81 = .ok (.imul, 1) := by decide +kernel
theorem dX12_laysSeen_82 : decode cX12_laysSeen 82 = .ok (.iload_n 3, 1) := by decide +kernel
theorem dX12_laysSeen_83 : decode cX12_laysSeen 83 = .ok (.iadd, 1) := by decide +kernel
theorem dX12_laysSeen_84 : decode cX12_laysSeen 84 = .ok (.baload, 1) := by decide +kernel
theorem dX12_laysSeen_85 : decode cX12_laysSeen 85 = .ok (.bastore, 1) := by decide +kernel
theorem dX12_laysSeen_86 : decode cX12_laysSeen 86 = .ok (.iinc 3 1, 3) := by decide +kernel
theorem dX12_laysSeen_89 : decode cX12_laysSeen 89 = .ok (.goto (-75), 3) := by decide +kernel
theorem dX12_laysSeen_92 : decode cX12_laysSeen 92 = .ok (.return_, 1) := by decide +kernel
theorem fl_RX12_102 : FL RX12 102 12 43 := ⟨inG (i := 1443) (by decide +kernel) (by decide +kernel), by decide, by decide⟩
theorem fl_RX12_105 : FL RX12 105 12 44 := ⟨inG (i := 1444) (by decide +kernel) (by decide +kernel), by decide, by decide⟩
theorem fl_RX12_108 : FL RX12 108 12 45 := ⟨inG (i := 1445) (by decide +kernel) (by decide +kernel), by decide, by decide⟩
theorem fl_RX12_99 : FL RX12 99 12 42 := ⟨inG (i := 1442) (by decide +kernel) (by decide +kernel), by decide, by decide⟩
theorem go_12_42 (σ : St) (i : Nat) : go σ 12 i 42 = (1342, i) := rfl
theorem go_12_43 (σ : St) (i : Nat) : go σ 12 i 43 = (1343, i) := rfl
theorem go_12_44 (σ : St) (i : Nat) : go σ 12 i 44 = (1344, i) := rfl
theorem go_12_45 (σ : St) (i : Nat) : go σ 12 i 45 = (1345, i) := rfl
theorem sh_1342 : shp 1342 = (0, 5) := rfl
theorem sh_1343 : shp 1343 = (0, 40) := rfl
theorem sh_1344 : shp 1344 = (0, 40) := rfl
theorem sh_1345 : shp 1345 = (2, 40) := rfl
def P_X12_laysSeen_L14  (x1 : Int) (x2 : Int)  (Q : St → Prop) : Nat → Int → St → Prop
  | 0, _, _ => False
  | n + 1, x3, σ => (if 8 ≤ x3 then Q σ else 0 ≤ wi ((wi (8 * x1)) + x3) ∧ wi ((wi (8 * x1)) + x3) < 40 ∧ 0 ≤ wi ((wi (8 * x2)) + x3) ∧ wi ((wi (8 * x2)) + x3) < 40 ∧ 0 ≤ wi ((wi (8 * x1)) + x3) ∧ wi ((wi (8 * x1)) + x3) < 40 ∧ 0 ≤ wi ((wi (8 * x2)) + x3) ∧ wi ((wi (8 * x2)) + x3) < 40 ∧ 0 ≤ wi ((wi (8 * x1)) + x3) ∧ wi ((wi (8 * x1)) + x3) < 40 ∧ 0 ≤ wi ((wi (8 * x2)) + x3) ∧ wi ((wi (8 * x2)) + x3) < 40 ∧ (((up (up σ 1343 0 (wi ((wi (8 * x2)) + x3)) (σ 1343 0 (wi ((wi (8 * x1)) + x3)))) 1344 0 (wi ((wi (8 * x2)) + x3)) ((up σ 1343 0 (wi ((wi (8 * x2)) + x3)) (σ 1343 0 (wi ((wi (8 * x1)) + x3)))) 1344 0 (wi ((wi (8 * x1)) + x3)))) 1345 0 (wi ((wi (8 * x1)) + x3))) = 0 ∨ ((up (up σ 1343 0 (wi ((wi (8 * x2)) + x3)) (σ 1343 0 (wi ((wi (8 * x1)) + x3)))) 1344 0 (wi ((wi (8 * x2)) + x3)) ((up σ 1343 0 (wi ((wi (8 * x2)) + x3)) (σ 1343 0 (wi ((wi (8 * x1)) + x3)))) 1344 0 (wi ((wi (8 * x1)) + x3)))) 1345 0 (wi ((wi (8 * x1)) + x3))) = 1) ∧ (P_X12_laysSeen_L14 x1 x2 Q n) (wi (x3 + 1)) (up (up (up σ 1343 0 (wi ((wi (8 * x2)) + x3)) (σ 1343 0 (wi ((wi (8 * x1)) + x3)))) 1344 0 (wi ((wi (8 * x2)) + x3)) ((up σ 1343 0 (wi ((wi (8 * x2)) + x3)) (σ 1343 0 (wi ((wi (8 * x1)) + x3)))) 1344 0 (wi ((wi (8 * x1)) + x3)))) 1345 0 (wi ((wi (8 * x2)) + x3)) ((up (up σ 1343 0 (wi ((wi (8 * x2)) + x3)) (σ 1343 0 (wi ((wi (8 * x1)) + x3)))) 1344 0 (wi ((wi (8 * x2)) + x3)) ((up σ 1343 0 (wi ((wi (8 * x2)) + x3)) (σ 1343 0 (wi ((wi (8 * x1)) + x3)))) 1344 0 (wi ((wi (8 * x1)) + x3)))) 1345 0 (wi ((wi (8 * x1)) + x3)))))
set_option maxRecDepth 20000 in
set_option maxHeartbeats 2000000 in
theorem e_P_X12_laysSeen_L14  {x1 : Int} {x2 : Int}  {Q : St → Prop}   : ∀ (n : Nat) (x3 : Int) (σ : St), P_X12_laysSeen_L14 x1 x2 Q n x3 σ → E Y_X12_laysSeen 0 0 0 (QV Q) ww 0 0 14 [some (vR 12 0), some (vI x1), some (vI x2), some (vI x3)] [] σ := by
  intro n
  induction n with
  | zero => intro x3 σ h; exact h.elim
  | succ n hR =>
    intro x3 σ h
    unfold P_X12_laysSeen_L14 at h
    refine E_iload_n dX12_laysSeen_14 rfl rfl ?_
    refine E_bp dX12_laysSeen_15 rfl ?_
    refine E_icmp_ge (tgt := 92) dX12_laysSeen_17 (by decide) (fun hc => ?_) (fun hc => ?_)
    · have h := Eq.mp (if_pos hc) h
      exact E_vret dX12_laysSeen_92 rfl ⟨rfl, rfl, h⟩
    · have h := Eq.mp (if_neg hc) h
      refine E_aload_n dX12_laysSeen_20 rfl rfl ?_
      refine E_getr (i := 0) dX12_laysSeen_21 fl_RX12_102 rfl rfl (go_12_43 _ _) ?_
      refine E_bp dX12_laysSeen_24 rfl ?_
      refine E_iload_n dX12_laysSeen_26 rfl rfl ?_
      refine E_imul dX12_laysSeen_27 ?_
      refine E_iload_n dX12_laysSeen_28 rfl rfl ?_
      refine E_iadd dX12_laysSeen_29 ?_
      refine E_aload_n dX12_laysSeen_30 rfl rfl ?_
      refine E_getr (i := 0) dX12_laysSeen_31 fl_RX12_102 rfl rfl (go_12_43 _ _) ?_
      refine E_bp dX12_laysSeen_34 rfl ?_
      refine E_iload_n dX12_laysSeen_36 rfl rfl ?_
      refine E_imul dX12_laysSeen_37 ?_
      refine E_iload_n dX12_laysSeen_38 rfl rfl ?_
      refine E_iadd dX12_laysSeen_39 ?_
      obtain ⟨hg0, hg1, h⟩ := h
      refine E_iald dX12_laysSeen_40 sh_1343 hg0 hg1 ?_
      obtain ⟨hg0, hg1, h⟩ := h
      refine E_iast dX12_laysSeen_41 sh_1343 hg0 hg1 ?_
      refine E_aload_n dX12_laysSeen_42 rfl rfl ?_
      refine E_getr (i := 0) dX12_laysSeen_43 fl_RX12_105 rfl rfl (go_12_44 _ _) ?_
      refine E_bp dX12_laysSeen_46 rfl ?_
      refine E_iload_n dX12_laysSeen_48 rfl rfl ?_
      refine E_imul dX12_laysSeen_49 ?_
      refine E_iload_n dX12_laysSeen_50 rfl rfl ?_
      refine E_iadd dX12_laysSeen_51 ?_
      refine E_aload_n dX12_laysSeen_52 rfl rfl ?_
      refine E_getr (i := 0) dX12_laysSeen_53 fl_RX12_105 rfl rfl (go_12_44 _ _) ?_
      refine E_bp dX12_laysSeen_56 rfl ?_
      refine E_iload_n dX12_laysSeen_58 rfl rfl ?_
      refine E_imul dX12_laysSeen_59 ?_
      refine E_iload_n dX12_laysSeen_60 rfl rfl ?_
      refine E_iadd dX12_laysSeen_61 ?_
      obtain ⟨hg0, hg1, h⟩ := h
      refine E_iald dX12_laysSeen_62 sh_1344 hg0 hg1 ?_
      obtain ⟨hg0, hg1, h⟩ := h
      refine E_iast dX12_laysSeen_63 sh_1344 hg0 hg1 ?_
      refine E_aload_n dX12_laysSeen_64 rfl rfl ?_
      refine E_getr (i := 0) dX12_laysSeen_65 fl_RX12_108 rfl rfl (go_12_45 _ _) ?_
      refine E_bp dX12_laysSeen_68 rfl ?_
      refine E_iload_n dX12_laysSeen_70 rfl rfl ?_
      refine E_imul dX12_laysSeen_71 ?_
      refine E_iload_n dX12_laysSeen_72 rfl rfl ?_
      refine E_iadd dX12_laysSeen_73 ?_
      refine E_aload_n dX12_laysSeen_74 rfl rfl ?_
      refine E_getr (i := 0) dX12_laysSeen_75 fl_RX12_108 rfl rfl (go_12_45 _ _) ?_
      refine E_bp dX12_laysSeen_78 rfl ?_
      refine E_iload_n dX12_laysSeen_80 rfl rfl ?_
      refine E_imul dX12_laysSeen_81 ?_
      refine E_iload_n dX12_laysSeen_82 rfl rfl ?_
      refine E_iadd dX12_laysSeen_83 ?_
      obtain ⟨hg0, hg1, h⟩ := h
      refine E_zald dX12_laysSeen_84 sh_1345 hg0 hg1 ?_
      obtain ⟨hg0, hg1, hg2, h⟩ := h
      refine E_zast dX12_laysSeen_85 sh_1345 hg0 hg1 hg2 ?_
      refine E_iinc (ls' := [some (vR 12 0), some (vI x1), some (vI x2), some (vI (wi (x3 + 1)))]) dX12_laysSeen_86 rfl (by decide) rfl rfl ?_
      refine E_goto (tgt := 14) dX12_laysSeen_89 (by decide) ?_
      exact hR _ _ h
def P_X12_laysSeen  (x1 : Int) (x2 : Int) (σ : St) (Q : St → Prop) : Prop :=
  0 ≤ x1 ∧ x1 < 5 ∧ 0 ≤ x2 ∧ x2 < 5 ∧ P_X12_laysSeen_L14 x1 x2 Q FU 0 (up σ 1342 0 x2 (σ 1342 0 x1))
set_option maxRecDepth 20000 in
set_option maxHeartbeats 2000000 in
theorem s_X12_laysSeen   {x1 : Int} {x2 : Int} {σ : St} {Q : St → Prop} (h : P_X12_laysSeen x1 x2 σ Q) : Cn Y_X12_laysSeen 0 0 0 ww σ [vR 12 0, vI x1, vI x2] (QV Q) := by
  refine Cn_of [some (vR 12 0), some (vI x1), some (vI x2), none] (by decide) (Nat.le_of_ble_eq_true rfl) rfl ?_
  unfold P_X12_laysSeen at h
  refine E_aload_n dX12_laysSeen_0 rfl rfl ?_
  refine E_getr (i := 0) dX12_laysSeen_1 fl_RX12_99 rfl rfl (go_12_42 _ _) ?_
  refine E_iload_n dX12_laysSeen_4 rfl rfl ?_
  refine E_aload_n dX12_laysSeen_5 rfl rfl ?_
  refine E_getr (i := 0) dX12_laysSeen_6 fl_RX12_99 rfl rfl (go_12_42 _ _) ?_
  refine E_iload_n dX12_laysSeen_9 rfl rfl ?_
  obtain ⟨hg0, hg1, h⟩ := h
  refine E_iald dX12_laysSeen_10 sh_1342 hg0 hg1 ?_
  obtain ⟨hg0, hg1, h⟩ := h
  refine E_iast dX12_laysSeen_11 sh_1342 hg0 hg1 ?_
  refine E_ic dX12_laysSeen_12 rfl ?_
  refine E_istore_n (ls' := [some (vR 12 0), some (vI x1), some (vI x2), some (vI 0)]) dX12_laysSeen_13 rfl (by decide) rfl ?_
  refine e_P_X12_laysSeen_L14  _ _ _ h
