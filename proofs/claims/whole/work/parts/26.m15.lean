abbrev Y_X1_goingHome : My := (yX1_goingHome, cX1_goingHome, 4, some .int)
theorem dX1_goingHome_0 : decode cX1_goingHome 0 = .ok (.iconst 0, 1) := by decide +kernel
theorem dX1_goingHome_1 : decode cX1_goingHome 1 = .ok (.istore_n 2, 1) := by decide +kernel
theorem dX1_goingHome_2 : decode cX1_goingHome 2 = .ok (.iconst 0, 1) := by decide +kernel
theorem dX1_goingHome_3 : decode cX1_goingHome 3 = .ok (.istore_n 3, 1) := by decide +kernel
theorem dX1_goingHome_4 : decode cX1_goingHome 4 = .ok (.iload_n 3, 1) := by decide +kernel
theorem dX1_goingHome_5 : decode cX1_goingHome 5 = .ok (.aload_n 0, 1) := by decide +kernel
theorem dX1_goingHome_6 : decode cX1_goingHome 6 = .ok (.getfield 29, 3) := by decide +kernel
theorem dX1_goingHome_9 : decode cX1_goingHome 9 = .ok (.getfield 48, 3) := by decide +kernel
theorem dX1_goingHome_12 : decode cX1_goingHome 12 = .ok (.if_icmp .ge 41, 3) := by decide +kernel
theorem dX1_goingHome_15 : decode cX1_goingHome 15 = .ok (.aload_n 0, 1) := by decide +kernel
theorem dX1_goingHome_16 : decode cX1_goingHome 16 = .ok (.getfield 29, 3) := by decide +kernel
theorem dX1_goingHome_19 : decode cX1_goingHome 19 = .ok (.aload_n 0, 1) := by decide +kernel
theorem dX1_goingHome_20 : decode cX1_goingHome 20 = .ok (.getfield 33, 3) := by decide +kernel
theorem dX1_goingHome_23 : decode cX1_goingHome 23 = .ok (.getfield 56, 3) := by decide +kernel
theorem dX1_goingHome_26 : decode cX1_goingHome 26 = .ok (.iload_n 3, 1) := by decide +kernel
theorem dX1_goingHome_27 : decode cX1_goingHome 27 = .ok (.iaload, 1) := by decide +kernel
theorem dX1_goingHome_28 : decode cX1_goingHome 28 = .ok (.aload_n 1, 1) := by decide +kernel
theorem dX1_goingHome_29 : decode cX1_goingHome 29 = .ok (.invokevirtual 42, 3) := by decide +kernel
theorem dX1_goingHome_32 : decode cX1_goingHome 32 = .ok (.aload_n 0, 1) := by decide +kernel
theorem dX1_goingHome_33 : decode cX1_goingHome 33 = .ok (.getfield 29, 3) := by decide +kernel
theorem dX1_goingHome_36 : decode cX1_goingHome 36 = .ok (.getfield 67, 3) := by decide +kernel
theorem dX1_goingHome_39 : decode cX1_goingHome 39 = .ok (.iload_n 3, 1) := by decide +kernel
theorem dX1_goingHome_40 : decode cX1_goingHome 40 = .ok (.iaload, 1) := by decide +kernel
theorem dX1_goingHome_41 : decode cX1_goingHome 41 = .ok (.if_icmp .ne 6, 3) := by decide +kernel
theorem dX1_goingHome_44 : decode cX1_goingHome 44 = .ok (.iinc 2 1, 3) := by decide +kernel
theorem dX1_goingHome_47 : decode cX1_goingHome 47 = .ok (.iinc 3 1, 3) := by decide +kernel
theorem dX1_goingHome_50 : decode cX1_goingHome 50 = .ok (.goto (-46), 3) := by decide +kernel
theorem dX1_goingHome_53 : decode cX1_goingHome 53 = .ok (.iload_n 2, 1) := by decide +kernel
theorem dX1_goingHome_54 : decode cX1_goingHome 54 = .ok (.ireturn, 1) := by decide +kernel
def P_X1_goingHome_L4  (t1 : Nat) (o1 : Nat)  (Q : Int → St → Prop) : Nat → Int → Int → St → Prop
  | 0, _, _, _ => False
  | n + 1, x2, x3, σ => (if (σ 8 0 11) ≤ x3 then Q x2 σ else 0 ≤ x3 ∧ x3 < 6 ∧ P_X8_fall 0 (σ 1002 0 x3) t1 o1 σ (fun r_2 σ_1 => 0 ≤ x3 ∧ x3 < 6 ∧ (if r_2 = (σ_1 906 0 x3) then (P_X1_goingHome_L4 t1 o1 Q n) (wi (x2 + 1)) (wi (x3 + 1)) σ_1 else (P_X1_goingHome_L4 t1 o1 Q n) x2 (wi (x3 + 1)) σ_1)))
set_option maxRecDepth 20000 in
set_option maxHeartbeats 2000000 in
theorem e_P_X1_goingHome_L4  {t1 : Nat} {o1 : Nat}  {Q : Int → St → Prop}   : ∀ (n : Nat) (x2 : Int) (x3 : Int) (σ : St), P_X1_goingHome_L4 t1 o1 Q n x2 x3 σ → E Y_X1_goingHome 1 0 0 (QI Q) ww 0 0 4 [some (vR 1 0), some (vR t1 o1), some (vI x2), some (vI x3)] [] σ := by
  intro n
  induction n with
  | zero => intro x2 x3 σ h; exact h.elim
  | succ n hR =>
    intro x2 x3 σ h
    unfold P_X1_goingHome_L4 at h
    refine E_iload_n dX1_goingHome_4 rfl rfl ?_
    refine E_aload_n dX1_goingHome_5 rfl rfl ?_
    refine E_getr (i := 0) dX1_goingHome_6 fl_RX1_29 rfl rfl (go_1_0 _ _) ?_
    refine E_geti (i := 0) dX1_goingHome_9 fl_RX1_48 rfl ?_
    refine E_icmp_ge (tgt := 53) dX1_goingHome_12 (by decide) (fun hc => ?_) (fun hc => ?_)
    · have h := Eq.mp (if_pos hc) h
      refine E_iload_n dX1_goingHome_53 rfl rfl ?_
      exact E_iret dX1_goingHome_54 rfl ⟨_, rfl, rfl, h⟩
    · have h := Eq.mp (if_neg hc) h
      refine E_aload_n dX1_goingHome_15 rfl rfl ?_
      refine E_getr (i := 0) dX1_goingHome_16 fl_RX1_29 rfl rfl (go_1_0 _ _) ?_
      refine E_aload_n dX1_goingHome_19 rfl rfl ?_
      refine E_getr (i := 0) dX1_goingHome_20 fl_RX1_33 rfl rfl (go_1_1 _ _) ?_
      refine E_getr (i := 0) dX1_goingHome_23 fl_RX1_56 rfl rfl (go_9_2 _ _) ?_
      refine E_iload_n dX1_goingHome_26 rfl rfl ?_
      obtain ⟨hg0, hg1, h⟩ := h
      refine E_iald dX1_goingHome_27 sh_1002 hg0 hg1 ?_
      refine E_aload_n dX1_goingHome_28 rfl rfl ?_
      refine E_callV (Y' := Y_X8_fall) (as := [vI (σ 1002 0 x3), vR t1 o1]) (st := []) dX1_goingHome_29 lk_RX1_42 m_X8_fall (by decide) (Nat.le_refl _) (Nat.le_refl _) rfl rfl (Nat.le_of_ble_eq_true rfl) (s_X8_fall h) (fun r0 B0 σ_1 h => ?_)
      obtain ⟨r_2, rfl, rfl, h⟩ := h
      refine E_aload_n dX1_goingHome_32 rfl rfl ?_
      refine E_getr (i := 0) dX1_goingHome_33 fl_RX1_29 rfl rfl (go_1_0 _ _) ?_
      refine E_getr (i := 0) dX1_goingHome_36 fl_RX1_67 rfl rfl (go_8_6 _ _) ?_
      refine E_iload_n dX1_goingHome_39 rfl rfl ?_
      obtain ⟨hg0, hg1, h⟩ := h
      refine E_iald dX1_goingHome_40 sh_906 hg0 hg1 ?_
      refine E_icmp_ne (tgt := 47) dX1_goingHome_41 (by decide) (fun hc => ?_) (fun hc => ?_)
      · have h := Eq.mp (if_neg hc) h
        refine E_iinc (ls' := [some (vR 1 0), some (vR t1 o1), some (vI x2), some (vI (wi (x3 + 1)))]) dX1_goingHome_47 rfl (by decide) rfl rfl ?_
        refine E_goto (tgt := 4) dX1_goingHome_50 (by decide) ?_
        exact hR _ _ _ h
      · have h := Eq.mp (if_pos hc) h
        refine E_iinc (ls' := [some (vR 1 0), some (vR t1 o1), some (vI (wi (x2 + 1))), some (vI x3)]) dX1_goingHome_44 rfl (by decide) rfl rfl ?_
        refine E_iinc (ls' := [some (vR 1 0), some (vR t1 o1), some (vI (wi (x2 + 1))), some (vI (wi (x3 + 1)))]) dX1_goingHome_47 rfl (by decide) rfl rfl ?_
        refine E_goto (tgt := 4) dX1_goingHome_50 (by decide) ?_
        exact hR _ _ _ h
def P_X1_goingHome  (t1 : Nat) (o1 : Nat) (σ : St) (Q : Int → St → Prop) : Prop :=
  P_X1_goingHome_L4 t1 o1 Q FU 0 0 σ
set_option maxRecDepth 20000 in
set_option maxHeartbeats 2000000 in
theorem s_X1_goingHome   {t1 : Nat} {o1 : Nat} {σ : St} {Q : Int → St → Prop} (h : P_X1_goingHome t1 o1 σ Q) : Cn Y_X1_goingHome 1 0 0 ww σ [vR 1 0, vR t1 o1] (QI Q) := by
  refine Cn_of [some (vR 1 0), some (vR t1 o1), none, none] (by decide) (Nat.le_of_ble_eq_true rfl) rfl ?_
  unfold P_X1_goingHome at h
  refine E_ic dX1_goingHome_0 rfl ?_
  refine E_istore_n (ls' := [some (vR 1 0), some (vR t1 o1), some (vI 0), none]) dX1_goingHome_1 rfl (by decide) rfl ?_
  refine E_ic dX1_goingHome_2 rfl ?_
  refine E_istore_n (ls' := [some (vR 1 0), some (vR t1 o1), some (vI 0), some (vI 0)]) dX1_goingHome_3 rfl (by decide) rfl ?_
  refine e_P_X1_goingHome_L4  _ _ _ _ h
abbrev Y_X1_bestExchange : My := (yX1_bestExchange, cX1_bestExchange, 6, some .int)
theorem dX1_bestExchange_0 : decode cX1_bestExchange 0 = .ok (.aload_n 0, 1) := by decide +kernel
theorem dX1_bestExchange_1 : decode cX1_bestExchange 1 = .ok (.aload_n 0, 1) := by decide +kernel
theorem dX1_bestExchange_2 : decode cX1_bestExchange 2 = .ok (.getfield 33, 3) := by decide +kernel
theorem dX1_bestExchange_5 : decode cX1_bestExchange 5 = .ok (.getfield 37, 3) := by decide +kernel
theorem dX1_bestExchange_8 : decode cX1_bestExchange 8 = .ok (.invokevirtual 70, 3) := by decide +kernel
theorem dX1_bestExchange_11 : decode cX1_bestExchange 11 = .ok (.istore_n 1, 1) := by decide +kernel
theorem dX1_bestExchange_12 : decode cX1_bestExchange 12 = .ok (.iconst (-1), 1) := by decide +kernel
theorem dX1_bestExchange_13 : decode cX1_bestExchange 13 = .ok (.istore_n 2, 1) := by decide +kernel
theorem dX1_bestExchange_14 : decode cX1_bestExchange 14 = .ok (.aload_n 0, 1) := by decide +kernel
theorem dX1_bestExchange_15 : decode cX1_bestExchange 15 = .ok (.getfield 33, 3) := by decide +kernel
theorem dX1_bestExchange_18 : decode cX1_bestExchange 18 = .ok (.getfield 37, 3) := by decide +kernel
theorem dX1_bestExchange_21 : decode cX1_bestExchange 21 = .ok (.iconst 0, 1) := by decide +kernel
theorem dX1_bestExchange_22 : decode cX1_bestExchange 22 = .ok (.aload_n 0, 1) := by decide +kernel
theorem dX1_bestExchange_23 : decode cX1_bestExchange 23 = .ok (.getfield 15, 3) := by decide +kernel
theorem dX1_bestExchange_26 : decode cX1_bestExchange 26 = .ok (.iconst 0, 1) := by decide +kernel
theorem dX1_bestExchange_27 : decode cX1_bestExchange 27 = .ok (.bipush 6, 2) := by decide +kernel
theorem dX1_bestExchange_29 : decode cX1_bestExchange 29 = .ok (.invokestatic 74, 3) := by decide +kernel
theorem dX1_bestExchange_32 : decode cX1_bestExchange 32 = .ok (.iconst 0, 1) := by decide +kernel
theorem dX1_bestExchange_33 : decode cX1_bestExchange 33 = .ok (.istore_n 3, 1) := by decide +kernel
theorem dX1_bestExchange_34 : decode cX1_bestExchange 34 = .ok (.iload_n 3, 1) := by decide +kernel
theorem dX1_bestExchange_35 : decode cX1_bestExchange 35 = .ok (.aload_n 0, 1) := by decide +kernel
theorem dX1_bestExchange_36 : decode cX1_bestExchange 36 = .ok (.getfield 29, 3) := by decide +kernel
theorem dX1_bestExchange_39 : decode cX1_bestExchange 39 = .ok (.getfield 80, 3) := by decide +kernel
theorem dX1_bestExchange_42 : decode cX1_bestExchange 42 = .ok (.if_icmp .ge 123, 3) := by decide +kernel
theorem dX1_bestExchange_45 : decode cX1_bestExchange 45 = .ok (.iload_n 3, 1) := by decide +kernel
theorem dX1_bestExchange_46 : decode cX1_bestExchange 46 = .ok (.iconst 1, 1) := by decide +kernel
theorem dX1_bestExchange_47 : decode cX1_bestExchange 47 = .ok (.iadd, 1) := by decide +kernel
theorem dX1_bestExchange_48 : decode cX1_bestExchange 48 = .ok (.istore 4, 2) := by decide +kernel
theorem dX1_bestExchange_50 : decode cX1_bestExchange 50 = .ok (.iload 4, 2) := by decide +kernel
theorem dX1_bestExchange_52 : decode cX1_bestExchange 52 = .ok (.aload_n 0, 1) := by decide +kernel
theorem dX1_bestExchange_53 : decode cX1_bestExchange 53 = .ok (.getfield 29, 3) := by decide +kernel
theorem dX1_bestExchange_56 : decode cX1_bestExchange 56 = .ok (.getfield 80, 3) := by decide +kernel
theorem dX1_bestExchange_59 : decode cX1_bestExchange 59 = .ok (.if_icmp .ge 100, 3) := by decide +kernel
theorem dX1_bestExchange_62 : decode cX1_bestExchange 62 = .ok (.aload_n 0, 1) := by decide +kernel
theorem dX1_bestExchange_63 : decode cX1_bestExchange 63 = .ok (.getfield 15, 3) := by decide +kernel
theorem dX1_bestExchange_66 : decode cX1_bestExchange 66 = .ok (.iload_n 3, 1) := by decide +kernel
theorem dX1_bestExchange_67 : decode cX1_bestExchange 67 = .ok (.aload_n 0, 1) := by decide +kernel
theorem dX1_bestExchange_68 : decode cX1_bestExchange 68 = .ok (.getfield 33, 3) := by decide +kernel
theorem dX1_bestExchange_71 : decode cX1_bestExchange 71 = .ok (.getfield 37, 3) := by decide +kernel
theorem dX1_bestExchange_74 : decode cX1_bestExchange 74 = .ok (.iload 4, 2) := by decide +kernel
theorem dX1_bestExchange_76 : decode cX1_bestExchange 76 = .ok (.iaload, 1) := by decide +kernel
theorem dX1_bestExchange_77 : decode cX1_bestExchange 77 = .ok (.iastore, 1) := by decide +kernel
theorem dX1_bestExchange_78 : decode cX1_bestExchange 78 = .ok (.aload_n 0, 1) := by decide +kernel
theorem dX1_bestExchange_79 : decode cX1_bestExchange 79 = .ok (.getfield 15, 3) := by decide +kernel
theorem dX1_bestExchange_82 : decode cX1_bestExchange 82 = .ok (.iload 4, 2) := by decide +kernel
theorem dX1_bestExchange_84 : decode cX1_bestExchange 84 = .ok (.aload_n 0, 1) := by decide +kernel
theorem dX1_bestExchange_85 : decode cX1_bestExchange 85 = .ok (.getfield 33, 3) := by decide +kernel
theorem dX1_bestExchange_88 : decode cX1_bestExchange 88 = .ok (.getfield 37, 3) := by decide +kernel
theorem dX1_bestExchange_91 : decode cX1_bestExchange 91 = .ok (.iload_n 3, 1) := by decide +kernel
theorem dX1_bestExchange_92 : decode cX1_bestExchange 92 = .ok (.iaload, 1) := by decide +kernel
theorem dX1_bestExchange_93 : decode cX1_bestExchange 93 = .ok (.iastore, 1) := by decide +kernel
theorem dX1_bestExchange_94 : decode cX1_bestExchange 94 = .ok (.aload_n 0, 1) := by decide +kernel
theorem dX1_bestExchange_95 : decode cX1_bestExchange 95 = .ok (.aload_n 0, 1) := by decide +kernel
theorem dX1_bestExchange_96 : decode cX1_bestExchange 96 = .ok (.getfield 15, 3) := by decide +kernel
theorem dX1_bestExchange_99 : decode cX1_bestExchange 99 = .ok (.invokevirtual 70, 3) := by decide +kernel
theorem dX1_bestExchange_102 : decode cX1_bestExchange 102 = .ok (.istore 5, 2) := by decide +kernel
theorem dX1_bestExchange_104 : decode cX1_bestExchange 104 = .ok (.iload 5, 2) := by decide +kernel
theorem dX1_bestExchange_106 : decode cX1_bestExchange 106 = .ok (.iload_n 1, 1) := by decide +kernel
theorem dX1_bestExchange_107 : decode cX1_bestExchange 107 = .ok (.if_icmp .le 14, 3) := by decide +kernel
theorem dX1_bestExchange_110 : decode cX1_bestExchange 110 = .ok (.iload 5, 2) := by decide +kernel
theorem dX1_bestExchange_112 : decode cX1_bestExchange 112 = .ok (.istore_n 1, 1) := by decide +kernel
theorem dX1_bestExchange_113 : decode cX1_bestExchange 113 = .ok (.bipush 8, 2) := by decide +kernel
theorem dX1_bestExchange_115 : decode cX1_bestExchange 115 = .ok (.iload_n 3, 1) := by decide +kernel
theorem dX1_bestExchange_116 : decode cX1_bestExchange 116 = .ok (.imul, 1) := by decide +kernel
theorem dX1_bestExchange_117 : decode cX1_bestExchange 117 = .ok (.iload 4, 2) := by decide +kernel
theorem dX1_bestExchange_119 : decode cX1_bestExchange 119 = .ok (.iadd, 1) := by decide +kernel
theorem dX1_bestExchange_120 : decode cX1_bestExchange 120 = .ok (.istore_n 2, 1) := by decide +kernel
theorem dX1_bestExchange_121 : decode cX1_bestExchange 121 = .ok (.aload_n 0, 1) := by decide +kernel
theorem dX1_bestExchange_122 : decode cX1_bestExchange 122 = .ok (.getfield 15, 3) := by decide +kernel
theorem dX1_bestExchange_125 : decode cX1_bestExchange 125 = .ok (.iload_n 3, 1) := by decide +kernel
theorem dX1_bestExchange_126 : decode cX1_bestExchange 126 = .ok (.aload_n 0, 1) := by decide +kernel
theorem dX1_bestExchange_127 : decode cX1_bestExchange 127 = .ok (.getfield 33, 3) := by decide +kernel
theorem dX1_bestExchange_130 : decode cX1_bestExchange 130 = .ok (.getfield 37, 3) := by decide +kernel
theorem dX1_bestExchange_133 : decode cX1_bestExchange 133 = .ok (.iload_n 3, 1) := by decide +kernel
theorem dX1_bestExchange_134 : decode cX1_bestExchange 134 = .ok (.iaload, 1) := by decide +kernel
theorem dX1_bestExchange_135 : decode cX1_bestExchange 135 = .ok (.iastore, 1) := by decide +kernel
theorem dX1_bestExchange_136 : decode cX1_bestExchange 136 = .ok (.aload_n 0, 1) := by decide +kernel
theorem dX1_bestExchange_137 : decode cX1_bestExchange 137 = .ok (.getfield 15, 3) := by decide +kernel
theorem dX1_bestExchange_140 : decode cX1_bestExchange 140 = .ok (.iload 4, 2) := by decide +kernel
theorem dX1_bestExchange_142 : decode cX1_bestExchange 142 = .ok (.aload_n 0, 1) := by decide +kernel
theorem dX1_bestExchange_143 : decode cX1_bestExchange 143 = .ok (.getfield 33, 3) := by decide +kernel
theorem dX1_bestExchange_146 : decode cX1_bestExchange 146 = .ok (.getfield 37, 3) := by decide +kernel
theorem dX1_bestExchange_149 : decode cX1_bestExchange 149 = .ok (.iload 4, 2) := by decide +kernel
theorem dX1_bestExchange_151 : decode cX1_bestExchange 151 = .ok (.iaload, 1) := by decide +kernel
theorem dX1_bestExchange_152 : decode cX1_bestExchange 152 = .ok (.iastore, 1) := by decide +kernel
theorem dX1_bestExchange_153 : decode cX1_bestExchange 153 = .ok (.iinc 4 1, 3) := by decide +kernel
theorem dX1_bestExchange_156 : decode cX1_bestExchange 156 = .ok (.goto (-106), 3) := by decide +kernel
theorem dX1_bestExchange_159 : decode cX1_bestExchange 159 = .ok (.iinc 3 1, 3) := by decide +kernel
theorem dX1_bestExchange_162 : decode cX1_bestExchange 162 = .ok (.goto (-128), 3) := by decide +kernel
theorem dX1_bestExchange_165 : decode cX1_bestExchange 165 = .ok (.iload_n 2, 1) := by decide +kernel
theorem dX1_bestExchange_166 : decode cX1_bestExchange 166 = .ok (.ireturn, 1) := by decide +kernel
theorem fl_RX1_15 : FL RX1 15 1 3 := ⟨inG (i := 430) (by decide +kernel) (by decide +kernel), by decide, by decide⟩
theorem go_1_3 (σ : St) (i : Nat) : go σ 1 i 3 = (203, i) := rfl
theorem lk_RX1_70 : Cond.methodLink RX1 70 yX1_goingHome ∈ tG := inG (i := 1142) (by decide +kernel) (by decide +kernel)
theorem lk_RX1_74 : Cond.methodLink RX1 74 arraycopyName ∈ tG := inG (i := 1146) (by decide +kernel) (by decide +kernel)
theorem m_X1_goingHome : MV Y_X1_goingHome 1 1 := ⟨⟨inG (i := 1145) (by decide +kernel) (by decide +kernel), inG (i := 108) (by decide +kernel) (by decide +kernel), by decide, by decide, by decide, by decide +kernel⟩, inG (i := 1144) (by decide +kernel) (by decide +kernel), inG (i := 25) (by decide +kernel) (by decide +kernel), by decide⟩
theorem sh_203 : shp 203 = (0, 6) := rfl
def P_X1_bestExchange_J121  (x1 : Int) (x2 : Int) (x3 : Int) (x4 : Int) (R : Int → Int → Int → St → Prop) (K : Int → Int → St → Prop) (Q : Int → St → Prop) (σ : St) : Prop :=
  0 ≤ x3 ∧ x3 < 6 ∧ 0 ≤ x3 ∧ x3 < 6 ∧ 0 ≤ x4 ∧ x4 < 6 ∧ 0 ≤ x4 ∧ x4 < 6 ∧ R x1 x2 (wi (x4 + 1)) (up (up σ 203 0 x3 (σ 1001 0 x3)) 203 0 x4 ((up σ 203 0 x3 (σ 1001 0 x3)) 1001 0 x4))
set_option maxRecDepth 20000 in
set_option maxHeartbeats 2000000 in
theorem e_P_X1_bestExchange_J121  {x1 : Int} {x2 : Int} {x3 : Int} {x4 : Int} {R : Int → Int → Int → St → Prop} {K : Int → Int → St → Prop} {Q : Int → St → Prop} {σ : St}  (hR : ∀ x1 x2 x4 σ, R x1 x2 x4 σ → E Y_X1_bestExchange 2 0 0 (QI Q) ww 0 0 50 [some (vR 1 0), some (vI x1), some (vI x2), some (vI x3), some (vI x4), none] [] σ) (hK : ∀ x1 x2 σ, K x1 x2 σ → E Y_X1_bestExchange 2 0 0 (QI Q) ww 0 0 159 [some (vR 1 0), some (vI x1), some (vI x2), some (vI x3), none, none] [] σ) (h : P_X1_bestExchange_J121 x1 x2 x3 x4 R K Q σ) : E Y_X1_bestExchange 2 0 0 (QI Q) ww 0 0 121 [some (vR 1 0), some (vI x1), some (vI x2), some (vI x3), some (vI x4), none] [] σ := by
  unfold P_X1_bestExchange_J121 at h
  refine E_aload_n dX1_bestExchange_121 rfl rfl ?_
  refine E_getr (i := 0) dX1_bestExchange_122 fl_RX1_15 rfl rfl (go_1_3 _ _) ?_
  refine E_iload_n dX1_bestExchange_125 rfl rfl ?_
  refine E_aload_n dX1_bestExchange_126 rfl rfl ?_
  refine E_getr (i := 0) dX1_bestExchange_127 fl_RX1_33 rfl rfl (go_1_1 _ _) ?_
  refine E_getr (i := 0) dX1_bestExchange_130 fl_RX1_37 rfl rfl (go_9_1 _ _) ?_
  refine E_iload_n dX1_bestExchange_133 rfl rfl ?_
  obtain ⟨hg0, hg1, h⟩ := h
  refine E_iald dX1_bestExchange_134 sh_1001 hg0 hg1 ?_
  obtain ⟨hg0, hg1, h⟩ := h
  refine E_iast dX1_bestExchange_135 sh_203 hg0 hg1 ?_
  refine E_aload_n dX1_bestExchange_136 rfl rfl ?_
  refine E_getr (i := 0) dX1_bestExchange_137 fl_RX1_15 rfl rfl (go_1_3 _ _) ?_
  refine E_iload dX1_bestExchange_140 rfl ?_
  refine E_aload_n dX1_bestExchange_142 rfl rfl ?_
  refine E_getr (i := 0) dX1_bestExchange_143 fl_RX1_33 rfl rfl (go_1_1 _ _) ?_
  refine E_getr (i := 0) dX1_bestExchange_146 fl_RX1_37 rfl rfl (go_9_1 _ _) ?_
  refine E_iload dX1_bestExchange_149 rfl ?_
  obtain ⟨hg0, hg1, h⟩ := h
  refine E_iald dX1_bestExchange_151 sh_1001 hg0 hg1 ?_
  obtain ⟨hg0, hg1, h⟩ := h
  refine E_iast dX1_bestExchange_152 sh_203 hg0 hg1 ?_
  refine E_iinc (ls' := [some (vR 1 0), some (vI x1), some (vI x2), some (vI x3), some (vI (wi (x4 + 1))), none]) dX1_bestExchange_153 rfl (by decide) rfl rfl ?_
  refine E_goto (tgt := 50) dX1_bestExchange_156 (by decide) ?_
  exact hR _ _ _ _ h
def P_X1_bestExchange_L50  (x3 : Int) (K : Int → Int → St → Prop) (Q : Int → St → Prop) : Nat → Int → Int → Int → St → Prop
  | 0, _, _, _, _ => False
  | n + 1, x1, x2, x4, σ => (if (σ 8 0 10) ≤ x4 then K x1 x2 σ else 0 ≤ x4 ∧ x4 < 6 ∧ 0 ≤ x3 ∧ x3 < 6 ∧ 0 ≤ x3 ∧ x3 < 6 ∧ 0 ≤ x4 ∧ x4 < 6 ∧ P_X1_goingHome 203 0 (up (up σ 203 0 x3 (σ 1001 0 x4)) 203 0 x4 ((up σ 203 0 x3 (σ 1001 0 x4)) 1001 0 x3)) (fun r_4 σ_3 => (if r_4 ≤ x1 then P_X1_bestExchange_J121 x1 x2 x3 x4 (P_X1_bestExchange_L50 x3 K Q n) K Q σ_3 else P_X1_bestExchange_J121 r_4 (wi ((wi (8 * x3)) + x4)) x3 x4 (P_X1_bestExchange_L50 x3 K Q n) K Q σ_3)))
set_option maxRecDepth 20000 in
set_option maxHeartbeats 2000000 in
theorem e_P_X1_bestExchange_L50  {x3 : Int} {K : Int → Int → St → Prop} {Q : Int → St → Prop}  (hK : ∀ x1 x2 σ, K x1 x2 σ → E Y_X1_bestExchange 2 0 0 (QI Q) ww 0 0 159 [some (vR 1 0), some (vI x1), some (vI x2), some (vI x3), none, none] [] σ) : ∀ (n : Nat) (x1 : Int) (x2 : Int) (x4 : Int) (σ : St), P_X1_bestExchange_L50 x3 K Q n x1 x2 x4 σ → E Y_X1_bestExchange 2 0 0 (QI Q) ww 0 0 50 [some (vR 1 0), some (vI x1), some (vI x2), some (vI x3), some (vI x4), none] [] σ := by
  intro n
  induction n with
  | zero => intro x1 x2 x4 σ h; exact h.elim
  | succ n hR =>
    intro x1 x2 x4 σ h
    unfold P_X1_bestExchange_L50 at h
    refine E_iload dX1_bestExchange_50 rfl ?_
    refine E_aload_n dX1_bestExchange_52 rfl rfl ?_
    refine E_getr (i := 0) dX1_bestExchange_53 fl_RX1_29 rfl rfl (go_1_0 _ _) ?_
    refine E_geti (i := 0) dX1_bestExchange_56 fl_RX1_80 rfl ?_
    refine E_icmp_ge (tgt := 159) dX1_bestExchange_59 (by decide) (fun hc => ?_) (fun hc => ?_)
    · have h := Eq.mp (if_pos hc) h
      refine E_wk2 [some (vR 1 0), some (vI x1), some (vI x2), some (vI x3), none, none] ⟨rfl, ⟨rfl, ⟨rfl, ⟨rfl, trivial⟩⟩⟩⟩ ?_
      exact hK _ _ _ h
    · have h := Eq.mp (if_neg hc) h
      refine E_aload_n dX1_bestExchange_62 rfl rfl ?_
      refine E_getr (i := 0) dX1_bestExchange_63 fl_RX1_15 rfl rfl (go_1_3 _ _) ?_
      refine E_iload_n dX1_bestExchange_66 rfl rfl ?_
      refine E_aload_n dX1_bestExchange_67 rfl rfl ?_
      refine E_getr (i := 0) dX1_bestExchange_68 fl_RX1_33 rfl rfl (go_1_1 _ _) ?_
      refine E_getr (i := 0) dX1_bestExchange_71 fl_RX1_37 rfl rfl (go_9_1 _ _) ?_
      refine E_iload dX1_bestExchange_74 rfl ?_
      obtain ⟨hg0, hg1, h⟩ := h
      refine E_iald dX1_bestExchange_76 sh_1001 hg0 hg1 ?_
      obtain ⟨hg0, hg1, h⟩ := h
      refine E_iast dX1_bestExchange_77 sh_203 hg0 hg1 ?_
      refine E_aload_n dX1_bestExchange_78 rfl rfl ?_
      refine E_getr (i := 0) dX1_bestExchange_79 fl_RX1_15 rfl rfl (go_1_3 _ _) ?_
      refine E_iload dX1_bestExchange_82 rfl ?_
      refine E_aload_n dX1_bestExchange_84 rfl rfl ?_
      refine E_getr (i := 0) dX1_bestExchange_85 fl_RX1_33 rfl rfl (go_1_1 _ _) ?_
      refine E_getr (i := 0) dX1_bestExchange_88 fl_RX1_37 rfl rfl (go_9_1 _ _) ?_
      refine E_iload_n dX1_bestExchange_91 rfl rfl ?_
      obtain ⟨hg0, hg1, h⟩ := h
      refine E_iald dX1_bestExchange_92 sh_1001 hg0 hg1 ?_
      obtain ⟨hg0, hg1, h⟩ := h
      refine E_iast dX1_bestExchange_93 sh_203 hg0 hg1 ?_
      refine E_aload_n dX1_bestExchange_94 rfl rfl ?_
      refine E_aload_n dX1_bestExchange_95 rfl rfl ?_
      refine E_getr (i := 0) dX1_bestExchange_96 fl_RX1_15 rfl rfl (go_1_3 _ _) ?_
      refine E_callV (Y' := Y_X1_goingHome) (as := [vR 203 0]) (st := []) dX1_bestExchange_99 lk_RX1_70 m_X1_goingHome (by decide) (Nat.le_refl _) (Nat.le_refl _) rfl rfl (Nat.le_of_ble_eq_true rfl) (s_X1_goingHome h) (fun r0 B0 σ_3 h => ?_)
      obtain ⟨r_4, rfl, rfl, h⟩ := h
      refine E_istore (ls' := [some (vR 1 0), some (vI x1), some (vI x2), some (vI x3), some (vI x4), some (vI r_4)]) dX1_bestExchange_102 (by decide) rfl ?_
      refine E_iload dX1_bestExchange_104 rfl ?_
      refine E_iload_n dX1_bestExchange_106 rfl rfl ?_
      refine E_icmp_le (tgt := 121) dX1_bestExchange_107 (by decide) (fun hc => ?_) (fun hc => ?_)
      · have h := Eq.mp (if_pos hc) h
        refine E_wk2 [some (vR 1 0), some (vI x1), some (vI x2), some (vI x3), some (vI x4), none] ⟨rfl, ⟨rfl, ⟨rfl, ⟨rfl, ⟨rfl, trivial⟩⟩⟩⟩⟩ ?_
        exact e_P_X1_bestExchange_J121 hR hK h
      · have h := Eq.mp (if_neg hc) h
        refine E_iload dX1_bestExchange_110 rfl ?_
        refine E_istore_n (ls' := [some (vR 1 0), some (vI r_4), some (vI x2), some (vI x3), some (vI x4), some (vI r_4)]) dX1_bestExchange_112 rfl (by decide) rfl ?_
        refine E_bp dX1_bestExchange_113 rfl ?_
        refine E_iload_n dX1_bestExchange_115 rfl rfl ?_
        refine E_imul dX1_bestExchange_116 ?_
        refine E_iload dX1_bestExchange_117 rfl ?_
        refine E_iadd dX1_bestExchange_119 ?_
        refine E_istore_n (ls' := [some (vR 1 0), some (vI r_4), some (vI (wi ((wi (8 * x3)) + x4))), some (vI x3), some (vI x4), some (vI r_4)]) dX1_bestExchange_120 rfl (by decide) rfl ?_
        refine E_wk2 [some (vR 1 0), some (vI r_4), some (vI (wi ((wi (8 * x3)) + x4))), some (vI x3), some (vI x4), none] ⟨rfl, ⟨rfl, ⟨rfl, ⟨rfl, ⟨rfl, trivial⟩⟩⟩⟩⟩ ?_
        exact e_P_X1_bestExchange_J121 hR hK h
def P_X1_bestExchange_L34    (Q : Int → St → Prop) : Nat → Int → Int → Int → St → Prop
  | 0, _, _, _, _ => False
  | n + 1, x1, x2, x3, σ => (if (σ 8 0 10) ≤ x3 then Q x2 σ else P_X1_bestExchange_L50 x3 (fun x1_5 x2_6 σ_7 => (P_X1_bestExchange_L34 Q n) x1_5 x2_6 (wi (x3 + 1)) σ_7) Q FU x1 x2 (wi (x3 + 1)) σ)
set_option maxRecDepth 20000 in
set_option maxHeartbeats 2000000 in
theorem e_P_X1_bestExchange_L34    {Q : Int → St → Prop}   : ∀ (n : Nat) (x1 : Int) (x2 : Int) (x3 : Int) (σ : St), P_X1_bestExchange_L34 Q n x1 x2 x3 σ → E Y_X1_bestExchange 2 0 0 (QI Q) ww 0 0 34 [some (vR 1 0), some (vI x1), some (vI x2), some (vI x3), none, none] [] σ := by
  intro n
  induction n with
  | zero => intro x1 x2 x3 σ h; exact h.elim
  | succ n hR =>
    intro x1 x2 x3 σ h
    unfold P_X1_bestExchange_L34 at h
    refine E_iload_n dX1_bestExchange_34 rfl rfl ?_
    refine E_aload_n dX1_bestExchange_35 rfl rfl ?_
    refine E_getr (i := 0) dX1_bestExchange_36 fl_RX1_29 rfl rfl (go_1_0 _ _) ?_
    refine E_geti (i := 0) dX1_bestExchange_39 fl_RX1_80 rfl ?_
    refine E_icmp_ge (tgt := 165) dX1_bestExchange_42 (by decide) (fun hc => ?_) (fun hc => ?_)
    · have h := Eq.mp (if_pos hc) h
      refine E_iload_n dX1_bestExchange_165 rfl rfl ?_
      exact E_iret dX1_bestExchange_166 rfl ⟨_, rfl, rfl, h⟩
    · have h := Eq.mp (if_neg hc) h
      refine E_iload_n dX1_bestExchange_45 rfl rfl ?_
      refine E_ic dX1_bestExchange_46 rfl ?_
      refine E_iadd dX1_bestExchange_47 ?_
      refine E_istore (ls' := [some (vR 1 0), some (vI x1), some (vI x2), some (vI x3), some (vI (wi (x3 + 1))), none]) dX1_bestExchange_48 (by decide) rfl ?_
      refine e_P_X1_bestExchange_L50 ?_ _ _ _ _ _ h
      · intro x1_5 x2_6 σ_7 h
        refine E_iinc (ls' := [some (vR 1 0), some (vI x1_5), some (vI x2_6), some (vI (wi (x3 + 1))), none, none]) dX1_bestExchange_159 rfl (by decide) rfl rfl ?_
        refine E_goto (tgt := 34) dX1_bestExchange_162 (by decide) ?_
        exact hR _ _ _ _ h
def P_X1_bestExchange   (σ : St) (Q : Int → St → Prop) : Prop :=
  P_X1_goingHome 1001 0 σ (fun r_2 σ_1 => P_X1_bestExchange_L34 Q FU r_2 (-1) 0 (cp σ_1 1001 0 0 203 0 0 6))
set_option maxRecDepth 20000 in
set_option maxHeartbeats 2000000 in
theorem s_X1_bestExchange    {σ : St} {Q : Int → St → Prop} (h : P_X1_bestExchange  σ Q) : Cn Y_X1_bestExchange 2 0 0 ww σ [vR 1 0] (QI Q) := by
  refine Cn_of [some (vR 1 0), none, none, none, none, none] (by decide) (Nat.le_of_ble_eq_true rfl) rfl ?_
  unfold P_X1_bestExchange at h
  refine E_aload_n dX1_bestExchange_0 rfl rfl ?_
  refine E_aload_n dX1_bestExchange_1 rfl rfl ?_
  refine E_getr (i := 0) dX1_bestExchange_2 fl_RX1_33 rfl rfl (go_1_1 _ _) ?_
  refine E_getr (i := 0) dX1_bestExchange_5 fl_RX1_37 rfl rfl (go_9_1 _ _) ?_
  refine E_callV (Y' := Y_X1_goingHome) (as := [vR 1001 0]) (st := []) dX1_bestExchange_8 lk_RX1_70 m_X1_goingHome (by decide) (Nat.le_refl _) (Nat.le_refl _) rfl rfl (Nat.le_of_ble_eq_true rfl) (s_X1_goingHome h) (fun r0 B0 σ_1 h => ?_)
  obtain ⟨r_2, rfl, rfl, h⟩ := h
  refine E_istore_n (ls' := [some (vR 1 0), some (vI r_2), none, none, none, none]) dX1_bestExchange_11 rfl (by decide) rfl ?_
  refine E_ic dX1_bestExchange_12 rfl ?_
  refine E_istore_n (ls' := [some (vR 1 0), some (vI r_2), some (vI (-1)), none, none, none]) dX1_bestExchange_13 rfl (by decide) rfl ?_
  refine E_aload_n dX1_bestExchange_14 rfl rfl ?_
  refine E_getr (i := 0) dX1_bestExchange_15 fl_RX1_33 rfl rfl (go_1_1 _ _) ?_
  refine E_getr (i := 0) dX1_bestExchange_18 fl_RX1_37 rfl rfl (go_9_1 _ _) ?_
  refine E_ic dX1_bestExchange_21 rfl ?_
  refine E_aload_n dX1_bestExchange_22 rfl rfl ?_
  refine E_getr (i := 0) dX1_bestExchange_23 fl_RX1_15 rfl rfl (go_1_3 _ _) ?_
  refine E_ic dX1_bestExchange_26 rfl ?_
  refine E_bp dX1_bestExchange_27 rfl ?_
  refine E_acpi dX1_bestExchange_29 lk_RX1_74 (by decide) (Nat.le_of_ble_eq_true rfl) sh_1001 sh_203 (by decide) (by decide) (by decide) (by decide) (by decide) ?_
  refine E_ic dX1_bestExchange_32 rfl ?_
  refine E_istore_n (ls' := [some (vR 1 0), some (vI r_2), some (vI (-1)), some (vI 0), none, none]) dX1_bestExchange_33 rfl (by decide) rfl ?_
  refine e_P_X1_bestExchange_L34  _ _ _ _ _ h
abbrev Y_X1_plan : My := (yX1_plan, cX1_plan, 4, some .int)
theorem dX1_plan_0 : decode cX1_plan 0 = .ok (.aload_n 0, 1) := by decide +kernel
theorem dX1_plan_1 : decode cX1_plan 1 = .ok (.invokevirtual 83, 3) := by decide +kernel
theorem dX1_plan_4 : decode cX1_plan 4 = .ok (.iconst 0, 1) := by decide +kernel
theorem dX1_plan_5 : decode cX1_plan 5 = .ok (.istore_n 1, 1) := by decide +kernel
theorem dX1_plan_6 : decode cX1_plan 6 = .ok (.iload_n 1, 1) := by decide +kernel
theorem dX1_plan_7 : decode cX1_plan 7 = .ok (.bipush 60, 2) := by decide +kernel
theorem dX1_plan_9 : decode cX1_plan 9 = .ok (.if_icmp .gt 24, 3) := by decide +kernel
theorem dX1_plan_12 : decode cX1_plan 12 = .ok (.aload_n 0, 1) := by decide +kernel
theorem dX1_plan_13 : decode cX1_plan 13 = .ok (.getfield 20, 3) := by decide +kernel
theorem dX1_plan_16 : decode cX1_plan 16 = .ok (.aload_n 0, 1) := by decide +kernel
theorem dX1_plan_17 : decode cX1_plan 17 = .ok (.getfield 29, 3) := by decide +kernel
theorem dX1_plan_20 : decode cX1_plan 20 = .ok (.getfield 80, 3) := by decide +kernel
theorem dX1_plan_23 : decode cX1_plan 23 = .ok (.aaload, 1) := by decide +kernel
theorem dX1_plan_24 : decode cX1_plan 24 = .ok (.iload_n 1, 1) := by decide +kernel
theorem dX1_plan_25 : decode cX1_plan 25 = .ok (.iconst 0, 1) := by decide +kernel
theorem dX1_plan_26 : decode cX1_plan 26 = .ok (.iastore, 1) := by decide +kernel
theorem dX1_plan_27 : decode cX1_plan 27 = .ok (.iinc 1 1, 3) := by decide +kernel
theorem dX1_plan_30 : decode cX1_plan 30 = .ok (.goto (-24), 3) := by decide +kernel
theorem dX1_plan_33 : decode cX1_plan 33 = .ok (.aload_n 0, 1) := by decide +kernel
theorem dX1_plan_34 : decode cX1_plan 34 = .ok (.getfield 29, 3) := by decide +kernel
theorem dX1_plan_37 : decode cX1_plan 37 = .ok (.getfield 80, 3) := by decide +kernel
theorem dX1_plan_40 : decode cX1_plan 40 = .ok (.iconst 1, 1) := by decide +kernel
theorem dX1_plan_41 : decode cX1_plan 41 = .ok (.isub, 1) := by decide +kernel
theorem dX1_plan_42 : decode cX1_plan 42 = .ok (.istore_n 1, 1) := by decide +kernel
theorem dX1_plan_43 : decode cX1_plan 43 = .ok (.iload_n 1, 1) := by decide +kernel
theorem dX1_plan_44 : decode cX1_plan 44 = .ok (.ifCond .lt 29, 3) := by decide +kernel
theorem dX1_plan_47 : decode cX1_plan 47 = .ok (.iconst 0, 1) := by decide +kernel
theorem dX1_plan_48 : decode cX1_plan 48 = .ok (.istore_n 2, 1) := by decide +kernel
theorem dX1_plan_49 : decode cX1_plan 49 = .ok (.iload_n 2, 1) := by decide +kernel
theorem dX1_plan_50 : decode cX1_plan 50 = .ok (.bipush 60, 2) := by decide +kernel
theorem dX1_plan_52 : decode cX1_plan 52 = .ok (.if_icmp .gt 15, 3) := by decide +kernel
theorem dX1_plan_55 : decode cX1_plan 55 = .ok (.aload_n 0, 1) := by decide +kernel
theorem dX1_plan_56 : decode cX1_plan 56 = .ok (.iload_n 1, 1) := by decide +kernel
theorem dX1_plan_57 : decode cX1_plan 57 = .ok (.iload_n 2, 1) := by decide +kernel
theorem dX1_plan_58 : decode cX1_plan 58 = .ok (.invokevirtual 86, 3) := by decide +kernel
theorem dX1_plan_61 : decode cX1_plan 61 = .ok (.iinc 2 1, 3) := by decide +kernel
theorem dX1_plan_64 : decode cX1_plan 64 = .ok (.goto (-15), 3) := by decide +kernel
theorem dX1_plan_67 : decode cX1_plan 67 = .ok (.iinc 1 (-1), 3) := by decide +kernel
theorem dX1_plan_70 : decode cX1_plan 70 = .ok (.goto (-27), 3) := by decide +kernel
theorem dX1_plan_73 : decode cX1_plan 73 = .ok (.iconst 0, 1) := by decide +kernel
theorem dX1_plan_74 : decode cX1_plan 74 = .ok (.istore_n 1, 1) := by decide +kernel
theorem dX1_plan_75 : decode cX1_plan 75 = .ok (.iconst 0, 1) := by decide +kernel
theorem dX1_plan_76 : decode cX1_plan 76 = .ok (.istore_n 2, 1) := by decide +kernel
theorem dX1_plan_77 : decode cX1_plan 77 = .ok (.iload_n 2, 1) := by decide +kernel
theorem dX1_plan_78 : decode cX1_plan 78 = .ok (.aload_n 0, 1) := by decide +kernel
theorem dX1_plan_79 : decode cX1_plan 79 = .ok (.getfield 29, 3) := by decide +kernel
theorem dX1_plan_82 : decode cX1_plan 82 = .ok (.getfield 80, 3) := by decide +kernel
theorem dX1_plan_85 : decode cX1_plan 85 = .ok (.if_icmp .ge 39, 3) := by decide +kernel
theorem dX1_plan_88 : decode cX1_plan 88 = .ok (.aload_n 0, 1) := by decide +kernel
theorem dX1_plan_89 : decode cX1_plan 89 = .ok (.getfield 23, 3) := by decide +kernel
theorem dX1_plan_92 : decode cX1_plan 92 = .ok (.iload_n 2, 1) := by decide +kernel
theorem dX1_plan_93 : decode cX1_plan 93 = .ok (.aaload, 1) := by decide +kernel
theorem dX1_plan_94 : decode cX1_plan 94 = .ok (.iload_n 1, 1) := by decide +kernel
theorem dX1_plan_95 : decode cX1_plan 95 = .ok (.iaload, 1) := by decide +kernel
theorem dX1_plan_96 : decode cX1_plan 96 = .ok (.istore_n 3, 1) := by decide +kernel
theorem dX1_plan_97 : decode cX1_plan 97 = .ok (.aload_n 0, 1) := by decide +kernel
theorem dX1_plan_98 : decode cX1_plan 98 = .ok (.getfield 9, 3) := by decide +kernel
theorem dX1_plan_101 : decode cX1_plan 101 = .ok (.aload_n 0, 1) := by decide +kernel
theorem dX1_plan_102 : decode cX1_plan 102 = .ok (.getfield 29, 3) := by decide +kernel
theorem dX1_plan_105 : decode cX1_plan 105 = .ok (.getfield 90, 3) := by decide +kernel
theorem dX1_plan_108 : decode cX1_plan 108 = .ok (.iload_n 2, 1) := by decide +kernel
theorem dX1_plan_109 : decode cX1_plan 109 = .ok (.iaload, 1) := by decide +kernel
theorem dX1_plan_110 : decode cX1_plan 110 = .ok (.iload_n 3, 1) := by decide +kernel
theorem dX1_plan_111 : decode cX1_plan 111 = .ok (.iastore, 1) := by decide +kernel
theorem dX1_plan_112 : decode cX1_plan 112 = .ok (.iload_n 1, 1) := by decide +kernel
theorem dX1_plan_113 : decode cX1_plan 113 = .ok (.iload_n 3, 1) := by decide +kernel
theorem dX1_plan_114 : decode cX1_plan 114 = .ok (.invokestatic 93, 3) := by decide +kernel
theorem dX1_plan_117 : decode cX1_plan 117 = .ok (.istore_n 1, 1) := by decide +kernel
theorem dX1_plan_118 : decode cX1_plan 118 = .ok (.iinc 2 1, 3) := by decide +kernel
theorem dX1_plan_121 : decode cX1_plan 121 = .ok (.goto (-44), 3) := by decide +kernel
theorem dX1_plan_124 : decode cX1_plan 124 = .ok (.aload_n 0, 1) := by decide +kernel
theorem dX1_plan_125 : decode cX1_plan 125 = .ok (.getfield 20, 3) := by decide +kernel
theorem dX1_plan_128 : decode cX1_plan 128 = .ok (.iconst 0, 1) := by decide +kernel
theorem dX1_plan_129 : decode cX1_plan 129 = .ok (.aaload, 1) := by decide +kernel
theorem dX1_plan_130 : decode cX1_plan 130 = .ok (.iconst 0, 1) := by decide +kernel
theorem dX1_plan_131 : decode cX1_plan 131 = .ok (.iaload, 1) := by decide +kernel
theorem dX1_plan_132 : decode cX1_plan 132 = .ok (.ireturn, 1) := by decide +kernel
theorem fl_RX1_9 : FL RX1 9 1 2 := ⟨inG (i := 428) (by decide +kernel) (by decide +kernel), by decide, by decide⟩
theorem go_1_2 (σ : St) (i : Nat) : go σ 1 i 2 = (202, i) := rfl
theorem lk_RX1_83 : Cond.methodLink RX1 83 yX1_sortSizesByHome ∈ tG := inG (i := 1125) (by decide +kernel) (by decide +kernel)
theorem lk_RX1_86 : Cond.methodLink RX1 86 yX1_choose ∈ tG := inG (i := 1129) (by decide +kernel) (by decide +kernel)
theorem lk_RX1_93 : Cond.methodLink RX1 93 Lib.Math.max.name ∈ tG := inG (i := 1133) (by decide +kernel) (by decide +kernel)
theorem m_X1_choose : MV Y_X1_choose 2 1 := ⟨⟨inG (i := 1132) (by decide +kernel) (by decide +kernel), inG (i := 108) (by decide +kernel) (by decide +kernel), by decide, by decide, by decide, by decide +kernel⟩, inG (i := 1131) (by decide +kernel) (by decide +kernel), inG (i := 24) (by decide +kernel) (by decide +kernel), by decide⟩
theorem m_X1_sortSizesByHome : MV Y_X1_sortSizesByHome 0 1 := ⟨⟨inG (i := 1128) (by decide +kernel) (by decide +kernel), inG (i := 108) (by decide +kernel) (by decide +kernel), by decide, by decide, by decide, by decide +kernel⟩, inG (i := 1127) (by decide +kernel) (by decide +kernel), inG (i := 23) (by decide +kernel) (by decide +kernel), by decide⟩
theorem sh_202 : shp 202 = (0, 6) := rfl
def P_X1_plan_L6   (K : St → Prop) (Q : Int → St → Prop) : Nat → Int → St → Prop
  | 0, _, _ => False
  | n + 1, x1, σ => (if 60 < x1 then K σ else 0 ≤ σ 8 0 10 ∧ σ 8 0 10 < 7 ∧ 0 ≤ x1 ∧ x1 < 61 ∧ (P_X1_plan_L6 K Q n) (wi (x1 + 1)) (up σ 254 ((σ 8 0 10).toNat) x1 0))
set_option maxRecDepth 20000 in
set_option maxHeartbeats 2000000 in
theorem e_P_X1_plan_L6   {K : St → Prop} {Q : Int → St → Prop}  (hK : ∀ σ, K σ → E Y_X1_plan 1 0 0 (QI Q) ww 0 0 33 [some (vR 1 0), none, none, none] [] σ) : ∀ (n : Nat) (x1 : Int) (σ : St), P_X1_plan_L6 K Q n x1 σ → E Y_X1_plan 1 0 0 (QI Q) ww 0 0 6 [some (vR 1 0), some (vI x1), none, none] [] σ := by
  intro n
  induction n with
  | zero => intro x1 σ h; exact h.elim
  | succ n hR =>
    intro x1 σ h
    unfold P_X1_plan_L6 at h
    refine E_iload_n dX1_plan_6 rfl rfl ?_
    refine E_bp dX1_plan_7 rfl ?_
    refine E_icmp_gt (tgt := 33) dX1_plan_9 (by decide) (fun hc => ?_) (fun hc => ?_)
    · have h := Eq.mp (if_pos hc) h
      refine E_wk2 [some (vR 1 0), none, none, none] ⟨rfl, trivial⟩ ?_
      exact hK _ h
    · have h := Eq.mp (if_neg hc) h
      refine E_aload_n dX1_plan_12 rfl rfl ?_
      refine E_getr (i := 0) dX1_plan_13 fl_RX1_20 rfl rfl (go_1_4 _ _) ?_
      refine E_aload_n dX1_plan_16 rfl rfl ?_
      refine E_getr (i := 0) dX1_plan_17 fl_RX1_29 rfl rfl (go_1_0 _ _) ?_
      refine E_geti (i := 0) dX1_plan_20 fl_RX1_80 rfl ?_
      obtain ⟨hg0, hg1, h⟩ := h
      refine E_aald dX1_plan_23 sh_204 (by decide) (by decide) hg0 hg1 (wwA sh_204 hg0 hg1) rfl ?_
      refine E_iload_n dX1_plan_24 rfl rfl ?_
      refine E_ic dX1_plan_25 rfl ?_
      obtain ⟨hg0, hg1, h⟩ := h
      refine E_iast dX1_plan_26 sh_254 hg0 hg1 ?_
      refine E_iinc (ls' := [some (vR 1 0), some (vI (wi (x1 + 1))), none, none]) dX1_plan_27 rfl (by decide) rfl rfl ?_
      refine E_goto (tgt := 6) dX1_plan_30 (by decide) ?_
      exact hR _ _ h
def P_X1_plan_L49  (x1 : Int) (K : St → Prop) (Q : Int → St → Prop) : Nat → Int → St → Prop
  | 0, _, _ => False
  | n + 1, x2, σ => (if 60 < x2 then K σ else P_X1_choose x1 x2 σ (fun σ_3 => (P_X1_plan_L49 x1 K Q n) (wi (x2 + 1)) σ_3))
set_option maxRecDepth 20000 in
set_option maxHeartbeats 2000000 in
theorem e_P_X1_plan_L49  {x1 : Int} {K : St → Prop} {Q : Int → St → Prop}  (hK : ∀ σ, K σ → E Y_X1_plan 1 0 0 (QI Q) ww 0 0 67 [some (vR 1 0), some (vI x1), none, none] [] σ) : ∀ (n : Nat) (x2 : Int) (σ : St), P_X1_plan_L49 x1 K Q n x2 σ → E Y_X1_plan 1 0 0 (QI Q) ww 0 0 49 [some (vR 1 0), some (vI x1), some (vI x2), none] [] σ := by
  intro n
  induction n with
  | zero => intro x2 σ h; exact h.elim
  | succ n hR =>
    intro x2 σ h
    unfold P_X1_plan_L49 at h
    refine E_iload_n dX1_plan_49 rfl rfl ?_
    refine E_bp dX1_plan_50 rfl ?_
    refine E_icmp_gt (tgt := 67) dX1_plan_52 (by decide) (fun hc => ?_) (fun hc => ?_)
    · have h := Eq.mp (if_pos hc) h
      refine E_wk2 [some (vR 1 0), some (vI x1), none, none] ⟨rfl, ⟨rfl, trivial⟩⟩ ?_
      exact hK _ h
    · have h := Eq.mp (if_neg hc) h
      refine E_aload_n dX1_plan_55 rfl rfl ?_
      refine E_iload_n dX1_plan_56 rfl rfl ?_
      refine E_iload_n dX1_plan_57 rfl rfl ?_
      refine E_callV (Y' := Y_X1_choose) (as := [vI x1, vI x2]) (st := []) dX1_plan_58 lk_RX1_86 m_X1_choose (by decide) (Nat.le_refl _) (Nat.le_refl _) rfl rfl (Nat.le_of_ble_eq_true rfl) (s_X1_choose h) (fun r0 B0 σ_3 h => ?_)
      obtain ⟨rfl, rfl, h⟩ := h
      refine E_iinc (ls' := [some (vR 1 0), some (vI x1), some (vI (wi (x2 + 1))), none]) dX1_plan_61 rfl (by decide) rfl rfl ?_
      refine E_goto (tgt := 49) dX1_plan_64 (by decide) ?_
      exact hR _ _ h
def P_X1_plan_L43   (K : St → Prop) (Q : Int → St → Prop) : Nat → Int → St → Prop
  | 0, _, _ => False
  | n + 1, x1, σ => (if x1 < 0 then K σ else P_X1_plan_L49 x1 (fun σ_4 => (P_X1_plan_L43 K Q n) (wi (x1 + (-1))) σ_4) Q FU 0 σ)
set_option maxRecDepth 20000 in
set_option maxHeartbeats 2000000 in
theorem e_P_X1_plan_L43   {K : St → Prop} {Q : Int → St → Prop}  (hK : ∀ σ, K σ → E Y_X1_plan 1 0 0 (QI Q) ww 0 0 73 [some (vR 1 0), none, none, none] [] σ) : ∀ (n : Nat) (x1 : Int) (σ : St), P_X1_plan_L43 K Q n x1 σ → E Y_X1_plan 1 0 0 (QI Q) ww 0 0 43 [some (vR 1 0), some (vI x1), none, none] [] σ := by
  intro n
  induction n with
  | zero => intro x1 σ h; exact h.elim
  | succ n hR =>
    intro x1 σ h
    unfold P_X1_plan_L43 at h
    refine E_iload_n dX1_plan_43 rfl rfl ?_
    refine E_if_lt (tgt := 73) dX1_plan_44 (by decide) (fun hc => ?_) (fun hc => ?_)
    · have h := Eq.mp (if_pos hc) h
      refine E_wk2 [some (vR 1 0), none, none, none] ⟨rfl, trivial⟩ ?_
      exact hK _ h
    · have h := Eq.mp (if_neg hc) h
      refine E_ic dX1_plan_47 rfl ?_
      refine E_istore_n (ls' := [some (vR 1 0), some (vI x1), some (vI 0), none]) dX1_plan_48 rfl (by decide) rfl ?_
      refine e_P_X1_plan_L49 ?_ _ _ _ h
      · intro σ_4 h
        refine E_iinc (ls' := [some (vR 1 0), some (vI (wi (x1 + (-1)))), none, none]) dX1_plan_67 rfl (by decide) rfl rfl ?_
        refine E_goto (tgt := 43) dX1_plan_70 (by decide) ?_
        exact hR _ _ h
def P_X1_plan_L77    (Q : Int → St → Prop) : Nat → Int → Int → St → Prop
  | 0, _, _, _ => False
  | n + 1, x1, x2, σ => (if (σ 8 0 10) ≤ x2 then Q (σ 254 ((0 : Int).toNat) 0) σ else 0 ≤ x2 ∧ x2 < 6 ∧ 0 ≤ x1 ∧ x1 < 61 ∧ 0 ≤ x2 ∧ x2 < 6 ∧ 0 ≤ σ 903 0 x2 ∧ σ 903 0 x2 < 6 ∧ (P_X1_plan_L77 Q n) (max x1 (σ 255 x2.toNat x1)) (wi (x2 + 1)) (up σ 202 0 (σ 903 0 x2) (σ 255 x2.toNat x1)))
set_option maxRecDepth 20000 in
set_option maxHeartbeats 2000000 in
theorem e_P_X1_plan_L77    {Q : Int → St → Prop}   : ∀ (n : Nat) (x1 : Int) (x2 : Int) (σ : St), P_X1_plan_L77 Q n x1 x2 σ → E Y_X1_plan 1 0 0 (QI Q) ww 0 0 77 [some (vR 1 0), some (vI x1), some (vI x2), none] [] σ := by
  intro n
  induction n with
  | zero => intro x1 x2 σ h; exact h.elim
  | succ n hR =>
    intro x1 x2 σ h
    unfold P_X1_plan_L77 at h
    refine E_iload_n dX1_plan_77 rfl rfl ?_
    refine E_aload_n dX1_plan_78 rfl rfl ?_
    refine E_getr (i := 0) dX1_plan_79 fl_RX1_29 rfl rfl (go_1_0 _ _) ?_
    refine E_geti (i := 0) dX1_plan_82 fl_RX1_80 rfl ?_
    refine E_icmp_ge (tgt := 124) dX1_plan_85 (by decide) (fun hc => ?_) (fun hc => ?_)
    · have h := Eq.mp (if_pos hc) h
      refine E_aload_n dX1_plan_124 rfl rfl ?_
      refine E_getr (i := 0) dX1_plan_125 fl_RX1_20 rfl rfl (go_1_4 _ _) ?_
      refine E_ic dX1_plan_128 rfl ?_
      refine E_aald dX1_plan_129 sh_204 (by decide) (by decide) (by decide) (by decide) (wwA sh_204 (by decide) (by decide)) rfl ?_
      refine E_ic dX1_plan_130 rfl ?_
      refine E_iald dX1_plan_131 sh_254 (by decide) (by decide) ?_
      exact E_iret dX1_plan_132 rfl ⟨_, rfl, rfl, h⟩
    · have h := Eq.mp (if_neg hc) h
      refine E_aload_n dX1_plan_88 rfl rfl ?_
      refine E_getr (i := 0) dX1_plan_89 fl_RX1_23 rfl rfl (go_1_5 _ _) ?_
      refine E_iload_n dX1_plan_92 rfl rfl ?_
      obtain ⟨hg0, hg1, h⟩ := h
      refine E_aald dX1_plan_93 sh_205 (by decide) (by decide) hg0 hg1 (wwA sh_205 hg0 hg1) rfl ?_
      refine E_iload_n dX1_plan_94 rfl rfl ?_
      obtain ⟨hg0, hg1, h⟩ := h
      refine E_iald dX1_plan_95 sh_255 hg0 hg1 ?_
      refine E_istore_n (ls' := [some (vR 1 0), some (vI x1), some (vI x2), some (vI (σ 255 x2.toNat x1))]) dX1_plan_96 rfl (by decide) rfl ?_
      refine E_aload_n dX1_plan_97 rfl rfl ?_
      refine E_getr (i := 0) dX1_plan_98 fl_RX1_9 rfl rfl (go_1_2 _ _) ?_
      refine E_aload_n dX1_plan_101 rfl rfl ?_
      refine E_getr (i := 0) dX1_plan_102 fl_RX1_29 rfl rfl (go_1_0 _ _) ?_
      refine E_getr (i := 0) dX1_plan_105 fl_RX1_90 rfl rfl (go_8_3 _ _) ?_
      refine E_iload_n dX1_plan_108 rfl rfl ?_
      obtain ⟨hg0, hg1, h⟩ := h
      refine E_iald dX1_plan_109 sh_903 hg0 hg1 ?_
      refine E_iload_n dX1_plan_110 rfl rfl ?_
      obtain ⟨hg0, hg1, h⟩ := h
      refine E_iast dX1_plan_111 sh_202 hg0 hg1 ?_
      refine E_iload_n dX1_plan_112 rfl rfl ?_
      refine E_iload_n dX1_plan_113 rfl rfl ?_
      refine E_mmax dX1_plan_114 lk_RX1_93 (by decide) (Nat.le_refl _) (Nat.le_refl _) (Nat.le_of_ble_eq_true rfl) ?_
      refine E_istore_n (ls' := [some (vR 1 0), some (vI (max x1 (σ 255 x2.toNat x1))), some (vI x2), some (vI (σ 255 x2.toNat x1))]) dX1_plan_117 rfl (by decide) rfl ?_
      refine E_iinc (ls' := [some (vR 1 0), some (vI (max x1 (σ 255 x2.toNat x1))), some (vI (wi (x2 + 1))), some (vI (σ 255 x2.toNat x1))]) dX1_plan_118 rfl (by decide) rfl rfl ?_
      refine E_goto (tgt := 77) dX1_plan_121 (by decide) ?_
      refine E_wk2 [some (vR 1 0), some (vI (max x1 (σ 255 x2.toNat x1))), some (vI (wi (x2 + 1))), none] ⟨rfl, ⟨rfl, ⟨rfl, trivial⟩⟩⟩ ?_
      exact hR _ _ _ h
def P_X1_plan   (σ : St) (Q : Int → St → Prop) : Prop :=
  P_X1_sortSizesByHome σ (fun σ_1 => P_X1_plan_L6 (fun σ_2 => P_X1_plan_L43 (fun σ_5 => P_X1_plan_L77 Q FU 0 0 σ_5) Q FU (wi ((σ_2 8 0 10) - 1)) σ_2) Q FU 0 σ_1)
set_option maxRecDepth 20000 in
set_option maxHeartbeats 2000000 in
theorem s_X1_plan    {σ : St} {Q : Int → St → Prop} (h : P_X1_plan  σ Q) : Cn Y_X1_plan 1 0 0 ww σ [vR 1 0] (QI Q) := by
  refine Cn_of [some (vR 1 0), none, none, none] (by decide) (Nat.le_of_ble_eq_true rfl) rfl ?_
  unfold P_X1_plan at h
  refine E_aload_n dX1_plan_0 rfl rfl ?_
  refine E_callV (Y' := Y_X1_sortSizesByHome) (as := []) (st := []) dX1_plan_1 lk_RX1_83 m_X1_sortSizesByHome (by decide) (Nat.le_refl _) (Nat.le_refl _) rfl rfl (Nat.le_of_ble_eq_true rfl) (s_X1_sortSizesByHome h) (fun r0 B0 σ_1 h => ?_)
  obtain ⟨rfl, rfl, h⟩ := h
  refine E_ic dX1_plan_4 rfl ?_
  refine E_istore_n (ls' := [some (vR 1 0), some (vI 0), none, none]) dX1_plan_5 rfl (by decide) rfl ?_
  refine e_P_X1_plan_L6 ?_ _ _ _ h
  · intro σ_2 h
    refine E_aload_n dX1_plan_33 rfl rfl ?_
    refine E_getr (i := 0) dX1_plan_34 fl_RX1_29 rfl rfl (go_1_0 _ _) ?_
    refine E_geti (i := 0) dX1_plan_37 fl_RX1_80 rfl ?_
    refine E_ic dX1_plan_40 rfl ?_
    refine E_isub dX1_plan_41 ?_
    refine E_istore_n (ls' := [some (vR 1 0), some (vI (wi ((σ_2 8 0 10) - 1))), none, none]) dX1_plan_42 rfl (by decide) rfl ?_
    refine e_P_X1_plan_L43 ?_ _ _ _ h
    · intro σ_5 h
      refine E_ic dX1_plan_73 rfl ?_
      refine E_istore_n (ls' := [some (vR 1 0), some (vI 0), none, none]) dX1_plan_74 rfl (by decide) rfl ?_
      refine E_ic dX1_plan_75 rfl ?_
      refine E_istore_n (ls' := [some (vR 1 0), some (vI 0), some (vI 0), none]) dX1_plan_76 rfl (by decide) rfl ?_
      refine e_P_X1_plan_L77  _ _ _ _ h
abbrev Y_X2_worth : My := (yX2_worth, cX2_worth, 8, some .int)
theorem dX2_worth_0 : decode cX2_worth 0 = .ok (.iconst 0, 1) := by decide +kernel
theorem dX2_worth_1 : decode cX2_worth 1 = .ok (.istore 5, 2) := by decide +kernel
theorem dX2_worth_3 : decode cX2_worth 3 = .ok (.iconst 0, 1) := by decide +kernel
theorem dX2_worth_4 : decode cX2_worth 4 = .ok (.istore 6, 2) := by decide +kernel
theorem dX2_worth_6 : decode cX2_worth 6 = .ok (.iload 6, 2) := by decide +kernel
theorem dX2_worth_8 : decode cX2_worth 8 = .ok (.aload_n 0, 1) := by decide +kernel
theorem dX2_worth_9 : decode cX2_worth 9 = .ok (.getfield 21, 3) := by decide +kernel
theorem dX2_worth_12 : decode cX2_worth 12 = .ok (.if_icmp .ge 135, 3) := by decide +kernel
theorem dX2_worth_15 : decode cX2_worth 15 = .ok (.aload_n 0, 1) := by decide +kernel
theorem dX2_worth_16 : decode cX2_worth 16 = .ok (.getfield 9, 3) := by decide +kernel
theorem dX2_worth_19 : decode cX2_worth 19 = .ok (.iload 6, 2) := by decide +kernel
theorem dX2_worth_21 : decode cX2_worth 21 = .ok (.iaload, 1) := by decide +kernel
theorem dX2_worth_22 : decode cX2_worth 22 = .ok (.istore 7, 2) := by decide +kernel
theorem dX2_worth_24 : decode cX2_worth 24 = .ok (.iload 7, 2) := by decide +kernel
theorem dX2_worth_26 : decode cX2_worth 26 = .ok (.iconst 5, 1) := by decide +kernel
theorem dX2_worth_27 : decode cX2_worth 27 = .ok (.if_icmp .ge 34, 3) := by decide +kernel
theorem dX2_worth_30 : decode cX2_worth 30 = .ok (.iload 5, 2) := by decide +kernel
theorem dX2_worth_32 : decode cX2_worth 32 = .ok (.bipush 64, 2) := by decide +kernel
theorem dX2_worth_34 : decode cX2_worth 34 = .ok (.if_icmp .ge 27, 3) := by decide +kernel
theorem dX2_worth_37 : decode cX2_worth 37 = .ok (.aload_n 0, 1) := by decide +kernel
theorem dX2_worth_38 : decode cX2_worth 38 = .ok (.getfield 18, 3) := by decide +kernel
theorem dX2_worth_41 : decode cX2_worth 41 = .ok (.iload 5, 2) := by decide +kernel
theorem dX2_worth_43 : decode cX2_worth 43 = .ok (.aload_n 0, 1) := by decide +kernel
theorem dX2_worth_44 : decode cX2_worth 44 = .ok (.iload 6, 2) := by decide +kernel
theorem dX2_worth_46 : decode cX2_worth 46 = .ok (.iload_n 1, 1) := by decide +kernel
theorem dX2_worth_47 : decode cX2_worth 47 = .ok (.iload_n 2, 1) := by decide +kernel
theorem dX2_worth_48 : decode cX2_worth 48 = .ok (.iload_n 3, 1) := by decide +kernel
theorem dX2_worth_49 : decode cX2_worth 49 = .ok (.iload 4, 2) := by decide +kernel
theorem dX2_worth_51 : decode cX2_worth 51 = .ok (.invokevirtual 31, 3) := by decide +kernel
theorem dX2_worth_54 : decode cX2_worth 54 = .ok (.iastore, 1) := by decide +kernel
theorem dX2_worth_55 : decode cX2_worth 55 = .ok (.iinc 5 1, 3) := by decide +kernel
theorem dX2_worth_58 : decode cX2_worth 58 = .ok (.goto 83, 3) := by decide +kernel
theorem dX2_worth_61 : decode cX2_worth 61 = .ok (.iload 7, 2) := by decide +kernel
theorem dX2_worth_63 : decode cX2_worth 63 = .ok (.iconst 5, 1) := by decide +kernel
theorem dX2_worth_64 : decode cX2_worth 64 = .ok (.if_icmp .ne 38, 3) := by decide +kernel
theorem dX2_worth_67 : decode cX2_worth 67 = .ok (.iload 5, 2) := by decide +kernel
theorem dX2_worth_69 : decode cX2_worth 69 = .ok (.iconst 1, 1) := by decide +kernel
theorem dX2_worth_70 : decode cX2_worth 70 = .ok (.if_icmp .lt 32, 3) := by decide +kernel
theorem dX2_worth_73 : decode cX2_worth 73 = .ok (.aload_n 0, 1) := by decide +kernel
theorem dX2_worth_74 : decode cX2_worth 74 = .ok (.getfield 18, 3) := by decide +kernel
theorem dX2_worth_77 : decode cX2_worth 77 = .ok (.iload 5, 2) := by decide +kernel
theorem dX2_worth_79 : decode cX2_worth 79 = .ok (.iconst 1, 1) := by decide +kernel
theorem dX2_worth_80 : decode cX2_worth 80 = .ok (.isub, 1) := by decide +kernel
theorem dX2_worth_81 : decode cX2_worth 81 = .ok (.aload_n 0, 1) := by decide +kernel
theorem dX2_worth_82 : decode cX2_worth 82 = .ok (.getfield 18, 3) := by decide +kernel
theorem dX2_worth_85 : decode cX2_worth 85 = .ok (.iload 5, 2) := by decide +kernel
theorem dX2_worth_87 : decode cX2_worth 87 = .ok (.iconst 1, 1) := by decide +kernel
theorem dX2_worth_88 : decode cX2_worth 88 = .ok (.isub, 1) := by decide +kernel
theorem dX2_worth_89 : decode cX2_worth 89 = .ok (.iaload, 1) := by decide +kernel
theorem dX2_worth_90 : decode cX2_worth 90 = .ok (.ifCond .ne 7, 3) := by decide +kernel
theorem dX2_worth_93 : decode cX2_worth 93 = .ok (.iconst 1, 1) := by decide +kernel
theorem dX2_worth_94 : decode cX2_worth 94 = .ok (.goto 4, 3) := by decide +kernel
theorem dX2_worth_97 : decode cX2_worth 97 = .ok (.iconst 0, 1) := by decide +kernel
theorem dX2_worth_98 : decode cX2_worth 98 = .ok (.iastore, 1) := by decide +kernel
theorem dX2_worth_99 : decode cX2_worth 99 = .ok (.goto 42, 3) := by decide +kernel
theorem dX2_worth_102 : decode cX2_worth 102 = .ok (.iload 5, 2) := by decide +kernel
theorem dX2_worth_104 : decode cX2_worth 104 = .ok (.iconst 2, 1) := by decide +kernel
theorem dX2_worth_105 : decode cX2_worth 105 = .ok (.if_icmp .lt 36, 3) := by decide +kernel
theorem dX2_worth_108 : decode cX2_worth 108 = .ok (.iinc 5 (-1), 3) := by decide +kernel
theorem dX2_worth_111 : decode cX2_worth 111 = .ok (.aload_n 0, 1) := by decide +kernel
theorem dX2_worth_112 : decode cX2_worth 112 = .ok (.getfield 18, 3) := by decide +kernel
theorem dX2_worth_115 : decode cX2_worth 115 = .ok (.iload 5, 2) := by decide +kernel
theorem dX2_worth_117 : decode cX2_worth 117 = .ok (.iconst 1, 1) := by decide +kernel
theorem dX2_worth_118 : decode cX2_worth 118 = .ok (.isub, 1) := by decide +kernel
theorem dX2_worth_119 : decode cX2_worth 119 = .ok (.iload 7, 2) := by decide +kernel
theorem dX2_worth_121 : decode cX2_worth 121 = .ok (.aload_n 0, 1) := by decide +kernel
theorem dX2_worth_122 : decode cX2_worth 122 = .ok (.getfield 18, 3) := by decide +kernel
theorem dX2_worth_125 : decode cX2_worth 125 = .ok (.iload 5, 2) := by decide +kernel
theorem dX2_worth_127 : decode cX2_worth 127 = .ok (.iconst 1, 1) := by decide +kernel
theorem dX2_worth_128 : decode cX2_worth 128 = .ok (.isub, 1) := by decide +kernel
theorem dX2_worth_129 : decode cX2_worth 129 = .ok (.iaload, 1) := by decide +kernel
theorem dX2_worth_130 : decode cX2_worth 130 = .ok (.aload_n 0, 1) := by decide +kernel
theorem dX2_worth_131 : decode cX2_worth 131 = .ok (.getfield 18, 3) := by decide +kernel
theorem dX2_worth_134 : decode cX2_worth 134 = .ok (.iload 5, 2) := by decide +kernel
theorem dX2_worth_136 : decode cX2_worth 136 = .ok (.iaload, 1) := by decide +kernel
theorem dX2_worth_137 : decode cX2_worth 137 = .ok (.invokestatic 35, 3) := by decide +kernel
theorem dX2_worth_140 : decode cX2_worth 140 = .ok (.iastore, 1) := by decide +kernel
theorem dX2_worth_141 : decode cX2_worth 141 = .ok (.iinc 6 1, 3) := by decide +kernel
theorem dX2_worth_144 : decode cX2_worth 144 = .ok (.goto (-138), 3) := by decide +kernel
theorem dX2_worth_147 : decode cX2_worth 147 = .ok (.iload 5, 2) := by decide +kernel
theorem dX2_worth_149 : decode cX2_worth 149 = .ok (.ifCond .le 12, 3) := by decide +kernel
theorem dX2_worth_152 : decode cX2_worth 152 = .ok (.aload_n 0, 1) := by decide +kernel
theorem dX2_worth_153 : decode cX2_worth 153 = .ok (.getfield 18, 3) := by decide +kernel
theorem dX2_worth_156 : decode cX2_worth 156 = .ok (.iconst 0, 1) := by decide +kernel
theorem dX2_worth_157 : decode cX2_worth 157 = .ok (.iaload, 1) := by decide +kernel
theorem dX2_worth_158 : decode cX2_worth 158 = .ok (.goto 4, 3) := by decide +kernel
theorem dX2_worth_161 : decode cX2_worth 161 = .ok (.iconst 0, 1) := by decide +kernel
theorem dX2_worth_162 : decode cX2_worth 162 = .ok (.ireturn, 1) := by decide +kernel
theorem fl_RX2_18 : FL RX2 18 2 2 := ⟨inG (i := 178) (by decide +kernel) (by decide +kernel), by decide, by decide⟩
theorem go_2_2 (σ : St) (i : Nat) : go σ 2 i 2 = (302, i) := rfl
theorem lk_RX2_31 : Cond.methodLink RX2 31 yX2_fact ∈ tG := inG (i := 1016) (by decide +kernel) (by decide +kernel)
theorem lk_RX2_35 : Cond.methodLink RX2 35 yX2_joined ∈ tG := inG (i := 1020) (by decide +kernel) (by decide +kernel)
theorem m_X2_fact : MV Y_X2_fact 5 2 := ⟨⟨inG (i := 1019) (by decide +kernel) (by decide +kernel), inG (i := 101) (by decide +kernel) (by decide +kernel), by decide, by decide, by decide, by decide +kernel⟩, inG (i := 1018) (by decide +kernel) (by decide +kernel), inG (i := 21) (by decide +kernel) (by decide +kernel), by decide⟩
theorem m_X2_joined : MS Y_X2_joined 3 := ⟨⟨inG (i := 1022) (by decide +kernel) (by decide +kernel), inG (i := 101) (by decide +kernel) (by decide +kernel), by decide, by decide, by decide, by decide +kernel⟩, inG (i := 1021) (by decide +kernel) (by decide +kernel)⟩
theorem sh_302 : shp 302 = (0, 64) := rfl
def P_X2_worth_J102  (o0 : Nat) (x1 : Int) (x2 : Int) (x3 : Int) (x4 : Int) (x5 : Int) (x6 : Int) (x7 : Int) (R : Int → Int → St → Prop) (K : Int → St → Prop) (Q : Int → St → Prop) (σ : St) : Prop :=
  (if x5 < 2 then R x5 (wi (x6 + 1)) σ else 0 ≤ wi ((wi (x5 + (-1))) - 1) ∧ wi ((wi (x5 + (-1))) - 1) < 64 ∧ 0 ≤ wi (x5 + (-1)) ∧ wi (x5 + (-1)) < 64 ∧ P_X2_joined x7 (σ 302 o0 (wi ((wi (x5 + (-1))) - 1))) (σ 302 o0 (wi (x5 + (-1)))) σ (fun r_2 σ_1 => 0 ≤ wi ((wi (x5 + (-1))) - 1) ∧ wi ((wi (x5 + (-1))) - 1) < 64 ∧ R (wi (x5 + (-1))) (wi (x6 + 1)) (up σ_1 302 o0 (wi ((wi (x5 + (-1))) - 1)) r_2)))
set_option maxRecDepth 20000 in
set_option maxHeartbeats 2000000 in
theorem e_P_X2_worth_J102  {o0 : Nat} {x1 : Int} {x2 : Int} {x3 : Int} {x4 : Int} {x5 : Int} {x6 : Int} {x7 : Int} {R : Int → Int → St → Prop} {K : Int → St → Prop} {Q : Int → St → Prop} {σ : St}  (hR : ∀ x5 x6 σ, R x5 x6 σ → E Y_X2_worth 1 0 0 (QI Q) ww 0 0 6 [some (vR 2 o0), some (vI x1), some (vI x2), some (vI x3), some (vI x4), some (vI x5), some (vI x6), none] [] σ) (hK : ∀ x5 σ, K x5 σ → E Y_X2_worth 1 0 0 (QI Q) ww 0 0 147 [some (vR 2 o0), none, none, none, none, some (vI x5), none, none] [] σ) (h : P_X2_worth_J102 o0 x1 x2 x3 x4 x5 x6 x7 R K Q σ) : E Y_X2_worth 1 0 0 (QI Q) ww 0 0 102 [some (vR 2 o0), some (vI x1), some (vI x2), some (vI x3), some (vI x4), some (vI x5), some (vI x6), some (vI x7)] [] σ := by
  unfold P_X2_worth_J102 at h
  refine E_iload dX2_worth_102 rfl ?_
  refine E_ic dX2_worth_104 rfl ?_
  refine E_icmp_lt (tgt := 141) dX2_worth_105 (by decide) (fun hc => ?_) (fun hc => ?_)
  · have h := Eq.mp (if_pos hc) h
    refine E_iinc (ls' := [some (vR 2 o0), some (vI x1), some (vI x2), some (vI x3), some (vI x4), some (vI x5), some (vI (wi (x6 + 1))), some (vI x7)]) dX2_worth_141 rfl (by decide) rfl rfl ?_
    refine E_goto (tgt := 6) dX2_worth_144 (by decide) ?_
    refine E_wk2 [some (vR 2 o0), some (vI x1), some (vI x2), some (vI x3), some (vI x4), some (vI x5), some (vI (wi (x6 + 1))), none] ⟨rfl, ⟨rfl, ⟨rfl, ⟨rfl, ⟨rfl, ⟨rfl, ⟨rfl, trivial⟩⟩⟩⟩⟩⟩⟩ ?_
    exact hR _ _ _ h
  · have h := Eq.mp (if_neg hc) h
    refine E_iinc (ls' := [some (vR 2 o0), some (vI x1), some (vI x2), some (vI x3), some (vI x4), some (vI (wi (x5 + (-1)))), some (vI x6), some (vI x7)]) dX2_worth_108 rfl (by decide) rfl rfl ?_
    refine E_aload_n dX2_worth_111 rfl rfl ?_
    refine E_getr (i := o0) dX2_worth_112 fl_RX2_18 rfl rfl (go_2_2 _ _) ?_
    refine E_iload dX2_worth_115 rfl ?_
    refine E_ic dX2_worth_117 rfl ?_
    refine E_isub dX2_worth_118 ?_
    refine E_iload dX2_worth_119 rfl ?_
    refine E_aload_n dX2_worth_121 rfl rfl ?_
    refine E_getr (i := o0) dX2_worth_122 fl_RX2_18 rfl rfl (go_2_2 _ _) ?_
    refine E_iload dX2_worth_125 rfl ?_
    refine E_ic dX2_worth_127 rfl ?_
    refine E_isub dX2_worth_128 ?_
    obtain ⟨hg0, hg1, h⟩ := h
    refine E_iald dX2_worth_129 sh_302 hg0 hg1 ?_
    refine E_aload_n dX2_worth_130 rfl rfl ?_
    refine E_getr (i := o0) dX2_worth_131 fl_RX2_18 rfl rfl (go_2_2 _ _) ?_
    refine E_iload dX2_worth_134 rfl ?_
    obtain ⟨hg0, hg1, h⟩ := h
    refine E_iald dX2_worth_136 sh_302 hg0 hg1 ?_
    refine E_callS (Y' := Y_X2_joined) (as := [vI x7, vI (σ 302 o0 (wi ((wi (x5 + (-1))) - 1))), vI (σ 302 o0 (wi (x5 + (-1))))]) (st := [vI (wi ((wi (x5 + (-1))) - 1)), vR 302 o0]) dX2_worth_137 lk_RX2_35 m_X2_joined (by decide) (Nat.le_refl _) (Nat.le_refl _) rfl rfl (Nat.le_of_ble_eq_true rfl) (s_X2_joined h) (fun r0 B0 σ_1 h => ?_)
    obtain ⟨r_2, rfl, rfl, h⟩ := h
    obtain ⟨hg0, hg1, h⟩ := h
    refine E_iast dX2_worth_140 sh_302 hg0 hg1 ?_
    refine E_iinc (ls' := [some (vR 2 o0), some (vI x1), some (vI x2), some (vI x3), some (vI x4), some (vI (wi (x5 + (-1)))), some (vI (wi (x6 + 1))), some (vI x7)]) dX2_worth_141 rfl (by decide) rfl rfl ?_
    refine E_goto (tgt := 6) dX2_worth_144 (by decide) ?_
    refine E_wk2 [some (vR 2 o0), some (vI x1), some (vI x2), some (vI x3), some (vI x4), some (vI (wi (x5 + (-1)))), some (vI (wi (x6 + 1))), none] ⟨rfl, ⟨rfl, ⟨rfl, ⟨rfl, ⟨rfl, ⟨rfl, ⟨rfl, trivial⟩⟩⟩⟩⟩⟩⟩ ?_
    exact hR _ _ _ h
def P_X2_worth_J98  (o0 : Nat) (x1 : Int) (x2 : Int) (x3 : Int) (x4 : Int) (x5 : Int) (x6 : Int) (y0 : Int) (y1 : Int) (q2 : Nat) (R : Int → Int → St → Prop) (K : Int → St → Prop) (Q : Int → St → Prop) (σ : St) : Prop :=
  0 ≤ y1 ∧ y1 < 64 ∧ R x5 (wi (x6 + 1)) (up σ 302 q2 y1 y0)
set_option maxRecDepth 20000 in
set_option maxHeartbeats 2000000 in
theorem e_P_X2_worth_J98  {o0 : Nat} {x1 : Int} {x2 : Int} {x3 : Int} {x4 : Int} {x5 : Int} {x6 : Int} {y0 : Int} {y1 : Int} {q2 : Nat} {R : Int → Int → St → Prop} {K : Int → St → Prop} {Q : Int → St → Prop} {σ : St}  (hR : ∀ x5 x6 σ, R x5 x6 σ → E Y_X2_worth 1 0 0 (QI Q) ww 0 0 6 [some (vR 2 o0), some (vI x1), some (vI x2), some (vI x3), some (vI x4), some (vI x5), some (vI x6), none] [] σ) (hK : ∀ x5 σ, K x5 σ → E Y_X2_worth 1 0 0 (QI Q) ww 0 0 147 [some (vR 2 o0), none, none, none, none, some (vI x5), none, none] [] σ) (h : P_X2_worth_J98 o0 x1 x2 x3 x4 x5 x6 y0 y1 q2 R K Q σ) : E Y_X2_worth 1 0 0 (QI Q) ww 0 0 98 [some (vR 2 o0), some (vI x1), some (vI x2), some (vI x3), some (vI x4), some (vI x5), some (vI x6), none] [vI y0, vI y1, vR 302 q2] σ := by
  unfold P_X2_worth_J98 at h
  obtain ⟨hg0, hg1, h⟩ := h
  refine E_iast dX2_worth_98 sh_302 hg0 hg1 ?_
  refine E_goto (tgt := 141) dX2_worth_99 (by decide) ?_
  refine E_iinc (ls' := [some (vR 2 o0), some (vI x1), some (vI x2), some (vI x3), some (vI x4), some (vI x5), some (vI (wi (x6 + 1))), none]) dX2_worth_141 rfl (by decide) rfl rfl ?_
  refine E_goto (tgt := 6) dX2_worth_144 (by decide) ?_
  exact hR _ _ _ h
def P_X2_worth_J61  (o0 : Nat) (x1 : Int) (x2 : Int) (x3 : Int) (x4 : Int) (x5 : Int) (x6 : Int) (x7 : Int) (R : Int → Int → St → Prop) (K : Int → St → Prop) (Q : Int → St → Prop) (σ : St) : Prop :=
  (if x7 = 5 then (if x5 < 1 then P_X2_worth_J102 o0 x1 x2 x3 x4 x5 x6 x7 R K Q σ else 0 ≤ wi (x5 - 1) ∧ wi (x5 - 1) < 64 ∧ (if (σ 302 o0 (wi (x5 - 1))) = 0 then P_X2_worth_J98 o0 x1 x2 x3 x4 x5 x6 1 (wi (x5 - 1)) o0 R K Q σ else P_X2_worth_J98 o0 x1 x2 x3 x4 x5 x6 0 (wi (x5 - 1)) o0 R K Q σ)) else P_X2_worth_J102 o0 x1 x2 x3 x4 x5 x6 x7 R K Q σ)
set_option maxRecDepth 20000 in
set_option maxHeartbeats 2000000 in
theorem e_P_X2_worth_J61  {o0 : Nat} {x1 : Int} {x2 : Int} {x3 : Int} {x4 : Int} {x5 : Int} {x6 : Int} {x7 : Int} {R : Int → Int → St → Prop} {K : Int → St → Prop} {Q : Int → St → Prop} {σ : St}  (hR : ∀ x5 x6 σ, R x5 x6 σ → E Y_X2_worth 1 0 0 (QI Q) ww 0 0 6 [some (vR 2 o0), some (vI x1), some (vI x2), some (vI x3), some (vI x4), some (vI x5), some (vI x6), none] [] σ) (hK : ∀ x5 σ, K x5 σ → E Y_X2_worth 1 0 0 (QI Q) ww 0 0 147 [some (vR 2 o0), none, none, none, none, some (vI x5), none, none] [] σ) (h : P_X2_worth_J61 o0 x1 x2 x3 x4 x5 x6 x7 R K Q σ) : E Y_X2_worth 1 0 0 (QI Q) ww 0 0 61 [some (vR 2 o0), some (vI x1), some (vI x2), some (vI x3), some (vI x4), some (vI x5), some (vI x6), some (vI x7)] [] σ := by
  unfold P_X2_worth_J61 at h
  refine E_iload dX2_worth_61 rfl ?_
  refine E_ic dX2_worth_63 rfl ?_
  refine E_icmp_ne (tgt := 102) dX2_worth_64 (by decide) (fun hc => ?_) (fun hc => ?_)
  · have h := Eq.mp (if_neg hc) h
    exact e_P_X2_worth_J102 hR hK h
  · have h := Eq.mp (if_pos hc) h
    refine E_iload dX2_worth_67 rfl ?_
    refine E_ic dX2_worth_69 rfl ?_
    refine E_icmp_lt (tgt := 102) dX2_worth_70 (by decide) (fun hc => ?_) (fun hc => ?_)
    · have h := Eq.mp (if_pos hc) h
      exact e_P_X2_worth_J102 hR hK h
    · have h := Eq.mp (if_neg hc) h
      refine E_aload_n dX2_worth_73 rfl rfl ?_
      refine E_getr (i := o0) dX2_worth_74 fl_RX2_18 rfl rfl (go_2_2 _ _) ?_
      refine E_iload dX2_worth_77 rfl ?_
      refine E_ic dX2_worth_79 rfl ?_
      refine E_isub dX2_worth_80 ?_
      refine E_aload_n dX2_worth_81 rfl rfl ?_
      refine E_getr (i := o0) dX2_worth_82 fl_RX2_18 rfl rfl (go_2_2 _ _) ?_
      refine E_iload dX2_worth_85 rfl ?_
      refine E_ic dX2_worth_87 rfl ?_
      refine E_isub dX2_worth_88 ?_
      obtain ⟨hg0, hg1, h⟩ := h
      refine E_iald dX2_worth_89 sh_302 hg0 hg1 ?_
      refine E_if_ne (tgt := 97) dX2_worth_90 (by decide) (fun hc => ?_) (fun hc => ?_)
      · have h := Eq.mp (if_neg hc) h
        refine E_ic dX2_worth_97 rfl ?_
        refine E_wk2 [some (vR 2 o0), some (vI x1), some (vI x2), some (vI x3), some (vI x4), some (vI x5), some (vI x6), none] ⟨rfl, ⟨rfl, ⟨rfl, ⟨rfl, ⟨rfl, ⟨rfl, ⟨rfl, trivial⟩⟩⟩⟩⟩⟩⟩ ?_
        exact e_P_X2_worth_J98 hR hK h
      · have h := Eq.mp (if_pos hc) h
        refine E_ic dX2_worth_93 rfl ?_
        refine E_goto (tgt := 98) dX2_worth_94 (by decide) ?_
        refine E_wk2 [some (vR 2 o0), some (vI x1), some (vI x2), some (vI x3), some (vI x4), some (vI x5), some (vI x6), none] ⟨rfl, ⟨rfl, ⟨rfl, ⟨rfl, ⟨rfl, ⟨rfl, ⟨rfl, trivial⟩⟩⟩⟩⟩⟩⟩ ?_
        exact e_P_X2_worth_J98 hR hK h
def P_X2_worth_L6  (o0 : Nat) (x1 : Int) (x2 : Int) (x3 : Int) (x4 : Int) (K : Int → St → Prop) (Q : Int → St → Prop) : Nat → Int → Int → St → Prop
  | 0, _, _, _ => False
  | n + 1, x5, x6, σ => (if (σ 2 o0 3) ≤ x6 then K x5 σ else 0 ≤ x6 ∧ x6 < 1000 ∧ (if 5 ≤ (σ 300 o0 x6) then P_X2_worth_J61 o0 x1 x2 x3 x4 x5 x6 (σ 300 o0 x6) (P_X2_worth_L6 o0 x1 x2 x3 x4 K Q n) K Q σ else (if 64 ≤ x5 then P_X2_worth_J61 o0 x1 x2 x3 x4 x5 x6 (σ 300 o0 x6) (P_X2_worth_L6 o0 x1 x2 x3 x4 K Q n) K Q σ else P_X2_fact o0 x6 x1 x2 x3 x4 σ (fun r_4 σ_3 => 0 ≤ x5 ∧ x5 < 64 ∧ (P_X2_worth_L6 o0 x1 x2 x3 x4 K Q n) (wi (x5 + 1)) (wi (x6 + 1)) (up σ_3 302 o0 x5 r_4)))))
set_option maxRecDepth 20000 in
set_option maxHeartbeats 2000000 in
theorem e_P_X2_worth_L6  {o0 : Nat} {x1 : Int} {x2 : Int} {x3 : Int} {x4 : Int} {K : Int → St → Prop} {Q : Int → St → Prop}  (hK : ∀ x5 σ, K x5 σ → E Y_X2_worth 1 0 0 (QI Q) ww 0 0 147 [some (vR 2 o0), none, none, none, none, some (vI x5), none, none] [] σ) : ∀ (n : Nat) (x5 : Int) (x6 : Int) (σ : St), P_X2_worth_L6 o0 x1 x2 x3 x4 K Q n x5 x6 σ → E Y_X2_worth 1 0 0 (QI Q) ww 0 0 6 [some (vR 2 o0), some (vI x1), some (vI x2), some (vI x3), some (vI x4), some (vI x5), some (vI x6), none] [] σ := by
  intro n
  induction n with
  | zero => intro x5 x6 σ h; exact h.elim
  | succ n hR =>
    intro x5 x6 σ h
    unfold P_X2_worth_L6 at h
    refine E_iload dX2_worth_6 rfl ?_
    refine E_aload_n dX2_worth_8 rfl rfl ?_
    refine E_geti (i := o0) dX2_worth_9 fl_RX2_21 rfl ?_
    refine E_icmp_ge (tgt := 147) dX2_worth_12 (by decide) (fun hc => ?_) (fun hc => ?_)
    · have h := Eq.mp (if_pos hc) h
      refine E_wk2 [some (vR 2 o0), none, none, none, none, some (vI x5), none, none] ⟨rfl, ⟨rfl, trivial⟩⟩ ?_
      exact hK _ _ h
    · have h := Eq.mp (if_neg hc) h
      refine E_aload_n dX2_worth_15 rfl rfl ?_
      refine E_getr (i := o0) dX2_worth_16 fl_RX2_9 rfl rfl (go_2_0 _ _) ?_
      refine E_iload dX2_worth_19 rfl ?_
      obtain ⟨hg0, hg1, h⟩ := h
      refine E_iald dX2_worth_21 sh_300 hg0 hg1 ?_
      refine E_istore (ls' := [some (vR 2 o0), some (vI x1), some (vI x2), some (vI x3), some (vI x4), some (vI x5), some (vI x6), some (vI (σ 300 o0 x6))]) dX2_worth_22 (by decide) rfl ?_
      refine E_iload dX2_worth_24 rfl ?_
      refine E_ic dX2_worth_26 rfl ?_
      refine E_icmp_ge (tgt := 61) dX2_worth_27 (by decide) (fun hc => ?_) (fun hc => ?_)
      · have h := Eq.mp (if_pos hc) h
        exact e_P_X2_worth_J61 hR hK h
      · have h := Eq.mp (if_neg hc) h
        refine E_iload dX2_worth_30 rfl ?_
        refine E_bp dX2_worth_32 rfl ?_
        refine E_icmp_ge (tgt := 61) dX2_worth_34 (by decide) (fun hc => ?_) (fun hc => ?_)
        · have h := Eq.mp (if_pos hc) h
          exact e_P_X2_worth_J61 hR hK h
        · have h := Eq.mp (if_neg hc) h
          refine E_aload_n dX2_worth_37 rfl rfl ?_
          refine E_getr (i := o0) dX2_worth_38 fl_RX2_18 rfl rfl (go_2_2 _ _) ?_
          refine E_iload dX2_worth_41 rfl ?_
          refine E_aload_n dX2_worth_43 rfl rfl ?_
          refine E_iload dX2_worth_44 rfl ?_
          refine E_iload_n dX2_worth_46 rfl rfl ?_
          refine E_iload_n dX2_worth_47 rfl rfl ?_
          refine E_iload_n dX2_worth_48 rfl rfl ?_
          refine E_iload dX2_worth_49 rfl ?_
          refine E_callV (Y' := Y_X2_fact) (as := [vI x6, vI x1, vI x2, vI x3, vI x4]) (st := [vI x5, vR 302 o0]) dX2_worth_51 lk_RX2_31 m_X2_fact (by decide) (Nat.le_refl _) (Nat.le_refl _) rfl rfl (Nat.le_of_ble_eq_true rfl) (s_X2_fact h) (fun r0 B0 σ_3 h => ?_)
          obtain ⟨r_4, rfl, rfl, h⟩ := h
          obtain ⟨hg0, hg1, h⟩ := h
          refine E_iast dX2_worth_54 sh_302 hg0 hg1 ?_
          refine E_iinc (ls' := [some (vR 2 o0), some (vI x1), some (vI x2), some (vI x3), some (vI x4), some (vI (wi (x5 + 1))), some (vI x6), some (vI (σ 300 o0 x6))]) dX2_worth_55 rfl (by decide) rfl rfl ?_
          refine E_goto (tgt := 141) dX2_worth_58 (by decide) ?_
          refine E_iinc (ls' := [some (vR 2 o0), some (vI x1), some (vI x2), some (vI x3), some (vI x4), some (vI (wi (x5 + 1))), some (vI (wi (x6 + 1))), some (vI (σ 300 o0 x6))]) dX2_worth_141 rfl (by decide) rfl rfl ?_
          refine E_goto (tgt := 6) dX2_worth_144 (by decide) ?_
          refine E_wk2 [some (vR 2 o0), some (vI x1), some (vI x2), some (vI x3), some (vI x4), some (vI (wi (x5 + 1))), some (vI (wi (x6 + 1))), none] ⟨rfl, ⟨rfl, ⟨rfl, ⟨rfl, ⟨rfl, ⟨rfl, ⟨rfl, trivial⟩⟩⟩⟩⟩⟩⟩ ?_
          exact hR _ _ _ h
def P_X2_worth  (o0 : Nat) (x1 : Int) (x2 : Int) (x3 : Int) (x4 : Int) (σ : St) (Q : Int → St → Prop) : Prop :=
  P_X2_worth_L6 o0 x1 x2 x3 x4 (fun x5_5 σ_6 => (if x5_5 ≤ 0 then Q 0 σ_6 else Q (σ_6 302 o0 0) σ_6)) Q FU 0 0 σ
set_option maxRecDepth 20000 in
set_option maxHeartbeats 2000000 in
theorem s_X2_worth   {o0 : Nat} {x1 : Int} {x2 : Int} {x3 : Int} {x4 : Int} {σ : St} {Q : Int → St → Prop} (h : P_X2_worth o0 x1 x2 x3 x4 σ Q) : Cn Y_X2_worth 1 0 0 ww σ [vR 2 o0, vI x1, vI x2, vI x3, vI x4] (QI Q) := by
  refine Cn_of [some (vR 2 o0), some (vI x1), some (vI x2), some (vI x3), some (vI x4), none, none, none] (by decide) (Nat.le_of_ble_eq_true rfl) rfl ?_
  unfold P_X2_worth at h
  refine E_ic dX2_worth_0 rfl ?_
  refine E_istore (ls' := [some (vR 2 o0), some (vI x1), some (vI x2), some (vI x3), some (vI x4), some (vI 0), none, none]) dX2_worth_1 (by decide) rfl ?_
  refine E_ic dX2_worth_3 rfl ?_
  refine E_istore (ls' := [some (vR 2 o0), some (vI x1), some (vI x2), some (vI x3), some (vI x4), some (vI 0), some (vI 0), none]) dX2_worth_4 (by decide) rfl ?_
  refine e_P_X2_worth_L6 ?_ _ _ _ _ h
  · intro x5_5 σ_6 h
    refine E_iload dX2_worth_147 rfl ?_
    refine E_if_le (tgt := 161) dX2_worth_149 (by decide) (fun hc => ?_) (fun hc => ?_)
    · have h := Eq.mp (if_pos hc) h
      refine E_ic dX2_worth_161 rfl ?_
      exact E_iret dX2_worth_162 rfl ⟨_, rfl, rfl, h⟩
    · have h := Eq.mp (if_neg hc) h
      refine E_aload_n dX2_worth_152 rfl rfl ?_
      refine E_getr (i := o0) dX2_worth_153 fl_RX2_18 rfl rfl (go_2_2 _ _) ?_
      refine E_ic dX2_worth_156 rfl ?_
      refine E_iald dX2_worth_157 sh_302 (by decide) (by decide) ?_
      refine E_goto (tgt := 162) dX2_worth_158 (by decide) ?_
      exact E_iret dX2_worth_162 rfl ⟨_, rfl, rfl, h⟩
abbrev Y_X4_lay : My := (yX4_lay, cX4_lay, 4, none)
theorem dX4_lay_0 : decode cX4_lay 0 = .ok (.aload_n 0, 1) := by decide +kernel
theorem dX4_lay_1 : decode cX4_lay 1 = .ok (.getfield 32, 3) := by decide +kernel
theorem dX4_lay_4 : decode cX4_lay 4 = .ok (.aload_n 1, 1) := by decide +kernel
theorem dX4_lay_5 : decode cX4_lay 5 = .ok (.invokevirtual 36, 3) := by decide +kernel
theorem dX4_lay_8 : decode cX4_lay 8 = .ok (.aload_n 0, 1) := by decide +kernel
theorem dX4_lay_9 : decode cX4_lay 9 = .ok (.getfield 10, 3) := by decide +kernel
theorem dX4_lay_12 : decode cX4_lay 12 = .ok (.aload_n 2, 1) := by decide +kernel
theorem dX4_lay_13 : decode cX4_lay 13 = .ok (.invokevirtual 40, 3) := by decide +kernel
theorem dX4_lay_16 : decode cX4_lay 16 = .ok (.aload_n 0, 1) := by decide +kernel
theorem dX4_lay_17 : decode cX4_lay 17 = .ok (.getfield 19, 3) := by decide +kernel
theorem dX4_lay_20 : decode cX4_lay 20 = .ok (.aload_n 3, 1) := by decide +kernel
theorem dX4_lay_21 : decode cX4_lay 21 = .ok (.invokevirtual 43, 3) := by decide +kernel
theorem dX4_lay_24 : decode cX4_lay 24 = .ok (.aload_n 0, 1) := by decide +kernel
theorem dX4_lay_25 : decode cX4_lay 25 = .ok (.iconst 1, 1) := by decide +kernel
theorem dX4_lay_26 : decode cX4_lay 26 = .ok (.putfield 23, 3) := by decide +kernel
theorem dX4_lay_29 : decode cX4_lay 29 = .ok (.return_, 1) := by decide +kernel
theorem fl_RX4_10 : FL RX4 10 4 1 := ⟨inG (i := 461) (by decide +kernel) (by decide +kernel), by decide, by decide⟩
theorem fl_RX4_19 : FL RX4 19 4 2 := ⟨inG (i := 462) (by decide +kernel) (by decide +kernel), by decide, by decide⟩
theorem fl_RX4_23 : FL RX4 23 4 3 := ⟨inG (i := 463) (by decide +kernel) (by decide +kernel), by decide, by decide⟩
theorem fl_RX4_32 : FL RX4 32 4 0 := ⟨inG (i := 460) (by decide +kernel) (by decide +kernel), by decide, by decide⟩
theorem go_4_0 (σ : St) (i : Nat) : go σ 4 i 0 = (9, i + 18) := rfl
theorem go_4_1 (σ : St) (i : Nat) : go σ 4 i 1 = (3, i + 2) := rfl
theorem go_4_2 (σ : St) (i : Nat) : go σ 4 i 2 = (7, i + 1) := rfl
theorem lk_RX4_36 : Cond.methodLink RX4 36 yX9_take ∈ tG := inG (i := 1299) (by decide +kernel) (by decide +kernel)
theorem lk_RX4_40 : Cond.methodLink RX4 40 yX3_take ∈ tG := inG (i := 1300) (by decide +kernel) (by decide +kernel)
theorem lk_RX4_43 : Cond.methodLink RX4 43 yX7_take ∈ tG := inG (i := 1301) (by decide +kernel) (by decide +kernel)
theorem m_X3_take : MV Y_X3_take 1 3 := ⟨⟨inG (i := 881) (by decide +kernel) (by decide +kernel), inG (i := 102) (by decide +kernel) (by decide +kernel), by decide, by decide, by decide, by decide +kernel⟩, inG (i := 879) (by decide +kernel) (by decide +kernel), inG (i := 880) (by decide +kernel) (by decide +kernel), by decide⟩
theorem m_X7_take : MV Y_X7_take 1 7 := ⟨⟨inG (i := 1304) (by decide +kernel) (by decide +kernel), inG (i := 106) (by decide +kernel) (by decide +kernel), by decide, by decide, by decide, by decide +kernel⟩, inG (i := 1302) (by decide +kernel) (by decide +kernel), inG (i := 1303) (by decide +kernel) (by decide +kernel), by decide⟩
theorem m_X9_take : MV Y_X9_take 1 9 := ⟨⟨inG (i := 919) (by decide +kernel) (by decide +kernel), inG (i := 104) (by decide +kernel) (by decide +kernel), by decide, by decide, by decide, by decide +kernel⟩, inG (i := 917) (by decide +kernel) (by decide +kernel), inG (i := 918) (by decide +kernel) (by decide +kernel), by decide⟩
def P_X4_lay  (o0 : Nat) (o1 : Nat) (o2 : Nat) (o3 : Nat) (σ : St) (Q : St → Prop) : Prop :=
  P_X9_take (o0 + 18) o1 σ (fun σ_1 => P_X3_take (o0 + 2) o2 σ_1 (fun σ_2 => P_X7_take (o0 + 1) o3 σ_2 (fun σ_3 => Q (up σ_3 4 o0 3 1))))
set_option maxRecDepth 20000 in
set_option maxHeartbeats 2000000 in
theorem s_X4_lay   {o0 : Nat} {o1 : Nat} {o2 : Nat} {o3 : Nat} {σ : St} {Q : St → Prop} (h : P_X4_lay o0 o1 o2 o3 σ Q) : Cn Y_X4_lay 2 0 0 ww σ [vR 4 o0, vR 9 o1, vR 3 o2, vR 7 o3] (QV Q) := by
  refine Cn_of [some (vR 4 o0), some (vR 9 o1), some (vR 3 o2), some (vR 7 o3)] (by decide) (Nat.le_of_ble_eq_true rfl) rfl ?_
  unfold P_X4_lay at h
  refine E_aload_n dX4_lay_0 rfl rfl ?_
  refine E_getr (i := o0) dX4_lay_1 fl_RX4_32 rfl rfl (go_4_0 _ _) ?_
  refine E_aload_n dX4_lay_4 rfl rfl ?_
  refine E_callV (Y' := Y_X9_take) (as := [vR 9 o1]) (st := []) dX4_lay_5 lk_RX4_36 m_X9_take (by decide) (Nat.le_refl _) (Nat.le_refl _) rfl rfl (Nat.le_of_ble_eq_true rfl) (s_X9_take h) (fun r0 B0 σ_1 h => ?_)
  obtain ⟨rfl, rfl, h⟩ := h
  refine E_aload_n dX4_lay_8 rfl rfl ?_
  refine E_getr (i := o0) dX4_lay_9 fl_RX4_10 rfl rfl (go_4_1 _ _) ?_
  refine E_aload_n dX4_lay_12 rfl rfl ?_
  refine E_callV (Y' := Y_X3_take) (as := [vR 3 o2]) (st := []) dX4_lay_13 lk_RX4_40 m_X3_take (by decide) (Nat.le_refl _) (Nat.le_refl _) rfl rfl (Nat.le_of_ble_eq_true rfl) (s_X3_take h) (fun r0 B0 σ_2 h => ?_)
  obtain ⟨rfl, rfl, h⟩ := h
  refine E_aload_n dX4_lay_16 rfl rfl ?_
  refine E_getr (i := o0) dX4_lay_17 fl_RX4_19 rfl rfl (go_4_2 _ _) ?_
  refine E_aload_n dX4_lay_20 rfl rfl ?_
  refine E_callV (Y' := Y_X7_take) (as := [vR 7 o3]) (st := []) dX4_lay_21 lk_RX4_43 m_X7_take (by decide) (Nat.le_refl _) (Nat.le_refl _) rfl rfl (Nat.le_of_ble_eq_true rfl) (s_X7_take h) (fun r0 B0 σ_3 h => ?_)
  obtain ⟨rfl, rfl, h⟩ := h
  refine E_aload_n dX4_lay_24 rfl rfl ?_
  refine E_ic dX4_lay_25 rfl ?_
  refine E_putz dX4_lay_26 fl_RX4_23 rfl rfl rfl (by decide) ?_
  exact E_vret dX4_lay_29 rfl ⟨rfl, rfl, h⟩
abbrev Y_X4_goBack : My := (yX4_goBack, cX4_goBack, 4, none)
theorem dX4_goBack_0 : decode cX4_goBack 0 = .ok (.aload_n 1, 1) := by decide +kernel
theorem dX4_goBack_1 : decode cX4_goBack 1 = .ok (.aload_n 0, 1) := by decide +kernel
theorem dX4_goBack_2 : decode cX4_goBack 2 = .ok (.getfield 32, 3) := by decide +kernel
theorem dX4_goBack_5 : decode cX4_goBack 5 = .ok (.invokevirtual 36, 3) := by decide +kernel
theorem dX4_goBack_8 : decode cX4_goBack 8 = .ok (.aload_n 2, 1) := by decide +kernel
theorem dX4_goBack_9 : decode cX4_goBack 9 = .ok (.aload_n 0, 1) := by decide +kernel
theorem dX4_goBack_10 : decode cX4_goBack 10 = .ok (.getfield 10, 3) := by decide +kernel
theorem dX4_goBack_13 : decode cX4_goBack 13 = .ok (.invokevirtual 40, 3) := by decide +kernel
theorem dX4_goBack_16 : decode cX4_goBack 16 = .ok (.aload_n 3, 1) := by decide +kernel
theorem dX4_goBack_17 : decode cX4_goBack 17 = .ok (.aload_n 0, 1) := by decide +kernel
theorem dX4_goBack_18 : decode cX4_goBack 18 = .ok (.getfield 19, 3) := by decide +kernel
theorem dX4_goBack_21 : decode cX4_goBack 21 = .ok (.invokevirtual 43, 3) := by decide +kernel
theorem dX4_goBack_24 : decode cX4_goBack 24 = .ok (.return_, 1) := by decide +kernel
def P_X4_goBack  (o0 : Nat) (o1 : Nat) (o2 : Nat) (o3 : Nat) (σ : St) (Q : St → Prop) : Prop :=
  P_X9_take o1 (o0 + 18) σ (fun σ_1 => P_X3_take o2 (o0 + 2) σ_1 (fun σ_2 => P_X7_take o3 (o0 + 1) σ_2 (fun σ_3 => Q σ_3)))
set_option maxRecDepth 20000 in
set_option maxHeartbeats 2000000 in
theorem s_X4_goBack   {o0 : Nat} {o1 : Nat} {o2 : Nat} {o3 : Nat} {σ : St} {Q : St → Prop} (h : P_X4_goBack o0 o1 o2 o3 σ Q) : Cn Y_X4_goBack 2 0 0 ww σ [vR 4 o0, vR 9 o1, vR 3 o2, vR 7 o3] (QV Q) := by
  refine Cn_of [some (vR 4 o0), some (vR 9 o1), some (vR 3 o2), some (vR 7 o3)] (by decide) (Nat.le_of_ble_eq_true rfl) rfl ?_
  unfold P_X4_goBack at h
  refine E_aload_n dX4_goBack_0 rfl rfl ?_
  refine E_aload_n dX4_goBack_1 rfl rfl ?_
  refine E_getr (i := o0) dX4_goBack_2 fl_RX4_32 rfl rfl (go_4_0 _ _) ?_
  refine E_callV (Y' := Y_X9_take) (as := [vR 9 (o0 + 18)]) (st := []) dX4_goBack_5 lk_RX4_36 m_X9_take (by decide) (Nat.le_refl _) (Nat.le_refl _) rfl rfl (Nat.le_of_ble_eq_true rfl) (s_X9_take h) (fun r0 B0 σ_1 h => ?_)
  obtain ⟨rfl, rfl, h⟩ := h
  refine E_aload_n dX4_goBack_8 rfl rfl ?_
  refine E_aload_n dX4_goBack_9 rfl rfl ?_
  refine E_getr (i := o0) dX4_goBack_10 fl_RX4_10 rfl rfl (go_4_1 _ _) ?_
  refine E_callV (Y' := Y_X3_take) (as := [vR 3 (o0 + 2)]) (st := []) dX4_goBack_13 lk_RX4_40 m_X3_take (by decide) (Nat.le_refl _) (Nat.le_refl _) rfl rfl (Nat.le_of_ble_eq_true rfl) (s_X3_take h) (fun r0 B0 σ_2 h => ?_)
  obtain ⟨rfl, rfl, h⟩ := h
  refine E_aload_n dX4_goBack_16 rfl rfl ?_
  refine E_aload_n dX4_goBack_17 rfl rfl ?_
  refine E_getr (i := o0) dX4_goBack_18 fl_RX4_19 rfl rfl (go_4_2 _ _) ?_
  refine E_callV (Y' := Y_X7_take) (as := [vR 7 (o0 + 1)]) (st := []) dX4_goBack_21 lk_RX4_43 m_X7_take (by decide) (Nat.le_refl _) (Nat.le_refl _) rfl rfl (Nat.le_of_ble_eq_true rfl) (s_X7_take h) (fun r0 B0 σ_3 h => ?_)
  obtain ⟨rfl, rfl, h⟩ := h
  exact E_vret dX4_goBack_24 rfl ⟨rfl, rfl, h⟩
abbrev Y_X5_keep : My := (yX5_keep, cX5_keep, 4, none)
theorem dX5_keep_0 : decode cX5_keep 0 = .ok (.aload_n 0, 1) := by decide +kernel
theorem dX5_keep_1 : decode cX5_keep 1 = .ok (.getfield 17, 3) := by decide +kernel
theorem dX5_keep_4 : decode cX5_keep 4 = .ok (.bipush 16, 2) := by decide +kernel
theorem dX5_keep_6 : decode cX5_keep 6 = .ok (.if_icmp .lt 52, 3) := by decide +kernel
theorem dX5_keep_9 : decode cX5_keep 9 = .ok (.aload_n 0, 1) := by decide +kernel
theorem dX5_keep_10 : decode cX5_keep 10 = .ok (.getfield 11, 3) := by decide +kernel
theorem dX5_keep_13 : decode cX5_keep 13 = .ok (.iconst 0, 1) := by decide +kernel
theorem dX5_keep_14 : decode cX5_keep 14 = .ok (.aaload, 1) := by decide +kernel
theorem dX5_keep_15 : decode cX5_keep 15 = .ok (.astore_n 2, 1) := by decide +kernel
theorem dX5_keep_16 : decode cX5_keep 16 = .ok (.iconst 1, 1) := by decide +kernel
theorem dX5_keep_17 : decode cX5_keep 17 = .ok (.istore_n 3, 1) := by decide +kernel
theorem dX5_keep_18 : decode cX5_keep 18 = .ok (.iload_n 3, 1) := by decide +kernel
theorem dX5_keep_19 : decode cX5_keep 19 = .ok (.bipush 16, 2) := by decide +kernel
theorem dX5_keep_21 : decode cX5_keep 21 = .ok (.if_icmp .ge 23, 3) := by decide +kernel
theorem dX5_keep_24 : decode cX5_keep 24 = .ok (.aload_n 0, 1) := by decide +kernel
theorem dX5_keep_25 : decode cX5_keep 25 = .ok (.getfield 11, 3) := by decide +kernel
theorem dX5_keep_28 : decode cX5_keep 28 = .ok (.iload_n 3, 1) := by decide +kernel
theorem dX5_keep_29 : decode cX5_keep 29 = .ok (.iconst 1, 1) := by decide +kernel
theorem dX5_keep_30 : decode cX5_keep 30 = .ok (.isub, 1) := by decide +kernel
theorem dX5_keep_31 : decode cX5_keep 31 = .ok (.aload_n 0, 1) := by decide +kernel
theorem dX5_keep_32 : decode cX5_keep 32 = .ok (.getfield 11, 3) := by decide +kernel
theorem dX5_keep_35 : decode cX5_keep 35 = .ok (.iload_n 3, 1) := by decide +kernel
theorem dX5_keep_36 : decode cX5_keep 36 = .ok (.aaload, 1) := by decide +kernel
theorem dX5_keep_37 : decode cX5_keep 37 = .ok (.aastore, 1) := by decide +kernel
theorem dX5_keep_38 : decode cX5_keep 38 = .ok (.iinc 3 1, 3) := by decide +kernel
theorem dX5_keep_41 : decode cX5_keep 41 = .ok (.goto (-23), 3) := by decide +kernel
theorem dX5_keep_44 : decode cX5_keep 44 = .ok (.aload_n 0, 1) := by decide +kernel
theorem dX5_keep_45 : decode cX5_keep 45 = .ok (.getfield 11, 3) := by decide +kernel
theorem dX5_keep_48 : decode cX5_keep 48 = .ok (.bipush 15, 2) := by decide +kernel
theorem dX5_keep_50 : decode cX5_keep 50 = .ok (.aload_n 2, 1) := by decide +kernel
theorem dX5_keep_51 : decode cX5_keep 51 = .ok (.aastore, 1) := by decide +kernel
theorem dX5_keep_52 : decode cX5_keep 52 = .ok (.aload_n 0, 1) := by decide +kernel
theorem dX5_keep_53 : decode cX5_keep 53 = .ok (.bipush 15, 2) := by decide +kernel
theorem dX5_keep_55 : decode cX5_keep 55 = .ok (.putfield 17, 3) := by decide +kernel
theorem dX5_keep_58 : decode cX5_keep 58 = .ok (.aload_n 0, 1) := by decide +kernel
theorem dX5_keep_59 : decode cX5_keep 59 = .ok (.getfield 11, 3) := by decide +kernel
theorem dX5_keep_62 : decode cX5_keep 62 = .ok (.aload_n 0, 1) := by decide +kernel
theorem dX5_keep_63 : decode cX5_keep 63 = .ok (.getfield 17, 3) := by decide +kernel
theorem dX5_keep_66 : decode cX5_keep 66 = .ok (.aaload, 1) := by decide +kernel
theorem dX5_keep_67 : decode cX5_keep 67 = .ok (.aload_n 1, 1) := by decide +kernel
theorem dX5_keep_68 : decode cX5_keep 68 = .ok (.invokevirtual 24, 3) := by decide +kernel
theorem dX5_keep_71 : decode cX5_keep 71 = .ok (.aload_n 0, 1) := by decide +kernel
theorem dX5_keep_72 : decode cX5_keep 72 = .ok (.dup, 1) := by decide +kernel
theorem dX5_keep_73 : decode cX5_keep 73 = .ok (.getfield 17, 3) := by decide +kernel
theorem dX5_keep_76 : decode cX5_keep 76 = .ok (.iconst 1, 1) := by decide +kernel
theorem dX5_keep_77 : decode cX5_keep 77 = .ok (.iadd, 1) := by decide +kernel
theorem dX5_keep_78 : decode cX5_keep 78 = .ok (.putfield 17, 3) := by decide +kernel
theorem dX5_keep_81 : decode cX5_keep 81 = .ok (.return_, 1) := by decide +kernel
theorem fl_RX5_11 : FL RX5 11 5 0 := ⟨inG (i := 368) (by decide +kernel) (by decide +kernel), by decide, by decide⟩
theorem fl_RX5_17 : FL RX5 17 5 1 := ⟨inG (i := 369) (by decide +kernel) (by decide +kernel), by decide, by decide⟩
theorem go_5_0 (σ : St) (i : Nat) : go σ 5 i 0 = (600, i) := rfl
theorem lk_RX5_24 : Cond.methodLink RX5 24 yX9_take ∈ tG := inG (i := 916) (by decide +kernel) (by decide +kernel)
theorem sh_600 : shp 600 = (4, 16) := rfl
def P_X5_keep_J58  (o1 : Nat)  (Q : St → Prop) (σ : St) : Prop :=
  0 ≤ σ 5 0 1 ∧ σ 5 0 1 < 16 ∧ P_X9_take ((σ 600 0 (σ 5 0 1)).toNat) o1 σ (fun σ_1 => Q (up σ_1 5 0 1 (wi ((σ_1 5 0 1) + 1))))
set_option maxRecDepth 20000 in
set_option maxHeartbeats 2000000 in
theorem e_P_X5_keep_J58  {o1 : Nat}  {Q : St → Prop} {σ : St}   (h : P_X5_keep_J58 o1 Q σ) : E Y_X5_keep 2 0 0 (QV Q) ww 0 0 58 [some (vR 5 0), some (vR 9 o1), none, none] [] σ := by
  unfold P_X5_keep_J58 at h
  refine E_aload_n dX5_keep_58 rfl rfl ?_
  refine E_getr (i := 0) dX5_keep_59 fl_RX5_11 rfl rfl (go_5_0 _ _) ?_
  refine E_aload_n dX5_keep_62 rfl rfl ?_
  refine E_geti (i := 0) dX5_keep_63 fl_RX5_17 rfl ?_
  obtain ⟨hg0, hg1, h⟩ := h
  refine E_aald dX5_keep_66 sh_600 (by decide) (by decide) hg0 hg1 (wwA sh_600 hg0 hg1) (go_600 hg0) ?_
  refine E_aload_n dX5_keep_67 rfl rfl ?_
  refine E_callV (Y' := Y_X9_take) (as := [vR 9 o1]) (st := []) dX5_keep_68 lk_RX5_24 m_X9_take (by decide) (Nat.le_refl _) (Nat.le_refl _) rfl rfl (Nat.le_of_ble_eq_true rfl) (s_X9_take h) (fun r0 B0 σ_1 h => ?_)
  obtain ⟨rfl, rfl, h⟩ := h
  refine E_aload_n dX5_keep_71 rfl rfl ?_
  refine E_dup dX5_keep_72 (fun _ q => by cases q) ?_
  refine E_geti (i := 0) dX5_keep_73 fl_RX5_17 rfl ?_
  refine E_ic dX5_keep_76 rfl ?_
  refine E_iadd dX5_keep_77 ?_
  refine E_puti dX5_keep_78 fl_RX5_17 rfl rfl rfl ?_
  exact E_vret dX5_keep_81 rfl ⟨rfl, rfl, h⟩
def P_X5_keep_L18  (o1 : Nat) (o2 : Nat) (K : St → Prop) (Q : St → Prop) : Nat → Int → St → Prop
  | 0, _, _ => False
  | n + 1, x3, σ => (if 16 ≤ x3 then K σ else 0 ≤ x3 ∧ x3 < 16 ∧ 0 ≤ wi (x3 - 1) ∧ wi (x3 - 1) < 16 ∧ (((σ 600 0 x3).toNat : Nat) : Int) ≤ 2147483647 ∧ (P_X5_keep_L18 o1 o2 K Q n) (wi (x3 + 1)) (up σ 600 0 (wi (x3 - 1)) (((σ 600 0 x3).toNat : Nat) : Int)))
set_option maxRecDepth 20000 in
set_option maxHeartbeats 2000000 in
theorem e_P_X5_keep_L18  {o1 : Nat} {o2 : Nat} {K : St → Prop} {Q : St → Prop}  (hK : ∀ σ, K σ → E Y_X5_keep 2 0 0 (QV Q) ww 0 0 44 [some (vR 5 0), some (vR 9 o1), some (vR 9 o2), none] [] σ) : ∀ (n : Nat) (x3 : Int) (σ : St), P_X5_keep_L18 o1 o2 K Q n x3 σ → E Y_X5_keep 2 0 0 (QV Q) ww 0 0 18 [some (vR 5 0), some (vR 9 o1), some (vR 9 o2), some (vI x3)] [] σ := by
  intro n
  induction n with
  | zero => intro x3 σ h; exact h.elim
  | succ n hR =>
    intro x3 σ h
    unfold P_X5_keep_L18 at h
    refine E_iload_n dX5_keep_18 rfl rfl ?_
    refine E_bp dX5_keep_19 rfl ?_
    refine E_icmp_ge (tgt := 44) dX5_keep_21 (by decide) (fun hc => ?_) (fun hc => ?_)
    · have h := Eq.mp (if_pos hc) h
      refine E_wk2 [some (vR 5 0), some (vR 9 o1), some (vR 9 o2), none] ⟨rfl, ⟨rfl, ⟨rfl, trivial⟩⟩⟩ ?_
      exact hK _ h
    · have h := Eq.mp (if_neg hc) h
      refine E_aload_n dX5_keep_24 rfl rfl ?_
      refine E_getr (i := 0) dX5_keep_25 fl_RX5_11 rfl rfl (go_5_0 _ _) ?_
      refine E_iload_n dX5_keep_28 rfl rfl ?_
      refine E_ic dX5_keep_29 rfl ?_
      refine E_isub dX5_keep_30 ?_
      refine E_aload_n dX5_keep_31 rfl rfl ?_
      refine E_getr (i := 0) dX5_keep_32 fl_RX5_11 rfl rfl (go_5_0 _ _) ?_
      refine E_iload_n dX5_keep_35 rfl rfl ?_
      obtain ⟨hg0, hg1, h⟩ := h
      refine E_aald dX5_keep_36 sh_600 (by decide) (by decide) hg0 hg1 (wwA sh_600 hg0 hg1) (go_600 hg0) ?_
      obtain ⟨hg0, hg1, h⟩ := h
      have ha0 := hg0
      have ha1 := hg1
      obtain ⟨hg0, h⟩ := h
      refine E_aast dX5_keep_37 ha0 ha1 hg0 (fun _ hj => decide_eq_true hj) ?_
      refine E_iinc (ls' := [some (vR 5 0), some (vR 9 o1), some (vR 9 o2), some (vI (wi (x3 + 1)))]) dX5_keep_38 rfl (by decide) rfl rfl ?_
      refine E_goto (tgt := 18) dX5_keep_41 (by decide) ?_
      exact hR _ _ h
def P_X5_keep  (o1 : Nat) (σ : St) (Q : St → Prop) : Prop :=
  (if (σ 5 0 1) < 16 then P_X5_keep_J58 o1 Q σ else P_X5_keep_L18 o1 ((σ 600 0 0).toNat) (fun σ_2 => (((σ 600 0 0).toNat : Nat) : Int) ≤ 2147483647 ∧ P_X5_keep_J58 o1 Q (up (up σ_2 600 0 15 (((σ 600 0 0).toNat : Nat) : Int)) 5 0 1 15)) Q FU 1 σ)
set_option maxRecDepth 20000 in
set_option maxHeartbeats 2000000 in
theorem s_X5_keep   {o1 : Nat} {σ : St} {Q : St → Prop} (h : P_X5_keep o1 σ Q) : Cn Y_X5_keep 2 0 0 ww σ [vR 5 0, vR 9 o1] (QV Q) := by
  refine Cn_of [some (vR 5 0), some (vR 9 o1), none, none] (by decide) (Nat.le_of_ble_eq_true rfl) rfl ?_
  unfold P_X5_keep at h
  refine E_aload_n dX5_keep_0 rfl rfl ?_
  refine E_geti (i := 0) dX5_keep_1 fl_RX5_17 rfl ?_
  refine E_bp dX5_keep_4 rfl ?_
  refine E_icmp_lt (tgt := 58) dX5_keep_6 (by decide) (fun hc => ?_) (fun hc => ?_)
  · have h := Eq.mp (if_pos hc) h
    exact e_P_X5_keep_J58 h
  · have h := Eq.mp (if_neg hc) h
    refine E_aload_n dX5_keep_9 rfl rfl ?_
    refine E_getr (i := 0) dX5_keep_10 fl_RX5_11 rfl rfl (go_5_0 _ _) ?_
    refine E_ic dX5_keep_13 rfl ?_
    refine E_aald dX5_keep_14 sh_600 (by decide) (by decide) (by decide) (by decide) (wwA sh_600 (by decide) (by decide)) (go_600 (by decide)) ?_
    refine E_astore_n (ls' := [some (vR 5 0), some (vR 9 o1), some (vR 9 ((σ 600 0 0).toNat)), none]) dX5_keep_15 rfl (by decide) rfl ?_
    refine E_ic dX5_keep_16 rfl ?_
    refine E_istore_n (ls' := [some (vR 5 0), some (vR 9 o1), some (vR 9 ((σ 600 0 0).toNat)), some (vI 1)]) dX5_keep_17 rfl (by decide) rfl ?_
    refine e_P_X5_keep_L18 ?_ _ _ _ h
    · intro σ_2 h
      refine E_aload_n dX5_keep_44 rfl rfl ?_
      refine E_getr (i := 0) dX5_keep_45 fl_RX5_11 rfl rfl (go_5_0 _ _) ?_
      refine E_bp dX5_keep_48 rfl ?_
      refine E_aload_n dX5_keep_50 rfl rfl ?_
      obtain ⟨hg0, h⟩ := h
      refine E_aast dX5_keep_51 (by decide) (by decide) hg0 (fun _ hj => decide_eq_true hj) ?_
      refine E_aload_n dX5_keep_52 rfl rfl ?_
      refine E_bp dX5_keep_53 rfl ?_
      refine E_puti dX5_keep_55 fl_RX5_17 rfl rfl rfl ?_
      refine E_wk2 [some (vR 5 0), some (vR 9 o1), none, none] ⟨rfl, ⟨rfl, trivial⟩⟩ ?_
      exact e_P_X5_keep_J58 h
abbrev Y_X5_giveBack : My := (yX5_giveBack, cX5_giveBack, 2, some .boolean)
theorem dX5_giveBack_0 : decode cX5_giveBack 0 = .ok (.aload_n 0, 1) := by decide +kernel
theorem dX5_giveBack_1 : decode cX5_giveBack 1 = .ok (.getfield 17, 3) := by decide +kernel
theorem dX5_giveBack_4 : decode cX5_giveBack 4 = .ok (.ifCond .ne 5, 3) := by decide +kernel
theorem dX5_giveBack_7 : decode cX5_giveBack 7 = .ok (.iconst 0, 1) := by decide +kernel
theorem dX5_giveBack_8 : decode cX5_giveBack 8 = .ok (.ireturn, 1) := by decide +kernel
theorem dX5_giveBack_9 : decode cX5_giveBack 9 = .ok (.aload_n 0, 1) := by decide +kernel
theorem dX5_giveBack_10 : decode cX5_giveBack 10 = .ok (.dup, 1) := by decide +kernel
theorem dX5_giveBack_11 : decode cX5_giveBack 11 = .ok (.getfield 17, 3) := by decide +kernel
theorem dX5_giveBack_14 : decode cX5_giveBack 14 = .ok (.iconst 1, 1) := by decide +kernel
theorem dX5_giveBack_15 : decode cX5_giveBack 15 = .ok (.isub, 1) := by decide +kernel
theorem dX5_giveBack_16 : decode cX5_giveBack 16 = .ok (.putfield 17, 3) := by decide +kernel
theorem dX5_giveBack_19 : decode cX5_giveBack 19 = .ok (.aload_n 1, 1) := by decide +kernel
theorem dX5_giveBack_20 : decode cX5_giveBack 20 = .ok (.aload_n 0, 1) := by decide +kernel
theorem dX5_giveBack_21 : decode cX5_giveBack 21 = .ok (.getfield 11, 3) := by decide +kernel
theorem dX5_giveBack_24 : decode cX5_giveBack 24 = .ok (.aload_n 0, 1) := by decide +kernel
theorem dX5_giveBack_25 : decode cX5_giveBack 25 = .ok (.getfield 17, 3) := by decide +kernel
theorem dX5_giveBack_28 : decode cX5_giveBack 28 = .ok (.aaload, 1) := by decide +kernel
theorem dX5_giveBack_29 : decode cX5_giveBack 29 = .ok (.invokevirtual 24, 3) := by decide +kernel
theorem dX5_giveBack_32 : decode cX5_giveBack 32 = .ok (.iconst 1, 1) := by decide +kernel
theorem dX5_giveBack_33 : decode cX5_giveBack 33 = .ok (.ireturn, 1) := by decide +kernel
def P_X5_giveBack  (o1 : Nat) (σ : St) (Q : Int → St → Prop) : Prop :=
  (if (σ 5 0 1) = 0 then Q 0 σ else 0 ≤ (up σ 5 0 1 (wi ((σ 5 0 1) - 1))) 5 0 1 ∧ (up σ 5 0 1 (wi ((σ 5 0 1) - 1))) 5 0 1 < 16 ∧ P_X9_take o1 (((up σ 5 0 1 (wi ((σ 5 0 1) - 1))) 600 0 ((up σ 5 0 1 (wi ((σ 5 0 1) - 1))) 5 0 1)).toNat) (up σ 5 0 1 (wi ((σ 5 0 1) - 1))) (fun σ_1 => Q 1 σ_1))
set_option maxRecDepth 20000 in
set_option maxHeartbeats 2000000 in
theorem s_X5_giveBack   {o1 : Nat} {σ : St} {Q : Int → St → Prop} (h : P_X5_giveBack o1 σ Q) : Cn Y_X5_giveBack 2 0 0 ww σ [vR 5 0, vR 9 o1] (QI Q) := by
  refine Cn_of [some (vR 5 0), some (vR 9 o1)] (by decide) (Nat.le_of_ble_eq_true rfl) rfl ?_
  unfold P_X5_giveBack at h
  refine E_aload_n dX5_giveBack_0 rfl rfl ?_
  refine E_geti (i := 0) dX5_giveBack_1 fl_RX5_17 rfl ?_
  refine E_if_ne (tgt := 9) dX5_giveBack_4 (by decide) (fun hc => ?_) (fun hc => ?_)
  · have h := Eq.mp (if_neg hc) h
    refine E_aload_n dX5_giveBack_9 rfl rfl ?_
    refine E_dup dX5_giveBack_10 (fun _ q => by cases q) ?_
    refine E_geti (i := 0) dX5_giveBack_11 fl_RX5_17 rfl ?_
    refine E_ic dX5_giveBack_14 rfl ?_
    refine E_isub dX5_giveBack_15 ?_
    refine E_puti dX5_giveBack_16 fl_RX5_17 rfl rfl rfl ?_
    refine E_aload_n dX5_giveBack_19 rfl rfl ?_
    refine E_aload_n dX5_giveBack_20 rfl rfl ?_
    refine E_getr (i := 0) dX5_giveBack_21 fl_RX5_11 rfl rfl (go_5_0 _ _) ?_
    refine E_aload_n dX5_giveBack_24 rfl rfl ?_
    refine E_geti (i := 0) dX5_giveBack_25 fl_RX5_17 rfl ?_
    obtain ⟨hg0, hg1, h⟩ := h
    refine E_aald dX5_giveBack_28 sh_600 (by decide) (by decide) hg0 hg1 (wwA sh_600 hg0 hg1) (go_600 hg0) ?_
    refine E_callV (Y' := Y_X9_take) (as := [vR 9 (((up σ 5 0 1 (wi ((σ 5 0 1) - 1))) 600 0 ((up σ 5 0 1 (wi ((σ 5 0 1) - 1))) 5 0 1)).toNat)]) (st := []) dX5_giveBack_29 lk_RX5_24 m_X9_take (by decide) (Nat.le_refl _) (Nat.le_refl _) rfl rfl (Nat.le_of_ble_eq_true rfl) (s_X9_take h) (fun r0 B0 σ_1 h => ?_)
    obtain ⟨rfl, rfl, h⟩ := h
    refine E_ic dX5_giveBack_32 rfl ?_
    exact E_zret dX5_giveBack_33 rfl (by decide) ⟨_, rfl, rfl, h⟩
  · have h := Eq.mp (if_pos hc) h
    refine E_ic dX5_giveBack_7 rfl ?_
    exact E_zret dX5_giveBack_8 rfl (by decide) ⟨_, rfl, rfl, h⟩
abbrev Y_X6_takeKind : My := (yX6_takeKind, cX6_takeKind, 2, some .int)
theorem dX6_takeKind_0 : decode cX6_takeKind 0 = .ok (.iconst 0, 1) := by decide +kernel
theorem dX6_takeKind_1 : decode cX6_takeKind 1 = .ok (.istore_n 1, 1) := by decide +kernel
theorem dX6_takeKind_2 : decode cX6_takeKind 2 = .ok (.aload_n 0, 1) := by decide +kernel
theorem dX6_takeKind_3 : decode cX6_takeKind 3 = .ok (.getfield 18, 3) := by decide +kernel
theorem dX6_takeKind_6 : decode cX6_takeKind 6 = .ok (.ldc 145, 2) := by decide +kernel
theorem dX6_takeKind_8 : decode cX6_takeKind 8 = .ok (.invokevirtual 38, 3) := by decide +kernel
theorem dX6_takeKind_11 : decode cX6_takeKind 11 = .ok (.ifCond .eq 8, 3) := by decide +kernel
theorem dX6_takeKind_14 : decode cX6_takeKind 14 = .ok (.iconst 1, 1) := by decide +kernel
theorem dX6_takeKind_15 : decode cX6_takeKind 15 = .ok (.istore_n 1, 1) := by decide +kernel
theorem dX6_takeKind_16 : decode cX6_takeKind 16 = .ok (.goto 57, 3) := by decide +kernel
theorem dX6_takeKind_19 : decode cX6_takeKind 19 = .ok (.aload_n 0, 1) := by decide +kernel
theorem dX6_takeKind_20 : decode cX6_takeKind 20 = .ok (.getfield 18, 3) := by decide +kernel
theorem dX6_takeKind_23 : decode cX6_takeKind 23 = .ok (.ldc 147, 2) := by decide +kernel
theorem dX6_takeKind_25 : decode cX6_takeKind 25 = .ok (.invokevirtual 38, 3) := by decide +kernel
theorem dX6_takeKind_28 : decode cX6_takeKind 28 = .ok (.ifCond .eq 8, 3) := by decide +kernel
theorem dX6_takeKind_31 : decode cX6_takeKind 31 = .ok (.iconst 2, 1) := by decide +kernel
theorem dX6_takeKind_32 : decode cX6_takeKind 32 = .ok (.istore_n 1, 1) := by decide +kernel
theorem dX6_takeKind_33 : decode cX6_takeKind 33 = .ok (.goto 40, 3) := by decide +kernel
theorem dX6_takeKind_36 : decode cX6_takeKind 36 = .ok (.aload_n 0, 1) := by decide +kernel
theorem dX6_takeKind_37 : decode cX6_takeKind 37 = .ok (.getfield 18, 3) := by decide +kernel
theorem dX6_takeKind_40 : decode cX6_takeKind 40 = .ok (.ldc 149, 2) := by decide +kernel
theorem dX6_takeKind_42 : decode cX6_takeKind 42 = .ok (.invokevirtual 38, 3) := by decide +kernel
theorem dX6_takeKind_45 : decode cX6_takeKind 45 = .ok (.ifCond .eq 8, 3) := by decide +kernel
theorem dX6_takeKind_48 : decode cX6_takeKind 48 = .ok (.iconst 3, 1) := by decide +kernel
theorem dX6_takeKind_49 : decode cX6_takeKind 49 = .ok (.istore_n 1, 1) := by decide +kernel
theorem dX6_takeKind_50 : decode cX6_takeKind 50 = .ok (.goto 23, 3) := by decide +kernel
theorem dX6_takeKind_53 : decode cX6_takeKind 53 = .ok (.aload_n 0, 1) := by decide +kernel
theorem dX6_takeKind_54 : decode cX6_takeKind 54 = .ok (.getfield 18, 3) := by decide +kernel
theorem dX6_takeKind_57 : decode cX6_takeKind 57 = .ok (.ldc 151, 2) := by decide +kernel
theorem dX6_takeKind_59 : decode cX6_takeKind 59 = .ok (.invokevirtual 38, 3) := by decide +kernel
theorem dX6_takeKind_62 : decode cX6_takeKind 62 = .ok (.ifCond .ne 11, 3) := by decide +kernel
theorem dX6_takeKind_65 : decode cX6_takeKind 65 = .ok (.aload_n 0, 1) := by decide +kernel
theorem dX6_takeKind_66 : decode cX6_takeKind 66 = .ok (.getfield 18, 3) := by decide +kernel
theorem dX6_takeKind_69 : decode cX6_takeKind 69 = .ok (.iconst 1, 1) := by decide +kernel
theorem dX6_takeKind_70 : decode cX6_takeKind 70 = .ok (.invokevirtual 66, 3) := by decide +kernel
theorem dX6_takeKind_73 : decode cX6_takeKind 73 = .ok (.aload_n 0, 1) := by decide +kernel
theorem dX6_takeKind_74 : decode cX6_takeKind 74 = .ok (.getfield 18, 3) := by decide +kernel
theorem dX6_takeKind_77 : decode cX6_takeKind 77 = .ok (.invokevirtual 81, 3) := by decide +kernel
theorem dX6_takeKind_80 : decode cX6_takeKind 80 = .ok (.iload_n 1, 1) := by decide +kernel
theorem dX6_takeKind_81 : decode cX6_takeKind 81 = .ok (.ireturn, 1) := by decide +kernel
theorem fl_RX6_18 : FL RX6 18 6 0 := ⟨inG (i := 287) (by decide +kernel) (by decide +kernel), by decide, by decide⟩
theorem go_6_0 (σ : St) (i : Nat) : go σ 6 i 0 = (10, 0) := rfl
theorem lk_RX6_38 : Cond.methodLink RX6 38 yX10_isWord ∈ tG := inG (i := 656) (by decide +kernel) (by decide +kernel)
theorem lk_RX6_66 : Cond.methodLink RX6 66 yX10_wrong ∈ tG := inG (i := 685) (by decide +kernel) (by decide +kernel)
theorem lk_RX6_81 : Cond.methodLink RX6 81 yX10_next ∈ tG := inG (i := 689) (by decide +kernel) (by decide +kernel)
def P_X6_takeKind_J73  (x1 : Int)  (Q : Int → St → Prop) (σ : St) : Prop :=
  P_X10_next σ (fun σ_9 => Q x1 σ_9)
set_option maxRecDepth 20000 in
set_option maxHeartbeats 2000000 in
theorem e_P_X6_takeKind_J73  {x1 : Int}  {Q : Int → St → Prop} {σ : St}   (h : P_X6_takeKind_J73 x1 Q σ) : E Y_X6_takeKind 5 0 0 (QI Q) ww 0 0 73 [some (vR 6 0), some (vI x1)] [] σ := by
  unfold P_X6_takeKind_J73 at h
  refine E_aload_n dX6_takeKind_73 rfl rfl ?_
  refine E_getr (i := 0) dX6_takeKind_74 fl_RX6_18 rfl rfl (go_6_0 _ _) ?_
  refine E_callV (Y' := Y_X10_next) (as := []) (st := []) dX6_takeKind_77 lk_RX6_81 m_X10_next (by decide) (Nat.le_refl _) (Nat.le_refl _) rfl rfl (Nat.le_of_ble_eq_true rfl) (s_X10_next h) (fun r0 B0 σ_9 h => ?_)
  obtain ⟨rfl, rfl, h⟩ := h
  refine E_iload_n dX6_takeKind_80 rfl rfl ?_
  exact E_iret dX6_takeKind_81 rfl ⟨_, rfl, rfl, h⟩
def P_X6_takeKind   (σ : St) (Q : Int → St → Prop) : Prop :=
  P_X10_isWord 6 σ (fun r_2 σ_1 => (if r_2 = 0 then P_X10_isWord 7 σ_1 (fun r_4 σ_3 => (if r_4 = 0 then P_X10_isWord 8 σ_3 (fun r_6 σ_5 => (if r_6 = 0 then P_X10_isWord 9 σ_5 (fun r_8 σ_7 => (if r_8 = 0 then P_X10_wrong 1 σ_7 (fun σ_10 => P_X6_takeKind_J73 0 Q σ_10) else P_X6_takeKind_J73 0 Q σ_7)) else P_X6_takeKind_J73 3 Q σ_5)) else P_X6_takeKind_J73 2 Q σ_3)) else P_X6_takeKind_J73 1 Q σ_1))
set_option maxRecDepth 20000 in
set_option maxHeartbeats 2000000 in
theorem s_X6_takeKind    {σ : St} {Q : Int → St → Prop} (h : P_X6_takeKind  σ Q) : Cn Y_X6_takeKind 5 0 0 ww σ [vR 6 0] (QI Q) := by
  refine Cn_of [some (vR 6 0), none] (by decide) (Nat.le_of_ble_eq_true rfl) rfl ?_
  unfold P_X6_takeKind at h
  refine E_ic dX6_takeKind_0 rfl ?_
  refine E_istore_n (ls' := [some (vR 6 0), some (vI 0)]) dX6_takeKind_1 rfl (by decide) rfl ?_
  refine E_aload_n dX6_takeKind_2 rfl rfl ?_
  refine E_getr (i := 0) dX6_takeKind_3 fl_RX6_18 rfl rfl (go_6_0 _ _) ?_
  refine E_lds (i := 6) dX6_takeKind_6 (List.mem_of_getElem? (i := 6) rfl) ?_
  refine E_callV (Y' := Y_X10_isWord) (as := [vR 50 6]) (st := []) dX6_takeKind_8 lk_RX6_38 m_X10_isWord (by decide) (Nat.le_refl _) (Nat.le_refl _) rfl rfl (Nat.le_of_ble_eq_true rfl) (s_X10_isWord h) (fun r0 B0 σ_1 h => ?_)
  obtain ⟨r_2, rfl, rfl, h⟩ := h
  refine E_if_eq (tgt := 19) dX6_takeKind_11 (by decide) (fun hc => ?_) (fun hc => ?_)
  · have h := Eq.mp (if_pos hc) h
    refine E_aload_n dX6_takeKind_19 rfl rfl ?_
    refine E_getr (i := 0) dX6_takeKind_20 fl_RX6_18 rfl rfl (go_6_0 _ _) ?_
    refine E_lds (i := 7) dX6_takeKind_23 (List.mem_of_getElem? (i := 7) rfl) ?_
    refine E_callV (Y' := Y_X10_isWord) (as := [vR 50 7]) (st := []) dX6_takeKind_25 lk_RX6_38 m_X10_isWord (by decide) (Nat.le_refl _) (Nat.le_refl _) rfl rfl (Nat.le_of_ble_eq_true rfl) (s_X10_isWord h) (fun r0 B0 σ_3 h => ?_)
    obtain ⟨r_4, rfl, rfl, h⟩ := h
    refine E_if_eq (tgt := 36) dX6_takeKind_28 (by decide) (fun hc => ?_) (fun hc => ?_)
    · have h := Eq.mp (if_pos hc) h
      refine E_aload_n dX6_takeKind_36 rfl rfl ?_
      refine E_getr (i := 0) dX6_takeKind_37 fl_RX6_18 rfl rfl (go_6_0 _ _) ?_
      refine E_lds (i := 8) dX6_takeKind_40 (List.mem_of_getElem? (i := 8) rfl) ?_
      refine E_callV (Y' := Y_X10_isWord) (as := [vR 50 8]) (st := []) dX6_takeKind_42 lk_RX6_38 m_X10_isWord (by decide) (Nat.le_refl _) (Nat.le_refl _) rfl rfl (Nat.le_of_ble_eq_true rfl) (s_X10_isWord h) (fun r0 B0 σ_5 h => ?_)
      obtain ⟨r_6, rfl, rfl, h⟩ := h
      refine E_if_eq (tgt := 53) dX6_takeKind_45 (by decide) (fun hc => ?_) (fun hc => ?_)
      · have h := Eq.mp (if_pos hc) h
        refine E_aload_n dX6_takeKind_53 rfl rfl ?_
        refine E_getr (i := 0) dX6_takeKind_54 fl_RX6_18 rfl rfl (go_6_0 _ _) ?_
        refine E_lds (i := 9) dX6_takeKind_57 (List.mem_of_getElem? (i := 9) rfl) ?_
        refine E_callV (Y' := Y_X10_isWord) (as := [vR 50 9]) (st := []) dX6_takeKind_59 lk_RX6_38 m_X10_isWord (by decide) (Nat.le_refl _) (Nat.le_refl _) rfl rfl (Nat.le_of_ble_eq_true rfl) (s_X10_isWord h) (fun r0 B0 σ_7 h => ?_)
        obtain ⟨r_8, rfl, rfl, h⟩ := h
        refine E_if_ne (tgt := 73) dX6_takeKind_62 (by decide) (fun hc => ?_) (fun hc => ?_)
        · have h := Eq.mp (if_neg hc) h
          exact e_P_X6_takeKind_J73 h
        · have h := Eq.mp (if_pos hc) h
          refine E_aload_n dX6_takeKind_65 rfl rfl ?_
          refine E_getr (i := 0) dX6_takeKind_66 fl_RX6_18 rfl rfl (go_6_0 _ _) ?_
          refine E_ic dX6_takeKind_69 rfl ?_
          refine E_callV (Y' := Y_X10_wrong) (as := [vI 1]) (st := []) dX6_takeKind_70 lk_RX6_66 m_X10_wrong (by decide) (Nat.le_refl _) (Nat.le_refl _) rfl rfl (Nat.le_of_ble_eq_true rfl) (s_X10_wrong h) (fun r0 B0 σ_10 h => ?_)
          obtain ⟨rfl, rfl, h⟩ := h
          exact e_P_X6_takeKind_J73 h
      · have h := Eq.mp (if_neg hc) h
        refine E_ic dX6_takeKind_48 rfl ?_
        refine E_istore_n (ls' := [some (vR 6 0), some (vI 3)]) dX6_takeKind_49 rfl (by decide) rfl ?_
        refine E_goto (tgt := 73) dX6_takeKind_50 (by decide) ?_
        exact e_P_X6_takeKind_J73 h
    · have h := Eq.mp (if_neg hc) h
      refine E_ic dX6_takeKind_31 rfl ?_
      refine E_istore_n (ls' := [some (vR 6 0), some (vI 2)]) dX6_takeKind_32 rfl (by decide) rfl ?_
      refine E_goto (tgt := 73) dX6_takeKind_33 (by decide) ?_
      exact e_P_X6_takeKind_J73 h
  · have h := Eq.mp (if_neg hc) h
    refine E_ic dX6_takeKind_14 rfl ?_
    refine E_istore_n (ls' := [some (vR 6 0), some (vI 1)]) dX6_takeKind_15 rfl (by decide) rfl ?_
    refine E_goto (tgt := 73) dX6_takeKind_16 (by decide) ?_
    exact e_P_X6_takeKind_J73 h
abbrev Y_X6_joiner : My := (yX6_joiner, cX6_joiner, 2, some .int)
theorem dX6_joiner_0 : decode cX6_joiner 0 = .ok (.aload_n 0, 1) := by decide +kernel
theorem dX6_joiner_1 : decode cX6_joiner 1 = .ok (.getfield 18, 3) := by decide +kernel
theorem dX6_joiner_4 : decode cX6_joiner 4 = .ok (.invokevirtual 161, 3) := by decide +kernel
theorem dX6_joiner_7 : decode cX6_joiner 7 = .ok (.ifCond .ne 5, 3) := by decide +kernel
theorem dX6_joiner_10 : decode cX6_joiner 10 = .ok (.iconst (-1), 1) := by decide +kernel
theorem dX6_joiner_11 : decode cX6_joiner 11 = .ok (.ireturn, 1) := by decide +kernel
theorem dX6_joiner_12 : decode cX6_joiner 12 = .ok (.iload_n 1, 1) := by decide +kernel
theorem dX6_joiner_13 : decode cX6_joiner 13 = .ok (.tableswitch 158 0 3 #[31, 67, 103, 139], 31) := by decide +kernel
theorem dX6_joiner_44 : decode cX6_joiner 44 = .ok (.aload_n 0, 1) := by decide +kernel
theorem dX6_joiner_45 : decode cX6_joiner 45 = .ok (.getfield 18, 3) := by decide +kernel
theorem dX6_joiner_48 : decode cX6_joiner 48 = .ok (.ldc 189, 2) := by decide +kernel
theorem dX6_joiner_50 : decode cX6_joiner 50 = .ok (.invokevirtual 38, 3) := by decide +kernel
theorem dX6_joiner_53 : decode cX6_joiner 53 = .ok (.ifCond .eq 8, 3) := by decide +kernel
theorem dX6_joiner_56 : decode cX6_joiner 56 = .ok (.bipush 6, 2) := by decide +kernel
theorem dX6_joiner_58 : decode cX6_joiner 58 = .ok (.goto 21, 3) := by decide +kernel
theorem dX6_joiner_61 : decode cX6_joiner 61 = .ok (.aload_n 0, 1) := by decide +kernel
theorem dX6_joiner_62 : decode cX6_joiner 62 = .ok (.getfield 18, 3) := by decide +kernel
theorem dX6_joiner_65 : decode cX6_joiner 65 = .ok (.ldc 191, 2) := by decide +kernel
theorem dX6_joiner_67 : decode cX6_joiner 67 = .ok (.invokevirtual 38, 3) := by decide +kernel
theorem dX6_joiner_70 : decode cX6_joiner 70 = .ok (.ifCond .eq 8, 3) := by decide +kernel
theorem dX6_joiner_73 : decode cX6_joiner 73 = .ok (.bipush 7, 2) := by decide +kernel
theorem dX6_joiner_75 : decode cX6_joiner 75 = .ok (.goto 4, 3) := by decide +kernel
theorem dX6_joiner_78 : decode cX6_joiner 78 = .ok (.iconst (-1), 1) := by decide +kernel
theorem dX6_joiner_79 : decode cX6_joiner 79 = .ok (.ireturn, 1) := by decide +kernel
theorem dX6_joiner_80 : decode cX6_joiner 80 = .ok (.aload_n 0, 1) := by decide +kernel
theorem dX6_joiner_81 : decode cX6_joiner 81 = .ok (.getfield 18, 3) := by decide +kernel
theorem dX6_joiner_84 : decode cX6_joiner 84 = .ok (.bipush 60, 2) := by decide +kernel
theorem dX6_joiner_86 : decode cX6_joiner 86 = .ok (.invokevirtual 193, 3) := by decide +kernel
theorem dX6_joiner_89 : decode cX6_joiner 89 = .ok (.ifCond .eq 8, 3) := by decide +kernel
theorem dX6_joiner_92 : decode cX6_joiner 92 = .ok (.bipush 8, 2) := by decide +kernel
theorem dX6_joiner_94 : decode cX6_joiner 94 = .ok (.goto 21, 3) := by decide +kernel
theorem dX6_joiner_97 : decode cX6_joiner 97 = .ok (.aload_n 0, 1) := by decide +kernel
theorem dX6_joiner_98 : decode cX6_joiner 98 = .ok (.getfield 18, 3) := by decide +kernel
theorem dX6_joiner_101 : decode cX6_joiner 101 = .ok (.bipush 61, 2) := by decide +kernel
theorem dX6_joiner_103 : decode cX6_joiner 103 = .ok (.invokevirtual 193, 3) := by decide +kernel
theorem dX6_joiner_106 : decode cX6_joiner 106 = .ok (.ifCond .eq 8, 3) := by decide +kernel
theorem dX6_joiner_109 : decode cX6_joiner 109 = .ok (.bipush 9, 2) := by decide +kernel
theorem dX6_joiner_111 : decode cX6_joiner 111 = .ok (.goto 4, 3) := by decide +kernel
theorem dX6_joiner_114 : decode cX6_joiner 114 = .ok (.iconst (-1), 1) := by decide +kernel
theorem dX6_joiner_115 : decode cX6_joiner 115 = .ok (.ireturn, 1) := by decide +kernel
theorem dX6_joiner_116 : decode cX6_joiner 116 = .ok (.aload_n 0, 1) := by decide +kernel
theorem dX6_joiner_117 : decode cX6_joiner 117 = .ok (.getfield 18, 3) := by decide +kernel
theorem dX6_joiner_120 : decode cX6_joiner 120 = .ok (.bipush 43, 2) := by decide +kernel
theorem dX6_joiner_122 : decode cX6_joiner 122 = .ok (.invokevirtual 193, 3) := by decide +kernel
theorem dX6_joiner_125 : decode cX6_joiner 125 = .ok (.ifCond .eq 8, 3) := by decide +kernel
theorem dX6_joiner_128 : decode cX6_joiner 128 = .ok (.bipush 10, 2) := by decide +kernel
theorem dX6_joiner_130 : decode cX6_joiner 130 = .ok (.goto 21, 3) := by decide +kernel
theorem dX6_joiner_133 : decode cX6_joiner 133 = .ok (.aload_n 0, 1) := by decide +kernel
theorem dX6_joiner_134 : decode cX6_joiner 134 = .ok (.getfield 18, 3) := by decide +kernel
theorem dX6_joiner_137 : decode cX6_joiner 137 = .ok (.bipush 45, 2) := by decide +kernel
theorem dX6_joiner_139 : decode cX6_joiner 139 = .ok (.invokevirtual 193, 3) := by decide +kernel
theorem dX6_joiner_142 : decode cX6_joiner 142 = .ok (.ifCond .eq 8, 3) := by decide +kernel
theorem dX6_joiner_145 : decode cX6_joiner 145 = .ok (.bipush 11, 2) := by decide +kernel
theorem dX6_joiner_147 : decode cX6_joiner 147 = .ok (.goto 4, 3) := by decide +kernel
theorem dX6_joiner_150 : decode cX6_joiner 150 = .ok (.iconst (-1), 1) := by decide +kernel
theorem dX6_joiner_151 : decode cX6_joiner 151 = .ok (.ireturn, 1) := by decide +kernel
theorem dX6_joiner_152 : decode cX6_joiner 152 = .ok (.aload_n 0, 1) := by decide +kernel
theorem dX6_joiner_153 : decode cX6_joiner 153 = .ok (.getfield 18, 3) := by decide +kernel
theorem dX6_joiner_156 : decode cX6_joiner 156 = .ok (.bipush 42, 2) := by decide +kernel
theorem dX6_joiner_158 : decode cX6_joiner 158 = .ok (.invokevirtual 193, 3) := by decide +kernel
theorem dX6_joiner_161 : decode cX6_joiner 161 = .ok (.ifCond .eq 8, 3) := by decide +kernel
theorem dX6_joiner_164 : decode cX6_joiner 164 = .ok (.bipush 12, 2) := by decide +kernel
theorem dX6_joiner_166 : decode cX6_joiner 166 = .ok (.goto 4, 3) := by decide +kernel
theorem dX6_joiner_169 : decode cX6_joiner 169 = .ok (.iconst (-1), 1) := by decide +kernel
theorem dX6_joiner_170 : decode cX6_joiner 170 = .ok (.ireturn, 1) := by decide +kernel
theorem dX6_joiner_171 : decode cX6_joiner 171 = .ok (.iconst (-1), 1) := by decide +kernel
theorem dX6_joiner_172 : decode cX6_joiner 172 = .ok (.ireturn, 1) := by decide +kernel
theorem lk_RX6_161 : Cond.methodLink RX6 161 yX10_isSound ∈ tG := inG (i := 790) (by decide +kernel) (by decide +kernel)
theorem lk_RX6_193 : Cond.methodLink RX6 193 yX10_isSign ∈ tG := inG (i := 817) (by decide +kernel) (by decide +kernel)
theorem m_X10_isSound : MV Y_X10_isSound 0 10 := ⟨⟨inG (i := 793) (by decide +kernel) (by decide +kernel), inG (i := 99) (by decide +kernel) (by decide +kernel), by decide, by decide, by decide, by decide +kernel⟩, inG (i := 791) (by decide +kernel) (by decide +kernel), inG (i := 792) (by decide +kernel) (by decide +kernel), by decide⟩
def P_X6_joiner  (x1 : Int) (σ : St) (Q : Int → St → Prop) : Prop :=
  P_X10_isSound σ (fun r_2 σ_1 => (if r_2 = 0 then Q (-1) σ_1 else (if x1 = 0 then P_X10_isWord 20 σ_1 (fun r_4 σ_3 => (if r_4 = 0 then P_X10_isWord 21 σ_3 (fun r_6 σ_5 => (if r_6 = 0 then Q (-1) σ_5 else Q 7 σ_5)) else Q 6 σ_3)) else if x1 = 1 then P_X10_isSign 60 σ_1 (fun r_8 σ_7 => (if r_8 = 0 then P_X10_isSign 61 σ_7 (fun r_10 σ_9 => (if r_10 = 0 then Q (-1) σ_9 else Q 9 σ_9)) else Q 8 σ_7)) else if x1 = 2 then P_X10_isSign 43 σ_1 (fun r_12 σ_11 => (if r_12 = 0 then P_X10_isSign 45 σ_11 (fun r_14 σ_13 => (if r_14 = 0 then Q (-1) σ_13 else Q 11 σ_13)) else Q 10 σ_11)) else if x1 = 3 then P_X10_isSign 42 σ_1 (fun r_16 σ_15 => (if r_16 = 0 then Q (-1) σ_15 else Q 12 σ_15)) else Q (-1) σ_1)))
set_option maxRecDepth 20000 in
set_option maxHeartbeats 2000000 in
theorem s_X6_joiner   {x1 : Int} {σ : St} {Q : Int → St → Prop} (h : P_X6_joiner x1 σ Q) : Cn Y_X6_joiner 5 0 0 ww σ [vR 6 0, vI x1] (QI Q) := by
  refine Cn_of [some (vR 6 0), some (vI x1)] (by decide) (Nat.le_of_ble_eq_true rfl) rfl ?_
  unfold P_X6_joiner at h
  refine E_aload_n dX6_joiner_0 rfl rfl ?_
  refine E_getr (i := 0) dX6_joiner_1 fl_RX6_18 rfl rfl (go_6_0 _ _) ?_
  refine E_callV (Y' := Y_X10_isSound) (as := []) (st := []) dX6_joiner_4 lk_RX6_161 m_X10_isSound (by decide) (Nat.le_refl _) (Nat.le_refl _) rfl rfl (Nat.le_of_ble_eq_true rfl) (s_X10_isSound h) (fun r0 B0 σ_1 h => ?_)
  obtain ⟨r_2, rfl, rfl, h⟩ := h
  refine E_if_ne (tgt := 12) dX6_joiner_7 (by decide) (fun hc => ?_) (fun hc => ?_)
  · have h := Eq.mp (if_neg hc) h
    refine E_iload_n dX6_joiner_12 rfl rfl ?_
    by_cases hc : x1 = 0
    · have h := Eq.mp (if_pos hc) h
      refine E_tableIn (off := 31) (tgt := 44) dX6_joiner_13 (by omega) (by omega) (by rw [hc]; rfl) (by decide) ?_
      refine E_aload_n dX6_joiner_44 rfl rfl ?_
      refine E_getr (i := 0) dX6_joiner_45 fl_RX6_18 rfl rfl (go_6_0 _ _) ?_
      refine E_lds (i := 20) dX6_joiner_48 (List.mem_of_getElem? (i := 20) rfl) ?_
      refine E_callV (Y' := Y_X10_isWord) (as := [vR 50 20]) (st := []) dX6_joiner_50 lk_RX6_38 m_X10_isWord (by decide) (Nat.le_refl _) (Nat.le_refl _) rfl rfl (Nat.le_of_ble_eq_true rfl) (s_X10_isWord h) (fun r0 B0 σ_3 h => ?_)
      obtain ⟨r_4, rfl, rfl, h⟩ := h
      refine E_if_eq (tgt := 61) dX6_joiner_53 (by decide) (fun hc => ?_) (fun hc => ?_)
      · have h := Eq.mp (if_pos hc) h
        refine E_aload_n dX6_joiner_61 rfl rfl ?_
        refine E_getr (i := 0) dX6_joiner_62 fl_RX6_18 rfl rfl (go_6_0 _ _) ?_
        refine E_lds (i := 21) dX6_joiner_65 (List.mem_of_getElem? (i := 21) rfl) ?_
        refine E_callV (Y' := Y_X10_isWord) (as := [vR 50 21]) (st := []) dX6_joiner_67 lk_RX6_38 m_X10_isWord (by decide) (Nat.le_refl _) (Nat.le_refl _) rfl rfl (Nat.le_of_ble_eq_true rfl) (s_X10_isWord h) (fun r0 B0 σ_5 h => ?_)
        obtain ⟨r_6, rfl, rfl, h⟩ := h
        refine E_if_eq (tgt := 78) dX6_joiner_70 (by decide) (fun hc => ?_) (fun hc => ?_)
        · have h := Eq.mp (if_pos hc) h
          refine E_ic dX6_joiner_78 rfl ?_
          exact E_iret dX6_joiner_79 rfl ⟨_, rfl, rfl, h⟩
        · have h := Eq.mp (if_neg hc) h
          refine E_bp dX6_joiner_73 rfl ?_
          refine E_goto (tgt := 79) dX6_joiner_75 (by decide) ?_
          exact E_iret dX6_joiner_79 rfl ⟨_, rfl, rfl, h⟩
      · have h := Eq.mp (if_neg hc) h
        refine E_bp dX6_joiner_56 rfl ?_
        refine E_goto (tgt := 79) dX6_joiner_58 (by decide) ?_
        exact E_iret dX6_joiner_79 rfl ⟨_, rfl, rfl, h⟩
    have h := Eq.mp (if_neg hc) h
    have hc0 := hc
    clear hc
    by_cases hc : x1 = 1
    · have h := Eq.mp (if_pos hc) h
      refine E_tableIn (off := 67) (tgt := 80) dX6_joiner_13 (by omega) (by omega) (by rw [hc]; rfl) (by decide) ?_
      refine E_aload_n dX6_joiner_80 rfl rfl ?_
      refine E_getr (i := 0) dX6_joiner_81 fl_RX6_18 rfl rfl (go_6_0 _ _) ?_
      refine E_bp dX6_joiner_84 rfl ?_
      refine E_callV (Y' := Y_X10_isSign) (as := [vI 60]) (st := []) dX6_joiner_86 lk_RX6_193 m_X10_isSign (by decide) (Nat.le_refl _) (Nat.le_refl _) rfl rfl (Nat.le_of_ble_eq_true rfl) (s_X10_isSign h) (fun r0 B0 σ_7 h => ?_)
      obtain ⟨r_8, rfl, rfl, h⟩ := h
      refine E_if_eq (tgt := 97) dX6_joiner_89 (by decide) (fun hc => ?_) (fun hc => ?_)
      · have h := Eq.mp (if_pos hc) h
        refine E_aload_n dX6_joiner_97 rfl rfl ?_
        refine E_getr (i := 0) dX6_joiner_98 fl_RX6_18 rfl rfl (go_6_0 _ _) ?_
        refine E_bp dX6_joiner_101 rfl ?_
        refine E_callV (Y' := Y_X10_isSign) (as := [vI 61]) (st := []) dX6_joiner_103 lk_RX6_193 m_X10_isSign (by decide) (Nat.le_refl _) (Nat.le_refl _) rfl rfl (Nat.le_of_ble_eq_true rfl) (s_X10_isSign h) (fun r0 B0 σ_9 h => ?_)
        obtain ⟨r_10, rfl, rfl, h⟩ := h
        refine E_if_eq (tgt := 114) dX6_joiner_106 (by decide) (fun hc => ?_) (fun hc => ?_)
        · have h := Eq.mp (if_pos hc) h
          refine E_ic dX6_joiner_114 rfl ?_
          exact E_iret dX6_joiner_115 rfl ⟨_, rfl, rfl, h⟩
        · have h := Eq.mp (if_neg hc) h
          refine E_bp dX6_joiner_109 rfl ?_
          refine E_goto (tgt := 115) dX6_joiner_111 (by decide) ?_
          exact E_iret dX6_joiner_115 rfl ⟨_, rfl, rfl, h⟩
      · have h := Eq.mp (if_neg hc) h
        refine E_bp dX6_joiner_92 rfl ?_
        refine E_goto (tgt := 115) dX6_joiner_94 (by decide) ?_
        exact E_iret dX6_joiner_115 rfl ⟨_, rfl, rfl, h⟩
    have h := Eq.mp (if_neg hc) h
    have hc1 := hc
    clear hc
    by_cases hc : x1 = 2
    · have h := Eq.mp (if_pos hc) h
      refine E_tableIn (off := 103) (tgt := 116) dX6_joiner_13 (by omega) (by omega) (by rw [hc]; rfl) (by decide) ?_
      refine E_aload_n dX6_joiner_116 rfl rfl ?_
      refine E_getr (i := 0) dX6_joiner_117 fl_RX6_18 rfl rfl (go_6_0 _ _) ?_
      refine E_bp dX6_joiner_120 rfl ?_
      refine E_callV (Y' := Y_X10_isSign) (as := [vI 43]) (st := []) dX6_joiner_122 lk_RX6_193 m_X10_isSign (by decide) (Nat.le_refl _) (Nat.le_refl _) rfl rfl (Nat.le_of_ble_eq_true rfl) (s_X10_isSign h) (fun r0 B0 σ_11 h => ?_)
      obtain ⟨r_12, rfl, rfl, h⟩ := h
      refine E_if_eq (tgt := 133) dX6_joiner_125 (by decide) (fun hc => ?_) (fun hc => ?_)
      · have h := Eq.mp (if_pos hc) h
        refine E_aload_n dX6_joiner_133 rfl rfl ?_
        refine E_getr (i := 0) dX6_joiner_134 fl_RX6_18 rfl rfl (go_6_0 _ _) ?_
        refine E_bp dX6_joiner_137 rfl ?_
        refine E_callV (Y' := Y_X10_isSign) (as := [vI 45]) (st := []) dX6_joiner_139 lk_RX6_193 m_X10_isSign (by decide) (Nat.le_refl _) (Nat.le_refl _) rfl rfl (Nat.le_of_ble_eq_true rfl) (s_X10_isSign h) (fun r0 B0 σ_13 h => ?_)
        obtain ⟨r_14, rfl, rfl, h⟩ := h
        refine E_if_eq (tgt := 150) dX6_joiner_142 (by decide) (fun hc => ?_) (fun hc => ?_)
        · have h := Eq.mp (if_pos hc) h
          refine E_ic dX6_joiner_150 rfl ?_
          exact E_iret dX6_joiner_151 rfl ⟨_, rfl, rfl, h⟩
        · have h := Eq.mp (if_neg hc) h
          refine E_bp dX6_joiner_145 rfl ?_
          refine E_goto (tgt := 151) dX6_joiner_147 (by decide) ?_
          exact E_iret dX6_joiner_151 rfl ⟨_, rfl, rfl, h⟩
      · have h := Eq.mp (if_neg hc) h
        refine E_bp dX6_joiner_128 rfl ?_
        refine E_goto (tgt := 151) dX6_joiner_130 (by decide) ?_
        exact E_iret dX6_joiner_151 rfl ⟨_, rfl, rfl, h⟩
    have h := Eq.mp (if_neg hc) h
    have hc2 := hc
    clear hc
    by_cases hc : x1 = 3
    · have h := Eq.mp (if_pos hc) h
      refine E_tableIn (off := 139) (tgt := 152) dX6_joiner_13 (by omega) (by omega) (by rw [hc]; rfl) (by decide) ?_
      refine E_aload_n dX6_joiner_152 rfl rfl ?_
      refine E_getr (i := 0) dX6_joiner_153 fl_RX6_18 rfl rfl (go_6_0 _ _) ?_
      refine E_bp dX6_joiner_156 rfl ?_
      refine E_callV (Y' := Y_X10_isSign) (as := [vI 42]) (st := []) dX6_joiner_158 lk_RX6_193 m_X10_isSign (by decide) (Nat.le_refl _) (Nat.le_refl _) rfl rfl (Nat.le_of_ble_eq_true rfl) (s_X10_isSign h) (fun r0 B0 σ_15 h => ?_)
      obtain ⟨r_16, rfl, rfl, h⟩ := h
      refine E_if_eq (tgt := 169) dX6_joiner_161 (by decide) (fun hc => ?_) (fun hc => ?_)
      · have h := Eq.mp (if_pos hc) h
        refine E_ic dX6_joiner_169 rfl ?_
        exact E_iret dX6_joiner_170 rfl ⟨_, rfl, rfl, h⟩
      · have h := Eq.mp (if_neg hc) h
        refine E_bp dX6_joiner_164 rfl ?_
        refine E_goto (tgt := 170) dX6_joiner_166 (by decide) ?_
        exact E_iret dX6_joiner_170 rfl ⟨_, rfl, rfl, h⟩
    have h := Eq.mp (if_neg hc) h
    have hc3 := hc
    clear hc
    refine E_tableOut (tgt := 171) dX6_joiner_13 (by omega) (by decide) ?_
    refine E_ic dX6_joiner_171 rfl ?_
    exact E_iret dX6_joiner_172 rfl ⟨_, rfl, rfl, h⟩
  · have h := Eq.mp (if_pos hc) h
    refine E_ic dX6_joiner_10 rfl ?_
    exact E_iret dX6_joiner_11 rfl ⟨_, rfl, rfl, h⟩
