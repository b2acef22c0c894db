abbrev Y_X12_crowd : My := (yX12_crowd, cX12_crowd, 6, some .int)
theorem dX12_crowd_0 : decode cX12_crowd 0 = .ok (.aload_n 0, 1) := by decide +kernel
theorem dX12_crowd_1 : decode cX12_crowd 1 = .ok (.iconst 0, 1) := by decide +kernel
theorem dX12_crowd_2 : decode cX12_crowd 2 = .ok (.putfield 141, 3) := by decide +kernel
theorem dX12_crowd_5 : decode cX12_crowd 5 = .ok (.iconst (-1), 1) := by decide +kernel
theorem dX12_crowd_6 : decode cX12_crowd 6 = .ok (.istore_n 1, 1) := by decide +kernel
theorem dX12_crowd_7 : decode cX12_crowd 7 = .ok (.iconst 0, 1) := by decide +kernel
theorem dX12_crowd_8 : decode cX12_crowd 8 = .ok (.istore_n 2, 1) := by decide +kernel
theorem dX12_crowd_9 : decode cX12_crowd 9 = .ok (.iconst 0, 1) := by decide +kernel
theorem dX12_crowd_10 : decode cX12_crowd 10 = .ok (.istore_n 3, 1) := by decide +kernel
theorem dX12_crowd_11 : decode cX12_crowd 11 = .ok (.iload_n 3, 1) := by decide +kernel
theorem dX12_crowd_12 : decode cX12_crowd 12 = .ok (.aload_n 0, 1) := by decide +kernel
theorem dX12_crowd_13 : decode cX12_crowd 13 = .ok (.getfield 13, 3) := by decide +kernel
theorem dX12_crowd_16 : decode cX12_crowd 16 = .ok (.iconst 0, 1) := by decide +kernel
theorem dX12_crowd_17 : decode cX12_crowd 17 = .ok (.iaload, 1) := by decide +kernel
theorem dX12_crowd_18 : decode cX12_crowd 18 = .ok (.if_icmp .ge 66, 3) := by decide +kernel
theorem dX12_crowd_21 : decode cX12_crowd 21 = .ok (.iconst 0, 1) := by decide +kernel
theorem dX12_crowd_22 : decode cX12_crowd 22 = .ok (.istore 4, 2) := by decide +kernel
theorem dX12_crowd_24 : decode cX12_crowd 24 = .ok (.iconst 0, 1) := by decide +kernel
theorem dX12_crowd_25 : decode cX12_crowd 25 = .ok (.istore 5, 2) := by decide +kernel
theorem dX12_crowd_27 : decode cX12_crowd 27 = .ok (.iload 5, 2) := by decide +kernel
theorem dX12_crowd_29 : decode cX12_crowd 29 = .ok (.aload_n 0, 1) := by decide +kernel
theorem dX12_crowd_30 : decode cX12_crowd 30 = .ok (.getfield 13, 3) := by decide +kernel
theorem dX12_crowd_33 : decode cX12_crowd 33 = .ok (.iconst 1, 1) := by decide +kernel
theorem dX12_crowd_34 : decode cX12_crowd 34 = .ok (.iaload, 1) := by decide +kernel
theorem dX12_crowd_35 : decode cX12_crowd 35 = .ok (.if_icmp .ge 29, 3) := by decide +kernel
theorem dX12_crowd_38 : decode cX12_crowd 38 = .ok (.iload 4, 2) := by decide +kernel
theorem dX12_crowd_40 : decode cX12_crowd 40 = .ok (.aload_n 0, 1) := by decide +kernel
theorem dX12_crowd_41 : decode cX12_crowd 41 = .ok (.iload 5, 2) := by decide +kernel
theorem dX12_crowd_43 : decode cX12_crowd 43 = .ok (.invokevirtual 366, 3) := by decide +kernel
theorem dX12_crowd_46 : decode cX12_crowd 46 = .ok (.iload_n 3, 1) := by decide +kernel
theorem dX12_crowd_47 : decode cX12_crowd 47 = .ok (.if_icmp .ne 7, 3) := by decide +kernel
theorem dX12_crowd_50 : decode cX12_crowd 50 = .ok (.iconst 1, 1) := by decide +kernel
theorem dX12_crowd_51 : decode cX12_crowd 51 = .ok (.goto 4, 3) := by decide +kernel
theorem dX12_crowd_54 : decode cX12_crowd 54 = .ok (.iconst 0, 1) := by decide +kernel
theorem dX12_crowd_55 : decode cX12_crowd 55 = .ok (.iadd, 1) := by decide +kernel
theorem dX12_crowd_56 : decode cX12_crowd 56 = .ok (.istore 4, 2) := by decide +kernel
theorem dX12_crowd_58 : decode cX12_crowd 58 = .ok (.iinc 5 1, 3) := by decide +kernel
theorem dX12_crowd_61 : decode cX12_crowd 61 = .ok (.goto (-34), 3) := by decide +kernel
theorem dX12_crowd_64 : decode cX12_crowd 64 = .ok (.iload 4, 2) := by decide +kernel
theorem dX12_crowd_66 : decode cX12_crowd 66 = .ok (.iload_n 2, 1) := by decide +kernel
theorem dX12_crowd_67 : decode cX12_crowd 67 = .ok (.if_icmp .gt 6, 3) := by decide +kernel
theorem dX12_crowd_70 : decode cX12_crowd 70 = .ok (.goto 8, 3) := by decide +kernel
theorem dX12_crowd_73 : decode cX12_crowd 73 = .ok (.iload 4, 2) := by decide +kernel
theorem dX12_crowd_75 : decode cX12_crowd 75 = .ok (.istore_n 2, 1) := by decide +kernel
theorem dX12_crowd_76 : decode cX12_crowd 76 = .ok (.iload_n 3, 1) := by decide +kernel
theorem dX12_crowd_77 : decode cX12_crowd 77 = .ok (.istore_n 1, 1) := by decide +kernel
theorem dX12_crowd_78 : decode cX12_crowd 78 = .ok (.iinc 3 1, 3) := by decide +kernel
theorem dX12_crowd_81 : decode cX12_crowd 81 = .ok (.goto (-70), 3) := by decide +kernel
theorem dX12_crowd_84 : decode cX12_crowd 84 = .ok (.iload_n 1, 1) := by decide +kernel
theorem dX12_crowd_85 : decode cX12_crowd 85 = .ok (.ireturn, 1) := by decide +kernel
def P_X12_crowd_L27  (x1 : Int) (x2 : Int) (x3 : Int) (K : Int → St → Prop) (Q : Int → St → Prop) : Nat → Int → Int → St → Prop
  | 0, _, _, _ => False
  | n + 1, x4, x5, σ => (if (σ 1310 0 1) ≤ x5 then K x4 σ else P_X12_fallOf x5 σ (fun r_2 σ_1 => (if r_2 = x3 then (P_X12_crowd_L27 x1 x2 x3 K Q n) (wi (x4 + 1)) (wi (x5 + 1)) σ_1 else (P_X12_crowd_L27 x1 x2 x3 K Q n) (wi (x4 + 0)) (wi (x5 + 1)) σ_1)))
set_option maxRecDepth 20000 in
set_option maxHeartbeats 2000000 in
theorem e_P_X12_crowd_L27  {x1 : Int} {x2 : Int} {x3 : Int} {K : Int → St → Prop} {Q : Int → St → Prop}  (hK : ∀ x4 σ, K x4 σ → E Y_X12_crowd 2 0 0 (QI Q) ww 0 0 64 [some (vR 12 0), some (vI x1), some (vI x2), some (vI x3), some (vI x4), none] [] σ) : ∀ (n : Nat) (x4 : Int) (x5 : Int) (σ : St), P_X12_crowd_L27 x1 x2 x3 K Q n x4 x5 σ → E Y_X12_crowd 2 0 0 (QI Q) ww 0 0 27 [some (vR 12 0), some (vI x1), some (vI x2), some (vI x3), some (vI x4), some (vI x5)] [] σ := by
  intro n
  induction n with
  | zero => intro x4 x5 σ h; exact h.elim
  | succ n hR =>
    intro x4 x5 σ h
    unfold P_X12_crowd_L27 at h
    refine E_iload dX12_crowd_27 rfl ?_
    refine E_aload_n dX12_crowd_29 rfl rfl ?_
    refine E_getr (i := 0) dX12_crowd_30 fl_RX12_13 rfl rfl (go_12_10 _ _) ?_
    refine E_ic dX12_crowd_33 rfl ?_
    refine E_iald dX12_crowd_34 sh_1310 (by decide) (by decide) ?_
    refine E_icmp_ge (tgt := 64) dX12_crowd_35 (by decide) (fun hc => ?_) (fun hc => ?_)
    · have h := Eq.mp (if_pos hc) h
      refine E_wk2 [some (vR 12 0), some (vI x1), some (vI x2), some (vI x3), some (vI x4), none] ⟨rfl, ⟨rfl, ⟨rfl, ⟨rfl, ⟨rfl, trivial⟩⟩⟩⟩⟩ ?_
      exact hK _ _ h
    · have h := Eq.mp (if_neg hc) h
      refine E_iload dX12_crowd_38 rfl ?_
      refine E_aload_n dX12_crowd_40 rfl rfl ?_
      refine E_iload dX12_crowd_41 rfl ?_
      refine E_callV (Y' := Y_X12_fallOf) (as := [vI x5]) (st := [vI x4]) dX12_crowd_43 lk_RX12_366 m_X12_fallOf (by decide) (Nat.le_refl _) (Nat.le_refl _) rfl rfl (Nat.le_of_ble_eq_true rfl) (s_X12_fallOf h) (fun r0 B0 σ_1 h => ?_)
      obtain ⟨r_2, rfl, rfl, h⟩ := h
      refine E_iload_n dX12_crowd_46 rfl rfl ?_
      refine E_icmp_ne (tgt := 54) dX12_crowd_47 (by decide) (fun hc => ?_) (fun hc => ?_)
      · have h := Eq.mp (if_neg hc) h
        refine E_ic dX12_crowd_54 rfl ?_
        refine E_iadd dX12_crowd_55 ?_
        refine E_istore (ls' := [some (vR 12 0), some (vI x1), some (vI x2), some (vI x3), some (vI (wi (x4 + 0))), some (vI x5)]) dX12_crowd_56 (by decide) rfl ?_
        refine E_iinc (ls' := [some (vR 12 0), some (vI x1), some (vI x2), some (vI x3), some (vI (wi (x4 + 0))), some (vI (wi (x5 + 1)))]) dX12_crowd_58 rfl (by decide) rfl rfl ?_
        refine E_goto (tgt := 27) dX12_crowd_61 (by decide) ?_
        exact hR _ _ _ h
      · have h := Eq.mp (if_pos hc) h
        refine E_ic dX12_crowd_50 rfl ?_
        refine E_goto (tgt := 55) dX12_crowd_51 (by decide) ?_
        refine E_iadd dX12_crowd_55 ?_
        refine E_istore (ls' := [some (vR 12 0), some (vI x1), some (vI x2), some (vI x3), some (vI (wi (x4 + 1))), some (vI x5)]) dX12_crowd_56 (by decide) rfl ?_
        refine E_iinc (ls' := [some (vR 12 0), some (vI x1), some (vI x2), some (vI x3), some (vI (wi (x4 + 1))), some (vI (wi (x5 + 1)))]) dX12_crowd_58 rfl (by decide) rfl rfl ?_
        refine E_goto (tgt := 27) dX12_crowd_61 (by decide) ?_
        exact hR _ _ _ h
def P_X12_crowd_L11    (Q : Int → St → Prop) : Nat → Int → Int → Int → St → Prop
  | 0, _, _, _, _ => False
  | n + 1, x1, x2, x3, σ => (if (σ 1310 0 0) ≤ x3 then Q x1 σ else P_X12_crowd_L27 x1 x2 x3 (fun x4_3 σ_4 => (if x2 < x4_3 then (P_X12_crowd_L11 Q n) x3 x4_3 (wi (x3 + 1)) σ_4 else (P_X12_crowd_L11 Q n) x1 x2 (wi (x3 + 1)) σ_4)) Q FU 0 0 σ)
set_option maxRecDepth 20000 in
set_option maxHeartbeats 2000000 in
theorem e_P_X12_crowd_L11    {Q : Int → St → Prop}   : ∀ (n : Nat) (x1 : Int) (x2 : Int) (x3 : Int) (σ : St), P_X12_crowd_L11 Q n x1 x2 x3 σ → E Y_X12_crowd 2 0 0 (QI Q) ww 0 0 11 [some (vR 12 0), some (vI x1), some (vI x2), some (vI x3), none, none] [] σ := by
  intro n
  induction n with
  | zero => intro x1 x2 x3 σ h; exact h.elim
  | succ n hR =>
    intro x1 x2 x3 σ h
    unfold P_X12_crowd_L11 at h
    refine E_iload_n dX12_crowd_11 rfl rfl ?_
    refine E_aload_n dX12_crowd_12 rfl rfl ?_
    refine E_getr (i := 0) dX12_crowd_13 fl_RX12_13 rfl rfl (go_12_10 _ _) ?_
    refine E_ic dX12_crowd_16 rfl ?_
    refine E_iald dX12_crowd_17 sh_1310 (by decide) (by decide) ?_
    refine E_icmp_ge (tgt := 84) dX12_crowd_18 (by decide) (fun hc => ?_) (fun hc => ?_)
    · have h := Eq.mp (if_pos hc) h
      refine E_iload_n dX12_crowd_84 rfl rfl ?_
      exact E_iret dX12_crowd_85 rfl ⟨_, rfl, rfl, h⟩
    · have h := Eq.mp (if_neg hc) h
      refine E_ic dX12_crowd_21 rfl ?_
      refine E_istore (ls' := [some (vR 12 0), some (vI x1), some (vI x2), some (vI x3), some (vI 0), none]) dX12_crowd_22 (by decide) rfl ?_
      refine E_ic dX12_crowd_24 rfl ?_
      refine E_istore (ls' := [some (vR 12 0), some (vI x1), some (vI x2), some (vI x3), some (vI 0), some (vI 0)]) dX12_crowd_25 (by decide) rfl ?_
      refine e_P_X12_crowd_L27 ?_ _ _ _ _ h
      · intro x4_3 σ_4 h
        refine E_iload dX12_crowd_64 rfl ?_
        refine E_iload_n dX12_crowd_66 rfl rfl ?_
        refine E_icmp_gt (tgt := 73) dX12_crowd_67 (by decide) (fun hc => ?_) (fun hc => ?_)
        · have h := Eq.mp (if_pos hc) h
          refine E_iload dX12_crowd_73 rfl ?_
          refine E_istore_n (ls' := [some (vR 12 0), some (vI x1), some (vI x4_3), some (vI x3), some (vI x4_3), none]) dX12_crowd_75 rfl (by decide) rfl ?_
          refine E_iload_n dX12_crowd_76 rfl rfl ?_
          refine E_istore_n (ls' := [some (vR 12 0), some (vI x3), some (vI x4_3), some (vI x3), some (vI x4_3), none]) dX12_crowd_77 rfl (by decide) rfl ?_
          refine E_iinc (ls' := [some (vR 12 0), some (vI x3), some (vI x4_3), some (vI (wi (x3 + 1))), some (vI x4_3), none]) dX12_crowd_78 rfl (by decide) rfl rfl ?_
          refine E_goto (tgt := 11) dX12_crowd_81 (by decide) ?_
          refine E_wk2 [some (vR 12 0), some (vI x3), some (vI x4_3), some (vI (wi (x3 + 1))), none, none] ⟨rfl, ⟨rfl, ⟨rfl, ⟨rfl, trivial⟩⟩⟩⟩ ?_
          exact hR _ _ _ _ h
        · have h := Eq.mp (if_neg hc) h
          refine E_goto (tgt := 78) dX12_crowd_70 (by decide) ?_
          refine E_iinc (ls' := [some (vR 12 0), some (vI x1), some (vI x2), some (vI (wi (x3 + 1))), some (vI x4_3), none]) dX12_crowd_78 rfl (by decide) rfl rfl ?_
          refine E_goto (tgt := 11) dX12_crowd_81 (by decide) ?_
          refine E_wk2 [some (vR 12 0), some (vI x1), some (vI x2), some (vI (wi (x3 + 1))), none, none] ⟨rfl, ⟨rfl, ⟨rfl, ⟨rfl, trivial⟩⟩⟩⟩ ?_
          exact hR _ _ _ _ h
def P_X12_crowd   (σ : St) (Q : Int → St → Prop) : Prop :=
  P_X12_crowd_L11 Q FU (-1) 0 0 (up σ 12 0 0 0)
set_option maxRecDepth 20000 in
set_option maxHeartbeats 2000000 in
theorem s_X12_crowd    {σ : St} {Q : Int → St → Prop} (h : P_X12_crowd  σ Q) : Cn Y_X12_crowd 2 0 0 ww σ [vR 12 0] (QI Q) := by
  refine Cn_of [some (vR 12 0), none, none, none, none, none] (by decide) (Nat.le_of_ble_eq_true rfl) rfl ?_
  unfold P_X12_crowd at h
  refine E_aload_n dX12_crowd_0 rfl rfl ?_
  refine E_ic dX12_crowd_1 rfl ?_
  refine E_puti dX12_crowd_2 fl_RX12_141 rfl rfl rfl ?_
  refine E_ic dX12_crowd_5 rfl ?_
  refine E_istore_n (ls' := [some (vR 12 0), some (vI (-1)), none, none, none, none]) dX12_crowd_6 rfl (by decide) rfl ?_
  refine E_ic dX12_crowd_7 rfl ?_
  refine E_istore_n (ls' := [some (vR 12 0), some (vI (-1)), some (vI 0), none, none, none]) dX12_crowd_8 rfl (by decide) rfl ?_
  refine E_ic dX12_crowd_9 rfl ?_
  refine E_istore_n (ls' := [some (vR 12 0), some (vI (-1)), some (vI 0), some (vI 0), none, none]) dX12_crowd_10 rfl (by decide) rfl ?_
  refine e_P_X12_crowd_L11  _ _ _ _ _ h
abbrev Y_X12_shave : My := (yX12_shave, cX12_shave, 5, some .int)
theorem dX12_shave_0 : decode cX12_shave 0 = .ok (.aload_n 0, 1) := by decide +kernel
theorem dX12_shave_1 : decode cX12_shave 1 = .ok (.iconst 0, 1) := by decide +kernel
theorem dX12_shave_2 : decode cX12_shave 2 = .ok (.putfield 141, 3) := by decide +kernel
theorem dX12_shave_5 : decode cX12_shave 5 = .ok (.aload_n 0, 1) := by decide +kernel
theorem dX12_shave_6 : decode cX12_shave 6 = .ok (.iload_n 1, 1) := by decide +kernel
theorem dX12_shave_7 : decode cX12_shave 7 = .ok (.invokevirtual 406, 3) := by decide +kernel
theorem dX12_shave_10 : decode cX12_shave 10 = .ok (.ifCond .ne 5, 3) := by decide +kernel
theorem dX12_shave_13 : decode cX12_shave 13 = .ok (.iconst (-1), 1) := by decide +kernel
theorem dX12_shave_14 : decode cX12_shave 14 = .ok (.ireturn, 1) := by decide +kernel
theorem dX12_shave_15 : decode cX12_shave 15 = .ok (.iconst 0, 1) := by decide +kernel
theorem dX12_shave_16 : decode cX12_shave 16 = .ok (.istore_n 2, 1) := by decide +kernel
theorem dX12_shave_17 : decode cX12_shave 17 = .ok (.iload_n 2, 1) := by decide +kernel
theorem dX12_shave_18 : decode cX12_shave 18 = .ok (.bipush 60, 2) := by decide +kernel
theorem dX12_shave_20 : decode cX12_shave 20 = .ok (.if_icmp .ge 76, 3) := by decide +kernel
theorem dX12_shave_23 : decode cX12_shave 23 = .ok (.aload_n 0, 1) := by decide +kernel
theorem dX12_shave_24 : decode cX12_shave 24 = .ok (.getfield 111, 3) := by decide +kernel
theorem dX12_shave_27 : decode cX12_shave 27 = .ok (.bipush 16, 2) := by decide +kernel
theorem dX12_shave_29 : decode cX12_shave 29 = .ok (.iload_n 1, 1) := by decide +kernel
theorem dX12_shave_30 : decode cX12_shave 30 = .ok (.iadd, 1) := by decide +kernel
theorem dX12_shave_31 : decode cX12_shave 31 = .ok (.iaload, 1) := by decide +kernel
theorem dX12_shave_32 : decode cX12_shave 32 = .ok (.iload_n 2, 1) := by decide +kernel
theorem dX12_shave_33 : decode cX12_shave 33 = .ok (.isub, 1) := by decide +kernel
theorem dX12_shave_34 : decode cX12_shave 34 = .ok (.istore_n 3, 1) := by decide +kernel
theorem dX12_shave_35 : decode cX12_shave 35 = .ok (.aload_n 0, 1) := by decide +kernel
theorem dX12_shave_36 : decode cX12_shave 36 = .ok (.getfield 111, 3) := by decide +kernel
theorem dX12_shave_39 : decode cX12_shave 39 = .ok (.bipush 16, 2) := by decide +kernel
theorem dX12_shave_41 : decode cX12_shave 41 = .ok (.iload_n 1, 1) := by decide +kernel
theorem dX12_shave_42 : decode cX12_shave 42 = .ok (.iadd, 1) := by decide +kernel
theorem dX12_shave_43 : decode cX12_shave 43 = .ok (.iaload, 1) := by decide +kernel
theorem dX12_shave_44 : decode cX12_shave 44 = .ok (.iload_n 2, 1) := by decide +kernel
theorem dX12_shave_45 : decode cX12_shave 45 = .ok (.iadd, 1) := by decide +kernel
theorem dX12_shave_46 : decode cX12_shave 46 = .ok (.istore 4, 2) := by decide +kernel
theorem dX12_shave_48 : decode cX12_shave 48 = .ok (.iload_n 3, 1) := by decide +kernel
theorem dX12_shave_49 : decode cX12_shave 49 = .ok (.ifCond .le 17, 3) := by decide +kernel
theorem dX12_shave_52 : decode cX12_shave 52 = .ok (.aload_n 0, 1) := by decide +kernel
theorem dX12_shave_53 : decode cX12_shave 53 = .ok (.iload_n 3, 1) := by decide +kernel
theorem dX12_shave_54 : decode cX12_shave 54 = .ok (.invokevirtual 356, 3) := by decide +kernel
theorem dX12_shave_57 : decode cX12_shave 57 = .ok (.aload_n 0, 1) := by decide +kernel
theorem dX12_shave_58 : decode cX12_shave 58 = .ok (.getfield 35, 3) := by decide +kernel
theorem dX12_shave_61 : decode cX12_shave 61 = .ok (.iload_n 1, 1) := by decide +kernel
theorem dX12_shave_62 : decode cX12_shave 62 = .ok (.iaload, 1) := by decide +kernel
theorem dX12_shave_63 : decode cX12_shave 63 = .ok (.if_icmp .eq 25, 3) := by decide +kernel
theorem dX12_shave_66 : decode cX12_shave 66 = .ok (.iload 4, 2) := by decide +kernel
theorem dX12_shave_68 : decode cX12_shave 68 = .ok (.bipush 60, 2) := by decide +kernel
theorem dX12_shave_70 : decode cX12_shave 70 = .ok (.if_icmp .gt 20, 3) := by decide +kernel
theorem dX12_shave_73 : decode cX12_shave 73 = .ok (.aload_n 0, 1) := by decide +kernel
theorem dX12_shave_74 : decode cX12_shave 74 = .ok (.iload 4, 2) := by decide +kernel
theorem dX12_shave_76 : decode cX12_shave 76 = .ok (.invokevirtual 356, 3) := by decide +kernel
theorem dX12_shave_79 : decode cX12_shave 79 = .ok (.aload_n 0, 1) := by decide +kernel
theorem dX12_shave_80 : decode cX12_shave 80 = .ok (.getfield 35, 3) := by decide +kernel
theorem dX12_shave_83 : decode cX12_shave 83 = .ok (.iload_n 1, 1) := by decide +kernel
theorem dX12_shave_84 : decode cX12_shave 84 = .ok (.iaload, 1) := by decide +kernel
theorem dX12_shave_85 : decode cX12_shave 85 = .ok (.if_icmp .ne 5, 3) := by decide +kernel
theorem dX12_shave_88 : decode cX12_shave 88 = .ok (.iload_n 2, 1) := by decide +kernel
theorem dX12_shave_89 : decode cX12_shave 89 = .ok (.ireturn, 1) := by decide +kernel
theorem dX12_shave_90 : decode cX12_shave 90 = .ok (.iinc 2 1, 3) := by decide +kernel
theorem dX12_shave_93 : decode cX12_shave 93 = .ok (.goto (-76), 3) := by decide +kernel
theorem dX12_shave_96 : decode cX12_shave 96 = .ok (.iconst (-1), 1) := by decide +kernel
theorem dX12_shave_97 : decode cX12_shave 97 = .ok (.ireturn, 1) := by decide +kernel
def P_X12_shave_J66  (x1 : Int) (x2 : Int) (x4 : Int) (R : Int → St → Prop) (Q : Int → St → Prop) (σ : St) : Prop :=
  (if 60 < x4 then R (wi (x2 + 1)) σ else P_X12_fallsBy x4 σ (fun r_4 σ_3 => 0 ≤ x1 ∧ x1 < 12 ∧ (if r_4 = (σ_3 1317 0 x1) then Q x2 σ_3 else R (wi (x2 + 1)) σ_3)))
set_option maxRecDepth 20000 in
set_option maxHeartbeats 2000000 in
theorem e_P_X12_shave_J66  {x1 : Int} {x2 : Int} {x4 : Int} {R : Int → St → Prop} {Q : Int → St → Prop} {σ : St}  (hR : ∀ x2 σ, R x2 σ → E Y_X12_shave 1 0 0 (QI Q) ww 0 0 17 [some (vR 12 0), some (vI x1), some (vI x2), none, none] [] σ) (h : P_X12_shave_J66 x1 x2 x4 R Q σ) : E Y_X12_shave 1 0 0 (QI Q) ww 0 0 66 [some (vR 12 0), some (vI x1), some (vI x2), none, some (vI x4)] [] σ := by
  unfold P_X12_shave_J66 at h
  refine E_iload dX12_shave_66 rfl ?_
  refine E_bp dX12_shave_68 rfl ?_
  refine E_icmp_gt (tgt := 90) dX12_shave_70 (by decide) (fun hc => ?_) (fun hc => ?_)
  · have h := Eq.mp (if_pos hc) h
    refine E_iinc (ls' := [some (vR 12 0), some (vI x1), some (vI (wi (x2 + 1))), none, some (vI x4)]) dX12_shave_90 rfl (by decide) rfl rfl ?_
    refine E_goto (tgt := 17) dX12_shave_93 (by decide) ?_
    refine E_wk2 [some (vR 12 0), some (vI x1), some (vI (wi (x2 + 1))), none, none] ⟨rfl, ⟨rfl, ⟨rfl, trivial⟩⟩⟩ ?_
    exact hR _ _ h
  · have h := Eq.mp (if_neg hc) h
    refine E_aload_n dX12_shave_73 rfl rfl ?_
    refine E_iload dX12_shave_74 rfl ?_
    refine E_callV (Y' := Y_X12_fallsBy) (as := [vI x4]) (st := []) dX12_shave_76 lk_RX12_356 m_X12_fallsBy (by decide) (Nat.le_refl _) (Nat.le_refl _) rfl rfl (Nat.le_of_ble_eq_true rfl) (s_X12_fallsBy h) (fun r0 B0 σ_3 h => ?_)
    obtain ⟨r_4, rfl, rfl, h⟩ := h
    refine E_aload_n dX12_shave_79 rfl rfl ?_
    refine E_getr (i := 0) dX12_shave_80 fl_RX12_35 rfl rfl (go_12_17 _ _) ?_
    refine E_iload_n dX12_shave_83 rfl rfl ?_
    obtain ⟨hg0, hg1, h⟩ := h
    refine E_iald dX12_shave_84 sh_1317 hg0 hg1 ?_
    refine E_icmp_ne (tgt := 90) dX12_shave_85 (by decide) (fun hc => ?_) (fun hc => ?_)
    · have h := Eq.mp (if_neg hc) h
      refine E_iinc (ls' := [some (vR 12 0), some (vI x1), some (vI (wi (x2 + 1))), none, some (vI x4)]) dX12_shave_90 rfl (by decide) rfl rfl ?_
      refine E_goto (tgt := 17) dX12_shave_93 (by decide) ?_
      refine E_wk2 [some (vR 12 0), some (vI x1), some (vI (wi (x2 + 1))), none, none] ⟨rfl, ⟨rfl, ⟨rfl, trivial⟩⟩⟩ ?_
      exact hR _ _ h
    · have h := Eq.mp (if_pos hc) h
      refine E_iload_n dX12_shave_88 rfl rfl ?_
      exact E_iret dX12_shave_89 rfl ⟨_, rfl, rfl, h⟩
def P_X12_shave_L17  (x1 : Int)  (Q : Int → St → Prop) : Nat → Int → St → Prop
  | 0, _, _ => False
  | n + 1, x2, σ => (if 60 ≤ x2 then Q (-1) σ else 0 ≤ wi (16 + x1) ∧ wi (16 + x1) < 46 ∧ 0 ≤ wi (16 + x1) ∧ wi (16 + x1) < 46 ∧ (if (wi ((σ 1346 0 (wi (16 + x1))) - x2)) ≤ 0 then P_X12_shave_J66 x1 x2 (wi ((σ 1346 0 (wi (16 + x1))) + x2)) (P_X12_shave_L17 x1 Q n) Q σ else P_X12_fallsBy (wi ((σ 1346 0 (wi (16 + x1))) - x2)) σ (fun r_6 σ_5 => 0 ≤ x1 ∧ x1 < 12 ∧ (if r_6 = (σ_5 1317 0 x1) then Q x2 σ_5 else P_X12_shave_J66 x1 x2 (wi ((σ 1346 0 (wi (16 + x1))) + x2)) (P_X12_shave_L17 x1 Q n) Q σ_5))))
set_option maxRecDepth 20000 in
set_option maxHeartbeats 2000000 in
theorem e_P_X12_shave_L17  {x1 : Int}  {Q : Int → St → Prop}   : ∀ (n : Nat) (x2 : Int) (σ : St), P_X12_shave_L17 x1 Q n x2 σ → E Y_X12_shave 1 0 0 (QI Q) ww 0 0 17 [some (vR 12 0), some (vI x1), some (vI x2), none, none] [] σ := by
  intro n
  induction n with
  | zero => intro x2 σ h; exact h.elim
  | succ n hR =>
    intro x2 σ h
    unfold P_X12_shave_L17 at h
    refine E_iload_n dX12_shave_17 rfl rfl ?_
    refine E_bp dX12_shave_18 rfl ?_
    refine E_icmp_ge (tgt := 96) dX12_shave_20 (by decide) (fun hc => ?_) (fun hc => ?_)
    · have h := Eq.mp (if_pos hc) h
      refine E_ic dX12_shave_96 rfl ?_
      exact E_iret dX12_shave_97 rfl ⟨_, rfl, rfl, h⟩
    · have h := Eq.mp (if_neg hc) h
      refine E_aload_n dX12_shave_23 rfl rfl ?_
      refine E_getr (i := 0) dX12_shave_24 fl_RX12_111 rfl rfl (go_12_46 _ _) ?_
      refine E_bp dX12_shave_27 rfl ?_
      refine E_iload_n dX12_shave_29 rfl rfl ?_
      refine E_iadd dX12_shave_30 ?_
      obtain ⟨hg0, hg1, h⟩ := h
      refine E_iald dX12_shave_31 sh_1346 hg0 hg1 ?_
      refine E_iload_n dX12_shave_32 rfl rfl ?_
      refine E_isub dX12_shave_33 ?_
      refine E_istore_n (ls' := [some (vR 12 0), some (vI x1), some (vI x2), some (vI (wi ((σ 1346 0 (wi (16 + x1))) - x2))), none]) dX12_shave_34 rfl (by decide) rfl ?_
      refine E_aload_n dX12_shave_35 rfl rfl ?_
      refine E_getr (i := 0) dX12_shave_36 fl_RX12_111 rfl rfl (go_12_46 _ _) ?_
      refine E_bp dX12_shave_39 rfl ?_
      refine E_iload_n dX12_shave_41 rfl rfl ?_
      refine E_iadd dX12_shave_42 ?_
      obtain ⟨hg0, hg1, h⟩ := h
      refine E_iald dX12_shave_43 sh_1346 hg0 hg1 ?_
      refine E_iload_n dX12_shave_44 rfl rfl ?_
      refine E_iadd dX12_shave_45 ?_
      refine E_istore (ls' := [some (vR 12 0), some (vI x1), some (vI x2), some (vI (wi ((σ 1346 0 (wi (16 + x1))) - x2))), some (vI (wi ((σ 1346 0 (wi (16 + x1))) + x2)))]) dX12_shave_46 (by decide) rfl ?_
      refine E_iload_n dX12_shave_48 rfl rfl ?_
      refine E_if_le (tgt := 66) dX12_shave_49 (by decide) (fun hc => ?_) (fun hc => ?_)
      · have h := Eq.mp (if_pos hc) h
        refine E_wk2 [some (vR 12 0), some (vI x1), some (vI x2), none, some (vI (wi ((σ 1346 0 (wi (16 + x1))) + x2)))] ⟨rfl, ⟨rfl, ⟨rfl, ⟨rfl, trivial⟩⟩⟩⟩ ?_
        exact e_P_X12_shave_J66 hR h
      · have h := Eq.mp (if_neg hc) h
        refine E_aload_n dX12_shave_52 rfl rfl ?_
        refine E_iload_n dX12_shave_53 rfl rfl ?_
        refine E_callV (Y' := Y_X12_fallsBy) (as := [vI (wi ((σ 1346 0 (wi (16 + x1))) - x2))]) (st := []) dX12_shave_54 lk_RX12_356 m_X12_fallsBy (by decide) (Nat.le_refl _) (Nat.le_refl _) rfl rfl (Nat.le_of_ble_eq_true rfl) (s_X12_fallsBy h) (fun r0 B0 σ_5 h => ?_)
        obtain ⟨r_6, rfl, rfl, h⟩ := h
        refine E_aload_n dX12_shave_57 rfl rfl ?_
        refine E_getr (i := 0) dX12_shave_58 fl_RX12_35 rfl rfl (go_12_17 _ _) ?_
        refine E_iload_n dX12_shave_61 rfl rfl ?_
        obtain ⟨hg0, hg1, h⟩ := h
        refine E_iald dX12_shave_62 sh_1317 hg0 hg1 ?_
        refine E_icmp_eq (tgt := 88) dX12_shave_63 (by decide) (fun hc => ?_) (fun hc => ?_)
        · have h := Eq.mp (if_pos hc) h
          refine E_iload_n dX12_shave_88 rfl rfl ?_
          exact E_iret dX12_shave_89 rfl ⟨_, rfl, rfl, h⟩
        · have h := Eq.mp (if_neg hc) h
          refine E_wk2 [some (vR 12 0), some (vI x1), some (vI x2), none, some (vI (wi ((σ 1346 0 (wi (16 + x1))) + x2)))] ⟨rfl, ⟨rfl, ⟨rfl, ⟨rfl, trivial⟩⟩⟩⟩ ?_
          exact e_P_X12_shave_J66 hR h
def P_X12_shave  (x1 : Int) (σ : St) (Q : Int → St → Prop) : Prop :=
  P_X12_isBall x1 (up σ 12 0 0 0) (fun r_2 σ_1 => (if r_2 = 0 then Q (-1) σ_1 else P_X12_shave_L17 x1 Q FU 0 σ_1))
set_option maxRecDepth 20000 in
set_option maxHeartbeats 2000000 in
theorem s_X12_shave   {x1 : Int} {σ : St} {Q : Int → St → Prop} (h : P_X12_shave x1 σ Q) : Cn Y_X12_shave 1 0 0 ww σ [vR 12 0, vI x1] (QI Q) := by
  refine Cn_of [some (vR 12 0), some (vI x1), none, none, none] (by decide) (Nat.le_of_ble_eq_true rfl) rfl ?_
  unfold P_X12_shave at h
  refine E_aload_n dX12_shave_0 rfl rfl ?_
  refine E_ic dX12_shave_1 rfl ?_
  refine E_puti dX12_shave_2 fl_RX12_141 rfl rfl rfl ?_
  refine E_aload_n dX12_shave_5 rfl rfl ?_
  refine E_iload_n dX12_shave_6 rfl rfl ?_
  refine E_callV (Y' := Y_X12_isBall) (as := [vI x1]) (st := []) dX12_shave_7 lk_RX12_406 m_X12_isBall (by decide) (Nat.le_refl _) (Nat.le_refl _) rfl rfl (Nat.le_of_ble_eq_true rfl) (s_X12_isBall h) (fun r0 B0 σ_1 h => ?_)
  obtain ⟨r_2, rfl, rfl, h⟩ := h
  refine E_if_ne (tgt := 15) dX12_shave_10 (by decide) (fun hc => ?_) (fun hc => ?_)
  · have h := Eq.mp (if_neg hc) h
    refine E_ic dX12_shave_15 rfl ?_
    refine E_istore_n (ls' := [some (vR 12 0), some (vI x1), some (vI 0), none, none]) dX12_shave_16 rfl (by decide) rfl ?_
    refine e_P_X12_shave_L17  _ _ _ h
  · have h := Eq.mp (if_pos hc) h
    refine E_ic dX12_shave_13 rfl ?_
    exact E_iret dX12_shave_14 rfl ⟨_, rfl, rfl, h⟩
abbrev Y_X12_homeNow : My := (yX12_homeNow, cX12_homeNow, 3, some .int)
theorem dX12_homeNow_0 : decode cX12_homeNow 0 = .ok (.iconst 0, 1) := by decide +kernel
theorem dX12_homeNow_1 : decode cX12_homeNow 1 = .ok (.istore_n 1, 1) := by decide +kernel
theorem dX12_homeNow_2 : decode cX12_homeNow 2 = .ok (.iconst 0, 1) := by decide +kernel
theorem dX12_homeNow_3 : decode cX12_homeNow 3 = .ok (.istore_n 2, 1) := by decide +kernel
theorem dX12_homeNow_4 : decode cX12_homeNow 4 = .ok (.iload_n 2, 1) := by decide +kernel
theorem dX12_homeNow_5 : decode cX12_homeNow 5 = .ok (.aload_n 0, 1) := by decide +kernel
theorem dX12_homeNow_6 : decode cX12_homeNow 6 = .ok (.getfield 13, 3) := by decide +kernel
theorem dX12_homeNow_9 : decode cX12_homeNow 9 = .ok (.iconst 1, 1) := by decide +kernel
theorem dX12_homeNow_10 : decode cX12_homeNow 10 = .ok (.iaload, 1) := by decide +kernel
theorem dX12_homeNow_11 : decode cX12_homeNow 11 = .ok (.if_icmp .ge 31, 3) := by decide +kernel
theorem dX12_homeNow_14 : decode cX12_homeNow 14 = .ok (.iload_n 1, 1) := by decide +kernel
theorem dX12_homeNow_15 : decode cX12_homeNow 15 = .ok (.aload_n 0, 1) := by decide +kernel
theorem dX12_homeNow_16 : decode cX12_homeNow 16 = .ok (.iload_n 2, 1) := by decide +kernel
theorem dX12_homeNow_17 : decode cX12_homeNow 17 = .ok (.invokevirtual 366, 3) := by decide +kernel
theorem dX12_homeNow_20 : decode cX12_homeNow 20 = .ok (.aload_n 0, 1) := by decide +kernel
theorem dX12_homeNow_21 : decode cX12_homeNow 21 = .ok (.getfield 35, 3) := by decide +kernel
theorem dX12_homeNow_24 : decode cX12_homeNow 24 = .ok (.iload_n 2, 1) := by decide +kernel
theorem dX12_homeNow_25 : decode cX12_homeNow 25 = .ok (.iaload, 1) := by decide +kernel
theorem dX12_homeNow_26 : decode cX12_homeNow 26 = .ok (.if_icmp .ne 7, 3) := by decide +kernel
theorem dX12_homeNow_29 : decode cX12_homeNow 29 = .ok (.iconst 1, 1) := by decide +kernel
theorem dX12_homeNow_30 : decode cX12_homeNow 30 = .ok (.goto 4, 3) := by decide +kernel
theorem dX12_homeNow_33 : decode cX12_homeNow 33 = .ok (.iconst 0, 1) := by decide +kernel
theorem dX12_homeNow_34 : decode cX12_homeNow 34 = .ok (.iadd, 1) := by decide +kernel
theorem dX12_homeNow_35 : decode cX12_homeNow 35 = .ok (.istore_n 1, 1) := by decide +kernel
theorem dX12_homeNow_36 : decode cX12_homeNow 36 = .ok (.iinc 2 1, 3) := by decide +kernel
theorem dX12_homeNow_39 : decode cX12_homeNow 39 = .ok (.goto (-35), 3) := by decide +kernel
theorem dX12_homeNow_42 : decode cX12_homeNow 42 = .ok (.iload_n 1, 1) := by decide +kernel
theorem dX12_homeNow_43 : decode cX12_homeNow 43 = .ok (.ireturn, 1) := by decide +kernel
def P_X12_homeNow_L4    (Q : Int → St → Prop) : Nat → Int → Int → St → Prop
  | 0, _, _, _ => False
  | n + 1, x1, x2, σ => (if (σ 1310 0 1) ≤ x2 then Q x1 σ else P_X12_fallOf x2 σ (fun r_2 σ_1 => 0 ≤ x2 ∧ x2 < 12 ∧ (if r_2 = (σ_1 1317 0 x2) then (P_X12_homeNow_L4 Q n) (wi (x1 + 1)) (wi (x2 + 1)) σ_1 else (P_X12_homeNow_L4 Q n) (wi (x1 + 0)) (wi (x2 + 1)) σ_1)))
set_option maxRecDepth 20000 in
set_option maxHeartbeats 2000000 in
theorem e_P_X12_homeNow_L4    {Q : Int → St → Prop}   : ∀ (n : Nat) (x1 : Int) (x2 : Int) (σ : St), P_X12_homeNow_L4 Q n x1 x2 σ → E Y_X12_homeNow 2 0 0 (QI Q) ww 0 0 4 [some (vR 12 0), some (vI x1), some (vI x2)] [] σ := by
  intro n
  induction n with
  | zero => intro x1 x2 σ h; exact h.elim
  | succ n hR =>
    intro x1 x2 σ h
    unfold P_X12_homeNow_L4 at h
    refine E_iload_n dX12_homeNow_4 rfl rfl ?_
    refine E_aload_n dX12_homeNow_5 rfl rfl ?_
    refine E_getr (i := 0) dX12_homeNow_6 fl_RX12_13 rfl rfl (go_12_10 _ _) ?_
    refine E_ic dX12_homeNow_9 rfl ?_
    refine E_iald dX12_homeNow_10 sh_1310 (by decide) (by decide) ?_
    refine E_icmp_ge (tgt := 42) dX12_homeNow_11 (by decide) (fun hc => ?_) (fun hc => ?_)
    · have h := Eq.mp (if_pos hc) h
      refine E_iload_n dX12_homeNow_42 rfl rfl ?_
      exact E_iret dX12_homeNow_43 rfl ⟨_, rfl, rfl, h⟩
    · have h := Eq.mp (if_neg hc) h
      refine E_iload_n dX12_homeNow_14 rfl rfl ?_
      refine E_aload_n dX12_homeNow_15 rfl rfl ?_
      refine E_iload_n dX12_homeNow_16 rfl rfl ?_
      refine E_callV (Y' := Y_X12_fallOf) (as := [vI x2]) (st := [vI x1]) dX12_homeNow_17 lk_RX12_366 m_X12_fallOf (by decide) (Nat.le_refl _) (Nat.le_refl _) rfl rfl (Nat.le_of_ble_eq_true rfl) (s_X12_fallOf h) (fun r0 B0 σ_1 h => ?_)
      obtain ⟨r_2, rfl, rfl, h⟩ := h
      refine E_aload_n dX12_homeNow_20 rfl rfl ?_
      refine E_getr (i := 0) dX12_homeNow_21 fl_RX12_35 rfl rfl (go_12_17 _ _) ?_
      refine E_iload_n dX12_homeNow_24 rfl rfl ?_
      obtain ⟨hg0, hg1, h⟩ := h
      refine E_iald dX12_homeNow_25 sh_1317 hg0 hg1 ?_
      refine E_icmp_ne (tgt := 33) dX12_homeNow_26 (by decide) (fun hc => ?_) (fun hc => ?_)
      · have h := Eq.mp (if_neg hc) h
        refine E_ic dX12_homeNow_33 rfl ?_
        refine E_iadd dX12_homeNow_34 ?_
        refine E_istore_n (ls' := [some (vR 12 0), some (vI (wi (x1 + 0))), some (vI x2)]) dX12_homeNow_35 rfl (by decide) rfl ?_
        refine E_iinc (ls' := [some (vR 12 0), some (vI (wi (x1 + 0))), some (vI (wi (x2 + 1)))]) dX12_homeNow_36 rfl (by decide) rfl rfl ?_
        refine E_goto (tgt := 4) dX12_homeNow_39 (by decide) ?_
        exact hR _ _ _ h
      · have h := Eq.mp (if_pos hc) h
        refine E_ic dX12_homeNow_29 rfl ?_
        refine E_goto (tgt := 34) dX12_homeNow_30 (by decide) ?_
        refine E_iadd dX12_homeNow_34 ?_
        refine E_istore_n (ls' := [some (vR 12 0), some (vI (wi (x1 + 1))), some (vI x2)]) dX12_homeNow_35 rfl (by decide) rfl ?_
        refine E_iinc (ls' := [some (vR 12 0), some (vI (wi (x1 + 1))), some (vI (wi (x2 + 1)))]) dX12_homeNow_36 rfl (by decide) rfl rfl ?_
        refine E_goto (tgt := 4) dX12_homeNow_39 (by decide) ?_
        exact hR _ _ _ h
def P_X12_homeNow   (σ : St) (Q : Int → St → Prop) : Prop :=
  P_X12_homeNow_L4 Q FU 0 0 σ
set_option maxRecDepth 20000 in
set_option maxHeartbeats 2000000 in
theorem s_X12_homeNow    {σ : St} {Q : Int → St → Prop} (h : P_X12_homeNow  σ Q) : Cn Y_X12_homeNow 2 0 0 ww σ [vR 12 0] (QI Q) := by
  refine Cn_of [some (vR 12 0), none, none] (by decide) (Nat.le_of_ble_eq_true rfl) rfl ?_
  unfold P_X12_homeNow at h
  refine E_ic dX12_homeNow_0 rfl ?_
  refine E_istore_n (ls' := [some (vR 12 0), some (vI 0), none]) dX12_homeNow_1 rfl (by decide) rfl ?_
  refine E_ic dX12_homeNow_2 rfl ?_
  refine E_istore_n (ls' := [some (vR 12 0), some (vI 0), some (vI 0)]) dX12_homeNow_3 rfl (by decide) rfl ?_
  refine e_P_X12_homeNow_L4  _ _ _ _ h
abbrev Y_X12_homeAt : My := (yX12_homeAt, cX12_homeAt, 6, some .int)
theorem dX12_homeAt_0 : decode cX12_homeAt 0 = .ok (.iconst 0, 1) := by decide +kernel
theorem dX12_homeAt_1 : decode cX12_homeAt 1 = .ok (.istore 4, 2) := by decide +kernel
theorem dX12_homeAt_3 : decode cX12_homeAt 3 = .ok (.iconst 0, 1) := by decide +kernel
theorem dX12_homeAt_4 : decode cX12_homeAt 4 = .ok (.istore 5, 2) := by decide +kernel
theorem dX12_homeAt_6 : decode cX12_homeAt 6 = .ok (.iload 5, 2) := by decide +kernel
theorem dX12_homeAt_8 : decode cX12_homeAt 8 = .ok (.aload_n 0, 1) := by decide +kernel
theorem dX12_homeAt_9 : decode cX12_homeAt 9 = .ok (.getfield 13, 3) := by decide +kernel
theorem dX12_homeAt_12 : decode cX12_homeAt 12 = .ok (.iconst 1, 1) := by decide +kernel
theorem dX12_homeAt_13 : decode cX12_homeAt 13 = .ok (.iaload, 1) := by decide +kernel
theorem dX12_homeAt_14 : decode cX12_homeAt 14 = .ok (.if_icmp .ge 58, 3) := by decide +kernel
theorem dX12_homeAt_17 : decode cX12_homeAt 17 = .ok (.iload 4, 2) := by decide +kernel
theorem dX12_homeAt_19 : decode cX12_homeAt 19 = .ok (.aload_n 0, 1) := by decide +kernel
theorem dX12_homeAt_20 : decode cX12_homeAt 20 = .ok (.getfield 35, 3) := by decide +kernel
theorem dX12_homeAt_23 : decode cX12_homeAt 23 = .ok (.iload 5, 2) := by decide +kernel
theorem dX12_homeAt_25 : decode cX12_homeAt 25 = .ok (.iaload, 1) := by decide +kernel
theorem dX12_homeAt_26 : decode cX12_homeAt 26 = .ok (.iload_n 1, 1) := by decide +kernel
theorem dX12_homeAt_27 : decode cX12_homeAt 27 = .ok (.if_icmp .ne 35, 3) := by decide +kernel
theorem dX12_homeAt_30 : decode cX12_homeAt 30 = .ok (.aload_n 0, 1) := by decide +kernel
theorem dX12_homeAt_31 : decode cX12_homeAt 31 = .ok (.getfield 111, 3) := by decide +kernel
theorem dX12_homeAt_34 : decode cX12_homeAt 34 = .ok (.bipush 16, 2) := by decide +kernel
theorem dX12_homeAt_36 : decode cX12_homeAt 36 = .ok (.iload 5, 2) := by decide +kernel
theorem dX12_homeAt_38 : decode cX12_homeAt 38 = .ok (.iadd, 1) := by decide +kernel
theorem dX12_homeAt_39 : decode cX12_homeAt 39 = .ok (.iaload, 1) := by decide +kernel
theorem dX12_homeAt_40 : decode cX12_homeAt 40 = .ok (.iload_n 2, 1) := by decide +kernel
theorem dX12_homeAt_41 : decode cX12_homeAt 41 = .ok (.if_icmp .le 21, 3) := by decide +kernel
theorem dX12_homeAt_44 : decode cX12_homeAt 44 = .ok (.aload_n 0, 1) := by decide +kernel
theorem dX12_homeAt_45 : decode cX12_homeAt 45 = .ok (.getfield 111, 3) := by decide +kernel
theorem dX12_homeAt_48 : decode cX12_homeAt 48 = .ok (.bipush 16, 2) := by decide +kernel
theorem dX12_homeAt_50 : decode cX12_homeAt 50 = .ok (.iload 5, 2) := by decide +kernel
theorem dX12_homeAt_52 : decode cX12_homeAt 52 = .ok (.iadd, 1) := by decide +kernel
theorem dX12_homeAt_53 : decode cX12_homeAt 53 = .ok (.iaload, 1) := by decide +kernel
theorem dX12_homeAt_54 : decode cX12_homeAt 54 = .ok (.iload_n 3, 1) := by decide +kernel
theorem dX12_homeAt_55 : decode cX12_homeAt 55 = .ok (.if_icmp .gt 7, 3) := by decide +kernel
theorem dX12_homeAt_58 : decode cX12_homeAt 58 = .ok (.iconst 1, 1) := by decide +kernel
theorem dX12_homeAt_59 : decode cX12_homeAt 59 = .ok (.goto 4, 3) := by decide +kernel
theorem dX12_homeAt_62 : decode cX12_homeAt 62 = .ok (.iconst 0, 1) := by decide +kernel
theorem dX12_homeAt_63 : decode cX12_homeAt 63 = .ok (.iadd, 1) := by decide +kernel
theorem dX12_homeAt_64 : decode cX12_homeAt 64 = .ok (.istore 4, 2) := by decide +kernel
theorem dX12_homeAt_66 : decode cX12_homeAt 66 = .ok (.iinc 5 1, 3) := by decide +kernel
theorem dX12_homeAt_69 : decode cX12_homeAt 69 = .ok (.goto (-63), 3) := by decide +kernel
theorem dX12_homeAt_72 : decode cX12_homeAt 72 = .ok (.iload 4, 2) := by decide +kernel
theorem dX12_homeAt_74 : decode cX12_homeAt 74 = .ok (.ireturn, 1) := by decide +kernel
def P_X12_homeAt_J62  (x1 : Int) (x2 : Int) (x3 : Int) (x5 : Int) (y0 : Int) (R : Int → Int → St → Prop) (Q : Int → St → Prop) (σ : St) : Prop :=
  R (wi (y0 + 0)) (wi (x5 + 1)) σ
set_option maxRecDepth 20000 in
set_option maxHeartbeats 2000000 in
theorem e_P_X12_homeAt_J62  {x1 : Int} {x2 : Int} {x3 : Int} {x5 : Int} {y0 : Int} {R : Int → Int → St → Prop} {Q : Int → St → Prop} {σ : St}  (hR : ∀ x4 x5 σ, R x4 x5 σ → E Y_X12_homeAt 0 0 0 (QI Q) ww 0 0 6 [some (vR 12 0), some (vI x1), some (vI x2), some (vI x3), some (vI x4), some (vI x5)] [] σ) (h : P_X12_homeAt_J62 x1 x2 x3 x5 y0 R Q σ) : E Y_X12_homeAt 0 0 0 (QI Q) ww 0 0 62 [some (vR 12 0), some (vI x1), some (vI x2), some (vI x3), none, some (vI x5)] [vI y0] σ := by
  unfold P_X12_homeAt_J62 at h
  refine E_ic dX12_homeAt_62 rfl ?_
  refine E_iadd dX12_homeAt_63 ?_
  refine E_istore (ls' := [some (vR 12 0), some (vI x1), some (vI x2), some (vI x3), some (vI (wi (y0 + 0))), some (vI x5)]) dX12_homeAt_64 (by decide) rfl ?_
  refine E_iinc (ls' := [some (vR 12 0), some (vI x1), some (vI x2), some (vI x3), some (vI (wi (y0 + 0))), some (vI (wi (x5 + 1)))]) dX12_homeAt_66 rfl (by decide) rfl rfl ?_
  refine E_goto (tgt := 6) dX12_homeAt_69 (by decide) ?_
  exact hR _ _ _ h
def P_X12_homeAt_L6  (x1 : Int) (x2 : Int) (x3 : Int)  (Q : Int → St → Prop) : Nat → Int → Int → St → Prop
  | 0, _, _, _ => False
  | n + 1, x4, x5, σ => (if (σ 1310 0 1) ≤ x5 then Q x4 σ else 0 ≤ x5 ∧ x5 < 12 ∧ (if (σ 1317 0 x5) = x1 then 0 ≤ wi (16 + x5) ∧ wi (16 + x5) < 46 ∧ (if (σ 1346 0 (wi (16 + x5))) ≤ x2 then P_X12_homeAt_J62 x1 x2 x3 x5 x4 (P_X12_homeAt_L6 x1 x2 x3 Q n) Q σ else 0 ≤ wi (16 + x5) ∧ wi (16 + x5) < 46 ∧ (if x3 < (σ 1346 0 (wi (16 + x5))) then P_X12_homeAt_J62 x1 x2 x3 x5 x4 (P_X12_homeAt_L6 x1 x2 x3 Q n) Q σ else (P_X12_homeAt_L6 x1 x2 x3 Q n) (wi (x4 + 1)) (wi (x5 + 1)) σ)) else P_X12_homeAt_J62 x1 x2 x3 x5 x4 (P_X12_homeAt_L6 x1 x2 x3 Q n) Q σ))
set_option maxRecDepth 20000 in
set_option maxHeartbeats 2000000 in
theorem e_P_X12_homeAt_L6  {x1 : Int} {x2 : Int} {x3 : Int}  {Q : Int → St → Prop}   : ∀ (n : Nat) (x4 : Int) (x5 : Int) (σ : St), P_X12_homeAt_L6 x1 x2 x3 Q n x4 x5 σ → E Y_X12_homeAt 0 0 0 (QI Q) ww 0 0 6 [some (vR 12 0), some (vI x1), some (vI x2), some (vI x3), some (vI x4), some (vI x5)] [] σ := by
  intro n
  induction n with
  | zero => intro x4 x5 σ h; exact h.elim
  | succ n hR =>
    intro x4 x5 σ h
    unfold P_X12_homeAt_L6 at h
    refine E_iload dX12_homeAt_6 rfl ?_
    refine E_aload_n dX12_homeAt_8 rfl rfl ?_
    refine E_getr (i := 0) dX12_homeAt_9 fl_RX12_13 rfl rfl (go_12_10 _ _) ?_
    refine E_ic dX12_homeAt_12 rfl ?_
    refine E_iald dX12_homeAt_13 sh_1310 (by decide) (by decide) ?_
    refine E_icmp_ge (tgt := 72) dX12_homeAt_14 (by decide) (fun hc => ?_) (fun hc => ?_)
    · have h := Eq.mp (if_pos hc) h
      refine E_iload dX12_homeAt_72 rfl ?_
      exact E_iret dX12_homeAt_74 rfl ⟨_, rfl, rfl, h⟩
    · have h := Eq.mp (if_neg hc) h
      refine E_iload dX12_homeAt_17 rfl ?_
      refine E_aload_n dX12_homeAt_19 rfl rfl ?_
      refine E_getr (i := 0) dX12_homeAt_20 fl_RX12_35 rfl rfl (go_12_17 _ _) ?_
      refine E_iload dX12_homeAt_23 rfl ?_
      obtain ⟨hg0, hg1, h⟩ := h
      refine E_iald dX12_homeAt_25 sh_1317 hg0 hg1 ?_
      refine E_iload_n dX12_homeAt_26 rfl rfl ?_
      refine E_icmp_ne (tgt := 62) dX12_homeAt_27 (by decide) (fun hc => ?_) (fun hc => ?_)
      · have h := Eq.mp (if_neg hc) h
        refine E_wk2 [some (vR 12 0), some (vI x1), some (vI x2), some (vI x3), none, some (vI x5)] ⟨rfl, ⟨rfl, ⟨rfl, ⟨rfl, ⟨rfl, trivial⟩⟩⟩⟩⟩ ?_
        exact e_P_X12_homeAt_J62 hR h
      · have h := Eq.mp (if_pos hc) h
        refine E_aload_n dX12_homeAt_30 rfl rfl ?_
        refine E_getr (i := 0) dX12_homeAt_31 fl_RX12_111 rfl rfl (go_12_46 _ _) ?_
        refine E_bp dX12_homeAt_34 rfl ?_
        refine E_iload dX12_homeAt_36 rfl ?_
        refine E_iadd dX12_homeAt_38 ?_
        obtain ⟨hg0, hg1, h⟩ := h
        refine E_iald dX12_homeAt_39 sh_1346 hg0 hg1 ?_
        refine E_iload_n dX12_homeAt_40 rfl rfl ?_
        refine E_icmp_le (tgt := 62) dX12_homeAt_41 (by decide) (fun hc => ?_) (fun hc => ?_)
        · have h := Eq.mp (if_pos hc) h
          refine E_wk2 [some (vR 12 0), some (vI x1), some (vI x2), some (vI x3), none, some (vI x5)] ⟨rfl, ⟨rfl, ⟨rfl, ⟨rfl, ⟨rfl, trivial⟩⟩⟩⟩⟩ ?_
          exact e_P_X12_homeAt_J62 hR h
        · have h := Eq.mp (if_neg hc) h
          refine E_aload_n dX12_homeAt_44 rfl rfl ?_
          refine E_getr (i := 0) dX12_homeAt_45 fl_RX12_111 rfl rfl (go_12_46 _ _) ?_
          refine E_bp dX12_homeAt_48 rfl ?_
          refine E_iload dX12_homeAt_50 rfl ?_
          refine E_iadd dX12_homeAt_52 ?_
          obtain ⟨hg0, hg1, h⟩ := h
          refine E_iald dX12_homeAt_53 sh_1346 hg0 hg1 ?_
          refine E_iload_n dX12_homeAt_54 rfl rfl ?_
          refine E_icmp_gt (tgt := 62) dX12_homeAt_55 (by decide) (fun hc => ?_) (fun hc => ?_)
          · have h := Eq.mp (if_pos hc) h
            refine E_wk2 [some (vR 12 0), some (vI x1), some (vI x2), some (vI x3), none, some (vI x5)] ⟨rfl, ⟨rfl, ⟨rfl, ⟨rfl, ⟨rfl, trivial⟩⟩⟩⟩⟩ ?_
            exact e_P_X12_homeAt_J62 hR h
          · have h := Eq.mp (if_neg hc) h
            refine E_ic dX12_homeAt_58 rfl ?_
            refine E_goto (tgt := 63) dX12_homeAt_59 (by decide) ?_
            refine E_iadd dX12_homeAt_63 ?_
            refine E_istore (ls' := [some (vR 12 0), some (vI x1), some (vI x2), some (vI x3), some (vI (wi (x4 + 1))), some (vI x5)]) dX12_homeAt_64 (by decide) rfl ?_
            refine E_iinc (ls' := [some (vR 12 0), some (vI x1), some (vI x2), some (vI x3), some (vI (wi (x4 + 1))), some (vI (wi (x5 + 1)))]) dX12_homeAt_66 rfl (by decide) rfl rfl ?_
            refine E_goto (tgt := 6) dX12_homeAt_69 (by decide) ?_
            exact hR _ _ _ h
def P_X12_homeAt  (x1 : Int) (x2 : Int) (x3 : Int) (σ : St) (Q : Int → St → Prop) : Prop :=
  P_X12_homeAt_L6 x1 x2 x3 Q FU 0 0 σ
set_option maxRecDepth 20000 in
set_option maxHeartbeats 2000000 in
theorem s_X12_homeAt   {x1 : Int} {x2 : Int} {x3 : Int} {σ : St} {Q : Int → St → Prop} (h : P_X12_homeAt x1 x2 x3 σ Q) : Cn Y_X12_homeAt 0 0 0 ww σ [vR 12 0, vI x1, vI x2, vI x3] (QI Q) := by
  refine Cn_of [some (vR 12 0), some (vI x1), some (vI x2), some (vI x3), none, none] (by decide) (Nat.le_of_ble_eq_true rfl) rfl ?_
  unfold P_X12_homeAt at h
  refine E_ic dX12_homeAt_0 rfl ?_
  refine E_istore (ls' := [some (vR 12 0), some (vI x1), some (vI x2), some (vI x3), some (vI 0), none]) dX12_homeAt_1 (by decide) rfl ?_
  refine E_ic dX12_homeAt_3 rfl ?_
  refine E_istore (ls' := [some (vR 12 0), some (vI x1), some (vI x2), some (vI x3), some (vI 0), some (vI 0)]) dX12_homeAt_4 (by decide) rfl ?_
  refine e_P_X12_homeAt_L6  _ _ _ _ h
abbrev Y_X12_laysHome : My := (yX12_laysHome, cX12_laysHome, 5, none)
theorem dX12_laysHome_0 : decode cX12_laysHome 0 = .ok (.iconst 0, 1) := by decide +kernel
theorem dX12_laysHome_1 : decode cX12_laysHome 1 = .ok (.istore_n 1, 1) := by decide +kernel
theorem dX12_laysHome_2 : decode cX12_laysHome 2 = .ok (.iload_n 1, 1) := by decide +kernel
theorem dX12_laysHome_3 : decode cX12_laysHome 3 = .ok (.bipush 60, 2) := by decide +kernel
theorem dX12_laysHome_5 : decode cX12_laysHome 5 = .ok (.if_icmp .gt 26, 3) := by decide +kernel
theorem dX12_laysHome_8 : decode cX12_laysHome 8 = .ok (.aload_n 0, 1) := by decide +kernel
theorem dX12_laysHome_9 : decode cX12_laysHome 9 = .ok (.getfield 132, 3) := by decide +kernel
theorem dX12_laysHome_12 : decode cX12_laysHome 12 = .ok (.bipush 61, 2) := by decide +kernel
theorem dX12_laysHome_14 : decode cX12_laysHome 14 = .ok (.aload_n 0, 1) := by decide +kernel
theorem dX12_laysHome_15 : decode cX12_laysHome 15 = .ok (.getfield 13, 3) := by decide +kernel
theorem dX12_laysHome_18 : decode cX12_laysHome 18 = .ok (.iconst 0, 1) := by decide +kernel
theorem dX12_laysHome_19 : decode cX12_laysHome 19 = .ok (.iaload, 1) := by decide +kernel
theorem dX12_laysHome_20 : decode cX12_laysHome 20 = .ok (.imul, 1) := by decide +kernel
theorem dX12_laysHome_21 : decode cX12_laysHome 21 = .ok (.iload_n 1, 1) := by decide +kernel
theorem dX12_laysHome_22 : decode cX12_laysHome 22 = .ok (.iadd, 1) := by decide +kernel
theorem dX12_laysHome_23 : decode cX12_laysHome 23 = .ok (.iconst 0, 1) := by decide +kernel
theorem dX12_laysHome_24 : decode cX12_laysHome 24 = .ok (.iastore, 1) := by decide +kernel
theorem dX12_laysHome_25 : decode cX12_laysHome 25 = .ok (.iinc 1 1, 3) := by decide +kernel
theorem dX12_laysHome_28 : decode cX12_laysHome 28 = .ok (.goto (-26), 3) := by decide +kernel
theorem dX12_laysHome_31 : decode cX12_laysHome 31 = .ok (.aload_n 0, 1) := by decide +kernel
theorem dX12_laysHome_32 : decode cX12_laysHome 32 = .ok (.getfield 13, 3) := by decide +kernel
theorem dX12_laysHome_35 : decode cX12_laysHome 35 = .ok (.iconst 0, 1) := by decide +kernel
theorem dX12_laysHome_36 : decode cX12_laysHome 36 = .ok (.iaload, 1) := by decide +kernel
theorem dX12_laysHome_37 : decode cX12_laysHome 37 = .ok (.iconst 1, 1) := by decide +kernel
theorem dX12_laysHome_38 : decode cX12_laysHome 38 = .ok (.isub, 1) := by decide +kernel
theorem dX12_laysHome_39 : decode cX12_laysHome 39 = .ok (.istore_n 1, 1) := by decide +kernel
theorem dX12_laysHome_40 : decode cX12_laysHome 40 = .ok (.iload_n 1, 1) := by decide +kernel
theorem dX12_laysHome_41 : decode cX12_laysHome 41 = .ok (.ifCond .lt 102, 3) := by decide +kernel
theorem dX12_laysHome_44 : decode cX12_laysHome 44 = .ok (.iconst 0, 1) := by decide +kernel
theorem dX12_laysHome_45 : decode cX12_laysHome 45 = .ok (.istore_n 2, 1) := by decide +kernel
theorem dX12_laysHome_46 : decode cX12_laysHome 46 = .ok (.iload_n 2, 1) := by decide +kernel
theorem dX12_laysHome_47 : decode cX12_laysHome 47 = .ok (.bipush 60, 2) := by decide +kernel
theorem dX12_laysHome_49 : decode cX12_laysHome 49 = .ok (.if_icmp .gt 88, 3) := by decide +kernel
theorem dX12_laysHome_52 : decode cX12_laysHome 52 = .ok (.aload_n 0, 1) := by decide +kernel
theorem dX12_laysHome_53 : decode cX12_laysHome 53 = .ok (.getfield 132, 3) := by decide +kernel
theorem dX12_laysHome_56 : decode cX12_laysHome 56 = .ok (.bipush 61, 2) := by decide +kernel
theorem dX12_laysHome_58 : decode cX12_laysHome 58 = .ok (.iload_n 1, 1) := by decide +kernel
theorem dX12_laysHome_59 : decode cX12_laysHome 59 = .ok (.imul, 1) := by decide +kernel
theorem dX12_laysHome_60 : decode cX12_laysHome 60 = .ok (.bipush 61, 2) := by decide +kernel
theorem dX12_laysHome_62 : decode cX12_laysHome 62 = .ok (.iadd, 1) := by decide +kernel
theorem dX12_laysHome_63 : decode cX12_laysHome 63 = .ok (.iload_n 2, 1) := by decide +kernel
theorem dX12_laysHome_64 : decode cX12_laysHome 64 = .ok (.iadd, 1) := by decide +kernel
theorem dX12_laysHome_65 : decode cX12_laysHome 65 = .ok (.iaload, 1) := by decide +kernel
theorem dX12_laysHome_66 : decode cX12_laysHome 66 = .ok (.istore_n 3, 1) := by decide +kernel
theorem dX12_laysHome_67 : decode cX12_laysHome 67 = .ok (.iload_n 2, 1) := by decide +kernel
theorem dX12_laysHome_68 : decode cX12_laysHome 68 = .ok (.iconst 1, 1) := by decide +kernel
theorem dX12_laysHome_69 : decode cX12_laysHome 69 = .ok (.iadd, 1) := by decide +kernel
theorem dX12_laysHome_70 : decode cX12_laysHome 70 = .ok (.istore 4, 2) := by decide +kernel
theorem dX12_laysHome_72 : decode cX12_laysHome 72 = .ok (.iload 4, 2) := by decide +kernel
theorem dX12_laysHome_74 : decode cX12_laysHome 74 = .ok (.bipush 60, 2) := by decide +kernel
theorem dX12_laysHome_76 : decode cX12_laysHome 76 = .ok (.if_icmp .gt 43, 3) := by decide +kernel
theorem dX12_laysHome_79 : decode cX12_laysHome 79 = .ok (.iload_n 3, 1) := by decide +kernel
theorem dX12_laysHome_80 : decode cX12_laysHome 80 = .ok (.aload_n 0, 1) := by decide +kernel
theorem dX12_laysHome_81 : decode cX12_laysHome 81 = .ok (.aload_n 0, 1) := by decide +kernel
theorem dX12_laysHome_82 : decode cX12_laysHome 82 = .ok (.getfield 129, 3) := by decide +kernel
theorem dX12_laysHome_85 : decode cX12_laysHome 85 = .ok (.iload_n 1, 1) := by decide +kernel
theorem dX12_laysHome_86 : decode cX12_laysHome 86 = .ok (.iaload, 1) := by decide +kernel
theorem dX12_laysHome_87 : decode cX12_laysHome 87 = .ok (.iload_n 2, 1) := by decide +kernel
theorem dX12_laysHome_88 : decode cX12_laysHome 88 = .ok (.iload 4, 2) := by decide +kernel
theorem dX12_laysHome_90 : decode cX12_laysHome 90 = .ok (.invokevirtual 434, 3) := by decide +kernel
theorem dX12_laysHome_93 : decode cX12_laysHome 93 = .ok (.aload_n 0, 1) := by decide +kernel
theorem dX12_laysHome_94 : decode cX12_laysHome 94 = .ok (.getfield 132, 3) := by decide +kernel
theorem dX12_laysHome_97 : decode cX12_laysHome 97 = .ok (.bipush 61, 2) := by decide +kernel
theorem dX12_laysHome_99 : decode cX12_laysHome 99 = .ok (.iload_n 1, 1) := by decide +kernel
theorem dX12_laysHome_100 : decode cX12_laysHome 100 = .ok (.imul, 1) := by decide +kernel
theorem dX12_laysHome_101 : decode cX12_laysHome 101 = .ok (.bipush 61, 2) := by decide +kernel
theorem dX12_laysHome_103 : decode cX12_laysHome 103 = .ok (.iadd, 1) := by decide +kernel
theorem dX12_laysHome_104 : decode cX12_laysHome 104 = .ok (.iload 4, 2) := by decide +kernel
theorem dX12_laysHome_106 : decode cX12_laysHome 106 = .ok (.iadd, 1) := by decide +kernel
theorem dX12_laysHome_107 : decode cX12_laysHome 107 = .ok (.iaload, 1) := by decide +kernel
theorem dX12_laysHome_108 : decode cX12_laysHome 108 = .ok (.iadd, 1) := by decide +kernel
theorem dX12_laysHome_109 : decode cX12_laysHome 109 = .ok (.invokestatic 437, 3) := by decide +kernel
theorem dX12_laysHome_112 : decode cX12_laysHome 112 = .ok (.istore_n 3, 1) := by decide +kernel
theorem dX12_laysHome_113 : decode cX12_laysHome 113 = .ok (.iinc 4 1, 3) := by decide +kernel
theorem dX12_laysHome_116 : decode cX12_laysHome 116 = .ok (.goto (-44), 3) := by decide +kernel
theorem dX12_laysHome_119 : decode cX12_laysHome 119 = .ok (.aload_n 0, 1) := by decide +kernel
theorem dX12_laysHome_120 : decode cX12_laysHome 120 = .ok (.getfield 132, 3) := by decide +kernel
theorem dX12_laysHome_123 : decode cX12_laysHome 123 = .ok (.bipush 61, 2) := by decide +kernel
theorem dX12_laysHome_125 : decode cX12_laysHome 125 = .ok (.iload_n 1, 1) := by decide +kernel
theorem dX12_laysHome_126 : decode cX12_laysHome 126 = .ok (.imul, 1) := by decide +kernel
theorem dX12_laysHome_127 : decode cX12_laysHome 127 = .ok (.iload_n 2, 1) := by decide +kernel
theorem dX12_laysHome_128 : decode cX12_laysHome 128 = .ok (.iadd, 1) := by decide +kernel
theorem dX12_laysHome_129 : decode cX12_laysHome 129 = .ok (.iload_n 3, 1) := by decide +kernel
theorem dX12_laysHome_130 : decode cX12_laysHome 130 = .ok (.iastore, 1) := by decide +kernel
theorem dX12_laysHome_131 : decode cX12_laysHome 131 = .ok (.iinc 2 1, 3) := by decide +kernel
theorem dX12_laysHome_134 : decode cX12_laysHome 134 = .ok (.goto (-88), 3) := by decide +kernel
theorem dX12_laysHome_137 : decode cX12_laysHome 137 = .ok (.iinc 1 (-1), 3) := by decide +kernel
theorem dX12_laysHome_140 : decode cX12_laysHome 140 = .ok (.goto (-100), 3) := by decide +kernel
theorem dX12_laysHome_143 : decode cX12_laysHome 143 = .ok (.return_, 1) := by decide +kernel
theorem fl_RX12_132 : FL RX12 132 12 55 := ⟨inG (i := 1455) (by decide +kernel) (by decide +kernel), by decide, by decide⟩
theorem go_12_55 (σ : St) (i : Nat) : go σ 12 i 55 = (1355, i) := rfl
theorem lk_RX12_434 : Cond.methodLink RX12 434 yX12_homeAt ∈ tG := inG (i := 1924) (by decide +kernel) (by decide +kernel)
theorem lk_RX12_437 : Cond.methodLink RX12 437 Lib.Math.max.name ∈ tG := inG (i := 1928) (by decide +kernel) (by decide +kernel)
theorem m_X12_homeAt : MV Y_X12_homeAt 3 12 := ⟨⟨inG (i := 1927) (by decide +kernel) (by decide +kernel), inG (i := 110) (by decide +kernel) (by decide +kernel), by decide, by decide, by decide, by decide +kernel⟩, inG (i := 1926) (by decide +kernel) (by decide +kernel), inG (i := 85) (by decide +kernel) (by decide +kernel), by decide⟩
theorem sh_1355 : shp 1355 = (0, 427) := rfl
def P_X12_laysHome_L2   (K : St → Prop) (Q : St → Prop) : Nat → Int → St → Prop
  | 0, _, _ => False
  | n + 1, x1, σ => (if 60 < x1 then K σ else 0 ≤ wi ((wi (61 * (σ 1310 0 0))) + x1) ∧ wi ((wi (61 * (σ 1310 0 0))) + x1) < 427 ∧ (P_X12_laysHome_L2 K Q n) (wi (x1 + 1)) (up σ 1355 0 (wi ((wi (61 * (σ 1310 0 0))) + x1)) 0))
set_option maxRecDepth 20000 in
set_option maxHeartbeats 2000000 in
theorem e_P_X12_laysHome_L2   {K : St → Prop} {Q : St → Prop}  (hK : ∀ σ, K σ → E Y_X12_laysHome 1 0 0 (QV Q) ww 0 0 31 [some (vR 12 0), none, none, none, none] [] σ) : ∀ (n : Nat) (x1 : Int) (σ : St), P_X12_laysHome_L2 K Q n x1 σ → E Y_X12_laysHome 1 0 0 (QV Q) ww 0 0 2 [some (vR 12 0), some (vI x1), none, none, none] [] σ := by
  intro n
  induction n with
  | zero => intro x1 σ h; exact h.elim
  | succ n hR =>
    intro x1 σ h
    unfold P_X12_laysHome_L2 at h
    refine E_iload_n dX12_laysHome_2 rfl rfl ?_
    refine E_bp dX12_laysHome_3 rfl ?_
    refine E_icmp_gt (tgt := 31) dX12_laysHome_5 (by decide) (fun hc => ?_) (fun hc => ?_)
    · have h := Eq.mp (if_pos hc) h
      refine E_wk2 [some (vR 12 0), none, none, none, none] ⟨rfl, trivial⟩ ?_
      exact hK _ h
    · have h := Eq.mp (if_neg hc) h
      refine E_aload_n dX12_laysHome_8 rfl rfl ?_
      refine E_getr (i := 0) dX12_laysHome_9 fl_RX12_132 rfl rfl (go_12_55 _ _) ?_
      refine E_bp dX12_laysHome_12 rfl ?_
      refine E_aload_n dX12_laysHome_14 rfl rfl ?_
      refine E_getr (i := 0) dX12_laysHome_15 fl_RX12_13 rfl rfl (go_12_10 _ _) ?_
      refine E_ic dX12_laysHome_18 rfl ?_
      refine E_iald dX12_laysHome_19 sh_1310 (by decide) (by decide) ?_
      refine E_imul dX12_laysHome_20 ?_
      refine E_iload_n dX12_laysHome_21 rfl rfl ?_
      refine E_iadd dX12_laysHome_22 ?_
      refine E_ic dX12_laysHome_23 rfl ?_
      obtain ⟨hg0, hg1, h⟩ := h
      refine E_iast dX12_laysHome_24 sh_1355 hg0 hg1 ?_
      refine E_iinc (ls' := [some (vR 12 0), some (vI (wi (x1 + 1))), none, none, none]) dX12_laysHome_25 rfl (by decide) rfl rfl ?_
      refine E_goto (tgt := 2) dX12_laysHome_28 (by decide) ?_
      exact hR _ _ h
def P_X12_laysHome_L72  (x1 : Int) (x2 : Int) (K : Int → St → Prop) (Q : St → Prop) : Nat → Int → Int → St → Prop
  | 0, _, _, _ => False
  | n + 1, x3, x4, σ => (if 60 < x4 then K x3 σ else 0 ≤ x1 ∧ x1 < 6 ∧ P_X12_homeAt (σ 1353 0 x1) x2 x4 σ (fun r_3 σ_2 => 0 ≤ wi ((wi ((wi (61 * x1)) + 61)) + x4) ∧ wi ((wi ((wi (61 * x1)) + 61)) + x4) < 427 ∧ (P_X12_laysHome_L72 x1 x2 K Q n) (max x3 (wi (r_3 + (σ_2 1355 0 (wi ((wi ((wi (61 * x1)) + 61)) + x4)))))) (wi (x4 + 1)) σ_2))
set_option maxRecDepth 20000 in
set_option maxHeartbeats 2000000 in
theorem e_P_X12_laysHome_L72  {x1 : Int} {x2 : Int} {K : Int → St → Prop} {Q : St → Prop}  (hK : ∀ x3 σ, K x3 σ → E Y_X12_laysHome 1 0 0 (QV Q) ww 0 0 119 [some (vR 12 0), some (vI x1), some (vI x2), some (vI x3), none] [] σ) : ∀ (n : Nat) (x3 : Int) (x4 : Int) (σ : St), P_X12_laysHome_L72 x1 x2 K Q n x3 x4 σ → E Y_X12_laysHome 1 0 0 (QV Q) ww 0 0 72 [some (vR 12 0), some (vI x1), some (vI x2), some (vI x3), some (vI x4)] [] σ := by
  intro n
  induction n with
  | zero => intro x3 x4 σ h; exact h.elim
  | succ n hR =>
    intro x3 x4 σ h
    unfold P_X12_laysHome_L72 at h
    refine E_iload dX12_laysHome_72 rfl ?_
    refine E_bp dX12_laysHome_74 rfl ?_
    refine E_icmp_gt (tgt := 119) dX12_laysHome_76 (by decide) (fun hc => ?_) (fun hc => ?_)
    · have h := Eq.mp (if_pos hc) h
      refine E_wk2 [some (vR 12 0), some (vI x1), some (vI x2), some (vI x3), none] ⟨rfl, ⟨rfl, ⟨rfl, ⟨rfl, trivial⟩⟩⟩⟩ ?_
      exact hK _ _ h
    · have h := Eq.mp (if_neg hc) h
      refine E_iload_n dX12_laysHome_79 rfl rfl ?_
      refine E_aload_n dX12_laysHome_80 rfl rfl ?_
      refine E_aload_n dX12_laysHome_81 rfl rfl ?_
      refine E_getr (i := 0) dX12_laysHome_82 fl_RX12_129 rfl rfl (go_12_53 _ _) ?_
      refine E_iload_n dX12_laysHome_85 rfl rfl ?_
      obtain ⟨hg0, hg1, h⟩ := h
      refine E_iald dX12_laysHome_86 sh_1353 hg0 hg1 ?_
      refine E_iload_n dX12_laysHome_87 rfl rfl ?_
      refine E_iload dX12_laysHome_88 rfl ?_
      refine E_callV (Y' := Y_X12_homeAt) (as := [vI (σ 1353 0 x1), vI x2, vI x4]) (st := [vI x3]) dX12_laysHome_90 lk_RX12_434 m_X12_homeAt (by decide) (Nat.le_refl _) (Nat.le_refl _) rfl rfl (Nat.le_of_ble_eq_true rfl) (s_X12_homeAt h) (fun r0 B0 σ_2 h => ?_)
      obtain ⟨r_3, rfl, rfl, h⟩ := h
      refine E_aload_n dX12_laysHome_93 rfl rfl ?_
      refine E_getr (i := 0) dX12_laysHome_94 fl_RX12_132 rfl rfl (go_12_55 _ _) ?_
      refine E_bp dX12_laysHome_97 rfl ?_
      refine E_iload_n dX12_laysHome_99 rfl rfl ?_
      refine E_imul dX12_laysHome_100 ?_
      refine E_bp dX12_laysHome_101 rfl ?_
      refine E_iadd dX12_laysHome_103 ?_
      refine E_iload dX12_laysHome_104 rfl ?_
      refine E_iadd dX12_laysHome_106 ?_
      obtain ⟨hg0, hg1, h⟩ := h
      refine E_iald dX12_laysHome_107 sh_1355 hg0 hg1 ?_
      refine E_iadd dX12_laysHome_108 ?_
      refine E_mmax dX12_laysHome_109 lk_RX12_437 (by decide) (Nat.le_refl _) (Nat.le_refl _) (Nat.le_of_ble_eq_true rfl) ?_
      refine E_istore_n (ls' := [some (vR 12 0), some (vI x1), some (vI x2), some (vI (max x3 (wi (r_3 + (σ_2 1355 0 (wi ((wi ((wi (61 * x1)) + 61)) + x4))))))), some (vI x4)]) dX12_laysHome_112 rfl (by decide) rfl ?_
      refine E_iinc (ls' := [some (vR 12 0), some (vI x1), some (vI x2), some (vI (max x3 (wi (r_3 + (σ_2 1355 0 (wi ((wi ((wi (61 * x1)) + 61)) + x4))))))), some (vI (wi (x4 + 1)))]) dX12_laysHome_113 rfl (by decide) rfl rfl ?_
      refine E_goto (tgt := 72) dX12_laysHome_116 (by decide) ?_
      exact hR _ _ _ h
def P_X12_laysHome_L46  (x1 : Int) (K : St → Prop) (Q : St → Prop) : Nat → Int → St → Prop
  | 0, _, _ => False
  | n + 1, x2, σ => (if 60 < x2 then K σ else 0 ≤ wi ((wi ((wi (61 * x1)) + 61)) + x2) ∧ wi ((wi ((wi (61 * x1)) + 61)) + x2) < 427 ∧ P_X12_laysHome_L72 x1 x2 (fun x3_4 σ_5 => 0 ≤ wi ((wi (61 * x1)) + x2) ∧ wi ((wi (61 * x1)) + x2) < 427 ∧ (P_X12_laysHome_L46 x1 K Q n) (wi (x2 + 1)) (up σ_5 1355 0 (wi ((wi (61 * x1)) + x2)) x3_4)) Q FU (σ 1355 0 (wi ((wi ((wi (61 * x1)) + 61)) + x2))) (wi (x2 + 1)) σ)
set_option maxRecDepth 20000 in
set_option maxHeartbeats 2000000 in
theorem e_P_X12_laysHome_L46  {x1 : Int} {K : St → Prop} {Q : St → Prop}  (hK : ∀ σ, K σ → E Y_X12_laysHome 1 0 0 (QV Q) ww 0 0 137 [some (vR 12 0), some (vI x1), none, none, none] [] σ) : ∀ (n : Nat) (x2 : Int) (σ : St), P_X12_laysHome_L46 x1 K Q n x2 σ → E Y_X12_laysHome 1 0 0 (QV Q) ww 0 0 46 [some (vR 12 0), some (vI x1), some (vI x2), none, none] [] σ := by
  intro n
  induction n with
  | zero => intro x2 σ h; exact h.elim
  | succ n hR =>
    intro x2 σ h
    unfold P_X12_laysHome_L46 at h
    refine E_iload_n dX12_laysHome_46 rfl rfl ?_
    refine E_bp dX12_laysHome_47 rfl ?_
    refine E_icmp_gt (tgt := 137) dX12_laysHome_49 (by decide) (fun hc => ?_) (fun hc => ?_)
    · have h := Eq.mp (if_pos hc) h
      refine E_wk2 [some (vR 12 0), some (vI x1), none, none, none] ⟨rfl, ⟨rfl, trivial⟩⟩ ?_
      exact hK _ h
    · have h := Eq.mp (if_neg hc) h
      refine E_aload_n dX12_laysHome_52 rfl rfl ?_
      refine E_getr (i := 0) dX12_laysHome_53 fl_RX12_132 rfl rfl (go_12_55 _ _) ?_
      refine E_bp dX12_laysHome_56 rfl ?_
      refine E_iload_n dX12_laysHome_58 rfl rfl ?_
      refine E_imul dX12_laysHome_59 ?_
      refine E_bp dX12_laysHome_60 rfl ?_
      refine E_iadd dX12_laysHome_62 ?_
      refine E_iload_n dX12_laysHome_63 rfl rfl ?_
      refine E_iadd dX12_laysHome_64 ?_
      obtain ⟨hg0, hg1, h⟩ := h
      refine E_iald dX12_laysHome_65 sh_1355 hg0 hg1 ?_
      refine E_istore_n (ls' := [some (vR 12 0), some (vI x1), some (vI x2), some (vI (σ 1355 0 (wi ((wi ((wi (61 * x1)) + 61)) + x2)))), none]) dX12_laysHome_66 rfl (by decide) rfl ?_
      refine E_iload_n dX12_laysHome_67 rfl rfl ?_
      refine E_ic dX12_laysHome_68 rfl ?_
      refine E_iadd dX12_laysHome_69 ?_
      refine E_istore (ls' := [some (vR 12 0), some (vI x1), some (vI x2), some (vI (σ 1355 0 (wi ((wi ((wi (61 * x1)) + 61)) + x2)))), some (vI (wi (x2 + 1)))]) dX12_laysHome_70 (by decide) rfl ?_
      refine e_P_X12_laysHome_L72 ?_ _ _ _ _ h
      · intro x3_4 σ_5 h
        refine E_aload_n dX12_laysHome_119 rfl rfl ?_
        refine E_getr (i := 0) dX12_laysHome_120 fl_RX12_132 rfl rfl (go_12_55 _ _) ?_
        refine E_bp dX12_laysHome_123 rfl ?_
        refine E_iload_n dX12_laysHome_125 rfl rfl ?_
        refine E_imul dX12_laysHome_126 ?_
        refine E_iload_n dX12_laysHome_127 rfl rfl ?_
        refine E_iadd dX12_laysHome_128 ?_
        refine E_iload_n dX12_laysHome_129 rfl rfl ?_
        obtain ⟨hg0, hg1, h⟩ := h
        refine E_iast dX12_laysHome_130 sh_1355 hg0 hg1 ?_
        refine E_iinc (ls' := [some (vR 12 0), some (vI x1), some (vI (wi (x2 + 1))), some (vI x3_4), none]) dX12_laysHome_131 rfl (by decide) rfl rfl ?_
        refine E_goto (tgt := 46) dX12_laysHome_134 (by decide) ?_
        refine E_wk2 [some (vR 12 0), some (vI x1), some (vI (wi (x2 + 1))), none, none] ⟨rfl, ⟨rfl, ⟨rfl, trivial⟩⟩⟩ ?_
        exact hR _ _ h
def P_X12_laysHome_L40    (Q : St → Prop) : Nat → Int → St → Prop
  | 0, _, _ => False
  | n + 1, x1, σ => (if x1 < 0 then Q σ else P_X12_laysHome_L46 x1 (fun σ_6 => (P_X12_laysHome_L40 Q n) (wi (x1 + (-1))) σ_6) Q FU 0 σ)
set_option maxRecDepth 20000 in
set_option maxHeartbeats 2000000 in
theorem e_P_X12_laysHome_L40    {Q : St → Prop}   : ∀ (n : Nat) (x1 : Int) (σ : St), P_X12_laysHome_L40 Q n x1 σ → E Y_X12_laysHome 1 0 0 (QV Q) ww 0 0 40 [some (vR 12 0), some (vI x1), none, none, none] [] σ := by
  intro n
  induction n with
  | zero => intro x1 σ h; exact h.elim
  | succ n hR =>
    intro x1 σ h
    unfold P_X12_laysHome_L40 at h
    refine E_iload_n dX12_laysHome_40 rfl rfl ?_
    refine E_if_lt (tgt := 143) dX12_laysHome_41 (by decide) (fun hc => ?_) (fun hc => ?_)
    · have h := Eq.mp (if_pos hc) h
      exact E_vret dX12_laysHome_143 rfl ⟨rfl, rfl, h⟩
    · have h := Eq.mp (if_neg hc) h
      refine E_ic dX12_laysHome_44 rfl ?_
      refine E_istore_n (ls' := [some (vR 12 0), some (vI x1), some (vI 0), none, none]) dX12_laysHome_45 rfl (by decide) rfl ?_
      refine e_P_X12_laysHome_L46 ?_ _ _ _ h
      · intro σ_6 h
        refine E_iinc (ls' := [some (vR 12 0), some (vI (wi (x1 + (-1)))), none, none, none]) dX12_laysHome_137 rfl (by decide) rfl rfl ?_
        refine E_goto (tgt := 40) dX12_laysHome_140 (by decide) ?_
        exact hR _ _ h
def P_X12_laysHome   (σ : St) (Q : St → Prop) : Prop :=
  P_X12_laysHome_L2 (fun σ_1 => P_X12_laysHome_L40 Q FU (wi ((σ_1 1310 0 0) - 1)) σ_1) Q FU 0 σ
set_option maxRecDepth 20000 in
set_option maxHeartbeats 2000000 in
theorem s_X12_laysHome    {σ : St} {Q : St → Prop} (h : P_X12_laysHome  σ Q) : Cn Y_X12_laysHome 1 0 0 ww σ [vR 12 0] (QV Q) := by
  refine Cn_of [some (vR 12 0), none, none, none, none] (by decide) (Nat.le_of_ble_eq_true rfl) rfl ?_
  unfold P_X12_laysHome at h
  refine E_ic dX12_laysHome_0 rfl ?_
  refine E_istore_n (ls' := [some (vR 12 0), some (vI 0), none, none, none]) dX12_laysHome_1 rfl (by decide) rfl ?_
  refine e_P_X12_laysHome_L2 ?_ _ _ _ h
  · intro σ_1 h
    refine E_aload_n dX12_laysHome_31 rfl rfl ?_
    refine E_getr (i := 0) dX12_laysHome_32 fl_RX12_13 rfl rfl (go_12_10 _ _) ?_
    refine E_ic dX12_laysHome_35 rfl ?_
    refine E_iald dX12_laysHome_36 sh_1310 (by decide) (by decide) ?_
    refine E_ic dX12_laysHome_37 rfl ?_
    refine E_isub dX12_laysHome_38 ?_
    refine E_istore_n (ls' := [some (vR 12 0), some (vI (wi ((σ_1 1310 0 0) - 1))), none, none, none]) dX12_laysHome_39 rfl (by decide) rfl ?_
    refine e_P_X12_laysHome_L40  _ _ _ h
abbrev Y_X12_trim : My := (yX12_trim, cX12_trim, 5, some .int)
theorem dX12_trim_0 : decode cX12_trim 0 = .ok (.aload_n 0, 1) := by decide +kernel
theorem dX12_trim_1 : decode cX12_trim 1 = .ok (.iconst 0, 1) := by decide +kernel
theorem dX12_trim_2 : decode cX12_trim 2 = .ok (.putfield 141, 3) := by decide +kernel
theorem dX12_trim_5 : decode cX12_trim 5 = .ok (.iload_n 1, 1) := by decide +kernel
theorem dX12_trim_6 : decode cX12_trim 6 = .ok (.iconst (-1), 1) := by decide +kernel
theorem dX12_trim_7 : decode cX12_trim 7 = .ok (.if_icmp .eq 14, 3) := by decide +kernel
theorem dX12_trim_10 : decode cX12_trim 10 = .ok (.aload_n 0, 1) := by decide +kernel
theorem dX12_trim_11 : decode cX12_trim 11 = .ok (.iload_n 1, 1) := by decide +kernel
theorem dX12_trim_12 : decode cX12_trim 12 = .ok (.invokevirtual 403, 3) := by decide +kernel
theorem dX12_trim_15 : decode cX12_trim 15 = .ok (.ifCond .ne 6, 3) := by decide +kernel
theorem dX12_trim_18 : decode cX12_trim 18 = .ok (.bipush (-2), 2) := by decide +kernel
theorem dX12_trim_20 : decode cX12_trim 20 = .ok (.ireturn, 1) := by decide +kernel
theorem dX12_trim_21 : decode cX12_trim 21 = .ok (.aload_n 0, 1) := by decide +kernel
theorem dX12_trim_22 : decode cX12_trim 22 = .ok (.invokevirtual 442, 3) := by decide +kernel
theorem dX12_trim_25 : decode cX12_trim 25 = .ok (.iload_n 1, 1) := by decide +kernel
theorem dX12_trim_26 : decode cX12_trim 26 = .ok (.iconst (-1), 1) := by decide +kernel
theorem dX12_trim_27 : decode cX12_trim 27 = .ok (.if_icmp .ne 10, 3) := by decide +kernel
theorem dX12_trim_30 : decode cX12_trim 30 = .ok (.aload_n 0, 1) := by decide +kernel
theorem dX12_trim_31 : decode cX12_trim 31 = .ok (.getfield 132, 3) := by decide +kernel
theorem dX12_trim_34 : decode cX12_trim 34 = .ok (.iconst 0, 1) := by decide +kernel
theorem dX12_trim_35 : decode cX12_trim 35 = .ok (.iaload, 1) := by decide +kernel
theorem dX12_trim_36 : decode cX12_trim 36 = .ok (.ireturn, 1) := by decide +kernel
theorem dX12_trim_37 : decode cX12_trim 37 = .ok (.iconst 0, 1) := by decide +kernel
theorem dX12_trim_38 : decode cX12_trim 38 = .ok (.istore_n 2, 1) := by decide +kernel
theorem dX12_trim_39 : decode cX12_trim 39 = .ok (.iconst 0, 1) := by decide +kernel
theorem dX12_trim_40 : decode cX12_trim 40 = .ok (.istore_n 3, 1) := by decide +kernel
theorem dX12_trim_41 : decode cX12_trim 41 = .ok (.iload_n 3, 1) := by decide +kernel
theorem dX12_trim_42 : decode cX12_trim 42 = .ok (.aload_n 0, 1) := by decide +kernel
theorem dX12_trim_43 : decode cX12_trim 43 = .ok (.getfield 13, 3) := by decide +kernel
theorem dX12_trim_46 : decode cX12_trim 46 = .ok (.iconst 0, 1) := by decide +kernel
theorem dX12_trim_47 : decode cX12_trim 47 = .ok (.iaload, 1) := by decide +kernel
theorem dX12_trim_48 : decode cX12_trim 48 = .ok (.if_icmp .ge 85, 3) := by decide +kernel
theorem dX12_trim_51 : decode cX12_trim 51 = .ok (.iconst 0, 1) := by decide +kernel
theorem dX12_trim_52 : decode cX12_trim 52 = .ok (.istore 4, 2) := by decide +kernel
theorem dX12_trim_54 : decode cX12_trim 54 = .ok (.aload_n 0, 1) := by decide +kernel
theorem dX12_trim_55 : decode cX12_trim 55 = .ok (.aload_n 0, 1) := by decide +kernel
theorem dX12_trim_56 : decode cX12_trim 56 = .ok (.getfield 129, 3) := by decide +kernel
theorem dX12_trim_59 : decode cX12_trim 59 = .ok (.iload_n 3, 1) := by decide +kernel
theorem dX12_trim_60 : decode cX12_trim 60 = .ok (.iaload, 1) := by decide +kernel
theorem dX12_trim_61 : decode cX12_trim 61 = .ok (.iload_n 2, 1) := by decide +kernel
theorem dX12_trim_62 : decode cX12_trim 62 = .ok (.iload 4, 2) := by decide +kernel
theorem dX12_trim_64 : decode cX12_trim 64 = .ok (.invokevirtual 434, 3) := by decide +kernel
theorem dX12_trim_67 : decode cX12_trim 67 = .ok (.aload_n 0, 1) := by decide +kernel
theorem dX12_trim_68 : decode cX12_trim 68 = .ok (.getfield 132, 3) := by decide +kernel
theorem dX12_trim_71 : decode cX12_trim 71 = .ok (.bipush 61, 2) := by decide +kernel
theorem dX12_trim_73 : decode cX12_trim 73 = .ok (.iload_n 3, 1) := by decide +kernel
theorem dX12_trim_74 : decode cX12_trim 74 = .ok (.imul, 1) := by decide +kernel
theorem dX12_trim_75 : decode cX12_trim 75 = .ok (.bipush 61, 2) := by decide +kernel
theorem dX12_trim_77 : decode cX12_trim 77 = .ok (.iadd, 1) := by decide +kernel
theorem dX12_trim_78 : decode cX12_trim 78 = .ok (.iload_n 2, 1) := by decide +kernel
theorem dX12_trim_79 : decode cX12_trim 79 = .ok (.iload 4, 2) := by decide +kernel
theorem dX12_trim_81 : decode cX12_trim 81 = .ok (.invokestatic 437, 3) := by decide +kernel
theorem dX12_trim_84 : decode cX12_trim 84 = .ok (.iadd, 1) := by decide +kernel
theorem dX12_trim_85 : decode cX12_trim 85 = .ok (.iaload, 1) := by decide +kernel
theorem dX12_trim_86 : decode cX12_trim 86 = .ok (.iadd, 1) := by decide +kernel
theorem dX12_trim_87 : decode cX12_trim 87 = .ok (.aload_n 0, 1) := by decide +kernel
theorem dX12_trim_88 : decode cX12_trim 88 = .ok (.getfield 132, 3) := by decide +kernel
theorem dX12_trim_91 : decode cX12_trim 91 = .ok (.bipush 61, 2) := by decide +kernel
theorem dX12_trim_93 : decode cX12_trim 93 = .ok (.iload_n 3, 1) := by decide +kernel
theorem dX12_trim_94 : decode cX12_trim 94 = .ok (.imul, 1) := by decide +kernel
theorem dX12_trim_95 : decode cX12_trim 95 = .ok (.iload_n 2, 1) := by decide +kernel
theorem dX12_trim_96 : decode cX12_trim 96 = .ok (.iadd, 1) := by decide +kernel
theorem dX12_trim_97 : decode cX12_trim 97 = .ok (.iaload, 1) := by decide +kernel
theorem dX12_trim_98 : decode cX12_trim 98 = .ok (.if_icmp .ge 9, 3) := by decide +kernel
theorem dX12_trim_101 : decode cX12_trim 101 = .ok (.iinc 4 1, 3) := by decide +kernel
theorem dX12_trim_104 : decode cX12_trim 104 = .ok (.goto (-50), 3) := by decide +kernel
theorem dX12_trim_107 : decode cX12_trim 107 = .ok (.aload_n 0, 1) := by decide +kernel
theorem dX12_trim_108 : decode cX12_trim 108 = .ok (.getfield 129, 3) := by decide +kernel
theorem dX12_trim_111 : decode cX12_trim 111 = .ok (.iload_n 3, 1) := by decide +kernel
theorem dX12_trim_112 : decode cX12_trim 112 = .ok (.iaload, 1) := by decide +kernel
theorem dX12_trim_113 : decode cX12_trim 113 = .ok (.iload_n 1, 1) := by decide +kernel
theorem dX12_trim_114 : decode cX12_trim 114 = .ok (.if_icmp .ne 6, 3) := by decide +kernel
theorem dX12_trim_117 : decode cX12_trim 117 = .ok (.iload 4, 2) := by decide +kernel
theorem dX12_trim_119 : decode cX12_trim 119 = .ok (.ireturn, 1) := by decide +kernel
theorem dX12_trim_120 : decode cX12_trim 120 = .ok (.iload_n 2, 1) := by decide +kernel
theorem dX12_trim_121 : decode cX12_trim 121 = .ok (.iload 4, 2) := by decide +kernel
theorem dX12_trim_123 : decode cX12_trim 123 = .ok (.invokestatic 437, 3) := by decide +kernel
theorem dX12_trim_126 : decode cX12_trim 126 = .ok (.istore_n 2, 1) := by decide +kernel
theorem dX12_trim_127 : decode cX12_trim 127 = .ok (.iinc 3 1, 3) := by decide +kernel
theorem dX12_trim_130 : decode cX12_trim 130 = .ok (.goto (-89), 3) := by decide +kernel
theorem dX12_trim_133 : decode cX12_trim 133 = .ok (.iconst (-1), 1) := by decide +kernel
theorem dX12_trim_134 : decode cX12_trim 134 = .ok (.ireturn, 1) := by decide +kernel
theorem lk_RX12_442 : Cond.methodLink RX12 442 yX12_laysHome ∈ tG := inG (i := 1920) (by decide +kernel) (by decide +kernel)
theorem m_X12_laysHome : MV Y_X12_laysHome 0 12 := ⟨⟨inG (i := 1923) (by decide +kernel) (by decide +kernel), inG (i := 110) (by decide +kernel) (by decide +kernel), by decide, by decide, by decide, by decide +kernel⟩, inG (i := 1922) (by decide +kernel) (by decide +kernel), inG (i := 84) (by decide +kernel) (by decide +kernel), by decide⟩
def P_X12_trim_L54  (x1 : Int) (x2 : Int) (x3 : Int) (K : Int → St → Prop) (Q : Int → St → Prop) : Nat → Int → St → Prop
  | 0, _, _ => False
  | n + 1, x4, σ => 0 ≤ x3 ∧ x3 < 6 ∧ P_X12_homeAt (σ 1353 0 x3) x2 x4 σ (fun r_3 σ_2 => 0 ≤ wi ((wi ((wi (61 * x3)) + 61)) + (max x2 x4)) ∧ wi ((wi ((wi (61 * x3)) + 61)) + (max x2 x4)) < 427 ∧ 0 ≤ wi ((wi (61 * x3)) + x2) ∧ wi ((wi (61 * x3)) + x2) < 427 ∧ (if (σ_2 1355 0 (wi ((wi (61 * x3)) + x2))) ≤ (wi (r_3 + (σ_2 1355 0 (wi ((wi ((wi (61 * x3)) + 61)) + (max x2 x4)))))) then K x4 σ_2 else (P_X12_trim_L54 x1 x2 x3 K Q n) (wi (x4 + 1)) σ_2))
set_option maxRecDepth 20000 in
set_option maxHeartbeats 2000000 in
theorem e_P_X12_trim_L54  {x1 : Int} {x2 : Int} {x3 : Int} {K : Int → St → Prop} {Q : Int → St → Prop}  (hK : ∀ x4 σ, K x4 σ → E Y_X12_trim 2 0 0 (QI Q) ww 0 0 107 [some (vR 12 0), some (vI x1), some (vI x2), some (vI x3), some (vI x4)] [] σ) : ∀ (n : Nat) (x4 : Int) (σ : St), P_X12_trim_L54 x1 x2 x3 K Q n x4 σ → E Y_X12_trim 2 0 0 (QI Q) ww 0 0 54 [some (vR 12 0), some (vI x1), some (vI x2), some (vI x3), some (vI x4)] [] σ := by
  intro n
  induction n with
  | zero => intro x4 σ h; exact h.elim
  | succ n hR =>
    intro x4 σ h
    unfold P_X12_trim_L54 at h
    refine E_aload_n dX12_trim_54 rfl rfl ?_
    refine E_aload_n dX12_trim_55 rfl rfl ?_
    refine E_getr (i := 0) dX12_trim_56 fl_RX12_129 rfl rfl (go_12_53 _ _) ?_
    refine E_iload_n dX12_trim_59 rfl rfl ?_
    obtain ⟨hg0, hg1, h⟩ := h
    refine E_iald dX12_trim_60 sh_1353 hg0 hg1 ?_
    refine E_iload_n dX12_trim_61 rfl rfl ?_
    refine E_iload dX12_trim_62 rfl ?_
    refine E_callV (Y' := Y_X12_homeAt) (as := [vI (σ 1353 0 x3), vI x2, vI x4]) (st := []) dX12_trim_64 lk_RX12_434 m_X12_homeAt (by decide) (Nat.le_refl _) (Nat.le_refl _) rfl rfl (Nat.le_of_ble_eq_true rfl) (s_X12_homeAt h) (fun r0 B0 σ_2 h => ?_)
    obtain ⟨r_3, rfl, rfl, h⟩ := h
    refine E_aload_n dX12_trim_67 rfl rfl ?_
    refine E_getr (i := 0) dX12_trim_68 fl_RX12_132 rfl rfl (go_12_55 _ _) ?_
    refine E_bp dX12_trim_71 rfl ?_
    refine E_iload_n dX12_trim_73 rfl rfl ?_
    refine E_imul dX12_trim_74 ?_
    refine E_bp dX12_trim_75 rfl ?_
    refine E_iadd dX12_trim_77 ?_
    refine E_iload_n dX12_trim_78 rfl rfl ?_
    refine E_iload dX12_trim_79 rfl ?_
    refine E_mmax dX12_trim_81 lk_RX12_437 (by decide) (Nat.le_refl _) (Nat.le_refl _) (Nat.le_of_ble_eq_true rfl) ?_
    refine E_iadd dX12_trim_84 ?_
    obtain ⟨hg0, hg1, h⟩ := h
    refine E_iald dX12_trim_85 sh_1355 hg0 hg1 ?_
    refine E_iadd dX12_trim_86 ?_
    refine E_aload_n dX12_trim_87 rfl rfl ?_
    refine E_getr (i := 0) dX12_trim_88 fl_RX12_132 rfl rfl (go_12_55 _ _) ?_
    refine E_bp dX12_trim_91 rfl ?_
    refine E_iload_n dX12_trim_93 rfl rfl ?_
    refine E_imul dX12_trim_94 ?_
    refine E_iload_n dX12_trim_95 rfl rfl ?_
    refine E_iadd dX12_trim_96 ?_
    obtain ⟨hg0, hg1, h⟩ := h
    refine E_iald dX12_trim_97 sh_1355 hg0 hg1 ?_
    refine E_icmp_ge (tgt := 107) dX12_trim_98 (by decide) (fun hc => ?_) (fun hc => ?_)
    · have h := Eq.mp (if_pos hc) h
      exact hK _ _ h
    · have h := Eq.mp (if_neg hc) h
      refine E_iinc (ls' := [some (vR 12 0), some (vI x1), some (vI x2), some (vI x3), some (vI (wi (x4 + 1)))]) dX12_trim_101 rfl (by decide) rfl rfl ?_
      refine E_goto (tgt := 54) dX12_trim_104 (by decide) ?_
      exact hR _ _ h
def P_X12_trim_L41  (x1 : Int)  (Q : Int → St → Prop) : Nat → Int → Int → St → Prop
  | 0, _, _, _ => False
  | n + 1, x2, x3, σ => (if (σ 1310 0 0) ≤ x3 then Q (-1) σ else P_X12_trim_L54 x1 x2 x3 (fun x4_4 σ_5 => 0 ≤ x3 ∧ x3 < 6 ∧ (if (σ_5 1353 0 x3) = x1 then Q x4_4 σ_5 else (P_X12_trim_L41 x1 Q n) (max x2 x4_4) (wi (x3 + 1)) σ_5)) Q FU 0 σ)
set_option maxRecDepth 20000 in
set_option maxHeartbeats 2000000 in
theorem e_P_X12_trim_L41  {x1 : Int}  {Q : Int → St → Prop}   : ∀ (n : Nat) (x2 : Int) (x3 : Int) (σ : St), P_X12_trim_L41 x1 Q n x2 x3 σ → E Y_X12_trim 2 0 0 (QI Q) ww 0 0 41 [some (vR 12 0), some (vI x1), some (vI x2), some (vI x3), none] [] σ := by
  intro n
  induction n with
  | zero => intro x2 x3 σ h; exact h.elim
  | succ n hR =>
    intro x2 x3 σ h
    unfold P_X12_trim_L41 at h
    refine E_iload_n dX12_trim_41 rfl rfl ?_
    refine E_aload_n dX12_trim_42 rfl rfl ?_
    refine E_getr (i := 0) dX12_trim_43 fl_RX12_13 rfl rfl (go_12_10 _ _) ?_
    refine E_ic dX12_trim_46 rfl ?_
    refine E_iald dX12_trim_47 sh_1310 (by decide) (by decide) ?_
    refine E_icmp_ge (tgt := 133) dX12_trim_48 (by decide) (fun hc => ?_) (fun hc => ?_)
    · have h := Eq.mp (if_pos hc) h
      refine E_ic dX12_trim_133 rfl ?_
      exact E_iret dX12_trim_134 rfl ⟨_, rfl, rfl, h⟩
    · have h := Eq.mp (if_neg hc) h
      refine E_ic dX12_trim_51 rfl ?_
      refine E_istore (ls' := [some (vR 12 0), some (vI x1), some (vI x2), some (vI x3), some (vI 0)]) dX12_trim_52 (by decide) rfl ?_
      refine e_P_X12_trim_L54 ?_ _ _ _ h
      · intro x4_4 σ_5 h
        refine E_aload_n dX12_trim_107 rfl rfl ?_
        refine E_getr (i := 0) dX12_trim_108 fl_RX12_129 rfl rfl (go_12_53 _ _) ?_
        refine E_iload_n dX12_trim_111 rfl rfl ?_
        obtain ⟨hg0, hg1, h⟩ := h
        refine E_iald dX12_trim_112 sh_1353 hg0 hg1 ?_
        refine E_iload_n dX12_trim_113 rfl rfl ?_
        refine E_icmp_ne (tgt := 120) dX12_trim_114 (by decide) (fun hc => ?_) (fun hc => ?_)
        · have h := Eq.mp (if_neg hc) h
          refine E_iload_n dX12_trim_120 rfl rfl ?_
          refine E_iload dX12_trim_121 rfl ?_
          refine E_mmax dX12_trim_123 lk_RX12_437 (by decide) (Nat.le_refl _) (Nat.le_refl _) (Nat.le_of_ble_eq_true rfl) ?_
          refine E_istore_n (ls' := [some (vR 12 0), some (vI x1), some (vI (max x2 x4_4)), some (vI x3), some (vI x4_4)]) dX12_trim_126 rfl (by decide) rfl ?_
          refine E_iinc (ls' := [some (vR 12 0), some (vI x1), some (vI (max x2 x4_4)), some (vI (wi (x3 + 1))), some (vI x4_4)]) dX12_trim_127 rfl (by decide) rfl rfl ?_
          refine E_goto (tgt := 41) dX12_trim_130 (by decide) ?_
          refine E_wk2 [some (vR 12 0), some (vI x1), some (vI (max x2 x4_4)), some (vI (wi (x3 + 1))), none] ⟨rfl, ⟨rfl, ⟨rfl, ⟨rfl, trivial⟩⟩⟩⟩ ?_
          exact hR _ _ _ h
        · have h := Eq.mp (if_pos hc) h
          refine E_iload dX12_trim_117 rfl ?_
          exact E_iret dX12_trim_119 rfl ⟨_, rfl, rfl, h⟩
def P_X12_trim_J21  (x1 : Int)  (Q : Int → St → Prop) (σ : St) : Prop :=
  P_X12_laysHome σ (fun σ_1 => (if x1 = (-1) then Q (σ_1 1355 0 0) σ_1 else P_X12_trim_L41 x1 Q FU 0 0 σ_1))
set_option maxRecDepth 20000 in
set_option maxHeartbeats 2000000 in
theorem e_P_X12_trim_J21  {x1 : Int}  {Q : Int → St → Prop} {σ : St}   (h : P_X12_trim_J21 x1 Q σ) : E Y_X12_trim 2 0 0 (QI Q) ww 0 0 21 [some (vR 12 0), some (vI x1), none, none, none] [] σ := by
  unfold P_X12_trim_J21 at h
  refine E_aload_n dX12_trim_21 rfl rfl ?_
  refine E_callV (Y' := Y_X12_laysHome) (as := []) (st := []) dX12_trim_22 lk_RX12_442 m_X12_laysHome (by decide) (Nat.le_refl _) (Nat.le_refl _) rfl rfl (Nat.le_of_ble_eq_true rfl) (s_X12_laysHome h) (fun r0 B0 σ_1 h => ?_)
  obtain ⟨rfl, rfl, h⟩ := h
  refine E_iload_n dX12_trim_25 rfl rfl ?_
  refine E_ic dX12_trim_26 rfl ?_
  refine E_icmp_ne (tgt := 37) dX12_trim_27 (by decide) (fun hc => ?_) (fun hc => ?_)
  · have h := Eq.mp (if_neg hc) h
    refine E_ic dX12_trim_37 rfl ?_
    refine E_istore_n (ls' := [some (vR 12 0), some (vI x1), some (vI 0), none, none]) dX12_trim_38 rfl (by decide) rfl ?_
    refine E_ic dX12_trim_39 rfl ?_
    refine E_istore_n (ls' := [some (vR 12 0), some (vI x1), some (vI 0), some (vI 0), none]) dX12_trim_40 rfl (by decide) rfl ?_
    refine e_P_X12_trim_L41  _ _ _ _ h
  · have h := Eq.mp (if_pos hc) h
    refine E_aload_n dX12_trim_30 rfl rfl ?_
    refine E_getr (i := 0) dX12_trim_31 fl_RX12_132 rfl rfl (go_12_55 _ _) ?_
    refine E_ic dX12_trim_34 rfl ?_
    refine E_iald dX12_trim_35 sh_1355 (by decide) (by decide) ?_
    exact E_iret dX12_trim_36 rfl ⟨_, rfl, rfl, h⟩
def P_X12_trim  (x1 : Int) (σ : St) (Q : Int → St → Prop) : Prop :=
  (if x1 = (-1) then P_X12_trim_J21 x1 Q (up σ 12 0 0 0) else P_X12_isCounter x1 (up σ 12 0 0 0) (fun r_7 σ_6 => (if r_7 = 0 then Q (-2) σ_6 else P_X12_trim_J21 x1 Q σ_6)))
set_option maxRecDepth 20000 in
set_option maxHeartbeats 2000000 in
theorem s_X12_trim   {x1 : Int} {σ : St} {Q : Int → St → Prop} (h : P_X12_trim x1 σ Q) : Cn Y_X12_trim 2 0 0 ww σ [vR 12 0, vI x1] (QI Q) := by
  refine Cn_of [some (vR 12 0), some (vI x1), none, none, none] (by decide) (Nat.le_of_ble_eq_true rfl) rfl ?_
  unfold P_X12_trim at h
  refine E_aload_n dX12_trim_0 rfl rfl ?_
  refine E_ic dX12_trim_1 rfl ?_
  refine E_puti dX12_trim_2 fl_RX12_141 rfl rfl rfl ?_
  refine E_iload_n dX12_trim_5 rfl rfl ?_
  refine E_ic dX12_trim_6 rfl ?_
  refine E_icmp_eq (tgt := 21) dX12_trim_7 (by decide) (fun hc => ?_) (fun hc => ?_)
  · have h := Eq.mp (if_pos hc) h
    exact e_P_X12_trim_J21 h
  · have h := Eq.mp (if_neg hc) h
    refine E_aload_n dX12_trim_10 rfl rfl ?_
    refine E_iload_n dX12_trim_11 rfl rfl ?_
    refine E_callV (Y' := Y_X12_isCounter) (as := [vI x1]) (st := []) dX12_trim_12 lk_RX12_403 m_X12_isCounter (by decide) (Nat.le_refl _) (Nat.le_refl _) rfl rfl (Nat.le_of_ble_eq_true rfl) (s_X12_isCounter h) (fun r0 B0 σ_6 h => ?_)
    obtain ⟨r_7, rfl, rfl, h⟩ := h
    refine E_if_ne (tgt := 21) dX12_trim_15 (by decide) (fun hc => ?_) (fun hc => ?_)
    · have h := Eq.mp (if_neg hc) h
      exact e_P_X12_trim_J21 h
    · have h := Eq.mp (if_pos hc) h
      refine E_bp dX12_trim_18 rfl ?_
      exact E_iret dX12_trim_20 rfl ⟨_, rfl, rfl, h⟩
abbrev Y_X12_changes : My := (yX12_changes, cX12_changes, 4, none)
theorem dX12_changes_0 : decode cX12_changes 0 = .ok (.aload_n 0, 1) := by decide +kernel
theorem dX12_changes_1 : decode cX12_changes 1 = .ok (.getfield 111, 3) := by decide +kernel
theorem dX12_changes_4 : decode cX12_changes 4 = .ok (.bipush 10, 2) := by decide +kernel
theorem dX12_changes_6 : decode cX12_changes 6 = .ok (.iload_n 1, 1) := by decide +kernel
theorem dX12_changes_7 : decode cX12_changes 7 = .ok (.iadd, 1) := by decide +kernel
theorem dX12_changes_8 : decode cX12_changes 8 = .ok (.iaload, 1) := by decide +kernel
theorem dX12_changes_9 : decode cX12_changes 9 = .ok (.istore_n 3, 1) := by decide +kernel
theorem dX12_changes_10 : decode cX12_changes 10 = .ok (.aload_n 0, 1) := by decide +kernel
theorem dX12_changes_11 : decode cX12_changes 11 = .ok (.getfield 111, 3) := by decide +kernel
theorem dX12_changes_14 : decode cX12_changes 14 = .ok (.bipush 10, 2) := by decide +kernel
theorem dX12_changes_16 : decode cX12_changes 16 = .ok (.iload_n 1, 1) := by decide +kernel
theorem dX12_changes_17 : decode cX12_changes 17 = .ok (.iadd, 1) := by decide +kernel
theorem dX12_changes_18 : decode cX12_changes 18 = .ok (.aload_n 0, 1) := by decide +kernel
theorem dX12_changes_19 : decode cX12_changes 19 = .ok (.getfield 111, 3) := by decide +kernel
theorem dX12_changes_22 : decode cX12_changes 22 = .ok (.bipush 10, 2) := by decide +kernel
theorem dX12_changes_24 : decode cX12_changes 24 = .ok (.iload_n 2, 1) := by decide +kernel
theorem dX12_changes_25 : decode cX12_changes 25 = .ok (.iadd, 1) := by decide +kernel
theorem dX12_changes_26 : decode cX12_changes 26 = .ok (.iaload, 1) := by decide +kernel
theorem dX12_changes_27 : decode cX12_changes 27 = .ok (.iastore, 1) := by decide +kernel
theorem dX12_changes_28 : decode cX12_changes 28 = .ok (.aload_n 0, 1) := by decide +kernel
theorem dX12_changes_29 : decode cX12_changes 29 = .ok (.getfield 111, 3) := by decide +kernel
theorem dX12_changes_32 : decode cX12_changes 32 = .ok (.bipush 10, 2) := by decide +kernel
theorem dX12_changes_34 : decode cX12_changes 34 = .ok (.iload_n 2, 1) := by decide +kernel
theorem dX12_changes_35 : decode cX12_changes 35 = .ok (.iadd, 1) := by decide +kernel
theorem dX12_changes_36 : decode cX12_changes 36 = .ok (.iload_n 3, 1) := by decide +kernel
theorem dX12_changes_37 : decode cX12_changes 37 = .ok (.iastore, 1) := by decide +kernel
theorem dX12_changes_38 : decode cX12_changes 38 = .ok (.return_, 1) := by decide +kernel
def P_X12_changes  (x1 : Int) (x2 : Int) (σ : St) (Q : St → Prop) : Prop :=
  0 ≤ wi (10 + x1) ∧ wi (10 + x1) < 46 ∧ 0 ≤ wi (10 + x2) ∧ wi (10 + x2) < 46 ∧ 0 ≤ wi (10 + x1) ∧ wi (10 + x1) < 46 ∧ 0 ≤ wi (10 + x2) ∧ wi (10 + x2) < 46 ∧ Q (up (up σ 1346 0 (wi (10 + x1)) (σ 1346 0 (wi (10 + x2)))) 1346 0 (wi (10 + x2)) (σ 1346 0 (wi (10 + x1))))
set_option maxRecDepth 20000 in
set_option maxHeartbeats 2000000 in
theorem s_X12_changes   {x1 : Int} {x2 : Int} {σ : St} {Q : St → Prop} (h : P_X12_changes x1 x2 σ Q) : Cn Y_X12_changes 0 0 0 ww σ [vR 12 0, vI x1, vI x2] (QV Q) := by
  refine Cn_of [some (vR 12 0), some (vI x1), some (vI x2), none] (by decide) (Nat.le_of_ble_eq_true rfl) rfl ?_
  unfold P_X12_changes at h
  refine E_aload_n dX12_changes_0 rfl rfl ?_
  refine E_getr (i := 0) dX12_changes_1 fl_RX12_111 rfl rfl (go_12_46 _ _) ?_
  refine E_bp dX12_changes_4 rfl ?_
  refine E_iload_n dX12_changes_6 rfl rfl ?_
  refine E_iadd dX12_changes_7 ?_
  obtain ⟨hg0, hg1, h⟩ := h
  refine E_iald dX12_changes_8 sh_1346 hg0 hg1 ?_
  refine E_istore_n (ls' := [some (vR 12 0), some (vI x1), some (vI x2), some (vI (σ 1346 0 (wi (10 + x1))))]) dX12_changes_9 rfl (by decide) rfl ?_
  refine E_aload_n dX12_changes_10 rfl rfl ?_
  refine E_getr (i := 0) dX12_changes_11 fl_RX12_111 rfl rfl (go_12_46 _ _) ?_
  refine E_bp dX12_changes_14 rfl ?_
  refine E_iload_n dX12_changes_16 rfl rfl ?_
  refine E_iadd dX12_changes_17 ?_
  refine E_aload_n dX12_changes_18 rfl rfl ?_
  refine E_getr (i := 0) dX12_changes_19 fl_RX12_111 rfl rfl (go_12_46 _ _) ?_
  refine E_bp dX12_changes_22 rfl ?_
  refine E_iload_n dX12_changes_24 rfl rfl ?_
  refine E_iadd dX12_changes_25 ?_
  obtain ⟨hg0, hg1, h⟩ := h
  refine E_iald dX12_changes_26 sh_1346 hg0 hg1 ?_
  obtain ⟨hg0, hg1, h⟩ := h
  refine E_iast dX12_changes_27 sh_1346 hg0 hg1 ?_
  refine E_aload_n dX12_changes_28 rfl rfl ?_
  refine E_getr (i := 0) dX12_changes_29 fl_RX12_111 rfl rfl (go_12_46 _ _) ?_
  refine E_bp dX12_changes_32 rfl ?_
  refine E_iload_n dX12_changes_34 rfl rfl ?_
  refine E_iadd dX12_changes_35 ?_
  refine E_iload_n dX12_changes_36 rfl rfl ?_
  obtain ⟨hg0, hg1, h⟩ := h
  refine E_iast dX12_changes_37 sh_1346 hg0 hg1 ?_
  exact E_vret dX12_changes_38 rfl ⟨rfl, rfl, h⟩
abbrev Y_X12_swap : My := (yX12_swap, cX12_swap, 6, some .int)
theorem dX12_swap_0 : decode cX12_swap 0 = .ok (.aload_n 0, 1) := by decide +kernel
theorem dX12_swap_1 : decode cX12_swap 1 = .ok (.iconst 0, 1) := by decide +kernel
theorem dX12_swap_2 : decode cX12_swap 2 = .ok (.putfield 141, 3) := by decide +kernel
theorem dX12_swap_5 : decode cX12_swap 5 = .ok (.aload_n 0, 1) := by decide +kernel
theorem dX12_swap_6 : decode cX12_swap 6 = .ok (.invokevirtual 445, 3) := by decide +kernel
theorem dX12_swap_9 : decode cX12_swap 9 = .ok (.istore_n 1, 1) := by decide +kernel
theorem dX12_swap_10 : decode cX12_swap 10 = .ok (.iconst (-1), 1) := by decide +kernel
theorem dX12_swap_11 : decode cX12_swap 11 = .ok (.istore_n 2, 1) := by decide +kernel
theorem dX12_swap_12 : decode cX12_swap 12 = .ok (.iconst 0, 1) := by decide +kernel
theorem dX12_swap_13 : decode cX12_swap 13 = .ok (.istore_n 3, 1) := by decide +kernel
theorem dX12_swap_14 : decode cX12_swap 14 = .ok (.iload_n 3, 1) := by decide +kernel
theorem dX12_swap_15 : decode cX12_swap 15 = .ok (.aload_n 0, 1) := by decide +kernel
theorem dX12_swap_16 : decode cX12_swap 16 = .ok (.getfield 13, 3) := by decide +kernel
theorem dX12_swap_19 : decode cX12_swap 19 = .ok (.iconst 0, 1) := by decide +kernel
theorem dX12_swap_20 : decode cX12_swap 20 = .ok (.iaload, 1) := by decide +kernel
theorem dX12_swap_21 : decode cX12_swap 21 = .ok (.if_icmp .ge 71, 3) := by decide +kernel
theorem dX12_swap_24 : decode cX12_swap 24 = .ok (.iload_n 3, 1) := by decide +kernel
theorem dX12_swap_25 : decode cX12_swap 25 = .ok (.iconst 1, 1) := by decide +kernel
theorem dX12_swap_26 : decode cX12_swap 26 = .ok (.iadd, 1) := by decide +kernel
theorem dX12_swap_27 : decode cX12_swap 27 = .ok (.istore 4, 2) := by decide +kernel
theorem dX12_swap_29 : decode cX12_swap 29 = .ok (.iload 4, 2) := by decide +kernel
theorem dX12_swap_31 : decode cX12_swap 31 = .ok (.aload_n 0, 1) := by decide +kernel
theorem dX12_swap_32 : decode cX12_swap 32 = .ok (.getfield 13, 3) := by decide +kernel
theorem dX12_swap_35 : decode cX12_swap 35 = .ok (.iconst 0, 1) := by decide +kernel
theorem dX12_swap_36 : decode cX12_swap 36 = .ok (.iaload, 1) := by decide +kernel
theorem dX12_swap_37 : decode cX12_swap 37 = .ok (.if_icmp .ge 49, 3) := by decide +kernel
theorem dX12_swap_40 : decode cX12_swap 40 = .ok (.aload_n 0, 1) := by decide +kernel
theorem dX12_swap_41 : decode cX12_swap 41 = .ok (.iload_n 3, 1) := by decide +kernel
theorem dX12_swap_42 : decode cX12_swap 42 = .ok (.iload 4, 2) := by decide +kernel
theorem dX12_swap_44 : decode cX12_swap 44 = .ok (.invokevirtual 448, 3) := by decide +kernel
theorem dX12_swap_47 : decode cX12_swap 47 = .ok (.aload_n 0, 1) := by decide +kernel
theorem dX12_swap_48 : decode cX12_swap 48 = .ok (.invokevirtual 445, 3) := by decide +kernel
theorem dX12_swap_51 : decode cX12_swap 51 = .ok (.istore 5, 2) := by decide +kernel
theorem dX12_swap_53 : decode cX12_swap 53 = .ok (.aload_n 0, 1) := by decide +kernel
theorem dX12_swap_54 : decode cX12_swap 54 = .ok (.iload_n 3, 1) := by decide +kernel
theorem dX12_swap_55 : decode cX12_swap 55 = .ok (.iload 4, 2) := by decide +kernel
theorem dX12_swap_57 : decode cX12_swap 57 = .ok (.invokevirtual 448, 3) := by decide +kernel
theorem dX12_swap_60 : decode cX12_swap 60 = .ok (.iload 5, 2) := by decide +kernel
theorem dX12_swap_62 : decode cX12_swap 62 = .ok (.iload_n 1, 1) := by decide +kernel
theorem dX12_swap_63 : decode cX12_swap 63 = .ok (.if_icmp .gt 6, 3) := by decide +kernel
theorem dX12_swap_66 : decode cX12_swap 66 = .ok (.goto 14, 3) := by decide +kernel
theorem dX12_swap_69 : decode cX12_swap 69 = .ok (.iload 5, 2) := by decide +kernel
theorem dX12_swap_71 : decode cX12_swap 71 = .ok (.istore_n 1, 1) := by decide +kernel
theorem dX12_swap_72 : decode cX12_swap 72 = .ok (.bipush 8, 2) := by decide +kernel
theorem dX12_swap_74 : decode cX12_swap 74 = .ok (.iload_n 3, 1) := by decide +kernel
theorem dX12_swap_75 : decode cX12_swap 75 = .ok (.imul, 1) := by decide +kernel
theorem dX12_swap_76 : decode cX12_swap 76 = .ok (.iload 4, 2) := by decide +kernel
theorem dX12_swap_78 : decode cX12_swap 78 = .ok (.iadd, 1) := by decide +kernel
theorem dX12_swap_79 : decode cX12_swap 79 = .ok (.istore_n 2, 1) := by decide +kernel
theorem dX12_swap_80 : decode cX12_swap 80 = .ok (.iinc 4 1, 3) := by decide +kernel
theorem dX12_swap_83 : decode cX12_swap 83 = .ok (.goto (-54), 3) := by decide +kernel
theorem dX12_swap_86 : decode cX12_swap 86 = .ok (.iinc 3 1, 3) := by decide +kernel
theorem dX12_swap_89 : decode cX12_swap 89 = .ok (.goto (-75), 3) := by decide +kernel
theorem dX12_swap_92 : decode cX12_swap 92 = .ok (.iload_n 2, 1) := by decide +kernel
theorem dX12_swap_93 : decode cX12_swap 93 = .ok (.ireturn, 1) := by decide +kernel
theorem lk_RX12_445 : Cond.methodLink RX12 445 yX12_homeNow ∈ tG := inG (i := 1933) (by decide +kernel) (by decide +kernel)
theorem lk_RX12_448 : Cond.methodLink RX12 448 yX12_changes ∈ tG := inG (i := 1937) (by decide +kernel) (by decide +kernel)
theorem m_X12_changes : MV Y_X12_changes 2 12 := ⟨⟨inG (i := 1940) (by decide +kernel) (by decide +kernel), inG (i := 110) (by decide +kernel) (by decide +kernel), by decide, by decide, by decide, by decide +kernel⟩, inG (i := 1939) (by decide +kernel) (by decide +kernel), inG (i := 87) (by decide +kernel) (by decide +kernel), by decide⟩
theorem m_X12_homeNow : MV Y_X12_homeNow 0 12 := ⟨⟨inG (i := 1936) (by decide +kernel) (by decide +kernel), inG (i := 110) (by decide +kernel) (by decide +kernel), by decide, by decide, by decide, by decide +kernel⟩, inG (i := 1935) (by decide +kernel) (by decide +kernel), inG (i := 86) (by decide +kernel) (by decide +kernel), by decide⟩
def P_X12_swap_L29  (x3 : Int) (K : Int → Int → St → Prop) (Q : Int → St → Prop) : Nat → Int → Int → Int → St → Prop
  | 0, _, _, _, _ => False
  | n + 1, x1, x2, x4, σ => (if (σ 1310 0 0) ≤ x4 then K x1 x2 σ else P_X12_changes x3 x4 σ (fun σ_3 => P_X12_homeNow σ_3 (fun r_5 σ_4 => P_X12_changes x3 x4 σ_4 (fun σ_6 => (if x1 < r_5 then (P_X12_swap_L29 x3 K Q n) r_5 (wi ((wi (8 * x3)) + x4)) (wi (x4 + 1)) σ_6 else (P_X12_swap_L29 x3 K Q n) x1 x2 (wi (x4 + 1)) σ_6)))))
set_option maxRecDepth 20000 in
set_option maxHeartbeats 2000000 in
theorem e_P_X12_swap_L29  {x3 : Int} {K : Int → Int → St → Prop} {Q : Int → St → Prop}  (hK : ∀ x1 x2 σ, K x1 x2 σ → E Y_X12_swap 3 0 0 (QI Q) ww 0 0 86 [some (vR 12 0), some (vI x1), some (vI x2), some (vI x3), none, none] [] σ) : ∀ (n : Nat) (x1 : Int) (x2 : Int) (x4 : Int) (σ : St), P_X12_swap_L29 x3 K Q n x1 x2 x4 σ → E Y_X12_swap 3 0 0 (QI Q) ww 0 0 29 [some (vR 12 0), some (vI x1), some (vI x2), some (vI x3), some (vI x4), none] [] σ := by
  intro n
  induction n with
  | zero => intro x1 x2 x4 σ h; exact h.elim
  | succ n hR =>
    intro x1 x2 x4 σ h
    unfold P_X12_swap_L29 at h
    refine E_iload dX12_swap_29 rfl ?_
    refine E_aload_n dX12_swap_31 rfl rfl ?_
    refine E_getr (i := 0) dX12_swap_32 fl_RX12_13 rfl rfl (go_12_10 _ _) ?_
    refine E_ic dX12_swap_35 rfl ?_
    refine E_iald dX12_swap_36 sh_1310 (by decide) (by decide) ?_
    refine E_icmp_ge (tgt := 86) dX12_swap_37 (by decide) (fun hc => ?_) (fun hc => ?_)
    · have h := Eq.mp (if_pos hc) h
      refine E_wk2 [some (vR 12 0), some (vI x1), some (vI x2), some (vI x3), none, none] ⟨rfl, ⟨rfl, ⟨rfl, ⟨rfl, trivial⟩⟩⟩⟩ ?_
      exact hK _ _ _ h
    · have h := Eq.mp (if_neg hc) h
      refine E_aload_n dX12_swap_40 rfl rfl ?_
      refine E_iload_n dX12_swap_41 rfl rfl ?_
      refine E_iload dX12_swap_42 rfl ?_
      refine E_callV (Y' := Y_X12_changes) (as := [vI x3, vI x4]) (st := []) dX12_swap_44 lk_RX12_448 m_X12_changes (by decide) (Nat.le_refl _) (Nat.le_refl _) rfl rfl (Nat.le_of_ble_eq_true rfl) (s_X12_changes h) (fun r0 B0 σ_3 h => ?_)
      obtain ⟨rfl, rfl, h⟩ := h
      refine E_aload_n dX12_swap_47 rfl rfl ?_
      refine E_callV (Y' := Y_X12_homeNow) (as := []) (st := []) dX12_swap_48 lk_RX12_445 m_X12_homeNow (by decide) (Nat.le_refl _) (Nat.le_refl _) rfl rfl (Nat.le_of_ble_eq_true rfl) (s_X12_homeNow h) (fun r0 B0 σ_4 h => ?_)
      obtain ⟨r_5, rfl, rfl, h⟩ := h
      refine E_istore (ls' := [some (vR 12 0), some (vI x1), some (vI x2), some (vI x3), some (vI x4), some (vI r_5)]) dX12_swap_51 (by decide) rfl ?_
      refine E_aload_n dX12_swap_53 rfl rfl ?_
      refine E_iload_n dX12_swap_54 rfl rfl ?_
      refine E_iload dX12_swap_55 rfl ?_
      refine E_callV (Y' := Y_X12_changes) (as := [vI x3, vI x4]) (st := []) dX12_swap_57 lk_RX12_448 m_X12_changes (by decide) (Nat.le_refl _) (Nat.le_refl _) rfl rfl (Nat.le_of_ble_eq_true rfl) (s_X12_changes h) (fun r0 B0 σ_6 h => ?_)
      obtain ⟨rfl, rfl, h⟩ := h
      refine E_iload dX12_swap_60 rfl ?_
      refine E_iload_n dX12_swap_62 rfl rfl ?_
      refine E_icmp_gt (tgt := 69) dX12_swap_63 (by decide) (fun hc => ?_) (fun hc => ?_)
      · have h := Eq.mp (if_pos hc) h
        refine E_iload dX12_swap_69 rfl ?_
        refine E_istore_n (ls' := [some (vR 12 0), some (vI r_5), some (vI x2), some (vI x3), some (vI x4), some (vI r_5)]) dX12_swap_71 rfl (by decide) rfl ?_
        refine E_bp dX12_swap_72 rfl ?_
        refine E_iload_n dX12_swap_74 rfl rfl ?_
        refine E_imul dX12_swap_75 ?_
        refine E_iload dX12_swap_76 rfl ?_
        refine E_iadd dX12_swap_78 ?_
        refine E_istore_n (ls' := [some (vR 12 0), some (vI r_5), some (vI (wi ((wi (8 * x3)) + x4))), some (vI x3), some (vI x4), some (vI r_5)]) dX12_swap_79 rfl (by decide) rfl ?_
        refine E_iinc (ls' := [some (vR 12 0), some (vI r_5), some (vI (wi ((wi (8 * x3)) + x4))), some (vI x3), some (vI (wi (x4 + 1))), some (vI r_5)]) dX12_swap_80 rfl (by decide) rfl rfl ?_
        refine E_goto (tgt := 29) dX12_swap_83 (by decide) ?_
        refine E_wk2 [some (vR 12 0), some (vI r_5), some (vI (wi ((wi (8 * x3)) + x4))), some (vI x3), some (vI (wi (x4 + 1))), none] ⟨rfl, ⟨rfl, ⟨rfl, ⟨rfl, ⟨rfl, trivial⟩⟩⟩⟩⟩ ?_
        exact hR _ _ _ _ h
      · have h := Eq.mp (if_neg hc) h
        refine E_goto (tgt := 80) dX12_swap_66 (by decide) ?_
        refine E_iinc (ls' := [some (vR 12 0), some (vI x1), some (vI x2), some (vI x3), some (vI (wi (x4 + 1))), some (vI r_5)]) dX12_swap_80 rfl (by decide) rfl rfl ?_
        refine E_goto (tgt := 29) dX12_swap_83 (by decide) ?_
        refine E_wk2 [some (vR 12 0), some (vI x1), some (vI x2), some (vI x3), some (vI (wi (x4 + 1))), none] ⟨rfl, ⟨rfl, ⟨rfl, ⟨rfl, ⟨rfl, trivial⟩⟩⟩⟩⟩ ?_
        exact hR _ _ _ _ h
def P_X12_swap_L14    (Q : Int → St → Prop) : Nat → Int → Int → Int → St → Prop
  | 0, _, _, _, _ => False
  | n + 1, x1, x2, x3, σ => (if (σ 1310 0 0) ≤ x3 then Q x2 σ else P_X12_swap_L29 x3 (fun x1_7 x2_8 σ_9 => (P_X12_swap_L14 Q n) x1_7 x2_8 (wi (x3 + 1)) σ_9) Q FU x1 x2 (wi (x3 + 1)) σ)
set_option maxRecDepth 20000 in
set_option maxHeartbeats 2000000 in
theorem e_P_X12_swap_L14    {Q : Int → St → Prop}   : ∀ (n : Nat) (x1 : Int) (x2 : Int) (x3 : Int) (σ : St), P_X12_swap_L14 Q n x1 x2 x3 σ → E Y_X12_swap 3 0 0 (QI Q) ww 0 0 14 [some (vR 12 0), some (vI x1), some (vI x2), some (vI x3), none, none] [] σ := by
  intro n
  induction n with
  | zero => intro x1 x2 x3 σ h; exact h.elim
  | succ n hR =>
    intro x1 x2 x3 σ h
    unfold P_X12_swap_L14 at h
    refine E_iload_n dX12_swap_14 rfl rfl ?_
    refine E_aload_n dX12_swap_15 rfl rfl ?_
    refine E_getr (i := 0) dX12_swap_16 fl_RX12_13 rfl rfl (go_12_10 _ _) ?_
    refine E_ic dX12_swap_19 rfl ?_
    refine E_iald dX12_swap_20 sh_1310 (by decide) (by decide) ?_
    refine E_icmp_ge (tgt := 92) dX12_swap_21 (by decide) (fun hc => ?_) (fun hc => ?_)
    · have h := Eq.mp (if_pos hc) h
      refine E_iload_n dX12_swap_92 rfl rfl ?_
      exact E_iret dX12_swap_93 rfl ⟨_, rfl, rfl, h⟩
    · have h := Eq.mp (if_neg hc) h
      refine E_iload_n dX12_swap_24 rfl rfl ?_
      refine E_ic dX12_swap_25 rfl ?_
      refine E_iadd dX12_swap_26 ?_
      refine E_istore (ls' := [some (vR 12 0), some (vI x1), some (vI x2), some (vI x3), some (vI (wi (x3 + 1))), none]) dX12_swap_27 (by decide) rfl ?_
      refine e_P_X12_swap_L29 ?_ _ _ _ _ _ h
      · intro x1_7 x2_8 σ_9 h
        refine E_iinc (ls' := [some (vR 12 0), some (vI x1_7), some (vI x2_8), some (vI (wi (x3 + 1))), none, none]) dX12_swap_86 rfl (by decide) rfl rfl ?_
        refine E_goto (tgt := 14) dX12_swap_89 (by decide) ?_
        exact hR _ _ _ _ h
def P_X12_swap   (σ : St) (Q : Int → St → Prop) : Prop :=
  P_X12_homeNow (up σ 12 0 0 0) (fun r_2 σ_1 => P_X12_swap_L14 Q FU r_2 (-1) 0 σ_1)
set_option maxRecDepth 20000 in
set_option maxHeartbeats 2000000 in
theorem s_X12_swap    {σ : St} {Q : Int → St → Prop} (h : P_X12_swap  σ Q) : Cn Y_X12_swap 3 0 0 ww σ [vR 12 0] (QI Q) := by
  refine Cn_of [some (vR 12 0), none, none, none, none, none] (by decide) (Nat.le_of_ble_eq_true rfl) rfl ?_
  unfold P_X12_swap at h
  refine E_aload_n dX12_swap_0 rfl rfl ?_
  refine E_ic dX12_swap_1 rfl ?_
  refine E_puti dX12_swap_2 fl_RX12_141 rfl rfl rfl ?_
  refine E_aload_n dX12_swap_5 rfl rfl ?_
  refine E_callV (Y' := Y_X12_homeNow) (as := []) (st := []) dX12_swap_6 lk_RX12_445 m_X12_homeNow (by decide) (Nat.le_refl _) (Nat.le_refl _) rfl rfl (Nat.le_of_ble_eq_true rfl) (s_X12_homeNow h) (fun r0 B0 σ_1 h => ?_)
  obtain ⟨r_2, rfl, rfl, h⟩ := h
  refine E_istore_n (ls' := [some (vR 12 0), some (vI r_2), none, none, none, none]) dX12_swap_9 rfl (by decide) rfl ?_
  refine E_ic dX12_swap_10 rfl ?_
  refine E_istore_n (ls' := [some (vR 12 0), some (vI r_2), some (vI (-1)), none, none, none]) dX12_swap_11 rfl (by decide) rfl ?_
  refine E_ic dX12_swap_12 rfl ?_
  refine E_istore_n (ls' := [some (vR 12 0), some (vI r_2), some (vI (-1)), some (vI 0), none, none]) dX12_swap_13 rfl (by decide) rfl ?_
  refine e_P_X12_swap_L14  _ _ _ _ _ h
abbrev Y_X12_restsIn : My := (yX12_restsIn, cX12_restsIn, 3, some .int)
theorem dX12_restsIn_0 : decode cX12_restsIn 0 = .ok (.iconst 0, 1) := by decide +kernel
theorem dX12_restsIn_1 : decode cX12_restsIn 1 = .ok (.istore_n 2, 1) := by decide +kernel
theorem dX12_restsIn_2 : decode cX12_restsIn 2 = .ok (.aload_n 0, 1) := by decide +kernel
theorem dX12_restsIn_3 : decode cX12_restsIn 3 = .ok (.getfield 111, 3) := by decide +kernel
theorem dX12_restsIn_6 : decode cX12_restsIn 6 = .ok (.bipush 22, 2) := by decide +kernel
theorem dX12_restsIn_8 : decode cX12_restsIn 8 = .ok (.iload_n 1, 1) := by decide +kernel
theorem dX12_restsIn_9 : decode cX12_restsIn 9 = .ok (.iadd, 1) := by decide +kernel
theorem dX12_restsIn_10 : decode cX12_restsIn 10 = .ok (.iaload, 1) := by decide +kernel
theorem dX12_restsIn_11 : decode cX12_restsIn 11 = .ok (.ifCond .eq 14, 3) := by decide +kernel
theorem dX12_restsIn_14 : decode cX12_restsIn 14 = .ok (.aload_n 0, 1) := by decide +kernel
theorem dX12_restsIn_15 : decode cX12_restsIn 15 = .ok (.invokevirtual 385, 3) := by decide +kernel
theorem dX12_restsIn_18 : decode cX12_restsIn 18 = .ok (.pop, 1) := by decide +kernel
theorem dX12_restsIn_19 : decode cX12_restsIn 19 = .ok (.iinc 2 1, 3) := by decide +kernel
theorem dX12_restsIn_22 : decode cX12_restsIn 22 = .ok (.goto (-20), 3) := by decide +kernel
theorem dX12_restsIn_25 : decode cX12_restsIn 25 = .ok (.iload_n 2, 1) := by decide +kernel
theorem dX12_restsIn_26 : decode cX12_restsIn 26 = .ok (.ireturn, 1) := by decide +kernel
def P_X12_restsIn_L2  (x1 : Int)  (Q : Int → St → Prop) : Nat → Int → St → Prop
  | 0, _, _ => False
  | n + 1, x2, σ => 0 ≤ wi (22 + x1) ∧ wi (22 + x1) < 46 ∧ (if (σ 1346 0 (wi (22 + x1))) = 0 then Q x2 σ else P_X12_passes σ (fun r_2 σ_1 => (P_X12_restsIn_L2 x1 Q n) (wi (x2 + 1)) σ_1))
set_option maxRecDepth 20000 in
set_option maxHeartbeats 2000000 in
theorem e_P_X12_restsIn_L2  {x1 : Int}  {Q : Int → St → Prop}   : ∀ (n : Nat) (x2 : Int) (σ : St), P_X12_restsIn_L2 x1 Q n x2 σ → E Y_X12_restsIn 4 0 0 (QI Q) ww 0 0 2 [some (vR 12 0), some (vI x1), some (vI x2)] [] σ := by
  intro n
  induction n with
  | zero => intro x2 σ h; exact h.elim
  | succ n hR =>
    intro x2 σ h
    unfold P_X12_restsIn_L2 at h
    refine E_aload_n dX12_restsIn_2 rfl rfl ?_
    refine E_getr (i := 0) dX12_restsIn_3 fl_RX12_111 rfl rfl (go_12_46 _ _) ?_
    refine E_bp dX12_restsIn_6 rfl ?_
    refine E_iload_n dX12_restsIn_8 rfl rfl ?_
    refine E_iadd dX12_restsIn_9 ?_
    obtain ⟨hg0, hg1, h⟩ := h
    refine E_iald dX12_restsIn_10 sh_1346 hg0 hg1 ?_
    refine E_if_eq (tgt := 25) dX12_restsIn_11 (by decide) (fun hc => ?_) (fun hc => ?_)
    · have h := Eq.mp (if_pos hc) h
      refine E_iload_n dX12_restsIn_25 rfl rfl ?_
      exact E_iret dX12_restsIn_26 rfl ⟨_, rfl, rfl, h⟩
    · have h := Eq.mp (if_neg hc) h
      refine E_aload_n dX12_restsIn_14 rfl rfl ?_
      refine E_callV (Y' := Y_X12_passes) (as := []) (st := []) dX12_restsIn_15 lk_RX12_385 m_X12_passes (by decide) (Nat.le_refl _) (Nat.le_refl _) rfl rfl (Nat.le_of_ble_eq_true rfl) (s_X12_passes h) (fun r0 B0 σ_1 h => ?_)
      obtain ⟨r_2, rfl, rfl, h⟩ := h
      refine E_pop dX12_restsIn_18 (fun _ q => by cases q) ?_
      refine E_iinc (ls' := [some (vR 12 0), some (vI x1), some (vI (wi (x2 + 1)))]) dX12_restsIn_19 rfl (by decide) rfl rfl ?_
      refine E_goto (tgt := 2) dX12_restsIn_22 (by decide) ?_
      exact hR _ _ h
def P_X12_restsIn  (x1 : Int) (σ : St) (Q : Int → St → Prop) : Prop :=
  P_X12_restsIn_L2 x1 Q FU 0 σ
set_option maxRecDepth 20000 in
set_option maxHeartbeats 2000000 in
theorem s_X12_restsIn   {x1 : Int} {σ : St} {Q : Int → St → Prop} (h : P_X12_restsIn x1 σ Q) : Cn Y_X12_restsIn 4 0 0 ww σ [vR 12 0, vI x1] (QI Q) := by
  refine Cn_of [some (vR 12 0), some (vI x1), none] (by decide) (Nat.le_of_ble_eq_true rfl) rfl ?_
  unfold P_X12_restsIn at h
  refine E_ic dX12_restsIn_0 rfl ?_
  refine E_istore_n (ls' := [some (vR 12 0), some (vI x1), some (vI 0)]) dX12_restsIn_1 rfl (by decide) rfl ?_
  refine e_P_X12_restsIn_L2  _ _ _ h
abbrev Y_X12_back : My := (yX12_back, cX12_back, 3, some .int)
theorem dX12_back_0 : decode cX12_back 0 = .ok (.aload_n 0, 1) := by decide +kernel
theorem dX12_back_1 : decode cX12_back 1 = .ok (.iconst 0, 1) := by decide +kernel
theorem dX12_back_2 : decode cX12_back 2 = .ok (.putfield 141, 3) := by decide +kernel
theorem dX12_back_5 : decode cX12_back 5 = .ok (.aload_n 0, 1) := by decide +kernel
theorem dX12_back_6 : decode cX12_back 6 = .ok (.iload_n 1, 1) := by decide +kernel
theorem dX12_back_7 : decode cX12_back 7 = .ok (.invokevirtual 406, 3) := by decide +kernel
theorem dX12_back_10 : decode cX12_back 10 = .ok (.ifCond .ne 5, 3) := by decide +kernel
theorem dX12_back_13 : decode cX12_back 13 = .ok (.iconst (-1), 1) := by decide +kernel
theorem dX12_back_14 : decode cX12_back 14 = .ok (.ireturn, 1) := by decide +kernel
theorem dX12_back_15 : decode cX12_back 15 = .ok (.aload_n 0, 1) := by decide +kernel
theorem dX12_back_16 : decode cX12_back 16 = .ok (.getfield 111, 3) := by decide +kernel
theorem dX12_back_19 : decode cX12_back 19 = .ok (.iconst 0, 1) := by decide +kernel
theorem dX12_back_20 : decode cX12_back 20 = .ok (.aload_n 0, 1) := by decide +kernel
theorem dX12_back_21 : decode cX12_back 21 = .ok (.getfield 117, 3) := by decide +kernel
theorem dX12_back_24 : decode cX12_back 24 = .ok (.iconst 0, 1) := by decide +kernel
theorem dX12_back_25 : decode cX12_back 25 = .ok (.invokestatic 409, 3) := by decide +kernel
theorem dX12_back_28 : decode cX12_back 28 = .ok (.aload_n 0, 1) := by decide +kernel
theorem dX12_back_29 : decode cX12_back 29 = .ok (.iload_n 1, 1) := by decide +kernel
theorem dX12_back_30 : decode cX12_back 30 = .ok (.invokevirtual 451, 3) := by decide +kernel
theorem dX12_back_33 : decode cX12_back 33 = .ok (.istore_n 2, 1) := by decide +kernel
theorem dX12_back_34 : decode cX12_back 34 = .ok (.aload_n 0, 1) := by decide +kernel
theorem dX12_back_35 : decode cX12_back 35 = .ok (.getfield 117, 3) := by decide +kernel
theorem dX12_back_38 : decode cX12_back 38 = .ok (.iconst 0, 1) := by decide +kernel
theorem dX12_back_39 : decode cX12_back 39 = .ok (.aload_n 0, 1) := by decide +kernel
theorem dX12_back_40 : decode cX12_back 40 = .ok (.getfield 111, 3) := by decide +kernel
theorem dX12_back_43 : decode cX12_back 43 = .ok (.iconst 0, 1) := by decide +kernel
theorem dX12_back_44 : decode cX12_back 44 = .ok (.invokestatic 409, 3) := by decide +kernel
theorem dX12_back_47 : decode cX12_back 47 = .ok (.iload_n 2, 1) := by decide +kernel
theorem dX12_back_48 : decode cX12_back 48 = .ok (.ireturn, 1) := by decide +kernel
theorem fl_RX12_117 : FL RX12 117 12 48 := ⟨inG (i := 1448) (by decide +kernel) (by decide +kernel), by decide, by decide⟩
theorem go_12_48 (σ : St) (i : Nat) : go σ 12 i 48 = (1348, i) := rfl
theorem lk_RX12_451 : Cond.methodLink RX12 451 yX12_restsIn ∈ tG := inG (i := 1945) (by decide +kernel) (by decide +kernel)
theorem m_X12_restsIn : MV Y_X12_restsIn 1 12 := ⟨⟨inG (i := 1948) (by decide +kernel) (by decide +kernel), inG (i := 110) (by decide +kernel) (by decide +kernel), by decide, by decide, by decide, by decide +kernel⟩, inG (i := 1947) (by decide +kernel) (by decide +kernel), inG (i := 88) (by decide +kernel) (by decide +kernel), by decide⟩
def P_X12_back  (x1 : Int) (σ : St) (Q : Int → St → Prop) : Prop :=
  P_X12_isBall x1 (up σ 12 0 0 0) (fun r_2 σ_1 => (if r_2 = 0 then Q (-1) σ_1 else P_X12_copies 1346 0 0 1348 0 0 σ_1 (fun σ_3 => P_X12_restsIn x1 σ_3 (fun r_5 σ_4 => P_X12_copies 1348 0 0 1346 0 0 σ_4 (fun σ_6 => Q r_5 σ_6)))))
set_option maxRecDepth 20000 in
set_option maxHeartbeats 2000000 in
theorem s_X12_back   {x1 : Int} {σ : St} {Q : Int → St → Prop} (h : P_X12_back x1 σ Q) : Cn Y_X12_back 5 0 0 ww σ [vR 12 0, vI x1] (QI Q) := by
  refine Cn_of [some (vR 12 0), some (vI x1), none] (by decide) (Nat.le_of_ble_eq_true rfl) rfl ?_
  unfold P_X12_back at h
  refine E_aload_n dX12_back_0 rfl rfl ?_
  refine E_ic dX12_back_1 rfl ?_
  refine E_puti dX12_back_2 fl_RX12_141 rfl rfl rfl ?_
  refine E_aload_n dX12_back_5 rfl rfl ?_
  refine E_iload_n dX12_back_6 rfl rfl ?_
  refine E_callV (Y' := Y_X12_isBall) (as := [vI x1]) (st := []) dX12_back_7 lk_RX12_406 m_X12_isBall (by decide) (Nat.le_refl _) (Nat.le_refl _) rfl rfl (Nat.le_of_ble_eq_true rfl) (s_X12_isBall h) (fun r0 B0 σ_1 h => ?_)
  obtain ⟨r_2, rfl, rfl, h⟩ := h
  refine E_if_ne (tgt := 15) dX12_back_10 (by decide) (fun hc => ?_) (fun hc => ?_)
  · have h := Eq.mp (if_neg hc) h
    refine E_aload_n dX12_back_15 rfl rfl ?_
    refine E_getr (i := 0) dX12_back_16 fl_RX12_111 rfl rfl (go_12_46 _ _) ?_
    refine E_ic dX12_back_19 rfl ?_
    refine E_aload_n dX12_back_20 rfl rfl ?_
    refine E_getr (i := 0) dX12_back_21 fl_RX12_117 rfl rfl (go_12_48 _ _) ?_
    refine E_ic dX12_back_24 rfl ?_
    refine E_callS (Y' := Y_X12_copies) (as := [vR 1346 0, vI 0, vR 1348 0, vI 0]) (st := []) dX12_back_25 lk_RX12_409 m_X12_copies (by decide) (Nat.le_refl _) (Nat.le_refl _) rfl rfl (Nat.le_of_ble_eq_true rfl) (s_X12_copies h) (fun r0 B0 σ_3 h => ?_)
    obtain ⟨rfl, rfl, h⟩ := h
    refine E_aload_n dX12_back_28 rfl rfl ?_
    refine E_iload_n dX12_back_29 rfl rfl ?_
    refine E_callV (Y' := Y_X12_restsIn) (as := [vI x1]) (st := []) dX12_back_30 lk_RX12_451 m_X12_restsIn (by decide) (Nat.le_refl _) (Nat.le_refl _) rfl rfl (Nat.le_of_ble_eq_true rfl) (s_X12_restsIn h) (fun r0 B0 σ_4 h => ?_)
    obtain ⟨r_5, rfl, rfl, h⟩ := h
    refine E_istore_n (ls' := [some (vR 12 0), some (vI x1), some (vI r_5)]) dX12_back_33 rfl (by decide) rfl ?_
    refine E_aload_n dX12_back_34 rfl rfl ?_
    refine E_getr (i := 0) dX12_back_35 fl_RX12_117 rfl rfl (go_12_48 _ _) ?_
    refine E_ic dX12_back_38 rfl ?_
    refine E_aload_n dX12_back_39 rfl rfl ?_
    refine E_getr (i := 0) dX12_back_40 fl_RX12_111 rfl rfl (go_12_46 _ _) ?_
    refine E_ic dX12_back_43 rfl ?_
    refine E_callS (Y' := Y_X12_copies) (as := [vR 1348 0, vI 0, vR 1346 0, vI 0]) (st := []) dX12_back_44 lk_RX12_409 m_X12_copies (by decide) (Nat.le_refl _) (Nat.le_refl _) rfl rfl (Nat.le_of_ble_eq_true rfl) (s_X12_copies h) (fun r0 B0 σ_6 h => ?_)
    obtain ⟨rfl, rfl, h⟩ := h
    refine E_iload_n dX12_back_47 rfl rfl ?_
    exact E_iret dX12_back_48 rfl ⟨_, rfl, rfl, h⟩
  · have h := Eq.mp (if_pos hc) h
    refine E_ic dX12_back_13 rfl ?_
    exact E_iret dX12_back_14 rfl ⟨_, rfl, rfl, h⟩
