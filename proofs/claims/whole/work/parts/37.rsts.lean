def RL : String := "CashBallsLaw"
abbrev cL_rests : ByteArray := method_3_code
def yL_rests : MethodName := ⟨RL, "rests", "(LCashBalls;IIII[J)I"⟩
abbrev cL_law : ByteArray := code
def yL_law : MethodName := ⟨RL, "law", "([I)Z"⟩
abbrev Y_X11_rests : My := (yX11_rests, cX11_rests, 7, some .int)
theorem dX11_rests_0 : decode cX11_rests 0 = .ok (.iload_n 1, 1) := by decide +kernel
theorem dX11_rests_1 : decode cX11_rests 1 = .ok (.iconst 0, 1) := by decide +kernel
theorem dX11_rests_2 : decode cX11_rests 2 = .ok (.bipush 9, 2) := by decide +kernel
theorem dX11_rests_4 : decode cX11_rests 4 = .ok (.invokestatic 197, 3) := by decide +kernel
theorem dX11_rests_7 : decode cX11_rests 7 = .ok (.ifCond .eq 29, 3) := by decide +kernel
theorem dX11_rests_10 : decode cX11_rests 10 = .ok (.iload_n 2, 1) := by decide +kernel
theorem dX11_rests_11 : decode cX11_rests 11 = .ok (.iconst 0, 1) := by decide +kernel
theorem dX11_rests_12 : decode cX11_rests 12 = .ok (.bipush 9, 2) := by decide +kernel
theorem dX11_rests_14 : decode cX11_rests 14 = .ok (.invokestatic 197, 3) := by decide +kernel
theorem dX11_rests_17 : decode cX11_rests 17 = .ok (.ifCond .eq 19, 3) := by decide +kernel
theorem dX11_rests_20 : decode cX11_rests 20 = .ok (.iload_n 3, 1) := by decide +kernel
theorem dX11_rests_21 : decode cX11_rests 21 = .ok (.iconst 0, 1) := by decide +kernel
theorem dX11_rests_22 : decode cX11_rests 22 = .ok (.bipush 9, 2) := by decide +kernel
theorem dX11_rests_24 : decode cX11_rests 24 = .ok (.invokestatic 197, 3) := by decide +kernel
theorem dX11_rests_27 : decode cX11_rests 27 = .ok (.ifCond .eq 9, 3) := by decide +kernel
theorem dX11_rests_30 : decode cX11_rests 30 = .ok (.iload 4, 2) := by decide +kernel
theorem dX11_rests_32 : decode cX11_rests 32 = .ok (.iconst (-1), 1) := by decide +kernel
theorem dX11_rests_33 : decode cX11_rests 33 = .ok (.if_icmp .ge 11, 3) := by decide +kernel
theorem dX11_rests_36 : decode cX11_rests 36 = .ok (.new 290, 3) := by decide +kernel
theorem dX11_rests_39 : decode cX11_rests 39 = .ok (.dup, 1) := by decide +kernel
theorem dX11_rests_40 : decode cX11_rests 40 = .ok (.invokespecial 292, 3) := by decide +kernel
theorem dX11_rests_43 : decode cX11_rests 43 = .ok (.athrow, 1) := by decide +kernel
theorem dX11_rests_44 : decode cX11_rests 44 = .ok (.iconst 0, 1) := by decide +kernel
theorem dX11_rests_45 : decode cX11_rests 45 = .ok (.istore 5, 2) := by decide +kernel
theorem dX11_rests_47 : decode cX11_rests 47 = .ok (.iconst 0, 1) := by decide +kernel
theorem dX11_rests_48 : decode cX11_rests 48 = .ok (.istore 6, 2) := by decide +kernel
theorem dX11_rests_50 : decode cX11_rests 50 = .ok (.iload 6, 2) := by decide +kernel
theorem dX11_rests_52 : decode cX11_rests 52 = .ok (.iconst 4, 1) := by decide +kernel
theorem dX11_rests_53 : decode cX11_rests 53 = .ok (.if_icmp .ge 33, 3) := by decide +kernel
theorem dX11_rests_56 : decode cX11_rests 56 = .ok (.iload 6, 2) := by decide +kernel
theorem dX11_rests_58 : decode cX11_rests 58 = .ok (.iload_n 1, 1) := by decide +kernel
theorem dX11_rests_59 : decode cX11_rests 59 = .ok (.iload_n 2, 1) := by decide +kernel
theorem dX11_rests_60 : decode cX11_rests 60 = .ok (.iload_n 3, 1) := by decide +kernel
theorem dX11_rests_61 : decode cX11_rests 61 = .ok (.invokestatic 293, 3) := by decide +kernel
theorem dX11_rests_64 : decode cX11_rests 64 = .ok (.ifCond .eq 16, 3) := by decide +kernel
theorem dX11_rests_67 : decode cX11_rests 67 = .ok (.iload 5, 2) := by decide +kernel
theorem dX11_rests_69 : decode cX11_rests 69 = .ok (.iload 4, 2) := by decide +kernel
theorem dX11_rests_71 : decode cX11_rests 71 = .ok (.if_icmp .ne 6, 3) := by decide +kernel
theorem dX11_rests_74 : decode cX11_rests 74 = .ok (.iload 6, 2) := by decide +kernel
theorem dX11_rests_76 : decode cX11_rests 76 = .ok (.ireturn, 1) := by decide +kernel
theorem dX11_rests_77 : decode cX11_rests 77 = .ok (.iinc 5 1, 3) := by decide +kernel
theorem dX11_rests_80 : decode cX11_rests 80 = .ok (.iinc 6 1, 3) := by decide +kernel
theorem dX11_rests_83 : decode cX11_rests 83 = .ok (.goto (-33), 3) := by decide +kernel
theorem dX11_rests_86 : decode cX11_rests 86 = .ok (.iload 4, 2) := by decide +kernel
theorem dX11_rests_88 : decode cX11_rests 88 = .ok (.iconst (-1), 1) := by decide +kernel
theorem dX11_rests_89 : decode cX11_rests 89 = .ok (.if_icmp .eq 11, 3) := by decide +kernel
theorem dX11_rests_92 : decode cX11_rests 92 = .ok (.new 290, 3) := by decide +kernel
theorem dX11_rests_95 : decode cX11_rests 95 = .ok (.dup, 1) := by decide +kernel
theorem dX11_rests_96 : decode cX11_rests 96 = .ok (.invokespecial 292, 3) := by decide +kernel
theorem dX11_rests_99 : decode cX11_rests 99 = .ok (.athrow, 1) := by decide +kernel
theorem dX11_rests_100 : decode cX11_rests 100 = .ok (.iload 5, 2) := by decide +kernel
theorem dX11_rests_102 : decode cX11_rests 102 = .ok (.ireturn, 1) := by decide +kernel
theorem lk_RX11_293 : Cond.methodLink RX11 293 yX11_isRest ∈ tG := inG (i := 1384) (by decide +kernel) (by decide +kernel)
theorem m_X11_isRest : MS Y_X11_isRest 4 := ⟨⟨inG (i := 1386) (by decide +kernel) (by decide +kernel), inG (i := 98) (by decide +kernel) (by decide +kernel), by decide, by decide, by decide, by decide +kernel⟩, inG (i := 1385) (by decide +kernel) (by decide +kernel)⟩
theorem m_X11_rests : MV Y_X11_rests 4 11 := ⟨⟨inG (i := 1322) (by decide +kernel) (by decide +kernel), inG (i := 98) (by decide +kernel) (by decide +kernel), by decide, by decide, by decide, by decide +kernel⟩, inG (i := 1320) (by decide +kernel) (by decide +kernel), inG (i := 1321) (by decide +kernel) (by decide +kernel), by decide⟩
def P_X11_rests_J36 (T : St → Prop)   (Q : Int → St → Prop) (σ : St) : Prop :=
  T σ
set_option maxRecDepth 20000 in
set_option maxHeartbeats 2000000 in
theorem e_P_X11_rests_J36 {T : St → Prop}   {Q : Int → St → Prop} {σ : St}   (h : P_X11_rests_J36 T  Q σ) : E Y_X11_rests 6 1 6 (QX Q T) ww 0 0 36 [none, none, none, none, none, none, none] [] σ := by
  unfold P_X11_rests_J36 at h
  exact E_throw rfl rfl dX11_rests_36 dX11_rests_39 dX11_rests_40 dX11_rests_43 (by decide) (by decide) (by decide) (Or.inr ⟨rfl, rfl, h⟩)
def P_X11_rests_L50 (T : St → Prop) (x1 : Int) (x2 : Int) (x3 : Int) (x4 : Int) (K : Int → St → Prop) (Q : Int → St → Prop) : Nat → Int → Int → St → Prop
  | 0, _, _, _ => False
  | n + 1, x5, x6, σ => (if 4 ≤ x6 then K x5 σ else P_X11_isRest x6 x1 x2 x3 σ (fun r_8 σ_7 => (if r_8 = 0 then (P_X11_rests_L50 T x1 x2 x3 x4 K Q n) x5 (wi (x6 + 1)) σ_7 else (if x5 = x4 then Q x6 σ_7 else (P_X11_rests_L50 T x1 x2 x3 x4 K Q n) (wi (x5 + 1)) (wi (x6 + 1)) σ_7))))
set_option maxRecDepth 20000 in
set_option maxHeartbeats 2000000 in
theorem e_P_X11_rests_L50 {T : St → Prop} {x1 : Int} {x2 : Int} {x3 : Int} {x4 : Int} {K : Int → St → Prop} {Q : Int → St → Prop}  (hK : ∀ x5 σ, K x5 σ → E Y_X11_rests 6 1 6 (QX Q T) ww 0 0 86 [none, none, none, none, some (vI x4), some (vI x5), none] [] σ) : ∀ (n : Nat) (x5 : Int) (x6 : Int) (σ : St), P_X11_rests_L50 T x1 x2 x3 x4 K Q n x5 x6 σ → E Y_X11_rests 6 1 6 (QX Q T) ww 0 0 50 [none, some (vI x1), some (vI x2), some (vI x3), some (vI x4), some (vI x5), some (vI x6)] [] σ := by
  intro n
  induction n with
  | zero => intro x5 x6 σ h; exact h.elim
  | succ n hR =>
    intro x5 x6 σ h
    unfold P_X11_rests_L50 at h
    refine E_iload dX11_rests_50 rfl ?_
    refine E_ic dX11_rests_52 rfl ?_
    refine E_icmp_ge (tgt := 86) dX11_rests_53 (by decide) (fun hc => ?_) (fun hc => ?_)
    · have h := Eq.mp (if_pos hc) h
      refine E_wk2 [none, none, none, none, some (vI x4), some (vI x5), none] ⟨rfl, ⟨rfl, trivial⟩⟩ ?_
      exact hK _ _ h
    · have h := Eq.mp (if_neg hc) h
      refine E_iload dX11_rests_56 rfl ?_
      refine E_iload_n dX11_rests_58 rfl rfl ?_
      refine E_iload_n dX11_rests_59 rfl rfl ?_
      refine E_iload_n dX11_rests_60 rfl rfl ?_
      refine E_callS (Y' := Y_X11_isRest) (as := [vI x6, vI x1, vI x2, vI x3]) (st := []) dX11_rests_61 lk_RX11_293 m_X11_isRest (by decide) (by decide) (by decide) rfl rfl (Nat.le_of_ble_eq_true rfl) (s_X11_isRest h) (fun r0 B0 σ_7 h => ?_)
      obtain ⟨r_8, rfl, rfl, h⟩ := h
      refine E_if_eq (tgt := 80) dX11_rests_64 (by decide) (fun hc => ?_) (fun hc => ?_)
      · have h := Eq.mp (if_pos hc) h
        refine E_iinc (ls' := [none, some (vI x1), some (vI x2), some (vI x3), some (vI x4), some (vI x5), some (vI (wi (x6 + 1)))]) dX11_rests_80 rfl (by decide) rfl rfl ?_
        refine E_goto (tgt := 50) dX11_rests_83 (by decide) ?_
        exact hR _ _ _ h
      · have h := Eq.mp (if_neg hc) h
        refine E_iload dX11_rests_67 rfl ?_
        refine E_iload dX11_rests_69 rfl ?_
        refine E_icmp_ne (tgt := 77) dX11_rests_71 (by decide) (fun hc => ?_) (fun hc => ?_)
        · have h := Eq.mp (if_neg hc) h
          refine E_iinc (ls' := [none, some (vI x1), some (vI x2), some (vI x3), some (vI x4), some (vI (wi (x5 + 1))), some (vI x6)]) dX11_rests_77 rfl (by decide) rfl rfl ?_
          refine E_iinc (ls' := [none, some (vI x1), some (vI x2), some (vI x3), some (vI x4), some (vI (wi (x5 + 1))), some (vI (wi (x6 + 1)))]) dX11_rests_80 rfl (by decide) rfl rfl ?_
          refine E_goto (tgt := 50) dX11_rests_83 (by decide) ?_
          exact hR _ _ _ h
        · have h := Eq.mp (if_pos hc) h
          refine E_iload dX11_rests_74 rfl ?_
          exact E_widen (k' := 1) (n' := 6) (by decide) (by decide) (E_iret dX11_rests_76 rfl (Or.inl ⟨_, rfl, rfl, h⟩))
def P_X11_rests (T : St → Prop) (x1 : Int) (x2 : Int) (x3 : Int) (x4 : Int) (σ : St) (Q : Int → St → Prop) : Prop :=
  P_X11_within x1 0 9 σ (fun r_2 σ_1 => (if r_2 = 0 then P_X11_rests_J36 T Q σ_1 else P_X11_within x2 0 9 σ_1 (fun r_4 σ_3 => (if r_4 = 0 then P_X11_rests_J36 T Q σ_3 else P_X11_within x3 0 9 σ_3 (fun r_6 σ_5 => (if r_6 = 0 then P_X11_rests_J36 T Q σ_5 else (if (-1) ≤ x4 then P_X11_rests_L50 T x1 x2 x3 x4 (fun x5_9 σ_10 => (if x4 = (-1) then Q x5_9 σ_10 else T σ_10)) Q FU 0 0 σ_5 else P_X11_rests_J36 T Q σ_5)))))))
set_option maxRecDepth 20000 in
set_option maxHeartbeats 2000000 in
theorem s_X11_rests {T : St → Prop}  {x1 : Int} {x2 : Int} {x3 : Int} {x4 : Int} {σ : St} {Q : Int → St → Prop} (h : P_X11_rests T x1 x2 x3 x4 σ Q) : CnX Y_X11_rests 6 1 6 ww σ [vR 11 0, vI x1, vI x2, vI x3, vI x4] (QX Q T) := by
  refine CnX_of [some (vR 11 0), some (vI x1), some (vI x2), some (vI x3), some (vI x4), none, none] (by decide) rfl (Nat.le_of_ble_eq_true rfl) rfl ?_
  unfold P_X11_rests at h
  refine E_iload_n dX11_rests_0 rfl rfl ?_
  refine E_ic dX11_rests_1 rfl ?_
  refine E_bp dX11_rests_2 rfl ?_
  refine E_callS (Y' := Y_X11_within) (as := [vI x1, vI 0, vI 9]) (st := []) dX11_rests_4 lk_RX11_197 m_X11_within (by decide) (by decide) (by decide) rfl rfl (Nat.le_of_ble_eq_true rfl) (s_X11_within h) (fun r0 B0 σ_1 h => ?_)
  obtain ⟨r_2, rfl, rfl, h⟩ := h
  refine E_if_eq (tgt := 36) dX11_rests_7 (by decide) (fun hc => ?_) (fun hc => ?_)
  · have h := Eq.mp (if_pos hc) h
    refine E_wk2 [none, none, none, none, none, none, none] trivial ?_
    exact e_P_X11_rests_J36 h
  · have h := Eq.mp (if_neg hc) h
    refine E_iload_n dX11_rests_10 rfl rfl ?_
    refine E_ic dX11_rests_11 rfl ?_
    refine E_bp dX11_rests_12 rfl ?_
    refine E_callS (Y' := Y_X11_within) (as := [vI x2, vI 0, vI 9]) (st := []) dX11_rests_14 lk_RX11_197 m_X11_within (by decide) (by decide) (by decide) rfl rfl (Nat.le_of_ble_eq_true rfl) (s_X11_within h) (fun r0 B0 σ_3 h => ?_)
    obtain ⟨r_4, rfl, rfl, h⟩ := h
    refine E_if_eq (tgt := 36) dX11_rests_17 (by decide) (fun hc => ?_) (fun hc => ?_)
    · have h := Eq.mp (if_pos hc) h
      refine E_wk2 [none, none, none, none, none, none, none] trivial ?_
      exact e_P_X11_rests_J36 h
    · have h := Eq.mp (if_neg hc) h
      refine E_iload_n dX11_rests_20 rfl rfl ?_
      refine E_ic dX11_rests_21 rfl ?_
      refine E_bp dX11_rests_22 rfl ?_
      refine E_callS (Y' := Y_X11_within) (as := [vI x3, vI 0, vI 9]) (st := []) dX11_rests_24 lk_RX11_197 m_X11_within (by decide) (by decide) (by decide) rfl rfl (Nat.le_of_ble_eq_true rfl) (s_X11_within h) (fun r0 B0 σ_5 h => ?_)
      obtain ⟨r_6, rfl, rfl, h⟩ := h
      refine E_if_eq (tgt := 36) dX11_rests_27 (by decide) (fun hc => ?_) (fun hc => ?_)
      · have h := Eq.mp (if_pos hc) h
        refine E_wk2 [none, none, none, none, none, none, none] trivial ?_
        exact e_P_X11_rests_J36 h
      · have h := Eq.mp (if_neg hc) h
        refine E_iload dX11_rests_30 rfl ?_
        refine E_ic dX11_rests_32 rfl ?_
        refine E_icmp_ge (tgt := 44) dX11_rests_33 (by decide) (fun hc => ?_) (fun hc => ?_)
        · have h := Eq.mp (if_pos hc) h
          refine E_ic dX11_rests_44 rfl ?_
          refine E_istore (ls' := [some (vR 11 0), some (vI x1), some (vI x2), some (vI x3), some (vI x4), some (vI 0), none]) dX11_rests_45 (by decide) rfl ?_
          refine E_ic dX11_rests_47 rfl ?_
          refine E_istore (ls' := [some (vR 11 0), some (vI x1), some (vI x2), some (vI x3), some (vI x4), some (vI 0), some (vI 0)]) dX11_rests_48 (by decide) rfl ?_
          refine E_wk2 [none, some (vI x1), some (vI x2), some (vI x3), some (vI x4), some (vI 0), some (vI 0)] ⟨rfl, ⟨rfl, ⟨rfl, ⟨rfl, ⟨rfl, ⟨rfl, trivial⟩⟩⟩⟩⟩⟩ ?_
          refine e_P_X11_rests_L50 ?_ _ _ _ _ h
          · intro x5_9 σ_10 h
            refine E_iload dX11_rests_86 rfl ?_
            refine E_ic dX11_rests_88 rfl ?_
            refine E_icmp_eq (tgt := 100) dX11_rests_89 (by decide) (fun hc => ?_) (fun hc => ?_)
            · have h := Eq.mp (if_pos hc) h
              refine E_iload dX11_rests_100 rfl ?_
              exact E_widen (k' := 1) (n' := 6) (by decide) (by decide) (E_iret dX11_rests_102 rfl (Or.inl ⟨_, rfl, rfl, h⟩))
            · have h := Eq.mp (if_neg hc) h
              exact E_throw rfl rfl dX11_rests_92 dX11_rests_95 dX11_rests_96 dX11_rests_99 (by decide) (by decide) (by decide) (Or.inr ⟨rfl, rfl, h⟩)
        · have h := Eq.mp (if_neg hc) h
          refine E_wk2 [none, none, none, none, none, none, none] trivial ?_
          exact e_P_X11_rests_J36 h
abbrev Y_L_rests : My := (yL_rests, cL_rests, 7, some .int)
theorem dL_rests_0 : decode cL_rests 0 = .ok (.aload 5, 2) := by decide +kernel
theorem dL_rests_2 : decode cL_rests 2 = .ok (.iconst 0, 1) := by decide +kernel
theorem dL_rests_3 : decode cL_rests 3 = .ok (.aload_n 0, 1) := by decide +kernel
theorem dL_rests_4 : decode cL_rests 4 = .ok (.iload_n 1, 1) := by decide +kernel
theorem dL_rests_5 : decode cL_rests 5 = .ok (.iload_n 2, 1) := by decide +kernel
theorem dL_rests_6 : decode cL_rests 6 = .ok (.iload_n 3, 1) := by decide +kernel
theorem dL_rests_7 : decode cL_rests 7 = .ok (.iload 4, 2) := by decide +kernel
theorem dL_rests_9 : decode cL_rests 9 = .ok (.invokevirtual 7, 3) := by decide +kernel
theorem dL_rests_12 : decode cL_rests 12 = .ok (.i2l, 1) := by decide +kernel
theorem dL_rests_13 : decode cL_rests 13 = .ok (.lastore, 1) := by decide +kernel
theorem dL_rests_14 : decode cL_rests 14 = .ok (.goto 7, 3) := by decide +kernel
theorem dL_rests_17 : decode cL_rests 17 = .ok (.astore 6, 2) := by decide +kernel
theorem dL_rests_19 : decode cL_rests 19 = .ok (.iconst 1, 1) := by decide +kernel
theorem dL_rests_20 : decode cL_rests 20 = .ok (.ireturn, 1) := by decide +kernel
theorem dL_rests_21 : decode cL_rests 21 = .ok (.iconst 0, 1) := by decide +kernel
theorem dL_rests_22 : decode cL_rests 22 = .ok (.ireturn, 1) := by decide +kernel
theorem lk_RL_7 : Cond.methodLink RL 7 yX11_rests ∈ tG := inG (i := 1319) (by decide +kernel) (by decide +kernel)
theorem sh_60 : shp 60 = (1, 1) := rfl
def P_L_rests (x1 x2 x3 x4 : Int) (σ : St) (Q : Int → St → Prop) : Prop := P_X11_rests (fun σ' => Q 1 σ') x1 x2 x3 x4 σ (fun z σ' => Q 0 (up σ' 60 0 0 z))
theorem s_L_rests {x1 x2 x3 x4 : Int} {σ : St} {Q : Int → St → Prop} (h : P_L_rests x1 x2 x3 x4 σ Q) : CnW Y_L_rests 7 1 6 ww σ [vR 11 0, vI x1, vI x2, vI x3, vI x4, vR 60 0] (QI Q) := by
  refine CnW_of [some (vR 11 0), some (vI x1), some (vI x2), some (vI x3), some (vI x4), some (vR 60 0), none] (by decide) rfl (Nat.le_of_ble_eq_true rfl) rfl ?_
  refine E_aload dL_rests_0 rfl ?_
  refine E_ic dL_rests_2 rfl ?_
  refine E_aload_n dL_rests_3 rfl rfl ?_
  refine E_iload_n dL_rests_4 rfl rfl ?_
  refine E_iload_n dL_rests_5 rfl rfl ?_
  refine E_iload_n dL_rests_6 rfl rfl ?_
  refine E_iload dL_rests_7 rfl ?_
  refine E_callX (Y' := Y_X11_rests) (as := [vI x1, vI x2, vI x3, vI x4]) (st := [vI 0, vR 60 0]) rfl rfl (by decide) dL_rests_9 dL_rests_17 (by decide) rfl lk_RL_7 m_X11_rests (by decide) (Nat.le_refl _) (Nat.le_refl _) rfl rfl (Nat.le_of_ble_eq_true rfl) (s_X11_rests h) (fun z σ' h => ?_) (fun σ' h => ?_)
  · refine E_i2l dL_rests_12 ?_
    refine E_last dL_rests_13 sh_60 (by decide) (by decide) ?_
    refine E_goto (tgt := 21) dL_rests_14 (by decide) ?_
    refine E_ic dL_rests_21 rfl ?_
    exact E_iret dL_rests_22 rfl ⟨_, rfl, rfl, h⟩
  · refine E_ic dL_rests_19 rfl ?_
    exact E_iret dL_rests_20 rfl ⟨_, rfl, rfl, h⟩
