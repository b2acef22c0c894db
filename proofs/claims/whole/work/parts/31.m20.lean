abbrev Y_X7_agreeing : My := (yX7_agreeing, cX7_agreeing, 4, some .int)
theorem dX7_agreeing_0 : decode cX7_agreeing 0 = .ok (.iconst 0, 1) := by decide +kernel
theorem dX7_agreeing_1 : decode cX7_agreeing 1 = .ok (.istore_n 2, 1) := by decide +kernel
theorem dX7_agreeing_2 : decode cX7_agreeing 2 = .ok (.iconst 0, 1) := by decide +kernel
theorem dX7_agreeing_3 : decode cX7_agreeing 3 = .ok (.istore_n 3, 1) := by decide +kernel
theorem dX7_agreeing_4 : decode cX7_agreeing 4 = .ok (.iload_n 3, 1) := by decide +kernel
theorem dX7_agreeing_5 : decode cX7_agreeing 5 = .ok (.aload_n 1, 1) := by decide +kernel
theorem dX7_agreeing_6 : decode cX7_agreeing 6 = .ok (.getfield 26, 3) := by decide +kernel
theorem dX7_agreeing_9 : decode cX7_agreeing 9 = .ok (.getfield 32, 3) := by decide +kernel
theorem dX7_agreeing_12 : decode cX7_agreeing 12 = .ok (.if_icmp .ge 31, 3) := by decide +kernel
theorem dX7_agreeing_15 : decode cX7_agreeing 15 = .ok (.aload_n 1, 1) := by decide +kernel
theorem dX7_agreeing_16 : decode cX7_agreeing 16 = .ok (.iload_n 3, 1) := by decide +kernel
theorem dX7_agreeing_17 : decode cX7_agreeing 17 = .ok (.bipush 30, 2) := by decide +kernel
theorem dX7_agreeing_19 : decode cX7_agreeing 19 = .ok (.invokevirtual 37, 3) := by decide +kernel
theorem dX7_agreeing_22 : decode cX7_agreeing 22 = .ok (.aload_n 0, 1) := by decide +kernel
theorem dX7_agreeing_23 : decode cX7_agreeing 23 = .ok (.iload_n 3, 1) := by decide +kernel
theorem dX7_agreeing_24 : decode cX7_agreeing 24 = .ok (.aload_n 1, 1) := by decide +kernel
theorem dX7_agreeing_25 : decode cX7_agreeing 25 = .ok (.invokevirtual 41, 3) := by decide +kernel
theorem dX7_agreeing_28 : decode cX7_agreeing 28 = .ok (.ifCond .eq 9, 3) := by decide +kernel
theorem dX7_agreeing_31 : decode cX7_agreeing 31 = .ok (.iload_n 2, 1) := by decide +kernel
theorem dX7_agreeing_32 : decode cX7_agreeing 32 = .ok (.iconst 1, 1) := by decide +kernel
theorem dX7_agreeing_33 : decode cX7_agreeing 33 = .ok (.iload_n 3, 1) := by decide +kernel
theorem dX7_agreeing_34 : decode cX7_agreeing 34 = .ok (.ishl, 1) := by decide +kernel
theorem dX7_agreeing_35 : decode cX7_agreeing 35 = .ok (.ior, 1) := by decide +kernel
theorem dX7_agreeing_36 : decode cX7_agreeing 36 = .ok (.istore_n 2, 1) := by decide +kernel
theorem dX7_agreeing_37 : decode cX7_agreeing 37 = .ok (.iinc 3 1, 3) := by decide +kernel
theorem dX7_agreeing_40 : decode cX7_agreeing 40 = .ok (.goto (-36), 3) := by decide +kernel
theorem dX7_agreeing_43 : decode cX7_agreeing 43 = .ok (.iload_n 2, 1) := by decide +kernel
theorem dX7_agreeing_44 : decode cX7_agreeing 44 = .ok (.ireturn, 1) := by decide +kernel
theorem fl_RX7_26 : FL RX7 26 0 0 := ⟨inG (i := 408) (by decide +kernel) (by decide +kernel), by decide, by decide⟩
theorem fl_RX7_32 : FL RX7 32 8 11 := ⟨inG (i := 222) (by decide +kernel) (by decide +kernel), by decide, by decide⟩
theorem lk_RX7_37 : Cond.methodLink RX7 37 yX0_look ∈ tG := inG (i := 1237) (by decide +kernel) (by decide +kernel)
theorem lk_RX7_41 : Cond.methodLink RX7 41 yX7_agrees ∈ tG := inG (i := 1238) (by decide +kernel) (by decide +kernel)
theorem m_X7_agrees : MV Y_X7_agrees 2 7 := ⟨⟨inG (i := 1241) (by decide +kernel) (by decide +kernel), inG (i := 106) (by decide +kernel) (by decide +kernel), by decide, by decide, by decide, by decide +kernel⟩, inG (i := 1240) (by decide +kernel) (by decide +kernel), inG (i := 27) (by decide +kernel) (by decide +kernel), by decide⟩
def P_X7_agreeing_L4  (o0 : Nat)  (Q : Int → St → Prop) : Nat → Int → Int → St → Prop
  | 0, _, _, _ => False
  | n + 1, x2, x3, σ => (if (σ 8 0 11) ≤ x3 then Q x2 σ else P_X0_look x3 30 σ (fun σ_1 => P_X7_agrees o0 x3 σ_1 (fun r_3 σ_2 => (if r_3 = 0 then (P_X7_agreeing_L4 o0 Q n) x2 (wi (x3 + 1)) σ_2 else (P_X7_agreeing_L4 o0 Q n) (bO x2 (bL 1 x3)) (wi (x3 + 1)) σ_2))))
set_option maxRecDepth 20000 in
set_option maxHeartbeats 2000000 in
theorem e_P_X7_agreeing_L4  {o0 : Nat}  {Q : Int → St → Prop}   : ∀ (n : Nat) (x2 : Int) (x3 : Int) (σ : St), P_X7_agreeing_L4 o0 Q n x2 x3 σ → E Y_X7_agreeing 5 0 0 (QI Q) ww 0 0 4 [some (vR 7 o0), some (vR 0 0), some (vI x2), some (vI x3)] [] σ := by
  intro n
  induction n with
  | zero => intro x2 x3 σ h; exact h.elim
  | succ n hR =>
    intro x2 x3 σ h
    unfold P_X7_agreeing_L4 at h
    refine E_iload_n dX7_agreeing_4 rfl rfl ?_
    refine E_aload_n dX7_agreeing_5 rfl rfl ?_
    refine E_getr (i := 0) dX7_agreeing_6 fl_RX7_26 rfl rfl (go_0_0 _ _) ?_
    refine E_geti (i := 0) dX7_agreeing_9 fl_RX7_32 rfl ?_
    refine E_icmp_ge (tgt := 43) dX7_agreeing_12 (by decide) (fun hc => ?_) (fun hc => ?_)
    · have h := Eq.mp (if_pos hc) h
      refine E_iload_n dX7_agreeing_43 rfl rfl ?_
      exact E_iret dX7_agreeing_44 rfl ⟨_, rfl, rfl, h⟩
    · have h := Eq.mp (if_neg hc) h
      refine E_aload_n dX7_agreeing_15 rfl rfl ?_
      refine E_iload_n dX7_agreeing_16 rfl rfl ?_
      refine E_bp dX7_agreeing_17 rfl ?_
      refine E_callV (Y' := Y_X0_look) (as := [vI x3, vI 30]) (st := []) dX7_agreeing_19 lk_RX7_37 m_X0_look (by decide) (Nat.le_refl _) (Nat.le_refl _) rfl rfl (Nat.le_of_ble_eq_true rfl) (s_X0_look h) (fun r0 B0 σ_1 h => ?_)
      obtain ⟨rfl, rfl, h⟩ := h
      refine E_aload_n dX7_agreeing_22 rfl rfl ?_
      refine E_iload_n dX7_agreeing_23 rfl rfl ?_
      refine E_aload_n dX7_agreeing_24 rfl rfl ?_
      refine E_callV (Y' := Y_X7_agrees) (as := [vI x3, vR 0 0]) (st := []) dX7_agreeing_25 lk_RX7_41 m_X7_agrees (by decide) (Nat.le_refl _) (Nat.le_refl _) rfl rfl (Nat.le_of_ble_eq_true rfl) (s_X7_agrees h) (fun r0 B0 σ_2 h => ?_)
      obtain ⟨r_3, rfl, rfl, h⟩ := h
      refine E_if_eq (tgt := 37) dX7_agreeing_28 (by decide) (fun hc => ?_) (fun hc => ?_)
      · have h := Eq.mp (if_pos hc) h
        refine E_iinc (ls' := [some (vR 7 o0), some (vR 0 0), some (vI x2), some (vI (wi (x3 + 1)))]) dX7_agreeing_37 rfl (by decide) rfl rfl ?_
        refine E_goto (tgt := 4) dX7_agreeing_40 (by decide) ?_
        exact hR _ _ _ h
      · have h := Eq.mp (if_neg hc) h
        refine E_iload_n dX7_agreeing_31 rfl rfl ?_
        refine E_ic dX7_agreeing_32 rfl ?_
        refine E_iload_n dX7_agreeing_33 rfl rfl ?_
        refine E_ishl dX7_agreeing_34 ?_
        refine E_ior dX7_agreeing_35 ?_
        refine E_istore_n (ls' := [some (vR 7 o0), some (vR 0 0), some (vI (bO x2 (bL 1 x3))), some (vI x3)]) dX7_agreeing_36 rfl (by decide) rfl ?_
        refine E_iinc (ls' := [some (vR 7 o0), some (vR 0 0), some (vI (bO x2 (bL 1 x3))), some (vI (wi (x3 + 1)))]) dX7_agreeing_37 rfl (by decide) rfl rfl ?_
        refine E_goto (tgt := 4) dX7_agreeing_40 (by decide) ?_
        exact hR _ _ _ h
def P_X7_agreeing  (o0 : Nat) (σ : St) (Q : Int → St → Prop) : Prop :=
  P_X7_agreeing_L4 o0 Q FU 0 0 σ
set_option maxRecDepth 20000 in
set_option maxHeartbeats 2000000 in
theorem s_X7_agreeing   {o0 : Nat} {σ : St} {Q : Int → St → Prop} (h : P_X7_agreeing o0 σ Q) : Cn Y_X7_agreeing 5 0 0 ww σ [vR 7 o0, vR 0 0] (QI Q) := by
  refine Cn_of [some (vR 7 o0), some (vR 0 0), none, none] (by decide) (Nat.le_of_ble_eq_true rfl) rfl ?_
  unfold P_X7_agreeing at h
  refine E_ic dX7_agreeing_0 rfl ?_
  refine E_istore_n (ls' := [some (vR 7 o0), some (vR 0 0), some (vI 0), none]) dX7_agreeing_1 rfl (by decide) rfl ?_
  refine E_ic dX7_agreeing_2 rfl ?_
  refine E_istore_n (ls' := [some (vR 7 o0), some (vR 0 0), some (vI 0), some (vI 0)]) dX7_agreeing_3 rfl (by decide) rfl ?_
  refine e_P_X7_agreeing_L4  _ _ _ _ h
abbrev Y_X10_cut : My := (yX10_cut, cX10_cut, 4, none)
theorem dX10_cut_0 : decode cX10_cut 0 = .ok (.iconst 0, 1) := by decide +kernel
theorem dX10_cut_1 : decode cX10_cut 1 = .ok (.istore_n 1, 1) := by decide +kernel
theorem dX10_cut_2 : decode cX10_cut 2 = .ok (.iconst 0, 1) := by decide +kernel
theorem dX10_cut_3 : decode cX10_cut 3 = .ok (.istore_n 2, 1) := by decide +kernel
theorem dX10_cut_4 : decode cX10_cut 4 = .ok (.iconst 0, 1) := by decide +kernel
theorem dX10_cut_5 : decode cX10_cut 5 = .ok (.istore_n 3, 1) := by decide +kernel
theorem dX10_cut_6 : decode cX10_cut 6 = .ok (.iload_n 3, 1) := by decide +kernel
theorem dX10_cut_7 : decode cX10_cut 7 = .ok (.sipush 1000, 3) := by decide +kernel
theorem dX10_cut_10 : decode cX10_cut 10 = .ok (.if_icmp .ge 55, 3) := by decide +kernel
theorem dX10_cut_13 : decode cX10_cut 13 = .ok (.iload_n 2, 1) := by decide +kernel
theorem dX10_cut_14 : decode cX10_cut 14 = .ok (.aload_n 0, 1) := by decide +kernel
theorem dX10_cut_15 : decode cX10_cut 15 = .ok (.getfield 26, 3) := by decide +kernel
theorem dX10_cut_18 : decode cX10_cut 18 = .ok (.if_icmp .ge 47, 3) := by decide +kernel
theorem dX10_cut_21 : decode cX10_cut 21 = .ok (.aload_n 0, 1) := by decide +kernel
theorem dX10_cut_22 : decode cX10_cut 22 = .ok (.getfield 9, 3) := by decide +kernel
theorem dX10_cut_25 : decode cX10_cut 25 = .ok (.iload_n 2, 1) := by decide +kernel
theorem dX10_cut_26 : decode cX10_cut 26 = .ok (.caload, 1) := by decide +kernel
theorem dX10_cut_27 : decode cX10_cut 27 = .ok (.bipush 10, 2) := by decide +kernel
theorem dX10_cut_29 : decode cX10_cut 29 = .ok (.if_icmp .eq 14, 3) := by decide +kernel
theorem dX10_cut_32 : decode cX10_cut 32 = .ok (.aload_n 0, 1) := by decide +kernel
theorem dX10_cut_33 : decode cX10_cut 33 = .ok (.getfield 9, 3) := by decide +kernel
theorem dX10_cut_36 : decode cX10_cut 36 = .ok (.iload_n 2, 1) := by decide +kernel
theorem dX10_cut_37 : decode cX10_cut 37 = .ok (.caload, 1) := by decide +kernel
theorem dX10_cut_38 : decode cX10_cut 38 = .ok (.bipush 32, 2) := by decide +kernel
theorem dX10_cut_40 : decode cX10_cut 40 = .ok (.if_icmp .ne 9, 3) := by decide +kernel
theorem dX10_cut_43 : decode cX10_cut 43 = .ok (.iinc 2 1, 3) := by decide +kernel
theorem dX10_cut_46 : decode cX10_cut 46 = .ok (.goto 13, 3) := by decide +kernel
theorem dX10_cut_49 : decode cX10_cut 49 = .ok (.aload_n 0, 1) := by decide +kernel
theorem dX10_cut_50 : decode cX10_cut 50 = .ok (.iload_n 1, 1) := by decide +kernel
theorem dX10_cut_51 : decode cX10_cut 51 = .ok (.iload_n 2, 1) := by decide +kernel
theorem dX10_cut_52 : decode cX10_cut 52 = .ok (.invokevirtual 40, 3) := by decide +kernel
theorem dX10_cut_55 : decode cX10_cut 55 = .ok (.istore_n 2, 1) := by decide +kernel
theorem dX10_cut_56 : decode cX10_cut 56 = .ok (.iinc 1 1, 3) := by decide +kernel
theorem dX10_cut_59 : decode cX10_cut 59 = .ok (.iinc 3 1, 3) := by decide +kernel
theorem dX10_cut_62 : decode cX10_cut 62 = .ok (.goto (-56), 3) := by decide +kernel
theorem dX10_cut_65 : decode cX10_cut 65 = .ok (.aload_n 0, 1) := by decide +kernel
theorem dX10_cut_66 : decode cX10_cut 66 = .ok (.iload_n 1, 1) := by decide +kernel
theorem dX10_cut_67 : decode cX10_cut 67 = .ok (.iconst 0, 1) := by decide +kernel
theorem dX10_cut_68 : decode cX10_cut 68 = .ok (.aload_n 0, 1) := by decide +kernel
theorem dX10_cut_69 : decode cX10_cut 69 = .ok (.getfield 26, 3) := by decide +kernel
theorem dX10_cut_72 : decode cX10_cut 72 = .ok (.lconst 0, 1) := by decide +kernel
theorem dX10_cut_73 : decode cX10_cut 73 = .ok (.invokevirtual 44, 3) := by decide +kernel
theorem dX10_cut_76 : decode cX10_cut 76 = .ok (.aload_n 0, 1) := by decide +kernel
theorem dX10_cut_77 : decode cX10_cut 77 = .ok (.iconst 0, 1) := by decide +kernel
theorem dX10_cut_78 : decode cX10_cut 78 = .ok (.putfield 26, 3) := by decide +kernel
theorem dX10_cut_81 : decode cX10_cut 81 = .ok (.aload_n 0, 1) := by decide +kernel
theorem dX10_cut_82 : decode cX10_cut 82 = .ok (.iconst 0, 1) := by decide +kernel
theorem dX10_cut_83 : decode cX10_cut 83 = .ok (.putfield 30, 3) := by decide +kernel
theorem dX10_cut_86 : decode cX10_cut 86 = .ok (.aload_n 0, 1) := by decide +kernel
theorem dX10_cut_87 : decode cX10_cut 87 = .ok (.iconst 0, 1) := by decide +kernel
theorem dX10_cut_88 : decode cX10_cut 88 = .ok (.putfield 33, 3) := by decide +kernel
theorem dX10_cut_91 : decode cX10_cut 91 = .ok (.return_, 1) := by decide +kernel
theorem lk_RX10_40 : Cond.methodLink RX10 40 yX10_cutOne ∈ tG := inG (i := 541) (by decide +kernel) (by decide +kernel)
theorem m_X10_cutOne : MV Y_X10_cutOne 2 10 := ⟨⟨inG (i := 544) (by decide +kernel) (by decide +kernel), inG (i := 99) (by decide +kernel) (by decide +kernel), by decide, by decide, by decide, by decide +kernel⟩, inG (i := 543) (by decide +kernel) (by decide +kernel), inG (i := 0) (by decide +kernel) (by decide +kernel), by decide⟩
def P_X10_cut_J43  (x1 : Int) (x2 : Int) (x3 : Int) (R : Int → Int → Int → St → Prop) (K : Int → St → Prop) (Q : St → Prop) (σ : St) : Prop :=
  R x1 (wi (x2 + 1)) (wi (x3 + 1)) σ
set_option maxRecDepth 20000 in
set_option maxHeartbeats 2000000 in
theorem e_P_X10_cut_J43  {x1 : Int} {x2 : Int} {x3 : Int} {R : Int → Int → Int → St → Prop} {K : Int → St → Prop} {Q : St → Prop} {σ : St}  (hR : ∀ x1 x2 x3 σ, R x1 x2 x3 σ → E Y_X10_cut 5 0 0 (QV Q) ww 0 0 6 [some (vR 10 0), some (vI x1), some (vI x2), some (vI x3)] [] σ) (hK : ∀ x1 σ, K x1 σ → E Y_X10_cut 5 0 0 (QV Q) ww 0 0 65 [some (vR 10 0), some (vI x1), none, none] [] σ) (h : P_X10_cut_J43 x1 x2 x3 R K Q σ) : E Y_X10_cut 5 0 0 (QV Q) ww 0 0 43 [some (vR 10 0), some (vI x1), some (vI x2), some (vI x3)] [] σ := by
  unfold P_X10_cut_J43 at h
  refine E_iinc (ls' := [some (vR 10 0), some (vI x1), some (vI (wi (x2 + 1))), some (vI x3)]) dX10_cut_43 rfl (by decide) rfl rfl ?_
  refine E_goto (tgt := 59) dX10_cut_46 (by decide) ?_
  refine E_iinc (ls' := [some (vR 10 0), some (vI x1), some (vI (wi (x2 + 1))), some (vI (wi (x3 + 1)))]) dX10_cut_59 rfl (by decide) rfl rfl ?_
  refine E_goto (tgt := 6) dX10_cut_62 (by decide) ?_
  exact hR _ _ _ _ h
def P_X10_cut_L6   (K : Int → St → Prop) (Q : St → Prop) : Nat → Int → Int → Int → St → Prop
  | 0, _, _, _, _ => False
  | n + 1, x1, x2, x3, σ => (if 1000 ≤ x3 then K x1 σ else (if (σ 10 0 4) ≤ x2 then K x1 σ else 0 ≤ x2 ∧ x2 < 1000 ∧ (if (σ 1100 0 x2) = 10 then P_X10_cut_J43 x1 x2 x3 (P_X10_cut_L6 K Q n) K Q σ else 0 ≤ x2 ∧ x2 < 1000 ∧ (if (σ 1100 0 x2) = 32 then P_X10_cut_J43 x1 x2 x3 (P_X10_cut_L6 K Q n) K Q σ else P_X10_cutOne x1 x2 σ (fun r_2 σ_1 => (P_X10_cut_L6 K Q n) (wi (x1 + 1)) r_2 (wi (x3 + 1)) σ_1)))))
set_option maxRecDepth 20000 in
set_option maxHeartbeats 2000000 in
theorem e_P_X10_cut_L6   {K : Int → St → Prop} {Q : St → Prop}  (hK : ∀ x1 σ, K x1 σ → E Y_X10_cut 5 0 0 (QV Q) ww 0 0 65 [some (vR 10 0), some (vI x1), none, none] [] σ) : ∀ (n : Nat) (x1 : Int) (x2 : Int) (x3 : Int) (σ : St), P_X10_cut_L6 K Q n x1 x2 x3 σ → E Y_X10_cut 5 0 0 (QV Q) ww 0 0 6 [some (vR 10 0), some (vI x1), some (vI x2), some (vI x3)] [] σ := by
  intro n
  induction n with
  | zero => intro x1 x2 x3 σ h; exact h.elim
  | succ n hR =>
    intro x1 x2 x3 σ h
    unfold P_X10_cut_L6 at h
    refine E_iload_n dX10_cut_6 rfl rfl ?_
    refine E_sp dX10_cut_7 rfl ?_
    refine E_icmp_ge (tgt := 65) dX10_cut_10 (by decide) (fun hc => ?_) (fun hc => ?_)
    · have h := Eq.mp (if_pos hc) h
      refine E_wk2 [some (vR 10 0), some (vI x1), none, none] ⟨rfl, ⟨rfl, trivial⟩⟩ ?_
      exact hK _ _ h
    · have h := Eq.mp (if_neg hc) h
      refine E_iload_n dX10_cut_13 rfl rfl ?_
      refine E_aload_n dX10_cut_14 rfl rfl ?_
      refine E_geti (i := 0) dX10_cut_15 fl_RX10_26 rfl ?_
      refine E_icmp_ge (tgt := 65) dX10_cut_18 (by decide) (fun hc => ?_) (fun hc => ?_)
      · have h := Eq.mp (if_pos hc) h
        refine E_wk2 [some (vR 10 0), some (vI x1), none, none] ⟨rfl, ⟨rfl, trivial⟩⟩ ?_
        exact hK _ _ h
      · have h := Eq.mp (if_neg hc) h
        refine E_aload_n dX10_cut_21 rfl rfl ?_
        refine E_getr (i := 0) dX10_cut_22 fl_RX10_9 rfl rfl (go_10_0 _ _) ?_
        refine E_iload_n dX10_cut_25 rfl rfl ?_
        obtain ⟨hg0, hg1, h⟩ := h
        refine E_cald dX10_cut_26 sh_1100 hg0 hg1 ?_
        refine E_bp dX10_cut_27 rfl ?_
        refine E_icmp_eq (tgt := 43) dX10_cut_29 (by decide) (fun hc => ?_) (fun hc => ?_)
        · have h := Eq.mp (if_pos hc) h
          exact e_P_X10_cut_J43 hR hK h
        · have h := Eq.mp (if_neg hc) h
          refine E_aload_n dX10_cut_32 rfl rfl ?_
          refine E_getr (i := 0) dX10_cut_33 fl_RX10_9 rfl rfl (go_10_0 _ _) ?_
          refine E_iload_n dX10_cut_36 rfl rfl ?_
          obtain ⟨hg0, hg1, h⟩ := h
          refine E_cald dX10_cut_37 sh_1100 hg0 hg1 ?_
          refine E_bp dX10_cut_38 rfl ?_
          refine E_icmp_ne (tgt := 49) dX10_cut_40 (by decide) (fun hc => ?_) (fun hc => ?_)
          · have h := Eq.mp (if_neg hc) h
            refine E_aload_n dX10_cut_49 rfl rfl ?_
            refine E_iload_n dX10_cut_50 rfl rfl ?_
            refine E_iload_n dX10_cut_51 rfl rfl ?_
            refine E_callV (Y' := Y_X10_cutOne) (as := [vI x1, vI x2]) (st := []) dX10_cut_52 lk_RX10_40 m_X10_cutOne (by decide) (Nat.le_refl _) (Nat.le_refl _) rfl rfl (Nat.le_of_ble_eq_true rfl) (s_X10_cutOne h) (fun r0 B0 σ_1 h => ?_)
            obtain ⟨r_2, rfl, rfl, h⟩ := h
            refine E_istore_n (ls' := [some (vR 10 0), some (vI x1), some (vI r_2), some (vI x3)]) dX10_cut_55 rfl (by decide) rfl ?_
            refine E_iinc (ls' := [some (vR 10 0), some (vI (wi (x1 + 1))), some (vI r_2), some (vI x3)]) dX10_cut_56 rfl (by decide) rfl rfl ?_
            refine E_iinc (ls' := [some (vR 10 0), some (vI (wi (x1 + 1))), some (vI r_2), some (vI (wi (x3 + 1)))]) dX10_cut_59 rfl (by decide) rfl rfl ?_
            refine E_goto (tgt := 6) dX10_cut_62 (by decide) ?_
            exact hR _ _ _ _ h
          · have h := Eq.mp (if_pos hc) h
            exact e_P_X10_cut_J43 hR hK h
def P_X10_cut_J65  (x1 : Int)  (Q : St → Prop) (σ : St) : Prop :=
  P_X10_put x1 0 (σ 10 0 4) 0 σ (fun σ_5 => Q (up (up (up σ_5 10 0 4 0) 10 0 5 0) 10 0 6 0))
set_option maxRecDepth 20000 in
set_option maxHeartbeats 2000000 in
theorem e_P_X10_cut_J65  {x1 : Int}  {Q : St → Prop} {σ : St}   (h : P_X10_cut_J65 x1 Q σ) : E Y_X10_cut 5 0 0 (QV Q) ww 0 0 65 [some (vR 10 0), some (vI x1), none, none] [] σ := by
  unfold P_X10_cut_J65 at h
  refine E_aload_n dX10_cut_65 rfl rfl ?_
  refine E_iload_n dX10_cut_66 rfl rfl ?_
  refine E_ic dX10_cut_67 rfl ?_
  refine E_aload_n dX10_cut_68 rfl rfl ?_
  refine E_geti (i := 0) dX10_cut_69 fl_RX10_26 rfl ?_
  refine E_lc dX10_cut_72 rfl ?_
  refine E_callV (Y' := Y_X10_put) (as := [vI x1, vI 0, vI (σ 10 0 4), vL 0]) (st := []) dX10_cut_73 lk_RX10_44 m_X10_put (by decide) (Nat.le_refl _) (Nat.le_refl _) rfl rfl (Nat.le_of_ble_eq_true rfl) (s_X10_put h) (fun r0 B0 σ_5 h => ?_)
  obtain ⟨rfl, rfl, h⟩ := h
  refine E_aload_n dX10_cut_76 rfl rfl ?_
  refine E_ic dX10_cut_77 rfl ?_
  refine E_puti dX10_cut_78 fl_RX10_26 rfl rfl rfl ?_
  refine E_aload_n dX10_cut_81 rfl rfl ?_
  refine E_ic dX10_cut_82 rfl ?_
  refine E_puti dX10_cut_83 fl_RX10_30 rfl rfl rfl ?_
  refine E_aload_n dX10_cut_86 rfl rfl ?_
  refine E_ic dX10_cut_87 rfl ?_
  refine E_puti dX10_cut_88 fl_RX10_33 rfl rfl rfl ?_
  exact E_vret dX10_cut_91 rfl ⟨rfl, rfl, h⟩
def P_X10_cut   (σ : St) (Q : St → Prop) : Prop :=
  P_X10_cut_L6 (fun x1_3 σ_4 => P_X10_cut_J65 x1_3 Q σ_4) Q FU 0 0 0 σ
set_option maxRecDepth 20000 in
set_option maxHeartbeats 2000000 in
theorem s_X10_cut    {σ : St} {Q : St → Prop} (h : P_X10_cut  σ Q) : Cn Y_X10_cut 5 0 0 ww σ [vR 10 0] (QV Q) := by
  refine Cn_of [some (vR 10 0), none, none, none] (by decide) (Nat.le_of_ble_eq_true rfl) rfl ?_
  unfold P_X10_cut at h
  refine E_ic dX10_cut_0 rfl ?_
  refine E_istore_n (ls' := [some (vR 10 0), some (vI 0), none, none]) dX10_cut_1 rfl (by decide) rfl ?_
  refine E_ic dX10_cut_2 rfl ?_
  refine E_istore_n (ls' := [some (vR 10 0), some (vI 0), some (vI 0), none]) dX10_cut_3 rfl (by decide) rfl ?_
  refine E_ic dX10_cut_4 rfl ?_
  refine E_istore_n (ls' := [some (vR 10 0), some (vI 0), some (vI 0), some (vI 0)]) dX10_cut_5 rfl (by decide) rfl ?_
  refine e_P_X10_cut_L6 ?_ _ _ _ _ _ h
  · intro x1_3 σ_4 h
    exact e_P_X10_cut_J65 h
abbrev Y_X11_later : My := (yX11_later, cX11_later, 3, some .int)
theorem dX11_later_0 : decode cX11_later 0 = .ok (.aload_n 0, 1) := by decide +kernel
theorem dX11_later_1 : decode cX11_later 1 = .ok (.getfield 19, 3) := by decide +kernel
theorem dX11_later_4 : decode cX11_later 4 = .ok (.iload_n 1, 1) := by decide +kernel
theorem dX11_later_5 : decode cX11_later 5 = .ok (.invokevirtual 142, 3) := by decide +kernel
theorem dX11_later_8 : decode cX11_later 8 = .ok (.ifCond .eq 13, 3) := by decide +kernel
theorem dX11_later_11 : decode cX11_later 11 = .ok (.iload_n 2, 1) := by decide +kernel
theorem dX11_later_12 : decode cX11_later 12 = .ok (.iconst 0, 1) := by decide +kernel
theorem dX11_later_13 : decode cX11_later 13 = .ok (.bipush 60, 2) := by decide +kernel
theorem dX11_later_15 : decode cX11_later 15 = .ok (.invokestatic 197, 3) := by decide +kernel
theorem dX11_later_18 : decode cX11_later 18 = .ok (.ifCond .ne 5, 3) := by decide +kernel
theorem dX11_later_21 : decode cX11_later 21 = .ok (.iconst (-1), 1) := by decide +kernel
theorem dX11_later_22 : decode cX11_later 22 = .ok (.ireturn, 1) := by decide +kernel
theorem dX11_later_23 : decode cX11_later 23 = .ok (.aload_n 0, 1) := by decide +kernel
theorem dX11_later_24 : decode cX11_later 24 = .ok (.getfield 82, 3) := by decide +kernel
theorem dX11_later_27 : decode cX11_later 27 = .ok (.iload_n 1, 1) := by decide +kernel
theorem dX11_later_28 : decode cX11_later 28 = .ok (.iload_n 2, 1) := by decide +kernel
theorem dX11_later_29 : decode cX11_later 29 = .ok (.invokevirtual 261, 3) := by decide +kernel
theorem dX11_later_32 : decode cX11_later 32 = .ok (.aload_n 0, 1) := by decide +kernel
theorem dX11_later_33 : decode cX11_later 33 = .ok (.getfield 82, 3) := by decide +kernel
theorem dX11_later_36 : decode cX11_later 36 = .ok (.getfield 265, 3) := by decide +kernel
theorem dX11_later_39 : decode cX11_later 39 = .ok (.iload_n 1, 1) := by decide +kernel
theorem dX11_later_40 : decode cX11_later 40 = .ok (.aaload, 1) := by decide +kernel
theorem dX11_later_41 : decode cX11_later 41 = .ok (.iload_n 2, 1) := by decide +kernel
theorem dX11_later_42 : decode cX11_later 42 = .ok (.iaload, 1) := by decide +kernel
theorem dX11_later_43 : decode cX11_later 43 = .ok (.ireturn, 1) := by decide +kernel
theorem fl_RX11_265 : FL RX11 265 0 2 := ⟨inG (i := 411) (by decide +kernel) (by decide +kernel), by decide, by decide⟩
theorem fl_RX11_82 : FL RX11 82 11 11 := ⟨inG (i := 485) (by decide +kernel) (by decide +kernel), by decide, by decide⟩
theorem go_11_11 (σ : St) (i : Nat) : go σ 11 i 11 = (0, 0) := rfl
theorem lk_RX11_261 : Cond.methodLink RX11 261 yX0_look ∈ tG := inG (i := 1177) (by decide +kernel) (by decide +kernel)
def P_X11_later  (x1 : Int) (x2 : Int) (σ : St) (Q : Int → St → Prop) : Prop :=
  P_X8_hasBall 0 x1 σ (fun r_2 σ_1 => (if r_2 = 0 then Q (-1) σ_1 else P_X11_within x2 0 60 σ_1 (fun r_4 σ_3 => (if r_4 = 0 then Q (-1) σ_3 else P_X0_look x1 x2 σ_3 (fun σ_5 => 0 ≤ x1 ∧ x1 < 6 ∧ 0 ≤ x2 ∧ x2 < 61 ∧ Q (σ_5 152 x1.toNat x2) σ_5)))))
set_option maxRecDepth 20000 in
set_option maxHeartbeats 2000000 in
theorem s_X11_later   {x1 : Int} {x2 : Int} {σ : St} {Q : Int → St → Prop} (h : P_X11_later x1 x2 σ Q) : Cn Y_X11_later 5 0 0 ww σ [vR 11 0, vI x1, vI x2] (QI Q) := by
  refine Cn_of [some (vR 11 0), some (vI x1), some (vI x2)] (by decide) (Nat.le_of_ble_eq_true rfl) rfl ?_
  unfold P_X11_later at h
  refine E_aload_n dX11_later_0 rfl rfl ?_
  refine E_getr (i := 0) dX11_later_1 fl_RX11_19 rfl rfl (go_11_1 _ _) ?_
  refine E_iload_n dX11_later_4 rfl rfl ?_
  refine E_callV (Y' := Y_X8_hasBall) (as := [vI x1]) (st := []) dX11_later_5 lk_RX11_142 m_X8_hasBall (by decide) (Nat.le_refl _) (Nat.le_refl _) rfl rfl (Nat.le_of_ble_eq_true rfl) (s_X8_hasBall h) (fun r0 B0 σ_1 h => ?_)
  obtain ⟨r_2, rfl, rfl, h⟩ := h
  refine E_if_eq (tgt := 21) dX11_later_8 (by decide) (fun hc => ?_) (fun hc => ?_)
  · have h := Eq.mp (if_pos hc) h
    refine E_ic dX11_later_21 rfl ?_
    exact E_iret dX11_later_22 rfl ⟨_, rfl, rfl, h⟩
  · have h := Eq.mp (if_neg hc) h
    refine E_iload_n dX11_later_11 rfl rfl ?_
    refine E_ic dX11_later_12 rfl ?_
    refine E_bp dX11_later_13 rfl ?_
    refine E_callS (Y' := Y_X11_within) (as := [vI x2, vI 0, vI 60]) (st := []) dX11_later_15 lk_RX11_197 m_X11_within (by decide) (Nat.le_refl _) (Nat.le_refl _) rfl rfl (Nat.le_of_ble_eq_true rfl) (s_X11_within h) (fun r0 B0 σ_3 h => ?_)
    obtain ⟨r_4, rfl, rfl, h⟩ := h
    refine E_if_ne (tgt := 23) dX11_later_18 (by decide) (fun hc => ?_) (fun hc => ?_)
    · have h := Eq.mp (if_neg hc) h
      refine E_aload_n dX11_later_23 rfl rfl ?_
      refine E_getr (i := 0) dX11_later_24 fl_RX11_82 rfl rfl (go_11_11 _ _) ?_
      refine E_iload_n dX11_later_27 rfl rfl ?_
      refine E_iload_n dX11_later_28 rfl rfl ?_
      refine E_callV (Y' := Y_X0_look) (as := [vI x1, vI x2]) (st := []) dX11_later_29 lk_RX11_261 m_X0_look (by decide) (Nat.le_refl _) (Nat.le_refl _) rfl rfl (Nat.le_of_ble_eq_true rfl) (s_X0_look h) (fun r0 B0 σ_5 h => ?_)
      obtain ⟨rfl, rfl, h⟩ := h
      refine E_aload_n dX11_later_32 rfl rfl ?_
      refine E_getr (i := 0) dX11_later_33 fl_RX11_82 rfl rfl (go_11_11 _ _) ?_
      refine E_getr (i := 0) dX11_later_36 fl_RX11_265 rfl rfl (go_0_2 _ _) ?_
      refine E_iload_n dX11_later_39 rfl rfl ?_
      obtain ⟨hg0, hg1, h⟩ := h
      refine E_aald dX11_later_40 sh_102 (by decide) (by decide) hg0 hg1 (wwA sh_102 hg0 hg1) rfl ?_
      refine E_iload_n dX11_later_41 rfl rfl ?_
      obtain ⟨hg0, hg1, h⟩ := h
      refine E_iald dX11_later_42 sh_152 hg0 hg1 ?_
      exact E_iret dX11_later_43 rfl ⟨_, rfl, rfl, h⟩
    · have h := Eq.mp (if_pos hc) h
      refine E_ic dX11_later_21 rfl ?_
      exact E_iret dX11_later_22 rfl ⟨_, rfl, rfl, h⟩
abbrev Y_X11_stray : My := (yX11_stray, cX11_stray, 2, some .int)
theorem dX11_stray_0 : decode cX11_stray 0 = .ok (.aload_n 0, 1) := by decide +kernel
theorem dX11_stray_1 : decode cX11_stray 1 = .ok (.getfield 19, 3) := by decide +kernel
theorem dX11_stray_4 : decode cX11_stray 4 = .ok (.iload_n 1, 1) := by decide +kernel
theorem dX11_stray_5 : decode cX11_stray 5 = .ok (.invokevirtual 142, 3) := by decide +kernel
theorem dX11_stray_8 : decode cX11_stray 8 = .ok (.ifCond .eq 14, 3) := by decide +kernel
theorem dX11_stray_11 : decode cX11_stray 11 = .ok (.aload_n 0, 1) := by decide +kernel
theorem dX11_stray_12 : decode cX11_stray 12 = .ok (.getfield 82, 3) := by decide +kernel
theorem dX11_stray_15 : decode cX11_stray 15 = .ok (.iload_n 1, 1) := by decide +kernel
theorem dX11_stray_16 : decode cX11_stray 16 = .ok (.invokevirtual 268, 3) := by decide +kernel
theorem dX11_stray_19 : decode cX11_stray 19 = .ok (.goto 4, 3) := by decide +kernel
theorem dX11_stray_22 : decode cX11_stray 22 = .ok (.iconst (-1), 1) := by decide +kernel
theorem dX11_stray_23 : decode cX11_stray 23 = .ok (.ireturn, 1) := by decide +kernel
theorem lk_RX11_268 : Cond.methodLink RX11 268 yX0_firstAstray ∈ tG := inG (i := 1191) (by decide +kernel) (by decide +kernel)
theorem m_X0_firstAstray : MV Y_X0_firstAstray 1 0 := ⟨⟨inG (i := 1194) (by decide +kernel) (by decide +kernel), inG (i := 107) (by decide +kernel) (by decide +kernel), by decide, by decide, by decide, by decide +kernel⟩, inG (i := 1192) (by decide +kernel) (by decide +kernel), inG (i := 1193) (by decide +kernel) (by decide +kernel), by decide⟩
def P_X11_stray  (x1 : Int) (σ : St) (Q : Int → St → Prop) : Prop :=
  P_X8_hasBall 0 x1 σ (fun r_2 σ_1 => (if r_2 = 0 then Q (-1) σ_1 else P_X0_firstAstray x1 σ_1 (fun r_4 σ_3 => Q r_4 σ_3)))
set_option maxRecDepth 20000 in
set_option maxHeartbeats 2000000 in
theorem s_X11_stray   {x1 : Int} {σ : St} {Q : Int → St → Prop} (h : P_X11_stray x1 σ Q) : Cn Y_X11_stray 6 0 0 ww σ [vR 11 0, vI x1] (QI Q) := by
  refine Cn_of [some (vR 11 0), some (vI x1)] (by decide) (Nat.le_of_ble_eq_true rfl) rfl ?_
  unfold P_X11_stray at h
  refine E_aload_n dX11_stray_0 rfl rfl ?_
  refine E_getr (i := 0) dX11_stray_1 fl_RX11_19 rfl rfl (go_11_1 _ _) ?_
  refine E_iload_n dX11_stray_4 rfl rfl ?_
  refine E_callV (Y' := Y_X8_hasBall) (as := [vI x1]) (st := []) dX11_stray_5 lk_RX11_142 m_X8_hasBall (by decide) (Nat.le_refl _) (Nat.le_refl _) rfl rfl (Nat.le_of_ble_eq_true rfl) (s_X8_hasBall h) (fun r0 B0 σ_1 h => ?_)
  obtain ⟨r_2, rfl, rfl, h⟩ := h
  refine E_if_eq (tgt := 22) dX11_stray_8 (by decide) (fun hc => ?_) (fun hc => ?_)
  · have h := Eq.mp (if_pos hc) h
    refine E_ic dX11_stray_22 rfl ?_
    exact E_iret dX11_stray_23 rfl ⟨_, rfl, rfl, h⟩
  · have h := Eq.mp (if_neg hc) h
    refine E_aload_n dX11_stray_11 rfl rfl ?_
    refine E_getr (i := 0) dX11_stray_12 fl_RX11_82 rfl rfl (go_11_11 _ _) ?_
    refine E_iload_n dX11_stray_15 rfl rfl ?_
    refine E_callV (Y' := Y_X0_firstAstray) (as := [vI x1]) (st := []) dX11_stray_16 lk_RX11_268 m_X0_firstAstray (by decide) (Nat.le_refl _) (Nat.le_refl _) rfl rfl (Nat.le_of_ble_eq_true rfl) (s_X0_firstAstray h) (fun r0 B0 σ_3 h => ?_)
    obtain ⟨r_4, rfl, rfl, h⟩ := h
    refine E_goto (tgt := 23) dX11_stray_19 (by decide) ?_
    exact E_iret dX11_stray_23 rfl ⟨_, rfl, rfl, h⟩
abbrev Y_X11_first : My := (yX11_first, cX11_first, 5, some .int)
theorem dX11_first_0 : decode cX11_first 0 = .ok (.bipush 61, 2) := by decide +kernel
theorem dX11_first_2 : decode cX11_first 2 = .ok (.istore_n 1, 1) := by decide +kernel
theorem dX11_first_3 : decode cX11_first 3 = .ok (.iconst (-1), 1) := by decide +kernel
theorem dX11_first_4 : decode cX11_first 4 = .ok (.istore_n 2, 1) := by decide +kernel
theorem dX11_first_5 : decode cX11_first 5 = .ok (.iconst 0, 1) := by decide +kernel
theorem dX11_first_6 : decode cX11_first 6 = .ok (.istore_n 3, 1) := by decide +kernel
theorem dX11_first_7 : decode cX11_first 7 = .ok (.iload_n 3, 1) := by decide +kernel
theorem dX11_first_8 : decode cX11_first 8 = .ok (.aload_n 0, 1) := by decide +kernel
theorem dX11_first_9 : decode cX11_first 9 = .ok (.getfield 19, 3) := by decide +kernel
theorem dX11_first_12 : decode cX11_first 12 = .ok (.getfield 258, 3) := by decide +kernel
theorem dX11_first_15 : decode cX11_first 15 = .ok (.if_icmp .ge 36, 3) := by decide +kernel
theorem dX11_first_18 : decode cX11_first 18 = .ok (.aload_n 0, 1) := by decide +kernel
theorem dX11_first_19 : decode cX11_first 19 = .ok (.getfield 82, 3) := by decide +kernel
theorem dX11_first_22 : decode cX11_first 22 = .ok (.iload_n 3, 1) := by decide +kernel
theorem dX11_first_23 : decode cX11_first 23 = .ok (.invokevirtual 268, 3) := by decide +kernel
theorem dX11_first_26 : decode cX11_first 26 = .ok (.istore 4, 2) := by decide +kernel
theorem dX11_first_28 : decode cX11_first 28 = .ok (.iload 4, 2) := by decide +kernel
theorem dX11_first_30 : decode cX11_first 30 = .ok (.iconst (-1), 1) := by decide +kernel
theorem dX11_first_31 : decode cX11_first 31 = .ok (.if_icmp .eq 14, 3) := by decide +kernel
theorem dX11_first_34 : decode cX11_first 34 = .ok (.iload 4, 2) := by decide +kernel
theorem dX11_first_36 : decode cX11_first 36 = .ok (.iload_n 1, 1) := by decide +kernel
theorem dX11_first_37 : decode cX11_first 37 = .ok (.if_icmp .ge 8, 3) := by decide +kernel
theorem dX11_first_40 : decode cX11_first 40 = .ok (.iload 4, 2) := by decide +kernel
theorem dX11_first_42 : decode cX11_first 42 = .ok (.istore_n 1, 1) := by decide +kernel
theorem dX11_first_43 : decode cX11_first 43 = .ok (.iload_n 3, 1) := by decide +kernel
theorem dX11_first_44 : decode cX11_first 44 = .ok (.istore_n 2, 1) := by decide +kernel
theorem dX11_first_45 : decode cX11_first 45 = .ok (.iinc 3 1, 3) := by decide +kernel
theorem dX11_first_48 : decode cX11_first 48 = .ok (.goto (-41), 3) := by decide +kernel
theorem dX11_first_51 : decode cX11_first 51 = .ok (.iload_n 2, 1) := by decide +kernel
theorem dX11_first_52 : decode cX11_first 52 = .ok (.ireturn, 1) := by decide +kernel
def P_X11_first_L7    (Q : Int → St → Prop) : Nat → Int → Int → Int → St → Prop
  | 0, _, _, _, _ => False
  | n + 1, x1, x2, x3, σ => (if (σ 8 0 11) ≤ x3 then Q x2 σ else P_X0_firstAstray x3 σ (fun r_2 σ_1 => (if r_2 = (-1) then (P_X11_first_L7 Q n) x1 x2 (wi (x3 + 1)) σ_1 else (if x1 ≤ r_2 then (P_X11_first_L7 Q n) x1 x2 (wi (x3 + 1)) σ_1 else (P_X11_first_L7 Q n) r_2 x3 (wi (x3 + 1)) σ_1))))
set_option maxRecDepth 20000 in
set_option maxHeartbeats 2000000 in
theorem e_P_X11_first_L7    {Q : Int → St → Prop}   : ∀ (n : Nat) (x1 : Int) (x2 : Int) (x3 : Int) (σ : St), P_X11_first_L7 Q n x1 x2 x3 σ → E Y_X11_first 6 0 0 (QI Q) ww 0 0 7 [some (vR 11 0), some (vI x1), some (vI x2), some (vI x3), none] [] σ := by
  intro n
  induction n with
  | zero => intro x1 x2 x3 σ h; exact h.elim
  | succ n hR =>
    intro x1 x2 x3 σ h
    unfold P_X11_first_L7 at h
    refine E_iload_n dX11_first_7 rfl rfl ?_
    refine E_aload_n dX11_first_8 rfl rfl ?_
    refine E_getr (i := 0) dX11_first_9 fl_RX11_19 rfl rfl (go_11_1 _ _) ?_
    refine E_geti (i := 0) dX11_first_12 fl_RX11_258 rfl ?_
    refine E_icmp_ge (tgt := 51) dX11_first_15 (by decide) (fun hc => ?_) (fun hc => ?_)
    · have h := Eq.mp (if_pos hc) h
      refine E_iload_n dX11_first_51 rfl rfl ?_
      exact E_iret dX11_first_52 rfl ⟨_, rfl, rfl, h⟩
    · have h := Eq.mp (if_neg hc) h
      refine E_aload_n dX11_first_18 rfl rfl ?_
      refine E_getr (i := 0) dX11_first_19 fl_RX11_82 rfl rfl (go_11_11 _ _) ?_
      refine E_iload_n dX11_first_22 rfl rfl ?_
      refine E_callV (Y' := Y_X0_firstAstray) (as := [vI x3]) (st := []) dX11_first_23 lk_RX11_268 m_X0_firstAstray (by decide) (Nat.le_refl _) (Nat.le_refl _) rfl rfl (Nat.le_of_ble_eq_true rfl) (s_X0_firstAstray h) (fun r0 B0 σ_1 h => ?_)
      obtain ⟨r_2, rfl, rfl, h⟩ := h
      refine E_istore (ls' := [some (vR 11 0), some (vI x1), some (vI x2), some (vI x3), some (vI r_2)]) dX11_first_26 (by decide) rfl ?_
      refine E_iload dX11_first_28 rfl ?_
      refine E_ic dX11_first_30 rfl ?_
      refine E_icmp_eq (tgt := 45) dX11_first_31 (by decide) (fun hc => ?_) (fun hc => ?_)
      · have h := Eq.mp (if_pos hc) h
        refine E_iinc (ls' := [some (vR 11 0), some (vI x1), some (vI x2), some (vI (wi (x3 + 1))), some (vI r_2)]) dX11_first_45 rfl (by decide) rfl rfl ?_
        refine E_goto (tgt := 7) dX11_first_48 (by decide) ?_
        refine E_wk2 [some (vR 11 0), some (vI x1), some (vI x2), some (vI (wi (x3 + 1))), none] ⟨rfl, ⟨rfl, ⟨rfl, ⟨rfl, trivial⟩⟩⟩⟩ ?_
        exact hR _ _ _ _ h
      · have h := Eq.mp (if_neg hc) h
        refine E_iload dX11_first_34 rfl ?_
        refine E_iload_n dX11_first_36 rfl rfl ?_
        refine E_icmp_ge (tgt := 45) dX11_first_37 (by decide) (fun hc => ?_) (fun hc => ?_)
        · have h := Eq.mp (if_pos hc) h
          refine E_iinc (ls' := [some (vR 11 0), some (vI x1), some (vI x2), some (vI (wi (x3 + 1))), some (vI r_2)]) dX11_first_45 rfl (by decide) rfl rfl ?_
          refine E_goto (tgt := 7) dX11_first_48 (by decide) ?_
          refine E_wk2 [some (vR 11 0), some (vI x1), some (vI x2), some (vI (wi (x3 + 1))), none] ⟨rfl, ⟨rfl, ⟨rfl, ⟨rfl, trivial⟩⟩⟩⟩ ?_
          exact hR _ _ _ _ h
        · have h := Eq.mp (if_neg hc) h
          refine E_iload dX11_first_40 rfl ?_
          refine E_istore_n (ls' := [some (vR 11 0), some (vI r_2), some (vI x2), some (vI x3), some (vI r_2)]) dX11_first_42 rfl (by decide) rfl ?_
          refine E_iload_n dX11_first_43 rfl rfl ?_
          refine E_istore_n (ls' := [some (vR 11 0), some (vI r_2), some (vI x3), some (vI x3), some (vI r_2)]) dX11_first_44 rfl (by decide) rfl ?_
          refine E_iinc (ls' := [some (vR 11 0), some (vI r_2), some (vI x3), some (vI (wi (x3 + 1))), some (vI r_2)]) dX11_first_45 rfl (by decide) rfl rfl ?_
          refine E_goto (tgt := 7) dX11_first_48 (by decide) ?_
          refine E_wk2 [some (vR 11 0), some (vI r_2), some (vI x3), some (vI (wi (x3 + 1))), none] ⟨rfl, ⟨rfl, ⟨rfl, ⟨rfl, trivial⟩⟩⟩⟩ ?_
          exact hR _ _ _ _ h
def P_X11_first   (σ : St) (Q : Int → St → Prop) : Prop :=
  P_X11_first_L7 Q FU 61 (-1) 0 σ
set_option maxRecDepth 20000 in
set_option maxHeartbeats 2000000 in
theorem s_X11_first    {σ : St} {Q : Int → St → Prop} (h : P_X11_first  σ Q) : Cn Y_X11_first 6 0 0 ww σ [vR 11 0] (QI Q) := by
  refine Cn_of [some (vR 11 0), none, none, none, none] (by decide) (Nat.le_of_ble_eq_true rfl) rfl ?_
  unfold P_X11_first at h
  refine E_bp dX11_first_0 rfl ?_
  refine E_istore_n (ls' := [some (vR 11 0), some (vI 61), none, none, none]) dX11_first_2 rfl (by decide) rfl ?_
  refine E_ic dX11_first_3 rfl ?_
  refine E_istore_n (ls' := [some (vR 11 0), some (vI 61), some (vI (-1)), none, none]) dX11_first_4 rfl (by decide) rfl ?_
  refine E_ic dX11_first_5 rfl ?_
  refine E_istore_n (ls' := [some (vR 11 0), some (vI 61), some (vI (-1)), some (vI 0), none]) dX11_first_6 rfl (by decide) rfl ?_
  refine e_P_X11_first_L7  _ _ _ _ _ h
abbrev Y_X11_safe : My := (yX11_safe, cX11_safe, 5, some .int)
theorem dX11_safe_0 : decode cX11_safe 0 = .ok (.iload_n 1, 1) := by decide +kernel
theorem dX11_safe_1 : decode cX11_safe 1 = .ok (.iconst 0, 1) := by decide +kernel
theorem dX11_safe_2 : decode cX11_safe 2 = .ok (.bipush 60, 2) := by decide +kernel
theorem dX11_safe_4 : decode cX11_safe 4 = .ok (.invokestatic 197, 3) := by decide +kernel
theorem dX11_safe_7 : decode cX11_safe 7 = .ok (.ifCond .ne 5, 3) := by decide +kernel
theorem dX11_safe_10 : decode cX11_safe 10 = .ok (.iconst (-1), 1) := by decide +kernel
theorem dX11_safe_11 : decode cX11_safe 11 = .ok (.ireturn, 1) := by decide +kernel
theorem dX11_safe_12 : decode cX11_safe 12 = .ok (.iconst 0, 1) := by decide +kernel
theorem dX11_safe_13 : decode cX11_safe 13 = .ok (.istore_n 2, 1) := by decide +kernel
theorem dX11_safe_14 : decode cX11_safe 14 = .ok (.iconst 0, 1) := by decide +kernel
theorem dX11_safe_15 : decode cX11_safe 15 = .ok (.istore_n 3, 1) := by decide +kernel
theorem dX11_safe_16 : decode cX11_safe 16 = .ok (.iload_n 3, 1) := by decide +kernel
theorem dX11_safe_17 : decode cX11_safe 17 = .ok (.aload_n 0, 1) := by decide +kernel
theorem dX11_safe_18 : decode cX11_safe 18 = .ok (.getfield 19, 3) := by decide +kernel
theorem dX11_safe_21 : decode cX11_safe 21 = .ok (.getfield 258, 3) := by decide +kernel
theorem dX11_safe_24 : decode cX11_safe 24 = .ok (.if_icmp .ge 37, 3) := by decide +kernel
theorem dX11_safe_27 : decode cX11_safe 27 = .ok (.aload_n 0, 1) := by decide +kernel
theorem dX11_safe_28 : decode cX11_safe 28 = .ok (.getfield 82, 3) := by decide +kernel
theorem dX11_safe_31 : decode cX11_safe 31 = .ok (.iload_n 3, 1) := by decide +kernel
theorem dX11_safe_32 : decode cX11_safe 32 = .ok (.invokevirtual 268, 3) := by decide +kernel
theorem dX11_safe_35 : decode cX11_safe 35 = .ok (.istore 4, 2) := by decide +kernel
theorem dX11_safe_37 : decode cX11_safe 37 = .ok (.iload 4, 2) := by decide +kernel
theorem dX11_safe_39 : decode cX11_safe 39 = .ok (.iconst (-1), 1) := by decide +kernel
theorem dX11_safe_40 : decode cX11_safe 40 = .ok (.if_icmp .eq 9, 3) := by decide +kernel
theorem dX11_safe_43 : decode cX11_safe 43 = .ok (.iload 4, 2) := by decide +kernel
theorem dX11_safe_45 : decode cX11_safe 45 = .ok (.iload_n 1, 1) := by decide +kernel
theorem dX11_safe_46 : decode cX11_safe 46 = .ok (.if_icmp .le 9, 3) := by decide +kernel
theorem dX11_safe_49 : decode cX11_safe 49 = .ok (.iload_n 2, 1) := by decide +kernel
theorem dX11_safe_50 : decode cX11_safe 50 = .ok (.iconst 1, 1) := by decide +kernel
theorem dX11_safe_51 : decode cX11_safe 51 = .ok (.iload_n 3, 1) := by decide +kernel
theorem dX11_safe_52 : decode cX11_safe 52 = .ok (.ishl, 1) := by decide +kernel
theorem dX11_safe_53 : decode cX11_safe 53 = .ok (.ior, 1) := by decide +kernel
theorem dX11_safe_54 : decode cX11_safe 54 = .ok (.istore_n 2, 1) := by decide +kernel
theorem dX11_safe_55 : decode cX11_safe 55 = .ok (.iinc 3 1, 3) := by decide +kernel
theorem dX11_safe_58 : decode cX11_safe 58 = .ok (.goto (-42), 3) := by decide +kernel
theorem dX11_safe_61 : decode cX11_safe 61 = .ok (.iload_n 2, 1) := by decide +kernel
theorem dX11_safe_62 : decode cX11_safe 62 = .ok (.ireturn, 1) := by decide +kernel
def P_X11_safe_J49  (x1 : Int) (x2 : Int) (x3 : Int) (R : Int → Int → St → Prop) (Q : Int → St → Prop) (σ : St) : Prop :=
  R (bO x2 (bL 1 x3)) (wi (x3 + 1)) σ
set_option maxRecDepth 20000 in
set_option maxHeartbeats 2000000 in
theorem e_P_X11_safe_J49  {x1 : Int} {x2 : Int} {x3 : Int} {R : Int → Int → St → Prop} {Q : Int → St → Prop} {σ : St}  (hR : ∀ x2 x3 σ, R x2 x3 σ → E Y_X11_safe 6 0 0 (QI Q) ww 0 0 16 [some (vR 11 0), some (vI x1), some (vI x2), some (vI x3), none] [] σ) (h : P_X11_safe_J49 x1 x2 x3 R Q σ) : E Y_X11_safe 6 0 0 (QI Q) ww 0 0 49 [some (vR 11 0), some (vI x1), some (vI x2), some (vI x3), none] [] σ := by
  unfold P_X11_safe_J49 at h
  refine E_iload_n dX11_safe_49 rfl rfl ?_
  refine E_ic dX11_safe_50 rfl ?_
  refine E_iload_n dX11_safe_51 rfl rfl ?_
  refine E_ishl dX11_safe_52 ?_
  refine E_ior dX11_safe_53 ?_
  refine E_istore_n (ls' := [some (vR 11 0), some (vI x1), some (vI (bO x2 (bL 1 x3))), some (vI x3), none]) dX11_safe_54 rfl (by decide) rfl ?_
  refine E_iinc (ls' := [some (vR 11 0), some (vI x1), some (vI (bO x2 (bL 1 x3))), some (vI (wi (x3 + 1))), none]) dX11_safe_55 rfl (by decide) rfl rfl ?_
  refine E_goto (tgt := 16) dX11_safe_58 (by decide) ?_
  exact hR _ _ _ h
def P_X11_safe_L16  (x1 : Int)  (Q : Int → St → Prop) : Nat → Int → Int → St → Prop
  | 0, _, _, _ => False
  | n + 1, x2, x3, σ => (if (σ 8 0 11) ≤ x3 then Q x2 σ else P_X0_firstAstray x3 σ (fun r_4 σ_3 => (if r_4 = (-1) then P_X11_safe_J49 x1 x2 x3 (P_X11_safe_L16 x1 Q n) Q σ_3 else (if r_4 ≤ x1 then (P_X11_safe_L16 x1 Q n) x2 (wi (x3 + 1)) σ_3 else P_X11_safe_J49 x1 x2 x3 (P_X11_safe_L16 x1 Q n) Q σ_3))))
set_option maxRecDepth 20000 in
set_option maxHeartbeats 2000000 in
theorem e_P_X11_safe_L16  {x1 : Int}  {Q : Int → St → Prop}   : ∀ (n : Nat) (x2 : Int) (x3 : Int) (σ : St), P_X11_safe_L16 x1 Q n x2 x3 σ → E Y_X11_safe 6 0 0 (QI Q) ww 0 0 16 [some (vR 11 0), some (vI x1), some (vI x2), some (vI x3), none] [] σ := by
  intro n
  induction n with
  | zero => intro x2 x3 σ h; exact h.elim
  | succ n hR =>
    intro x2 x3 σ h
    unfold P_X11_safe_L16 at h
    refine E_iload_n dX11_safe_16 rfl rfl ?_
    refine E_aload_n dX11_safe_17 rfl rfl ?_
    refine E_getr (i := 0) dX11_safe_18 fl_RX11_19 rfl rfl (go_11_1 _ _) ?_
    refine E_geti (i := 0) dX11_safe_21 fl_RX11_258 rfl ?_
    refine E_icmp_ge (tgt := 61) dX11_safe_24 (by decide) (fun hc => ?_) (fun hc => ?_)
    · have h := Eq.mp (if_pos hc) h
      refine E_iload_n dX11_safe_61 rfl rfl ?_
      exact E_iret dX11_safe_62 rfl ⟨_, rfl, rfl, h⟩
    · have h := Eq.mp (if_neg hc) h
      refine E_aload_n dX11_safe_27 rfl rfl ?_
      refine E_getr (i := 0) dX11_safe_28 fl_RX11_82 rfl rfl (go_11_11 _ _) ?_
      refine E_iload_n dX11_safe_31 rfl rfl ?_
      refine E_callV (Y' := Y_X0_firstAstray) (as := [vI x3]) (st := []) dX11_safe_32 lk_RX11_268 m_X0_firstAstray (by decide) (Nat.le_refl _) (Nat.le_refl _) rfl rfl (Nat.le_of_ble_eq_true rfl) (s_X0_firstAstray h) (fun r0 B0 σ_3 h => ?_)
      obtain ⟨r_4, rfl, rfl, h⟩ := h
      refine E_istore (ls' := [some (vR 11 0), some (vI x1), some (vI x2), some (vI x3), some (vI r_4)]) dX11_safe_35 (by decide) rfl ?_
      refine E_iload dX11_safe_37 rfl ?_
      refine E_ic dX11_safe_39 rfl ?_
      refine E_icmp_eq (tgt := 49) dX11_safe_40 (by decide) (fun hc => ?_) (fun hc => ?_)
      · have h := Eq.mp (if_pos hc) h
        refine E_wk2 [some (vR 11 0), some (vI x1), some (vI x2), some (vI x3), none] ⟨rfl, ⟨rfl, ⟨rfl, ⟨rfl, trivial⟩⟩⟩⟩ ?_
        exact e_P_X11_safe_J49 hR h
      · have h := Eq.mp (if_neg hc) h
        refine E_iload dX11_safe_43 rfl ?_
        refine E_iload_n dX11_safe_45 rfl rfl ?_
        refine E_icmp_le (tgt := 55) dX11_safe_46 (by decide) (fun hc => ?_) (fun hc => ?_)
        · have h := Eq.mp (if_pos hc) h
          refine E_iinc (ls' := [some (vR 11 0), some (vI x1), some (vI x2), some (vI (wi (x3 + 1))), some (vI r_4)]) dX11_safe_55 rfl (by decide) rfl rfl ?_
          refine E_goto (tgt := 16) dX11_safe_58 (by decide) ?_
          refine E_wk2 [some (vR 11 0), some (vI x1), some (vI x2), some (vI (wi (x3 + 1))), none] ⟨rfl, ⟨rfl, ⟨rfl, ⟨rfl, trivial⟩⟩⟩⟩ ?_
          exact hR _ _ _ h
        · have h := Eq.mp (if_neg hc) h
          refine E_wk2 [some (vR 11 0), some (vI x1), some (vI x2), some (vI x3), none] ⟨rfl, ⟨rfl, ⟨rfl, ⟨rfl, trivial⟩⟩⟩⟩ ?_
          exact e_P_X11_safe_J49 hR h
def P_X11_safe  (x1 : Int) (σ : St) (Q : Int → St → Prop) : Prop :=
  P_X11_within x1 0 60 σ (fun r_2 σ_1 => (if r_2 = 0 then Q (-1) σ_1 else P_X11_safe_L16 x1 Q FU 0 0 σ_1))
set_option maxRecDepth 20000 in
set_option maxHeartbeats 2000000 in
theorem s_X11_safe   {x1 : Int} {σ : St} {Q : Int → St → Prop} (h : P_X11_safe x1 σ Q) : Cn Y_X11_safe 6 0 0 ww σ [vR 11 0, vI x1] (QI Q) := by
  refine Cn_of [some (vR 11 0), some (vI x1), none, none, none] (by decide) (Nat.le_of_ble_eq_true rfl) rfl ?_
  unfold P_X11_safe at h
  refine E_iload_n dX11_safe_0 rfl rfl ?_
  refine E_ic dX11_safe_1 rfl ?_
  refine E_bp dX11_safe_2 rfl ?_
  refine E_callS (Y' := Y_X11_within) (as := [vI x1, vI 0, vI 60]) (st := []) dX11_safe_4 lk_RX11_197 m_X11_within (by decide) (Nat.le_refl _) (Nat.le_refl _) rfl rfl (Nat.le_of_ble_eq_true rfl) (s_X11_within h) (fun r0 B0 σ_1 h => ?_)
  obtain ⟨r_2, rfl, rfl, h⟩ := h
  refine E_if_ne (tgt := 12) dX11_safe_7 (by decide) (fun hc => ?_) (fun hc => ?_)
  · have h := Eq.mp (if_neg hc) h
    refine E_ic dX11_safe_12 rfl ?_
    refine E_istore_n (ls' := [some (vR 11 0), some (vI x1), some (vI 0), none, none]) dX11_safe_13 rfl (by decide) rfl ?_
    refine E_ic dX11_safe_14 rfl ?_
    refine E_istore_n (ls' := [some (vR 11 0), some (vI x1), some (vI 0), some (vI 0), none]) dX11_safe_15 rfl (by decide) rfl ?_
    refine e_P_X11_safe_L16  _ _ _ _ h
  · have h := Eq.mp (if_pos hc) h
    refine E_ic dX11_safe_10 rfl ?_
    exact E_iret dX11_safe_11 rfl ⟨_, rfl, rfl, h⟩
abbrev Y_X11_wide : My := (yX11_wide, cX11_wide, 6, some .int)
theorem dX11_wide_0 : decode cX11_wide 0 = .ok (.iload_n 1, 1) := by decide +kernel
theorem dX11_wide_1 : decode cX11_wide 1 = .ok (.iconst 0, 1) := by decide +kernel
theorem dX11_wide_2 : decode cX11_wide 2 = .ok (.bipush 60, 2) := by decide +kernel
theorem dX11_wide_4 : decode cX11_wide 4 = .ok (.invokestatic 197, 3) := by decide +kernel
theorem dX11_wide_7 : decode cX11_wide 7 = .ok (.ifCond .ne 5, 3) := by decide +kernel
theorem dX11_wide_10 : decode cX11_wide 10 = .ok (.iconst (-1), 1) := by decide +kernel
theorem dX11_wide_11 : decode cX11_wide 11 = .ok (.ireturn, 1) := by decide +kernel
theorem dX11_wide_12 : decode cX11_wide 12 = .ok (.iconst 0, 1) := by decide +kernel
theorem dX11_wide_13 : decode cX11_wide 13 = .ok (.istore_n 2, 1) := by decide +kernel
theorem dX11_wide_14 : decode cX11_wide 14 = .ok (.iconst (-1), 1) := by decide +kernel
theorem dX11_wide_15 : decode cX11_wide 15 = .ok (.istore_n 3, 1) := by decide +kernel
theorem dX11_wide_16 : decode cX11_wide 16 = .ok (.iconst 0, 1) := by decide +kernel
theorem dX11_wide_17 : decode cX11_wide 17 = .ok (.istore 4, 2) := by decide +kernel
theorem dX11_wide_19 : decode cX11_wide 19 = .ok (.iload 4, 2) := by decide +kernel
theorem dX11_wide_21 : decode cX11_wide 21 = .ok (.aload_n 0, 1) := by decide +kernel
theorem dX11_wide_22 : decode cX11_wide 22 = .ok (.getfield 19, 3) := by decide +kernel
theorem dX11_wide_25 : decode cX11_wide 25 = .ok (.getfield 258, 3) := by decide +kernel
theorem dX11_wide_28 : decode cX11_wide 28 = .ok (.if_icmp .ge 45, 3) := by decide +kernel
theorem dX11_wide_31 : decode cX11_wide 31 = .ok (.aload_n 0, 1) := by decide +kernel
theorem dX11_wide_32 : decode cX11_wide 32 = .ok (.getfield 82, 3) := by decide +kernel
theorem dX11_wide_35 : decode cX11_wide 35 = .ok (.iload 4, 2) := by decide +kernel
theorem dX11_wide_37 : decode cX11_wide 37 = .ok (.iload_n 1, 1) := by decide +kernel
theorem dX11_wide_38 : decode cX11_wide 38 = .ok (.invokevirtual 261, 3) := by decide +kernel
theorem dX11_wide_41 : decode cX11_wide 41 = .ok (.aload_n 0, 1) := by decide +kernel
theorem dX11_wide_42 : decode cX11_wide 42 = .ok (.getfield 82, 3) := by decide +kernel
theorem dX11_wide_45 : decode cX11_wide 45 = .ok (.getfield 265, 3) := by decide +kernel
theorem dX11_wide_48 : decode cX11_wide 48 = .ok (.iload 4, 2) := by decide +kernel
theorem dX11_wide_50 : decode cX11_wide 50 = .ok (.aaload, 1) := by decide +kernel
theorem dX11_wide_51 : decode cX11_wide 51 = .ok (.iload_n 1, 1) := by decide +kernel
theorem dX11_wide_52 : decode cX11_wide 52 = .ok (.iaload, 1) := by decide +kernel
theorem dX11_wide_53 : decode cX11_wide 53 = .ok (.istore 5, 2) := by decide +kernel
theorem dX11_wide_55 : decode cX11_wide 55 = .ok (.iload 5, 2) := by decide +kernel
theorem dX11_wide_57 : decode cX11_wide 57 = .ok (.iload_n 2, 1) := by decide +kernel
theorem dX11_wide_58 : decode cX11_wide 58 = .ok (.if_icmp .le 9, 3) := by decide +kernel
theorem dX11_wide_61 : decode cX11_wide 61 = .ok (.iload 5, 2) := by decide +kernel
theorem dX11_wide_63 : decode cX11_wide 63 = .ok (.istore_n 2, 1) := by decide +kernel
theorem dX11_wide_64 : decode cX11_wide 64 = .ok (.iload 4, 2) := by decide +kernel
theorem dX11_wide_66 : decode cX11_wide 66 = .ok (.istore_n 3, 1) := by decide +kernel
theorem dX11_wide_67 : decode cX11_wide 67 = .ok (.iinc 4 1, 3) := by decide +kernel
theorem dX11_wide_70 : decode cX11_wide 70 = .ok (.goto (-51), 3) := by decide +kernel
theorem dX11_wide_73 : decode cX11_wide 73 = .ok (.iload_n 3, 1) := by decide +kernel
theorem dX11_wide_74 : decode cX11_wide 74 = .ok (.ireturn, 1) := by decide +kernel
def P_X11_wide_L19  (x1 : Int)  (Q : Int → St → Prop) : Nat → Int → Int → Int → St → Prop
  | 0, _, _, _, _ => False
  | n + 1, x2, x3, x4, σ => (if (σ 8 0 11) ≤ x4 then Q x3 σ else P_X0_look x4 x1 σ (fun σ_3 => 0 ≤ x4 ∧ x4 < 6 ∧ 0 ≤ x1 ∧ x1 < 61 ∧ (if (σ_3 152 x4.toNat x1) ≤ x2 then (P_X11_wide_L19 x1 Q n) x2 x3 (wi (x4 + 1)) σ_3 else (P_X11_wide_L19 x1 Q n) (σ_3 152 x4.toNat x1) x4 (wi (x4 + 1)) σ_3)))
set_option maxRecDepth 20000 in
set_option maxHeartbeats 2000000 in
theorem e_P_X11_wide_L19  {x1 : Int}  {Q : Int → St → Prop}   : ∀ (n : Nat) (x2 : Int) (x3 : Int) (x4 : Int) (σ : St), P_X11_wide_L19 x1 Q n x2 x3 x4 σ → E Y_X11_wide 5 0 0 (QI Q) ww 0 0 19 [some (vR 11 0), some (vI x1), some (vI x2), some (vI x3), some (vI x4), none] [] σ := by
  intro n
  induction n with
  | zero => intro x2 x3 x4 σ h; exact h.elim
  | succ n hR =>
    intro x2 x3 x4 σ h
    unfold P_X11_wide_L19 at h
    refine E_iload dX11_wide_19 rfl ?_
    refine E_aload_n dX11_wide_21 rfl rfl ?_
    refine E_getr (i := 0) dX11_wide_22 fl_RX11_19 rfl rfl (go_11_1 _ _) ?_
    refine E_geti (i := 0) dX11_wide_25 fl_RX11_258 rfl ?_
    refine E_icmp_ge (tgt := 73) dX11_wide_28 (by decide) (fun hc => ?_) (fun hc => ?_)
    · have h := Eq.mp (if_pos hc) h
      refine E_iload_n dX11_wide_73 rfl rfl ?_
      exact E_iret dX11_wide_74 rfl ⟨_, rfl, rfl, h⟩
    · have h := Eq.mp (if_neg hc) h
      refine E_aload_n dX11_wide_31 rfl rfl ?_
      refine E_getr (i := 0) dX11_wide_32 fl_RX11_82 rfl rfl (go_11_11 _ _) ?_
      refine E_iload dX11_wide_35 rfl ?_
      refine E_iload_n dX11_wide_37 rfl rfl ?_
      refine E_callV (Y' := Y_X0_look) (as := [vI x4, vI x1]) (st := []) dX11_wide_38 lk_RX11_261 m_X0_look (by decide) (Nat.le_refl _) (Nat.le_refl _) rfl rfl (Nat.le_of_ble_eq_true rfl) (s_X0_look h) (fun r0 B0 σ_3 h => ?_)
      obtain ⟨rfl, rfl, h⟩ := h
      refine E_aload_n dX11_wide_41 rfl rfl ?_
      refine E_getr (i := 0) dX11_wide_42 fl_RX11_82 rfl rfl (go_11_11 _ _) ?_
      refine E_getr (i := 0) dX11_wide_45 fl_RX11_265 rfl rfl (go_0_2 _ _) ?_
      refine E_iload dX11_wide_48 rfl ?_
      obtain ⟨hg0, hg1, h⟩ := h
      refine E_aald dX11_wide_50 sh_102 (by decide) (by decide) hg0 hg1 (wwA sh_102 hg0 hg1) rfl ?_
      refine E_iload_n dX11_wide_51 rfl rfl ?_
      obtain ⟨hg0, hg1, h⟩ := h
      refine E_iald dX11_wide_52 sh_152 hg0 hg1 ?_
      refine E_istore (ls' := [some (vR 11 0), some (vI x1), some (vI x2), some (vI x3), some (vI x4), some (vI (σ_3 152 x4.toNat x1))]) dX11_wide_53 (by decide) rfl ?_
      refine E_iload dX11_wide_55 rfl ?_
      refine E_iload_n dX11_wide_57 rfl rfl ?_
      refine E_icmp_le (tgt := 67) dX11_wide_58 (by decide) (fun hc => ?_) (fun hc => ?_)
      · have h := Eq.mp (if_pos hc) h
        refine E_iinc (ls' := [some (vR 11 0), some (vI x1), some (vI x2), some (vI x3), some (vI (wi (x4 + 1))), some (vI (σ_3 152 x4.toNat x1))]) dX11_wide_67 rfl (by decide) rfl rfl ?_
        refine E_goto (tgt := 19) dX11_wide_70 (by decide) ?_
        refine E_wk2 [some (vR 11 0), some (vI x1), some (vI x2), some (vI x3), some (vI (wi (x4 + 1))), none] ⟨rfl, ⟨rfl, ⟨rfl, ⟨rfl, ⟨rfl, trivial⟩⟩⟩⟩⟩ ?_
        exact hR _ _ _ _ h
      · have h := Eq.mp (if_neg hc) h
        refine E_iload dX11_wide_61 rfl ?_
        refine E_istore_n (ls' := [some (vR 11 0), some (vI x1), some (vI (σ_3 152 x4.toNat x1)), some (vI x3), some (vI x4), some (vI (σ_3 152 x4.toNat x1))]) dX11_wide_63 rfl (by decide) rfl ?_
        refine E_iload dX11_wide_64 rfl ?_
        refine E_istore_n (ls' := [some (vR 11 0), some (vI x1), some (vI (σ_3 152 x4.toNat x1)), some (vI x4), some (vI x4), some (vI (σ_3 152 x4.toNat x1))]) dX11_wide_66 rfl (by decide) rfl ?_
        refine E_iinc (ls' := [some (vR 11 0), some (vI x1), some (vI (σ_3 152 x4.toNat x1)), some (vI x4), some (vI (wi (x4 + 1))), some (vI (σ_3 152 x4.toNat x1))]) dX11_wide_67 rfl (by decide) rfl rfl ?_
        refine E_goto (tgt := 19) dX11_wide_70 (by decide) ?_
        refine E_wk2 [some (vR 11 0), some (vI x1), some (vI (σ_3 152 x4.toNat x1)), some (vI x4), some (vI (wi (x4 + 1))), none] ⟨rfl, ⟨rfl, ⟨rfl, ⟨rfl, ⟨rfl, trivial⟩⟩⟩⟩⟩ ?_
        exact hR _ _ _ _ h
def P_X11_wide  (x1 : Int) (σ : St) (Q : Int → St → Prop) : Prop :=
  P_X11_within x1 0 60 σ (fun r_2 σ_1 => (if r_2 = 0 then Q (-1) σ_1 else P_X11_wide_L19 x1 Q FU 0 (-1) 0 σ_1))
set_option maxRecDepth 20000 in
set_option maxHeartbeats 2000000 in
theorem s_X11_wide   {x1 : Int} {σ : St} {Q : Int → St → Prop} (h : P_X11_wide x1 σ Q) : Cn Y_X11_wide 5 0 0 ww σ [vR 11 0, vI x1] (QI Q) := by
  refine Cn_of [some (vR 11 0), some (vI x1), none, none, none, none] (by decide) (Nat.le_of_ble_eq_true rfl) rfl ?_
  unfold P_X11_wide at h
  refine E_iload_n dX11_wide_0 rfl rfl ?_
  refine E_ic dX11_wide_1 rfl ?_
  refine E_bp dX11_wide_2 rfl ?_
  refine E_callS (Y' := Y_X11_within) (as := [vI x1, vI 0, vI 60]) (st := []) dX11_wide_4 lk_RX11_197 m_X11_within (by decide) (Nat.le_refl _) (Nat.le_refl _) rfl rfl (Nat.le_of_ble_eq_true rfl) (s_X11_within h) (fun r0 B0 σ_1 h => ?_)
  obtain ⟨r_2, rfl, rfl, h⟩ := h
  refine E_if_ne (tgt := 12) dX11_wide_7 (by decide) (fun hc => ?_) (fun hc => ?_)
  · have h := Eq.mp (if_neg hc) h
    refine E_ic dX11_wide_12 rfl ?_
    refine E_istore_n (ls' := [some (vR 11 0), some (vI x1), some (vI 0), none, none, none]) dX11_wide_13 rfl (by decide) rfl ?_
    refine E_ic dX11_wide_14 rfl ?_
    refine E_istore_n (ls' := [some (vR 11 0), some (vI x1), some (vI 0), some (vI (-1)), none, none]) dX11_wide_15 rfl (by decide) rfl ?_
    refine E_ic dX11_wide_16 rfl ?_
    refine E_istore (ls' := [some (vR 11 0), some (vI x1), some (vI 0), some (vI (-1)), some (vI 0), none]) dX11_wide_17 (by decide) rfl ?_
    refine e_P_X11_wide_L19  _ _ _ _ _ h
  · have h := Eq.mp (if_pos hc) h
    refine E_ic dX11_wide_10 rfl ?_
    exact E_iret dX11_wide_11 rfl ⟨_, rfl, rfl, h⟩
abbrev Y_X11_over : My := (yX11_over, cX11_over, 3, some .int)
theorem dX11_over_0 : decode cX11_over 0 = .ok (.aload_n 0, 1) := by decide +kernel
theorem dX11_over_1 : decode cX11_over 1 = .ok (.getfield 19, 3) := by decide +kernel
theorem dX11_over_4 : decode cX11_over 4 = .ok (.iload_n 1, 1) := by decide +kernel
theorem dX11_over_5 : decode cX11_over 5 = .ok (.invokevirtual 142, 3) := by decide +kernel
theorem dX11_over_8 : decode cX11_over 8 = .ok (.ifCond .eq 13, 3) := by decide +kernel
theorem dX11_over_11 : decode cX11_over 11 = .ok (.iload_n 2, 1) := by decide +kernel
theorem dX11_over_12 : decode cX11_over 12 = .ok (.iconst 1, 1) := by decide +kernel
theorem dX11_over_13 : decode cX11_over 13 = .ok (.bipush 60, 2) := by decide +kernel
theorem dX11_over_15 : decode cX11_over 15 = .ok (.invokestatic 197, 3) := by decide +kernel
theorem dX11_over_18 : decode cX11_over 18 = .ok (.ifCond .ne 5, 3) := by decide +kernel
theorem dX11_over_21 : decode cX11_over 21 = .ok (.iconst (-1), 1) := by decide +kernel
theorem dX11_over_22 : decode cX11_over 22 = .ok (.ireturn, 1) := by decide +kernel
theorem dX11_over_23 : decode cX11_over 23 = .ok (.aload_n 0, 1) := by decide +kernel
theorem dX11_over_24 : decode cX11_over 24 = .ok (.getfield 82, 3) := by decide +kernel
theorem dX11_over_27 : decode cX11_over 27 = .ok (.iload_n 1, 1) := by decide +kernel
theorem dX11_over_28 : decode cX11_over 28 = .ok (.iload_n 2, 1) := by decide +kernel
theorem dX11_over_29 : decode cX11_over 29 = .ok (.invokevirtual 271, 3) := by decide +kernel
theorem dX11_over_32 : decode cX11_over 32 = .ok (.ireturn, 1) := by decide +kernel
theorem lk_RX11_271 : Cond.methodLink RX11 271 yX0_firstAsLarge ∈ tG := inG (i := 1217) (by decide +kernel) (by decide +kernel)
theorem m_X0_firstAsLarge : MV Y_X0_firstAsLarge 2 0 := ⟨⟨inG (i := 1220) (by decide +kernel) (by decide +kernel), inG (i := 107) (by decide +kernel) (by decide +kernel), by decide, by decide, by decide, by decide +kernel⟩, inG (i := 1218) (by decide +kernel) (by decide +kernel), inG (i := 1219) (by decide +kernel) (by decide +kernel), by decide⟩
def P_X11_over  (x1 : Int) (x2 : Int) (σ : St) (Q : Int → St → Prop) : Prop :=
  P_X8_hasBall 0 x1 σ (fun r_2 σ_1 => (if r_2 = 0 then Q (-1) σ_1 else P_X11_within x2 1 60 σ_1 (fun r_4 σ_3 => (if r_4 = 0 then Q (-1) σ_3 else P_X0_firstAsLarge x1 x2 σ_3 (fun r_6 σ_5 => Q r_6 σ_5)))))
set_option maxRecDepth 20000 in
set_option maxHeartbeats 2000000 in
theorem s_X11_over   {x1 : Int} {x2 : Int} {σ : St} {Q : Int → St → Prop} (h : P_X11_over x1 x2 σ Q) : Cn Y_X11_over 6 0 0 ww σ [vR 11 0, vI x1, vI x2] (QI Q) := by
  refine Cn_of [some (vR 11 0), some (vI x1), some (vI x2)] (by decide) (Nat.le_of_ble_eq_true rfl) rfl ?_
  unfold P_X11_over at h
  refine E_aload_n dX11_over_0 rfl rfl ?_
  refine E_getr (i := 0) dX11_over_1 fl_RX11_19 rfl rfl (go_11_1 _ _) ?_
  refine E_iload_n dX11_over_4 rfl rfl ?_
  refine E_callV (Y' := Y_X8_hasBall) (as := [vI x1]) (st := []) dX11_over_5 lk_RX11_142 m_X8_hasBall (by decide) (Nat.le_refl _) (Nat.le_refl _) rfl rfl (Nat.le_of_ble_eq_true rfl) (s_X8_hasBall h) (fun r0 B0 σ_1 h => ?_)
  obtain ⟨r_2, rfl, rfl, h⟩ := h
  refine E_if_eq (tgt := 21) dX11_over_8 (by decide) (fun hc => ?_) (fun hc => ?_)
  · have h := Eq.mp (if_pos hc) h
    refine E_ic dX11_over_21 rfl ?_
    exact E_iret dX11_over_22 rfl ⟨_, rfl, rfl, h⟩
  · have h := Eq.mp (if_neg hc) h
    refine E_iload_n dX11_over_11 rfl rfl ?_
    refine E_ic dX11_over_12 rfl ?_
    refine E_bp dX11_over_13 rfl ?_
    refine E_callS (Y' := Y_X11_within) (as := [vI x2, vI 1, vI 60]) (st := []) dX11_over_15 lk_RX11_197 m_X11_within (by decide) (Nat.le_refl _) (Nat.le_refl _) rfl rfl (Nat.le_of_ble_eq_true rfl) (s_X11_within h) (fun r0 B0 σ_3 h => ?_)
    obtain ⟨r_4, rfl, rfl, h⟩ := h
    refine E_if_ne (tgt := 23) dX11_over_18 (by decide) (fun hc => ?_) (fun hc => ?_)
    · have h := Eq.mp (if_neg hc) h
      refine E_aload_n dX11_over_23 rfl rfl ?_
      refine E_getr (i := 0) dX11_over_24 fl_RX11_82 rfl rfl (go_11_11 _ _) ?_
      refine E_iload_n dX11_over_27 rfl rfl ?_
      refine E_iload_n dX11_over_28 rfl rfl ?_
      refine E_callV (Y' := Y_X0_firstAsLarge) (as := [vI x1, vI x2]) (st := []) dX11_over_29 lk_RX11_271 m_X0_firstAsLarge (by decide) (Nat.le_refl _) (Nat.le_refl _) rfl rfl (Nat.le_of_ble_eq_true rfl) (s_X0_firstAsLarge h) (fun r0 B0 σ_5 h => ?_)
      obtain ⟨r_6, rfl, rfl, h⟩ := h
      exact E_iret dX11_over_32 rfl ⟨_, rfl, rfl, h⟩
    · have h := Eq.mp (if_pos hc) h
      refine E_ic dX11_over_21 rfl ?_
      exact E_iret dX11_over_22 rfl ⟨_, rfl, rfl, h⟩
abbrev Y_X11_who : My := (yX11_who, cX11_who, 1, some .int)
theorem dX11_who_0 : decode cX11_who 0 = .ok (.aload_n 0, 1) := by decide +kernel
theorem dX11_who_1 : decode cX11_who 1 = .ok (.getfield 67, 3) := by decide +kernel
theorem dX11_who_4 : decode cX11_who 4 = .ok (.aload_n 0, 1) := by decide +kernel
theorem dX11_who_5 : decode cX11_who 5 = .ok (.getfield 82, 3) := by decide +kernel
theorem dX11_who_8 : decode cX11_who 8 = .ok (.invokevirtual 279, 3) := by decide +kernel
theorem dX11_who_11 : decode cX11_who 11 = .ok (.ireturn, 1) := by decide +kernel
theorem lk_RX11_279 : Cond.methodLink RX11 279 yX7_agreeing ∈ tG := inG (i := 1233) (by decide +kernel) (by decide +kernel)
theorem m_X7_agreeing : MV Y_X7_agreeing 1 7 := ⟨⟨inG (i := 1236) (by decide +kernel) (by decide +kernel), inG (i := 106) (by decide +kernel) (by decide +kernel), by decide, by decide, by decide, by decide +kernel⟩, inG (i := 1234) (by decide +kernel) (by decide +kernel), inG (i := 1235) (by decide +kernel) (by decide +kernel), by decide⟩
def P_X11_who   (σ : St) (Q : Int → St → Prop) : Prop :=
  P_X7_agreeing 0 σ (fun r_2 σ_1 => Q r_2 σ_1)
set_option maxRecDepth 20000 in
set_option maxHeartbeats 2000000 in
theorem s_X11_who    {σ : St} {Q : Int → St → Prop} (h : P_X11_who  σ Q) : Cn Y_X11_who 6 0 0 ww σ [vR 11 0] (QI Q) := by
  refine Cn_of [some (vR 11 0)] (by decide) (Nat.le_of_ble_eq_true rfl) rfl ?_
  unfold P_X11_who at h
  refine E_aload_n dX11_who_0 rfl rfl ?_
  refine E_getr (i := 0) dX11_who_1 fl_RX11_67 rfl rfl (go_11_9 _ _) ?_
  refine E_aload_n dX11_who_4 rfl rfl ?_
  refine E_getr (i := 0) dX11_who_5 fl_RX11_82 rfl rfl (go_11_11 _ _) ?_
  refine E_callV (Y' := Y_X7_agreeing) (as := [vR 0 0]) (st := []) dX11_who_8 lk_RX11_279 m_X7_agreeing (by decide) (Nat.le_refl _) (Nat.le_refl _) rfl rfl (Nat.le_of_ble_eq_true rfl) (s_X7_agreeing h) (fun r0 B0 σ_1 h => ?_)
  obtain ⟨r_2, rfl, rfl, h⟩ := h
  exact E_iret dX11_who_11 rfl ⟨_, rfl, rfl, h⟩
abbrev Y_X11_ask : My := (yX11_ask, cX11_ask, 1, some .int)
theorem dX11_ask_0 : decode cX11_ask 0 = .ok (.aload_n 0, 1) := by decide +kernel
theorem dX11_ask_1 : decode cX11_ask 1 = .ok (.getfield 82, 3) := by decide +kernel
theorem dX11_ask_4 : decode cX11_ask 4 = .ok (.aload_n 0, 1) := by decide +kernel
theorem dX11_ask_5 : decode cX11_ask 5 = .ok (.getfield 67, 3) := by decide +kernel
theorem dX11_ask_8 : decode cX11_ask 8 = .ok (.aload_n 0, 1) := by decide +kernel
theorem dX11_ask_9 : decode cX11_ask 9 = .ok (.getfield 82, 3) := by decide +kernel
theorem dX11_ask_12 : decode cX11_ask 12 = .ok (.invokevirtual 279, 3) := by decide +kernel
theorem dX11_ask_15 : decode cX11_ask 15 = .ok (.invokevirtual 283, 3) := by decide +kernel
theorem dX11_ask_18 : decode cX11_ask 18 = .ok (.ireturn, 1) := by decide +kernel
theorem lk_RX11_283 : Cond.methodLink RX11 283 yX0_bestQuestion ∈ tG := inG (i := 1247) (by decide +kernel) (by decide +kernel)
theorem m_X0_bestQuestion : MV Y_X0_bestQuestion 1 0 := ⟨⟨inG (i := 1250) (by decide +kernel) (by decide +kernel), inG (i := 107) (by decide +kernel) (by decide +kernel), by decide, by decide, by decide, by decide +kernel⟩, inG (i := 1248) (by decide +kernel) (by decide +kernel), inG (i := 1249) (by decide +kernel) (by decide +kernel), by decide⟩
def P_X11_ask   (σ : St) (Q : Int → St → Prop) : Prop :=
  P_X7_agreeing 0 σ (fun r_2 σ_1 => P_X0_bestQuestion r_2 σ_1 (fun r_4 σ_3 => Q r_4 σ_3))
set_option maxRecDepth 20000 in
set_option maxHeartbeats 2000000 in
theorem s_X11_ask    {σ : St} {Q : Int → St → Prop} (h : P_X11_ask  σ Q) : Cn Y_X11_ask 6 0 0 ww σ [vR 11 0] (QI Q) := by
  refine Cn_of [some (vR 11 0)] (by decide) (Nat.le_of_ble_eq_true rfl) rfl ?_
  unfold P_X11_ask at h
  refine E_aload_n dX11_ask_0 rfl rfl ?_
  refine E_getr (i := 0) dX11_ask_1 fl_RX11_82 rfl rfl (go_11_11 _ _) ?_
  refine E_aload_n dX11_ask_4 rfl rfl ?_
  refine E_getr (i := 0) dX11_ask_5 fl_RX11_67 rfl rfl (go_11_9 _ _) ?_
  refine E_aload_n dX11_ask_8 rfl rfl ?_
  refine E_getr (i := 0) dX11_ask_9 fl_RX11_82 rfl rfl (go_11_11 _ _) ?_
  refine E_callV (Y' := Y_X7_agreeing) (as := [vR 0 0]) (st := [vR 0 0]) dX11_ask_12 lk_RX11_279 m_X7_agreeing (by decide) (Nat.le_refl _) (Nat.le_refl _) rfl rfl (Nat.le_of_ble_eq_true rfl) (s_X7_agreeing h) (fun r0 B0 σ_1 h => ?_)
  obtain ⟨r_2, rfl, rfl, h⟩ := h
  refine E_callV (Y' := Y_X0_bestQuestion) (as := [vI r_2]) (st := []) dX11_ask_15 lk_RX11_283 m_X0_bestQuestion (by decide) (Nat.le_refl _) (Nat.le_refl _) rfl rfl (Nat.le_of_ble_eq_true rfl) (s_X0_bestQuestion h) (fun r0 B0 σ_3 h => ?_)
  obtain ⟨r_4, rfl, rfl, h⟩ := h
  exact E_iret dX11_ask_18 rfl ⟨_, rfl, rfl, h⟩
abbrev Y_X11_chance : My := (yX11_chance, cX11_chance, 4, some .int)
theorem dX11_chance_0 : decode cX11_chance 0 = .ok (.aload_n 0, 1) := by decide +kernel
theorem dX11_chance_1 : decode cX11_chance 1 = .ok (.getfield 19, 3) := by decide +kernel
theorem dX11_chance_4 : decode cX11_chance 4 = .ok (.iload_n 1, 1) := by decide +kernel
theorem dX11_chance_5 : decode cX11_chance 5 = .ok (.invokevirtual 142, 3) := by decide +kernel
theorem dX11_chance_8 : decode cX11_chance 8 = .ok (.ifCond .eq 23, 3) := by decide +kernel
theorem dX11_chance_11 : decode cX11_chance 11 = .ok (.iload_n 2, 1) := by decide +kernel
theorem dX11_chance_12 : decode cX11_chance 12 = .ok (.iconst 1, 1) := by decide +kernel
theorem dX11_chance_13 : decode cX11_chance 13 = .ok (.bipush 6, 2) := by decide +kernel
theorem dX11_chance_15 : decode cX11_chance 15 = .ok (.invokestatic 197, 3) := by decide +kernel
theorem dX11_chance_18 : decode cX11_chance 18 = .ok (.ifCond .eq 13, 3) := by decide +kernel
theorem dX11_chance_21 : decode cX11_chance 21 = .ok (.iload_n 3, 1) := by decide +kernel
theorem dX11_chance_22 : decode cX11_chance 22 = .ok (.iconst 0, 1) := by decide +kernel
theorem dX11_chance_23 : decode cX11_chance 23 = .ok (.bipush 10, 2) := by decide +kernel
theorem dX11_chance_25 : decode cX11_chance 25 = .ok (.invokestatic 197, 3) := by decide +kernel
theorem dX11_chance_28 : decode cX11_chance 28 = .ok (.ifCond .ne 5, 3) := by decide +kernel
theorem dX11_chance_31 : decode cX11_chance 31 = .ok (.iconst (-1), 1) := by decide +kernel
theorem dX11_chance_32 : decode cX11_chance 32 = .ok (.ireturn, 1) := by decide +kernel
theorem dX11_chance_33 : decode cX11_chance 33 = .ok (.aload_n 0, 1) := by decide +kernel
theorem dX11_chance_34 : decode cX11_chance 34 = .ok (.getfield 82, 3) := by decide +kernel
theorem dX11_chance_37 : decode cX11_chance 37 = .ok (.iload_n 1, 1) := by decide +kernel
theorem dX11_chance_38 : decode cX11_chance 38 = .ok (.iload_n 2, 1) := by decide +kernel
theorem dX11_chance_39 : decode cX11_chance 39 = .ok (.iload_n 3, 1) := by decide +kernel
theorem dX11_chance_40 : decode cX11_chance 40 = .ok (.invokevirtual 286, 3) := by decide +kernel
theorem dX11_chance_43 : decode cX11_chance 43 = .ok (.ireturn, 1) := by decide +kernel
theorem lk_RX11_286 : Cond.methodLink RX11 286 yX0_millionthsHome ∈ tG := inG (i := 1261) (by decide +kernel) (by decide +kernel)
theorem m_X0_millionthsHome : MV Y_X0_millionthsHome 3 0 := ⟨⟨inG (i := 1264) (by decide +kernel) (by decide +kernel), inG (i := 107) (by decide +kernel) (by decide +kernel), by decide, by decide, by decide, by decide +kernel⟩, inG (i := 1262) (by decide +kernel) (by decide +kernel), inG (i := 1263) (by decide +kernel) (by decide +kernel), by decide⟩
def P_X11_chance  (x1 : Int) (x2 : Int) (x3 : Int) (σ : St) (Q : Int → St → Prop) : Prop :=
  P_X8_hasBall 0 x1 σ (fun r_2 σ_1 => (if r_2 = 0 then Q (-1) σ_1 else P_X11_within x2 1 6 σ_1 (fun r_4 σ_3 => (if r_4 = 0 then Q (-1) σ_3 else P_X11_within x3 0 10 σ_3 (fun r_6 σ_5 => (if r_6 = 0 then Q (-1) σ_5 else P_X0_millionthsHome x1 x2 x3 σ_5 (fun r_8 σ_7 => Q r_8 σ_7)))))))
set_option maxRecDepth 20000 in
set_option maxHeartbeats 2000000 in
theorem s_X11_chance   {x1 : Int} {x2 : Int} {x3 : Int} {σ : St} {Q : Int → St → Prop} (h : P_X11_chance x1 x2 x3 σ Q) : Cn Y_X11_chance 130 0 0 ww σ [vR 11 0, vI x1, vI x2, vI x3] (QI Q) := by
  refine Cn_of [some (vR 11 0), some (vI x1), some (vI x2), some (vI x3)] (by decide) (Nat.le_of_ble_eq_true rfl) rfl ?_
  unfold P_X11_chance at h
  refine E_aload_n dX11_chance_0 rfl rfl ?_
  refine E_getr (i := 0) dX11_chance_1 fl_RX11_19 rfl rfl (go_11_1 _ _) ?_
  refine E_iload_n dX11_chance_4 rfl rfl ?_
  refine E_callV (Y' := Y_X8_hasBall) (as := [vI x1]) (st := []) dX11_chance_5 lk_RX11_142 m_X8_hasBall (by decide) (Nat.le_refl _) (Nat.le_refl _) rfl rfl (Nat.le_of_ble_eq_true rfl) (s_X8_hasBall h) (fun r0 B0 σ_1 h => ?_)
  obtain ⟨r_2, rfl, rfl, h⟩ := h
  refine E_if_eq (tgt := 31) dX11_chance_8 (by decide) (fun hc => ?_) (fun hc => ?_)
  · have h := Eq.mp (if_pos hc) h
    refine E_ic dX11_chance_31 rfl ?_
    exact E_iret dX11_chance_32 rfl ⟨_, rfl, rfl, h⟩
  · have h := Eq.mp (if_neg hc) h
    refine E_iload_n dX11_chance_11 rfl rfl ?_
    refine E_ic dX11_chance_12 rfl ?_
    refine E_bp dX11_chance_13 rfl ?_
    refine E_callS (Y' := Y_X11_within) (as := [vI x2, vI 1, vI 6]) (st := []) dX11_chance_15 lk_RX11_197 m_X11_within (by decide) (Nat.le_refl _) (Nat.le_refl _) rfl rfl (Nat.le_of_ble_eq_true rfl) (s_X11_within h) (fun r0 B0 σ_3 h => ?_)
    obtain ⟨r_4, rfl, rfl, h⟩ := h
    refine E_if_eq (tgt := 31) dX11_chance_18 (by decide) (fun hc => ?_) (fun hc => ?_)
    · have h := Eq.mp (if_pos hc) h
      refine E_ic dX11_chance_31 rfl ?_
      exact E_iret dX11_chance_32 rfl ⟨_, rfl, rfl, h⟩
    · have h := Eq.mp (if_neg hc) h
      refine E_iload_n dX11_chance_21 rfl rfl ?_
      refine E_ic dX11_chance_22 rfl ?_
      refine E_bp dX11_chance_23 rfl ?_
      refine E_callS (Y' := Y_X11_within) (as := [vI x3, vI 0, vI 10]) (st := []) dX11_chance_25 lk_RX11_197 m_X11_within (by decide) (Nat.le_refl _) (Nat.le_refl _) rfl rfl (Nat.le_of_ble_eq_true rfl) (s_X11_within h) (fun r0 B0 σ_5 h => ?_)
      obtain ⟨r_6, rfl, rfl, h⟩ := h
      refine E_if_ne (tgt := 33) dX11_chance_28 (by decide) (fun hc => ?_) (fun hc => ?_)
      · have h := Eq.mp (if_neg hc) h
        refine E_aload_n dX11_chance_33 rfl rfl ?_
        refine E_getr (i := 0) dX11_chance_34 fl_RX11_82 rfl rfl (go_11_11 _ _) ?_
        refine E_iload_n dX11_chance_37 rfl rfl ?_
        refine E_iload_n dX11_chance_38 rfl rfl ?_
        refine E_iload_n dX11_chance_39 rfl rfl ?_
        refine E_callV (Y' := Y_X0_millionthsHome) (as := [vI x1, vI x2, vI x3]) (st := []) dX11_chance_40 lk_RX11_286 m_X0_millionthsHome (by decide) (Nat.le_refl _) (Nat.le_refl _) rfl rfl (Nat.le_of_ble_eq_true rfl) (s_X0_millionthsHome h) (fun r0 B0 σ_7 h => ?_)
        obtain ⟨r_8, rfl, rfl, h⟩ := h
        exact E_iret dX11_chance_43 rfl ⟨_, rfl, rfl, h⟩
      · have h := Eq.mp (if_pos hc) h
        refine E_ic dX11_chance_31 rfl ?_
        exact E_iret dX11_chance_32 rfl ⟨_, rfl, rfl, h⟩
abbrev Y_X6_readShop : My := (yX6_readShop, cX6_readShop, 3, some .int)
theorem dX6_readShop_0 : decode cX6_readShop 0 = .ok (.aload_n 1, 1) := by decide +kernel
theorem dX6_readShop_1 : decode cX6_readShop 1 = .ok (.invokevirtual 22, 3) := by decide +kernel
theorem dX6_readShop_4 : decode cX6_readShop 4 = .ok (.aload_n 0, 1) := by decide +kernel
theorem dX6_readShop_5 : decode cX6_readShop 5 = .ok (.iconst 0, 1) := by decide +kernel
theorem dX6_readShop_6 : decode cX6_readShop 6 = .ok (.putfield 9, 3) := by decide +kernel
theorem dX6_readShop_9 : decode cX6_readShop 9 = .ok (.aload_n 0, 1) := by decide +kernel
theorem dX6_readShop_10 : decode cX6_readShop 10 = .ok (.iconst 0, 1) := by decide +kernel
theorem dX6_readShop_11 : decode cX6_readShop 11 = .ok (.putfield 15, 3) := by decide +kernel
theorem dX6_readShop_14 : decode cX6_readShop 14 = .ok (.aload_n 0, 1) := by decide +kernel
theorem dX6_readShop_15 : decode cX6_readShop 15 = .ok (.getfield 18, 3) := by decide +kernel
theorem dX6_readShop_18 : decode cX6_readShop 18 = .ok (.invokevirtual 27, 3) := by decide +kernel
theorem dX6_readShop_21 : decode cX6_readShop 21 = .ok (.iconst 0, 1) := by decide +kernel
theorem dX6_readShop_22 : decode cX6_readShop 22 = .ok (.istore_n 2, 1) := by decide +kernel
theorem dX6_readShop_23 : decode cX6_readShop 23 = .ok (.iload_n 2, 1) := by decide +kernel
theorem dX6_readShop_24 : decode cX6_readShop 24 = .ok (.sipush 1000, 3) := by decide +kernel
theorem dX6_readShop_27 : decode cX6_readShop 27 = .ok (.if_icmp .ge 136, 3) := by decide +kernel
theorem dX6_readShop_30 : decode cX6_readShop 30 = .ok (.aload_n 0, 1) := by decide +kernel
theorem dX6_readShop_31 : decode cX6_readShop 31 = .ok (.getfield 18, 3) := by decide +kernel
theorem dX6_readShop_34 : decode cX6_readShop 34 = .ok (.invokevirtual 32, 3) := by decide +kernel
theorem dX6_readShop_37 : decode cX6_readShop 37 = .ok (.ifCond .eq 126, 3) := by decide +kernel
theorem dX6_readShop_40 : decode cX6_readShop 40 = .ok (.aload_n 0, 1) := by decide +kernel
theorem dX6_readShop_41 : decode cX6_readShop 41 = .ok (.getfield 18, 3) := by decide +kernel
theorem dX6_readShop_44 : decode cX6_readShop 44 = .ok (.ldc 36, 2) := by decide +kernel
theorem dX6_readShop_46 : decode cX6_readShop 46 = .ok (.invokevirtual 38, 3) := by decide +kernel
theorem dX6_readShop_49 : decode cX6_readShop 49 = .ok (.ifCond .eq 11, 3) := by decide +kernel
theorem dX6_readShop_52 : decode cX6_readShop 52 = .ok (.aload_n 0, 1) := by decide +kernel
theorem dX6_readShop_53 : decode cX6_readShop 53 = .ok (.aload_n 1, 1) := by decide +kernel
theorem dX6_readShop_54 : decode cX6_readShop 54 = .ok (.invokevirtual 42, 3) := by decide +kernel
theorem dX6_readShop_57 : decode cX6_readShop 57 = .ok (.goto 91, 3) := by decide +kernel
theorem dX6_readShop_60 : decode cX6_readShop 60 = .ok (.aload_n 0, 1) := by decide +kernel
theorem dX6_readShop_61 : decode cX6_readShop 61 = .ok (.getfield 18, 3) := by decide +kernel
theorem dX6_readShop_64 : decode cX6_readShop 64 = .ok (.ldc 46, 2) := by decide +kernel
theorem dX6_readShop_66 : decode cX6_readShop 66 = .ok (.invokevirtual 38, 3) := by decide +kernel
theorem dX6_readShop_69 : decode cX6_readShop 69 = .ok (.ifCond .eq 11, 3) := by decide +kernel
theorem dX6_readShop_72 : decode cX6_readShop 72 = .ok (.aload_n 0, 1) := by decide +kernel
theorem dX6_readShop_73 : decode cX6_readShop 73 = .ok (.aload_n 1, 1) := by decide +kernel
theorem dX6_readShop_74 : decode cX6_readShop 74 = .ok (.invokevirtual 48, 3) := by decide +kernel
theorem dX6_readShop_77 : decode cX6_readShop 77 = .ok (.goto 71, 3) := by decide +kernel
theorem dX6_readShop_80 : decode cX6_readShop 80 = .ok (.aload_n 0, 1) := by decide +kernel
theorem dX6_readShop_81 : decode cX6_readShop 81 = .ok (.getfield 18, 3) := by decide +kernel
theorem dX6_readShop_84 : decode cX6_readShop 84 = .ok (.ldc 51, 2) := by decide +kernel
theorem dX6_readShop_86 : decode cX6_readShop 86 = .ok (.invokevirtual 38, 3) := by decide +kernel
theorem dX6_readShop_89 : decode cX6_readShop 89 = .ok (.ifCond .eq 11, 3) := by decide +kernel
theorem dX6_readShop_92 : decode cX6_readShop 92 = .ok (.aload_n 0, 1) := by decide +kernel
theorem dX6_readShop_93 : decode cX6_readShop 93 = .ok (.aload_n 1, 1) := by decide +kernel
theorem dX6_readShop_94 : decode cX6_readShop 94 = .ok (.invokevirtual 53, 3) := by decide +kernel
theorem dX6_readShop_97 : decode cX6_readShop 97 = .ok (.goto 51, 3) := by decide +kernel
theorem dX6_readShop_100 : decode cX6_readShop 100 = .ok (.aload_n 0, 1) := by decide +kernel
theorem dX6_readShop_101 : decode cX6_readShop 101 = .ok (.getfield 18, 3) := by decide +kernel
theorem dX6_readShop_104 : decode cX6_readShop 104 = .ok (.ldc 56, 2) := by decide +kernel
theorem dX6_readShop_106 : decode cX6_readShop 106 = .ok (.invokevirtual 38, 3) := by decide +kernel
theorem dX6_readShop_109 : decode cX6_readShop 109 = .ok (.ifCond .eq 11, 3) := by decide +kernel
theorem dX6_readShop_112 : decode cX6_readShop 112 = .ok (.aload_n 0, 1) := by decide +kernel
theorem dX6_readShop_113 : decode cX6_readShop 113 = .ok (.aload_n 1, 1) := by decide +kernel
theorem dX6_readShop_114 : decode cX6_readShop 114 = .ok (.invokevirtual 58, 3) := by decide +kernel
theorem dX6_readShop_117 : decode cX6_readShop 117 = .ok (.goto 31, 3) := by decide +kernel
theorem dX6_readShop_120 : decode cX6_readShop 120 = .ok (.aload_n 0, 1) := by decide +kernel
theorem dX6_readShop_121 : decode cX6_readShop 121 = .ok (.getfield 18, 3) := by decide +kernel
theorem dX6_readShop_124 : decode cX6_readShop 124 = .ok (.ldc 61, 2) := by decide +kernel
theorem dX6_readShop_126 : decode cX6_readShop 126 = .ok (.invokevirtual 38, 3) := by decide +kernel
theorem dX6_readShop_129 : decode cX6_readShop 129 = .ok (.ifCond .eq 11, 3) := by decide +kernel
theorem dX6_readShop_132 : decode cX6_readShop 132 = .ok (.aload_n 0, 1) := by decide +kernel
theorem dX6_readShop_133 : decode cX6_readShop 133 = .ok (.aload_n 1, 1) := by decide +kernel
theorem dX6_readShop_134 : decode cX6_readShop 134 = .ok (.invokevirtual 63, 3) := by decide +kernel
theorem dX6_readShop_137 : decode cX6_readShop 137 = .ok (.goto 11, 3) := by decide +kernel
theorem dX6_readShop_140 : decode cX6_readShop 140 = .ok (.aload_n 0, 1) := by decide +kernel
theorem dX6_readShop_141 : decode cX6_readShop 141 = .ok (.getfield 18, 3) := by decide +kernel
theorem dX6_readShop_144 : decode cX6_readShop 144 = .ok (.iconst 1, 1) := by decide +kernel
theorem dX6_readShop_145 : decode cX6_readShop 145 = .ok (.invokevirtual 66, 3) := by decide +kernel
theorem dX6_readShop_148 : decode cX6_readShop 148 = .ok (.aload_n 0, 1) := by decide +kernel
theorem dX6_readShop_149 : decode cX6_readShop 149 = .ok (.getfield 18, 3) := by decide +kernel
theorem dX6_readShop_152 : decode cX6_readShop 152 = .ok (.bipush 59, 2) := by decide +kernel
theorem dX6_readShop_154 : decode cX6_readShop 154 = .ok (.invokevirtual 70, 3) := by decide +kernel
theorem dX6_readShop_157 : decode cX6_readShop 157 = .ok (.iinc 2 1, 3) := by decide +kernel
theorem dX6_readShop_160 : decode cX6_readShop 160 = .ok (.goto (-137), 3) := by decide +kernel
theorem dX6_readShop_163 : decode cX6_readShop 163 = .ok (.aload_n 0, 1) := by decide +kernel
theorem dX6_readShop_164 : decode cX6_readShop 164 = .ok (.getfield 18, 3) := by decide +kernel
theorem dX6_readShop_167 : decode cX6_readShop 167 = .ok (.getfield 74, 3) := by decide +kernel
theorem dX6_readShop_170 : decode cX6_readShop 170 = .ok (.ireturn, 1) := by decide +kernel
theorem fl_RX6_74 : FL RX6 74 10 6 := ⟨inG (i := 145) (by decide +kernel) (by decide +kernel), by decide, by decide⟩
theorem lk_RX6_22 : Cond.methodLink RX6 22 yX8_clear ∈ tG := inG (i := 533) (by decide +kernel) (by decide +kernel)
theorem lk_RX6_27 : Cond.methodLink RX6 27 yX10_cut ∈ tG := inG (i := 537) (by decide +kernel) (by decide +kernel)
theorem lk_RX6_32 : Cond.methodLink RX6 32 yX10_goesOn ∈ tG := inG (i := 651) (by decide +kernel) (by decide +kernel)
theorem lk_RX6_42 : Cond.methodLink RX6 42 yX6_readCounter ∈ tG := inG (i := 681) (by decide +kernel) (by decide +kernel)
theorem lk_RX6_48 : Cond.methodLink RX6 48 yX6_readBall ∈ tG := inG (i := 752) (by decide +kernel) (by decide +kernel)
theorem lk_RX6_53 : Cond.methodLink RX6 53 yX6_readDesk ∈ tG := inG (i := 777) (by decide +kernel) (by decide +kernel)
theorem lk_RX6_58 : Cond.methodLink RX6 58 yX6_readDamp ∈ tG := inG (i := 782) (by decide +kernel) (by decide +kernel)
theorem lk_RX6_63 : Cond.methodLink RX6 63 yX6_readWears ∈ tG := inG (i := 796) (by decide +kernel) (by decide +kernel)
theorem m_X10_cut : MV Y_X10_cut 0 10 := ⟨⟨inG (i := 540) (by decide +kernel) (by decide +kernel), inG (i := 99) (by decide +kernel) (by decide +kernel), by decide, by decide, by decide, by decide +kernel⟩, inG (i := 538) (by decide +kernel) (by decide +kernel), inG (i := 539) (by decide +kernel) (by decide +kernel), by decide⟩
theorem m_X6_readBall : MV Y_X6_readBall 1 6 := ⟨⟨inG (i := 755) (by decide +kernel) (by decide +kernel), inG (i := 103) (by decide +kernel) (by decide +kernel), by decide, by decide, by decide, by decide +kernel⟩, inG (i := 754) (by decide +kernel) (by decide +kernel), inG (i := 7) (by decide +kernel) (by decide +kernel), by decide⟩
theorem m_X6_readCounter : MV Y_X6_readCounter 1 6 := ⟨⟨inG (i := 684) (by decide +kernel) (by decide +kernel), inG (i := 103) (by decide +kernel) (by decide +kernel), by decide, by decide, by decide, by decide +kernel⟩, inG (i := 683) (by decide +kernel) (by decide +kernel), inG (i := 4) (by decide +kernel) (by decide +kernel), by decide⟩
theorem m_X6_readDamp : MV Y_X6_readDamp 1 6 := ⟨⟨inG (i := 785) (by decide +kernel) (by decide +kernel), inG (i := 103) (by decide +kernel) (by decide +kernel), by decide, by decide, by decide, by decide +kernel⟩, inG (i := 784) (by decide +kernel) (by decide +kernel), inG (i := 10) (by decide +kernel) (by decide +kernel), by decide⟩
theorem m_X6_readDesk : MV Y_X6_readDesk 1 6 := ⟨⟨inG (i := 780) (by decide +kernel) (by decide +kernel), inG (i := 103) (by decide +kernel) (by decide +kernel), by decide, by decide, by decide, by decide +kernel⟩, inG (i := 779) (by decide +kernel) (by decide +kernel), inG (i := 9) (by decide +kernel) (by decide +kernel), by decide⟩
theorem m_X6_readWears : MV Y_X6_readWears 1 6 := ⟨⟨inG (i := 799) (by decide +kernel) (by decide +kernel), inG (i := 103) (by decide +kernel) (by decide +kernel), by decide, by decide, by decide, by decide +kernel⟩, inG (i := 798) (by decide +kernel) (by decide +kernel), inG (i := 11) (by decide +kernel) (by decide +kernel), by decide⟩
theorem m_X8_clear : MV Y_X8_clear 0 8 := ⟨⟨inG (i := 536) (by decide +kernel) (by decide +kernel), inG (i := 100) (by decide +kernel) (by decide +kernel), by decide, by decide, by decide, by decide +kernel⟩, inG (i := 534) (by decide +kernel) (by decide +kernel), inG (i := 535) (by decide +kernel) (by decide +kernel), by decide⟩
def P_X6_readShop_J148  (o1 : Nat) (x2 : Int) (R : Int → St → Prop) (Q : Int → St → Prop) (σ : St) : Prop :=
  P_X10_takeSign 59 σ (fun σ_16 => R (wi (x2 + 1)) σ_16)
set_option maxRecDepth 20000 in
set_option maxHeartbeats 2000000 in
theorem e_P_X6_readShop_J148  {o1 : Nat} {x2 : Int} {R : Int → St → Prop} {Q : Int → St → Prop} {σ : St}  (hR : ∀ x2 σ, R x2 σ → E Y_X6_readShop 514 0 0 (QI Q) ww 0 0 23 [some (vR 6 0), some (vR 8 o1), some (vI x2)] [] σ) (h : P_X6_readShop_J148 o1 x2 R Q σ) : E Y_X6_readShop 514 0 0 (QI Q) ww 0 0 148 [some (vR 6 0), some (vR 8 o1), some (vI x2)] [] σ := by
  unfold P_X6_readShop_J148 at h
  refine E_aload_n dX6_readShop_148 rfl rfl ?_
  refine E_getr (i := 0) dX6_readShop_149 fl_RX6_18 rfl rfl (go_6_0 _ _) ?_
  refine E_bp dX6_readShop_152 rfl ?_
  refine E_callV (Y' := Y_X10_takeSign) (as := [vI 59]) (st := []) dX6_readShop_154 lk_RX6_70 m_X10_takeSign (by decide) (Nat.le_refl _) (Nat.le_refl _) rfl rfl (Nat.le_of_ble_eq_true rfl) (s_X10_takeSign h) (fun r0 B0 σ_16 h => ?_)
  obtain ⟨rfl, rfl, h⟩ := h
  refine E_iinc (ls' := [some (vR 6 0), some (vR 8 o1), some (vI (wi (x2 + 1)))]) dX6_readShop_157 rfl (by decide) rfl rfl ?_
  refine E_goto (tgt := 23) dX6_readShop_160 (by decide) ?_
  exact hR _ _ h
def P_X6_readShop_L23  (o1 : Nat)  (Q : Int → St → Prop) : Nat → Int → St → Prop
  | 0, _, _ => False
  | n + 1, x2, σ => (if 1000 ≤ x2 then Q (σ 10 0 6) σ else P_X10_goesOn σ (fun r_4 σ_3 => (if r_4 = 0 then Q (σ_3 10 0 6) σ_3 else P_X10_isWord 1 σ_3 (fun r_6 σ_5 => (if r_6 = 0 then P_X10_isWord 5 σ_5 (fun r_8 σ_7 => (if r_8 = 0 then P_X10_isWord 12 σ_7 (fun r_10 σ_9 => (if r_10 = 0 then P_X10_isWord 13 σ_9 (fun r_12 σ_11 => (if r_12 = 0 then P_X10_isWord 14 σ_11 (fun r_14 σ_13 => (if r_14 = 0 then P_X10_wrong 1 σ_13 (fun σ_15 => P_X6_readShop_J148 o1 x2 (P_X6_readShop_L23 o1 Q n) Q σ_15) else P_X6_readWears o1 σ_13 (fun σ_17 => P_X6_readShop_J148 o1 x2 (P_X6_readShop_L23 o1 Q n) Q σ_17))) else P_X6_readDamp o1 σ_11 (fun σ_18 => P_X6_readShop_J148 o1 x2 (P_X6_readShop_L23 o1 Q n) Q σ_18))) else P_X6_readDesk o1 σ_9 (fun σ_19 => P_X6_readShop_J148 o1 x2 (P_X6_readShop_L23 o1 Q n) Q σ_19))) else P_X6_readBall o1 σ_7 (fun σ_20 => P_X6_readShop_J148 o1 x2 (P_X6_readShop_L23 o1 Q n) Q σ_20))) else P_X6_readCounter o1 σ_5 (fun σ_21 => P_X6_readShop_J148 o1 x2 (P_X6_readShop_L23 o1 Q n) Q σ_21))))))
set_option maxRecDepth 20000 in
set_option maxHeartbeats 2000000 in
theorem e_P_X6_readShop_L23  {o1 : Nat}  {Q : Int → St → Prop}   : ∀ (n : Nat) (x2 : Int) (σ : St), P_X6_readShop_L23 o1 Q n x2 σ → E Y_X6_readShop 514 0 0 (QI Q) ww 0 0 23 [some (vR 6 0), some (vR 8 o1), some (vI x2)] [] σ := by
  intro n
  induction n with
  | zero => intro x2 σ h; exact h.elim
  | succ n hR =>
    intro x2 σ h
    unfold P_X6_readShop_L23 at h
    refine E_iload_n dX6_readShop_23 rfl rfl ?_
    refine E_sp dX6_readShop_24 rfl ?_
    refine E_icmp_ge (tgt := 163) dX6_readShop_27 (by decide) (fun hc => ?_) (fun hc => ?_)
    · have h := Eq.mp (if_pos hc) h
      refine E_aload_n dX6_readShop_163 rfl rfl ?_
      refine E_getr (i := 0) dX6_readShop_164 fl_RX6_18 rfl rfl (go_6_0 _ _) ?_
      refine E_geti (i := 0) dX6_readShop_167 fl_RX6_74 rfl ?_
      exact E_iret dX6_readShop_170 rfl ⟨_, rfl, rfl, h⟩
    · have h := Eq.mp (if_neg hc) h
      refine E_aload_n dX6_readShop_30 rfl rfl ?_
      refine E_getr (i := 0) dX6_readShop_31 fl_RX6_18 rfl rfl (go_6_0 _ _) ?_
      refine E_callV (Y' := Y_X10_goesOn) (as := []) (st := []) dX6_readShop_34 lk_RX6_32 m_X10_goesOn (by decide) (Nat.le_refl _) (Nat.le_refl _) rfl rfl (Nat.le_of_ble_eq_true rfl) (s_X10_goesOn h) (fun r0 B0 σ_3 h => ?_)
      obtain ⟨r_4, rfl, rfl, h⟩ := h
      refine E_if_eq (tgt := 163) dX6_readShop_37 (by decide) (fun hc => ?_) (fun hc => ?_)
      · have h := Eq.mp (if_pos hc) h
        refine E_aload_n dX6_readShop_163 rfl rfl ?_
        refine E_getr (i := 0) dX6_readShop_164 fl_RX6_18 rfl rfl (go_6_0 _ _) ?_
        refine E_geti (i := 0) dX6_readShop_167 fl_RX6_74 rfl ?_
        exact E_iret dX6_readShop_170 rfl ⟨_, rfl, rfl, h⟩
      · have h := Eq.mp (if_neg hc) h
        refine E_aload_n dX6_readShop_40 rfl rfl ?_
        refine E_getr (i := 0) dX6_readShop_41 fl_RX6_18 rfl rfl (go_6_0 _ _) ?_
        refine E_lds (i := 1) dX6_readShop_44 (List.mem_of_getElem? (i := 1) rfl) ?_
        refine E_callV (Y' := Y_X10_isWord) (as := [vR 50 1]) (st := []) dX6_readShop_46 lk_RX6_38 m_X10_isWord (by decide) (Nat.le_refl _) (Nat.le_refl _) rfl rfl (Nat.le_of_ble_eq_true rfl) (s_X10_isWord h) (fun r0 B0 σ_5 h => ?_)
        obtain ⟨r_6, rfl, rfl, h⟩ := h
        refine E_if_eq (tgt := 60) dX6_readShop_49 (by decide) (fun hc => ?_) (fun hc => ?_)
        · have h := Eq.mp (if_pos hc) h
          refine E_aload_n dX6_readShop_60 rfl rfl ?_
          refine E_getr (i := 0) dX6_readShop_61 fl_RX6_18 rfl rfl (go_6_0 _ _) ?_
          refine E_lds (i := 5) dX6_readShop_64 (List.mem_of_getElem? (i := 5) rfl) ?_
          refine E_callV (Y' := Y_X10_isWord) (as := [vR 50 5]) (st := []) dX6_readShop_66 lk_RX6_38 m_X10_isWord (by decide) (Nat.le_refl _) (Nat.le_refl _) rfl rfl (Nat.le_of_ble_eq_true rfl) (s_X10_isWord h) (fun r0 B0 σ_7 h => ?_)
          obtain ⟨r_8, rfl, rfl, h⟩ := h
          refine E_if_eq (tgt := 80) dX6_readShop_69 (by decide) (fun hc => ?_) (fun hc => ?_)
          · have h := Eq.mp (if_pos hc) h
            refine E_aload_n dX6_readShop_80 rfl rfl ?_
            refine E_getr (i := 0) dX6_readShop_81 fl_RX6_18 rfl rfl (go_6_0 _ _) ?_
            refine E_lds (i := 12) dX6_readShop_84 (List.mem_of_getElem? (i := 12) rfl) ?_
            refine E_callV (Y' := Y_X10_isWord) (as := [vR 50 12]) (st := []) dX6_readShop_86 lk_RX6_38 m_X10_isWord (by decide) (Nat.le_refl _) (Nat.le_refl _) rfl rfl (Nat.le_of_ble_eq_true rfl) (s_X10_isWord h) (fun r0 B0 σ_9 h => ?_)
            obtain ⟨r_10, rfl, rfl, h⟩ := h
            refine E_if_eq (tgt := 100) dX6_readShop_89 (by decide) (fun hc => ?_) (fun hc => ?_)
            · have h := Eq.mp (if_pos hc) h
              refine E_aload_n dX6_readShop_100 rfl rfl ?_
              refine E_getr (i := 0) dX6_readShop_101 fl_RX6_18 rfl rfl (go_6_0 _ _) ?_
              refine E_lds (i := 13) dX6_readShop_104 (List.mem_of_getElem? (i := 13) rfl) ?_
              refine E_callV (Y' := Y_X10_isWord) (as := [vR 50 13]) (st := []) dX6_readShop_106 lk_RX6_38 m_X10_isWord (by decide) (Nat.le_refl _) (Nat.le_refl _) rfl rfl (Nat.le_of_ble_eq_true rfl) (s_X10_isWord h) (fun r0 B0 σ_11 h => ?_)
              obtain ⟨r_12, rfl, rfl, h⟩ := h
              refine E_if_eq (tgt := 120) dX6_readShop_109 (by decide) (fun hc => ?_) (fun hc => ?_)
              · have h := Eq.mp (if_pos hc) h
                refine E_aload_n dX6_readShop_120 rfl rfl ?_
                refine E_getr (i := 0) dX6_readShop_121 fl_RX6_18 rfl rfl (go_6_0 _ _) ?_
                refine E_lds (i := 14) dX6_readShop_124 (List.mem_of_getElem? (i := 14) rfl) ?_
                refine E_callV (Y' := Y_X10_isWord) (as := [vR 50 14]) (st := []) dX6_readShop_126 lk_RX6_38 m_X10_isWord (by decide) (Nat.le_refl _) (Nat.le_refl _) rfl rfl (Nat.le_of_ble_eq_true rfl) (s_X10_isWord h) (fun r0 B0 σ_13 h => ?_)
                obtain ⟨r_14, rfl, rfl, h⟩ := h
                refine E_if_eq (tgt := 140) dX6_readShop_129 (by decide) (fun hc => ?_) (fun hc => ?_)
                · have h := Eq.mp (if_pos hc) h
                  refine E_aload_n dX6_readShop_140 rfl rfl ?_
                  refine E_getr (i := 0) dX6_readShop_141 fl_RX6_18 rfl rfl (go_6_0 _ _) ?_
                  refine E_ic dX6_readShop_144 rfl ?_
                  refine E_callV (Y' := Y_X10_wrong) (as := [vI 1]) (st := []) dX6_readShop_145 lk_RX6_66 m_X10_wrong (by decide) (Nat.le_refl _) (Nat.le_refl _) rfl rfl (Nat.le_of_ble_eq_true rfl) (s_X10_wrong h) (fun r0 B0 σ_15 h => ?_)
                  obtain ⟨rfl, rfl, h⟩ := h
                  exact e_P_X6_readShop_J148 hR h
                · have h := Eq.mp (if_neg hc) h
                  refine E_aload_n dX6_readShop_132 rfl rfl ?_
                  refine E_aload_n dX6_readShop_133 rfl rfl ?_
                  refine E_callV (Y' := Y_X6_readWears) (as := [vR 8 o1]) (st := []) dX6_readShop_134 lk_RX6_63 m_X6_readWears (by decide) (Nat.le_refl _) (Nat.le_refl _) rfl rfl (Nat.le_of_ble_eq_true rfl) (s_X6_readWears h) (fun r0 B0 σ_17 h => ?_)
                  obtain ⟨rfl, rfl, h⟩ := h
                  refine E_goto (tgt := 148) dX6_readShop_137 (by decide) ?_
                  exact e_P_X6_readShop_J148 hR h
              · have h := Eq.mp (if_neg hc) h
                refine E_aload_n dX6_readShop_112 rfl rfl ?_
                refine E_aload_n dX6_readShop_113 rfl rfl ?_
                refine E_callV (Y' := Y_X6_readDamp) (as := [vR 8 o1]) (st := []) dX6_readShop_114 lk_RX6_58 m_X6_readDamp (by decide) (Nat.le_refl _) (Nat.le_refl _) rfl rfl (Nat.le_of_ble_eq_true rfl) (s_X6_readDamp h) (fun r0 B0 σ_18 h => ?_)
                obtain ⟨rfl, rfl, h⟩ := h
                refine E_goto (tgt := 148) dX6_readShop_117 (by decide) ?_
                exact e_P_X6_readShop_J148 hR h
            · have h := Eq.mp (if_neg hc) h
              refine E_aload_n dX6_readShop_92 rfl rfl ?_
              refine E_aload_n dX6_readShop_93 rfl rfl ?_
              refine E_callV (Y' := Y_X6_readDesk) (as := [vR 8 o1]) (st := []) dX6_readShop_94 lk_RX6_53 m_X6_readDesk (by decide) (Nat.le_refl _) (Nat.le_refl _) rfl rfl (Nat.le_of_ble_eq_true rfl) (s_X6_readDesk h) (fun r0 B0 σ_19 h => ?_)
              obtain ⟨rfl, rfl, h⟩ := h
              refine E_goto (tgt := 148) dX6_readShop_97 (by decide) ?_
              exact e_P_X6_readShop_J148 hR h
          · have h := Eq.mp (if_neg hc) h
            refine E_aload_n dX6_readShop_72 rfl rfl ?_
            refine E_aload_n dX6_readShop_73 rfl rfl ?_
            refine E_callV (Y' := Y_X6_readBall) (as := [vR 8 o1]) (st := []) dX6_readShop_74 lk_RX6_48 m_X6_readBall (by decide) (Nat.le_refl _) (Nat.le_refl _) rfl rfl (Nat.le_of_ble_eq_true rfl) (s_X6_readBall h) (fun r0 B0 σ_20 h => ?_)
            obtain ⟨rfl, rfl, h⟩ := h
            refine E_goto (tgt := 148) dX6_readShop_77 (by decide) ?_
            exact e_P_X6_readShop_J148 hR h
        · have h := Eq.mp (if_neg hc) h
          refine E_aload_n dX6_readShop_52 rfl rfl ?_
          refine E_aload_n dX6_readShop_53 rfl rfl ?_
          refine E_callV (Y' := Y_X6_readCounter) (as := [vR 8 o1]) (st := []) dX6_readShop_54 lk_RX6_42 m_X6_readCounter (by decide) (Nat.le_refl _) (Nat.le_refl _) rfl rfl (Nat.le_of_ble_eq_true rfl) (s_X6_readCounter h) (fun r0 B0 σ_21 h => ?_)
          obtain ⟨rfl, rfl, h⟩ := h
          refine E_goto (tgt := 148) dX6_readShop_57 (by decide) ?_
          exact e_P_X6_readShop_J148 hR h
def P_X6_readShop  (o1 : Nat) (σ : St) (Q : Int → St → Prop) : Prop :=
  P_X8_clear o1 σ (fun σ_1 => P_X10_cut (up (up σ_1 6 0 1 0) 6 0 2 0) (fun σ_2 => P_X6_readShop_L23 o1 Q FU 0 σ_2))
set_option maxRecDepth 20000 in
set_option maxHeartbeats 2000000 in
theorem s_X6_readShop   {o1 : Nat} {σ : St} {Q : Int → St → Prop} (h : P_X6_readShop o1 σ Q) : Cn Y_X6_readShop 514 0 0 ww σ [vR 6 0, vR 8 o1] (QI Q) := by
  refine Cn_of [some (vR 6 0), some (vR 8 o1), none] (by decide) (Nat.le_of_ble_eq_true rfl) rfl ?_
  unfold P_X6_readShop at h
  refine E_aload_n dX6_readShop_0 rfl rfl ?_
  refine E_callV (Y' := Y_X8_clear) (as := []) (st := []) dX6_readShop_1 lk_RX6_22 m_X8_clear (by decide) (Nat.le_refl _) (Nat.le_refl _) rfl rfl (Nat.le_of_ble_eq_true rfl) (s_X8_clear h) (fun r0 B0 σ_1 h => ?_)
  obtain ⟨rfl, rfl, h⟩ := h
  refine E_aload_n dX6_readShop_4 rfl rfl ?_
  refine E_ic dX6_readShop_5 rfl ?_
  refine E_putz dX6_readShop_6 fl_RX6_9 rfl rfl rfl (by decide) ?_
  refine E_aload_n dX6_readShop_9 rfl rfl ?_
  refine E_ic dX6_readShop_10 rfl ?_
  refine E_putz dX6_readShop_11 fl_RX6_15 rfl rfl rfl (by decide) ?_
  refine E_aload_n dX6_readShop_14 rfl rfl ?_
  refine E_getr (i := 0) dX6_readShop_15 fl_RX6_18 rfl rfl (go_6_0 _ _) ?_
  refine E_callV (Y' := Y_X10_cut) (as := []) (st := []) dX6_readShop_18 lk_RX6_27 m_X10_cut (by decide) (Nat.le_refl _) (Nat.le_refl _) rfl rfl (Nat.le_of_ble_eq_true rfl) (s_X10_cut h) (fun r0 B0 σ_2 h => ?_)
  obtain ⟨rfl, rfl, h⟩ := h
  refine E_ic dX6_readShop_21 rfl ?_
  refine E_istore_n (ls' := [some (vR 6 0), some (vR 8 o1), some (vI 0)]) dX6_readShop_22 rfl (by decide) rfl ?_
  refine e_P_X6_readShop_L23  _ _ _ h
abbrev Y_X6_readRun : My := (yX6_readRun, cX6_readRun, 4, some .int)
theorem dX6_readRun_0 : decode cX6_readRun 0 = .ok (.aload_n 2, 1) := by decide +kernel
theorem dX6_readRun_1 : decode cX6_readRun 1 = .ok (.iconst 0, 1) := by decide +kernel
theorem dX6_readRun_2 : decode cX6_readRun 2 = .ok (.putfield 210, 3) := by decide +kernel
theorem dX6_readRun_5 : decode cX6_readRun 5 = .ok (.aload_n 0, 1) := by decide +kernel
theorem dX6_readRun_6 : decode cX6_readRun 6 = .ok (.getfield 18, 3) := by decide +kernel
theorem dX6_readRun_9 : decode cX6_readRun 9 = .ok (.invokevirtual 27, 3) := by decide +kernel
theorem dX6_readRun_12 : decode cX6_readRun 12 = .ok (.iconst 0, 1) := by decide +kernel
theorem dX6_readRun_13 : decode cX6_readRun 13 = .ok (.istore_n 3, 1) := by decide +kernel
theorem dX6_readRun_14 : decode cX6_readRun 14 = .ok (.iload_n 3, 1) := by decide +kernel
theorem dX6_readRun_15 : decode cX6_readRun 15 = .ok (.sipush 1000, 3) := by decide +kernel
theorem dX6_readRun_18 : decode cX6_readRun 18 = .ok (.if_icmp .ge 34, 3) := by decide +kernel
theorem dX6_readRun_21 : decode cX6_readRun 21 = .ok (.aload_n 0, 1) := by decide +kernel
theorem dX6_readRun_22 : decode cX6_readRun 22 = .ok (.getfield 18, 3) := by decide +kernel
theorem dX6_readRun_25 : decode cX6_readRun 25 = .ok (.invokevirtual 32, 3) := by decide +kernel
theorem dX6_readRun_28 : decode cX6_readRun 28 = .ok (.ifCond .eq 24, 3) := by decide +kernel
theorem dX6_readRun_31 : decode cX6_readRun 31 = .ok (.aload_n 0, 1) := by decide +kernel
theorem dX6_readRun_32 : decode cX6_readRun 32 = .ok (.aload_n 1, 1) := by decide +kernel
theorem dX6_readRun_33 : decode cX6_readRun 33 = .ok (.aload_n 2, 1) := by decide +kernel
theorem dX6_readRun_34 : decode cX6_readRun 34 = .ok (.invokevirtual 215, 3) := by decide +kernel
theorem dX6_readRun_37 : decode cX6_readRun 37 = .ok (.aload_n 0, 1) := by decide +kernel
theorem dX6_readRun_38 : decode cX6_readRun 38 = .ok (.getfield 18, 3) := by decide +kernel
theorem dX6_readRun_41 : decode cX6_readRun 41 = .ok (.bipush 59, 2) := by decide +kernel
theorem dX6_readRun_43 : decode cX6_readRun 43 = .ok (.invokevirtual 70, 3) := by decide +kernel
theorem dX6_readRun_46 : decode cX6_readRun 46 = .ok (.iinc 3 1, 3) := by decide +kernel
theorem dX6_readRun_49 : decode cX6_readRun 49 = .ok (.goto (-35), 3) := by decide +kernel
theorem dX6_readRun_52 : decode cX6_readRun 52 = .ok (.aload_n 0, 1) := by decide +kernel
theorem dX6_readRun_53 : decode cX6_readRun 53 = .ok (.getfield 18, 3) := by decide +kernel
theorem dX6_readRun_56 : decode cX6_readRun 56 = .ok (.getfield 74, 3) := by decide +kernel
theorem dX6_readRun_59 : decode cX6_readRun 59 = .ok (.ireturn, 1) := by decide +kernel
theorem lk_RX6_215 : Cond.methodLink RX6 215 yX6_readRunLine ∈ tG := inG (i := 861) (by decide +kernel) (by decide +kernel)
theorem m_X6_readRunLine : MV Y_X6_readRunLine 2 6 := ⟨⟨inG (i := 864) (by decide +kernel) (by decide +kernel), inG (i := 103) (by decide +kernel) (by decide +kernel), by decide, by decide, by decide, by decide +kernel⟩, inG (i := 863) (by decide +kernel) (by decide +kernel), inG (i := 16) (by decide +kernel) (by decide +kernel), by decide⟩
def P_X6_readRun_L14  (o1 : Nat) (o2 : Nat)  (Q : Int → St → Prop) : Nat → Int → St → Prop
  | 0, _, _ => False
  | n + 1, x3, σ => (if 1000 ≤ x3 then Q (σ 10 0 6) σ else P_X10_goesOn σ (fun r_3 σ_2 => (if r_3 = 0 then Q (σ_2 10 0 6) σ_2 else P_X6_readRunLine o1 o2 σ_2 (fun σ_4 => P_X10_takeSign 59 σ_4 (fun σ_5 => (P_X6_readRun_L14 o1 o2 Q n) (wi (x3 + 1)) σ_5)))))
set_option maxRecDepth 20000 in
set_option maxHeartbeats 2000000 in
theorem e_P_X6_readRun_L14  {o1 : Nat} {o2 : Nat}  {Q : Int → St → Prop}   : ∀ (n : Nat) (x3 : Int) (σ : St), P_X6_readRun_L14 o1 o2 Q n x3 σ → E Y_X6_readRun 8 0 0 (QI Q) ww 0 0 14 [some (vR 6 0), some (vR 8 o1), some (vR 3 o2), some (vI x3)] [] σ := by
  intro n
  induction n with
  | zero => intro x3 σ h; exact h.elim
  | succ n hR =>
    intro x3 σ h
    unfold P_X6_readRun_L14 at h
    refine E_iload_n dX6_readRun_14 rfl rfl ?_
    refine E_sp dX6_readRun_15 rfl ?_
    refine E_icmp_ge (tgt := 52) dX6_readRun_18 (by decide) (fun hc => ?_) (fun hc => ?_)
    · have h := Eq.mp (if_pos hc) h
      refine E_aload_n dX6_readRun_52 rfl rfl ?_
      refine E_getr (i := 0) dX6_readRun_53 fl_RX6_18 rfl rfl (go_6_0 _ _) ?_
      refine E_geti (i := 0) dX6_readRun_56 fl_RX6_74 rfl ?_
      exact E_iret dX6_readRun_59 rfl ⟨_, rfl, rfl, h⟩
    · have h := Eq.mp (if_neg hc) h
      refine E_aload_n dX6_readRun_21 rfl rfl ?_
      refine E_getr (i := 0) dX6_readRun_22 fl_RX6_18 rfl rfl (go_6_0 _ _) ?_
      refine E_callV (Y' := Y_X10_goesOn) (as := []) (st := []) dX6_readRun_25 lk_RX6_32 m_X10_goesOn (by decide) (Nat.le_refl _) (Nat.le_refl _) rfl rfl (Nat.le_of_ble_eq_true rfl) (s_X10_goesOn h) (fun r0 B0 σ_2 h => ?_)
      obtain ⟨r_3, rfl, rfl, h⟩ := h
      refine E_if_eq (tgt := 52) dX6_readRun_28 (by decide) (fun hc => ?_) (fun hc => ?_)
      · have h := Eq.mp (if_pos hc) h
        refine E_aload_n dX6_readRun_52 rfl rfl ?_
        refine E_getr (i := 0) dX6_readRun_53 fl_RX6_18 rfl rfl (go_6_0 _ _) ?_
        refine E_geti (i := 0) dX6_readRun_56 fl_RX6_74 rfl ?_
        exact E_iret dX6_readRun_59 rfl ⟨_, rfl, rfl, h⟩
      · have h := Eq.mp (if_neg hc) h
        refine E_aload_n dX6_readRun_31 rfl rfl ?_
        refine E_aload_n dX6_readRun_32 rfl rfl ?_
        refine E_aload_n dX6_readRun_33 rfl rfl ?_
        refine E_callV (Y' := Y_X6_readRunLine) (as := [vR 8 o1, vR 3 o2]) (st := []) dX6_readRun_34 lk_RX6_215 m_X6_readRunLine (by decide) (Nat.le_refl _) (Nat.le_refl _) rfl rfl (Nat.le_of_ble_eq_true rfl) (s_X6_readRunLine h) (fun r0 B0 σ_4 h => ?_)
        obtain ⟨rfl, rfl, h⟩ := h
        refine E_aload_n dX6_readRun_37 rfl rfl ?_
        refine E_getr (i := 0) dX6_readRun_38 fl_RX6_18 rfl rfl (go_6_0 _ _) ?_
        refine E_bp dX6_readRun_41 rfl ?_
        refine E_callV (Y' := Y_X10_takeSign) (as := [vI 59]) (st := []) dX6_readRun_43 lk_RX6_70 m_X10_takeSign (by decide) (Nat.le_refl _) (Nat.le_refl _) rfl rfl (Nat.le_of_ble_eq_true rfl) (s_X10_takeSign h) (fun r0 B0 σ_5 h => ?_)
        obtain ⟨rfl, rfl, h⟩ := h
        refine E_iinc (ls' := [some (vR 6 0), some (vR 8 o1), some (vR 3 o2), some (vI (wi (x3 + 1)))]) dX6_readRun_46 rfl (by decide) rfl rfl ?_
        refine E_goto (tgt := 14) dX6_readRun_49 (by decide) ?_
        exact hR _ _ h
def P_X6_readRun  (o1 : Nat) (o2 : Nat) (σ : St) (Q : Int → St → Prop) : Prop :=
  P_X10_cut (up σ 3 o2 3 0) (fun σ_1 => P_X6_readRun_L14 o1 o2 Q FU 0 σ_1)
set_option maxRecDepth 20000 in
set_option maxHeartbeats 2000000 in
theorem s_X6_readRun   {o1 : Nat} {o2 : Nat} {σ : St} {Q : Int → St → Prop} (h : P_X6_readRun o1 o2 σ Q) : Cn Y_X6_readRun 8 0 0 ww σ [vR 6 0, vR 8 o1, vR 3 o2] (QI Q) := by
  refine Cn_of [some (vR 6 0), some (vR 8 o1), some (vR 3 o2), none] (by decide) (Nat.le_of_ble_eq_true rfl) rfl ?_
  unfold P_X6_readRun at h
  refine E_aload_n dX6_readRun_0 rfl rfl ?_
  refine E_ic dX6_readRun_1 rfl ?_
  refine E_puti dX6_readRun_2 fl_RX6_210 rfl rfl rfl ?_
  refine E_aload_n dX6_readRun_5 rfl rfl ?_
  refine E_getr (i := 0) dX6_readRun_6 fl_RX6_18 rfl rfl (go_6_0 _ _) ?_
  refine E_callV (Y' := Y_X10_cut) (as := []) (st := []) dX6_readRun_9 lk_RX6_27 m_X10_cut (by decide) (Nat.le_refl _) (Nat.le_refl _) rfl rfl (Nat.le_of_ble_eq_true rfl) (s_X10_cut h) (fun r0 B0 σ_1 h => ?_)
  obtain ⟨rfl, rfl, h⟩ := h
  refine E_ic dX6_readRun_12 rfl ?_
  refine E_istore_n (ls' := [some (vR 6 0), some (vR 8 o1), some (vR 3 o2), some (vI 0)]) dX6_readRun_13 rfl (by decide) rfl ?_
  refine e_P_X6_readRun_L14  _ _ _ h
abbrev Y_X11_shop : My := (yX11_shop, cX11_shop, 3, some .int)
theorem dX11_shop_0 : decode cX11_shop 0 = .ok (.aload_n 0, 1) := by decide +kernel
theorem dX11_shop_1 : decode cX11_shop 1 = .ok (.getfield 41, 3) := by decide +kernel
theorem dX11_shop_4 : decode cX11_shop 4 = .ok (.aload_n 0, 1) := by decide +kernel
theorem dX11_shop_5 : decode cX11_shop 5 = .ok (.getfield 23, 3) := by decide +kernel
theorem dX11_shop_8 : decode cX11_shop 8 = .ok (.invokevirtual 102, 3) := by decide +kernel
theorem dX11_shop_11 : decode cX11_shop 11 = .ok (.istore_n 1, 1) := by decide +kernel
theorem dX11_shop_12 : decode cX11_shop 12 = .ok (.iload_n 1, 1) := by decide +kernel
theorem dX11_shop_13 : decode cX11_shop 13 = .ok (.ifCond .ne 68, 3) := by decide +kernel
theorem dX11_shop_16 : decode cX11_shop 16 = .ok (.aload_n 0, 1) := by decide +kernel
theorem dX11_shop_17 : decode cX11_shop 17 = .ok (.getfield 19, 3) := by decide +kernel
theorem dX11_shop_20 : decode cX11_shop 20 = .ok (.aload_n 0, 1) := by decide +kernel
theorem dX11_shop_21 : decode cX11_shop 21 = .ok (.getfield 23, 3) := by decide +kernel
theorem dX11_shop_24 : decode cX11_shop 24 = .ok (.invokevirtual 106, 3) := by decide +kernel
theorem dX11_shop_27 : decode cX11_shop 27 = .ok (.aload_n 0, 1) := by decide +kernel
theorem dX11_shop_28 : decode cX11_shop 28 = .ok (.getfield 50, 3) := by decide +kernel
theorem dX11_shop_31 : decode cX11_shop 31 = .ok (.invokevirtual 109, 3) := by decide +kernel
theorem dX11_shop_34 : decode cX11_shop 34 = .ok (.aload_n 0, 1) := by decide +kernel
theorem dX11_shop_35 : decode cX11_shop 35 = .ok (.getfield 29, 3) := by decide +kernel
theorem dX11_shop_38 : decode cX11_shop 38 = .ok (.iconst 0, 1) := by decide +kernel
theorem dX11_shop_39 : decode cX11_shop 39 = .ok (.putfield 112, 3) := by decide +kernel
theorem dX11_shop_42 : decode cX11_shop 42 = .ok (.aload_n 0, 1) := by decide +kernel
theorem dX11_shop_43 : decode cX11_shop 43 = .ok (.getfield 67, 3) := by decide +kernel
theorem dX11_shop_46 : decode cX11_shop 46 = .ok (.iconst 0, 1) := by decide +kernel
theorem dX11_shop_47 : decode cX11_shop 47 = .ok (.putfield 115, 3) := by decide +kernel
theorem dX11_shop_50 : decode cX11_shop 50 = .ok (.aload_n 0, 1) := by decide +kernel
theorem dX11_shop_51 : decode cX11_shop 51 = .ok (.getfield 60, 3) := by decide +kernel
theorem dX11_shop_54 : decode cX11_shop 54 = .ok (.iconst 0, 1) := by decide +kernel
theorem dX11_shop_55 : decode cX11_shop 55 = .ok (.putfield 116, 3) := by decide +kernel
theorem dX11_shop_58 : decode cX11_shop 58 = .ok (.iconst 0, 1) := by decide +kernel
theorem dX11_shop_59 : decode cX11_shop 59 = .ok (.istore_n 2, 1) := by decide +kernel
theorem dX11_shop_60 : decode cX11_shop 60 = .ok (.iload_n 2, 1) := by decide +kernel
theorem dX11_shop_61 : decode cX11_shop 61 = .ok (.iconst 4, 1) := by decide +kernel
theorem dX11_shop_62 : decode cX11_shop 62 = .ok (.if_icmp .ge 19, 3) := by decide +kernel
theorem dX11_shop_65 : decode cX11_shop 65 = .ok (.aload_n 0, 1) := by decide +kernel
theorem dX11_shop_66 : decode cX11_shop 66 = .ok (.getfield 73, 3) := by decide +kernel
theorem dX11_shop_69 : decode cX11_shop 69 = .ok (.iload_n 2, 1) := by decide +kernel
theorem dX11_shop_70 : decode cX11_shop 70 = .ok (.aaload, 1) := by decide +kernel
theorem dX11_shop_71 : decode cX11_shop 71 = .ok (.iconst 0, 1) := by decide +kernel
theorem dX11_shop_72 : decode cX11_shop 72 = .ok (.putfield 117, 3) := by decide +kernel
theorem dX11_shop_75 : decode cX11_shop 75 = .ok (.iinc 2 1, 3) := by decide +kernel
theorem dX11_shop_78 : decode cX11_shop 78 = .ok (.goto (-18), 3) := by decide +kernel
theorem dX11_shop_81 : decode cX11_shop 81 = .ok (.iload_n 1, 1) := by decide +kernel
theorem dX11_shop_82 : decode cX11_shop 82 = .ok (.ireturn, 1) := by decide +kernel
theorem fl_RX11_23 : FL RX11 23 11 2 := ⟨inG (i := 476) (by decide +kernel) (by decide +kernel), by decide, by decide⟩
theorem fl_RX11_41 : FL RX11 41 11 5 := ⟨inG (i := 479) (by decide +kernel) (by decide +kernel), by decide, by decide⟩
theorem go_11_2 (σ : St) (i : Nat) : go σ 11 i 2 = (8, 1) := rfl
theorem go_11_5 (σ : St) (i : Nat) : go σ 11 i 5 = (6, 0) := rfl
theorem lk_RX11_102 : Cond.methodLink RX11 102 yX6_readShop ∈ tG := inG (i := 529) (by decide +kernel) (by decide +kernel)
theorem lk_RX11_106 : Cond.methodLink RX11 106 yX8_take ∈ tG := inG (i := 836) (by decide +kernel) (by decide +kernel)
theorem m_X6_readShop : MV Y_X6_readShop 1 6 := ⟨⟨inG (i := 532) (by decide +kernel) (by decide +kernel), inG (i := 103) (by decide +kernel) (by decide +kernel), by decide, by decide, by decide, by decide +kernel⟩, inG (i := 530) (by decide +kernel) (by decide +kernel), inG (i := 531) (by decide +kernel) (by decide +kernel), by decide⟩
theorem m_X8_take : MV Y_X8_take 1 8 := ⟨⟨inG (i := 839) (by decide +kernel) (by decide +kernel), inG (i := 100) (by decide +kernel) (by decide +kernel), by decide, by decide, by decide, by decide +kernel⟩, inG (i := 837) (by decide +kernel) (by decide +kernel), inG (i := 838) (by decide +kernel) (by decide +kernel), by decide⟩
def P_X11_shop_L60  (x1 : Int)  (Q : Int → St → Prop) : Nat → Int → St → Prop
  | 0, _, _ => False
  | n + 1, x2, σ => (if 4 ≤ x2 then Q x1 σ else 0 ≤ x2 ∧ x2 < 4 ∧ (P_X11_shop_L60 x1 Q n) (wi (x2 + 1)) (up σ 4 x2.toNat 3 0))
set_option maxRecDepth 20000 in
set_option maxHeartbeats 2000000 in
theorem e_P_X11_shop_L60  {x1 : Int}  {Q : Int → St → Prop}   : ∀ (n : Nat) (x2 : Int) (σ : St), P_X11_shop_L60 x1 Q n x2 σ → E Y_X11_shop 515 0 0 (QI Q) ww 0 0 60 [some (vR 11 0), some (vI x1), some (vI x2)] [] σ := by
  intro n
  induction n with
  | zero => intro x2 σ h; exact h.elim
  | succ n hR =>
    intro x2 σ h
    unfold P_X11_shop_L60 at h
    refine E_iload_n dX11_shop_60 rfl rfl ?_
    refine E_ic dX11_shop_61 rfl ?_
    refine E_icmp_ge (tgt := 81) dX11_shop_62 (by decide) (fun hc => ?_) (fun hc => ?_)
    · have h := Eq.mp (if_pos hc) h
      refine E_iload_n dX11_shop_81 rfl rfl ?_
      exact E_iret dX11_shop_82 rfl ⟨_, rfl, rfl, h⟩
    · have h := Eq.mp (if_neg hc) h
      refine E_aload_n dX11_shop_65 rfl rfl ?_
      refine E_getr (i := 0) dX11_shop_66 fl_RX11_73 rfl rfl (go_11_10 _ _) ?_
      refine E_iload_n dX11_shop_69 rfl rfl ?_
      obtain ⟨hg0, hg1, h⟩ := h
      refine E_aald dX11_shop_70 sh_1210 (by decide) (by decide) hg0 hg1 (wwA sh_1210 hg0 hg1) rfl ?_
      refine E_ic dX11_shop_71 rfl ?_
      refine E_putz dX11_shop_72 fl_RX11_117 rfl rfl rfl (by decide) ?_
      refine E_iinc (ls' := [some (vR 11 0), some (vI x1), some (vI (wi (x2 + 1)))]) dX11_shop_75 rfl (by decide) rfl rfl ?_
      refine E_goto (tgt := 60) dX11_shop_78 (by decide) ?_
      exact hR _ _ h
def P_X11_shop   (σ : St) (Q : Int → St → Prop) : Prop :=
  P_X6_readShop 1 σ (fun r_2 σ_1 => (if r_2 = 0 then P_X8_take 0 1 σ_1 (fun σ_3 => P_X9_open 0 σ_3 (fun σ_4 => P_X11_shop_L60 r_2 Q FU 0 (up (up (up σ_4 3 0 3 0) 7 0 3 0) 5 0 1 0))) else Q r_2 σ_1))
set_option maxRecDepth 20000 in
set_option maxHeartbeats 2000000 in
theorem s_X11_shop    {σ : St} {Q : Int → St → Prop} (h : P_X11_shop  σ Q) : Cn Y_X11_shop 515 0 0 ww σ [vR 11 0] (QI Q) := by
  refine Cn_of [some (vR 11 0), none, none] (by decide) (Nat.le_of_ble_eq_true rfl) rfl ?_
  unfold P_X11_shop at h
  refine E_aload_n dX11_shop_0 rfl rfl ?_
  refine E_getr (i := 0) dX11_shop_1 fl_RX11_41 rfl rfl (go_11_5 _ _) ?_
  refine E_aload_n dX11_shop_4 rfl rfl ?_
  refine E_getr (i := 0) dX11_shop_5 fl_RX11_23 rfl rfl (go_11_2 _ _) ?_
  refine E_callV (Y' := Y_X6_readShop) (as := [vR 8 1]) (st := []) dX11_shop_8 lk_RX11_102 m_X6_readShop (by decide) (Nat.le_refl _) (Nat.le_refl _) rfl rfl (Nat.le_of_ble_eq_true rfl) (s_X6_readShop h) (fun r0 B0 σ_1 h => ?_)
  obtain ⟨r_2, rfl, rfl, h⟩ := h
  refine E_istore_n (ls' := [some (vR 11 0), some (vI r_2), none]) dX11_shop_11 rfl (by decide) rfl ?_
  refine E_iload_n dX11_shop_12 rfl rfl ?_
  refine E_if_ne (tgt := 81) dX11_shop_13 (by decide) (fun hc => ?_) (fun hc => ?_)
  · have h := Eq.mp (if_neg hc) h
    refine E_iload_n dX11_shop_81 rfl rfl ?_
    exact E_iret dX11_shop_82 rfl ⟨_, rfl, rfl, h⟩
  · have h := Eq.mp (if_pos hc) h
    refine E_aload_n dX11_shop_16 rfl rfl ?_
    refine E_getr (i := 0) dX11_shop_17 fl_RX11_19 rfl rfl (go_11_1 _ _) ?_
    refine E_aload_n dX11_shop_20 rfl rfl ?_
    refine E_getr (i := 0) dX11_shop_21 fl_RX11_23 rfl rfl (go_11_2 _ _) ?_
    refine E_callV (Y' := Y_X8_take) (as := [vR 8 1]) (st := []) dX11_shop_24 lk_RX11_106 m_X8_take (by decide) (Nat.le_refl _) (Nat.le_refl _) rfl rfl (Nat.le_of_ble_eq_true rfl) (s_X8_take h) (fun r0 B0 σ_3 h => ?_)
    obtain ⟨rfl, rfl, h⟩ := h
    refine E_aload_n dX11_shop_27 rfl rfl ?_
    refine E_getr (i := 0) dX11_shop_28 fl_RX11_50 rfl rfl (go_11_6 _ _) ?_
    refine E_callV (Y' := Y_X9_open) (as := []) (st := []) dX11_shop_31 lk_RX11_109 m_X9_open (by decide) (Nat.le_refl _) (Nat.le_refl _) rfl rfl (Nat.le_of_ble_eq_true rfl) (s_X9_open h) (fun r0 B0 σ_4 h => ?_)
    obtain ⟨rfl, rfl, h⟩ := h
    refine E_aload_n dX11_shop_34 rfl rfl ?_
    refine E_getr (i := 0) dX11_shop_35 fl_RX11_29 rfl rfl (go_11_3 _ _) ?_
    refine E_ic dX11_shop_38 rfl ?_
    refine E_puti dX11_shop_39 fl_RX11_112 rfl rfl rfl ?_
    refine E_aload_n dX11_shop_42 rfl rfl ?_
    refine E_getr (i := 0) dX11_shop_43 fl_RX11_67 rfl rfl (go_11_9 _ _) ?_
    refine E_ic dX11_shop_46 rfl ?_
    refine E_puti dX11_shop_47 fl_RX11_115 rfl rfl rfl ?_
    refine E_aload_n dX11_shop_50 rfl rfl ?_
    refine E_getr (i := 0) dX11_shop_51 fl_RX11_60 rfl rfl (go_11_8 _ _) ?_
    refine E_ic dX11_shop_54 rfl ?_
    refine E_puti dX11_shop_55 fl_RX11_116 rfl rfl rfl ?_
    refine E_ic dX11_shop_58 rfl ?_
    refine E_istore_n (ls' := [some (vR 11 0), some (vI r_2), some (vI 0)]) dX11_shop_59 rfl (by decide) rfl ?_
    refine e_P_X11_shop_L60  _ _ _ h
abbrev Y_X11_run : My := (yX11_run, cX11_run, 2, some .int)
theorem dX11_run_0 : decode cX11_run 0 = .ok (.aload_n 0, 1) := by decide +kernel
theorem dX11_run_1 : decode cX11_run 1 = .ok (.getfield 41, 3) := by decide +kernel
theorem dX11_run_4 : decode cX11_run 4 = .ok (.aload_n 0, 1) := by decide +kernel
theorem dX11_run_5 : decode cX11_run 5 = .ok (.getfield 19, 3) := by decide +kernel
theorem dX11_run_8 : decode cX11_run 8 = .ok (.aload_n 0, 1) := by decide +kernel
theorem dX11_run_9 : decode cX11_run 9 = .ok (.getfield 33, 3) := by decide +kernel
theorem dX11_run_12 : decode cX11_run 12 = .ok (.invokevirtual 121, 3) := by decide +kernel
theorem dX11_run_15 : decode cX11_run 15 = .ok (.istore_n 1, 1) := by decide +kernel
theorem dX11_run_16 : decode cX11_run 16 = .ok (.iload_n 1, 1) := by decide +kernel
theorem dX11_run_17 : decode cX11_run 17 = .ok (.ifCond .ne 14, 3) := by decide +kernel
theorem dX11_run_20 : decode cX11_run 20 = .ok (.aload_n 0, 1) := by decide +kernel
theorem dX11_run_21 : decode cX11_run 21 = .ok (.getfield 29, 3) := by decide +kernel
theorem dX11_run_24 : decode cX11_run 24 = .ok (.aload_n 0, 1) := by decide +kernel
theorem dX11_run_25 : decode cX11_run 25 = .ok (.getfield 33, 3) := by decide +kernel
theorem dX11_run_28 : decode cX11_run 28 = .ok (.invokevirtual 125, 3) := by decide +kernel
theorem dX11_run_31 : decode cX11_run 31 = .ok (.iload_n 1, 1) := by decide +kernel
theorem dX11_run_32 : decode cX11_run 32 = .ok (.ireturn, 1) := by decide +kernel
theorem fl_RX11_33 : FL RX11 33 11 4 := ⟨inG (i := 478) (by decide +kernel) (by decide +kernel), by decide, by decide⟩
theorem go_11_4 (σ : St) (i : Nat) : go σ 11 i 4 = (3, 1) := rfl
theorem lk_RX11_121 : Cond.methodLink RX11 121 yX6_readRun ∈ tG := inG (i := 857) (by decide +kernel) (by decide +kernel)
theorem lk_RX11_125 : Cond.methodLink RX11 125 yX3_take ∈ tG := inG (i := 878) (by decide +kernel) (by decide +kernel)
theorem m_X6_readRun : MV Y_X6_readRun 2 6 := ⟨⟨inG (i := 860) (by decide +kernel) (by decide +kernel), inG (i := 103) (by decide +kernel) (by decide +kernel), by decide, by decide, by decide, by decide +kernel⟩, inG (i := 858) (by decide +kernel) (by decide +kernel), inG (i := 859) (by decide +kernel) (by decide +kernel), by decide⟩
def P_X11_run   (σ : St) (Q : Int → St → Prop) : Prop :=
  P_X6_readRun 0 1 σ (fun r_2 σ_1 => (if r_2 = 0 then P_X3_take 0 1 σ_1 (fun σ_3 => Q r_2 σ_3) else Q r_2 σ_1))
set_option maxRecDepth 20000 in
set_option maxHeartbeats 2000000 in
theorem s_X11_run    {σ : St} {Q : Int → St → Prop} (h : P_X11_run  σ Q) : Cn Y_X11_run 9 0 0 ww σ [vR 11 0] (QI Q) := by
  refine Cn_of [some (vR 11 0), none] (by decide) (Nat.le_of_ble_eq_true rfl) rfl ?_
  unfold P_X11_run at h
  refine E_aload_n dX11_run_0 rfl rfl ?_
  refine E_getr (i := 0) dX11_run_1 fl_RX11_41 rfl rfl (go_11_5 _ _) ?_
  refine E_aload_n dX11_run_4 rfl rfl ?_
  refine E_getr (i := 0) dX11_run_5 fl_RX11_19 rfl rfl (go_11_1 _ _) ?_
  refine E_aload_n dX11_run_8 rfl rfl ?_
  refine E_getr (i := 0) dX11_run_9 fl_RX11_33 rfl rfl (go_11_4 _ _) ?_
  refine E_callV (Y' := Y_X6_readRun) (as := [vR 8 0, vR 3 1]) (st := []) dX11_run_12 lk_RX11_121 m_X6_readRun (by decide) (Nat.le_refl _) (Nat.le_refl _) rfl rfl (Nat.le_of_ble_eq_true rfl) (s_X6_readRun h) (fun r0 B0 σ_1 h => ?_)
  obtain ⟨r_2, rfl, rfl, h⟩ := h
  refine E_istore_n (ls' := [some (vR 11 0), some (vI r_2)]) dX11_run_15 rfl (by decide) rfl ?_
  refine E_iload_n dX11_run_16 rfl rfl ?_
  refine E_if_ne (tgt := 31) dX11_run_17 (by decide) (fun hc => ?_) (fun hc => ?_)
  · have h := Eq.mp (if_neg hc) h
    refine E_iload_n dX11_run_31 rfl rfl ?_
    exact E_iret dX11_run_32 rfl ⟨_, rfl, rfl, h⟩
  · have h := Eq.mp (if_pos hc) h
    refine E_aload_n dX11_run_20 rfl rfl ?_
    refine E_getr (i := 0) dX11_run_21 fl_RX11_29 rfl rfl (go_11_3 _ _) ?_
    refine E_aload_n dX11_run_24 rfl rfl ?_
    refine E_getr (i := 0) dX11_run_25 fl_RX11_33 rfl rfl (go_11_4 _ _) ?_
    refine E_callV (Y' := Y_X3_take) (as := [vR 3 1]) (st := []) dX11_run_28 lk_RX11_125 m_X3_take (by decide) (Nat.le_refl _) (Nat.le_refl _) rfl rfl (Nat.le_of_ble_eq_true rfl) (s_X3_take h) (fun r0 B0 σ_3 h => ?_)
    obtain ⟨rfl, rfl, h⟩ := h
    refine E_iload_n dX11_run_31 rfl rfl ?_
    exact E_iret dX11_run_32 rfl ⟨_, rfl, rfl, h⟩
