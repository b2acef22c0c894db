abbrev Y_X12_fresh0 : My := (yX12_fresh0, cX12_fresh0, 2, none)
theorem dX12_fresh0_0 : decode cX12_fresh0 0 = .ok (.iconst 0, 1) := by decide +kernel
theorem dX12_fresh0_1 : decode cX12_fresh0 1 = .ok (.istore_n 1, 1) := by decide +kernel
theorem dX12_fresh0_2 : decode cX12_fresh0 2 = .ok (.iload_n 1, 1) := by decide +kernel
theorem dX12_fresh0_3 : decode cX12_fresh0 3 = .ok (.bipush 46, 2) := by decide +kernel
theorem dX12_fresh0_5 : decode cX12_fresh0 5 = .ok (.if_icmp .ge 16, 3) := by decide +kernel
theorem dX12_fresh0_8 : decode cX12_fresh0 8 = .ok (.aload_n 0, 1) := by decide +kernel
theorem dX12_fresh0_9 : decode cX12_fresh0 9 = .ok (.getfield 111, 3) := by decide +kernel
theorem dX12_fresh0_12 : decode cX12_fresh0 12 = .ok (.iload_n 1, 1) := by decide +kernel
theorem dX12_fresh0_13 : decode cX12_fresh0 13 = .ok (.iconst 0, 1) := by decide +kernel
theorem dX12_fresh0_14 : decode cX12_fresh0 14 = .ok (.iastore, 1) := by decide +kernel
theorem dX12_fresh0_15 : decode cX12_fresh0 15 = .ok (.iinc 1 1, 3) := by decide +kernel
theorem dX12_fresh0_18 : decode cX12_fresh0 18 = .ok (.goto (-16), 3) := by decide +kernel
theorem dX12_fresh0_21 : decode cX12_fresh0 21 = .ok (.iconst 0, 1) := by decide +kernel
theorem dX12_fresh0_22 : decode cX12_fresh0 22 = .ok (.istore_n 1, 1) := by decide +kernel
theorem dX12_fresh0_23 : decode cX12_fresh0 23 = .ok (.iload_n 1, 1) := by decide +kernel
theorem dX12_fresh0_24 : decode cX12_fresh0 24 = .ok (.aload_n 0, 1) := by decide +kernel
theorem dX12_fresh0_25 : decode cX12_fresh0 25 = .ok (.getfield 13, 3) := by decide +kernel
theorem dX12_fresh0_28 : decode cX12_fresh0 28 = .ok (.iconst 0, 1) := by decide +kernel
theorem dX12_fresh0_29 : decode cX12_fresh0 29 = .ok (.iaload, 1) := by decide +kernel
theorem dX12_fresh0_30 : decode cX12_fresh0 30 = .ok (.if_icmp .ge 24, 3) := by decide +kernel
theorem dX12_fresh0_33 : decode cX12_fresh0 33 = .ok (.aload_n 0, 1) := by decide +kernel
theorem dX12_fresh0_34 : decode cX12_fresh0 34 = .ok (.getfield 111, 3) := by decide +kernel
theorem dX12_fresh0_37 : decode cX12_fresh0 37 = .ok (.bipush 10, 2) := by decide +kernel
theorem dX12_fresh0_39 : decode cX12_fresh0 39 = .ok (.iload_n 1, 1) := by decide +kernel
theorem dX12_fresh0_40 : decode cX12_fresh0 40 = .ok (.iadd, 1) := by decide +kernel
theorem dX12_fresh0_41 : decode cX12_fresh0 41 = .ok (.aload_n 0, 1) := by decide +kernel
theorem dX12_fresh0_42 : decode cX12_fresh0 42 = .ok (.getfield 26, 3) := by decide +kernel
theorem dX12_fresh0_45 : decode cX12_fresh0 45 = .ok (.iload_n 1, 1) := by decide +kernel
theorem dX12_fresh0_46 : decode cX12_fresh0 46 = .ok (.iaload, 1) := by decide +kernel
theorem dX12_fresh0_47 : decode cX12_fresh0 47 = .ok (.iastore, 1) := by decide +kernel
theorem dX12_fresh0_48 : decode cX12_fresh0 48 = .ok (.iinc 1 1, 3) := by decide +kernel
theorem dX12_fresh0_51 : decode cX12_fresh0 51 = .ok (.goto (-28), 3) := by decide +kernel
theorem dX12_fresh0_54 : decode cX12_fresh0 54 = .ok (.iconst 0, 1) := by decide +kernel
theorem dX12_fresh0_55 : decode cX12_fresh0 55 = .ok (.istore_n 1, 1) := by decide +kernel
theorem dX12_fresh0_56 : decode cX12_fresh0 56 = .ok (.iload_n 1, 1) := by decide +kernel
theorem dX12_fresh0_57 : decode cX12_fresh0 57 = .ok (.aload_n 0, 1) := by decide +kernel
theorem dX12_fresh0_58 : decode cX12_fresh0 58 = .ok (.getfield 13, 3) := by decide +kernel
theorem dX12_fresh0_61 : decode cX12_fresh0 61 = .ok (.iconst 1, 1) := by decide +kernel
theorem dX12_fresh0_62 : decode cX12_fresh0 62 = .ok (.iaload, 1) := by decide +kernel
theorem dX12_fresh0_63 : decode cX12_fresh0 63 = .ok (.if_icmp .ge 39, 3) := by decide +kernel
theorem dX12_fresh0_66 : decode cX12_fresh0 66 = .ok (.aload_n 0, 1) := by decide +kernel
theorem dX12_fresh0_67 : decode cX12_fresh0 67 = .ok (.getfield 111, 3) := by decide +kernel
theorem dX12_fresh0_70 : decode cX12_fresh0 70 = .ok (.bipush 16, 2) := by decide +kernel
theorem dX12_fresh0_72 : decode cX12_fresh0 72 = .ok (.iload_n 1, 1) := by decide +kernel
theorem dX12_fresh0_73 : decode cX12_fresh0 73 = .ok (.iadd, 1) := by decide +kernel
theorem dX12_fresh0_74 : decode cX12_fresh0 74 = .ok (.aload_n 0, 1) := by decide +kernel
theorem dX12_fresh0_75 : decode cX12_fresh0 75 = .ok (.getfield 32, 3) := by decide +kernel
theorem dX12_fresh0_78 : decode cX12_fresh0 78 = .ok (.iload_n 1, 1) := by decide +kernel
theorem dX12_fresh0_79 : decode cX12_fresh0 79 = .ok (.iaload, 1) := by decide +kernel
theorem dX12_fresh0_80 : decode cX12_fresh0 80 = .ok (.iastore, 1) := by decide +kernel
theorem dX12_fresh0_81 : decode cX12_fresh0 81 = .ok (.aload_n 0, 1) := by decide +kernel
theorem dX12_fresh0_82 : decode cX12_fresh0 82 = .ok (.getfield 111, 3) := by decide +kernel
theorem dX12_fresh0_85 : decode cX12_fresh0 85 = .ok (.bipush 28, 2) := by decide +kernel
theorem dX12_fresh0_87 : decode cX12_fresh0 87 = .ok (.iload_n 1, 1) := by decide +kernel
theorem dX12_fresh0_88 : decode cX12_fresh0 88 = .ok (.iadd, 1) := by decide +kernel
theorem dX12_fresh0_89 : decode cX12_fresh0 89 = .ok (.aload_n 0, 1) := by decide +kernel
theorem dX12_fresh0_90 : decode cX12_fresh0 90 = .ok (.getfield 35, 3) := by decide +kernel
theorem dX12_fresh0_93 : decode cX12_fresh0 93 = .ok (.iload_n 1, 1) := by decide +kernel
theorem dX12_fresh0_94 : decode cX12_fresh0 94 = .ok (.iaload, 1) := by decide +kernel
theorem dX12_fresh0_95 : decode cX12_fresh0 95 = .ok (.iastore, 1) := by decide +kernel
theorem dX12_fresh0_96 : decode cX12_fresh0 96 = .ok (.iinc 1 1, 3) := by decide +kernel
theorem dX12_fresh0_99 : decode cX12_fresh0 99 = .ok (.goto (-43), 3) := by decide +kernel
theorem dX12_fresh0_102 : decode cX12_fresh0 102 = .ok (.return_, 1) := by decide +kernel
theorem fl_RX12_111 : FL RX12 111 12 46 := ⟨inG (i := 1446) (by decide +kernel) (by decide +kernel), by decide, by decide⟩
theorem go_12_46 (σ : St) (i : Nat) : go σ 12 i 46 = (1346, i) := rfl
theorem sh_1346 : shp 1346 = (0, 46) := rfl
def P_X12_fresh0_L2   (K : St → Prop) (Q : St → Prop) : Nat → Int → St → Prop
  | 0, _, _ => False
  | n + 1, x1, σ => (if 46 ≤ x1 then K σ else 0 ≤ x1 ∧ x1 < 46 ∧ (P_X12_fresh0_L2 K Q n) (wi (x1 + 1)) (up σ 1346 0 x1 0))
set_option maxRecDepth 20000 in
set_option maxHeartbeats 2000000 in
theorem e_P_X12_fresh0_L2   {K : St → Prop} {Q : St → Prop}  (hK : ∀ σ, K σ → E Y_X12_fresh0 0 0 0 (QV Q) ww 0 0 21 [some (vR 12 0), none] [] σ) : ∀ (n : Nat) (x1 : Int) (σ : St), P_X12_fresh0_L2 K Q n x1 σ → E Y_X12_fresh0 0 0 0 (QV Q) ww 0 0 2 [some (vR 12 0), some (vI x1)] [] σ := by
  intro n
  induction n with
  | zero => intro x1 σ h; exact h.elim
  | succ n hR =>
    intro x1 σ h
    unfold P_X12_fresh0_L2 at h
    refine E_iload_n dX12_fresh0_2 rfl rfl ?_
    refine E_bp dX12_fresh0_3 rfl ?_
    refine E_icmp_ge (tgt := 21) dX12_fresh0_5 (by decide) (fun hc => ?_) (fun hc => ?_)
    · have h := Eq.mp (if_pos hc) h
      refine E_wk2 [some (vR 12 0), none] ⟨rfl, trivial⟩ ?_
      exact hK _ h
    · have h := Eq.mp (if_neg hc) h
      refine E_aload_n dX12_fresh0_8 rfl rfl ?_
      refine E_getr (i := 0) dX12_fresh0_9 fl_RX12_111 rfl rfl (go_12_46 _ _) ?_
      refine E_iload_n dX12_fresh0_12 rfl rfl ?_
      refine E_ic dX12_fresh0_13 rfl ?_
      obtain ⟨hg0, hg1, h⟩ := h
      refine E_iast dX12_fresh0_14 sh_1346 hg0 hg1 ?_
      refine E_iinc (ls' := [some (vR 12 0), some (vI (wi (x1 + 1)))]) dX12_fresh0_15 rfl (by decide) rfl rfl ?_
      refine E_goto (tgt := 2) dX12_fresh0_18 (by decide) ?_
      exact hR _ _ h
def P_X12_fresh0_L23   (K : St → Prop) (Q : St → Prop) : Nat → Int → St → Prop
  | 0, _, _ => False
  | n + 1, x1, σ => (if (σ 1310 0 0) ≤ x1 then K σ else 0 ≤ x1 ∧ x1 < 12 ∧ 0 ≤ wi (10 + x1) ∧ wi (10 + x1) < 46 ∧ (P_X12_fresh0_L23 K Q n) (wi (x1 + 1)) (up σ 1346 0 (wi (10 + x1)) (σ 1314 0 x1)))
set_option maxRecDepth 20000 in
set_option maxHeartbeats 2000000 in
theorem e_P_X12_fresh0_L23   {K : St → Prop} {Q : St → Prop}  (hK : ∀ σ, K σ → E Y_X12_fresh0 0 0 0 (QV Q) ww 0 0 54 [some (vR 12 0), none] [] σ) : ∀ (n : Nat) (x1 : Int) (σ : St), P_X12_fresh0_L23 K Q n x1 σ → E Y_X12_fresh0 0 0 0 (QV Q) ww 0 0 23 [some (vR 12 0), some (vI x1)] [] σ := by
  intro n
  induction n with
  | zero => intro x1 σ h; exact h.elim
  | succ n hR =>
    intro x1 σ h
    unfold P_X12_fresh0_L23 at h
    refine E_iload_n dX12_fresh0_23 rfl rfl ?_
    refine E_aload_n dX12_fresh0_24 rfl rfl ?_
    refine E_getr (i := 0) dX12_fresh0_25 fl_RX12_13 rfl rfl (go_12_10 _ _) ?_
    refine E_ic dX12_fresh0_28 rfl ?_
    refine E_iald dX12_fresh0_29 sh_1310 (by decide) (by decide) ?_
    refine E_icmp_ge (tgt := 54) dX12_fresh0_30 (by decide) (fun hc => ?_) (fun hc => ?_)
    · have h := Eq.mp (if_pos hc) h
      refine E_wk2 [some (vR 12 0), none] ⟨rfl, trivial⟩ ?_
      exact hK _ h
    · have h := Eq.mp (if_neg hc) h
      refine E_aload_n dX12_fresh0_33 rfl rfl ?_
      refine E_getr (i := 0) dX12_fresh0_34 fl_RX12_111 rfl rfl (go_12_46 _ _) ?_
      refine E_bp dX12_fresh0_37 rfl ?_
      refine E_iload_n dX12_fresh0_39 rfl rfl ?_
      refine E_iadd dX12_fresh0_40 ?_
      refine E_aload_n dX12_fresh0_41 rfl rfl ?_
      refine E_getr (i := 0) dX12_fresh0_42 fl_RX12_26 rfl rfl (go_12_14 _ _) ?_
      refine E_iload_n dX12_fresh0_45 rfl rfl ?_
      obtain ⟨hg0, hg1, h⟩ := h
      refine E_iald dX12_fresh0_46 sh_1314 hg0 hg1 ?_
      obtain ⟨hg0, hg1, h⟩ := h
      refine E_iast dX12_fresh0_47 sh_1346 hg0 hg1 ?_
      refine E_iinc (ls' := [some (vR 12 0), some (vI (wi (x1 + 1)))]) dX12_fresh0_48 rfl (by decide) rfl rfl ?_
      refine E_goto (tgt := 23) dX12_fresh0_51 (by decide) ?_
      exact hR _ _ h
def P_X12_fresh0_L56    (Q : St → Prop) : Nat → Int → St → Prop
  | 0, _, _ => False
  | n + 1, x1, σ => (if (σ 1310 0 1) ≤ x1 then Q σ else 0 ≤ x1 ∧ x1 < 12 ∧ 0 ≤ wi (16 + x1) ∧ wi (16 + x1) < 46 ∧ 0 ≤ x1 ∧ x1 < 12 ∧ 0 ≤ wi (28 + x1) ∧ wi (28 + x1) < 46 ∧ (P_X12_fresh0_L56 Q n) (wi (x1 + 1)) (up (up σ 1346 0 (wi (16 + x1)) (σ 1316 0 x1)) 1346 0 (wi (28 + x1)) ((up σ 1346 0 (wi (16 + x1)) (σ 1316 0 x1)) 1317 0 x1)))
set_option maxRecDepth 20000 in
set_option maxHeartbeats 2000000 in
theorem e_P_X12_fresh0_L56    {Q : St → Prop}   : ∀ (n : Nat) (x1 : Int) (σ : St), P_X12_fresh0_L56 Q n x1 σ → E Y_X12_fresh0 0 0 0 (QV Q) ww 0 0 56 [some (vR 12 0), some (vI x1)] [] σ := by
  intro n
  induction n with
  | zero => intro x1 σ h; exact h.elim
  | succ n hR =>
    intro x1 σ h
    unfold P_X12_fresh0_L56 at h
    refine E_iload_n dX12_fresh0_56 rfl rfl ?_
    refine E_aload_n dX12_fresh0_57 rfl rfl ?_
    refine E_getr (i := 0) dX12_fresh0_58 fl_RX12_13 rfl rfl (go_12_10 _ _) ?_
    refine E_ic dX12_fresh0_61 rfl ?_
    refine E_iald dX12_fresh0_62 sh_1310 (by decide) (by decide) ?_
    refine E_icmp_ge (tgt := 102) dX12_fresh0_63 (by decide) (fun hc => ?_) (fun hc => ?_)
    · have h := Eq.mp (if_pos hc) h
      exact E_vret dX12_fresh0_102 rfl ⟨rfl, rfl, h⟩
    · have h := Eq.mp (if_neg hc) h
      refine E_aload_n dX12_fresh0_66 rfl rfl ?_
      refine E_getr (i := 0) dX12_fresh0_67 fl_RX12_111 rfl rfl (go_12_46 _ _) ?_
      refine E_bp dX12_fresh0_70 rfl ?_
      refine E_iload_n dX12_fresh0_72 rfl rfl ?_
      refine E_iadd dX12_fresh0_73 ?_
      refine E_aload_n dX12_fresh0_74 rfl rfl ?_
      refine E_getr (i := 0) dX12_fresh0_75 fl_RX12_32 rfl rfl (go_12_16 _ _) ?_
      refine E_iload_n dX12_fresh0_78 rfl rfl ?_
      obtain ⟨hg0, hg1, h⟩ := h
      refine E_iald dX12_fresh0_79 sh_1316 hg0 hg1 ?_
      obtain ⟨hg0, hg1, h⟩ := h
      refine E_iast dX12_fresh0_80 sh_1346 hg0 hg1 ?_
      refine E_aload_n dX12_fresh0_81 rfl rfl ?_
      refine E_getr (i := 0) dX12_fresh0_82 fl_RX12_111 rfl rfl (go_12_46 _ _) ?_
      refine E_bp dX12_fresh0_85 rfl ?_
      refine E_iload_n dX12_fresh0_87 rfl rfl ?_
      refine E_iadd dX12_fresh0_88 ?_
      refine E_aload_n dX12_fresh0_89 rfl rfl ?_
      refine E_getr (i := 0) dX12_fresh0_90 fl_RX12_35 rfl rfl (go_12_17 _ _) ?_
      refine E_iload_n dX12_fresh0_93 rfl rfl ?_
      obtain ⟨hg0, hg1, h⟩ := h
      refine E_iald dX12_fresh0_94 sh_1317 hg0 hg1 ?_
      obtain ⟨hg0, hg1, h⟩ := h
      refine E_iast dX12_fresh0_95 sh_1346 hg0 hg1 ?_
      refine E_iinc (ls' := [some (vR 12 0), some (vI (wi (x1 + 1)))]) dX12_fresh0_96 rfl (by decide) rfl rfl ?_
      refine E_goto (tgt := 56) dX12_fresh0_99 (by decide) ?_
      exact hR _ _ h
def P_X12_fresh0   (σ : St) (Q : St → Prop) : Prop :=
  P_X12_fresh0_L2 (fun σ_1 => P_X12_fresh0_L23 (fun σ_2 => P_X12_fresh0_L56 Q FU 0 σ_2) Q FU 0 σ_1) Q FU 0 σ
set_option maxRecDepth 20000 in
set_option maxHeartbeats 2000000 in
theorem s_X12_fresh0    {σ : St} {Q : St → Prop} (h : P_X12_fresh0  σ Q) : Cn Y_X12_fresh0 0 0 0 ww σ [vR 12 0] (QV Q) := by
  refine Cn_of [some (vR 12 0), none] (by decide) (Nat.le_of_ble_eq_true rfl) rfl ?_
  unfold P_X12_fresh0 at h
  refine E_ic dX12_fresh0_0 rfl ?_
  refine E_istore_n (ls' := [some (vR 12 0), some (vI 0)]) dX12_fresh0_1 rfl (by decide) rfl ?_
  refine e_P_X12_fresh0_L2 ?_ _ _ _ h
  · intro σ_1 h
    refine E_ic dX12_fresh0_21 rfl ?_
    refine E_istore_n (ls' := [some (vR 12 0), some (vI 0)]) dX12_fresh0_22 rfl (by decide) rfl ?_
    refine e_P_X12_fresh0_L23 ?_ _ _ _ h
    · intro σ_2 h
      refine E_ic dX12_fresh0_54 rfl ?_
      refine E_istore_n (ls' := [some (vR 12 0), some (vI 0)]) dX12_fresh0_55 rfl (by decide) rfl ?_
      refine e_P_X12_fresh0_L56  _ _ _ h
abbrev Y_X12_laysRail : My := (yX12_laysRail, cX12_laysRail, 4, none)
theorem dX12_laysRail_0 : decode cX12_laysRail 0 = .ok (.iconst 0, 1) := by decide +kernel
theorem dX12_laysRail_1 : decode cX12_laysRail 1 = .ok (.istore_n 1, 1) := by decide +kernel
theorem dX12_laysRail_2 : decode cX12_laysRail 2 = .ok (.iload_n 1, 1) := by decide +kernel
theorem dX12_laysRail_3 : decode cX12_laysRail 3 = .ok (.aload_n 0, 1) := by decide +kernel
theorem dX12_laysRail_4 : decode cX12_laysRail 4 = .ok (.getfield 13, 3) := by decide +kernel
theorem dX12_laysRail_7 : decode cX12_laysRail 7 = .ok (.iconst 0, 1) := by decide +kernel
theorem dX12_laysRail_8 : decode cX12_laysRail 8 = .ok (.iaload, 1) := by decide +kernel
theorem dX12_laysRail_9 : decode cX12_laysRail 9 = .ok (.if_icmp .ge 59, 3) := by decide +kernel
theorem dX12_laysRail_12 : decode cX12_laysRail 12 = .ok (.iconst 0, 1) := by decide +kernel
theorem dX12_laysRail_13 : decode cX12_laysRail 13 = .ok (.istore_n 2, 1) := by decide +kernel
theorem dX12_laysRail_14 : decode cX12_laysRail 14 = .ok (.iconst 0, 1) := by decide +kernel
theorem dX12_laysRail_15 : decode cX12_laysRail 15 = .ok (.istore_n 3, 1) := by decide +kernel
theorem dX12_laysRail_16 : decode cX12_laysRail 16 = .ok (.iload_n 3, 1) := by decide +kernel
theorem dX12_laysRail_17 : decode cX12_laysRail 17 = .ok (.aload_n 0, 1) := by decide +kernel
theorem dX12_laysRail_18 : decode cX12_laysRail 18 = .ok (.getfield 13, 3) := by decide +kernel
theorem dX12_laysRail_21 : decode cX12_laysRail 21 = .ok (.iconst 0, 1) := by decide +kernel
theorem dX12_laysRail_22 : decode cX12_laysRail 22 = .ok (.iaload, 1) := by decide +kernel
theorem dX12_laysRail_23 : decode cX12_laysRail 23 = .ok (.if_icmp .ge 32, 3) := by decide +kernel
theorem dX12_laysRail_26 : decode cX12_laysRail 26 = .ok (.iload_n 2, 1) := by decide +kernel
theorem dX12_laysRail_27 : decode cX12_laysRail 27 = .ok (.aload_n 0, 1) := by decide +kernel
theorem dX12_laysRail_28 : decode cX12_laysRail 28 = .ok (.getfield 23, 3) := by decide +kernel
theorem dX12_laysRail_31 : decode cX12_laysRail 31 = .ok (.iload_n 3, 1) := by decide +kernel
theorem dX12_laysRail_32 : decode cX12_laysRail 32 = .ok (.iaload, 1) := by decide +kernel
theorem dX12_laysRail_33 : decode cX12_laysRail 33 = .ok (.aload_n 0, 1) := by decide +kernel
theorem dX12_laysRail_34 : decode cX12_laysRail 34 = .ok (.getfield 23, 3) := by decide +kernel
theorem dX12_laysRail_37 : decode cX12_laysRail 37 = .ok (.iload_n 1, 1) := by decide +kernel
theorem dX12_laysRail_38 : decode cX12_laysRail 38 = .ok (.iaload, 1) := by decide +kernel
theorem dX12_laysRail_39 : decode cX12_laysRail 39 = .ok (.if_icmp .ge 7, 3) := by decide +kernel
theorem dX12_laysRail_42 : decode cX12_laysRail 42 = .ok (.iconst 1, 1) := by decide +kernel
theorem dX12_laysRail_43 : decode cX12_laysRail 43 = .ok (.goto 4, 3) := by decide +kernel
theorem dX12_laysRail_46 : decode cX12_laysRail 46 = .ok (.iconst 0, 1) := by decide +kernel
theorem dX12_laysRail_47 : decode cX12_laysRail 47 = .ok (.iadd, 1) := by decide +kernel
theorem dX12_laysRail_48 : decode cX12_laysRail 48 = .ok (.istore_n 2, 1) := by decide +kernel
theorem dX12_laysRail_49 : decode cX12_laysRail 49 = .ok (.iinc 3 1, 3) := by decide +kernel
theorem dX12_laysRail_52 : decode cX12_laysRail 52 = .ok (.goto (-36), 3) := by decide +kernel
theorem dX12_laysRail_55 : decode cX12_laysRail 55 = .ok (.aload_n 0, 1) := by decide +kernel
theorem dX12_laysRail_56 : decode cX12_laysRail 56 = .ok (.getfield 129, 3) := by decide +kernel
theorem dX12_laysRail_59 : decode cX12_laysRail 59 = .ok (.iload_n 2, 1) := by decide +kernel
theorem dX12_laysRail_60 : decode cX12_laysRail 60 = .ok (.iload_n 1, 1) := by decide +kernel
theorem dX12_laysRail_61 : decode cX12_laysRail 61 = .ok (.iastore, 1) := by decide +kernel
theorem dX12_laysRail_62 : decode cX12_laysRail 62 = .ok (.iinc 1 1, 3) := by decide +kernel
theorem dX12_laysRail_65 : decode cX12_laysRail 65 = .ok (.goto (-63), 3) := by decide +kernel
theorem dX12_laysRail_68 : decode cX12_laysRail 68 = .ok (.return_, 1) := by decide +kernel
theorem fl_RX12_129 : FL RX12 129 12 53 := ⟨inG (i := 1453) (by decide +kernel) (by decide +kernel), by decide, by decide⟩
theorem go_12_53 (σ : St) (i : Nat) : go σ 12 i 53 = (1353, i) := rfl
theorem sh_1353 : shp 1353 = (0, 6) := rfl
def P_X12_laysRail_L16  (x1 : Int) (K : Int → St → Prop) (Q : St → Prop) : Nat → Int → Int → St → Prop
  | 0, _, _, _ => False
  | n + 1, x2, x3, σ => (if (σ 1310 0 0) ≤ x3 then K x2 σ else 0 ≤ x3 ∧ x3 < 12 ∧ 0 ≤ x1 ∧ x1 < 12 ∧ (if (σ 1313 0 x1) ≤ (σ 1313 0 x3) then (P_X12_laysRail_L16 x1 K Q n) (wi (x2 + 0)) (wi (x3 + 1)) σ else (P_X12_laysRail_L16 x1 K Q n) (wi (x2 + 1)) (wi (x3 + 1)) σ))
set_option maxRecDepth 20000 in
set_option maxHeartbeats 2000000 in
theorem e_P_X12_laysRail_L16  {x1 : Int} {K : Int → St → Prop} {Q : St → Prop}  (hK : ∀ x2 σ, K x2 σ → E Y_X12_laysRail 0 0 0 (QV Q) ww 0 0 55 [some (vR 12 0), some (vI x1), some (vI x2), none] [] σ) : ∀ (n : Nat) (x2 : Int) (x3 : Int) (σ : St), P_X12_laysRail_L16 x1 K Q n x2 x3 σ → E Y_X12_laysRail 0 0 0 (QV Q) ww 0 0 16 [some (vR 12 0), some (vI x1), some (vI x2), some (vI x3)] [] σ := by
  intro n
  induction n with
  | zero => intro x2 x3 σ h; exact h.elim
  | succ n hR =>
    intro x2 x3 σ h
    unfold P_X12_laysRail_L16 at h
    refine E_iload_n dX12_laysRail_16 rfl rfl ?_
    refine E_aload_n dX12_laysRail_17 rfl rfl ?_
    refine E_getr (i := 0) dX12_laysRail_18 fl_RX12_13 rfl rfl (go_12_10 _ _) ?_
    refine E_ic dX12_laysRail_21 rfl ?_
    refine E_iald dX12_laysRail_22 sh_1310 (by decide) (by decide) ?_
    refine E_icmp_ge (tgt := 55) dX12_laysRail_23 (by decide) (fun hc => ?_) (fun hc => ?_)
    · have h := Eq.mp (if_pos hc) h
      refine E_wk2 [some (vR 12 0), some (vI x1), some (vI x2), none] ⟨rfl, ⟨rfl, ⟨rfl, trivial⟩⟩⟩ ?_
      exact hK _ _ h
    · have h := Eq.mp (if_neg hc) h
      refine E_iload_n dX12_laysRail_26 rfl rfl ?_
      refine E_aload_n dX12_laysRail_27 rfl rfl ?_
      refine E_getr (i := 0) dX12_laysRail_28 fl_RX12_23 rfl rfl (go_12_13 _ _) ?_
      refine E_iload_n dX12_laysRail_31 rfl rfl ?_
      obtain ⟨hg0, hg1, h⟩ := h
      refine E_iald dX12_laysRail_32 sh_1313 hg0 hg1 ?_
      refine E_aload_n dX12_laysRail_33 rfl rfl ?_
      refine E_getr (i := 0) dX12_laysRail_34 fl_RX12_23 rfl rfl (go_12_13 _ _) ?_
      refine E_iload_n dX12_laysRail_37 rfl rfl ?_
      obtain ⟨hg0, hg1, h⟩ := h
      refine E_iald dX12_laysRail_38 sh_1313 hg0 hg1 ?_
      refine E_icmp_ge (tgt := 46) dX12_laysRail_39 (by decide) (fun hc => ?_) (fun hc => ?_)
      · have h := Eq.mp (if_pos hc) h
        refine E_ic dX12_laysRail_46 rfl ?_
        refine E_iadd dX12_laysRail_47 ?_
        refine E_istore_n (ls' := [some (vR 12 0), some (vI x1), some (vI (wi (x2 + 0))), some (vI x3)]) dX12_laysRail_48 rfl (by decide) rfl ?_
        refine E_iinc (ls' := [some (vR 12 0), some (vI x1), some (vI (wi (x2 + 0))), some (vI (wi (x3 + 1)))]) dX12_laysRail_49 rfl (by decide) rfl rfl ?_
        refine E_goto (tgt := 16) dX12_laysRail_52 (by decide) ?_
        exact hR _ _ _ h
      · have h := Eq.mp (if_neg hc) h
        refine E_ic dX12_laysRail_42 rfl ?_
        refine E_goto (tgt := 47) dX12_laysRail_43 (by decide) ?_
        refine E_iadd dX12_laysRail_47 ?_
        refine E_istore_n (ls' := [some (vR 12 0), some (vI x1), some (vI (wi (x2 + 1))), some (vI x3)]) dX12_laysRail_48 rfl (by decide) rfl ?_
        refine E_iinc (ls' := [some (vR 12 0), some (vI x1), some (vI (wi (x2 + 1))), some (vI (wi (x3 + 1)))]) dX12_laysRail_49 rfl (by decide) rfl rfl ?_
        refine E_goto (tgt := 16) dX12_laysRail_52 (by decide) ?_
        exact hR _ _ _ h
def P_X12_laysRail_L2    (Q : St → Prop) : Nat → Int → St → Prop
  | 0, _, _ => False
  | n + 1, x1, σ => (if (σ 1310 0 0) ≤ x1 then Q σ else P_X12_laysRail_L16 x1 (fun x2_1 σ_2 => 0 ≤ x2_1 ∧ x2_1 < 6 ∧ (P_X12_laysRail_L2 Q n) (wi (x1 + 1)) (up σ_2 1353 0 x2_1 x1)) Q FU 0 0 σ)
set_option maxRecDepth 20000 in
set_option maxHeartbeats 2000000 in
theorem e_P_X12_laysRail_L2    {Q : St → Prop}   : ∀ (n : Nat) (x1 : Int) (σ : St), P_X12_laysRail_L2 Q n x1 σ → E Y_X12_laysRail 0 0 0 (QV Q) ww 0 0 2 [some (vR 12 0), some (vI x1), none, none] [] σ := by
  intro n
  induction n with
  | zero => intro x1 σ h; exact h.elim
  | succ n hR =>
    intro x1 σ h
    unfold P_X12_laysRail_L2 at h
    refine E_iload_n dX12_laysRail_2 rfl rfl ?_
    refine E_aload_n dX12_laysRail_3 rfl rfl ?_
    refine E_getr (i := 0) dX12_laysRail_4 fl_RX12_13 rfl rfl (go_12_10 _ _) ?_
    refine E_ic dX12_laysRail_7 rfl ?_
    refine E_iald dX12_laysRail_8 sh_1310 (by decide) (by decide) ?_
    refine E_icmp_ge (tgt := 68) dX12_laysRail_9 (by decide) (fun hc => ?_) (fun hc => ?_)
    · have h := Eq.mp (if_pos hc) h
      exact E_vret dX12_laysRail_68 rfl ⟨rfl, rfl, h⟩
    · have h := Eq.mp (if_neg hc) h
      refine E_ic dX12_laysRail_12 rfl ?_
      refine E_istore_n (ls' := [some (vR 12 0), some (vI x1), some (vI 0), none]) dX12_laysRail_13 rfl (by decide) rfl ?_
      refine E_ic dX12_laysRail_14 rfl ?_
      refine E_istore_n (ls' := [some (vR 12 0), some (vI x1), some (vI 0), some (vI 0)]) dX12_laysRail_15 rfl (by decide) rfl ?_
      refine e_P_X12_laysRail_L16 ?_ _ _ _ _ h
      · intro x2_1 σ_2 h
        refine E_aload_n dX12_laysRail_55 rfl rfl ?_
        refine E_getr (i := 0) dX12_laysRail_56 fl_RX12_129 rfl rfl (go_12_53 _ _) ?_
        refine E_iload_n dX12_laysRail_59 rfl rfl ?_
        refine E_iload_n dX12_laysRail_60 rfl rfl ?_
        obtain ⟨hg0, hg1, h⟩ := h
        refine E_iast dX12_laysRail_61 sh_1353 hg0 hg1 ?_
        refine E_iinc (ls' := [some (vR 12 0), some (vI (wi (x1 + 1))), some (vI x2_1), none]) dX12_laysRail_62 rfl (by decide) rfl rfl ?_
        refine E_goto (tgt := 2) dX12_laysRail_65 (by decide) ?_
        refine E_wk2 [some (vR 12 0), some (vI (wi (x1 + 1))), none, none] ⟨rfl, ⟨rfl, trivial⟩⟩ ?_
        exact hR _ _ h
def P_X12_laysRail   (σ : St) (Q : St → Prop) : Prop :=
  P_X12_laysRail_L2 Q FU 0 σ
set_option maxRecDepth 20000 in
set_option maxHeartbeats 2000000 in
theorem s_X12_laysRail    {σ : St} {Q : St → Prop} (h : P_X12_laysRail  σ Q) : Cn Y_X12_laysRail 0 0 0 ww σ [vR 12 0] (QV Q) := by
  refine Cn_of [some (vR 12 0), none, none, none] (by decide) (Nat.le_of_ble_eq_true rfl) rfl ?_
  unfold P_X12_laysRail at h
  refine E_ic dX12_laysRail_0 rfl ?_
  refine E_istore_n (ls' := [some (vR 12 0), some (vI 0), none, none]) dX12_laysRail_1 rfl (by decide) rfl ?_
  refine e_P_X12_laysRail_L2  _ _ _ h
abbrev Y_X12_shop : My := (yX12_shop, cX12_shop, 2, some .int)
theorem dX12_shop_0 : decode cX12_shop 0 = .ok (.aload_n 0, 1) := by decide +kernel
theorem dX12_shop_1 : decode cX12_shop 1 = .ok (.iconst 0, 1) := by decide +kernel
theorem dX12_shop_2 : decode cX12_shop 2 = .ok (.putfield 141, 3) := by decide +kernel
theorem dX12_shop_5 : decode cX12_shop 5 = .ok (.aload_n 0, 1) := by decide +kernel
theorem dX12_shop_6 : decode cX12_shop 6 = .ok (.invokevirtual 337, 3) := by decide +kernel
theorem dX12_shop_9 : decode cX12_shop 9 = .ok (.ifCond .ne 8, 3) := by decide +kernel
theorem dX12_shop_12 : decode cX12_shop 12 = .ok (.aload_n 0, 1) := by decide +kernel
theorem dX12_shop_13 : decode cX12_shop 13 = .ok (.getfield 177, 3) := by decide +kernel
theorem dX12_shop_16 : decode cX12_shop 16 = .ok (.ireturn, 1) := by decide +kernel
theorem dX12_shop_17 : decode cX12_shop 17 = .ok (.aload_n 0, 1) := by decide +kernel
theorem dX12_shop_18 : decode cX12_shop 18 = .ok (.invokevirtual 340, 3) := by decide +kernel
theorem dX12_shop_21 : decode cX12_shop 21 = .ok (.aload_n 0, 1) := by decide +kernel
theorem dX12_shop_22 : decode cX12_shop 22 = .ok (.invokevirtual 343, 3) := by decide +kernel
theorem dX12_shop_25 : decode cX12_shop 25 = .ok (.aload_n 0, 1) := by decide +kernel
theorem dX12_shop_26 : decode cX12_shop 26 = .ok (.invokevirtual 138, 3) := by decide +kernel
theorem dX12_shop_29 : decode cX12_shop 29 = .ok (.aload_n 0, 1) := by decide +kernel
theorem dX12_shop_30 : decode cX12_shop 30 = .ok (.getfield 87, 3) := by decide +kernel
theorem dX12_shop_33 : decode cX12_shop 33 = .ok (.iconst 0, 1) := by decide +kernel
theorem dX12_shop_34 : decode cX12_shop 34 = .ok (.iconst 0, 1) := by decide +kernel
theorem dX12_shop_35 : decode cX12_shop 35 = .ok (.iastore, 1) := by decide +kernel
theorem dX12_shop_36 : decode cX12_shop 36 = .ok (.aload_n 0, 1) := by decide +kernel
theorem dX12_shop_37 : decode cX12_shop 37 = .ok (.getfield 99, 3) := by decide +kernel
theorem dX12_shop_40 : decode cX12_shop 40 = .ok (.iconst 0, 1) := by decide +kernel
theorem dX12_shop_41 : decode cX12_shop 41 = .ok (.iconst 0, 1) := by decide +kernel
theorem dX12_shop_42 : decode cX12_shop 42 = .ok (.iastore, 1) := by decide +kernel
theorem dX12_shop_43 : decode cX12_shop 43 = .ok (.aload_n 0, 1) := by decide +kernel
theorem dX12_shop_44 : decode cX12_shop 44 = .ok (.iconst 0, 1) := by decide +kernel
theorem dX12_shop_45 : decode cX12_shop 45 = .ok (.putfield 346, 3) := by decide +kernel
theorem dX12_shop_48 : decode cX12_shop 48 = .ok (.iconst 0, 1) := by decide +kernel
theorem dX12_shop_49 : decode cX12_shop 49 = .ok (.istore_n 1, 1) := by decide +kernel
theorem dX12_shop_50 : decode cX12_shop 50 = .ok (.iload_n 1, 1) := by decide +kernel
theorem dX12_shop_51 : decode cX12_shop 51 = .ok (.iconst 4, 1) := by decide +kernel
theorem dX12_shop_52 : decode cX12_shop 52 = .ok (.if_icmp .ge 16, 3) := by decide +kernel
theorem dX12_shop_55 : decode cX12_shop 55 = .ok (.aload_n 0, 1) := by decide +kernel
theorem dX12_shop_56 : decode cX12_shop 56 = .ok (.getfield 126, 3) := by decide +kernel
theorem dX12_shop_59 : decode cX12_shop 59 = .ok (.iload_n 1, 1) := by decide +kernel
theorem dX12_shop_60 : decode cX12_shop 60 = .ok (.iconst 0, 1) := by decide +kernel
theorem dX12_shop_61 : decode cX12_shop 61 = .ok (.bastore, 1) := by decide +kernel
theorem dX12_shop_62 : decode cX12_shop 62 = .ok (.iinc 1 1, 3) := by decide +kernel
theorem dX12_shop_65 : decode cX12_shop 65 = .ok (.goto (-15), 3) := by decide +kernel
theorem dX12_shop_68 : decode cX12_shop 68 = .ok (.iconst 0, 1) := by decide +kernel
theorem dX12_shop_69 : decode cX12_shop 69 = .ok (.ireturn, 1) := by decide +kernel
theorem fl_RX12_126 : FL RX12 126 12 51 := ⟨inG (i := 1451) (by decide +kernel) (by decide +kernel), by decide, by decide⟩
theorem fl_RX12_346 : FL RX12 346 12 52 := ⟨inG (i := 1452) (by decide +kernel) (by decide +kernel), by decide, by decide⟩
theorem go_12_51 (σ : St) (i : Nat) : go σ 12 i 51 = (1351, i) := rfl
theorem lk_RX12_138 : Cond.methodLink RX12 138 yX12_fresh0 ∈ tG := inG (i := 1396) (by decide +kernel) (by decide +kernel)
theorem lk_RX12_337 : Cond.methodLink RX12 337 yX12_readsAll ∈ tG := inG (i := 1591) (by decide +kernel) (by decide +kernel)
theorem lk_RX12_340 : Cond.methodLink RX12 340 yX12_lays ∈ tG := inG (i := 1717) (by decide +kernel) (by decide +kernel)
theorem lk_RX12_343 : Cond.methodLink RX12 343 yX12_laysRail ∈ tG := inG (i := 1727) (by decide +kernel) (by decide +kernel)
theorem m_X12_fresh0 : MV Y_X12_fresh0 0 12 := ⟨⟨inG (i := 1399) (by decide +kernel) (by decide +kernel), inG (i := 110) (by decide +kernel) (by decide +kernel), by decide, by decide, by decide, by decide +kernel⟩, inG (i := 1398) (by decide +kernel) (by decide +kernel), inG (i := 31) (by decide +kernel) (by decide +kernel), by decide⟩
theorem m_X12_lays : MV Y_X12_lays 0 12 := ⟨⟨inG (i := 1720) (by decide +kernel) (by decide +kernel), inG (i := 110) (by decide +kernel) (by decide +kernel), by decide, by decide, by decide, by decide +kernel⟩, inG (i := 1719) (by decide +kernel) (by decide +kernel), inG (i := 56) (by decide +kernel) (by decide +kernel), by decide⟩
theorem m_X12_laysRail : MV Y_X12_laysRail 0 12 := ⟨⟨inG (i := 1730) (by decide +kernel) (by decide +kernel), inG (i := 110) (by decide +kernel) (by decide +kernel), by decide, by decide, by decide, by decide +kernel⟩, inG (i := 1729) (by decide +kernel) (by decide +kernel), inG (i := 57) (by decide +kernel) (by decide +kernel), by decide⟩
theorem m_X12_readsAll : MV Y_X12_readsAll 0 12 := ⟨⟨inG (i := 1594) (by decide +kernel) (by decide +kernel), inG (i := 110) (by decide +kernel) (by decide +kernel), by decide, by decide, by decide, by decide +kernel⟩, inG (i := 1593) (by decide +kernel) (by decide +kernel), inG (i := 32) (by decide +kernel) (by decide +kernel), by decide⟩
theorem sh_1351 : shp 1351 = (2, 4) := rfl
def P_X12_shop_L50    (Q : Int → St → Prop) : Nat → Int → St → Prop
  | 0, _, _ => False
  | n + 1, x1, σ => (if 4 ≤ x1 then Q 0 σ else 0 ≤ x1 ∧ x1 < 4 ∧ (P_X12_shop_L50 Q n) (wi (x1 + 1)) (up σ 1351 0 x1 0))
set_option maxRecDepth 20000 in
set_option maxHeartbeats 2000000 in
theorem e_P_X12_shop_L50    {Q : Int → St → Prop}   : ∀ (n : Nat) (x1 : Int) (σ : St), P_X12_shop_L50 Q n x1 σ → E Y_X12_shop 6 0 0 (QI Q) ww 0 0 50 [some (vR 12 0), some (vI x1)] [] σ := by
  intro n
  induction n with
  | zero => intro x1 σ h; exact h.elim
  | succ n hR =>
    intro x1 σ h
    unfold P_X12_shop_L50 at h
    refine E_iload_n dX12_shop_50 rfl rfl ?_
    refine E_ic dX12_shop_51 rfl ?_
    refine E_icmp_ge (tgt := 68) dX12_shop_52 (by decide) (fun hc => ?_) (fun hc => ?_)
    · have h := Eq.mp (if_pos hc) h
      refine E_ic dX12_shop_68 rfl ?_
      exact E_iret dX12_shop_69 rfl ⟨_, rfl, rfl, h⟩
    · have h := Eq.mp (if_neg hc) h
      refine E_aload_n dX12_shop_55 rfl rfl ?_
      refine E_getr (i := 0) dX12_shop_56 fl_RX12_126 rfl rfl (go_12_51 _ _) ?_
      refine E_iload_n dX12_shop_59 rfl rfl ?_
      refine E_ic dX12_shop_60 rfl ?_
      obtain ⟨hg0, hg1, h⟩ := h
      refine E_zast dX12_shop_61 sh_1351 hg0 hg1 (by decide) ?_
      refine E_iinc (ls' := [some (vR 12 0), some (vI (wi (x1 + 1)))]) dX12_shop_62 rfl (by decide) rfl rfl ?_
      refine E_goto (tgt := 50) dX12_shop_65 (by decide) ?_
      exact hR _ _ h
def P_X12_shop   (σ : St) (Q : Int → St → Prop) : Prop :=
  P_X12_readsAll (up σ 12 0 0 0) (fun r_2 σ_1 => (if r_2 = 0 then Q (σ_1 12 0 9) σ_1 else P_X12_lays σ_1 (fun σ_3 => P_X12_laysRail σ_3 (fun σ_4 => P_X12_fresh0 σ_4 (fun σ_5 => P_X12_shop_L50 Q FU 0 (up (up (up σ_5 1338 0 0 0) 1342 0 0 0) 12 0 52 0))))))
set_option maxRecDepth 20000 in
set_option maxHeartbeats 2000000 in
theorem s_X12_shop    {σ : St} {Q : Int → St → Prop} (h : P_X12_shop  σ Q) : Cn Y_X12_shop 6 0 0 ww σ [vR 12 0] (QI Q) := by
  refine Cn_of [some (vR 12 0), none] (by decide) (Nat.le_of_ble_eq_true rfl) rfl ?_
  unfold P_X12_shop at h
  refine E_aload_n dX12_shop_0 rfl rfl ?_
  refine E_ic dX12_shop_1 rfl ?_
  refine E_puti dX12_shop_2 fl_RX12_141 rfl rfl rfl ?_
  refine E_aload_n dX12_shop_5 rfl rfl ?_
  refine E_callV (Y' := Y_X12_readsAll) (as := []) (st := []) dX12_shop_6 lk_RX12_337 m_X12_readsAll (by decide) (Nat.le_refl _) (Nat.le_refl _) rfl rfl (Nat.le_of_ble_eq_true rfl) (s_X12_readsAll h) (fun r0 B0 σ_1 h => ?_)
  obtain ⟨r_2, rfl, rfl, h⟩ := h
  refine E_if_ne (tgt := 17) dX12_shop_9 (by decide) (fun hc => ?_) (fun hc => ?_)
  · have h := Eq.mp (if_neg hc) h
    refine E_aload_n dX12_shop_17 rfl rfl ?_
    refine E_callV (Y' := Y_X12_lays) (as := []) (st := []) dX12_shop_18 lk_RX12_340 m_X12_lays (by decide) (Nat.le_refl _) (Nat.le_refl _) rfl rfl (Nat.le_of_ble_eq_true rfl) (s_X12_lays h) (fun r0 B0 σ_3 h => ?_)
    obtain ⟨rfl, rfl, h⟩ := h
    refine E_aload_n dX12_shop_21 rfl rfl ?_
    refine E_callV (Y' := Y_X12_laysRail) (as := []) (st := []) dX12_shop_22 lk_RX12_343 m_X12_laysRail (by decide) (Nat.le_refl _) (Nat.le_refl _) rfl rfl (Nat.le_of_ble_eq_true rfl) (s_X12_laysRail h) (fun r0 B0 σ_4 h => ?_)
    obtain ⟨rfl, rfl, h⟩ := h
    refine E_aload_n dX12_shop_25 rfl rfl ?_
    refine E_callV (Y' := Y_X12_fresh0) (as := []) (st := []) dX12_shop_26 lk_RX12_138 m_X12_fresh0 (by decide) (Nat.le_refl _) (Nat.le_refl _) rfl rfl (Nat.le_of_ble_eq_true rfl) (s_X12_fresh0 h) (fun r0 B0 σ_5 h => ?_)
    obtain ⟨rfl, rfl, h⟩ := h
    refine E_aload_n dX12_shop_29 rfl rfl ?_
    refine E_getr (i := 0) dX12_shop_30 fl_RX12_87 rfl rfl (go_12_38 _ _) ?_
    refine E_ic dX12_shop_33 rfl ?_
    refine E_ic dX12_shop_34 rfl ?_
    refine E_iast dX12_shop_35 sh_1338 (by decide) (by decide) ?_
    refine E_aload_n dX12_shop_36 rfl rfl ?_
    refine E_getr (i := 0) dX12_shop_37 fl_RX12_99 rfl rfl (go_12_42 _ _) ?_
    refine E_ic dX12_shop_40 rfl ?_
    refine E_ic dX12_shop_41 rfl ?_
    refine E_iast dX12_shop_42 sh_1342 (by decide) (by decide) ?_
    refine E_aload_n dX12_shop_43 rfl rfl ?_
    refine E_ic dX12_shop_44 rfl ?_
    refine E_puti dX12_shop_45 fl_RX12_346 rfl rfl rfl ?_
    refine E_ic dX12_shop_48 rfl ?_
    refine E_istore_n (ls' := [some (vR 12 0), some (vI 0)]) dX12_shop_49 rfl (by decide) rfl ?_
    refine e_P_X12_shop_L50  _ _ _ h
  · have h := Eq.mp (if_pos hc) h
    refine E_aload_n dX12_shop_12 rfl rfl ?_
    refine E_geti (i := 0) dX12_shop_13 fl_RX12_177 rfl ?_
    exact E_iret dX12_shop_16 rfl ⟨_, rfl, rfl, h⟩
abbrev Y_X12_run : My := (yX12_run, cX12_run, 1, some .int)
theorem dX12_run_0 : decode cX12_run 0 = .ok (.aload_n 0, 1) := by decide +kernel
theorem dX12_run_1 : decode cX12_run 1 = .ok (.iconst 0, 1) := by decide +kernel
theorem dX12_run_2 : decode cX12_run 2 = .ok (.putfield 141, 3) := by decide +kernel
theorem dX12_run_5 : decode cX12_run 5 = .ok (.aload_n 0, 1) := by decide +kernel
theorem dX12_run_6 : decode cX12_run 6 = .ok (.getfield 87, 3) := by decide +kernel
theorem dX12_run_9 : decode cX12_run 9 = .ok (.iconst 5, 1) := by decide +kernel
theorem dX12_run_10 : decode cX12_run 10 = .ok (.iconst 0, 1) := by decide +kernel
theorem dX12_run_11 : decode cX12_run 11 = .ok (.iastore, 1) := by decide +kernel
theorem dX12_run_12 : decode cX12_run 12 = .ok (.aload_n 0, 1) := by decide +kernel
theorem dX12_run_13 : decode cX12_run 13 = .ok (.invokevirtual 311, 3) := by decide +kernel
theorem dX12_run_16 : decode cX12_run 16 = .ok (.aload_n 0, 1) := by decide +kernel
theorem dX12_run_17 : decode cX12_run 17 = .ok (.getfield 166, 3) := by decide +kernel
theorem dX12_run_20 : decode cX12_run 20 = .ok (.ifCond .eq 15, 3) := by decide +kernel
theorem dX12_run_23 : decode cX12_run 23 = .ok (.aload_n 0, 1) := by decide +kernel
theorem dX12_run_24 : decode cX12_run 24 = .ok (.invokevirtual 349, 3) := by decide +kernel
theorem dX12_run_27 : decode cX12_run 27 = .ok (.ifCond .ne (-11), 3) := by decide +kernel
theorem dX12_run_30 : decode cX12_run 30 = .ok (.aload_n 0, 1) := by decide +kernel
theorem dX12_run_31 : decode cX12_run 31 = .ok (.getfield 177, 3) := by decide +kernel
theorem dX12_run_34 : decode cX12_run 34 = .ok (.ireturn, 1) := by decide +kernel
theorem dX12_run_35 : decode cX12_run 35 = .ok (.aload_n 0, 1) := by decide +kernel
theorem dX12_run_36 : decode cX12_run 36 = .ok (.iconst 5, 1) := by decide +kernel
theorem dX12_run_37 : decode cX12_run 37 = .ok (.iconst 0, 1) := by decide +kernel
theorem dX12_run_38 : decode cX12_run 38 = .ok (.invokevirtual 352, 3) := by decide +kernel
theorem dX12_run_41 : decode cX12_run 41 = .ok (.iconst 0, 1) := by decide +kernel
theorem dX12_run_42 : decode cX12_run 42 = .ok (.ireturn, 1) := by decide +kernel
theorem lk_RX12_349 : Cond.methodLink RX12 349 yX12_readsLine ∈ tG := inG (i := 1735) (by decide +kernel) (by decide +kernel)
theorem lk_RX12_352 : Cond.methodLink RX12 352 yX12_laysLines ∈ tG := inG (i := 1739) (by decide +kernel) (by decide +kernel)
theorem m_X12_laysLines : MV Y_X12_laysLines 2 12 := ⟨⟨inG (i := 1742) (by decide +kernel) (by decide +kernel), inG (i := 110) (by decide +kernel) (by decide +kernel), by decide, by decide, by decide, by decide +kernel⟩, inG (i := 1741) (by decide +kernel) (by decide +kernel), inG (i := 59) (by decide +kernel) (by decide +kernel), by decide⟩
theorem m_X12_readsLine : MV Y_X12_readsLine 0 12 := ⟨⟨inG (i := 1738) (by decide +kernel) (by decide +kernel), inG (i := 110) (by decide +kernel) (by decide +kernel), by decide, by decide, by decide, by decide +kernel⟩, inG (i := 1737) (by decide +kernel) (by decide +kernel), inG (i := 58) (by decide +kernel) (by decide +kernel), by decide⟩
def P_X12_run_L16   (K : St → Prop) (Q : Int → St → Prop) : Nat → St → Prop
  | 0, _ => False
  | n + 1, σ => (if (σ 12 0 6) = 0 then K σ else P_X12_readsLine σ (fun r_3 σ_2 => (if r_3 = 0 then Q (σ_2 12 0 9) σ_2 else (P_X12_run_L16 K Q n) σ_2)))
set_option maxRecDepth 20000 in
set_option maxHeartbeats 2000000 in
theorem e_P_X12_run_L16   {K : St → Prop} {Q : Int → St → Prop}  (hK : ∀ σ, K σ → E Y_X12_run 4 0 0 (QI Q) ww 0 0 35 [some (vR 12 0)] [] σ) : ∀ (n : Nat) (σ : St), P_X12_run_L16 K Q n  σ → E Y_X12_run 4 0 0 (QI Q) ww 0 0 16 [some (vR 12 0)] [] σ := by
  intro n
  induction n with
  | zero => intro  σ h; exact h.elim
  | succ n hR =>
    intro  σ h
    unfold P_X12_run_L16 at h
    refine E_aload_n dX12_run_16 rfl rfl ?_
    refine E_geti (i := 0) dX12_run_17 fl_RX12_166 rfl ?_
    refine E_if_eq (tgt := 35) dX12_run_20 (by decide) (fun hc => ?_) (fun hc => ?_)
    · have h := Eq.mp (if_pos hc) h
      exact hK _ h
    · have h := Eq.mp (if_neg hc) h
      refine E_aload_n dX12_run_23 rfl rfl ?_
      refine E_callV (Y' := Y_X12_readsLine) (as := []) (st := []) dX12_run_24 lk_RX12_349 m_X12_readsLine (by decide) (Nat.le_refl _) (Nat.le_refl _) rfl rfl (Nat.le_of_ble_eq_true rfl) (s_X12_readsLine h) (fun r0 B0 σ_2 h => ?_)
      obtain ⟨r_3, rfl, rfl, h⟩ := h
      refine E_if_ne (tgt := 16) dX12_run_27 (by decide) (fun hc => ?_) (fun hc => ?_)
      · have h := Eq.mp (if_neg hc) h
        exact hR _ h
      · have h := Eq.mp (if_pos hc) h
        refine E_aload_n dX12_run_30 rfl rfl ?_
        refine E_geti (i := 0) dX12_run_31 fl_RX12_177 rfl ?_
        exact E_iret dX12_run_34 rfl ⟨_, rfl, rfl, h⟩
def P_X12_run   (σ : St) (Q : Int → St → Prop) : Prop :=
  P_X12_begins (up (up σ 12 0 0 0) 1338 0 5 0) (fun σ_1 => P_X12_run_L16 (fun σ_4 => P_X12_laysLines 5 0 σ_4 (fun σ_5 => Q 0 σ_5)) Q FU σ_1)
set_option maxRecDepth 20000 in
set_option maxHeartbeats 2000000 in
theorem s_X12_run    {σ : St} {Q : Int → St → Prop} (h : P_X12_run  σ Q) : Cn Y_X12_run 4 0 0 ww σ [vR 12 0] (QI Q) := by
  refine Cn_of [some (vR 12 0)] (by decide) (Nat.le_of_ble_eq_true rfl) rfl ?_
  unfold P_X12_run at h
  refine E_aload_n dX12_run_0 rfl rfl ?_
  refine E_ic dX12_run_1 rfl ?_
  refine E_puti dX12_run_2 fl_RX12_141 rfl rfl rfl ?_
  refine E_aload_n dX12_run_5 rfl rfl ?_
  refine E_getr (i := 0) dX12_run_6 fl_RX12_87 rfl rfl (go_12_38 _ _) ?_
  refine E_ic dX12_run_9 rfl ?_
  refine E_ic dX12_run_10 rfl ?_
  refine E_iast dX12_run_11 sh_1338 (by decide) (by decide) ?_
  refine E_aload_n dX12_run_12 rfl rfl ?_
  refine E_callV (Y' := Y_X12_begins) (as := []) (st := []) dX12_run_13 lk_RX12_311 m_X12_begins (by decide) (Nat.le_refl _) (Nat.le_refl _) rfl rfl (Nat.le_of_ble_eq_true rfl) (s_X12_begins h) (fun r0 B0 σ_1 h => ?_)
  obtain ⟨rfl, rfl, h⟩ := h
  refine e_P_X12_run_L16 ?_ _ _ h
  · intro σ_4 h
    refine E_aload_n dX12_run_35 rfl rfl ?_
    refine E_ic dX12_run_36 rfl ?_
    refine E_ic dX12_run_37 rfl ?_
    refine E_callV (Y' := Y_X12_laysLines) (as := [vI 5, vI 0]) (st := []) dX12_run_38 lk_RX12_352 m_X12_laysLines (by decide) (Nat.le_refl _) (Nat.le_refl _) rfl rfl (Nat.le_of_ble_eq_true rfl) (s_X12_laysLines h) (fun r0 B0 σ_5 h => ?_)
    obtain ⟨rfl, rfl, h⟩ := h
    refine E_ic dX12_run_41 rfl ?_
    exact E_iret dX12_run_42 rfl ⟨_, rfl, rfl, h⟩
abbrev Y_X12_isCounter : My := (yX12_isCounter, cX12_isCounter, 2, some .boolean)
theorem dX12_isCounter_0 : decode cX12_isCounter 0 = .ok (.iload_n 1, 1) := by decide +kernel
theorem dX12_isCounter_1 : decode cX12_isCounter 1 = .ok (.ifCond .lt 17, 3) := by decide +kernel
theorem dX12_isCounter_4 : decode cX12_isCounter 4 = .ok (.iload_n 1, 1) := by decide +kernel
theorem dX12_isCounter_5 : decode cX12_isCounter 5 = .ok (.aload_n 0, 1) := by decide +kernel
theorem dX12_isCounter_6 : decode cX12_isCounter 6 = .ok (.getfield 13, 3) := by decide +kernel
theorem dX12_isCounter_9 : decode cX12_isCounter 9 = .ok (.iconst 0, 1) := by decide +kernel
theorem dX12_isCounter_10 : decode cX12_isCounter 10 = .ok (.iaload, 1) := by decide +kernel
theorem dX12_isCounter_11 : decode cX12_isCounter 11 = .ok (.if_icmp .ge 7, 3) := by decide +kernel
theorem dX12_isCounter_14 : decode cX12_isCounter 14 = .ok (.iconst 1, 1) := by decide +kernel
theorem dX12_isCounter_15 : decode cX12_isCounter 15 = .ok (.goto 4, 3) := by decide +kernel
theorem dX12_isCounter_18 : decode cX12_isCounter 18 = .ok (.iconst 0, 1) := by decide +kernel
theorem dX12_isCounter_19 : decode cX12_isCounter 19 = .ok (.ireturn, 1) := by decide +kernel
def P_X12_isCounter_J18    (Q : Int → St → Prop) (σ : St) : Prop :=
  Q 0 σ
set_option maxRecDepth 20000 in
set_option maxHeartbeats 2000000 in
theorem e_P_X12_isCounter_J18    {Q : Int → St → Prop} {σ : St}   (h : P_X12_isCounter_J18  Q σ) : E Y_X12_isCounter 0 0 0 (QI Q) ww 0 0 18 [none, none] [] σ := by
  unfold P_X12_isCounter_J18 at h
  refine E_ic dX12_isCounter_18 rfl ?_
  exact E_zret dX12_isCounter_19 rfl (by decide) ⟨_, rfl, rfl, h⟩
def P_X12_isCounter  (x1 : Int) (σ : St) (Q : Int → St → Prop) : Prop :=
  (if x1 < 0 then P_X12_isCounter_J18 Q σ else (if (σ 1310 0 0) ≤ x1 then P_X12_isCounter_J18 Q σ else Q 1 σ))
set_option maxRecDepth 20000 in
set_option maxHeartbeats 2000000 in
theorem s_X12_isCounter   {x1 : Int} {σ : St} {Q : Int → St → Prop} (h : P_X12_isCounter x1 σ Q) : Cn Y_X12_isCounter 0 0 0 ww σ [vR 12 0, vI x1] (QI Q) := by
  refine Cn_of [some (vR 12 0), some (vI x1)] (by decide) (Nat.le_of_ble_eq_true rfl) rfl ?_
  unfold P_X12_isCounter at h
  refine E_iload_n dX12_isCounter_0 rfl rfl ?_
  refine E_if_lt (tgt := 18) dX12_isCounter_1 (by decide) (fun hc => ?_) (fun hc => ?_)
  · have h := Eq.mp (if_pos hc) h
    refine E_wk2 [none, none] trivial ?_
    exact e_P_X12_isCounter_J18 h
  · have h := Eq.mp (if_neg hc) h
    refine E_iload_n dX12_isCounter_4 rfl rfl ?_
    refine E_aload_n dX12_isCounter_5 rfl rfl ?_
    refine E_getr (i := 0) dX12_isCounter_6 fl_RX12_13 rfl rfl (go_12_10 _ _) ?_
    refine E_ic dX12_isCounter_9 rfl ?_
    refine E_iald dX12_isCounter_10 sh_1310 (by decide) (by decide) ?_
    refine E_icmp_ge (tgt := 18) dX12_isCounter_11 (by decide) (fun hc => ?_) (fun hc => ?_)
    · have h := Eq.mp (if_pos hc) h
      refine E_wk2 [none, none] trivial ?_
      exact e_P_X12_isCounter_J18 h
    · have h := Eq.mp (if_neg hc) h
      refine E_ic dX12_isCounter_14 rfl ?_
      refine E_goto (tgt := 19) dX12_isCounter_15 (by decide) ?_
      exact E_zret dX12_isCounter_19 rfl (by decide) ⟨_, rfl, rfl, h⟩
abbrev Y_X12_isBall : My := (yX12_isBall, cX12_isBall, 2, some .boolean)
theorem dX12_isBall_0 : decode cX12_isBall 0 = .ok (.iload_n 1, 1) := by decide +kernel
theorem dX12_isBall_1 : decode cX12_isBall 1 = .ok (.ifCond .lt 17, 3) := by decide +kernel
theorem dX12_isBall_4 : decode cX12_isBall 4 = .ok (.iload_n 1, 1) := by decide +kernel
theorem dX12_isBall_5 : decode cX12_isBall 5 = .ok (.aload_n 0, 1) := by decide +kernel
theorem dX12_isBall_6 : decode cX12_isBall 6 = .ok (.getfield 13, 3) := by decide +kernel
theorem dX12_isBall_9 : decode cX12_isBall 9 = .ok (.iconst 1, 1) := by decide +kernel
theorem dX12_isBall_10 : decode cX12_isBall 10 = .ok (.iaload, 1) := by decide +kernel
theorem dX12_isBall_11 : decode cX12_isBall 11 = .ok (.if_icmp .ge 7, 3) := by decide +kernel
theorem dX12_isBall_14 : decode cX12_isBall 14 = .ok (.iconst 1, 1) := by decide +kernel
theorem dX12_isBall_15 : decode cX12_isBall 15 = .ok (.goto 4, 3) := by decide +kernel
theorem dX12_isBall_18 : decode cX12_isBall 18 = .ok (.iconst 0, 1) := by decide +kernel
theorem dX12_isBall_19 : decode cX12_isBall 19 = .ok (.ireturn, 1) := by decide +kernel
def P_X12_isBall_J18    (Q : Int → St → Prop) (σ : St) : Prop :=
  Q 0 σ
set_option maxRecDepth 20000 in
set_option maxHeartbeats 2000000 in
theorem e_P_X12_isBall_J18    {Q : Int → St → Prop} {σ : St}   (h : P_X12_isBall_J18  Q σ) : E Y_X12_isBall 0 0 0 (QI Q) ww 0 0 18 [none, none] [] σ := by
  unfold P_X12_isBall_J18 at h
  refine E_ic dX12_isBall_18 rfl ?_
  exact E_zret dX12_isBall_19 rfl (by decide) ⟨_, rfl, rfl, h⟩
def P_X12_isBall  (x1 : Int) (σ : St) (Q : Int → St → Prop) : Prop :=
  (if x1 < 0 then P_X12_isBall_J18 Q σ else (if (σ 1310 0 1) ≤ x1 then P_X12_isBall_J18 Q σ else Q 1 σ))
set_option maxRecDepth 20000 in
set_option maxHeartbeats 2000000 in
theorem s_X12_isBall   {x1 : Int} {σ : St} {Q : Int → St → Prop} (h : P_X12_isBall x1 σ Q) : Cn Y_X12_isBall 0 0 0 ww σ [vR 12 0, vI x1] (QI Q) := by
  refine Cn_of [some (vR 12 0), some (vI x1)] (by decide) (Nat.le_of_ble_eq_true rfl) rfl ?_
  unfold P_X12_isBall at h
  refine E_iload_n dX12_isBall_0 rfl rfl ?_
  refine E_if_lt (tgt := 18) dX12_isBall_1 (by decide) (fun hc => ?_) (fun hc => ?_)
  · have h := Eq.mp (if_pos hc) h
    refine E_wk2 [none, none] trivial ?_
    exact e_P_X12_isBall_J18 h
  · have h := Eq.mp (if_neg hc) h
    refine E_iload_n dX12_isBall_4 rfl rfl ?_
    refine E_aload_n dX12_isBall_5 rfl rfl ?_
    refine E_getr (i := 0) dX12_isBall_6 fl_RX12_13 rfl rfl (go_12_10 _ _) ?_
    refine E_ic dX12_isBall_9 rfl ?_
    refine E_iald dX12_isBall_10 sh_1310 (by decide) (by decide) ?_
    refine E_icmp_ge (tgt := 18) dX12_isBall_11 (by decide) (fun hc => ?_) (fun hc => ?_)
    · have h := Eq.mp (if_pos hc) h
      refine E_wk2 [none, none] trivial ?_
      exact e_P_X12_isBall_J18 h
    · have h := Eq.mp (if_neg hc) h
      refine E_ic dX12_isBall_14 rfl ?_
      refine E_goto (tgt := 19) dX12_isBall_15 (by decide) ?_
      exact E_zret dX12_isBall_19 rfl (by decide) ⟨_, rfl, rfl, h⟩
abbrev Y_X12_fallsBy : My := (yX12_fallsBy, cX12_fallsBy, 3, some .int)
theorem dX12_fallsBy_0 : decode cX12_fallsBy 0 = .ok (.iconst 0, 1) := by decide +kernel
theorem dX12_fallsBy_1 : decode cX12_fallsBy 1 = .ok (.istore_n 2, 1) := by decide +kernel
theorem dX12_fallsBy_2 : decode cX12_fallsBy 2 = .ok (.iload_n 2, 1) := by decide +kernel
theorem dX12_fallsBy_3 : decode cX12_fallsBy 3 = .ok (.aload_n 0, 1) := by decide +kernel
theorem dX12_fallsBy_4 : decode cX12_fallsBy 4 = .ok (.getfield 13, 3) := by decide +kernel
theorem dX12_fallsBy_7 : decode cX12_fallsBy 7 = .ok (.iconst 0, 1) := by decide +kernel
theorem dX12_fallsBy_8 : decode cX12_fallsBy 8 = .ok (.iaload, 1) := by decide +kernel
theorem dX12_fallsBy_9 : decode cX12_fallsBy 9 = .ok (.if_icmp .ge 34, 3) := by decide +kernel
theorem dX12_fallsBy_12 : decode cX12_fallsBy 12 = .ok (.aload_n 0, 1) := by decide +kernel
theorem dX12_fallsBy_13 : decode cX12_fallsBy 13 = .ok (.getfield 111, 3) := by decide +kernel
theorem dX12_fallsBy_16 : decode cX12_fallsBy 16 = .ok (.bipush 10, 2) := by decide +kernel
theorem dX12_fallsBy_18 : decode cX12_fallsBy 18 = .ok (.aload_n 0, 1) := by decide +kernel
theorem dX12_fallsBy_19 : decode cX12_fallsBy 19 = .ok (.getfield 129, 3) := by decide +kernel
theorem dX12_fallsBy_22 : decode cX12_fallsBy 22 = .ok (.iload_n 2, 1) := by decide +kernel
theorem dX12_fallsBy_23 : decode cX12_fallsBy 23 = .ok (.iaload, 1) := by decide +kernel
theorem dX12_fallsBy_24 : decode cX12_fallsBy 24 = .ok (.iadd, 1) := by decide +kernel
theorem dX12_fallsBy_25 : decode cX12_fallsBy 25 = .ok (.iaload, 1) := by decide +kernel
theorem dX12_fallsBy_26 : decode cX12_fallsBy 26 = .ok (.iload_n 1, 1) := by decide +kernel
theorem dX12_fallsBy_27 : decode cX12_fallsBy 27 = .ok (.if_icmp .lt 10, 3) := by decide +kernel
theorem dX12_fallsBy_30 : decode cX12_fallsBy 30 = .ok (.aload_n 0, 1) := by decide +kernel
theorem dX12_fallsBy_31 : decode cX12_fallsBy 31 = .ok (.getfield 129, 3) := by decide +kernel
theorem dX12_fallsBy_34 : decode cX12_fallsBy 34 = .ok (.iload_n 2, 1) := by decide +kernel
theorem dX12_fallsBy_35 : decode cX12_fallsBy 35 = .ok (.iaload, 1) := by decide +kernel
theorem dX12_fallsBy_36 : decode cX12_fallsBy 36 = .ok (.ireturn, 1) := by decide +kernel
theorem dX12_fallsBy_37 : decode cX12_fallsBy 37 = .ok (.iinc 2 1, 3) := by decide +kernel
theorem dX12_fallsBy_40 : decode cX12_fallsBy 40 = .ok (.goto (-38), 3) := by decide +kernel
theorem dX12_fallsBy_43 : decode cX12_fallsBy 43 = .ok (.bipush 6, 2) := by decide +kernel
theorem dX12_fallsBy_45 : decode cX12_fallsBy 45 = .ok (.ireturn, 1) := by decide +kernel
def P_X12_fallsBy_L2  (x1 : Int)  (Q : Int → St → Prop) : Nat → Int → St → Prop
  | 0, _, _ => False
  | n + 1, x2, σ => (if (σ 1310 0 0) ≤ x2 then Q 6 σ else 0 ≤ x2 ∧ x2 < 6 ∧ 0 ≤ wi (10 + (σ 1353 0 x2)) ∧ wi (10 + (σ 1353 0 x2)) < 46 ∧ (if (σ 1346 0 (wi (10 + (σ 1353 0 x2)))) < x1 then (P_X12_fallsBy_L2 x1 Q n) (wi (x2 + 1)) σ else 0 ≤ x2 ∧ x2 < 6 ∧ Q (σ 1353 0 x2) σ))
set_option maxRecDepth 20000 in
set_option maxHeartbeats 2000000 in
theorem e_P_X12_fallsBy_L2  {x1 : Int}  {Q : Int → St → Prop}   : ∀ (n : Nat) (x2 : Int) (σ : St), P_X12_fallsBy_L2 x1 Q n x2 σ → E Y_X12_fallsBy 0 0 0 (QI Q) ww 0 0 2 [some (vR 12 0), some (vI x1), some (vI x2)] [] σ := by
  intro n
  induction n with
  | zero => intro x2 σ h; exact h.elim
  | succ n hR =>
    intro x2 σ h
    unfold P_X12_fallsBy_L2 at h
    refine E_iload_n dX12_fallsBy_2 rfl rfl ?_
    refine E_aload_n dX12_fallsBy_3 rfl rfl ?_
    refine E_getr (i := 0) dX12_fallsBy_4 fl_RX12_13 rfl rfl (go_12_10 _ _) ?_
    refine E_ic dX12_fallsBy_7 rfl ?_
    refine E_iald dX12_fallsBy_8 sh_1310 (by decide) (by decide) ?_
    refine E_icmp_ge (tgt := 43) dX12_fallsBy_9 (by decide) (fun hc => ?_) (fun hc => ?_)
    · have h := Eq.mp (if_pos hc) h
      refine E_bp dX12_fallsBy_43 rfl ?_
      exact E_iret dX12_fallsBy_45 rfl ⟨_, rfl, rfl, h⟩
    · have h := Eq.mp (if_neg hc) h
      refine E_aload_n dX12_fallsBy_12 rfl rfl ?_
      refine E_getr (i := 0) dX12_fallsBy_13 fl_RX12_111 rfl rfl (go_12_46 _ _) ?_
      refine E_bp dX12_fallsBy_16 rfl ?_
      refine E_aload_n dX12_fallsBy_18 rfl rfl ?_
      refine E_getr (i := 0) dX12_fallsBy_19 fl_RX12_129 rfl rfl (go_12_53 _ _) ?_
      refine E_iload_n dX12_fallsBy_22 rfl rfl ?_
      obtain ⟨hg0, hg1, h⟩ := h
      refine E_iald dX12_fallsBy_23 sh_1353 hg0 hg1 ?_
      refine E_iadd dX12_fallsBy_24 ?_
      obtain ⟨hg0, hg1, h⟩ := h
      refine E_iald dX12_fallsBy_25 sh_1346 hg0 hg1 ?_
      refine E_iload_n dX12_fallsBy_26 rfl rfl ?_
      refine E_icmp_lt (tgt := 37) dX12_fallsBy_27 (by decide) (fun hc => ?_) (fun hc => ?_)
      · have h := Eq.mp (if_pos hc) h
        refine E_iinc (ls' := [some (vR 12 0), some (vI x1), some (vI (wi (x2 + 1)))]) dX12_fallsBy_37 rfl (by decide) rfl rfl ?_
        refine E_goto (tgt := 2) dX12_fallsBy_40 (by decide) ?_
        exact hR _ _ h
      · have h := Eq.mp (if_neg hc) h
        refine E_aload_n dX12_fallsBy_30 rfl rfl ?_
        refine E_getr (i := 0) dX12_fallsBy_31 fl_RX12_129 rfl rfl (go_12_53 _ _) ?_
        refine E_iload_n dX12_fallsBy_34 rfl rfl ?_
        obtain ⟨hg0, hg1, h⟩ := h
        refine E_iald dX12_fallsBy_35 sh_1353 hg0 hg1 ?_
        exact E_iret dX12_fallsBy_36 rfl ⟨_, rfl, rfl, h⟩
def P_X12_fallsBy  (x1 : Int) (σ : St) (Q : Int → St → Prop) : Prop :=
  P_X12_fallsBy_L2 x1 Q FU 0 σ
set_option maxRecDepth 20000 in
set_option maxHeartbeats 2000000 in
theorem s_X12_fallsBy   {x1 : Int} {σ : St} {Q : Int → St → Prop} (h : P_X12_fallsBy x1 σ Q) : Cn Y_X12_fallsBy 0 0 0 ww σ [vR 12 0, vI x1] (QI Q) := by
  refine Cn_of [some (vR 12 0), some (vI x1), none] (by decide) (Nat.le_of_ble_eq_true rfl) rfl ?_
  unfold P_X12_fallsBy at h
  refine E_ic dX12_fallsBy_0 rfl ?_
  refine E_istore_n (ls' := [some (vR 12 0), some (vI x1), some (vI 0)]) dX12_fallsBy_1 rfl (by decide) rfl ?_
  refine e_P_X12_fallsBy_L2  _ _ _ h
abbrev Y_X12_fallOf : My := (yX12_fallOf, cX12_fallOf, 2, some .int)
theorem dX12_fallOf_0 : decode cX12_fallOf 0 = .ok (.aload_n 0, 1) := by decide +kernel
theorem dX12_fallOf_1 : decode cX12_fallOf 1 = .ok (.aload_n 0, 1) := by decide +kernel
theorem dX12_fallOf_2 : decode cX12_fallOf 2 = .ok (.getfield 111, 3) := by decide +kernel
theorem dX12_fallOf_5 : decode cX12_fallOf 5 = .ok (.bipush 16, 2) := by decide +kernel
theorem dX12_fallOf_7 : decode cX12_fallOf 7 = .ok (.iload_n 1, 1) := by decide +kernel
theorem dX12_fallOf_8 : decode cX12_fallOf 8 = .ok (.iadd, 1) := by decide +kernel
theorem dX12_fallOf_9 : decode cX12_fallOf 9 = .ok (.iaload, 1) := by decide +kernel
theorem dX12_fallOf_10 : decode cX12_fallOf 10 = .ok (.invokevirtual 356, 3) := by decide +kernel
theorem dX12_fallOf_13 : decode cX12_fallOf 13 = .ok (.ireturn, 1) := by decide +kernel
theorem lk_RX12_356 : Cond.methodLink RX12 356 yX12_fallsBy ∈ tG := inG (i := 1802) (by decide +kernel) (by decide +kernel)
theorem m_X12_fallsBy : MV Y_X12_fallsBy 1 12 := ⟨⟨inG (i := 1805) (by decide +kernel) (by decide +kernel), inG (i := 110) (by decide +kernel) (by decide +kernel), by decide, by decide, by decide, by decide +kernel⟩, inG (i := 1804) (by decide +kernel) (by decide +kernel), inG (i := 70) (by decide +kernel) (by decide +kernel), by decide⟩
def P_X12_fallOf  (x1 : Int) (σ : St) (Q : Int → St → Prop) : Prop :=
  0 ≤ wi (16 + x1) ∧ wi (16 + x1) < 46 ∧ P_X12_fallsBy (σ 1346 0 (wi (16 + x1))) σ (fun r_2 σ_1 => Q r_2 σ_1)
set_option maxRecDepth 20000 in
set_option maxHeartbeats 2000000 in
theorem s_X12_fallOf   {x1 : Int} {σ : St} {Q : Int → St → Prop} (h : P_X12_fallOf x1 σ Q) : Cn Y_X12_fallOf 1 0 0 ww σ [vR 12 0, vI x1] (QI Q) := by
  refine Cn_of [some (vR 12 0), some (vI x1)] (by decide) (Nat.le_of_ble_eq_true rfl) rfl ?_
  unfold P_X12_fallOf at h
  refine E_aload_n dX12_fallOf_0 rfl rfl ?_
  refine E_aload_n dX12_fallOf_1 rfl rfl ?_
  refine E_getr (i := 0) dX12_fallOf_2 fl_RX12_111 rfl rfl (go_12_46 _ _) ?_
  refine E_bp dX12_fallOf_5 rfl ?_
  refine E_iload_n dX12_fallOf_7 rfl rfl ?_
  refine E_iadd dX12_fallOf_8 ?_
  obtain ⟨hg0, hg1, h⟩ := h
  refine E_iald dX12_fallOf_9 sh_1346 hg0 hg1 ?_
  refine E_callV (Y' := Y_X12_fallsBy) (as := [vI (σ 1346 0 (wi (16 + x1)))]) (st := []) dX12_fallOf_10 lk_RX12_356 m_X12_fallsBy (by decide) (Nat.le_refl _) (Nat.le_refl _) rfl rfl (Nat.le_of_ble_eq_true rfl) (s_X12_fallsBy h) (fun r0 B0 σ_1 h => ?_)
  obtain ⟨r_2, rfl, rfl, h⟩ := h
  exact E_iret dX12_fallOf_13 rfl ⟨_, rfl, rfl, h⟩
abbrev Y_X12_placeOf : My := (yX12_placeOf, cX12_placeOf, 2, some .int)
theorem dX12_placeOf_0 : decode cX12_placeOf 0 = .ok (.iload_n 1, 1) := by decide +kernel
theorem dX12_placeOf_1 : decode cX12_placeOf 1 = .ok (.bipush 6, 2) := by decide +kernel
theorem dX12_placeOf_3 : decode cX12_placeOf 3 = .ok (.if_icmp .ge 12, 3) := by decide +kernel
theorem dX12_placeOf_6 : decode cX12_placeOf 6 = .ok (.aload_n 0, 1) := by decide +kernel
theorem dX12_placeOf_7 : decode cX12_placeOf 7 = .ok (.getfield 23, 3) := by decide +kernel
theorem dX12_placeOf_10 : decode cX12_placeOf 10 = .ok (.iload_n 1, 1) := by decide +kernel
theorem dX12_placeOf_11 : decode cX12_placeOf 11 = .ok (.iaload, 1) := by decide +kernel
theorem dX12_placeOf_12 : decode cX12_placeOf 12 = .ok (.goto 36, 3) := by decide +kernel
theorem dX12_placeOf_15 : decode cX12_placeOf 15 = .ok (.aload_n 0, 1) := by decide +kernel
theorem dX12_placeOf_16 : decode cX12_placeOf 16 = .ok (.getfield 13, 3) := by decide +kernel
theorem dX12_placeOf_19 : decode cX12_placeOf 19 = .ok (.iconst 0, 1) := by decide +kernel
theorem dX12_placeOf_20 : decode cX12_placeOf 20 = .ok (.iaload, 1) := by decide +kernel
theorem dX12_placeOf_21 : decode cX12_placeOf 21 = .ok (.ifCond .ne 7, 3) := by decide +kernel
theorem dX12_placeOf_24 : decode cX12_placeOf 24 = .ok (.iconst 1, 1) := by decide +kernel
theorem dX12_placeOf_25 : decode cX12_placeOf 25 = .ok (.goto 23, 3) := by decide +kernel
theorem dX12_placeOf_28 : decode cX12_placeOf 28 = .ok (.aload_n 0, 1) := by decide +kernel
theorem dX12_placeOf_29 : decode cX12_placeOf 29 = .ok (.getfield 23, 3) := by decide +kernel
theorem dX12_placeOf_32 : decode cX12_placeOf 32 = .ok (.aload_n 0, 1) := by decide +kernel
theorem dX12_placeOf_33 : decode cX12_placeOf 33 = .ok (.getfield 129, 3) := by decide +kernel
theorem dX12_placeOf_36 : decode cX12_placeOf 36 = .ok (.aload_n 0, 1) := by decide +kernel
theorem dX12_placeOf_37 : decode cX12_placeOf 37 = .ok (.getfield 13, 3) := by decide +kernel
theorem dX12_placeOf_40 : decode cX12_placeOf 40 = .ok (.iconst 0, 1) := by decide +kernel
theorem dX12_placeOf_41 : decode cX12_placeOf 41 = .ok (.iaload, 1) := by decide +kernel
theorem dX12_placeOf_42 : decode cX12_placeOf 42 = .ok (.iconst 1, 1) := by decide +kernel
theorem dX12_placeOf_43 : decode cX12_placeOf 43 = .ok (.isub, 1) := by decide +kernel
theorem dX12_placeOf_44 : decode cX12_placeOf 44 = .ok (.iaload, 1) := by decide +kernel
theorem dX12_placeOf_45 : decode cX12_placeOf 45 = .ok (.iaload, 1) := by decide +kernel
theorem dX12_placeOf_46 : decode cX12_placeOf 46 = .ok (.iconst 1, 1) := by decide +kernel
theorem dX12_placeOf_47 : decode cX12_placeOf 47 = .ok (.iadd, 1) := by decide +kernel
theorem dX12_placeOf_48 : decode cX12_placeOf 48 = .ok (.ireturn, 1) := by decide +kernel
def P_X12_placeOf  (x1 : Int) (σ : St) (Q : Int → St → Prop) : Prop :=
  (if 6 ≤ x1 then (if (σ 1310 0 0) = 0 then Q 1 σ else 0 ≤ wi ((σ 1310 0 0) - 1) ∧ wi ((σ 1310 0 0) - 1) < 6 ∧ 0 ≤ σ 1353 0 (wi ((σ 1310 0 0) - 1)) ∧ σ 1353 0 (wi ((σ 1310 0 0) - 1)) < 12 ∧ Q (wi ((σ 1313 0 (σ 1353 0 (wi ((σ 1310 0 0) - 1)))) + 1)) σ) else 0 ≤ x1 ∧ x1 < 12 ∧ Q (σ 1313 0 x1) σ)
set_option maxRecDepth 20000 in
set_option maxHeartbeats 2000000 in
theorem s_X12_placeOf   {x1 : Int} {σ : St} {Q : Int → St → Prop} (h : P_X12_placeOf x1 σ Q) : Cn Y_X12_placeOf 0 0 0 ww σ [vR 12 0, vI x1] (QI Q) := by
  refine Cn_of [some (vR 12 0), some (vI x1)] (by decide) (Nat.le_of_ble_eq_true rfl) rfl ?_
  unfold P_X12_placeOf at h
  refine E_iload_n dX12_placeOf_0 rfl rfl ?_
  refine E_bp dX12_placeOf_1 rfl ?_
  refine E_icmp_ge (tgt := 15) dX12_placeOf_3 (by decide) (fun hc => ?_) (fun hc => ?_)
  · have h := Eq.mp (if_pos hc) h
    refine E_aload_n dX12_placeOf_15 rfl rfl ?_
    refine E_getr (i := 0) dX12_placeOf_16 fl_RX12_13 rfl rfl (go_12_10 _ _) ?_
    refine E_ic dX12_placeOf_19 rfl ?_
    refine E_iald dX12_placeOf_20 sh_1310 (by decide) (by decide) ?_
    refine E_if_ne (tgt := 28) dX12_placeOf_21 (by decide) (fun hc => ?_) (fun hc => ?_)
    · have h := Eq.mp (if_neg hc) h
      refine E_aload_n dX12_placeOf_28 rfl rfl ?_
      refine E_getr (i := 0) dX12_placeOf_29 fl_RX12_23 rfl rfl (go_12_13 _ _) ?_
      refine E_aload_n dX12_placeOf_32 rfl rfl ?_
      refine E_getr (i := 0) dX12_placeOf_33 fl_RX12_129 rfl rfl (go_12_53 _ _) ?_
      refine E_aload_n dX12_placeOf_36 rfl rfl ?_
      refine E_getr (i := 0) dX12_placeOf_37 fl_RX12_13 rfl rfl (go_12_10 _ _) ?_
      refine E_ic dX12_placeOf_40 rfl ?_
      refine E_iald dX12_placeOf_41 sh_1310 (by decide) (by decide) ?_
      refine E_ic dX12_placeOf_42 rfl ?_
      refine E_isub dX12_placeOf_43 ?_
      obtain ⟨hg0, hg1, h⟩ := h
      refine E_iald dX12_placeOf_44 sh_1353 hg0 hg1 ?_
      obtain ⟨hg0, hg1, h⟩ := h
      refine E_iald dX12_placeOf_45 sh_1313 hg0 hg1 ?_
      refine E_ic dX12_placeOf_46 rfl ?_
      refine E_iadd dX12_placeOf_47 ?_
      exact E_iret dX12_placeOf_48 rfl ⟨_, rfl, rfl, h⟩
    · have h := Eq.mp (if_pos hc) h
      refine E_ic dX12_placeOf_24 rfl ?_
      refine E_goto (tgt := 48) dX12_placeOf_25 (by decide) ?_
      exact E_iret dX12_placeOf_48 rfl ⟨_, rfl, rfl, h⟩
  · have h := Eq.mp (if_neg hc) h
    refine E_aload_n dX12_placeOf_6 rfl rfl ?_
    refine E_getr (i := 0) dX12_placeOf_7 fl_RX12_23 rfl rfl (go_12_13 _ _) ?_
    refine E_iload_n dX12_placeOf_10 rfl rfl ?_
    obtain ⟨hg0, hg1, h⟩ := h
    refine E_iald dX12_placeOf_11 sh_1313 hg0 hg1 ?_
    refine E_goto (tgt := 48) dX12_placeOf_12 (by decide) ?_
    exact E_iret dX12_placeOf_48 rfl ⟨_, rfl, rfl, h⟩
abbrev Y_X12_beatsTo : My := (yX12_beatsTo, cX12_beatsTo, 3, some .int)
theorem dX12_beatsTo_0 : decode cX12_beatsTo 0 = .ok (.aload_n 0, 1) := by decide +kernel
theorem dX12_beatsTo_1 : decode cX12_beatsTo 1 = .ok (.iload_n 2, 1) := by decide +kernel
theorem dX12_beatsTo_2 : decode cX12_beatsTo 2 = .ok (.invokevirtual 359, 3) := by decide +kernel
theorem dX12_beatsTo_5 : decode cX12_beatsTo 5 = .ok (.aload_n 0, 1) := by decide +kernel
theorem dX12_beatsTo_6 : decode cX12_beatsTo 6 = .ok (.getfield 29, 3) := by decide +kernel
theorem dX12_beatsTo_9 : decode cX12_beatsTo 9 = .ok (.iload_n 1, 1) := by decide +kernel
theorem dX12_beatsTo_10 : decode cX12_beatsTo 10 = .ok (.iaload, 1) := by decide +kernel
theorem dX12_beatsTo_11 : decode cX12_beatsTo 11 = .ok (.iconst 3, 1) := by decide +kernel
theorem dX12_beatsTo_12 : decode cX12_beatsTo 12 = .ok (.if_icmp .ne 7, 3) := by decide +kernel
theorem dX12_beatsTo_15 : decode cX12_beatsTo 15 = .ok (.iconst 2, 1) := by decide +kernel
theorem dX12_beatsTo_16 : decode cX12_beatsTo 16 = .ok (.goto 4, 3) := by decide +kernel
theorem dX12_beatsTo_19 : decode cX12_beatsTo 19 = .ok (.iconst 1, 1) := by decide +kernel
theorem dX12_beatsTo_20 : decode cX12_beatsTo 20 = .ok (.imul, 1) := by decide +kernel
theorem dX12_beatsTo_21 : decode cX12_beatsTo 21 = .ok (.ireturn, 1) := by decide +kernel
theorem lk_RX12_359 : Cond.methodLink RX12 359 yX12_placeOf ∈ tG := inG (i := 1782) (by decide +kernel) (by decide +kernel)
theorem m_X12_placeOf : MV Y_X12_placeOf 1 12 := ⟨⟨inG (i := 1785) (by decide +kernel) (by decide +kernel), inG (i := 110) (by decide +kernel) (by decide +kernel), by decide, by decide, by decide, by decide +kernel⟩, inG (i := 1784) (by decide +kernel) (by decide +kernel), inG (i := 66) (by decide +kernel) (by decide +kernel), by decide⟩
def P_X12_beatsTo  (x1 : Int) (x2 : Int) (σ : St) (Q : Int → St → Prop) : Prop :=
  P_X12_placeOf x2 σ (fun r_2 σ_1 => 0 ≤ x1 ∧ x1 < 12 ∧ (if (σ_1 1315 0 x1) = 3 then Q (wi (r_2 * 2)) σ_1 else Q (wi (r_2 * 1)) σ_1))
set_option maxRecDepth 20000 in
set_option maxHeartbeats 2000000 in
theorem s_X12_beatsTo   {x1 : Int} {x2 : Int} {σ : St} {Q : Int → St → Prop} (h : P_X12_beatsTo x1 x2 σ Q) : Cn Y_X12_beatsTo 1 0 0 ww σ [vR 12 0, vI x1, vI x2] (QI Q) := by
  refine Cn_of [some (vR 12 0), some (vI x1), some (vI x2)] (by decide) (Nat.le_of_ble_eq_true rfl) rfl ?_
  unfold P_X12_beatsTo at h
  refine E_aload_n dX12_beatsTo_0 rfl rfl ?_
  refine E_iload_n dX12_beatsTo_1 rfl rfl ?_
  refine E_callV (Y' := Y_X12_placeOf) (as := [vI x2]) (st := []) dX12_beatsTo_2 lk_RX12_359 m_X12_placeOf (by decide) (Nat.le_refl _) (Nat.le_refl _) rfl rfl (Nat.le_of_ble_eq_true rfl) (s_X12_placeOf h) (fun r0 B0 σ_1 h => ?_)
  obtain ⟨r_2, rfl, rfl, h⟩ := h
  refine E_aload_n dX12_beatsTo_5 rfl rfl ?_
  refine E_getr (i := 0) dX12_beatsTo_6 fl_RX12_29 rfl rfl (go_12_15 _ _) ?_
  refine E_iload_n dX12_beatsTo_9 rfl rfl ?_
  obtain ⟨hg0, hg1, h⟩ := h
  refine E_iald dX12_beatsTo_10 sh_1315 hg0 hg1 ?_
  refine E_ic dX12_beatsTo_11 rfl ?_
  refine E_icmp_ne (tgt := 19) dX12_beatsTo_12 (by decide) (fun hc => ?_) (fun hc => ?_)
  · have h := Eq.mp (if_neg hc) h
    refine E_ic dX12_beatsTo_19 rfl ?_
    refine E_imul dX12_beatsTo_20 ?_
    exact E_iret dX12_beatsTo_21 rfl ⟨_, rfl, rfl, h⟩
  · have h := Eq.mp (if_pos hc) h
    refine E_ic dX12_beatsTo_15 rfl ?_
    refine E_goto (tgt := 20) dX12_beatsTo_16 (by decide) ?_
    refine E_imul dX12_beatsTo_20 ?_
    exact E_iret dX12_beatsTo_21 rfl ⟨_, rfl, rfl, h⟩
abbrev Y_X12_canSend : My := (yX12_canSend, cX12_canSend, 2, some .boolean)
theorem dX12_canSend_0 : decode cX12_canSend 0 = .ok (.aload_n 0, 1) := by decide +kernel
theorem dX12_canSend_1 : decode cX12_canSend 1 = .ok (.getfield 111, 3) := by decide +kernel
theorem dX12_canSend_4 : decode cX12_canSend 4 = .ok (.bipush 22, 2) := by decide +kernel
theorem dX12_canSend_6 : decode cX12_canSend 6 = .ok (.iload_n 1, 1) := by decide +kernel
theorem dX12_canSend_7 : decode cX12_canSend 7 = .ok (.iadd, 1) := by decide +kernel
theorem dX12_canSend_8 : decode cX12_canSend 8 = .ok (.iaload, 1) := by decide +kernel
theorem dX12_canSend_9 : decode cX12_canSend 9 = .ok (.ifCond .ne 21, 3) := by decide +kernel
theorem dX12_canSend_12 : decode cX12_canSend 12 = .ok (.aload_n 0, 1) := by decide +kernel
theorem dX12_canSend_13 : decode cX12_canSend 13 = .ok (.getfield 111, 3) := by decide +kernel
theorem dX12_canSend_16 : decode cX12_canSend 16 = .ok (.bipush 28, 2) := by decide +kernel
theorem dX12_canSend_18 : decode cX12_canSend 18 = .ok (.iload_n 1, 1) := by decide +kernel
theorem dX12_canSend_19 : decode cX12_canSend 19 = .ok (.iadd, 1) := by decide +kernel
theorem dX12_canSend_20 : decode cX12_canSend 20 = .ok (.iaload, 1) := by decide +kernel
theorem dX12_canSend_21 : decode cX12_canSend 21 = .ok (.bipush 6, 2) := by decide +kernel
theorem dX12_canSend_23 : decode cX12_canSend 23 = .ok (.if_icmp .ge 7, 3) := by decide +kernel
theorem dX12_canSend_26 : decode cX12_canSend 26 = .ok (.iconst 1, 1) := by decide +kernel
theorem dX12_canSend_27 : decode cX12_canSend 27 = .ok (.goto 4, 3) := by decide +kernel
theorem dX12_canSend_30 : decode cX12_canSend 30 = .ok (.iconst 0, 1) := by decide +kernel
theorem dX12_canSend_31 : decode cX12_canSend 31 = .ok (.ireturn, 1) := by decide +kernel
def P_X12_canSend_J30    (Q : Int → St → Prop) (σ : St) : Prop :=
  Q 0 σ
set_option maxRecDepth 20000 in
set_option maxHeartbeats 2000000 in
theorem e_P_X12_canSend_J30    {Q : Int → St → Prop} {σ : St}   (h : P_X12_canSend_J30  Q σ) : E Y_X12_canSend 0 0 0 (QI Q) ww 0 0 30 [none, none] [] σ := by
  unfold P_X12_canSend_J30 at h
  refine E_ic dX12_canSend_30 rfl ?_
  exact E_zret dX12_canSend_31 rfl (by decide) ⟨_, rfl, rfl, h⟩
def P_X12_canSend  (x1 : Int) (σ : St) (Q : Int → St → Prop) : Prop :=
  0 ≤ wi (22 + x1) ∧ wi (22 + x1) < 46 ∧ (if (σ 1346 0 (wi (22 + x1))) = 0 then 0 ≤ wi (28 + x1) ∧ wi (28 + x1) < 46 ∧ (if 6 ≤ (σ 1346 0 (wi (28 + x1))) then P_X12_canSend_J30 Q σ else Q 1 σ) else P_X12_canSend_J30 Q σ)
set_option maxRecDepth 20000 in
set_option maxHeartbeats 2000000 in
theorem s_X12_canSend   {x1 : Int} {σ : St} {Q : Int → St → Prop} (h : P_X12_canSend x1 σ Q) : Cn Y_X12_canSend 0 0 0 ww σ [vR 12 0, vI x1] (QI Q) := by
  refine Cn_of [some (vR 12 0), some (vI x1)] (by decide) (Nat.le_of_ble_eq_true rfl) rfl ?_
  unfold P_X12_canSend at h
  refine E_aload_n dX12_canSend_0 rfl rfl ?_
  refine E_getr (i := 0) dX12_canSend_1 fl_RX12_111 rfl rfl (go_12_46 _ _) ?_
  refine E_bp dX12_canSend_4 rfl ?_
  refine E_iload_n dX12_canSend_6 rfl rfl ?_
  refine E_iadd dX12_canSend_7 ?_
  obtain ⟨hg0, hg1, h⟩ := h
  refine E_iald dX12_canSend_8 sh_1346 hg0 hg1 ?_
  refine E_if_ne (tgt := 30) dX12_canSend_9 (by decide) (fun hc => ?_) (fun hc => ?_)
  · have h := Eq.mp (if_neg hc) h
    refine E_wk2 [none, none] trivial ?_
    exact e_P_X12_canSend_J30 h
  · have h := Eq.mp (if_pos hc) h
    refine E_aload_n dX12_canSend_12 rfl rfl ?_
    refine E_getr (i := 0) dX12_canSend_13 fl_RX12_111 rfl rfl (go_12_46 _ _) ?_
    refine E_bp dX12_canSend_16 rfl ?_
    refine E_iload_n dX12_canSend_18 rfl rfl ?_
    refine E_iadd dX12_canSend_19 ?_
    obtain ⟨hg0, hg1, h⟩ := h
    refine E_iald dX12_canSend_20 sh_1346 hg0 hg1 ?_
    refine E_bp dX12_canSend_21 rfl ?_
    refine E_icmp_ge (tgt := 30) dX12_canSend_23 (by decide) (fun hc => ?_) (fun hc => ?_)
    · have h := Eq.mp (if_pos hc) h
      refine E_wk2 [none, none] trivial ?_
      exact e_P_X12_canSend_J30 h
    · have h := Eq.mp (if_neg hc) h
      refine E_ic dX12_canSend_26 rfl ?_
      refine E_goto (tgt := 31) dX12_canSend_27 (by decide) ?_
      exact E_zret dX12_canSend_31 rfl (by decide) ⟨_, rfl, rfl, h⟩
abbrev Y_X12_sends : My := (yX12_sends, cX12_sends, 2, none)
theorem dX12_sends_0 : decode cX12_sends 0 = .ok (.aload_n 0, 1) := by decide +kernel
theorem dX12_sends_1 : decode cX12_sends 1 = .ok (.getfield 111, 3) := by decide +kernel
theorem dX12_sends_4 : decode cX12_sends 4 = .ok (.bipush 22, 2) := by decide +kernel
theorem dX12_sends_6 : decode cX12_sends 6 = .ok (.iload_n 1, 1) := by decide +kernel
theorem dX12_sends_7 : decode cX12_sends 7 = .ok (.iadd, 1) := by decide +kernel
theorem dX12_sends_8 : decode cX12_sends 8 = .ok (.iconst 1, 1) := by decide +kernel
theorem dX12_sends_9 : decode cX12_sends 9 = .ok (.iastore, 1) := by decide +kernel
theorem dX12_sends_10 : decode cX12_sends 10 = .ok (.aload_n 0, 1) := by decide +kernel
theorem dX12_sends_11 : decode cX12_sends 11 = .ok (.getfield 111, 3) := by decide +kernel
theorem dX12_sends_14 : decode cX12_sends 14 = .ok (.bipush 34, 2) := by decide +kernel
theorem dX12_sends_16 : decode cX12_sends 16 = .ok (.iload_n 1, 1) := by decide +kernel
theorem dX12_sends_17 : decode cX12_sends 17 = .ok (.iadd, 1) := by decide +kernel
theorem dX12_sends_18 : decode cX12_sends 18 = .ok (.aload_n 0, 1) := by decide +kernel
theorem dX12_sends_19 : decode cX12_sends 19 = .ok (.iload_n 1, 1) := by decide +kernel
theorem dX12_sends_20 : decode cX12_sends 20 = .ok (.aload_n 0, 1) := by decide +kernel
theorem dX12_sends_21 : decode cX12_sends 21 = .ok (.getfield 111, 3) := by decide +kernel
theorem dX12_sends_24 : decode cX12_sends 24 = .ok (.bipush 28, 2) := by decide +kernel
theorem dX12_sends_26 : decode cX12_sends 26 = .ok (.iload_n 1, 1) := by decide +kernel
theorem dX12_sends_27 : decode cX12_sends 27 = .ok (.iadd, 1) := by decide +kernel
theorem dX12_sends_28 : decode cX12_sends 28 = .ok (.iaload, 1) := by decide +kernel
theorem dX12_sends_29 : decode cX12_sends 29 = .ok (.invokevirtual 362, 3) := by decide +kernel
theorem dX12_sends_32 : decode cX12_sends 32 = .ok (.iastore, 1) := by decide +kernel
theorem dX12_sends_33 : decode cX12_sends 33 = .ok (.aload_n 0, 1) := by decide +kernel
theorem dX12_sends_34 : decode cX12_sends 34 = .ok (.getfield 111, 3) := by decide +kernel
theorem dX12_sends_37 : decode cX12_sends 37 = .ok (.bipush 40, 2) := by decide +kernel
theorem dX12_sends_39 : decode cX12_sends 39 = .ok (.iload_n 1, 1) := by decide +kernel
theorem dX12_sends_40 : decode cX12_sends 40 = .ok (.iadd, 1) := by decide +kernel
theorem dX12_sends_41 : decode cX12_sends 41 = .ok (.dup2, 1) := by decide +kernel
theorem dX12_sends_42 : decode cX12_sends 42 = .ok (.iaload, 1) := by decide +kernel
theorem dX12_sends_43 : decode cX12_sends 43 = .ok (.iconst 1, 1) := by decide +kernel
theorem dX12_sends_44 : decode cX12_sends 44 = .ok (.iadd, 1) := by decide +kernel
theorem dX12_sends_45 : decode cX12_sends 45 = .ok (.iastore, 1) := by decide +kernel
theorem dX12_sends_46 : decode cX12_sends 46 = .ok (.return_, 1) := by decide +kernel
theorem lk_RX12_362 : Cond.methodLink RX12 362 yX12_beatsTo ∈ tG := inG (i := 1778) (by decide +kernel) (by decide +kernel)
theorem m_X12_beatsTo : MV Y_X12_beatsTo 2 12 := ⟨⟨inG (i := 1781) (by decide +kernel) (by decide +kernel), inG (i := 110) (by decide +kernel) (by decide +kernel), by decide, by decide, by decide, by decide +kernel⟩, inG (i := 1780) (by decide +kernel) (by decide +kernel), inG (i := 65) (by decide +kernel) (by decide +kernel), by decide⟩
def P_X12_sends  (x1 : Int) (σ : St) (Q : St → Prop) : Prop :=
  0 ≤ wi (22 + x1) ∧ wi (22 + x1) < 46 ∧ 0 ≤ wi (28 + x1) ∧ wi (28 + x1) < 46 ∧ P_X12_beatsTo x1 ((up σ 1346 0 (wi (22 + x1)) 1) 1346 0 (wi (28 + x1))) (up σ 1346 0 (wi (22 + x1)) 1) (fun r_2 σ_1 => 0 ≤ wi (34 + x1) ∧ wi (34 + x1) < 46 ∧ 0 ≤ wi (40 + x1) ∧ wi (40 + x1) < 46 ∧ 0 ≤ wi (40 + x1) ∧ wi (40 + x1) < 46 ∧ Q (up (up σ_1 1346 0 (wi (34 + x1)) r_2) 1346 0 (wi (40 + x1)) (wi (((up σ_1 1346 0 (wi (34 + x1)) r_2) 1346 0 (wi (40 + x1))) + 1))))
set_option maxRecDepth 20000 in
set_option maxHeartbeats 2000000 in
theorem s_X12_sends   {x1 : Int} {σ : St} {Q : St → Prop} (h : P_X12_sends x1 σ Q) : Cn Y_X12_sends 2 0 0 ww σ [vR 12 0, vI x1] (QV Q) := by
  refine Cn_of [some (vR 12 0), some (vI x1)] (by decide) (Nat.le_of_ble_eq_true rfl) rfl ?_
  unfold P_X12_sends at h
  refine E_aload_n dX12_sends_0 rfl rfl ?_
  refine E_getr (i := 0) dX12_sends_1 fl_RX12_111 rfl rfl (go_12_46 _ _) ?_
  refine E_bp dX12_sends_4 rfl ?_
  refine E_iload_n dX12_sends_6 rfl rfl ?_
  refine E_iadd dX12_sends_7 ?_
  refine E_ic dX12_sends_8 rfl ?_
  obtain ⟨hg0, hg1, h⟩ := h
  refine E_iast dX12_sends_9 sh_1346 hg0 hg1 ?_
  refine E_aload_n dX12_sends_10 rfl rfl ?_
  refine E_getr (i := 0) dX12_sends_11 fl_RX12_111 rfl rfl (go_12_46 _ _) ?_
  refine E_bp dX12_sends_14 rfl ?_
  refine E_iload_n dX12_sends_16 rfl rfl ?_
  refine E_iadd dX12_sends_17 ?_
  refine E_aload_n dX12_sends_18 rfl rfl ?_
  refine E_iload_n dX12_sends_19 rfl rfl ?_
  refine E_aload_n dX12_sends_20 rfl rfl ?_
  refine E_getr (i := 0) dX12_sends_21 fl_RX12_111 rfl rfl (go_12_46 _ _) ?_
  refine E_bp dX12_sends_24 rfl ?_
  refine E_iload_n dX12_sends_26 rfl rfl ?_
  refine E_iadd dX12_sends_27 ?_
  obtain ⟨hg0, hg1, h⟩ := h
  refine E_iald dX12_sends_28 sh_1346 hg0 hg1 ?_
  refine E_callV (Y' := Y_X12_beatsTo) (as := [vI x1, vI ((up σ 1346 0 (wi (22 + x1)) 1) 1346 0 (wi (28 + x1)))]) (st := [vI (wi (34 + x1)), vR 1346 0]) dX12_sends_29 lk_RX12_362 m_X12_beatsTo (by decide) (Nat.le_refl _) (Nat.le_refl _) rfl rfl (Nat.le_of_ble_eq_true rfl) (s_X12_beatsTo h) (fun r0 B0 σ_1 h => ?_)
  obtain ⟨r_2, rfl, rfl, h⟩ := h
  obtain ⟨hg0, hg1, h⟩ := h
  refine E_iast dX12_sends_32 sh_1346 hg0 hg1 ?_
  refine E_aload_n dX12_sends_33 rfl rfl ?_
  refine E_getr (i := 0) dX12_sends_34 fl_RX12_111 rfl rfl (go_12_46 _ _) ?_
  refine E_bp dX12_sends_37 rfl ?_
  refine E_iload_n dX12_sends_39 rfl rfl ?_
  refine E_iadd dX12_sends_40 ?_
  refine E_dup2 dX12_sends_41 (fun _ q => by cases q) (fun _ q => by cases q) ?_
  obtain ⟨hg0, hg1, h⟩ := h
  refine E_iald dX12_sends_42 sh_1346 hg0 hg1 ?_
  refine E_ic dX12_sends_43 rfl ?_
  refine E_iadd dX12_sends_44 ?_
  obtain ⟨hg0, hg1, h⟩ := h
  refine E_iast dX12_sends_45 sh_1346 hg0 hg1 ?_
  exact E_vret dX12_sends_46 rfl ⟨rfl, rfl, h⟩
abbrev Y_X12_serves : My := (yX12_serves, cX12_serves, 3, none)
theorem dX12_serves_0 : decode cX12_serves 0 = .ok (.aload_n 0, 1) := by decide +kernel
theorem dX12_serves_1 : decode cX12_serves 1 = .ok (.getfield 111, 3) := by decide +kernel
theorem dX12_serves_4 : decode cX12_serves 4 = .ok (.iconst 4, 1) := by decide +kernel
theorem dX12_serves_5 : decode cX12_serves 5 = .ok (.iaload, 1) := by decide +kernel
theorem dX12_serves_6 : decode cX12_serves 6 = .ok (.istore_n 1, 1) := by decide +kernel
theorem dX12_serves_7 : decode cX12_serves 7 = .ok (.iconst 1, 1) := by decide +kernel
theorem dX12_serves_8 : decode cX12_serves 8 = .ok (.istore_n 2, 1) := by decide +kernel
theorem dX12_serves_9 : decode cX12_serves 9 = .ok (.iload_n 2, 1) := by decide +kernel
theorem dX12_serves_10 : decode cX12_serves 10 = .ok (.aload_n 0, 1) := by decide +kernel
theorem dX12_serves_11 : decode cX12_serves 11 = .ok (.getfield 111, 3) := by decide +kernel
theorem dX12_serves_14 : decode cX12_serves 14 = .ok (.iconst 3, 1) := by decide +kernel
theorem dX12_serves_15 : decode cX12_serves 15 = .ok (.iaload, 1) := by decide +kernel
theorem dX12_serves_16 : decode cX12_serves 16 = .ok (.if_icmp .ge 27, 3) := by decide +kernel
theorem dX12_serves_19 : decode cX12_serves 19 = .ok (.aload_n 0, 1) := by decide +kernel
theorem dX12_serves_20 : decode cX12_serves 20 = .ok (.getfield 111, 3) := by decide +kernel
theorem dX12_serves_23 : decode cX12_serves 23 = .ok (.iconst 4, 1) := by decide +kernel
theorem dX12_serves_24 : decode cX12_serves 24 = .ok (.iload_n 2, 1) := by decide +kernel
theorem dX12_serves_25 : decode cX12_serves 25 = .ok (.iadd, 1) := by decide +kernel
theorem dX12_serves_26 : decode cX12_serves 26 = .ok (.iconst 1, 1) := by decide +kernel
theorem dX12_serves_27 : decode cX12_serves 27 = .ok (.isub, 1) := by decide +kernel
theorem dX12_serves_28 : decode cX12_serves 28 = .ok (.aload_n 0, 1) := by decide +kernel
theorem dX12_serves_29 : decode cX12_serves 29 = .ok (.getfield 111, 3) := by decide +kernel
theorem dX12_serves_32 : decode cX12_serves 32 = .ok (.iconst 4, 1) := by decide +kernel
theorem dX12_serves_33 : decode cX12_serves 33 = .ok (.iload_n 2, 1) := by decide +kernel
theorem dX12_serves_34 : decode cX12_serves 34 = .ok (.iadd, 1) := by decide +kernel
theorem dX12_serves_35 : decode cX12_serves 35 = .ok (.iaload, 1) := by decide +kernel
theorem dX12_serves_36 : decode cX12_serves 36 = .ok (.iastore, 1) := by decide +kernel
theorem dX12_serves_37 : decode cX12_serves 37 = .ok (.iinc 2 1, 3) := by decide +kernel
theorem dX12_serves_40 : decode cX12_serves 40 = .ok (.goto (-31), 3) := by decide +kernel
theorem dX12_serves_43 : decode cX12_serves 43 = .ok (.aload_n 0, 1) := by decide +kernel
theorem dX12_serves_44 : decode cX12_serves 44 = .ok (.getfield 111, 3) := by decide +kernel
theorem dX12_serves_47 : decode cX12_serves 47 = .ok (.iconst 3, 1) := by decide +kernel
theorem dX12_serves_48 : decode cX12_serves 48 = .ok (.dup2, 1) := by decide +kernel
theorem dX12_serves_49 : decode cX12_serves 49 = .ok (.iaload, 1) := by decide +kernel
theorem dX12_serves_50 : decode cX12_serves 50 = .ok (.iconst 1, 1) := by decide +kernel
theorem dX12_serves_51 : decode cX12_serves 51 = .ok (.isub, 1) := by decide +kernel
theorem dX12_serves_52 : decode cX12_serves 52 = .ok (.iastore, 1) := by decide +kernel
theorem dX12_serves_53 : decode cX12_serves 53 = .ok (.aload_n 0, 1) := by decide +kernel
theorem dX12_serves_54 : decode cX12_serves 54 = .ok (.getfield 111, 3) := by decide +kernel
theorem dX12_serves_57 : decode cX12_serves 57 = .ok (.iconst 2, 1) := by decide +kernel
theorem dX12_serves_58 : decode cX12_serves 58 = .ok (.iconst 0, 1) := by decide +kernel
theorem dX12_serves_59 : decode cX12_serves 59 = .ok (.iastore, 1) := by decide +kernel
theorem dX12_serves_60 : decode cX12_serves 60 = .ok (.aload_n 0, 1) := by decide +kernel
theorem dX12_serves_61 : decode cX12_serves 61 = .ok (.getfield 111, 3) := by decide +kernel
theorem dX12_serves_64 : decode cX12_serves 64 = .ok (.bipush 22, 2) := by decide +kernel
theorem dX12_serves_66 : decode cX12_serves 66 = .ok (.iload_n 1, 1) := by decide +kernel
theorem dX12_serves_67 : decode cX12_serves 67 = .ok (.iadd, 1) := by decide +kernel
theorem dX12_serves_68 : decode cX12_serves 68 = .ok (.iconst 3, 1) := by decide +kernel
theorem dX12_serves_69 : decode cX12_serves 69 = .ok (.iastore, 1) := by decide +kernel
theorem dX12_serves_70 : decode cX12_serves 70 = .ok (.aload_n 0, 1) := by decide +kernel
theorem dX12_serves_71 : decode cX12_serves 71 = .ok (.getfield 111, 3) := by decide +kernel
theorem dX12_serves_74 : decode cX12_serves 74 = .ok (.bipush 28, 2) := by decide +kernel
theorem dX12_serves_76 : decode cX12_serves 76 = .ok (.iload_n 1, 1) := by decide +kernel
theorem dX12_serves_77 : decode cX12_serves 77 = .ok (.iadd, 1) := by decide +kernel
theorem dX12_serves_78 : decode cX12_serves 78 = .ok (.aload_n 0, 1) := by decide +kernel
theorem dX12_serves_79 : decode cX12_serves 79 = .ok (.iload_n 1, 1) := by decide +kernel
theorem dX12_serves_80 : decode cX12_serves 80 = .ok (.invokevirtual 366, 3) := by decide +kernel
theorem dX12_serves_83 : decode cX12_serves 83 = .ok (.iastore, 1) := by decide +kernel
theorem dX12_serves_84 : decode cX12_serves 84 = .ok (.aload_n 0, 1) := by decide +kernel
theorem dX12_serves_85 : decode cX12_serves 85 = .ok (.getfield 111, 3) := by decide +kernel
theorem dX12_serves_88 : decode cX12_serves 88 = .ok (.bipush 34, 2) := by decide +kernel
theorem dX12_serves_90 : decode cX12_serves 90 = .ok (.iload_n 1, 1) := by decide +kernel
theorem dX12_serves_91 : decode cX12_serves 91 = .ok (.iadd, 1) := by decide +kernel
theorem dX12_serves_92 : decode cX12_serves 92 = .ok (.aload_n 0, 1) := by decide +kernel
theorem dX12_serves_93 : decode cX12_serves 93 = .ok (.iload_n 1, 1) := by decide +kernel
theorem dX12_serves_94 : decode cX12_serves 94 = .ok (.aload_n 0, 1) := by decide +kernel
theorem dX12_serves_95 : decode cX12_serves 95 = .ok (.getfield 111, 3) := by decide +kernel
theorem dX12_serves_98 : decode cX12_serves 98 = .ok (.bipush 28, 2) := by decide +kernel
theorem dX12_serves_100 : decode cX12_serves 100 = .ok (.iload_n 1, 1) := by decide +kernel
theorem dX12_serves_101 : decode cX12_serves 101 = .ok (.iadd, 1) := by decide +kernel
theorem dX12_serves_102 : decode cX12_serves 102 = .ok (.iaload, 1) := by decide +kernel
theorem dX12_serves_103 : decode cX12_serves 103 = .ok (.invokevirtual 362, 3) := by decide +kernel
theorem dX12_serves_106 : decode cX12_serves 106 = .ok (.iconst 1, 1) := by decide +kernel
theorem dX12_serves_107 : decode cX12_serves 107 = .ok (.iadd, 1) := by decide +kernel
theorem dX12_serves_108 : decode cX12_serves 108 = .ok (.iastore, 1) := by decide +kernel
theorem dX12_serves_109 : decode cX12_serves 109 = .ok (.return_, 1) := by decide +kernel
theorem lk_RX12_366 : Cond.methodLink RX12 366 yX12_fallOf ∈ tG := inG (i := 1798) (by decide +kernel) (by decide +kernel)
theorem m_X12_fallOf : MV Y_X12_fallOf 1 12 := ⟨⟨inG (i := 1801) (by decide +kernel) (by decide +kernel), inG (i := 110) (by decide +kernel) (by decide +kernel), by decide, by decide, by decide, by decide +kernel⟩, inG (i := 1800) (by decide +kernel) (by decide +kernel), inG (i := 69) (by decide +kernel) (by decide +kernel), by decide⟩
def P_X12_serves_L9  (x1 : Int) (K : St → Prop) (Q : St → Prop) : Nat → Int → St → Prop
  | 0, _, _ => False
  | n + 1, x2, σ => (if (σ 1346 0 3) ≤ x2 then K σ else 0 ≤ wi (4 + x2) ∧ wi (4 + x2) < 46 ∧ 0 ≤ wi ((wi (4 + x2)) - 1) ∧ wi ((wi (4 + x2)) - 1) < 46 ∧ (P_X12_serves_L9 x1 K Q n) (wi (x2 + 1)) (up σ 1346 0 (wi ((wi (4 + x2)) - 1)) (σ 1346 0 (wi (4 + x2)))))
set_option maxRecDepth 20000 in
set_option maxHeartbeats 2000000 in
theorem e_P_X12_serves_L9  {x1 : Int} {K : St → Prop} {Q : St → Prop}  (hK : ∀ σ, K σ → E Y_X12_serves 2 0 0 (QV Q) ww 0 0 43 [some (vR 12 0), some (vI x1), none] [] σ) : ∀ (n : Nat) (x2 : Int) (σ : St), P_X12_serves_L9 x1 K Q n x2 σ → E Y_X12_serves 2 0 0 (QV Q) ww 0 0 9 [some (vR 12 0), some (vI x1), some (vI x2)] [] σ := by
  intro n
  induction n with
  | zero => intro x2 σ h; exact h.elim
  | succ n hR =>
    intro x2 σ h
    unfold P_X12_serves_L9 at h
    refine E_iload_n dX12_serves_9 rfl rfl ?_
    refine E_aload_n dX12_serves_10 rfl rfl ?_
    refine E_getr (i := 0) dX12_serves_11 fl_RX12_111 rfl rfl (go_12_46 _ _) ?_
    refine E_ic dX12_serves_14 rfl ?_
    refine E_iald dX12_serves_15 sh_1346 (by decide) (by decide) ?_
    refine E_icmp_ge (tgt := 43) dX12_serves_16 (by decide) (fun hc => ?_) (fun hc => ?_)
    · have h := Eq.mp (if_pos hc) h
      refine E_wk2 [some (vR 12 0), some (vI x1), none] ⟨rfl, ⟨rfl, trivial⟩⟩ ?_
      exact hK _ h
    · have h := Eq.mp (if_neg hc) h
      refine E_aload_n dX12_serves_19 rfl rfl ?_
      refine E_getr (i := 0) dX12_serves_20 fl_RX12_111 rfl rfl (go_12_46 _ _) ?_
      refine E_ic dX12_serves_23 rfl ?_
      refine E_iload_n dX12_serves_24 rfl rfl ?_
      refine E_iadd dX12_serves_25 ?_
      refine E_ic dX12_serves_26 rfl ?_
      refine E_isub dX12_serves_27 ?_
      refine E_aload_n dX12_serves_28 rfl rfl ?_
      refine E_getr (i := 0) dX12_serves_29 fl_RX12_111 rfl rfl (go_12_46 _ _) ?_
      refine E_ic dX12_serves_32 rfl ?_
      refine E_iload_n dX12_serves_33 rfl rfl ?_
      refine E_iadd dX12_serves_34 ?_
      obtain ⟨hg0, hg1, h⟩ := h
      refine E_iald dX12_serves_35 sh_1346 hg0 hg1 ?_
      obtain ⟨hg0, hg1, h⟩ := h
      refine E_iast dX12_serves_36 sh_1346 hg0 hg1 ?_
      refine E_iinc (ls' := [some (vR 12 0), some (vI x1), some (vI (wi (x2 + 1)))]) dX12_serves_37 rfl (by decide) rfl rfl ?_
      refine E_goto (tgt := 9) dX12_serves_40 (by decide) ?_
      exact hR _ _ h
def P_X12_serves   (σ : St) (Q : St → Prop) : Prop :=
  P_X12_serves_L9 (σ 1346 0 4) (fun σ_1 => 0 ≤ wi (22 + (σ 1346 0 4)) ∧ wi (22 + (σ 1346 0 4)) < 46 ∧ P_X12_fallOf (σ 1346 0 4) (up (up (up σ_1 1346 0 3 (wi ((σ_1 1346 0 3) - 1))) 1346 0 2 0) 1346 0 (wi (22 + (σ 1346 0 4))) 3) (fun r_3 σ_2 => 0 ≤ wi (28 + (σ 1346 0 4)) ∧ wi (28 + (σ 1346 0 4)) < 46 ∧ 0 ≤ wi (28 + (σ 1346 0 4)) ∧ wi (28 + (σ 1346 0 4)) < 46 ∧ P_X12_beatsTo (σ 1346 0 4) ((up σ_2 1346 0 (wi (28 + (σ 1346 0 4))) r_3) 1346 0 (wi (28 + (σ 1346 0 4)))) (up σ_2 1346 0 (wi (28 + (σ 1346 0 4))) r_3) (fun r_5 σ_4 => 0 ≤ wi (34 + (σ 1346 0 4)) ∧ wi (34 + (σ 1346 0 4)) < 46 ∧ Q (up σ_4 1346 0 (wi (34 + (σ 1346 0 4))) (wi (r_5 + 1)))))) Q FU 1 σ
set_option maxRecDepth 20000 in
set_option maxHeartbeats 2000000 in
theorem s_X12_serves    {σ : St} {Q : St → Prop} (h : P_X12_serves  σ Q) : Cn Y_X12_serves 2 0 0 ww σ [vR 12 0] (QV Q) := by
  refine Cn_of [some (vR 12 0), none, none] (by decide) (Nat.le_of_ble_eq_true rfl) rfl ?_
  unfold P_X12_serves at h
  refine E_aload_n dX12_serves_0 rfl rfl ?_
  refine E_getr (i := 0) dX12_serves_1 fl_RX12_111 rfl rfl (go_12_46 _ _) ?_
  refine E_ic dX12_serves_4 rfl ?_
  refine E_iald dX12_serves_5 sh_1346 (by decide) (by decide) ?_
  refine E_istore_n (ls' := [some (vR 12 0), some (vI (σ 1346 0 4)), none]) dX12_serves_6 rfl (by decide) rfl ?_
  refine E_ic dX12_serves_7 rfl ?_
  refine E_istore_n (ls' := [some (vR 12 0), some (vI (σ 1346 0 4)), some (vI 1)]) dX12_serves_8 rfl (by decide) rfl ?_
  refine e_P_X12_serves_L9 ?_ _ _ _ h
  · intro σ_1 h
    refine E_aload_n dX12_serves_43 rfl rfl ?_
    refine E_getr (i := 0) dX12_serves_44 fl_RX12_111 rfl rfl (go_12_46 _ _) ?_
    refine E_ic dX12_serves_47 rfl ?_
    refine E_dup2 dX12_serves_48 (fun _ q => by cases q) (fun _ q => by cases q) ?_
    refine E_iald dX12_serves_49 sh_1346 (by decide) (by decide) ?_
    refine E_ic dX12_serves_50 rfl ?_
    refine E_isub dX12_serves_51 ?_
    refine E_iast dX12_serves_52 sh_1346 (by decide) (by decide) ?_
    refine E_aload_n dX12_serves_53 rfl rfl ?_
    refine E_getr (i := 0) dX12_serves_54 fl_RX12_111 rfl rfl (go_12_46 _ _) ?_
    refine E_ic dX12_serves_57 rfl ?_
    refine E_ic dX12_serves_58 rfl ?_
    refine E_iast dX12_serves_59 sh_1346 (by decide) (by decide) ?_
    refine E_aload_n dX12_serves_60 rfl rfl ?_
    refine E_getr (i := 0) dX12_serves_61 fl_RX12_111 rfl rfl (go_12_46 _ _) ?_
    refine E_bp dX12_serves_64 rfl ?_
    refine E_iload_n dX12_serves_66 rfl rfl ?_
    refine E_iadd dX12_serves_67 ?_
    refine E_ic dX12_serves_68 rfl ?_
    obtain ⟨hg0, hg1, h⟩ := h
    refine E_iast dX12_serves_69 sh_1346 hg0 hg1 ?_
    refine E_aload_n dX12_serves_70 rfl rfl ?_
    refine E_getr (i := 0) dX12_serves_71 fl_RX12_111 rfl rfl (go_12_46 _ _) ?_
    refine E_bp dX12_serves_74 rfl ?_
    refine E_iload_n dX12_serves_76 rfl rfl ?_
    refine E_iadd dX12_serves_77 ?_
    refine E_aload_n dX12_serves_78 rfl rfl ?_
    refine E_iload_n dX12_serves_79 rfl rfl ?_
    refine E_callV (Y' := Y_X12_fallOf) (as := [vI (σ 1346 0 4)]) (st := [vI (wi (28 + (σ 1346 0 4))), vR 1346 0]) dX12_serves_80 lk_RX12_366 m_X12_fallOf (by decide) (Nat.le_refl _) (Nat.le_refl _) rfl rfl (Nat.le_of_ble_eq_true rfl) (s_X12_fallOf h) (fun r0 B0 σ_2 h => ?_)
    obtain ⟨r_3, rfl, rfl, h⟩ := h
    obtain ⟨hg0, hg1, h⟩ := h
    refine E_iast dX12_serves_83 sh_1346 hg0 hg1 ?_
    refine E_aload_n dX12_serves_84 rfl rfl ?_
    refine E_getr (i := 0) dX12_serves_85 fl_RX12_111 rfl rfl (go_12_46 _ _) ?_
    refine E_bp dX12_serves_88 rfl ?_
    refine E_iload_n dX12_serves_90 rfl rfl ?_
    refine E_iadd dX12_serves_91 ?_
    refine E_aload_n dX12_serves_92 rfl rfl ?_
    refine E_iload_n dX12_serves_93 rfl rfl ?_
    refine E_aload_n dX12_serves_94 rfl rfl ?_
    refine E_getr (i := 0) dX12_serves_95 fl_RX12_111 rfl rfl (go_12_46 _ _) ?_
    refine E_bp dX12_serves_98 rfl ?_
    refine E_iload_n dX12_serves_100 rfl rfl ?_
    refine E_iadd dX12_serves_101 ?_
    obtain ⟨hg0, hg1, h⟩ := h
    refine E_iald dX12_serves_102 sh_1346 hg0 hg1 ?_
    refine E_callV (Y' := Y_X12_beatsTo) (as := [vI (σ 1346 0 4), vI ((up σ_2 1346 0 (wi (28 + (σ 1346 0 4))) r_3) 1346 0 (wi (28 + (σ 1346 0 4))))]) (st := [vI (wi (34 + (σ 1346 0 4))), vR 1346 0]) dX12_serves_103 lk_RX12_362 m_X12_beatsTo (by decide) (Nat.le_refl _) (Nat.le_refl _) rfl rfl (Nat.le_of_ble_eq_true rfl) (s_X12_beatsTo h) (fun r0 B0 σ_4 h => ?_)
    obtain ⟨r_5, rfl, rfl, h⟩ := h
    refine E_ic dX12_serves_106 rfl ?_
    refine E_iadd dX12_serves_107 ?_
    obtain ⟨hg0, hg1, h⟩ := h
    refine E_iast dX12_serves_108 sh_1346 hg0 hg1 ?_
    exact E_vret dX12_serves_109 rfl ⟨rfl, rfl, h⟩
abbrev Y_X12_passes : My := (yX12_passes, cX12_passes, 3, some .int)
theorem dX12_passes_0 : decode cX12_passes 0 = .ok (.iconst 0, 1) := by decide +kernel
theorem dX12_passes_1 : decode cX12_passes 1 = .ok (.istore_n 1, 1) := by decide +kernel
theorem dX12_passes_2 : decode cX12_passes 2 = .ok (.aload_n 0, 1) := by decide +kernel
theorem dX12_passes_3 : decode cX12_passes 3 = .ok (.getfield 111, 3) := by decide +kernel
theorem dX12_passes_6 : decode cX12_passes 6 = .ok (.iconst 3, 1) := by decide +kernel
theorem dX12_passes_7 : decode cX12_passes 7 = .ok (.iaload, 1) := by decide +kernel
theorem dX12_passes_8 : decode cX12_passes 8 = .ok (.ifCond .le 32, 3) := by decide +kernel
theorem dX12_passes_11 : decode cX12_passes 11 = .ok (.aload_n 0, 1) := by decide +kernel
theorem dX12_passes_12 : decode cX12_passes 12 = .ok (.getfield 111, 3) := by decide +kernel
theorem dX12_passes_15 : decode cX12_passes 15 = .ok (.iconst 2, 1) := by decide +kernel
theorem dX12_passes_16 : decode cX12_passes 16 = .ok (.dup2, 1) := by decide +kernel
theorem dX12_passes_17 : decode cX12_passes 17 = .ok (.iaload, 1) := by decide +kernel
theorem dX12_passes_18 : decode cX12_passes 18 = .ok (.iconst 1, 1) := by decide +kernel
theorem dX12_passes_19 : decode cX12_passes 19 = .ok (.iadd, 1) := by decide +kernel
theorem dX12_passes_20 : decode cX12_passes 20 = .ok (.iastore, 1) := by decide +kernel
theorem dX12_passes_21 : decode cX12_passes 21 = .ok (.aload_n 0, 1) := by decide +kernel
theorem dX12_passes_22 : decode cX12_passes 22 = .ok (.getfield 111, 3) := by decide +kernel
theorem dX12_passes_25 : decode cX12_passes 25 = .ok (.iconst 2, 1) := by decide +kernel
theorem dX12_passes_26 : decode cX12_passes 26 = .ok (.iaload, 1) := by decide +kernel
theorem dX12_passes_27 : decode cX12_passes 27 = .ok (.aload_n 0, 1) := by decide +kernel
theorem dX12_passes_28 : decode cX12_passes 28 = .ok (.getfield 13, 3) := by decide +kernel
theorem dX12_passes_31 : decode cX12_passes 31 = .ok (.iconst 2, 1) := by decide +kernel
theorem dX12_passes_32 : decode cX12_passes 32 = .ok (.iaload, 1) := by decide +kernel
theorem dX12_passes_33 : decode cX12_passes 33 = .ok (.if_icmp .lt 7, 3) := by decide +kernel
theorem dX12_passes_36 : decode cX12_passes 36 = .ok (.aload_n 0, 1) := by decide +kernel
theorem dX12_passes_37 : decode cX12_passes 37 = .ok (.invokevirtual 369, 3) := by decide +kernel
theorem dX12_passes_40 : decode cX12_passes 40 = .ok (.iconst 0, 1) := by decide +kernel
theorem dX12_passes_41 : decode cX12_passes 41 = .ok (.istore_n 2, 1) := by decide +kernel
theorem dX12_passes_42 : decode cX12_passes 42 = .ok (.iload_n 2, 1) := by decide +kernel
theorem dX12_passes_43 : decode cX12_passes 43 = .ok (.aload_n 0, 1) := by decide +kernel
theorem dX12_passes_44 : decode cX12_passes 44 = .ok (.getfield 13, 3) := by decide +kernel
theorem dX12_passes_47 : decode cX12_passes 47 = .ok (.iconst 1, 1) := by decide +kernel
theorem dX12_passes_48 : decode cX12_passes 48 = .ok (.iaload, 1) := by decide +kernel
theorem dX12_passes_49 : decode cX12_passes 49 = .ok (.if_icmp .ge 132, 3) := by decide +kernel
theorem dX12_passes_52 : decode cX12_passes 52 = .ok (.aload_n 0, 1) := by decide +kernel
theorem dX12_passes_53 : decode cX12_passes 53 = .ok (.getfield 111, 3) := by decide +kernel
theorem dX12_passes_56 : decode cX12_passes 56 = .ok (.bipush 22, 2) := by decide +kernel
theorem dX12_passes_58 : decode cX12_passes 58 = .ok (.iload_n 2, 1) := by decide +kernel
theorem dX12_passes_59 : decode cX12_passes 59 = .ok (.iadd, 1) := by decide +kernel
theorem dX12_passes_60 : decode cX12_passes 60 = .ok (.iaload, 1) := by decide +kernel
theorem dX12_passes_61 : decode cX12_passes 61 = .ok (.iconst 1, 1) := by decide +kernel
theorem dX12_passes_62 : decode cX12_passes 62 = .ok (.if_icmp .eq 19, 3) := by decide +kernel
theorem dX12_passes_65 : decode cX12_passes 65 = .ok (.aload_n 0, 1) := by decide +kernel
theorem dX12_passes_66 : decode cX12_passes 66 = .ok (.getfield 111, 3) := by decide +kernel
theorem dX12_passes_69 : decode cX12_passes 69 = .ok (.bipush 22, 2) := by decide +kernel
theorem dX12_passes_71 : decode cX12_passes 71 = .ok (.iload_n 2, 1) := by decide +kernel
theorem dX12_passes_72 : decode cX12_passes 72 = .ok (.iadd, 1) := by decide +kernel
theorem dX12_passes_73 : decode cX12_passes 73 = .ok (.iaload, 1) := by decide +kernel
theorem dX12_passes_74 : decode cX12_passes 74 = .ok (.iconst 3, 1) := by decide +kernel
theorem dX12_passes_75 : decode cX12_passes 75 = .ok (.if_icmp .eq 6, 3) := by decide +kernel
theorem dX12_passes_78 : decode cX12_passes 78 = .ok (.goto 97, 3) := by decide +kernel
theorem dX12_passes_81 : decode cX12_passes 81 = .ok (.aload_n 0, 1) := by decide +kernel
theorem dX12_passes_82 : decode cX12_passes 82 = .ok (.getfield 111, 3) := by decide +kernel
theorem dX12_passes_85 : decode cX12_passes 85 = .ok (.bipush 34, 2) := by decide +kernel
theorem dX12_passes_87 : decode cX12_passes 87 = .ok (.iload_n 2, 1) := by decide +kernel
theorem dX12_passes_88 : decode cX12_passes 88 = .ok (.iadd, 1) := by decide +kernel
theorem dX12_passes_89 : decode cX12_passes 89 = .ok (.dup2, 1) := by decide +kernel
theorem dX12_passes_90 : decode cX12_passes 90 = .ok (.iaload, 1) := by decide +kernel
theorem dX12_passes_91 : decode cX12_passes 91 = .ok (.iconst 1, 1) := by decide +kernel
theorem dX12_passes_92 : decode cX12_passes 92 = .ok (.isub, 1) := by decide +kernel
theorem dX12_passes_93 : decode cX12_passes 93 = .ok (.iastore, 1) := by decide +kernel
theorem dX12_passes_94 : decode cX12_passes 94 = .ok (.aload_n 0, 1) := by decide +kernel
theorem dX12_passes_95 : decode cX12_passes 95 = .ok (.getfield 111, 3) := by decide +kernel
theorem dX12_passes_98 : decode cX12_passes 98 = .ok (.bipush 34, 2) := by decide +kernel
theorem dX12_passes_100 : decode cX12_passes 100 = .ok (.iload_n 2, 1) := by decide +kernel
theorem dX12_passes_101 : decode cX12_passes 101 = .ok (.iadd, 1) := by decide +kernel
theorem dX12_passes_102 : decode cX12_passes 102 = .ok (.iaload, 1) := by decide +kernel
theorem dX12_passes_103 : decode cX12_passes 103 = .ok (.ifCond .le 6, 3) := by decide +kernel
theorem dX12_passes_106 : decode cX12_passes 106 = .ok (.goto 69, 3) := by decide +kernel
theorem dX12_passes_109 : decode cX12_passes 109 = .ok (.aload_n 0, 1) := by decide +kernel
theorem dX12_passes_110 : decode cX12_passes 110 = .ok (.getfield 111, 3) := by decide +kernel
theorem dX12_passes_113 : decode cX12_passes 113 = .ok (.bipush 22, 2) := by decide +kernel
theorem dX12_passes_115 : decode cX12_passes 115 = .ok (.iload_n 2, 1) := by decide +kernel
theorem dX12_passes_116 : decode cX12_passes 116 = .ok (.iadd, 1) := by decide +kernel
theorem dX12_passes_117 : decode cX12_passes 117 = .ok (.iaload, 1) := by decide +kernel
theorem dX12_passes_118 : decode cX12_passes 118 = .ok (.iconst 1, 1) := by decide +kernel
theorem dX12_passes_119 : decode cX12_passes 119 = .ok (.if_icmp .ne 40, 3) := by decide +kernel
theorem dX12_passes_122 : decode cX12_passes 122 = .ok (.aload_n 0, 1) := by decide +kernel
theorem dX12_passes_123 : decode cX12_passes 123 = .ok (.getfield 111, 3) := by decide +kernel
theorem dX12_passes_126 : decode cX12_passes 126 = .ok (.bipush 22, 2) := by decide +kernel
theorem dX12_passes_128 : decode cX12_passes 128 = .ok (.iload_n 2, 1) := by decide +kernel
theorem dX12_passes_129 : decode cX12_passes 129 = .ok (.iadd, 1) := by decide +kernel
theorem dX12_passes_130 : decode cX12_passes 130 = .ok (.iconst 2, 1) := by decide +kernel
theorem dX12_passes_131 : decode cX12_passes 131 = .ok (.iastore, 1) := by decide +kernel
theorem dX12_passes_132 : decode cX12_passes 132 = .ok (.aload_n 0, 1) := by decide +kernel
theorem dX12_passes_133 : decode cX12_passes 133 = .ok (.getfield 111, 3) := by decide +kernel
theorem dX12_passes_136 : decode cX12_passes 136 = .ok (.iconst 4, 1) := by decide +kernel
theorem dX12_passes_137 : decode cX12_passes 137 = .ok (.aload_n 0, 1) := by decide +kernel
theorem dX12_passes_138 : decode cX12_passes 138 = .ok (.getfield 111, 3) := by decide +kernel
theorem dX12_passes_141 : decode cX12_passes 141 = .ok (.iconst 3, 1) := by decide +kernel
theorem dX12_passes_142 : decode cX12_passes 142 = .ok (.iaload, 1) := by decide +kernel
theorem dX12_passes_143 : decode cX12_passes 143 = .ok (.iadd, 1) := by decide +kernel
theorem dX12_passes_144 : decode cX12_passes 144 = .ok (.iload_n 2, 1) := by decide +kernel
theorem dX12_passes_145 : decode cX12_passes 145 = .ok (.iastore, 1) := by decide +kernel
theorem dX12_passes_146 : decode cX12_passes 146 = .ok (.aload_n 0, 1) := by decide +kernel
theorem dX12_passes_147 : decode cX12_passes 147 = .ok (.getfield 111, 3) := by decide +kernel
theorem dX12_passes_150 : decode cX12_passes 150 = .ok (.iconst 3, 1) := by decide +kernel
theorem dX12_passes_151 : decode cX12_passes 151 = .ok (.dup2, 1) := by decide +kernel
theorem dX12_passes_152 : decode cX12_passes 152 = .ok (.iaload, 1) := by decide +kernel
theorem dX12_passes_153 : decode cX12_passes 153 = .ok (.iconst 1, 1) := by decide +kernel
theorem dX12_passes_154 : decode cX12_passes 154 = .ok (.iadd, 1) := by decide +kernel
theorem dX12_passes_155 : decode cX12_passes 155 = .ok (.iastore, 1) := by decide +kernel
theorem dX12_passes_156 : decode cX12_passes 156 = .ok (.goto 19, 3) := by decide +kernel
theorem dX12_passes_159 : decode cX12_passes 159 = .ok (.aload_n 0, 1) := by decide +kernel
theorem dX12_passes_160 : decode cX12_passes 160 = .ok (.getfield 111, 3) := by decide +kernel
theorem dX12_passes_163 : decode cX12_passes 163 = .ok (.bipush 22, 2) := by decide +kernel
theorem dX12_passes_165 : decode cX12_passes 165 = .ok (.iload_n 2, 1) := by decide +kernel
theorem dX12_passes_166 : decode cX12_passes 166 = .ok (.iadd, 1) := by decide +kernel
theorem dX12_passes_167 : decode cX12_passes 167 = .ok (.iconst 0, 1) := by decide +kernel
theorem dX12_passes_168 : decode cX12_passes 168 = .ok (.iastore, 1) := by decide +kernel
theorem dX12_passes_169 : decode cX12_passes 169 = .ok (.iload_n 1, 1) := by decide +kernel
theorem dX12_passes_170 : decode cX12_passes 170 = .ok (.iconst 1, 1) := by decide +kernel
theorem dX12_passes_171 : decode cX12_passes 171 = .ok (.iload_n 2, 1) := by decide +kernel
theorem dX12_passes_172 : decode cX12_passes 172 = .ok (.ishl, 1) := by decide +kernel
theorem dX12_passes_173 : decode cX12_passes 173 = .ok (.ior, 1) := by decide +kernel
theorem dX12_passes_174 : decode cX12_passes 174 = .ok (.istore_n 1, 1) := by decide +kernel
theorem dX12_passes_175 : decode cX12_passes 175 = .ok (.iinc 2 1, 3) := by decide +kernel
theorem dX12_passes_178 : decode cX12_passes 178 = .ok (.goto (-136), 3) := by decide +kernel
theorem dX12_passes_181 : decode cX12_passes 181 = .ok (.aload_n 0, 1) := by decide +kernel
theorem dX12_passes_182 : decode cX12_passes 182 = .ok (.getfield 111, 3) := by decide +kernel
theorem dX12_passes_185 : decode cX12_passes 185 = .ok (.iconst 1, 1) := by decide +kernel
theorem dX12_passes_186 : decode cX12_passes 186 = .ok (.dup2, 1) := by decide +kernel
theorem dX12_passes_187 : decode cX12_passes 187 = .ok (.iaload, 1) := by decide +kernel
theorem dX12_passes_188 : decode cX12_passes 188 = .ok (.iconst 1, 1) := by decide +kernel
theorem dX12_passes_189 : decode cX12_passes 189 = .ok (.iadd, 1) := by decide +kernel
theorem dX12_passes_190 : decode cX12_passes 190 = .ok (.iastore, 1) := by decide +kernel
theorem dX12_passes_191 : decode cX12_passes 191 = .ok (.iload_n 1, 1) := by decide +kernel
theorem dX12_passes_192 : decode cX12_passes 192 = .ok (.ireturn, 1) := by decide +kernel
theorem lk_RX12_369 : Cond.methodLink RX12 369 yX12_serves ∈ tG := inG (i := 1794) (by decide +kernel) (by decide +kernel)
theorem m_X12_serves : MV Y_X12_serves 0 12 := ⟨⟨inG (i := 1797) (by decide +kernel) (by decide +kernel), inG (i := 110) (by decide +kernel) (by decide +kernel), by decide, by decide, by decide, by decide +kernel⟩, inG (i := 1796) (by decide +kernel) (by decide +kernel), inG (i := 68) (by decide +kernel) (by decide +kernel), by decide⟩
def P_X12_passes_J81  (x1 : Int) (x2 : Int) (R : Int → Int → St → Prop) (Q : Int → St → Prop) (σ : St) : Prop :=
  0 ≤ wi (34 + x2) ∧ wi (34 + x2) < 46 ∧ 0 ≤ wi (34 + x2) ∧ wi (34 + x2) < 46 ∧ 0 ≤ wi (34 + x2) ∧ wi (34 + x2) < 46 ∧ (if ((up σ 1346 0 (wi (34 + x2)) (wi ((σ 1346 0 (wi (34 + x2))) - 1))) 1346 0 (wi (34 + x2))) ≤ 0 then 0 ≤ wi (22 + x2) ∧ wi (22 + x2) < 46 ∧ (if ((up σ 1346 0 (wi (34 + x2)) (wi ((σ 1346 0 (wi (34 + x2))) - 1))) 1346 0 (wi (22 + x2))) = 1 then 0 ≤ wi (22 + x2) ∧ wi (22 + x2) < 46 ∧ 0 ≤ wi (4 + ((up (up σ 1346 0 (wi (34 + x2)) (wi ((σ 1346 0 (wi (34 + x2))) - 1))) 1346 0 (wi (22 + x2)) 2) 1346 0 3)) ∧ wi (4 + ((up (up σ 1346 0 (wi (34 + x2)) (wi ((σ 1346 0 (wi (34 + x2))) - 1))) 1346 0 (wi (22 + x2)) 2) 1346 0 3)) < 46 ∧ R x1 (wi (x2 + 1)) (up (up (up (up σ 1346 0 (wi (34 + x2)) (wi ((σ 1346 0 (wi (34 + x2))) - 1))) 1346 0 (wi (22 + x2)) 2) 1346 0 (wi (4 + ((up (up σ 1346 0 (wi (34 + x2)) (wi ((σ 1346 0 (wi (34 + x2))) - 1))) 1346 0 (wi (22 + x2)) 2) 1346 0 3))) x2) 1346 0 3 (wi (((up (up (up σ 1346 0 (wi (34 + x2)) (wi ((σ 1346 0 (wi (34 + x2))) - 1))) 1346 0 (wi (22 + x2)) 2) 1346 0 (wi (4 + ((up (up σ 1346 0 (wi (34 + x2)) (wi ((σ 1346 0 (wi (34 + x2))) - 1))) 1346 0 (wi (22 + x2)) 2) 1346 0 3))) x2) 1346 0 3) + 1))) else 0 ≤ wi (22 + x2) ∧ wi (22 + x2) < 46 ∧ R (bO x1 (bL 1 x2)) (wi (x2 + 1)) (up (up σ 1346 0 (wi (34 + x2)) (wi ((σ 1346 0 (wi (34 + x2))) - 1))) 1346 0 (wi (22 + x2)) 0)) else R x1 (wi (x2 + 1)) (up σ 1346 0 (wi (34 + x2)) (wi ((σ 1346 0 (wi (34 + x2))) - 1))))
set_option maxRecDepth 20000 in
set_option maxHeartbeats 2000000 in
theorem e_P_X12_passes_J81  {x1 : Int} {x2 : Int} {R : Int → Int → St → Prop} {Q : Int → St → Prop} {σ : St}  (hR : ∀ x1 x2 σ, R x1 x2 σ → E Y_X12_passes 3 0 0 (QI Q) ww 0 0 42 [some (vR 12 0), some (vI x1), some (vI x2)] [] σ) (h : P_X12_passes_J81 x1 x2 R Q σ) : E Y_X12_passes 3 0 0 (QI Q) ww 0 0 81 [some (vR 12 0), some (vI x1), some (vI x2)] [] σ := by
  unfold P_X12_passes_J81 at h
  refine E_aload_n dX12_passes_81 rfl rfl ?_
  refine E_getr (i := 0) dX12_passes_82 fl_RX12_111 rfl rfl (go_12_46 _ _) ?_
  refine E_bp dX12_passes_85 rfl ?_
  refine E_iload_n dX12_passes_87 rfl rfl ?_
  refine E_iadd dX12_passes_88 ?_
  refine E_dup2 dX12_passes_89 (fun _ q => by cases q) (fun _ q => by cases q) ?_
  obtain ⟨hg0, hg1, h⟩ := h
  refine E_iald dX12_passes_90 sh_1346 hg0 hg1 ?_
  refine E_ic dX12_passes_91 rfl ?_
  refine E_isub dX12_passes_92 ?_
  obtain ⟨hg0, hg1, h⟩ := h
  refine E_iast dX12_passes_93 sh_1346 hg0 hg1 ?_
  refine E_aload_n dX12_passes_94 rfl rfl ?_
  refine E_getr (i := 0) dX12_passes_95 fl_RX12_111 rfl rfl (go_12_46 _ _) ?_
  refine E_bp dX12_passes_98 rfl ?_
  refine E_iload_n dX12_passes_100 rfl rfl ?_
  refine E_iadd dX12_passes_101 ?_
  obtain ⟨hg0, hg1, h⟩ := h
  refine E_iald dX12_passes_102 sh_1346 hg0 hg1 ?_
  refine E_if_le (tgt := 109) dX12_passes_103 (by decide) (fun hc => ?_) (fun hc => ?_)
  · have h := Eq.mp (if_pos hc) h
    refine E_aload_n dX12_passes_109 rfl rfl ?_
    refine E_getr (i := 0) dX12_passes_110 fl_RX12_111 rfl rfl (go_12_46 _ _) ?_
    refine E_bp dX12_passes_113 rfl ?_
    refine E_iload_n dX12_passes_115 rfl rfl ?_
    refine E_iadd dX12_passes_116 ?_
    obtain ⟨hg0, hg1, h⟩ := h
    refine E_iald dX12_passes_117 sh_1346 hg0 hg1 ?_
    refine E_ic dX12_passes_118 rfl ?_
    refine E_icmp_ne (tgt := 159) dX12_passes_119 (by decide) (fun hc => ?_) (fun hc => ?_)
    · have h := Eq.mp (if_neg hc) h
      refine E_aload_n dX12_passes_159 rfl rfl ?_
      refine E_getr (i := 0) dX12_passes_160 fl_RX12_111 rfl rfl (go_12_46 _ _) ?_
      refine E_bp dX12_passes_163 rfl ?_
      refine E_iload_n dX12_passes_165 rfl rfl ?_
      refine E_iadd dX12_passes_166 ?_
      refine E_ic dX12_passes_167 rfl ?_
      obtain ⟨hg0, hg1, h⟩ := h
      refine E_iast dX12_passes_168 sh_1346 hg0 hg1 ?_
      refine E_iload_n dX12_passes_169 rfl rfl ?_
      refine E_ic dX12_passes_170 rfl ?_
      refine E_iload_n dX12_passes_171 rfl rfl ?_
      refine E_ishl dX12_passes_172 ?_
      refine E_ior dX12_passes_173 ?_
      refine E_istore_n (ls' := [some (vR 12 0), some (vI (bO x1 (bL 1 x2))), some (vI x2)]) dX12_passes_174 rfl (by decide) rfl ?_
      refine E_iinc (ls' := [some (vR 12 0), some (vI (bO x1 (bL 1 x2))), some (vI (wi (x2 + 1)))]) dX12_passes_175 rfl (by decide) rfl rfl ?_
      refine E_goto (tgt := 42) dX12_passes_178 (by decide) ?_
      exact hR _ _ _ h
    · have h := Eq.mp (if_pos hc) h
      refine E_aload_n dX12_passes_122 rfl rfl ?_
      refine E_getr (i := 0) dX12_passes_123 fl_RX12_111 rfl rfl (go_12_46 _ _) ?_
      refine E_bp dX12_passes_126 rfl ?_
      refine E_iload_n dX12_passes_128 rfl rfl ?_
      refine E_iadd dX12_passes_129 ?_
      refine E_ic dX12_passes_130 rfl ?_
      obtain ⟨hg0, hg1, h⟩ := h
      refine E_iast dX12_passes_131 sh_1346 hg0 hg1 ?_
      refine E_aload_n dX12_passes_132 rfl rfl ?_
      refine E_getr (i := 0) dX12_passes_133 fl_RX12_111 rfl rfl (go_12_46 _ _) ?_
      refine E_ic dX12_passes_136 rfl ?_
      refine E_aload_n dX12_passes_137 rfl rfl ?_
      refine E_getr (i := 0) dX12_passes_138 fl_RX12_111 rfl rfl (go_12_46 _ _) ?_
      refine E_ic dX12_passes_141 rfl ?_
      refine E_iald dX12_passes_142 sh_1346 (by decide) (by decide) ?_
      refine E_iadd dX12_passes_143 ?_
      refine E_iload_n dX12_passes_144 rfl rfl ?_
      obtain ⟨hg0, hg1, h⟩ := h
      refine E_iast dX12_passes_145 sh_1346 hg0 hg1 ?_
      refine E_aload_n dX12_passes_146 rfl rfl ?_
      refine E_getr (i := 0) dX12_passes_147 fl_RX12_111 rfl rfl (go_12_46 _ _) ?_
      refine E_ic dX12_passes_150 rfl ?_
      refine E_dup2 dX12_passes_151 (fun _ q => by cases q) (fun _ q => by cases q) ?_
      refine E_iald dX12_passes_152 sh_1346 (by decide) (by decide) ?_
      refine E_ic dX12_passes_153 rfl ?_
      refine E_iadd dX12_passes_154 ?_
      refine E_iast dX12_passes_155 sh_1346 (by decide) (by decide) ?_
      refine E_goto (tgt := 175) dX12_passes_156 (by decide) ?_
      refine E_iinc (ls' := [some (vR 12 0), some (vI x1), some (vI (wi (x2 + 1)))]) dX12_passes_175 rfl (by decide) rfl rfl ?_
      refine E_goto (tgt := 42) dX12_passes_178 (by decide) ?_
      exact hR _ _ _ h
  · have h := Eq.mp (if_neg hc) h
    refine E_goto (tgt := 175) dX12_passes_106 (by decide) ?_
    refine E_iinc (ls' := [some (vR 12 0), some (vI x1), some (vI (wi (x2 + 1)))]) dX12_passes_175 rfl (by decide) rfl rfl ?_
    refine E_goto (tgt := 42) dX12_passes_178 (by decide) ?_
    exact hR _ _ _ h
def P_X12_passes_L42    (Q : Int → St → Prop) : Nat → Int → Int → St → Prop
  | 0, _, _, _ => False
  | n + 1, x1, x2, σ => (if (σ 1310 0 1) ≤ x2 then Q x1 (up σ 1346 0 1 (wi ((σ 1346 0 1) + 1))) else 0 ≤ wi (22 + x2) ∧ wi (22 + x2) < 46 ∧ (if (σ 1346 0 (wi (22 + x2))) = 1 then P_X12_passes_J81 x1 x2 (P_X12_passes_L42 Q n) Q σ else 0 ≤ wi (22 + x2) ∧ wi (22 + x2) < 46 ∧ (if (σ 1346 0 (wi (22 + x2))) = 3 then P_X12_passes_J81 x1 x2 (P_X12_passes_L42 Q n) Q σ else (P_X12_passes_L42 Q n) x1 (wi (x2 + 1)) σ)))
set_option maxRecDepth 20000 in
set_option maxHeartbeats 2000000 in
theorem e_P_X12_passes_L42    {Q : Int → St → Prop}   : ∀ (n : Nat) (x1 : Int) (x2 : Int) (σ : St), P_X12_passes_L42 Q n x1 x2 σ → E Y_X12_passes 3 0 0 (QI Q) ww 0 0 42 [some (vR 12 0), some (vI x1), some (vI x2)] [] σ := by
  intro n
  induction n with
  | zero => intro x1 x2 σ h; exact h.elim
  | succ n hR =>
    intro x1 x2 σ h
    unfold P_X12_passes_L42 at h
    refine E_iload_n dX12_passes_42 rfl rfl ?_
    refine E_aload_n dX12_passes_43 rfl rfl ?_
    refine E_getr (i := 0) dX12_passes_44 fl_RX12_13 rfl rfl (go_12_10 _ _) ?_
    refine E_ic dX12_passes_47 rfl ?_
    refine E_iald dX12_passes_48 sh_1310 (by decide) (by decide) ?_
    refine E_icmp_ge (tgt := 181) dX12_passes_49 (by decide) (fun hc => ?_) (fun hc => ?_)
    · have h := Eq.mp (if_pos hc) h
      refine E_aload_n dX12_passes_181 rfl rfl ?_
      refine E_getr (i := 0) dX12_passes_182 fl_RX12_111 rfl rfl (go_12_46 _ _) ?_
      refine E_ic dX12_passes_185 rfl ?_
      refine E_dup2 dX12_passes_186 (fun _ q => by cases q) (fun _ q => by cases q) ?_
      refine E_iald dX12_passes_187 sh_1346 (by decide) (by decide) ?_
      refine E_ic dX12_passes_188 rfl ?_
      refine E_iadd dX12_passes_189 ?_
      refine E_iast dX12_passes_190 sh_1346 (by decide) (by decide) ?_
      refine E_iload_n dX12_passes_191 rfl rfl ?_
      exact E_iret dX12_passes_192 rfl ⟨_, rfl, rfl, h⟩
    · have h := Eq.mp (if_neg hc) h
      refine E_aload_n dX12_passes_52 rfl rfl ?_
      refine E_getr (i := 0) dX12_passes_53 fl_RX12_111 rfl rfl (go_12_46 _ _) ?_
      refine E_bp dX12_passes_56 rfl ?_
      refine E_iload_n dX12_passes_58 rfl rfl ?_
      refine E_iadd dX12_passes_59 ?_
      obtain ⟨hg0, hg1, h⟩ := h
      refine E_iald dX12_passes_60 sh_1346 hg0 hg1 ?_
      refine E_ic dX12_passes_61 rfl ?_
      refine E_icmp_eq (tgt := 81) dX12_passes_62 (by decide) (fun hc => ?_) (fun hc => ?_)
      · have h := Eq.mp (if_pos hc) h
        exact e_P_X12_passes_J81 hR h
      · have h := Eq.mp (if_neg hc) h
        refine E_aload_n dX12_passes_65 rfl rfl ?_
        refine E_getr (i := 0) dX12_passes_66 fl_RX12_111 rfl rfl (go_12_46 _ _) ?_
        refine E_bp dX12_passes_69 rfl ?_
        refine E_iload_n dX12_passes_71 rfl rfl ?_
        refine E_iadd dX12_passes_72 ?_
        obtain ⟨hg0, hg1, h⟩ := h
        refine E_iald dX12_passes_73 sh_1346 hg0 hg1 ?_
        refine E_ic dX12_passes_74 rfl ?_
        refine E_icmp_eq (tgt := 81) dX12_passes_75 (by decide) (fun hc => ?_) (fun hc => ?_)
        · have h := Eq.mp (if_pos hc) h
          exact e_P_X12_passes_J81 hR h
        · have h := Eq.mp (if_neg hc) h
          refine E_goto (tgt := 175) dX12_passes_78 (by decide) ?_
          refine E_iinc (ls' := [some (vR 12 0), some (vI x1), some (vI (wi (x2 + 1)))]) dX12_passes_175 rfl (by decide) rfl rfl ?_
          refine E_goto (tgt := 42) dX12_passes_178 (by decide) ?_
          exact hR _ _ _ h
def P_X12_passes_J40  (x1 : Int)  (Q : Int → St → Prop) (σ : St) : Prop :=
  P_X12_passes_L42 Q FU x1 0 σ
set_option maxRecDepth 20000 in
set_option maxHeartbeats 2000000 in
theorem e_P_X12_passes_J40  {x1 : Int}  {Q : Int → St → Prop} {σ : St}   (h : P_X12_passes_J40 x1 Q σ) : E Y_X12_passes 3 0 0 (QI Q) ww 0 0 40 [some (vR 12 0), some (vI x1), none] [] σ := by
  unfold P_X12_passes_J40 at h
  refine E_ic dX12_passes_40 rfl ?_
  refine E_istore_n (ls' := [some (vR 12 0), some (vI x1), some (vI 0)]) dX12_passes_41 rfl (by decide) rfl ?_
  refine e_P_X12_passes_L42  _ _ _ _ h
def P_X12_passes   (σ : St) (Q : Int → St → Prop) : Prop :=
  (if (σ 1346 0 3) ≤ 0 then P_X12_passes_J40 0 Q σ else (if ((up σ 1346 0 2 (wi ((σ 1346 0 2) + 1))) 1346 0 2) < ((up σ 1346 0 2 (wi ((σ 1346 0 2) + 1))) 1310 0 2) then P_X12_passes_J40 0 Q (up σ 1346 0 2 (wi ((σ 1346 0 2) + 1))) else P_X12_serves (up σ 1346 0 2 (wi ((σ 1346 0 2) + 1))) (fun σ_1 => P_X12_passes_J40 0 Q σ_1)))
set_option maxRecDepth 20000 in
set_option maxHeartbeats 2000000 in
theorem s_X12_passes    {σ : St} {Q : Int → St → Prop} (h : P_X12_passes  σ Q) : Cn Y_X12_passes 3 0 0 ww σ [vR 12 0] (QI Q) := by
  refine Cn_of [some (vR 12 0), none, none] (by decide) (Nat.le_of_ble_eq_true rfl) rfl ?_
  unfold P_X12_passes at h
  refine E_ic dX12_passes_0 rfl ?_
  refine E_istore_n (ls' := [some (vR 12 0), some (vI 0), none]) dX12_passes_1 rfl (by decide) rfl ?_
  refine E_aload_n dX12_passes_2 rfl rfl ?_
  refine E_getr (i := 0) dX12_passes_3 fl_RX12_111 rfl rfl (go_12_46 _ _) ?_
  refine E_ic dX12_passes_6 rfl ?_
  refine E_iald dX12_passes_7 sh_1346 (by decide) (by decide) ?_
  refine E_if_le (tgt := 40) dX12_passes_8 (by decide) (fun hc => ?_) (fun hc => ?_)
  · have h := Eq.mp (if_pos hc) h
    exact e_P_X12_passes_J40 h
  · have h := Eq.mp (if_neg hc) h
    refine E_aload_n dX12_passes_11 rfl rfl ?_
    refine E_getr (i := 0) dX12_passes_12 fl_RX12_111 rfl rfl (go_12_46 _ _) ?_
    refine E_ic dX12_passes_15 rfl ?_
    refine E_dup2 dX12_passes_16 (fun _ q => by cases q) (fun _ q => by cases q) ?_
    refine E_iald dX12_passes_17 sh_1346 (by decide) (by decide) ?_
    refine E_ic dX12_passes_18 rfl ?_
    refine E_iadd dX12_passes_19 ?_
    refine E_iast dX12_passes_20 sh_1346 (by decide) (by decide) ?_
    refine E_aload_n dX12_passes_21 rfl rfl ?_
    refine E_getr (i := 0) dX12_passes_22 fl_RX12_111 rfl rfl (go_12_46 _ _) ?_
    refine E_ic dX12_passes_25 rfl ?_
    refine E_iald dX12_passes_26 sh_1346 (by decide) (by decide) ?_
    refine E_aload_n dX12_passes_27 rfl rfl ?_
    refine E_getr (i := 0) dX12_passes_28 fl_RX12_13 rfl rfl (go_12_10 _ _) ?_
    refine E_ic dX12_passes_31 rfl ?_
    refine E_iald dX12_passes_32 sh_1310 (by decide) (by decide) ?_
    refine E_icmp_lt (tgt := 40) dX12_passes_33 (by decide) (fun hc => ?_) (fun hc => ?_)
    · have h := Eq.mp (if_pos hc) h
      exact e_P_X12_passes_J40 h
    · have h := Eq.mp (if_neg hc) h
      refine E_aload_n dX12_passes_36 rfl rfl ?_
      refine E_callV (Y' := Y_X12_serves) (as := []) (st := []) dX12_passes_37 lk_RX12_369 m_X12_serves (by decide) (Nat.le_refl _) (Nat.le_refl _) rfl rfl (Nat.le_of_ble_eq_true rfl) (s_X12_serves h) (fun r0 B0 σ_1 h => ?_)
      obtain ⟨rfl, rfl, h⟩ := h
      exact e_P_X12_passes_J40 h
