abbrev Y_X12_counterNamed : My := (yX12_counterNamed, cX12_counterNamed, 3, some .int)
theorem dX12_counterNamed_0 : decode cX12_counterNamed 0 = .ok (.bipush 6, 2) := by decide +kernel
theorem dX12_counterNamed_2 : decode cX12_counterNamed 2 = .ok (.iload_n 1, 1) := by decide +kernel
theorem dX12_counterNamed_3 : decode cX12_counterNamed 3 = .ok (.imul, 1) := by decide +kernel
theorem dX12_counterNamed_4 : decode cX12_counterNamed 4 = .ok (.istore_n 2, 1) := by decide +kernel
theorem dX12_counterNamed_5 : decode cX12_counterNamed 5 = .ok (.iload_n 2, 1) := by decide +kernel
theorem dX12_counterNamed_6 : decode cX12_counterNamed 6 = .ok (.bipush 6, 2) := by decide +kernel
theorem dX12_counterNamed_8 : decode cX12_counterNamed 8 = .ok (.iload_n 1, 1) := by decide +kernel
theorem dX12_counterNamed_9 : decode cX12_counterNamed 9 = .ok (.imul, 1) := by decide +kernel
theorem dX12_counterNamed_10 : decode cX12_counterNamed 10 = .ok (.aload_n 0, 1) := by decide +kernel
theorem dX12_counterNamed_11 : decode cX12_counterNamed 11 = .ok (.getfield 13, 3) := by decide +kernel
theorem dX12_counterNamed_14 : decode cX12_counterNamed 14 = .ok (.iconst 4, 1) := by decide +kernel
theorem dX12_counterNamed_15 : decode cX12_counterNamed 15 = .ok (.iload_n 1, 1) := by decide +kernel
theorem dX12_counterNamed_16 : decode cX12_counterNamed 16 = .ok (.imul, 1) := by decide +kernel
theorem dX12_counterNamed_17 : decode cX12_counterNamed 17 = .ok (.iconst 0, 1) := by decide +kernel
theorem dX12_counterNamed_18 : decode cX12_counterNamed 18 = .ok (.iadd, 1) := by decide +kernel
theorem dX12_counterNamed_19 : decode cX12_counterNamed 19 = .ok (.iaload, 1) := by decide +kernel
theorem dX12_counterNamed_20 : decode cX12_counterNamed 20 = .ok (.iadd, 1) := by decide +kernel
theorem dX12_counterNamed_21 : decode cX12_counterNamed 21 = .ok (.if_icmp .ge 30, 3) := by decide +kernel
theorem dX12_counterNamed_24 : decode cX12_counterNamed 24 = .ok (.aload_n 0, 1) := by decide +kernel
theorem dX12_counterNamed_25 : decode cX12_counterNamed 25 = .ok (.getfield 16, 3) := by decide +kernel
theorem dX12_counterNamed_28 : decode cX12_counterNamed 28 = .ok (.iload_n 2, 1) := by decide +kernel
theorem dX12_counterNamed_29 : decode cX12_counterNamed 29 = .ok (.laload, 1) := by decide +kernel
theorem dX12_counterNamed_30 : decode cX12_counterNamed 30 = .ok (.aload_n 0, 1) := by decide +kernel
theorem dX12_counterNamed_31 : decode cX12_counterNamed 31 = .ok (.getfield 159, 3) := by decide +kernel
theorem dX12_counterNamed_34 : decode cX12_counterNamed 34 = .ok (.lcmp, 1) := by decide +kernel
theorem dX12_counterNamed_35 : decode cX12_counterNamed 35 = .ok (.ifCond .ne 10, 3) := by decide +kernel
theorem dX12_counterNamed_38 : decode cX12_counterNamed 38 = .ok (.iload_n 2, 1) := by decide +kernel
theorem dX12_counterNamed_39 : decode cX12_counterNamed 39 = .ok (.bipush 6, 2) := by decide +kernel
theorem dX12_counterNamed_41 : decode cX12_counterNamed 41 = .ok (.iload_n 1, 1) := by decide +kernel
theorem dX12_counterNamed_42 : decode cX12_counterNamed 42 = .ok (.imul, 1) := by decide +kernel
theorem dX12_counterNamed_43 : decode cX12_counterNamed 43 = .ok (.isub, 1) := by decide +kernel
theorem dX12_counterNamed_44 : decode cX12_counterNamed 44 = .ok (.ireturn, 1) := by decide +kernel
theorem dX12_counterNamed_45 : decode cX12_counterNamed 45 = .ok (.iinc 2 1, 3) := by decide +kernel
theorem dX12_counterNamed_48 : decode cX12_counterNamed 48 = .ok (.goto (-43), 3) := by decide +kernel
theorem dX12_counterNamed_51 : decode cX12_counterNamed 51 = .ok (.iconst (-1), 1) := by decide +kernel
theorem dX12_counterNamed_52 : decode cX12_counterNamed 52 = .ok (.ireturn, 1) := by decide +kernel
theorem fl_RX12_13 : FL RX12 13 12 10 := ⟨inG (i := 1410) (by decide +kernel) (by decide +kernel), by decide, by decide⟩
theorem fl_RX12_16 : FL RX12 16 12 11 := ⟨inG (i := 1411) (by decide +kernel) (by decide +kernel), by decide, by decide⟩
theorem go_12_10 (σ : St) (i : Nat) : go σ 12 i 10 = (1310, i) := rfl
theorem go_12_11 (σ : St) (i : Nat) : go σ 12 i 11 = (1311, i) := rfl
theorem sh_1310 : shp 1310 = (0, 8) := rfl
theorem sh_1311 : shp 1311 = (1, 12) := rfl
def P_X12_counterNamed_L5  (x1 : Int)  (Q : Int → St → Prop) : Nat → Int → St → Prop
  | 0, _, _ => False
  | n + 1, x2, σ => 0 ≤ wi ((wi (4 * x1)) + 0) ∧ wi ((wi (4 * x1)) + 0) < 8 ∧ (if (wi ((wi (6 * x1)) + (σ 1310 0 (wi ((wi (4 * x1)) + 0))))) ≤ x2 then Q (-1) σ else 0 ≤ x2 ∧ x2 < 12 ∧ (if (lC (σ 1311 0 x2) (σ 12 0 7)) = 0 then Q (wi (x2 - (wi (6 * x1)))) σ else (P_X12_counterNamed_L5 x1 Q n) (wi (x2 + 1)) σ))
set_option maxRecDepth 20000 in
set_option maxHeartbeats 2000000 in
theorem e_P_X12_counterNamed_L5  {x1 : Int}  {Q : Int → St → Prop}   : ∀ (n : Nat) (x2 : Int) (σ : St), P_X12_counterNamed_L5 x1 Q n x2 σ → E Y_X12_counterNamed 0 0 0 (QI Q) ww 0 0 5 [some (vR 12 0), some (vI x1), some (vI x2)] [] σ := by
  intro n
  induction n with
  | zero => intro x2 σ h; exact h.elim
  | succ n hR =>
    intro x2 σ h
    unfold P_X12_counterNamed_L5 at h
    refine E_iload_n dX12_counterNamed_5 rfl rfl ?_
    refine E_bp dX12_counterNamed_6 rfl ?_
    refine E_iload_n dX12_counterNamed_8 rfl rfl ?_
    refine E_imul dX12_counterNamed_9 ?_
    refine E_aload_n dX12_counterNamed_10 rfl rfl ?_
    refine E_getr (i := 0) dX12_counterNamed_11 fl_RX12_13 rfl rfl (go_12_10 _ _) ?_
    refine E_ic dX12_counterNamed_14 rfl ?_
    refine E_iload_n dX12_counterNamed_15 rfl rfl ?_
    refine E_imul dX12_counterNamed_16 ?_
    refine E_ic dX12_counterNamed_17 rfl ?_
    refine E_iadd dX12_counterNamed_18 ?_
    obtain ⟨hg0, hg1, h⟩ := h
    refine E_iald dX12_counterNamed_19 sh_1310 hg0 hg1 ?_
    refine E_iadd dX12_counterNamed_20 ?_
    refine E_icmp_ge (tgt := 51) dX12_counterNamed_21 (by decide) (fun hc => ?_) (fun hc => ?_)
    · have h := Eq.mp (if_pos hc) h
      refine E_ic dX12_counterNamed_51 rfl ?_
      exact E_iret dX12_counterNamed_52 rfl ⟨_, rfl, rfl, h⟩
    · have h := Eq.mp (if_neg hc) h
      refine E_aload_n dX12_counterNamed_24 rfl rfl ?_
      refine E_getr (i := 0) dX12_counterNamed_25 fl_RX12_16 rfl rfl (go_12_11 _ _) ?_
      refine E_iload_n dX12_counterNamed_28 rfl rfl ?_
      obtain ⟨hg0, hg1, h⟩ := h
      refine E_lald dX12_counterNamed_29 sh_1311 hg0 hg1 ?_
      refine E_aload_n dX12_counterNamed_30 rfl rfl ?_
      refine E_getl (i := 0) dX12_counterNamed_31 fl_RX12_159 rfl ?_
      refine E_lcmp dX12_counterNamed_34 ?_
      refine E_if_ne (tgt := 45) dX12_counterNamed_35 (by decide) (fun hc => ?_) (fun hc => ?_)
      · have h := Eq.mp (if_neg hc) h
        refine E_iinc (ls' := [some (vR 12 0), some (vI x1), some (vI (wi (x2 + 1)))]) dX12_counterNamed_45 rfl (by decide) rfl rfl ?_
        refine E_goto (tgt := 5) dX12_counterNamed_48 (by decide) ?_
        exact hR _ _ h
      · have h := Eq.mp (if_pos hc) h
        refine E_iload_n dX12_counterNamed_38 rfl rfl ?_
        refine E_bp dX12_counterNamed_39 rfl ?_
        refine E_iload_n dX12_counterNamed_41 rfl rfl ?_
        refine E_imul dX12_counterNamed_42 ?_
        refine E_isub dX12_counterNamed_43 ?_
        exact E_iret dX12_counterNamed_44 rfl ⟨_, rfl, rfl, h⟩
def P_X12_counterNamed  (x1 : Int) (σ : St) (Q : Int → St → Prop) : Prop :=
  P_X12_counterNamed_L5 x1 Q FU (wi (6 * x1)) σ
set_option maxRecDepth 20000 in
set_option maxHeartbeats 2000000 in
theorem s_X12_counterNamed   {x1 : Int} {σ : St} {Q : Int → St → Prop} (h : P_X12_counterNamed x1 σ Q) : Cn Y_X12_counterNamed 0 0 0 ww σ [vR 12 0, vI x1] (QI Q) := by
  refine Cn_of [some (vR 12 0), some (vI x1), none] (by decide) (Nat.le_of_ble_eq_true rfl) rfl ?_
  unfold P_X12_counterNamed at h
  refine E_bp dX12_counterNamed_0 rfl ?_
  refine E_iload_n dX12_counterNamed_2 rfl rfl ?_
  refine E_imul dX12_counterNamed_3 ?_
  refine E_istore_n (ls' := [some (vR 12 0), some (vI x1), some (vI (wi (6 * x1)))]) dX12_counterNamed_4 rfl (by decide) rfl ?_
  refine e_P_X12_counterNamed_L5  _ _ _ h
abbrev Y_X12_ballNamed : My := (yX12_ballNamed, cX12_ballNamed, 3, some .int)
theorem dX12_ballNamed_0 : decode cX12_ballNamed 0 = .ok (.bipush 6, 2) := by decide +kernel
theorem dX12_ballNamed_2 : decode cX12_ballNamed 2 = .ok (.iload_n 1, 1) := by decide +kernel
theorem dX12_ballNamed_3 : decode cX12_ballNamed 3 = .ok (.imul, 1) := by decide +kernel
theorem dX12_ballNamed_4 : decode cX12_ballNamed 4 = .ok (.istore_n 2, 1) := by decide +kernel
theorem dX12_ballNamed_5 : decode cX12_ballNamed 5 = .ok (.iload_n 2, 1) := by decide +kernel
theorem dX12_ballNamed_6 : decode cX12_ballNamed 6 = .ok (.bipush 6, 2) := by decide +kernel
theorem dX12_ballNamed_8 : decode cX12_ballNamed 8 = .ok (.iload_n 1, 1) := by decide +kernel
theorem dX12_ballNamed_9 : decode cX12_ballNamed 9 = .ok (.imul, 1) := by decide +kernel
theorem dX12_ballNamed_10 : decode cX12_ballNamed 10 = .ok (.aload_n 0, 1) := by decide +kernel
theorem dX12_ballNamed_11 : decode cX12_ballNamed 11 = .ok (.getfield 13, 3) := by decide +kernel
theorem dX12_ballNamed_14 : decode cX12_ballNamed 14 = .ok (.iconst 4, 1) := by decide +kernel
theorem dX12_ballNamed_15 : decode cX12_ballNamed 15 = .ok (.iload_n 1, 1) := by decide +kernel
theorem dX12_ballNamed_16 : decode cX12_ballNamed 16 = .ok (.imul, 1) := by decide +kernel
theorem dX12_ballNamed_17 : decode cX12_ballNamed 17 = .ok (.iconst 1, 1) := by decide +kernel
theorem dX12_ballNamed_18 : decode cX12_ballNamed 18 = .ok (.iadd, 1) := by decide +kernel
theorem dX12_ballNamed_19 : decode cX12_ballNamed 19 = .ok (.iaload, 1) := by decide +kernel
theorem dX12_ballNamed_20 : decode cX12_ballNamed 20 = .ok (.iadd, 1) := by decide +kernel
theorem dX12_ballNamed_21 : decode cX12_ballNamed 21 = .ok (.if_icmp .ge 30, 3) := by decide +kernel
theorem dX12_ballNamed_24 : decode cX12_ballNamed 24 = .ok (.aload_n 0, 1) := by decide +kernel
theorem dX12_ballNamed_25 : decode cX12_ballNamed 25 = .ok (.getfield 20, 3) := by decide +kernel
theorem dX12_ballNamed_28 : decode cX12_ballNamed 28 = .ok (.iload_n 2, 1) := by decide +kernel
theorem dX12_ballNamed_29 : decode cX12_ballNamed 29 = .ok (.laload, 1) := by decide +kernel
theorem dX12_ballNamed_30 : decode cX12_ballNamed 30 = .ok (.aload_n 0, 1) := by decide +kernel
theorem dX12_ballNamed_31 : decode cX12_ballNamed 31 = .ok (.getfield 159, 3) := by decide +kernel
theorem dX12_ballNamed_34 : decode cX12_ballNamed 34 = .ok (.lcmp, 1) := by decide +kernel
theorem dX12_ballNamed_35 : decode cX12_ballNamed 35 = .ok (.ifCond .ne 10, 3) := by decide +kernel
theorem dX12_ballNamed_38 : decode cX12_ballNamed 38 = .ok (.iload_n 2, 1) := by decide +kernel
theorem dX12_ballNamed_39 : decode cX12_ballNamed 39 = .ok (.bipush 6, 2) := by decide +kernel
theorem dX12_ballNamed_41 : decode cX12_ballNamed 41 = .ok (.iload_n 1, 1) := by decide +kernel
theorem dX12_ballNamed_42 : decode cX12_ballNamed 42 = .ok (.imul, 1) := by decide +kernel
theorem dX12_ballNamed_43 : decode cX12_ballNamed 43 = .ok (.isub, 1) := by decide +kernel
theorem dX12_ballNamed_44 : decode cX12_ballNamed 44 = .ok (.ireturn, 1) := by decide +kernel
theorem dX12_ballNamed_45 : decode cX12_ballNamed 45 = .ok (.iinc 2 1, 3) := by decide +kernel
theorem dX12_ballNamed_48 : decode cX12_ballNamed 48 = .ok (.goto (-43), 3) := by decide +kernel
theorem dX12_ballNamed_51 : decode cX12_ballNamed 51 = .ok (.iconst (-1), 1) := by decide +kernel
theorem dX12_ballNamed_52 : decode cX12_ballNamed 52 = .ok (.ireturn, 1) := by decide +kernel
theorem fl_RX12_20 : FL RX12 20 12 12 := ⟨inG (i := 1412) (by decide +kernel) (by decide +kernel), by decide, by decide⟩
theorem go_12_12 (σ : St) (i : Nat) : go σ 12 i 12 = (1312, i) := rfl
theorem sh_1312 : shp 1312 = (1, 12) := rfl
def P_X12_ballNamed_L5  (x1 : Int)  (Q : Int → St → Prop) : Nat → Int → St → Prop
  | 0, _, _ => False
  | n + 1, x2, σ => 0 ≤ wi ((wi (4 * x1)) + 1) ∧ wi ((wi (4 * x1)) + 1) < 8 ∧ (if (wi ((wi (6 * x1)) + (σ 1310 0 (wi ((wi (4 * x1)) + 1))))) ≤ x2 then Q (-1) σ else 0 ≤ x2 ∧ x2 < 12 ∧ (if (lC (σ 1312 0 x2) (σ 12 0 7)) = 0 then Q (wi (x2 - (wi (6 * x1)))) σ else (P_X12_ballNamed_L5 x1 Q n) (wi (x2 + 1)) σ))
set_option maxRecDepth 20000 in
set_option maxHeartbeats 2000000 in
theorem e_P_X12_ballNamed_L5  {x1 : Int}  {Q : Int → St → Prop}   : ∀ (n : Nat) (x2 : Int) (σ : St), P_X12_ballNamed_L5 x1 Q n x2 σ → E Y_X12_ballNamed 0 0 0 (QI Q) ww 0 0 5 [some (vR 12 0), some (vI x1), some (vI x2)] [] σ := by
  intro n
  induction n with
  | zero => intro x2 σ h; exact h.elim
  | succ n hR =>
    intro x2 σ h
    unfold P_X12_ballNamed_L5 at h
    refine E_iload_n dX12_ballNamed_5 rfl rfl ?_
    refine E_bp dX12_ballNamed_6 rfl ?_
    refine E_iload_n dX12_ballNamed_8 rfl rfl ?_
    refine E_imul dX12_ballNamed_9 ?_
    refine E_aload_n dX12_ballNamed_10 rfl rfl ?_
    refine E_getr (i := 0) dX12_ballNamed_11 fl_RX12_13 rfl rfl (go_12_10 _ _) ?_
    refine E_ic dX12_ballNamed_14 rfl ?_
    refine E_iload_n dX12_ballNamed_15 rfl rfl ?_
    refine E_imul dX12_ballNamed_16 ?_
    refine E_ic dX12_ballNamed_17 rfl ?_
    refine E_iadd dX12_ballNamed_18 ?_
    obtain ⟨hg0, hg1, h⟩ := h
    refine E_iald dX12_ballNamed_19 sh_1310 hg0 hg1 ?_
    refine E_iadd dX12_ballNamed_20 ?_
    refine E_icmp_ge (tgt := 51) dX12_ballNamed_21 (by decide) (fun hc => ?_) (fun hc => ?_)
    · have h := Eq.mp (if_pos hc) h
      refine E_ic dX12_ballNamed_51 rfl ?_
      exact E_iret dX12_ballNamed_52 rfl ⟨_, rfl, rfl, h⟩
    · have h := Eq.mp (if_neg hc) h
      refine E_aload_n dX12_ballNamed_24 rfl rfl ?_
      refine E_getr (i := 0) dX12_ballNamed_25 fl_RX12_20 rfl rfl (go_12_12 _ _) ?_
      refine E_iload_n dX12_ballNamed_28 rfl rfl ?_
      obtain ⟨hg0, hg1, h⟩ := h
      refine E_lald dX12_ballNamed_29 sh_1312 hg0 hg1 ?_
      refine E_aload_n dX12_ballNamed_30 rfl rfl ?_
      refine E_getl (i := 0) dX12_ballNamed_31 fl_RX12_159 rfl ?_
      refine E_lcmp dX12_ballNamed_34 ?_
      refine E_if_ne (tgt := 45) dX12_ballNamed_35 (by decide) (fun hc => ?_) (fun hc => ?_)
      · have h := Eq.mp (if_neg hc) h
        refine E_iinc (ls' := [some (vR 12 0), some (vI x1), some (vI (wi (x2 + 1)))]) dX12_ballNamed_45 rfl (by decide) rfl rfl ?_
        refine E_goto (tgt := 5) dX12_ballNamed_48 (by decide) ?_
        exact hR _ _ h
      · have h := Eq.mp (if_pos hc) h
        refine E_iload_n dX12_ballNamed_38 rfl rfl ?_
        refine E_bp dX12_ballNamed_39 rfl ?_
        refine E_iload_n dX12_ballNamed_41 rfl rfl ?_
        refine E_imul dX12_ballNamed_42 ?_
        refine E_isub dX12_ballNamed_43 ?_
        exact E_iret dX12_ballNamed_44 rfl ⟨_, rfl, rfl, h⟩
def P_X12_ballNamed  (x1 : Int) (σ : St) (Q : Int → St → Prop) : Prop :=
  P_X12_ballNamed_L5 x1 Q FU (wi (6 * x1)) σ
set_option maxRecDepth 20000 in
set_option maxHeartbeats 2000000 in
theorem s_X12_ballNamed   {x1 : Int} {σ : St} {Q : Int → St → Prop} (h : P_X12_ballNamed x1 σ Q) : Cn Y_X12_ballNamed 0 0 0 ww σ [vR 12 0, vI x1] (QI Q) := by
  refine Cn_of [some (vR 12 0), some (vI x1), none] (by decide) (Nat.le_of_ble_eq_true rfl) rfl ?_
  unfold P_X12_ballNamed at h
  refine E_bp dX12_ballNamed_0 rfl ?_
  refine E_iload_n dX12_ballNamed_2 rfl rfl ?_
  refine E_imul dX12_ballNamed_3 ?_
  refine E_istore_n (ls' := [some (vR 12 0), some (vI x1), some (vI (wi (6 * x1)))]) dX12_ballNamed_4 rfl (by decide) rfl ?_
  refine e_P_X12_ballNamed_L5  _ _ _ h
abbrev Y_X12_needsNumber : My := (yX12_needsNumber, cX12_needsNumber, 3, some .boolean)
theorem dX12_needsNumber_0 : decode cX12_needsNumber 0 = .ok (.aload_n 0, 1) := by decide +kernel
theorem dX12_needsNumber_1 : decode cX12_needsNumber 1 = .ok (.getfield 166, 3) := by decide +kernel
theorem dX12_needsNumber_4 : decode cX12_needsNumber 4 = .ok (.iconst 2, 1) := by decide +kernel
theorem dX12_needsNumber_5 : decode cX12_needsNumber 5 = .ok (.if_icmp .eq 9, 3) := by decide +kernel
theorem dX12_needsNumber_8 : decode cX12_needsNumber 8 = .ok (.aload_n 0, 1) := by decide +kernel
theorem dX12_needsNumber_9 : decode cX12_needsNumber 9 = .ok (.iconst 1, 1) := by decide +kernel
theorem dX12_needsNumber_10 : decode cX12_needsNumber 10 = .ok (.invokevirtual 205, 3) := by decide +kernel
theorem dX12_needsNumber_13 : decode cX12_needsNumber 13 = .ok (.ireturn, 1) := by decide +kernel
theorem dX12_needsNumber_14 : decode cX12_needsNumber 14 = .ok (.aload_n 0, 1) := by decide +kernel
theorem dX12_needsNumber_15 : decode cX12_needsNumber 15 = .ok (.getfield 163, 3) := by decide +kernel
theorem dX12_needsNumber_18 : decode cX12_needsNumber 18 = .ok (.iload_n 1, 1) := by decide +kernel
theorem dX12_needsNumber_19 : decode cX12_needsNumber 19 = .ok (.iload_n 2, 1) := by decide +kernel
theorem dX12_needsNumber_20 : decode cX12_needsNumber 20 = .ok (.invokestatic 264, 3) := by decide +kernel
theorem dX12_needsNumber_23 : decode cX12_needsNumber 23 = .ok (.ifCond .ne 9, 3) := by decide +kernel
theorem dX12_needsNumber_26 : decode cX12_needsNumber 26 = .ok (.aload_n 0, 1) := by decide +kernel
theorem dX12_needsNumber_27 : decode cX12_needsNumber 27 = .ok (.iconst 4, 1) := by decide +kernel
theorem dX12_needsNumber_28 : decode cX12_needsNumber 28 = .ok (.invokevirtual 205, 3) := by decide +kernel
theorem dX12_needsNumber_31 : decode cX12_needsNumber 31 = .ok (.ireturn, 1) := by decide +kernel
theorem dX12_needsNumber_32 : decode cX12_needsNumber 32 = .ok (.aload_n 0, 1) := by decide +kernel
theorem dX12_needsNumber_33 : decode cX12_needsNumber 33 = .ok (.aload_n 0, 1) := by decide +kernel
theorem dX12_needsNumber_34 : decode cX12_needsNumber 34 = .ok (.getfield 163, 3) := by decide +kernel
theorem dX12_needsNumber_37 : decode cX12_needsNumber 37 = .ok (.putfield 268, 3) := by decide +kernel
theorem dX12_needsNumber_40 : decode cX12_needsNumber 40 = .ok (.aload_n 0, 1) := by decide +kernel
theorem dX12_needsNumber_41 : decode cX12_needsNumber 41 = .ok (.invokevirtual 212, 3) := by decide +kernel
theorem dX12_needsNumber_44 : decode cX12_needsNumber 44 = .ok (.iconst 1, 1) := by decide +kernel
theorem dX12_needsNumber_45 : decode cX12_needsNumber 45 = .ok (.ireturn, 1) := by decide +kernel
theorem fl_RX12_268 : FL RX12 268 12 36 := ⟨inG (i := 1436) (by decide +kernel) (by decide +kernel), by decide, by decide⟩
theorem lk_RX12_264 : Cond.methodLink RX12 264 yX12_within ∈ tG := inG (i := 1662) (by decide +kernel) (by decide +kernel)
theorem m_X12_within : MS Y_X12_within 3 := ⟨⟨inG (i := 1664) (by decide +kernel) (by decide +kernel), inG (i := 110) (by decide +kernel) (by decide +kernel), by decide, by decide, by decide, by decide +kernel⟩, inG (i := 1663) (by decide +kernel) (by decide +kernel)⟩
def P_X12_needsNumber  (x1 : Int) (x2 : Int) (σ : St) (Q : Int → St → Prop) : Prop :=
  (if (σ 12 0 6) = 2 then P_X12_within (σ 12 0 8) x1 x2 σ (fun r_2 σ_1 => (if r_2 = 0 then P_X12_fails 4 σ_1 (fun r_5 σ_4 => (r_5 = 0 ∨ r_5 = 1) ∧ Q r_5 σ_4) else P_X12_nextToken (up σ_1 12 0 36 (σ_1 12 0 8)) (fun σ_3 => Q 1 σ_3))) else P_X12_fails 1 σ (fun r_7 σ_6 => (r_7 = 0 ∨ r_7 = 1) ∧ Q r_7 σ_6))
set_option maxRecDepth 20000 in
set_option maxHeartbeats 2000000 in
theorem s_X12_needsNumber   {x1 : Int} {x2 : Int} {σ : St} {Q : Int → St → Prop} (h : P_X12_needsNumber x1 x2 σ Q) : Cn Y_X12_needsNumber 2 0 0 ww σ [vR 12 0, vI x1, vI x2] (QI Q) := by
  refine Cn_of [some (vR 12 0), some (vI x1), some (vI x2)] (by decide) (Nat.le_of_ble_eq_true rfl) rfl ?_
  unfold P_X12_needsNumber at h
  refine E_aload_n dX12_needsNumber_0 rfl rfl ?_
  refine E_geti (i := 0) dX12_needsNumber_1 fl_RX12_166 rfl ?_
  refine E_ic dX12_needsNumber_4 rfl ?_
  refine E_icmp_eq (tgt := 14) dX12_needsNumber_5 (by decide) (fun hc => ?_) (fun hc => ?_)
  · have h := Eq.mp (if_pos hc) h
    refine E_aload_n dX12_needsNumber_14 rfl rfl ?_
    refine E_geti (i := 0) dX12_needsNumber_15 fl_RX12_163 rfl ?_
    refine E_iload_n dX12_needsNumber_18 rfl rfl ?_
    refine E_iload_n dX12_needsNumber_19 rfl rfl ?_
    refine E_callS (Y' := Y_X12_within) (as := [vI (σ 12 0 8), vI x1, vI x2]) (st := []) dX12_needsNumber_20 lk_RX12_264 m_X12_within (by decide) (Nat.le_refl _) (Nat.le_refl _) rfl rfl (Nat.le_of_ble_eq_true rfl) (s_X12_within h) (fun r0 B0 σ_1 h => ?_)
    obtain ⟨r_2, rfl, rfl, h⟩ := h
    refine E_if_ne (tgt := 32) dX12_needsNumber_23 (by decide) (fun hc => ?_) (fun hc => ?_)
    · have h := Eq.mp (if_neg hc) h
      refine E_aload_n dX12_needsNumber_32 rfl rfl ?_
      refine E_aload_n dX12_needsNumber_33 rfl rfl ?_
      refine E_geti (i := 0) dX12_needsNumber_34 fl_RX12_163 rfl ?_
      refine E_puti dX12_needsNumber_37 fl_RX12_268 rfl rfl rfl ?_
      refine E_aload_n dX12_needsNumber_40 rfl rfl ?_
      refine E_callV (Y' := Y_X12_nextToken) (as := []) (st := []) dX12_needsNumber_41 lk_RX12_212 m_X12_nextToken (by decide) (Nat.le_refl _) (Nat.le_refl _) rfl rfl (Nat.le_of_ble_eq_true rfl) (s_X12_nextToken h) (fun r0 B0 σ_3 h => ?_)
      obtain ⟨rfl, rfl, h⟩ := h
      refine E_ic dX12_needsNumber_44 rfl ?_
      exact E_zret dX12_needsNumber_45 rfl (by decide) ⟨_, rfl, rfl, h⟩
    · have h := Eq.mp (if_pos hc) h
      refine E_aload_n dX12_needsNumber_26 rfl rfl ?_
      refine E_ic dX12_needsNumber_27 rfl ?_
      refine E_callV (Y' := Y_X12_fails) (as := [vI 4]) (st := []) dX12_needsNumber_28 lk_RX12_205 m_X12_fails (by decide) (Nat.le_refl _) (Nat.le_refl _) rfl rfl (Nat.le_of_ble_eq_true rfl) (s_X12_fails h) (fun r0 B0 σ_4 h => ?_)
      obtain ⟨r_5, rfl, rfl, h⟩ := h
      obtain ⟨hg0, h⟩ := h
      exact E_zret dX12_needsNumber_31 rfl hg0 ⟨_, rfl, rfl, h⟩
  · have h := Eq.mp (if_neg hc) h
    refine E_aload_n dX12_needsNumber_8 rfl rfl ?_
    refine E_ic dX12_needsNumber_9 rfl ?_
    refine E_callV (Y' := Y_X12_fails) (as := [vI 1]) (st := []) dX12_needsNumber_10 lk_RX12_205 m_X12_fails (by decide) (Nat.le_refl _) (Nat.le_refl _) rfl rfl (Nat.le_of_ble_eq_true rfl) (s_X12_fails h) (fun r0 B0 σ_6 h => ?_)
    obtain ⟨r_7, rfl, rfl, h⟩ := h
    obtain ⟨hg0, h⟩ := h
    exact E_zret dX12_needsNumber_13 rfl hg0 ⟨_, rfl, rfl, h⟩
abbrev Y_X12_needsWord : My := (yX12_needsWord, cX12_needsWord, 3, some .boolean)
theorem dX12_needsWord_0 : decode cX12_needsWord 0 = .ok (.aload_n 0, 1) := by decide +kernel
theorem dX12_needsWord_1 : decode cX12_needsWord 1 = .ok (.lload_n 1, 1) := by decide +kernel
theorem dX12_needsWord_2 : decode cX12_needsWord 2 = .ok (.invokevirtual 197, 3) := by decide +kernel
theorem dX12_needsWord_5 : decode cX12_needsWord 5 = .ok (.ifCond .ne 9, 3) := by decide +kernel
theorem dX12_needsWord_8 : decode cX12_needsWord 8 = .ok (.aload_n 0, 1) := by decide +kernel
theorem dX12_needsWord_9 : decode cX12_needsWord 9 = .ok (.iconst 1, 1) := by decide +kernel
theorem dX12_needsWord_10 : decode cX12_needsWord 10 = .ok (.invokevirtual 205, 3) := by decide +kernel
theorem dX12_needsWord_13 : decode cX12_needsWord 13 = .ok (.ireturn, 1) := by decide +kernel
theorem dX12_needsWord_14 : decode cX12_needsWord 14 = .ok (.aload_n 0, 1) := by decide +kernel
theorem dX12_needsWord_15 : decode cX12_needsWord 15 = .ok (.invokevirtual 212, 3) := by decide +kernel
theorem dX12_needsWord_18 : decode cX12_needsWord 18 = .ok (.iconst 1, 1) := by decide +kernel
theorem dX12_needsWord_19 : decode cX12_needsWord 19 = .ok (.ireturn, 1) := by decide +kernel
def P_X12_needsWord  (x1 : Int) (σ : St) (Q : Int → St → Prop) : Prop :=
  P_X12_isWord x1 σ (fun r_2 σ_1 => (if r_2 = 0 then P_X12_fails 1 σ_1 (fun r_5 σ_4 => (r_5 = 0 ∨ r_5 = 1) ∧ Q r_5 σ_4) else P_X12_nextToken σ_1 (fun σ_3 => Q 1 σ_3)))
set_option maxRecDepth 20000 in
set_option maxHeartbeats 2000000 in
theorem s_X12_needsWord   {x1 : Int} {σ : St} {Q : Int → St → Prop} (h : P_X12_needsWord x1 σ Q) : Cn Y_X12_needsWord 2 0 0 ww σ [vR 12 0, vL x1] (QI Q) := by
  refine Cn_of [some (vR 12 0), some (vL x1), none] (by decide) (Nat.le_of_ble_eq_true rfl) rfl ?_
  unfold P_X12_needsWord at h
  refine E_aload_n dX12_needsWord_0 rfl rfl ?_
  refine E_lload_n dX12_needsWord_1 rfl rfl ?_
  refine E_callV (Y' := Y_X12_isWord) (as := [vL x1]) (st := []) dX12_needsWord_2 lk_RX12_197 m_X12_isWord (by decide) (Nat.le_refl _) (Nat.le_refl _) rfl rfl (Nat.le_of_ble_eq_true rfl) (s_X12_isWord h) (fun r0 B0 σ_1 h => ?_)
  obtain ⟨r_2, rfl, rfl, h⟩ := h
  refine E_if_ne (tgt := 14) dX12_needsWord_5 (by decide) (fun hc => ?_) (fun hc => ?_)
  · have h := Eq.mp (if_neg hc) h
    refine E_aload_n dX12_needsWord_14 rfl rfl ?_
    refine E_callV (Y' := Y_X12_nextToken) (as := []) (st := []) dX12_needsWord_15 lk_RX12_212 m_X12_nextToken (by decide) (Nat.le_refl _) (Nat.le_refl _) rfl rfl (Nat.le_of_ble_eq_true rfl) (s_X12_nextToken h) (fun r0 B0 σ_3 h => ?_)
    obtain ⟨rfl, rfl, h⟩ := h
    refine E_ic dX12_needsWord_18 rfl ?_
    exact E_zret dX12_needsWord_19 rfl (by decide) ⟨_, rfl, rfl, h⟩
  · have h := Eq.mp (if_pos hc) h
    refine E_aload_n dX12_needsWord_8 rfl rfl ?_
    refine E_ic dX12_needsWord_9 rfl ?_
    refine E_callV (Y' := Y_X12_fails) (as := [vI 1]) (st := []) dX12_needsWord_10 lk_RX12_205 m_X12_fails (by decide) (Nat.le_refl _) (Nat.le_refl _) rfl rfl (Nat.le_of_ble_eq_true rfl) (s_X12_fails h) (fun r0 B0 σ_4 h => ?_)
    obtain ⟨r_5, rfl, rfl, h⟩ := h
    obtain ⟨hg0, h⟩ := h
    exact E_zret dX12_needsWord_13 rfl hg0 ⟨_, rfl, rfl, h⟩
abbrev Y_X12_needsBoth : My := (yX12_needsBoth, cX12_needsBoth, 5, some .boolean)
theorem dX12_needsBoth_0 : decode cX12_needsBoth 0 = .ok (.aload_n 0, 1) := by decide +kernel
theorem dX12_needsBoth_1 : decode cX12_needsBoth 1 = .ok (.lload_n 1, 1) := by decide +kernel
theorem dX12_needsBoth_2 : decode cX12_needsBoth 2 = .ok (.invokevirtual 271, 3) := by decide +kernel
theorem dX12_needsBoth_5 : decode cX12_needsBoth 5 = .ok (.ifCond .eq 17, 3) := by decide +kernel
theorem dX12_needsBoth_8 : decode cX12_needsBoth 8 = .ok (.aload_n 0, 1) := by decide +kernel
theorem dX12_needsBoth_9 : decode cX12_needsBoth 9 = .ok (.iload_n 3, 1) := by decide +kernel
theorem dX12_needsBoth_10 : decode cX12_needsBoth 10 = .ok (.iload 4, 2) := by decide +kernel
theorem dX12_needsBoth_12 : decode cX12_needsBoth 12 = .ok (.invokevirtual 274, 3) := by decide +kernel
theorem dX12_needsBoth_15 : decode cX12_needsBoth 15 = .ok (.ifCond .eq 7, 3) := by decide +kernel
theorem dX12_needsBoth_18 : decode cX12_needsBoth 18 = .ok (.iconst 1, 1) := by decide +kernel
theorem dX12_needsBoth_19 : decode cX12_needsBoth 19 = .ok (.goto 4, 3) := by decide +kernel
theorem dX12_needsBoth_22 : decode cX12_needsBoth 22 = .ok (.iconst 0, 1) := by decide +kernel
theorem dX12_needsBoth_23 : decode cX12_needsBoth 23 = .ok (.ireturn, 1) := by decide +kernel
theorem lk_RX12_271 : Cond.methodLink RX12 271 yX12_needsWord ∈ tG := inG (i := 1658) (by decide +kernel) (by decide +kernel)
theorem lk_RX12_274 : Cond.methodLink RX12 274 yX12_needsNumber ∈ tG := inG (i := 1669) (by decide +kernel) (by decide +kernel)
theorem m_X12_needsNumber : MV Y_X12_needsNumber 2 12 := ⟨⟨inG (i := 1672) (by decide +kernel) (by decide +kernel), inG (i := 110) (by decide +kernel) (by decide +kernel), by decide, by decide, by decide, by decide +kernel⟩, inG (i := 1671) (by decide +kernel) (by decide +kernel), inG (i := 45) (by decide +kernel) (by decide +kernel), by decide⟩
theorem m_X12_needsWord : MV Y_X12_needsWord 1 12 := ⟨⟨inG (i := 1661) (by decide +kernel) (by decide +kernel), inG (i := 110) (by decide +kernel) (by decide +kernel), by decide, by decide, by decide, by decide +kernel⟩, inG (i := 1660) (by decide +kernel) (by decide +kernel), inG (i := 43) (by decide +kernel) (by decide +kernel), by decide⟩
def P_X12_needsBoth_J22    (Q : Int → St → Prop) (σ : St) : Prop :=
  Q 0 σ
set_option maxRecDepth 20000 in
set_option maxHeartbeats 2000000 in
theorem e_P_X12_needsBoth_J22    {Q : Int → St → Prop} {σ : St}   (h : P_X12_needsBoth_J22  Q σ) : E Y_X12_needsBoth 3 0 0 (QI Q) ww 0 0 22 [none, none, none, none, none] [] σ := by
  unfold P_X12_needsBoth_J22 at h
  refine E_ic dX12_needsBoth_22 rfl ?_
  exact E_zret dX12_needsBoth_23 rfl (by decide) ⟨_, rfl, rfl, h⟩
def P_X12_needsBoth  (x1 : Int) (x3 : Int) (x4 : Int) (σ : St) (Q : Int → St → Prop) : Prop :=
  P_X12_needsWord x1 σ (fun r_2 σ_1 => (if r_2 = 0 then P_X12_needsBoth_J22 Q σ_1 else P_X12_needsNumber x3 x4 σ_1 (fun r_4 σ_3 => (if r_4 = 0 then P_X12_needsBoth_J22 Q σ_3 else Q 1 σ_3))))
set_option maxRecDepth 20000 in
set_option maxHeartbeats 2000000 in
theorem s_X12_needsBoth   {x1 : Int} {x3 : Int} {x4 : Int} {σ : St} {Q : Int → St → Prop} (h : P_X12_needsBoth x1 x3 x4 σ Q) : Cn Y_X12_needsBoth 3 0 0 ww σ [vR 12 0, vL x1, vI x3, vI x4] (QI Q) := by
  refine Cn_of [some (vR 12 0), some (vL x1), none, some (vI x3), some (vI x4)] (by decide) (Nat.le_of_ble_eq_true rfl) rfl ?_
  unfold P_X12_needsBoth at h
  refine E_aload_n dX12_needsBoth_0 rfl rfl ?_
  refine E_lload_n dX12_needsBoth_1 rfl rfl ?_
  refine E_callV (Y' := Y_X12_needsWord) (as := [vL x1]) (st := []) dX12_needsBoth_2 lk_RX12_271 m_X12_needsWord (by decide) (Nat.le_refl _) (Nat.le_refl _) rfl rfl (Nat.le_of_ble_eq_true rfl) (s_X12_needsWord h) (fun r0 B0 σ_1 h => ?_)
  obtain ⟨r_2, rfl, rfl, h⟩ := h
  refine E_if_eq (tgt := 22) dX12_needsBoth_5 (by decide) (fun hc => ?_) (fun hc => ?_)
  · have h := Eq.mp (if_pos hc) h
    refine E_wk2 [none, none, none, none, none] trivial ?_
    exact e_P_X12_needsBoth_J22 h
  · have h := Eq.mp (if_neg hc) h
    refine E_aload_n dX12_needsBoth_8 rfl rfl ?_
    refine E_iload_n dX12_needsBoth_9 rfl rfl ?_
    refine E_iload dX12_needsBoth_10 rfl ?_
    refine E_callV (Y' := Y_X12_needsNumber) (as := [vI x3, vI x4]) (st := []) dX12_needsBoth_12 lk_RX12_274 m_X12_needsNumber (by decide) (Nat.le_refl _) (Nat.le_refl _) rfl rfl (Nat.le_of_ble_eq_true rfl) (s_X12_needsNumber h) (fun r0 B0 σ_3 h => ?_)
    obtain ⟨r_4, rfl, rfl, h⟩ := h
    refine E_if_eq (tgt := 22) dX12_needsBoth_15 (by decide) (fun hc => ?_) (fun hc => ?_)
    · have h := Eq.mp (if_pos hc) h
      refine E_wk2 [none, none, none, none, none] trivial ?_
      exact e_P_X12_needsBoth_J22 h
    · have h := Eq.mp (if_neg hc) h
      refine E_ic dX12_needsBoth_18 rfl ?_
      refine E_goto (tgt := 23) dX12_needsBoth_19 (by decide) ?_
      exact E_zret dX12_needsBoth_23 rfl (by decide) ⟨_, rfl, rfl, h⟩
abbrev Y_X12_closes : My := (yX12_closes, cX12_closes, 1, some .boolean)
theorem dX12_closes_0 : decode cX12_closes 0 = .ok (.aload_n 0, 1) := by decide +kernel
theorem dX12_closes_1 : decode cX12_closes 1 = .ok (.bipush 59, 2) := by decide +kernel
theorem dX12_closes_3 : decode cX12_closes 3 = .ok (.invokevirtual 201, 3) := by decide +kernel
theorem dX12_closes_6 : decode cX12_closes 6 = .ok (.ifCond .ne 9, 3) := by decide +kernel
theorem dX12_closes_9 : decode cX12_closes 9 = .ok (.aload_n 0, 1) := by decide +kernel
theorem dX12_closes_10 : decode cX12_closes 10 = .ok (.iconst 1, 1) := by decide +kernel
theorem dX12_closes_11 : decode cX12_closes 11 = .ok (.invokevirtual 205, 3) := by decide +kernel
theorem dX12_closes_14 : decode cX12_closes 14 = .ok (.ireturn, 1) := by decide +kernel
theorem dX12_closes_15 : decode cX12_closes 15 = .ok (.aload_n 0, 1) := by decide +kernel
theorem dX12_closes_16 : decode cX12_closes 16 = .ok (.invokevirtual 212, 3) := by decide +kernel
theorem dX12_closes_19 : decode cX12_closes 19 = .ok (.iconst 1, 1) := by decide +kernel
theorem dX12_closes_20 : decode cX12_closes 20 = .ok (.ireturn, 1) := by decide +kernel
def P_X12_closes   (σ : St) (Q : Int → St → Prop) : Prop :=
  P_X12_isSign 59 σ (fun r_2 σ_1 => (if r_2 = 0 then P_X12_fails 1 σ_1 (fun r_5 σ_4 => (r_5 = 0 ∨ r_5 = 1) ∧ Q r_5 σ_4) else P_X12_nextToken σ_1 (fun σ_3 => Q 1 σ_3)))
set_option maxRecDepth 20000 in
set_option maxHeartbeats 2000000 in
theorem s_X12_closes    {σ : St} {Q : Int → St → Prop} (h : P_X12_closes  σ Q) : Cn Y_X12_closes 2 0 0 ww σ [vR 12 0] (QI Q) := by
  refine Cn_of [some (vR 12 0)] (by decide) (Nat.le_of_ble_eq_true rfl) rfl ?_
  unfold P_X12_closes at h
  refine E_aload_n dX12_closes_0 rfl rfl ?_
  refine E_bp dX12_closes_1 rfl ?_
  refine E_callV (Y' := Y_X12_isSign) (as := [vI 59]) (st := []) dX12_closes_3 lk_RX12_201 m_X12_isSign (by decide) (Nat.le_refl _) (Nat.le_refl _) rfl rfl (Nat.le_of_ble_eq_true rfl) (s_X12_isSign h) (fun r0 B0 σ_1 h => ?_)
  obtain ⟨r_2, rfl, rfl, h⟩ := h
  refine E_if_ne (tgt := 15) dX12_closes_6 (by decide) (fun hc => ?_) (fun hc => ?_)
  · have h := Eq.mp (if_neg hc) h
    refine E_aload_n dX12_closes_15 rfl rfl ?_
    refine E_callV (Y' := Y_X12_nextToken) (as := []) (st := []) dX12_closes_16 lk_RX12_212 m_X12_nextToken (by decide) (Nat.le_refl _) (Nat.le_refl _) rfl rfl (Nat.le_of_ble_eq_true rfl) (s_X12_nextToken h) (fun r0 B0 σ_3 h => ?_)
    obtain ⟨rfl, rfl, h⟩ := h
    refine E_ic dX12_closes_19 rfl ?_
    exact E_zret dX12_closes_20 rfl (by decide) ⟨_, rfl, rfl, h⟩
  · have h := Eq.mp (if_pos hc) h
    refine E_aload_n dX12_closes_9 rfl rfl ?_
    refine E_ic dX12_closes_10 rfl ?_
    refine E_callV (Y' := Y_X12_fails) (as := [vI 1]) (st := []) dX12_closes_11 lk_RX12_205 m_X12_fails (by decide) (Nat.le_refl _) (Nat.le_refl _) rfl rfl (Nat.le_of_ble_eq_true rfl) (s_X12_fails h) (fun r0 B0 σ_4 h => ?_)
    obtain ⟨r_5, rfl, rfl, h⟩ := h
    obtain ⟨hg0, h⟩ := h
    exact E_zret dX12_closes_14 rfl hg0 ⟨_, rfl, rfl, h⟩
abbrev Y_X12_needsNew : My := (yX12_needsNew, cX12_needsNew, 1, some .boolean)
theorem dX12_needsNew_0 : decode cX12_needsNew 0 = .ok (.aload_n 0, 1) := by decide +kernel
theorem dX12_needsNew_1 : decode cX12_needsNew 1 = .ok (.invokevirtual 278, 3) := by decide +kernel
theorem dX12_needsNew_4 : decode cX12_needsNew 4 = .ok (.ifCond .eq 9, 3) := by decide +kernel
theorem dX12_needsNew_7 : decode cX12_needsNew 7 = .ok (.aload_n 0, 1) := by decide +kernel
theorem dX12_needsNew_8 : decode cX12_needsNew 8 = .ok (.iconst 1, 1) := by decide +kernel
theorem dX12_needsNew_9 : decode cX12_needsNew 9 = .ok (.invokevirtual 205, 3) := by decide +kernel
theorem dX12_needsNew_12 : decode cX12_needsNew 12 = .ok (.ireturn, 1) := by decide +kernel
theorem dX12_needsNew_13 : decode cX12_needsNew 13 = .ok (.aload_n 0, 1) := by decide +kernel
theorem dX12_needsNew_14 : decode cX12_needsNew 14 = .ok (.iconst 1, 1) := by decide +kernel
theorem dX12_needsNew_15 : decode cX12_needsNew 15 = .ok (.invokevirtual 282, 3) := by decide +kernel
theorem dX12_needsNew_18 : decode cX12_needsNew 18 = .ok (.ifCond .ge 11, 3) := by decide +kernel
theorem dX12_needsNew_21 : decode cX12_needsNew 21 = .ok (.aload_n 0, 1) := by decide +kernel
theorem dX12_needsNew_22 : decode cX12_needsNew 22 = .ok (.iconst 1, 1) := by decide +kernel
theorem dX12_needsNew_23 : decode cX12_needsNew 23 = .ok (.invokevirtual 285, 3) := by decide +kernel
theorem dX12_needsNew_26 : decode cX12_needsNew 26 = .ok (.ifCond .lt 9, 3) := by decide +kernel
theorem dX12_needsNew_29 : decode cX12_needsNew 29 = .ok (.aload_n 0, 1) := by decide +kernel
theorem dX12_needsNew_30 : decode cX12_needsNew 30 = .ok (.iconst 3, 1) := by decide +kernel
theorem dX12_needsNew_31 : decode cX12_needsNew 31 = .ok (.invokevirtual 205, 3) := by decide +kernel
theorem dX12_needsNew_34 : decode cX12_needsNew 34 = .ok (.ireturn, 1) := by decide +kernel
theorem dX12_needsNew_35 : decode cX12_needsNew 35 = .ok (.aload_n 0, 1) := by decide +kernel
theorem dX12_needsNew_36 : decode cX12_needsNew 36 = .ok (.aload_n 0, 1) := by decide +kernel
theorem dX12_needsNew_37 : decode cX12_needsNew 37 = .ok (.getfield 159, 3) := by decide +kernel
theorem dX12_needsNew_40 : decode cX12_needsNew 40 = .ok (.putfield 288, 3) := by decide +kernel
theorem dX12_needsNew_43 : decode cX12_needsNew 43 = .ok (.aload_n 0, 1) := by decide +kernel
theorem dX12_needsNew_44 : decode cX12_needsNew 44 = .ok (.invokevirtual 212, 3) := by decide +kernel
theorem dX12_needsNew_47 : decode cX12_needsNew 47 = .ok (.iconst 1, 1) := by decide +kernel
theorem dX12_needsNew_48 : decode cX12_needsNew 48 = .ok (.ireturn, 1) := by decide +kernel
theorem fl_RX12_288 : FL RX12 288 12 37 := ⟨inG (i := 1437) (by decide +kernel) (by decide +kernel), by decide, by decide⟩
theorem lk_RX12_278 : Cond.methodLink RX12 278 yX12_isKept ∈ tG := inG (i := 1626) (by decide +kernel) (by decide +kernel)
theorem lk_RX12_282 : Cond.methodLink RX12 282 yX12_counterNamed ∈ tG := inG (i := 1650) (by decide +kernel) (by decide +kernel)
theorem lk_RX12_285 : Cond.methodLink RX12 285 yX12_ballNamed ∈ tG := inG (i := 1654) (by decide +kernel) (by decide +kernel)
theorem m_X12_ballNamed : MV Y_X12_ballNamed 1 12 := ⟨⟨inG (i := 1657) (by decide +kernel) (by decide +kernel), inG (i := 110) (by decide +kernel) (by decide +kernel), by decide, by decide, by decide, by decide +kernel⟩, inG (i := 1656) (by decide +kernel) (by decide +kernel), inG (i := 42) (by decide +kernel) (by decide +kernel), by decide⟩
theorem m_X12_counterNamed : MV Y_X12_counterNamed 1 12 := ⟨⟨inG (i := 1653) (by decide +kernel) (by decide +kernel), inG (i := 110) (by decide +kernel) (by decide +kernel), by decide, by decide, by decide, by decide +kernel⟩, inG (i := 1652) (by decide +kernel) (by decide +kernel), inG (i := 41) (by decide +kernel) (by decide +kernel), by decide⟩
theorem m_X12_isKept : MV Y_X12_isKept 0 12 := ⟨⟨inG (i := 1629) (by decide +kernel) (by decide +kernel), inG (i := 110) (by decide +kernel) (by decide +kernel), by decide, by decide, by decide, by decide +kernel⟩, inG (i := 1628) (by decide +kernel) (by decide +kernel), inG (i := 40) (by decide +kernel) (by decide +kernel), by decide⟩
def P_X12_needsNew_J29    (Q : Int → St → Prop) (σ : St) : Prop :=
  P_X12_fails 3 σ (fun r_6 σ_5 => (r_6 = 0 ∨ r_6 = 1) ∧ Q r_6 σ_5)
set_option maxRecDepth 20000 in
set_option maxHeartbeats 2000000 in
theorem e_P_X12_needsNew_J29    {Q : Int → St → Prop} {σ : St}   (h : P_X12_needsNew_J29  Q σ) : E Y_X12_needsNew 2 0 0 (QI Q) ww 0 0 29 [some (vR 12 0)] [] σ := by
  unfold P_X12_needsNew_J29 at h
  refine E_aload_n dX12_needsNew_29 rfl rfl ?_
  refine E_ic dX12_needsNew_30 rfl ?_
  refine E_callV (Y' := Y_X12_fails) (as := [vI 3]) (st := []) dX12_needsNew_31 lk_RX12_205 m_X12_fails (by decide) (Nat.le_refl _) (Nat.le_refl _) rfl rfl (Nat.le_of_ble_eq_true rfl) (s_X12_fails h) (fun r0 B0 σ_5 h => ?_)
  obtain ⟨r_6, rfl, rfl, h⟩ := h
  obtain ⟨hg0, h⟩ := h
  exact E_zret dX12_needsNew_34 rfl hg0 ⟨_, rfl, rfl, h⟩
def P_X12_needsNew   (σ : St) (Q : Int → St → Prop) : Prop :=
  P_X12_isKept σ (fun r_2 σ_1 => (if r_2 = 0 then P_X12_counterNamed 1 σ_1 (fun r_4 σ_3 => (if 0 ≤ r_4 then P_X12_needsNew_J29 Q σ_3 else P_X12_ballNamed 1 σ_3 (fun r_8 σ_7 => (if r_8 < 0 then P_X12_nextToken (up σ_7 12 0 37 (σ_7 12 0 7)) (fun σ_9 => Q 1 σ_9) else P_X12_needsNew_J29 Q σ_7)))) else P_X12_fails 1 σ_1 (fun r_11 σ_10 => (r_11 = 0 ∨ r_11 = 1) ∧ Q r_11 σ_10)))
set_option maxRecDepth 20000 in
set_option maxHeartbeats 2000000 in
theorem s_X12_needsNew    {σ : St} {Q : Int → St → Prop} (h : P_X12_needsNew  σ Q) : Cn Y_X12_needsNew 2 0 0 ww σ [vR 12 0] (QI Q) := by
  refine Cn_of [some (vR 12 0)] (by decide) (Nat.le_of_ble_eq_true rfl) rfl ?_
  unfold P_X12_needsNew at h
  refine E_aload_n dX12_needsNew_0 rfl rfl ?_
  refine E_callV (Y' := Y_X12_isKept) (as := []) (st := []) dX12_needsNew_1 lk_RX12_278 m_X12_isKept (by decide) (Nat.le_refl _) (Nat.le_refl _) rfl rfl (Nat.le_of_ble_eq_true rfl) (s_X12_isKept h) (fun r0 B0 σ_1 h => ?_)
  obtain ⟨r_2, rfl, rfl, h⟩ := h
  refine E_if_eq (tgt := 13) dX12_needsNew_4 (by decide) (fun hc => ?_) (fun hc => ?_)
  · have h := Eq.mp (if_pos hc) h
    refine E_aload_n dX12_needsNew_13 rfl rfl ?_
    refine E_ic dX12_needsNew_14 rfl ?_
    refine E_callV (Y' := Y_X12_counterNamed) (as := [vI 1]) (st := []) dX12_needsNew_15 lk_RX12_282 m_X12_counterNamed (by decide) (Nat.le_refl _) (Nat.le_refl _) rfl rfl (Nat.le_of_ble_eq_true rfl) (s_X12_counterNamed h) (fun r0 B0 σ_3 h => ?_)
    obtain ⟨r_4, rfl, rfl, h⟩ := h
    refine E_if_ge (tgt := 29) dX12_needsNew_18 (by decide) (fun hc => ?_) (fun hc => ?_)
    · have h := Eq.mp (if_pos hc) h
      exact e_P_X12_needsNew_J29 h
    · have h := Eq.mp (if_neg hc) h
      refine E_aload_n dX12_needsNew_21 rfl rfl ?_
      refine E_ic dX12_needsNew_22 rfl ?_
      refine E_callV (Y' := Y_X12_ballNamed) (as := [vI 1]) (st := []) dX12_needsNew_23 lk_RX12_285 m_X12_ballNamed (by decide) (Nat.le_refl _) (Nat.le_refl _) rfl rfl (Nat.le_of_ble_eq_true rfl) (s_X12_ballNamed h) (fun r0 B0 σ_7 h => ?_)
      obtain ⟨r_8, rfl, rfl, h⟩ := h
      refine E_if_lt (tgt := 35) dX12_needsNew_26 (by decide) (fun hc => ?_) (fun hc => ?_)
      · have h := Eq.mp (if_pos hc) h
        refine E_aload_n dX12_needsNew_35 rfl rfl ?_
        refine E_aload_n dX12_needsNew_36 rfl rfl ?_
        refine E_getl (i := 0) dX12_needsNew_37 fl_RX12_159 rfl ?_
        refine E_putl dX12_needsNew_40 fl_RX12_288 rfl rfl rfl ?_
        refine E_aload_n dX12_needsNew_43 rfl rfl ?_
        refine E_callV (Y' := Y_X12_nextToken) (as := []) (st := []) dX12_needsNew_44 lk_RX12_212 m_X12_nextToken (by decide) (Nat.le_refl _) (Nat.le_refl _) rfl rfl (Nat.le_of_ble_eq_true rfl) (s_X12_nextToken h) (fun r0 B0 σ_9 h => ?_)
        obtain ⟨rfl, rfl, h⟩ := h
        refine E_ic dX12_needsNew_47 rfl ?_
        exact E_zret dX12_needsNew_48 rfl (by decide) ⟨_, rfl, rfl, h⟩
      · have h := Eq.mp (if_neg hc) h
        exact e_P_X12_needsNew_J29 h
  · have h := Eq.mp (if_neg hc) h
    refine E_aload_n dX12_needsNew_7 rfl rfl ?_
    refine E_ic dX12_needsNew_8 rfl ?_
    refine E_callV (Y' := Y_X12_fails) (as := [vI 1]) (st := []) dX12_needsNew_9 lk_RX12_205 m_X12_fails (by decide) (Nat.le_refl _) (Nat.le_refl _) rfl rfl (Nat.le_of_ble_eq_true rfl) (s_X12_fails h) (fun r0 B0 σ_10 h => ?_)
    obtain ⟨r_11, rfl, rfl, h⟩ := h
    obtain ⟨hg0, h⟩ := h
    exact E_zret dX12_needsNew_12 rfl hg0 ⟨_, rfl, rfl, h⟩
abbrev Y_X12_passesFound : My := (yX12_passesFound, cX12_passesFound, 2, some .boolean)
theorem dX12_passesFound_0 : decode cX12_passesFound 0 = .ok (.aload_n 0, 1) := by decide +kernel
theorem dX12_passesFound_1 : decode cX12_passesFound 1 = .ok (.invokevirtual 278, 3) := by decide +kernel
theorem dX12_passesFound_4 : decode cX12_passesFound 4 = .ok (.ifCond .eq 9, 3) := by decide +kernel
theorem dX12_passesFound_7 : decode cX12_passesFound 7 = .ok (.aload_n 0, 1) := by decide +kernel
theorem dX12_passesFound_8 : decode cX12_passesFound 8 = .ok (.iconst 1, 1) := by decide +kernel
theorem dX12_passesFound_9 : decode cX12_passesFound 9 = .ok (.invokevirtual 205, 3) := by decide +kernel
theorem dX12_passesFound_12 : decode cX12_passesFound 12 = .ok (.ireturn, 1) := by decide +kernel
theorem dX12_passesFound_13 : decode cX12_passesFound 13 = .ok (.iload_n 1, 1) := by decide +kernel
theorem dX12_passesFound_14 : decode cX12_passesFound 14 = .ok (.ifCond .ge 9, 3) := by decide +kernel
theorem dX12_passesFound_17 : decode cX12_passesFound 17 = .ok (.aload_n 0, 1) := by decide +kernel
theorem dX12_passesFound_18 : decode cX12_passesFound 18 = .ok (.iconst 2, 1) := by decide +kernel
theorem dX12_passesFound_19 : decode cX12_passesFound 19 = .ok (.invokevirtual 205, 3) := by decide +kernel
theorem dX12_passesFound_22 : decode cX12_passesFound 22 = .ok (.ireturn, 1) := by decide +kernel
theorem dX12_passesFound_23 : decode cX12_passesFound 23 = .ok (.aload_n 0, 1) := by decide +kernel
theorem dX12_passesFound_24 : decode cX12_passesFound 24 = .ok (.iload_n 1, 1) := by decide +kernel
theorem dX12_passesFound_25 : decode cX12_passesFound 25 = .ok (.putfield 268, 3) := by decide +kernel
theorem dX12_passesFound_28 : decode cX12_passesFound 28 = .ok (.aload_n 0, 1) := by decide +kernel
theorem dX12_passesFound_29 : decode cX12_passesFound 29 = .ok (.invokevirtual 212, 3) := by decide +kernel
theorem dX12_passesFound_32 : decode cX12_passesFound 32 = .ok (.iconst 1, 1) := by decide +kernel
theorem dX12_passesFound_33 : decode cX12_passesFound 33 = .ok (.ireturn, 1) := by decide +kernel
def P_X12_passesFound  (x1 : Int) (σ : St) (Q : Int → St → Prop) : Prop :=
  P_X12_isKept σ (fun r_2 σ_1 => (if r_2 = 0 then (if 0 ≤ x1 then P_X12_nextToken (up σ_1 12 0 36 x1) (fun σ_3 => Q 1 σ_3) else P_X12_fails 2 σ_1 (fun r_5 σ_4 => (r_5 = 0 ∨ r_5 = 1) ∧ Q r_5 σ_4)) else P_X12_fails 1 σ_1 (fun r_7 σ_6 => (r_7 = 0 ∨ r_7 = 1) ∧ Q r_7 σ_6)))
set_option maxRecDepth 20000 in
set_option maxHeartbeats 2000000 in
theorem s_X12_passesFound   {x1 : Int} {σ : St} {Q : Int → St → Prop} (h : P_X12_passesFound x1 σ Q) : Cn Y_X12_passesFound 2 0 0 ww σ [vR 12 0, vI x1] (QI Q) := by
  refine Cn_of [some (vR 12 0), some (vI x1)] (by decide) (Nat.le_of_ble_eq_true rfl) rfl ?_
  unfold P_X12_passesFound at h
  refine E_aload_n dX12_passesFound_0 rfl rfl ?_
  refine E_callV (Y' := Y_X12_isKept) (as := []) (st := []) dX12_passesFound_1 lk_RX12_278 m_X12_isKept (by decide) (Nat.le_refl _) (Nat.le_refl _) rfl rfl (Nat.le_of_ble_eq_true rfl) (s_X12_isKept h) (fun r0 B0 σ_1 h => ?_)
  obtain ⟨r_2, rfl, rfl, h⟩ := h
  refine E_if_eq (tgt := 13) dX12_passesFound_4 (by decide) (fun hc => ?_) (fun hc => ?_)
  · have h := Eq.mp (if_pos hc) h
    refine E_iload_n dX12_passesFound_13 rfl rfl ?_
    refine E_if_ge (tgt := 23) dX12_passesFound_14 (by decide) (fun hc => ?_) (fun hc => ?_)
    · have h := Eq.mp (if_pos hc) h
      refine E_aload_n dX12_passesFound_23 rfl rfl ?_
      refine E_iload_n dX12_passesFound_24 rfl rfl ?_
      refine E_puti dX12_passesFound_25 fl_RX12_268 rfl rfl rfl ?_
      refine E_aload_n dX12_passesFound_28 rfl rfl ?_
      refine E_callV (Y' := Y_X12_nextToken) (as := []) (st := []) dX12_passesFound_29 lk_RX12_212 m_X12_nextToken (by decide) (Nat.le_refl _) (Nat.le_refl _) rfl rfl (Nat.le_of_ble_eq_true rfl) (s_X12_nextToken h) (fun r0 B0 σ_3 h => ?_)
      obtain ⟨rfl, rfl, h⟩ := h
      refine E_ic dX12_passesFound_32 rfl ?_
      exact E_zret dX12_passesFound_33 rfl (by decide) ⟨_, rfl, rfl, h⟩
    · have h := Eq.mp (if_neg hc) h
      refine E_aload_n dX12_passesFound_17 rfl rfl ?_
      refine E_ic dX12_passesFound_18 rfl ?_
      refine E_callV (Y' := Y_X12_fails) (as := [vI 2]) (st := []) dX12_passesFound_19 lk_RX12_205 m_X12_fails (by decide) (Nat.le_refl _) (Nat.le_refl _) rfl rfl (Nat.le_of_ble_eq_true rfl) (s_X12_fails h) (fun r0 B0 σ_4 h => ?_)
      obtain ⟨r_5, rfl, rfl, h⟩ := h
      obtain ⟨hg0, h⟩ := h
      exact E_zret dX12_passesFound_22 rfl hg0 ⟨_, rfl, rfl, h⟩
  · have h := Eq.mp (if_neg hc) h
    refine E_aload_n dX12_passesFound_7 rfl rfl ?_
    refine E_ic dX12_passesFound_8 rfl ?_
    refine E_callV (Y' := Y_X12_fails) (as := [vI 1]) (st := []) dX12_passesFound_9 lk_RX12_205 m_X12_fails (by decide) (Nat.le_refl _) (Nat.le_refl _) rfl rfl (Nat.le_of_ble_eq_true rfl) (s_X12_fails h) (fun r0 B0 σ_6 h => ?_)
    obtain ⟨r_7, rfl, rfl, h⟩ := h
    obtain ⟨hg0, h⟩ := h
    exact E_zret dX12_passesFound_12 rfl hg0 ⟨_, rfl, rfl, h⟩
abbrev Y_X12_readsCounter : My := (yX12_readsCounter, cX12_readsCounter, 3, some .boolean)
theorem dX12_readsCounter_0 : decode cX12_readsCounter 0 = .ok (.bipush 6, 2) := by decide +kernel
theorem dX12_readsCounter_2 : decode cX12_readsCounter 2 = .ok (.aload_n 0, 1) := by decide +kernel
theorem dX12_readsCounter_3 : decode cX12_readsCounter 3 = .ok (.getfield 13, 3) := by decide +kernel
theorem dX12_readsCounter_6 : decode cX12_readsCounter 6 = .ok (.iconst 4, 1) := by decide +kernel
theorem dX12_readsCounter_7 : decode cX12_readsCounter 7 = .ok (.iaload, 1) := by decide +kernel
theorem dX12_readsCounter_8 : decode cX12_readsCounter 8 = .ok (.iadd, 1) := by decide +kernel
theorem dX12_readsCounter_9 : decode cX12_readsCounter 9 = .ok (.istore_n 1, 1) := by decide +kernel
theorem dX12_readsCounter_10 : decode cX12_readsCounter 10 = .ok (.iload_n 1, 1) := by decide +kernel
theorem dX12_readsCounter_11 : decode cX12_readsCounter 11 = .ok (.bipush 12, 2) := by decide +kernel
theorem dX12_readsCounter_13 : decode cX12_readsCounter 13 = .ok (.if_icmp .ne 9, 3) := by decide +kernel
theorem dX12_readsCounter_16 : decode cX12_readsCounter 16 = .ok (.aload_n 0, 1) := by decide +kernel
theorem dX12_readsCounter_17 : decode cX12_readsCounter 17 = .ok (.iconst 5, 1) := by decide +kernel
theorem dX12_readsCounter_18 : decode cX12_readsCounter 18 = .ok (.invokevirtual 205, 3) := by decide +kernel
theorem dX12_readsCounter_21 : decode cX12_readsCounter 21 = .ok (.ireturn, 1) := by decide +kernel
theorem dX12_readsCounter_22 : decode cX12_readsCounter 22 = .ok (.aload_n 0, 1) := by decide +kernel
theorem dX12_readsCounter_23 : decode cX12_readsCounter 23 = .ok (.invokevirtual 212, 3) := by decide +kernel
theorem dX12_readsCounter_26 : decode cX12_readsCounter 26 = .ok (.aload_n 0, 1) := by decide +kernel
theorem dX12_readsCounter_27 : decode cX12_readsCounter 27 = .ok (.invokevirtual 291, 3) := by decide +kernel
theorem dX12_readsCounter_30 : decode cX12_readsCounter 30 = .ok (.ifCond .eq 13, 3) := by decide +kernel
theorem dX12_readsCounter_33 : decode cX12_readsCounter 33 = .ok (.aload_n 0, 1) := by decide +kernel
theorem dX12_readsCounter_34 : decode cX12_readsCounter 34 = .ok (.ldc2_w 230, 3) := by decide +kernel
theorem dX12_readsCounter_37 : decode cX12_readsCounter 37 = .ok (.invokevirtual 271, 3) := by decide +kernel
theorem dX12_readsCounter_40 : decode cX12_readsCounter 40 = .ok (.ifCond .ne 5, 3) := by decide +kernel
theorem dX12_readsCounter_43 : decode cX12_readsCounter 43 = .ok (.iconst 0, 1) := by decide +kernel
theorem dX12_readsCounter_44 : decode cX12_readsCounter 44 = .ok (.ireturn, 1) := by decide +kernel
theorem dX12_readsCounter_45 : decode cX12_readsCounter 45 = .ok (.aload_n 0, 1) := by decide +kernel
theorem dX12_readsCounter_46 : decode cX12_readsCounter 46 = .ok (.getfield 166, 3) := by decide +kernel
theorem dX12_readsCounter_49 : decode cX12_readsCounter 49 = .ok (.iconst 2, 1) := by decide +kernel
theorem dX12_readsCounter_50 : decode cX12_readsCounter 50 = .ok (.if_icmp .eq 9, 3) := by decide +kernel
theorem dX12_readsCounter_53 : decode cX12_readsCounter 53 = .ok (.aload_n 0, 1) := by decide +kernel
theorem dX12_readsCounter_54 : decode cX12_readsCounter 54 = .ok (.iconst 1, 1) := by decide +kernel
theorem dX12_readsCounter_55 : decode cX12_readsCounter 55 = .ok (.invokevirtual 205, 3) := by decide +kernel
theorem dX12_readsCounter_58 : decode cX12_readsCounter 58 = .ok (.ireturn, 1) := by decide +kernel
theorem dX12_readsCounter_59 : decode cX12_readsCounter 59 = .ok (.aload_n 0, 1) := by decide +kernel
theorem dX12_readsCounter_60 : decode cX12_readsCounter 60 = .ok (.getfield 163, 3) := by decide +kernel
theorem dX12_readsCounter_63 : decode cX12_readsCounter 63 = .ok (.iconst 1, 1) := by decide +kernel
theorem dX12_readsCounter_64 : decode cX12_readsCounter 64 = .ok (.bipush 20, 2) := by decide +kernel
theorem dX12_readsCounter_66 : decode cX12_readsCounter 66 = .ok (.invokestatic 264, 3) := by decide +kernel
theorem dX12_readsCounter_69 : decode cX12_readsCounter 69 = .ok (.ifCond .ne 9, 3) := by decide +kernel
theorem dX12_readsCounter_72 : decode cX12_readsCounter 72 = .ok (.aload_n 0, 1) := by decide +kernel
theorem dX12_readsCounter_73 : decode cX12_readsCounter 73 = .ok (.iconst 4, 1) := by decide +kernel
theorem dX12_readsCounter_74 : decode cX12_readsCounter 74 = .ok (.invokevirtual 205, 3) := by decide +kernel
theorem dX12_readsCounter_77 : decode cX12_readsCounter 77 = .ok (.ireturn, 1) := by decide +kernel
theorem dX12_readsCounter_78 : decode cX12_readsCounter 78 = .ok (.bipush 6, 2) := by decide +kernel
theorem dX12_readsCounter_80 : decode cX12_readsCounter 80 = .ok (.istore_n 2, 1) := by decide +kernel
theorem dX12_readsCounter_81 : decode cX12_readsCounter 81 = .ok (.iload_n 2, 1) := by decide +kernel
theorem dX12_readsCounter_82 : decode cX12_readsCounter 82 = .ok (.iload_n 1, 1) := by decide +kernel
theorem dX12_readsCounter_83 : decode cX12_readsCounter 83 = .ok (.if_icmp .ge 28, 3) := by decide +kernel
theorem dX12_readsCounter_86 : decode cX12_readsCounter 86 = .ok (.aload_n 0, 1) := by decide +kernel
theorem dX12_readsCounter_87 : decode cX12_readsCounter 87 = .ok (.getfield 23, 3) := by decide +kernel
theorem dX12_readsCounter_90 : decode cX12_readsCounter 90 = .ok (.iload_n 2, 1) := by decide +kernel
theorem dX12_readsCounter_91 : decode cX12_readsCounter 91 = .ok (.iaload, 1) := by decide +kernel
theorem dX12_readsCounter_92 : decode cX12_readsCounter 92 = .ok (.aload_n 0, 1) := by decide +kernel
theorem dX12_readsCounter_93 : decode cX12_readsCounter 93 = .ok (.getfield 163, 3) := by decide +kernel
theorem dX12_readsCounter_96 : decode cX12_readsCounter 96 = .ok (.if_icmp .ne 9, 3) := by decide +kernel
theorem dX12_readsCounter_99 : decode cX12_readsCounter 99 = .ok (.aload_n 0, 1) := by decide +kernel
theorem dX12_readsCounter_100 : decode cX12_readsCounter 100 = .ok (.iconst 3, 1) := by decide +kernel
theorem dX12_readsCounter_101 : decode cX12_readsCounter 101 = .ok (.invokevirtual 205, 3) := by decide +kernel
theorem dX12_readsCounter_104 : decode cX12_readsCounter 104 = .ok (.ireturn, 1) := by decide +kernel
theorem dX12_readsCounter_105 : decode cX12_readsCounter 105 = .ok (.iinc 2 1, 3) := by decide +kernel
theorem dX12_readsCounter_108 : decode cX12_readsCounter 108 = .ok (.goto (-27), 3) := by decide +kernel
theorem dX12_readsCounter_111 : decode cX12_readsCounter 111 = .ok (.aload_n 0, 1) := by decide +kernel
theorem dX12_readsCounter_112 : decode cX12_readsCounter 112 = .ok (.getfield 23, 3) := by decide +kernel
theorem dX12_readsCounter_115 : decode cX12_readsCounter 115 = .ok (.iload_n 1, 1) := by decide +kernel
theorem dX12_readsCounter_116 : decode cX12_readsCounter 116 = .ok (.aload_n 0, 1) := by decide +kernel
theorem dX12_readsCounter_117 : decode cX12_readsCounter 117 = .ok (.getfield 163, 3) := by decide +kernel
theorem dX12_readsCounter_120 : decode cX12_readsCounter 120 = .ok (.iastore, 1) := by decide +kernel
theorem dX12_readsCounter_121 : decode cX12_readsCounter 121 = .ok (.aload_n 0, 1) := by decide +kernel
theorem dX12_readsCounter_122 : decode cX12_readsCounter 122 = .ok (.invokevirtual 212, 3) := by decide +kernel
theorem dX12_readsCounter_125 : decode cX12_readsCounter 125 = .ok (.aload_n 0, 1) := by decide +kernel
theorem dX12_readsCounter_126 : decode cX12_readsCounter 126 = .ok (.ldc2_w 232, 3) := by decide +kernel
theorem dX12_readsCounter_129 : decode cX12_readsCounter 129 = .ok (.iconst 0, 1) := by decide +kernel
theorem dX12_readsCounter_130 : decode cX12_readsCounter 130 = .ok (.bipush 60, 2) := by decide +kernel
theorem dX12_readsCounter_132 : decode cX12_readsCounter 132 = .ok (.invokevirtual 294, 3) := by decide +kernel
theorem dX12_readsCounter_135 : decode cX12_readsCounter 135 = .ok (.ifCond .ne 5, 3) := by decide +kernel
theorem dX12_readsCounter_138 : decode cX12_readsCounter 138 = .ok (.iconst 0, 1) := by decide +kernel
theorem dX12_readsCounter_139 : decode cX12_readsCounter 139 = .ok (.ireturn, 1) := by decide +kernel
theorem dX12_readsCounter_140 : decode cX12_readsCounter 140 = .ok (.aload_n 0, 1) := by decide +kernel
theorem dX12_readsCounter_141 : decode cX12_readsCounter 141 = .ok (.getfield 26, 3) := by decide +kernel
theorem dX12_readsCounter_144 : decode cX12_readsCounter 144 = .ok (.iload_n 1, 1) := by decide +kernel
theorem dX12_readsCounter_145 : decode cX12_readsCounter 145 = .ok (.aload_n 0, 1) := by decide +kernel
theorem dX12_readsCounter_146 : decode cX12_readsCounter 146 = .ok (.getfield 268, 3) := by decide +kernel
theorem dX12_readsCounter_149 : decode cX12_readsCounter 149 = .ok (.iastore, 1) := by decide +kernel
theorem dX12_readsCounter_150 : decode cX12_readsCounter 150 = .ok (.aload_n 0, 1) := by decide +kernel
theorem dX12_readsCounter_151 : decode cX12_readsCounter 151 = .ok (.getfield 16, 3) := by decide +kernel
theorem dX12_readsCounter_154 : decode cX12_readsCounter 154 = .ok (.iload_n 1, 1) := by decide +kernel
theorem dX12_readsCounter_155 : decode cX12_readsCounter 155 = .ok (.aload_n 0, 1) := by decide +kernel
theorem dX12_readsCounter_156 : decode cX12_readsCounter 156 = .ok (.getfield 288, 3) := by decide +kernel
theorem dX12_readsCounter_159 : decode cX12_readsCounter 159 = .ok (.lastore, 1) := by decide +kernel
theorem dX12_readsCounter_160 : decode cX12_readsCounter 160 = .ok (.aload_n 0, 1) := by decide +kernel
theorem dX12_readsCounter_161 : decode cX12_readsCounter 161 = .ok (.getfield 13, 3) := by decide +kernel
theorem dX12_readsCounter_164 : decode cX12_readsCounter 164 = .ok (.iconst 4, 1) := by decide +kernel
theorem dX12_readsCounter_165 : decode cX12_readsCounter 165 = .ok (.dup2, 1) := by decide +kernel
theorem dX12_readsCounter_166 : decode cX12_readsCounter 166 = .ok (.iaload, 1) := by decide +kernel
theorem dX12_readsCounter_167 : decode cX12_readsCounter 167 = .ok (.iconst 1, 1) := by decide +kernel
theorem dX12_readsCounter_168 : decode cX12_readsCounter 168 = .ok (.iadd, 1) := by decide +kernel
theorem dX12_readsCounter_169 : decode cX12_readsCounter 169 = .ok (.iastore, 1) := by decide +kernel
theorem dX12_readsCounter_170 : decode cX12_readsCounter 170 = .ok (.aload_n 0, 1) := by decide +kernel
theorem dX12_readsCounter_171 : decode cX12_readsCounter 171 = .ok (.invokevirtual 298, 3) := by decide +kernel
theorem dX12_readsCounter_174 : decode cX12_readsCounter 174 = .ok (.ireturn, 1) := by decide +kernel
theorem fl_RX12_23 : FL RX12 23 12 13 := ⟨inG (i := 1413) (by decide +kernel) (by decide +kernel), by decide, by decide⟩
theorem fl_RX12_26 : FL RX12 26 12 14 := ⟨inG (i := 1414) (by decide +kernel) (by decide +kernel), by decide, by decide⟩
theorem go_12_13 (σ : St) (i : Nat) : go σ 12 i 13 = (1313, i) := rfl
theorem go_12_14 (σ : St) (i : Nat) : go σ 12 i 14 = (1314, i) := rfl
theorem lk_RX12_291 : Cond.methodLink RX12 291 yX12_needsNew ∈ tG := inG (i := 1622) (by decide +kernel) (by decide +kernel)
theorem lk_RX12_294 : Cond.methodLink RX12 294 yX12_needsBoth ∈ tG := inG (i := 1665) (by decide +kernel) (by decide +kernel)
theorem lk_RX12_298 : Cond.methodLink RX12 298 yX12_closes ∈ tG := inG (i := 1673) (by decide +kernel) (by decide +kernel)
theorem m_X12_closes : MV Y_X12_closes 0 12 := ⟨⟨inG (i := 1676) (by decide +kernel) (by decide +kernel), inG (i := 110) (by decide +kernel) (by decide +kernel), by decide, by decide, by decide, by decide +kernel⟩, inG (i := 1675) (by decide +kernel) (by decide +kernel), inG (i := 46) (by decide +kernel) (by decide +kernel), by decide⟩
theorem m_X12_needsBoth : MV Y_X12_needsBoth 3 12 := ⟨⟨inG (i := 1668) (by decide +kernel) (by decide +kernel), inG (i := 110) (by decide +kernel) (by decide +kernel), by decide, by decide, by decide, by decide +kernel⟩, inG (i := 1667) (by decide +kernel) (by decide +kernel), inG (i := 44) (by decide +kernel) (by decide +kernel), by decide⟩
theorem m_X12_needsNew : MV Y_X12_needsNew 0 12 := ⟨⟨inG (i := 1625) (by decide +kernel) (by decide +kernel), inG (i := 110) (by decide +kernel) (by decide +kernel), by decide, by decide, by decide, by decide +kernel⟩, inG (i := 1624) (by decide +kernel) (by decide +kernel), inG (i := 39) (by decide +kernel) (by decide +kernel), by decide⟩
theorem sh_1313 : shp 1313 = (0, 12) := rfl
theorem sh_1314 : shp 1314 = (0, 12) := rfl
def P_X12_readsCounter_L81  (x1 : Int) (K0 : St → Prop) (K1 : St → Prop) (Q : Int → St → Prop) : Nat → Int → St → Prop
  | 0, _, _ => False
  | n + 1, x2, σ => (if x1 ≤ x2 then K0 σ else 0 ≤ x2 ∧ x2 < 12 ∧ (if (σ 1313 0 x2) = (σ 12 0 8) then K1 σ else (P_X12_readsCounter_L81 x1 K0 K1 Q n) (wi (x2 + 1)) σ))
set_option maxRecDepth 20000 in
set_option maxHeartbeats 2000000 in
theorem e_P_X12_readsCounter_L81  {x1 : Int} {K0 : St → Prop} {K1 : St → Prop} {Q : Int → St → Prop}  (hK0 : ∀ σ, K0 σ → E Y_X12_readsCounter 4 0 0 (QI Q) ww 0 0 111 [some (vR 12 0), some (vI x1), none] [] σ) (hK1 : ∀ σ, K1 σ → E Y_X12_readsCounter 4 0 0 (QI Q) ww 0 0 99 [some (vR 12 0), none, none] [] σ) : ∀ (n : Nat) (x2 : Int) (σ : St), P_X12_readsCounter_L81 x1 K0 K1 Q n x2 σ → E Y_X12_readsCounter 4 0 0 (QI Q) ww 0 0 81 [some (vR 12 0), some (vI x1), some (vI x2)] [] σ := by
  intro n
  induction n with
  | zero => intro x2 σ h; exact h.elim
  | succ n hR =>
    intro x2 σ h
    unfold P_X12_readsCounter_L81 at h
    refine E_iload_n dX12_readsCounter_81 rfl rfl ?_
    refine E_iload_n dX12_readsCounter_82 rfl rfl ?_
    refine E_icmp_ge (tgt := 111) dX12_readsCounter_83 (by decide) (fun hc => ?_) (fun hc => ?_)
    · have h := Eq.mp (if_pos hc) h
      refine E_wk2 [some (vR 12 0), some (vI x1), none] ⟨rfl, ⟨rfl, trivial⟩⟩ ?_
      exact hK0 _ h
    · have h := Eq.mp (if_neg hc) h
      refine E_aload_n dX12_readsCounter_86 rfl rfl ?_
      refine E_getr (i := 0) dX12_readsCounter_87 fl_RX12_23 rfl rfl (go_12_13 _ _) ?_
      refine E_iload_n dX12_readsCounter_90 rfl rfl ?_
      obtain ⟨hg0, hg1, h⟩ := h
      refine E_iald dX12_readsCounter_91 sh_1313 hg0 hg1 ?_
      refine E_aload_n dX12_readsCounter_92 rfl rfl ?_
      refine E_geti (i := 0) dX12_readsCounter_93 fl_RX12_163 rfl ?_
      refine E_icmp_ne (tgt := 105) dX12_readsCounter_96 (by decide) (fun hc => ?_) (fun hc => ?_)
      · have h := Eq.mp (if_neg hc) h
        refine E_iinc (ls' := [some (vR 12 0), some (vI x1), some (vI (wi (x2 + 1)))]) dX12_readsCounter_105 rfl (by decide) rfl rfl ?_
        refine E_goto (tgt := 81) dX12_readsCounter_108 (by decide) ?_
        exact hR _ _ h
      · have h := Eq.mp (if_pos hc) h
        refine E_wk2 [some (vR 12 0), none, none] ⟨rfl, trivial⟩ ?_
        exact hK1 _ h
def P_X12_readsCounter   (σ : St) (Q : Int → St → Prop) : Prop :=
  (if (wi (6 + (σ 1310 0 4))) = 12 then P_X12_fails 5 σ (fun r_22 σ_21 => (r_22 = 0 ∨ r_22 = 1) ∧ Q r_22 σ_21) else P_X12_nextToken σ (fun σ_1 => P_X12_needsNew σ_1 (fun r_3 σ_2 => (if r_3 = 0 then Q 0 σ_2 else P_X12_needsWord 47 σ_2 (fun r_5 σ_4 => (if r_5 = 0 then Q 0 σ_4 else (if (σ_4 12 0 6) = 2 then P_X12_within (σ_4 12 0 8) 1 20 σ_4 (fun r_7 σ_6 => (if r_7 = 0 then P_X12_fails 4 σ_6 (fun r_18 σ_17 => (r_18 = 0 ∨ r_18 = 1) ∧ Q r_18 σ_17) else P_X12_readsCounter_L81 (wi (6 + (σ 1310 0 4))) (fun σ_8 => 0 ≤ wi (6 + (σ 1310 0 4)) ∧ wi (6 + (σ 1310 0 4)) < 12 ∧ P_X12_nextToken (up σ_8 1313 0 (wi (6 + (σ 1310 0 4))) (σ_8 12 0 8)) (fun σ_9 => P_X12_needsBoth 5146 0 60 σ_9 (fun r_11 σ_10 => (if r_11 = 0 then Q 0 σ_10 else 0 ≤ wi (6 + (σ 1310 0 4)) ∧ wi (6 + (σ 1310 0 4)) < 12 ∧ 0 ≤ wi (6 + (σ 1310 0 4)) ∧ wi (6 + (σ 1310 0 4)) < 12 ∧ P_X12_closes (up (up (up σ_10 1314 0 (wi (6 + (σ 1310 0 4))) (σ_10 12 0 36)) 1311 0 (wi (6 + (σ 1310 0 4))) ((up σ_10 1314 0 (wi (6 + (σ 1310 0 4))) (σ_10 12 0 36)) 12 0 37)) 1310 0 4 (wi (((up (up σ_10 1314 0 (wi (6 + (σ 1310 0 4))) (σ_10 12 0 36)) 1311 0 (wi (6 + (σ 1310 0 4))) ((up σ_10 1314 0 (wi (6 + (σ 1310 0 4))) (σ_10 12 0 36)) 12 0 37)) 1310 0 4) + 1))) (fun r_13 σ_12 => (r_13 = 0 ∨ r_13 = 1) ∧ Q r_13 σ_12))))) (fun σ_14 => P_X12_fails 3 σ_14 (fun r_16 σ_15 => (r_16 = 0 ∨ r_16 = 1) ∧ Q r_16 σ_15)) Q FU 6 σ_6)) else P_X12_fails 1 σ_4 (fun r_20 σ_19 => (r_20 = 0 ∨ r_20 = 1) ∧ Q r_20 σ_19))))))))
set_option maxRecDepth 20000 in
set_option maxHeartbeats 2000000 in
theorem s_X12_readsCounter    {σ : St} {Q : Int → St → Prop} (h : P_X12_readsCounter  σ Q) : Cn Y_X12_readsCounter 4 0 0 ww σ [vR 12 0] (QI Q) := by
  refine Cn_of [some (vR 12 0), none, none] (by decide) (Nat.le_of_ble_eq_true rfl) rfl ?_
  unfold P_X12_readsCounter at h
  refine E_bp dX12_readsCounter_0 rfl ?_
  refine E_aload_n dX12_readsCounter_2 rfl rfl ?_
  refine E_getr (i := 0) dX12_readsCounter_3 fl_RX12_13 rfl rfl (go_12_10 _ _) ?_
  refine E_ic dX12_readsCounter_6 rfl ?_
  refine E_iald dX12_readsCounter_7 sh_1310 (by decide) (by decide) ?_
  refine E_iadd dX12_readsCounter_8 ?_
  refine E_istore_n (ls' := [some (vR 12 0), some (vI (wi (6 + (σ 1310 0 4)))), none]) dX12_readsCounter_9 rfl (by decide) rfl ?_
  refine E_iload_n dX12_readsCounter_10 rfl rfl ?_
  refine E_bp dX12_readsCounter_11 rfl ?_
  refine E_icmp_ne (tgt := 22) dX12_readsCounter_13 (by decide) (fun hc => ?_) (fun hc => ?_)
  · have h := Eq.mp (if_neg hc) h
    refine E_aload_n dX12_readsCounter_22 rfl rfl ?_
    refine E_callV (Y' := Y_X12_nextToken) (as := []) (st := []) dX12_readsCounter_23 lk_RX12_212 m_X12_nextToken (by decide) (Nat.le_refl _) (Nat.le_refl _) rfl rfl (Nat.le_of_ble_eq_true rfl) (s_X12_nextToken h) (fun r0 B0 σ_1 h => ?_)
    obtain ⟨rfl, rfl, h⟩ := h
    refine E_aload_n dX12_readsCounter_26 rfl rfl ?_
    refine E_callV (Y' := Y_X12_needsNew) (as := []) (st := []) dX12_readsCounter_27 lk_RX12_291 m_X12_needsNew (by decide) (Nat.le_refl _) (Nat.le_refl _) rfl rfl (Nat.le_of_ble_eq_true rfl) (s_X12_needsNew h) (fun r0 B0 σ_2 h => ?_)
    obtain ⟨r_3, rfl, rfl, h⟩ := h
    refine E_if_eq (tgt := 43) dX12_readsCounter_30 (by decide) (fun hc => ?_) (fun hc => ?_)
    · have h := Eq.mp (if_pos hc) h
      refine E_ic dX12_readsCounter_43 rfl ?_
      exact E_zret dX12_readsCounter_44 rfl (by decide) ⟨_, rfl, rfl, h⟩
    · have h := Eq.mp (if_neg hc) h
      refine E_aload_n dX12_readsCounter_33 rfl rfl ?_
      refine E_ldc2 (z := 47) dX12_readsCounter_34 kl_RX12_230 (by decide) ?_
      refine E_callV (Y' := Y_X12_needsWord) (as := [vL 47]) (st := []) dX12_readsCounter_37 lk_RX12_271 m_X12_needsWord (by decide) (Nat.le_refl _) (Nat.le_refl _) rfl rfl (Nat.le_of_ble_eq_true rfl) (s_X12_needsWord h) (fun r0 B0 σ_4 h => ?_)
      obtain ⟨r_5, rfl, rfl, h⟩ := h
      refine E_if_ne (tgt := 45) dX12_readsCounter_40 (by decide) (fun hc => ?_) (fun hc => ?_)
      · have h := Eq.mp (if_neg hc) h
        refine E_aload_n dX12_readsCounter_45 rfl rfl ?_
        refine E_geti (i := 0) dX12_readsCounter_46 fl_RX12_166 rfl ?_
        refine E_ic dX12_readsCounter_49 rfl ?_
        refine E_icmp_eq (tgt := 59) dX12_readsCounter_50 (by decide) (fun hc => ?_) (fun hc => ?_)
        · have h := Eq.mp (if_pos hc) h
          refine E_aload_n dX12_readsCounter_59 rfl rfl ?_
          refine E_geti (i := 0) dX12_readsCounter_60 fl_RX12_163 rfl ?_
          refine E_ic dX12_readsCounter_63 rfl ?_
          refine E_bp dX12_readsCounter_64 rfl ?_
          refine E_callS (Y' := Y_X12_within) (as := [vI (σ_4 12 0 8), vI 1, vI 20]) (st := []) dX12_readsCounter_66 lk_RX12_264 m_X12_within (by decide) (Nat.le_refl _) (Nat.le_refl _) rfl rfl (Nat.le_of_ble_eq_true rfl) (s_X12_within h) (fun r0 B0 σ_6 h => ?_)
          obtain ⟨r_7, rfl, rfl, h⟩ := h
          refine E_if_ne (tgt := 78) dX12_readsCounter_69 (by decide) (fun hc => ?_) (fun hc => ?_)
          · have h := Eq.mp (if_neg hc) h
            refine E_bp dX12_readsCounter_78 rfl ?_
            refine E_istore_n (ls' := [some (vR 12 0), some (vI (wi (6 + (σ 1310 0 4)))), some (vI 6)]) dX12_readsCounter_80 rfl (by decide) rfl ?_
            refine e_P_X12_readsCounter_L81 ?_ ?_ _ _ _ h
            · intro σ_8 h
              refine E_aload_n dX12_readsCounter_111 rfl rfl ?_
              refine E_getr (i := 0) dX12_readsCounter_112 fl_RX12_23 rfl rfl (go_12_13 _ _) ?_
              refine E_iload_n dX12_readsCounter_115 rfl rfl ?_
              refine E_aload_n dX12_readsCounter_116 rfl rfl ?_
              refine E_geti (i := 0) dX12_readsCounter_117 fl_RX12_163 rfl ?_
              obtain ⟨hg0, hg1, h⟩ := h
              refine E_iast dX12_readsCounter_120 sh_1313 hg0 hg1 ?_
              refine E_aload_n dX12_readsCounter_121 rfl rfl ?_
              refine E_callV (Y' := Y_X12_nextToken) (as := []) (st := []) dX12_readsCounter_122 lk_RX12_212 m_X12_nextToken (by decide) (Nat.le_refl _) (Nat.le_refl _) rfl rfl (Nat.le_of_ble_eq_true rfl) (s_X12_nextToken h) (fun r0 B0 σ_9 h => ?_)
              obtain ⟨rfl, rfl, h⟩ := h
              refine E_aload_n dX12_readsCounter_125 rfl rfl ?_
              refine E_ldc2 (z := 5146) dX12_readsCounter_126 kl_RX12_232 (by decide) ?_
              refine E_ic dX12_readsCounter_129 rfl ?_
              refine E_bp dX12_readsCounter_130 rfl ?_
              refine E_callV (Y' := Y_X12_needsBoth) (as := [vL 5146, vI 0, vI 60]) (st := []) dX12_readsCounter_132 lk_RX12_294 m_X12_needsBoth (by decide) (Nat.le_refl _) (Nat.le_refl _) rfl rfl (Nat.le_of_ble_eq_true rfl) (s_X12_needsBoth h) (fun r0 B0 σ_10 h => ?_)
              obtain ⟨r_11, rfl, rfl, h⟩ := h
              refine E_if_ne (tgt := 140) dX12_readsCounter_135 (by decide) (fun hc => ?_) (fun hc => ?_)
              · have h := Eq.mp (if_neg hc) h
                refine E_aload_n dX12_readsCounter_140 rfl rfl ?_
                refine E_getr (i := 0) dX12_readsCounter_141 fl_RX12_26 rfl rfl (go_12_14 _ _) ?_
                refine E_iload_n dX12_readsCounter_144 rfl rfl ?_
                refine E_aload_n dX12_readsCounter_145 rfl rfl ?_
                refine E_geti (i := 0) dX12_readsCounter_146 fl_RX12_268 rfl ?_
                obtain ⟨hg0, hg1, h⟩ := h
                refine E_iast dX12_readsCounter_149 sh_1314 hg0 hg1 ?_
                refine E_aload_n dX12_readsCounter_150 rfl rfl ?_
                refine E_getr (i := 0) dX12_readsCounter_151 fl_RX12_16 rfl rfl (go_12_11 _ _) ?_
                refine E_iload_n dX12_readsCounter_154 rfl rfl ?_
                refine E_aload_n dX12_readsCounter_155 rfl rfl ?_
                refine E_getl (i := 0) dX12_readsCounter_156 fl_RX12_288 rfl ?_
                obtain ⟨hg0, hg1, h⟩ := h
                refine E_last dX12_readsCounter_159 sh_1311 hg0 hg1 ?_
                refine E_aload_n dX12_readsCounter_160 rfl rfl ?_
                refine E_getr (i := 0) dX12_readsCounter_161 fl_RX12_13 rfl rfl (go_12_10 _ _) ?_
                refine E_ic dX12_readsCounter_164 rfl ?_
                refine E_dup2 dX12_readsCounter_165 (fun _ q => by cases q) (fun _ q => by cases q) ?_
                refine E_iald dX12_readsCounter_166 sh_1310 (by decide) (by decide) ?_
                refine E_ic dX12_readsCounter_167 rfl ?_
                refine E_iadd dX12_readsCounter_168 ?_
                refine E_iast dX12_readsCounter_169 sh_1310 (by decide) (by decide) ?_
                refine E_aload_n dX12_readsCounter_170 rfl rfl ?_
                refine E_callV (Y' := Y_X12_closes) (as := []) (st := []) dX12_readsCounter_171 lk_RX12_298 m_X12_closes (by decide) (Nat.le_refl _) (Nat.le_refl _) rfl rfl (Nat.le_of_ble_eq_true rfl) (s_X12_closes h) (fun r0 B0 σ_12 h => ?_)
                obtain ⟨r_13, rfl, rfl, h⟩ := h
                obtain ⟨hg0, h⟩ := h
                exact E_zret dX12_readsCounter_174 rfl hg0 ⟨_, rfl, rfl, h⟩
              · have h := Eq.mp (if_pos hc) h
                refine E_ic dX12_readsCounter_138 rfl ?_
                exact E_zret dX12_readsCounter_139 rfl (by decide) ⟨_, rfl, rfl, h⟩
            · intro σ_14 h
              refine E_aload_n dX12_readsCounter_99 rfl rfl ?_
              refine E_ic dX12_readsCounter_100 rfl ?_
              refine E_callV (Y' := Y_X12_fails) (as := [vI 3]) (st := []) dX12_readsCounter_101 lk_RX12_205 m_X12_fails (by decide) (Nat.le_refl _) (Nat.le_refl _) rfl rfl (Nat.le_of_ble_eq_true rfl) (s_X12_fails h) (fun r0 B0 σ_15 h => ?_)
              obtain ⟨r_16, rfl, rfl, h⟩ := h
              obtain ⟨hg0, h⟩ := h
              exact E_zret dX12_readsCounter_104 rfl hg0 ⟨_, rfl, rfl, h⟩
          · have h := Eq.mp (if_pos hc) h
            refine E_aload_n dX12_readsCounter_72 rfl rfl ?_
            refine E_ic dX12_readsCounter_73 rfl ?_
            refine E_callV (Y' := Y_X12_fails) (as := [vI 4]) (st := []) dX12_readsCounter_74 lk_RX12_205 m_X12_fails (by decide) (Nat.le_refl _) (Nat.le_refl _) rfl rfl (Nat.le_of_ble_eq_true rfl) (s_X12_fails h) (fun r0 B0 σ_17 h => ?_)
            obtain ⟨r_18, rfl, rfl, h⟩ := h
            obtain ⟨hg0, h⟩ := h
            exact E_zret dX12_readsCounter_77 rfl hg0 ⟨_, rfl, rfl, h⟩
        · have h := Eq.mp (if_neg hc) h
          refine E_aload_n dX12_readsCounter_53 rfl rfl ?_
          refine E_ic dX12_readsCounter_54 rfl ?_
          refine E_callV (Y' := Y_X12_fails) (as := [vI 1]) (st := []) dX12_readsCounter_55 lk_RX12_205 m_X12_fails (by decide) (Nat.le_refl _) (Nat.le_refl _) rfl rfl (Nat.le_of_ble_eq_true rfl) (s_X12_fails h) (fun r0 B0 σ_19 h => ?_)
          obtain ⟨r_20, rfl, rfl, h⟩ := h
          obtain ⟨hg0, h⟩ := h
          exact E_zret dX12_readsCounter_58 rfl hg0 ⟨_, rfl, rfl, h⟩
      · have h := Eq.mp (if_pos hc) h
        refine E_ic dX12_readsCounter_43 rfl ?_
        exact E_zret dX12_readsCounter_44 rfl (by decide) ⟨_, rfl, rfl, h⟩
  · have h := Eq.mp (if_pos hc) h
    refine E_aload_n dX12_readsCounter_16 rfl rfl ?_
    refine E_ic dX12_readsCounter_17 rfl ?_
    refine E_callV (Y' := Y_X12_fails) (as := [vI 5]) (st := []) dX12_readsCounter_18 lk_RX12_205 m_X12_fails (by decide) (Nat.le_refl _) (Nat.le_refl _) rfl rfl (Nat.le_of_ble_eq_true rfl) (s_X12_fails h) (fun r0 B0 σ_21 h => ?_)
    obtain ⟨r_22, rfl, rfl, h⟩ := h
    obtain ⟨hg0, h⟩ := h
    exact E_zret dX12_readsCounter_21 rfl hg0 ⟨_, rfl, rfl, h⟩
abbrev Y_X12_readsBall : My := (yX12_readsBall, cX12_readsBall, 2, some .boolean)
theorem dX12_readsBall_0 : decode cX12_readsBall 0 = .ok (.bipush 6, 2) := by decide +kernel
theorem dX12_readsBall_2 : decode cX12_readsBall 2 = .ok (.aload_n 0, 1) := by decide +kernel
theorem dX12_readsBall_3 : decode cX12_readsBall 3 = .ok (.getfield 13, 3) := by decide +kernel
theorem dX12_readsBall_6 : decode cX12_readsBall 6 = .ok (.iconst 5, 1) := by decide +kernel
theorem dX12_readsBall_7 : decode cX12_readsBall 7 = .ok (.iaload, 1) := by decide +kernel
theorem dX12_readsBall_8 : decode cX12_readsBall 8 = .ok (.iadd, 1) := by decide +kernel
theorem dX12_readsBall_9 : decode cX12_readsBall 9 = .ok (.istore_n 1, 1) := by decide +kernel
theorem dX12_readsBall_10 : decode cX12_readsBall 10 = .ok (.iload_n 1, 1) := by decide +kernel
theorem dX12_readsBall_11 : decode cX12_readsBall 11 = .ok (.bipush 12, 2) := by decide +kernel
theorem dX12_readsBall_13 : decode cX12_readsBall 13 = .ok (.if_icmp .ne 9, 3) := by decide +kernel
theorem dX12_readsBall_16 : decode cX12_readsBall 16 = .ok (.aload_n 0, 1) := by decide +kernel
theorem dX12_readsBall_17 : decode cX12_readsBall 17 = .ok (.iconst 5, 1) := by decide +kernel
theorem dX12_readsBall_18 : decode cX12_readsBall 18 = .ok (.invokevirtual 205, 3) := by decide +kernel
theorem dX12_readsBall_21 : decode cX12_readsBall 21 = .ok (.ireturn, 1) := by decide +kernel
theorem dX12_readsBall_22 : decode cX12_readsBall 22 = .ok (.aload_n 0, 1) := by decide +kernel
theorem dX12_readsBall_23 : decode cX12_readsBall 23 = .ok (.invokevirtual 212, 3) := by decide +kernel
theorem dX12_readsBall_26 : decode cX12_readsBall 26 = .ok (.aload_n 0, 1) := by decide +kernel
theorem dX12_readsBall_27 : decode cX12_readsBall 27 = .ok (.invokevirtual 291, 3) := by decide +kernel
theorem dX12_readsBall_30 : decode cX12_readsBall 30 = .ok (.ifCond .ne 5, 3) := by decide +kernel
theorem dX12_readsBall_33 : decode cX12_readsBall 33 = .ok (.iconst 0, 1) := by decide +kernel
theorem dX12_readsBall_34 : decode cX12_readsBall 34 = .ok (.ireturn, 1) := by decide +kernel
theorem dX12_readsBall_35 : decode cX12_readsBall 35 = .ok (.aload_n 0, 1) := by decide +kernel
theorem dX12_readsBall_36 : decode cX12_readsBall 36 = .ok (.getfield 29, 3) := by decide +kernel
theorem dX12_readsBall_39 : decode cX12_readsBall 39 = .ok (.iload_n 1, 1) := by decide +kernel
theorem dX12_readsBall_40 : decode cX12_readsBall 40 = .ok (.aload_n 0, 1) := by decide +kernel
theorem dX12_readsBall_41 : decode cX12_readsBall 41 = .ok (.ldc2_w 256, 3) := by decide +kernel
theorem dX12_readsBall_44 : decode cX12_readsBall 44 = .ok (.invokevirtual 197, 3) := by decide +kernel
theorem dX12_readsBall_47 : decode cX12_readsBall 47 = .ok (.ifCond .eq 7, 3) := by decide +kernel
theorem dX12_readsBall_50 : decode cX12_readsBall 50 = .ok (.iconst 0, 1) := by decide +kernel
theorem dX12_readsBall_51 : decode cX12_readsBall 51 = .ok (.goto 46, 3) := by decide +kernel
theorem dX12_readsBall_54 : decode cX12_readsBall 54 = .ok (.aload_n 0, 1) := by decide +kernel
theorem dX12_readsBall_55 : decode cX12_readsBall 55 = .ok (.ldc2_w 258, 3) := by decide +kernel
theorem dX12_readsBall_58 : decode cX12_readsBall 58 = .ok (.invokevirtual 197, 3) := by decide +kernel
theorem dX12_readsBall_61 : decode cX12_readsBall 61 = .ok (.ifCond .eq 7, 3) := by decide +kernel
theorem dX12_readsBall_64 : decode cX12_readsBall 64 = .ok (.iconst 1, 1) := by decide +kernel
theorem dX12_readsBall_65 : decode cX12_readsBall 65 = .ok (.goto 32, 3) := by decide +kernel
theorem dX12_readsBall_68 : decode cX12_readsBall 68 = .ok (.aload_n 0, 1) := by decide +kernel
theorem dX12_readsBall_69 : decode cX12_readsBall 69 = .ok (.ldc2_w 260, 3) := by decide +kernel
theorem dX12_readsBall_72 : decode cX12_readsBall 72 = .ok (.invokevirtual 197, 3) := by decide +kernel
theorem dX12_readsBall_75 : decode cX12_readsBall 75 = .ok (.ifCond .eq 7, 3) := by decide +kernel
theorem dX12_readsBall_78 : decode cX12_readsBall 78 = .ok (.iconst 2, 1) := by decide +kernel
theorem dX12_readsBall_79 : decode cX12_readsBall 79 = .ok (.goto 18, 3) := by decide +kernel
theorem dX12_readsBall_82 : decode cX12_readsBall 82 = .ok (.aload_n 0, 1) := by decide +kernel
theorem dX12_readsBall_83 : decode cX12_readsBall 83 = .ok (.ldc2_w 262, 3) := by decide +kernel
theorem dX12_readsBall_86 : decode cX12_readsBall 86 = .ok (.invokevirtual 197, 3) := by decide +kernel
theorem dX12_readsBall_89 : decode cX12_readsBall 89 = .ok (.ifCond .eq 7, 3) := by decide +kernel
theorem dX12_readsBall_92 : decode cX12_readsBall 92 = .ok (.iconst 3, 1) := by decide +kernel
theorem dX12_readsBall_93 : decode cX12_readsBall 93 = .ok (.goto 4, 3) := by decide +kernel
theorem dX12_readsBall_96 : decode cX12_readsBall 96 = .ok (.iconst (-1), 1) := by decide +kernel
theorem dX12_readsBall_97 : decode cX12_readsBall 97 = .ok (.iastore, 1) := by decide +kernel
theorem dX12_readsBall_98 : decode cX12_readsBall 98 = .ok (.aload_n 0, 1) := by decide +kernel
theorem dX12_readsBall_99 : decode cX12_readsBall 99 = .ok (.getfield 29, 3) := by decide +kernel
theorem dX12_readsBall_102 : decode cX12_readsBall 102 = .ok (.iload_n 1, 1) := by decide +kernel
theorem dX12_readsBall_103 : decode cX12_readsBall 103 = .ok (.iaload, 1) := by decide +kernel
theorem dX12_readsBall_104 : decode cX12_readsBall 104 = .ok (.ifCond .ge 9, 3) := by decide +kernel
theorem dX12_readsBall_107 : decode cX12_readsBall 107 = .ok (.aload_n 0, 1) := by decide +kernel
theorem dX12_readsBall_108 : decode cX12_readsBall 108 = .ok (.iconst 1, 1) := by decide +kernel
theorem dX12_readsBall_109 : decode cX12_readsBall 109 = .ok (.invokevirtual 205, 3) := by decide +kernel
theorem dX12_readsBall_112 : decode cX12_readsBall 112 = .ok (.ireturn, 1) := by decide +kernel
theorem dX12_readsBall_113 : decode cX12_readsBall 113 = .ok (.aload_n 0, 1) := by decide +kernel
theorem dX12_readsBall_114 : decode cX12_readsBall 114 = .ok (.invokevirtual 212, 3) := by decide +kernel
theorem dX12_readsBall_117 : decode cX12_readsBall 117 = .ok (.aload_n 0, 1) := by decide +kernel
theorem dX12_readsBall_118 : decode cX12_readsBall 118 = .ok (.ldc2_w 236, 3) := by decide +kernel
theorem dX12_readsBall_121 : decode cX12_readsBall 121 = .ok (.iconst 1, 1) := by decide +kernel
theorem dX12_readsBall_122 : decode cX12_readsBall 122 = .ok (.bipush 60, 2) := by decide +kernel
theorem dX12_readsBall_124 : decode cX12_readsBall 124 = .ok (.invokevirtual 294, 3) := by decide +kernel
theorem dX12_readsBall_127 : decode cX12_readsBall 127 = .ok (.ifCond .ne 5, 3) := by decide +kernel
theorem dX12_readsBall_130 : decode cX12_readsBall 130 = .ok (.iconst 0, 1) := by decide +kernel
theorem dX12_readsBall_131 : decode cX12_readsBall 131 = .ok (.ireturn, 1) := by decide +kernel
theorem dX12_readsBall_132 : decode cX12_readsBall 132 = .ok (.aload_n 0, 1) := by decide +kernel
theorem dX12_readsBall_133 : decode cX12_readsBall 133 = .ok (.getfield 32, 3) := by decide +kernel
theorem dX12_readsBall_136 : decode cX12_readsBall 136 = .ok (.iload_n 1, 1) := by decide +kernel
theorem dX12_readsBall_137 : decode cX12_readsBall 137 = .ok (.aload_n 0, 1) := by decide +kernel
theorem dX12_readsBall_138 : decode cX12_readsBall 138 = .ok (.getfield 268, 3) := by decide +kernel
theorem dX12_readsBall_141 : decode cX12_readsBall 141 = .ok (.iastore, 1) := by decide +kernel
theorem dX12_readsBall_142 : decode cX12_readsBall 142 = .ok (.aload_n 0, 1) := by decide +kernel
theorem dX12_readsBall_143 : decode cX12_readsBall 143 = .ok (.ldc2_w 238, 3) := by decide +kernel
theorem dX12_readsBall_146 : decode cX12_readsBall 146 = .ok (.invokevirtual 271, 3) := by decide +kernel
theorem dX12_readsBall_149 : decode cX12_readsBall 149 = .ok (.ifCond .eq 15, 3) := by decide +kernel
theorem dX12_readsBall_152 : decode cX12_readsBall 152 = .ok (.aload_n 0, 1) := by decide +kernel
theorem dX12_readsBall_153 : decode cX12_readsBall 153 = .ok (.aload_n 0, 1) := by decide +kernel
theorem dX12_readsBall_154 : decode cX12_readsBall 154 = .ok (.iconst 1, 1) := by decide +kernel
theorem dX12_readsBall_155 : decode cX12_readsBall 155 = .ok (.invokevirtual 282, 3) := by decide +kernel
theorem dX12_readsBall_158 : decode cX12_readsBall 158 = .ok (.invokevirtual 301, 3) := by decide +kernel
theorem dX12_readsBall_161 : decode cX12_readsBall 161 = .ok (.ifCond .ne 5, 3) := by decide +kernel
theorem dX12_readsBall_164 : decode cX12_readsBall 164 = .ok (.iconst 0, 1) := by decide +kernel
theorem dX12_readsBall_165 : decode cX12_readsBall 165 = .ok (.ireturn, 1) := by decide +kernel
theorem dX12_readsBall_166 : decode cX12_readsBall 166 = .ok (.aload_n 0, 1) := by decide +kernel
theorem dX12_readsBall_167 : decode cX12_readsBall 167 = .ok (.getfield 35, 3) := by decide +kernel
theorem dX12_readsBall_170 : decode cX12_readsBall 170 = .ok (.iload_n 1, 1) := by decide +kernel
theorem dX12_readsBall_171 : decode cX12_readsBall 171 = .ok (.aload_n 0, 1) := by decide +kernel
theorem dX12_readsBall_172 : decode cX12_readsBall 172 = .ok (.getfield 268, 3) := by decide +kernel
theorem dX12_readsBall_175 : decode cX12_readsBall 175 = .ok (.iastore, 1) := by decide +kernel
theorem dX12_readsBall_176 : decode cX12_readsBall 176 = .ok (.aload_n 0, 1) := by decide +kernel
theorem dX12_readsBall_177 : decode cX12_readsBall 177 = .ok (.getfield 20, 3) := by decide +kernel
theorem dX12_readsBall_180 : decode cX12_readsBall 180 = .ok (.iload_n 1, 1) := by decide +kernel
theorem dX12_readsBall_181 : decode cX12_readsBall 181 = .ok (.aload_n 0, 1) := by decide +kernel
theorem dX12_readsBall_182 : decode cX12_readsBall 182 = .ok (.getfield 288, 3) := by decide +kernel
theorem dX12_readsBall_185 : decode cX12_readsBall 185 = .ok (.lastore, 1) := by decide +kernel
theorem dX12_readsBall_186 : decode cX12_readsBall 186 = .ok (.aload_n 0, 1) := by decide +kernel
theorem dX12_readsBall_187 : decode cX12_readsBall 187 = .ok (.getfield 13, 3) := by decide +kernel
theorem dX12_readsBall_190 : decode cX12_readsBall 190 = .ok (.iconst 5, 1) := by decide +kernel
theorem dX12_readsBall_191 : decode cX12_readsBall 191 = .ok (.dup2, 1) := by decide +kernel
theorem dX12_readsBall_192 : decode cX12_readsBall 192 = .ok (.iaload, 1) := by decide +kernel
theorem dX12_readsBall_193 : decode cX12_readsBall 193 = .ok (.iconst 1, 1) := by decide +kernel
theorem dX12_readsBall_194 : decode cX12_readsBall 194 = .ok (.iadd, 1) := by decide +kernel
theorem dX12_readsBall_195 : decode cX12_readsBall 195 = .ok (.iastore, 1) := by decide +kernel
theorem dX12_readsBall_196 : decode cX12_readsBall 196 = .ok (.aload_n 0, 1) := by decide +kernel
theorem dX12_readsBall_197 : decode cX12_readsBall 197 = .ok (.invokevirtual 298, 3) := by decide +kernel
theorem dX12_readsBall_200 : decode cX12_readsBall 200 = .ok (.ireturn, 1) := by decide +kernel
theorem fl_RX12_29 : FL RX12 29 12 15 := ⟨inG (i := 1415) (by decide +kernel) (by decide +kernel), by decide, by decide⟩
theorem fl_RX12_32 : FL RX12 32 12 16 := ⟨inG (i := 1416) (by decide +kernel) (by decide +kernel), by decide, by decide⟩
theorem fl_RX12_35 : FL RX12 35 12 17 := ⟨inG (i := 1417) (by decide +kernel) (by decide +kernel), by decide, by decide⟩
theorem go_12_15 (σ : St) (i : Nat) : go σ 12 i 15 = (1315, i) := rfl
theorem go_12_16 (σ : St) (i : Nat) : go σ 12 i 16 = (1316, i) := rfl
theorem go_12_17 (σ : St) (i : Nat) : go σ 12 i 17 = (1317, i) := rfl
theorem lk_RX12_301 : Cond.methodLink RX12 301 yX12_passesFound ∈ tG := inG (i := 1685) (by decide +kernel) (by decide +kernel)
theorem m_X12_passesFound : MV Y_X12_passesFound 1 12 := ⟨⟨inG (i := 1688) (by decide +kernel) (by decide +kernel), inG (i := 110) (by decide +kernel) (by decide +kernel), by decide, by decide, by decide, by decide +kernel⟩, inG (i := 1687) (by decide +kernel) (by decide +kernel), inG (i := 49) (by decide +kernel) (by decide +kernel), by decide⟩
theorem sh_1315 : shp 1315 = (0, 12) := rfl
theorem sh_1316 : shp 1316 = (0, 12) := rfl
theorem sh_1317 : shp 1317 = (0, 12) := rfl
def P_X12_readsBall_J97  (x1 : Int) (y0 : Int) (y1 : Int)  (Q : Int → St → Prop) (σ : St) : Prop :=
  0 ≤ y1 ∧ y1 < 12 ∧ 0 ≤ x1 ∧ x1 < 12 ∧ (if 0 ≤ ((up σ 1315 0 y1 y0) 1315 0 x1) then P_X12_nextToken (up σ 1315 0 y1 y0) (fun σ_12 => P_X12_needsBoth 381245 1 60 σ_12 (fun r_14 σ_13 => (if r_14 = 0 then Q 0 σ_13 else 0 ≤ x1 ∧ x1 < 12 ∧ P_X12_needsWord 168755 (up σ_13 1316 0 x1 (σ_13 12 0 36)) (fun r_16 σ_15 => (if r_16 = 0 then Q 0 σ_15 else P_X12_counterNamed 1 σ_15 (fun r_18 σ_17 => P_X12_passesFound r_18 σ_17 (fun r_20 σ_19 => (if r_20 = 0 then Q 0 σ_19 else 0 ≤ x1 ∧ x1 < 12 ∧ 0 ≤ x1 ∧ x1 < 12 ∧ P_X12_closes (up (up (up σ_19 1317 0 x1 (σ_19 12 0 36)) 1312 0 x1 ((up σ_19 1317 0 x1 (σ_19 12 0 36)) 12 0 37)) 1310 0 5 (wi (((up (up σ_19 1317 0 x1 (σ_19 12 0 36)) 1312 0 x1 ((up σ_19 1317 0 x1 (σ_19 12 0 36)) 12 0 37)) 1310 0 5) + 1))) (fun r_22 σ_21 => (r_22 = 0 ∨ r_22 = 1) ∧ Q r_22 σ_21))))))))) else P_X12_fails 1 (up σ 1315 0 y1 y0) (fun r_24 σ_23 => (r_24 = 0 ∨ r_24 = 1) ∧ Q r_24 σ_23))
set_option maxRecDepth 20000 in
set_option maxHeartbeats 2000000 in
theorem e_P_X12_readsBall_J97  {x1 : Int} {y0 : Int} {y1 : Int}  {Q : Int → St → Prop} {σ : St}   (h : P_X12_readsBall_J97 x1 y0 y1 Q σ) : E Y_X12_readsBall 4 0 0 (QI Q) ww 0 0 97 [some (vR 12 0), some (vI x1)] [vI y0, vI y1, vR 1315 0] σ := by
  unfold P_X12_readsBall_J97 at h
  obtain ⟨hg0, hg1, h⟩ := h
  refine E_iast dX12_readsBall_97 sh_1315 hg0 hg1 ?_
  refine E_aload_n dX12_readsBall_98 rfl rfl ?_
  refine E_getr (i := 0) dX12_readsBall_99 fl_RX12_29 rfl rfl (go_12_15 _ _) ?_
  refine E_iload_n dX12_readsBall_102 rfl rfl ?_
  obtain ⟨hg0, hg1, h⟩ := h
  refine E_iald dX12_readsBall_103 sh_1315 hg0 hg1 ?_
  refine E_if_ge (tgt := 113) dX12_readsBall_104 (by decide) (fun hc => ?_) (fun hc => ?_)
  · have h := Eq.mp (if_pos hc) h
    refine E_aload_n dX12_readsBall_113 rfl rfl ?_
    refine E_callV (Y' := Y_X12_nextToken) (as := []) (st := []) dX12_readsBall_114 lk_RX12_212 m_X12_nextToken (by decide) (Nat.le_refl _) (Nat.le_refl _) rfl rfl (Nat.le_of_ble_eq_true rfl) (s_X12_nextToken h) (fun r0 B0 σ_12 h => ?_)
    obtain ⟨rfl, rfl, h⟩ := h
    refine E_aload_n dX12_readsBall_117 rfl rfl ?_
    refine E_ldc2 (z := 381245) dX12_readsBall_118 kl_RX12_236 (by decide) ?_
    refine E_ic dX12_readsBall_121 rfl ?_
    refine E_bp dX12_readsBall_122 rfl ?_
    refine E_callV (Y' := Y_X12_needsBoth) (as := [vL 381245, vI 1, vI 60]) (st := []) dX12_readsBall_124 lk_RX12_294 m_X12_needsBoth (by decide) (Nat.le_refl _) (Nat.le_refl _) rfl rfl (Nat.le_of_ble_eq_true rfl) (s_X12_needsBoth h) (fun r0 B0 σ_13 h => ?_)
    obtain ⟨r_14, rfl, rfl, h⟩ := h
    refine E_if_ne (tgt := 132) dX12_readsBall_127 (by decide) (fun hc => ?_) (fun hc => ?_)
    · have h := Eq.mp (if_neg hc) h
      refine E_aload_n dX12_readsBall_132 rfl rfl ?_
      refine E_getr (i := 0) dX12_readsBall_133 fl_RX12_32 rfl rfl (go_12_16 _ _) ?_
      refine E_iload_n dX12_readsBall_136 rfl rfl ?_
      refine E_aload_n dX12_readsBall_137 rfl rfl ?_
      refine E_geti (i := 0) dX12_readsBall_138 fl_RX12_268 rfl ?_
      obtain ⟨hg0, hg1, h⟩ := h
      refine E_iast dX12_readsBall_141 sh_1316 hg0 hg1 ?_
      refine E_aload_n dX12_readsBall_142 rfl rfl ?_
      refine E_ldc2 (z := 168755) dX12_readsBall_143 kl_RX12_238 (by decide) ?_
      refine E_callV (Y' := Y_X12_needsWord) (as := [vL 168755]) (st := []) dX12_readsBall_146 lk_RX12_271 m_X12_needsWord (by decide) (Nat.le_refl _) (Nat.le_refl _) rfl rfl (Nat.le_of_ble_eq_true rfl) (s_X12_needsWord h) (fun r0 B0 σ_15 h => ?_)
      obtain ⟨r_16, rfl, rfl, h⟩ := h
      refine E_if_eq (tgt := 164) dX12_readsBall_149 (by decide) (fun hc => ?_) (fun hc => ?_)
      · have h := Eq.mp (if_pos hc) h
        refine E_ic dX12_readsBall_164 rfl ?_
        exact E_zret dX12_readsBall_165 rfl (by decide) ⟨_, rfl, rfl, h⟩
      · have h := Eq.mp (if_neg hc) h
        refine E_aload_n dX12_readsBall_152 rfl rfl ?_
        refine E_aload_n dX12_readsBall_153 rfl rfl ?_
        refine E_ic dX12_readsBall_154 rfl ?_
        refine E_callV (Y' := Y_X12_counterNamed) (as := [vI 1]) (st := [vR 12 0]) dX12_readsBall_155 lk_RX12_282 m_X12_counterNamed (by decide) (Nat.le_refl _) (Nat.le_refl _) rfl rfl (Nat.le_of_ble_eq_true rfl) (s_X12_counterNamed h) (fun r0 B0 σ_17 h => ?_)
        obtain ⟨r_18, rfl, rfl, h⟩ := h
        refine E_callV (Y' := Y_X12_passesFound) (as := [vI r_18]) (st := []) dX12_readsBall_158 lk_RX12_301 m_X12_passesFound (by decide) (Nat.le_refl _) (Nat.le_refl _) rfl rfl (Nat.le_of_ble_eq_true rfl) (s_X12_passesFound h) (fun r0 B0 σ_19 h => ?_)
        obtain ⟨r_20, rfl, rfl, h⟩ := h
        refine E_if_ne (tgt := 166) dX12_readsBall_161 (by decide) (fun hc => ?_) (fun hc => ?_)
        · have h := Eq.mp (if_neg hc) h
          refine E_aload_n dX12_readsBall_166 rfl rfl ?_
          refine E_getr (i := 0) dX12_readsBall_167 fl_RX12_35 rfl rfl (go_12_17 _ _) ?_
          refine E_iload_n dX12_readsBall_170 rfl rfl ?_
          refine E_aload_n dX12_readsBall_171 rfl rfl ?_
          refine E_geti (i := 0) dX12_readsBall_172 fl_RX12_268 rfl ?_
          obtain ⟨hg0, hg1, h⟩ := h
          refine E_iast dX12_readsBall_175 sh_1317 hg0 hg1 ?_
          refine E_aload_n dX12_readsBall_176 rfl rfl ?_
          refine E_getr (i := 0) dX12_readsBall_177 fl_RX12_20 rfl rfl (go_12_12 _ _) ?_
          refine E_iload_n dX12_readsBall_180 rfl rfl ?_
          refine E_aload_n dX12_readsBall_181 rfl rfl ?_
          refine E_getl (i := 0) dX12_readsBall_182 fl_RX12_288 rfl ?_
          obtain ⟨hg0, hg1, h⟩ := h
          refine E_last dX12_readsBall_185 sh_1312 hg0 hg1 ?_
          refine E_aload_n dX12_readsBall_186 rfl rfl ?_
          refine E_getr (i := 0) dX12_readsBall_187 fl_RX12_13 rfl rfl (go_12_10 _ _) ?_
          refine E_ic dX12_readsBall_190 rfl ?_
          refine E_dup2 dX12_readsBall_191 (fun _ q => by cases q) (fun _ q => by cases q) ?_
          refine E_iald dX12_readsBall_192 sh_1310 (by decide) (by decide) ?_
          refine E_ic dX12_readsBall_193 rfl ?_
          refine E_iadd dX12_readsBall_194 ?_
          refine E_iast dX12_readsBall_195 sh_1310 (by decide) (by decide) ?_
          refine E_aload_n dX12_readsBall_196 rfl rfl ?_
          refine E_callV (Y' := Y_X12_closes) (as := []) (st := []) dX12_readsBall_197 lk_RX12_298 m_X12_closes (by decide) (Nat.le_refl _) (Nat.le_refl _) rfl rfl (Nat.le_of_ble_eq_true rfl) (s_X12_closes h) (fun r0 B0 σ_21 h => ?_)
          obtain ⟨r_22, rfl, rfl, h⟩ := h
          obtain ⟨hg0, h⟩ := h
          exact E_zret dX12_readsBall_200 rfl hg0 ⟨_, rfl, rfl, h⟩
        · have h := Eq.mp (if_pos hc) h
          refine E_ic dX12_readsBall_164 rfl ?_
          exact E_zret dX12_readsBall_165 rfl (by decide) ⟨_, rfl, rfl, h⟩
    · have h := Eq.mp (if_pos hc) h
      refine E_ic dX12_readsBall_130 rfl ?_
      exact E_zret dX12_readsBall_131 rfl (by decide) ⟨_, rfl, rfl, h⟩
  · have h := Eq.mp (if_neg hc) h
    refine E_aload_n dX12_readsBall_107 rfl rfl ?_
    refine E_ic dX12_readsBall_108 rfl ?_
    refine E_callV (Y' := Y_X12_fails) (as := [vI 1]) (st := []) dX12_readsBall_109 lk_RX12_205 m_X12_fails (by decide) (Nat.le_refl _) (Nat.le_refl _) rfl rfl (Nat.le_of_ble_eq_true rfl) (s_X12_fails h) (fun r0 B0 σ_23 h => ?_)
    obtain ⟨r_24, rfl, rfl, h⟩ := h
    obtain ⟨hg0, h⟩ := h
    exact E_zret dX12_readsBall_112 rfl hg0 ⟨_, rfl, rfl, h⟩
def P_X12_readsBall   (σ : St) (Q : Int → St → Prop) : Prop :=
  (if (wi (6 + (σ 1310 0 5))) = 12 then P_X12_fails 5 σ (fun r_26 σ_25 => (r_26 = 0 ∨ r_26 = 1) ∧ Q r_26 σ_25) else P_X12_nextToken σ (fun σ_1 => P_X12_needsNew σ_1 (fun r_3 σ_2 => (if r_3 = 0 then Q 0 σ_2 else P_X12_isWord 8740238 σ_2 (fun r_5 σ_4 => (if r_5 = 0 then P_X12_isWord 10973 σ_4 (fun r_7 σ_6 => (if r_7 = 0 then P_X12_isWord 335053202 σ_6 (fun r_9 σ_8 => (if r_9 = 0 then P_X12_isWord 70481 σ_8 (fun r_11 σ_10 => (if r_11 = 0 then P_X12_readsBall_J97 (wi (6 + (σ 1310 0 5))) (-1) (wi (6 + (σ 1310 0 5))) Q σ_10 else P_X12_readsBall_J97 (wi (6 + (σ 1310 0 5))) 3 (wi (6 + (σ 1310 0 5))) Q σ_10)) else P_X12_readsBall_J97 (wi (6 + (σ 1310 0 5))) 2 (wi (6 + (σ 1310 0 5))) Q σ_8)) else P_X12_readsBall_J97 (wi (6 + (σ 1310 0 5))) 1 (wi (6 + (σ 1310 0 5))) Q σ_6)) else P_X12_readsBall_J97 (wi (6 + (σ 1310 0 5))) 0 (wi (6 + (σ 1310 0 5))) Q σ_4))))))
set_option maxRecDepth 20000 in
set_option maxHeartbeats 2000000 in
theorem s_X12_readsBall    {σ : St} {Q : Int → St → Prop} (h : P_X12_readsBall  σ Q) : Cn Y_X12_readsBall 4 0 0 ww σ [vR 12 0] (QI Q) := by
  refine Cn_of [some (vR 12 0), none] (by decide) (Nat.le_of_ble_eq_true rfl) rfl ?_
  unfold P_X12_readsBall at h
  refine E_bp dX12_readsBall_0 rfl ?_
  refine E_aload_n dX12_readsBall_2 rfl rfl ?_
  refine E_getr (i := 0) dX12_readsBall_3 fl_RX12_13 rfl rfl (go_12_10 _ _) ?_
  refine E_ic dX12_readsBall_6 rfl ?_
  refine E_iald dX12_readsBall_7 sh_1310 (by decide) (by decide) ?_
  refine E_iadd dX12_readsBall_8 ?_
  refine E_istore_n (ls' := [some (vR 12 0), some (vI (wi (6 + (σ 1310 0 5))))]) dX12_readsBall_9 rfl (by decide) rfl ?_
  refine E_iload_n dX12_readsBall_10 rfl rfl ?_
  refine E_bp dX12_readsBall_11 rfl ?_
  refine E_icmp_ne (tgt := 22) dX12_readsBall_13 (by decide) (fun hc => ?_) (fun hc => ?_)
  · have h := Eq.mp (if_neg hc) h
    refine E_aload_n dX12_readsBall_22 rfl rfl ?_
    refine E_callV (Y' := Y_X12_nextToken) (as := []) (st := []) dX12_readsBall_23 lk_RX12_212 m_X12_nextToken (by decide) (Nat.le_refl _) (Nat.le_refl _) rfl rfl (Nat.le_of_ble_eq_true rfl) (s_X12_nextToken h) (fun r0 B0 σ_1 h => ?_)
    obtain ⟨rfl, rfl, h⟩ := h
    refine E_aload_n dX12_readsBall_26 rfl rfl ?_
    refine E_callV (Y' := Y_X12_needsNew) (as := []) (st := []) dX12_readsBall_27 lk_RX12_291 m_X12_needsNew (by decide) (Nat.le_refl _) (Nat.le_refl _) rfl rfl (Nat.le_of_ble_eq_true rfl) (s_X12_needsNew h) (fun r0 B0 σ_2 h => ?_)
    obtain ⟨r_3, rfl, rfl, h⟩ := h
    refine E_if_ne (tgt := 35) dX12_readsBall_30 (by decide) (fun hc => ?_) (fun hc => ?_)
    · have h := Eq.mp (if_neg hc) h
      refine E_aload_n dX12_readsBall_35 rfl rfl ?_
      refine E_getr (i := 0) dX12_readsBall_36 fl_RX12_29 rfl rfl (go_12_15 _ _) ?_
      refine E_iload_n dX12_readsBall_39 rfl rfl ?_
      refine E_aload_n dX12_readsBall_40 rfl rfl ?_
      refine E_ldc2 (z := 8740238) dX12_readsBall_41 kl_RX12_256 (by decide) ?_
      refine E_callV (Y' := Y_X12_isWord) (as := [vL 8740238]) (st := [vI (wi (6 + (σ 1310 0 5))), vR 1315 0]) dX12_readsBall_44 lk_RX12_197 m_X12_isWord (by decide) (Nat.le_refl _) (Nat.le_refl _) rfl rfl (Nat.le_of_ble_eq_true rfl) (s_X12_isWord h) (fun r0 B0 σ_4 h => ?_)
      obtain ⟨r_5, rfl, rfl, h⟩ := h
      refine E_if_eq (tgt := 54) dX12_readsBall_47 (by decide) (fun hc => ?_) (fun hc => ?_)
      · have h := Eq.mp (if_pos hc) h
        refine E_aload_n dX12_readsBall_54 rfl rfl ?_
        refine E_ldc2 (z := 10973) dX12_readsBall_55 kl_RX12_258 (by decide) ?_
        refine E_callV (Y' := Y_X12_isWord) (as := [vL 10973]) (st := [vI (wi (6 + (σ 1310 0 5))), vR 1315 0]) dX12_readsBall_58 lk_RX12_197 m_X12_isWord (by decide) (Nat.le_refl _) (Nat.le_refl _) rfl rfl (Nat.le_of_ble_eq_true rfl) (s_X12_isWord h) (fun r0 B0 σ_6 h => ?_)
        obtain ⟨r_7, rfl, rfl, h⟩ := h
        refine E_if_eq (tgt := 68) dX12_readsBall_61 (by decide) (fun hc => ?_) (fun hc => ?_)
        · have h := Eq.mp (if_pos hc) h
          refine E_aload_n dX12_readsBall_68 rfl rfl ?_
          refine E_ldc2 (z := 335053202) dX12_readsBall_69 kl_RX12_260 (by decide) ?_
          refine E_callV (Y' := Y_X12_isWord) (as := [vL 335053202]) (st := [vI (wi (6 + (σ 1310 0 5))), vR 1315 0]) dX12_readsBall_72 lk_RX12_197 m_X12_isWord (by decide) (Nat.le_refl _) (Nat.le_refl _) rfl rfl (Nat.le_of_ble_eq_true rfl) (s_X12_isWord h) (fun r0 B0 σ_8 h => ?_)
          obtain ⟨r_9, rfl, rfl, h⟩ := h
          refine E_if_eq (tgt := 82) dX12_readsBall_75 (by decide) (fun hc => ?_) (fun hc => ?_)
          · have h := Eq.mp (if_pos hc) h
            refine E_aload_n dX12_readsBall_82 rfl rfl ?_
            refine E_ldc2 (z := 70481) dX12_readsBall_83 kl_RX12_262 (by decide) ?_
            refine E_callV (Y' := Y_X12_isWord) (as := [vL 70481]) (st := [vI (wi (6 + (σ 1310 0 5))), vR 1315 0]) dX12_readsBall_86 lk_RX12_197 m_X12_isWord (by decide) (Nat.le_refl _) (Nat.le_refl _) rfl rfl (Nat.le_of_ble_eq_true rfl) (s_X12_isWord h) (fun r0 B0 σ_10 h => ?_)
            obtain ⟨r_11, rfl, rfl, h⟩ := h
            refine E_if_eq (tgt := 96) dX12_readsBall_89 (by decide) (fun hc => ?_) (fun hc => ?_)
            · have h := Eq.mp (if_pos hc) h
              refine E_ic dX12_readsBall_96 rfl ?_
              exact e_P_X12_readsBall_J97 h
            · have h := Eq.mp (if_neg hc) h
              refine E_ic dX12_readsBall_92 rfl ?_
              refine E_goto (tgt := 97) dX12_readsBall_93 (by decide) ?_
              exact e_P_X12_readsBall_J97 h
          · have h := Eq.mp (if_neg hc) h
            refine E_ic dX12_readsBall_78 rfl ?_
            refine E_goto (tgt := 97) dX12_readsBall_79 (by decide) ?_
            exact e_P_X12_readsBall_J97 h
        · have h := Eq.mp (if_neg hc) h
          refine E_ic dX12_readsBall_64 rfl ?_
          refine E_goto (tgt := 97) dX12_readsBall_65 (by decide) ?_
          exact e_P_X12_readsBall_J97 h
      · have h := Eq.mp (if_neg hc) h
        refine E_ic dX12_readsBall_50 rfl ?_
        refine E_goto (tgt := 97) dX12_readsBall_51 (by decide) ?_
        exact e_P_X12_readsBall_J97 h
    · have h := Eq.mp (if_pos hc) h
      refine E_ic dX12_readsBall_33 rfl ?_
      exact E_zret dX12_readsBall_34 rfl (by decide) ⟨_, rfl, rfl, h⟩
  · have h := Eq.mp (if_pos hc) h
    refine E_aload_n dX12_readsBall_16 rfl rfl ?_
    refine E_ic dX12_readsBall_17 rfl ?_
    refine E_callV (Y' := Y_X12_fails) (as := [vI 5]) (st := []) dX12_readsBall_18 lk_RX12_205 m_X12_fails (by decide) (Nat.le_refl _) (Nat.le_refl _) rfl rfl (Nat.le_of_ble_eq_true rfl) (s_X12_fails h) (fun r0 B0 σ_25 h => ?_)
    obtain ⟨r_26, rfl, rfl, h⟩ := h
    obtain ⟨hg0, h⟩ := h
    exact E_zret dX12_readsBall_21 rfl hg0 ⟨_, rfl, rfl, h⟩
abbrev Y_X12_readsDesk : My := (yX12_readsDesk, cX12_readsDesk, 1, some .boolean)
theorem dX12_readsDesk_0 : decode cX12_readsDesk 0 = .ok (.aload_n 0, 1) := by decide +kernel
theorem dX12_readsDesk_1 : decode cX12_readsDesk 1 = .ok (.getfield 304, 3) := by decide +kernel
theorem dX12_readsDesk_4 : decode cX12_readsDesk 4 = .ok (.ifCond .eq 9, 3) := by decide +kernel
theorem dX12_readsDesk_7 : decode cX12_readsDesk 7 = .ok (.aload_n 0, 1) := by decide +kernel
theorem dX12_readsDesk_8 : decode cX12_readsDesk 8 = .ok (.iconst 3, 1) := by decide +kernel
theorem dX12_readsDesk_9 : decode cX12_readsDesk 9 = .ok (.invokevirtual 205, 3) := by decide +kernel
theorem dX12_readsDesk_12 : decode cX12_readsDesk 12 = .ok (.ireturn, 1) := by decide +kernel
theorem dX12_readsDesk_13 : decode cX12_readsDesk 13 = .ok (.aload_n 0, 1) := by decide +kernel
theorem dX12_readsDesk_14 : decode cX12_readsDesk 14 = .ok (.iconst 1, 1) := by decide +kernel
theorem dX12_readsDesk_15 : decode cX12_readsDesk 15 = .ok (.putfield 304, 3) := by decide +kernel
theorem dX12_readsDesk_18 : decode cX12_readsDesk 18 = .ok (.aload_n 0, 1) := by decide +kernel
theorem dX12_readsDesk_19 : decode cX12_readsDesk 19 = .ok (.invokevirtual 212, 3) := by decide +kernel
theorem dX12_readsDesk_22 : decode cX12_readsDesk 22 = .ok (.aload_n 0, 1) := by decide +kernel
theorem dX12_readsDesk_23 : decode cX12_readsDesk 23 = .ok (.iconst 1, 1) := by decide +kernel
theorem dX12_readsDesk_24 : decode cX12_readsDesk 24 = .ok (.bipush 9, 2) := by decide +kernel
theorem dX12_readsDesk_26 : decode cX12_readsDesk 26 = .ok (.invokevirtual 274, 3) := by decide +kernel
theorem dX12_readsDesk_29 : decode cX12_readsDesk 29 = .ok (.ifCond .ne 5, 3) := by decide +kernel
theorem dX12_readsDesk_32 : decode cX12_readsDesk 32 = .ok (.iconst 0, 1) := by decide +kernel
theorem dX12_readsDesk_33 : decode cX12_readsDesk 33 = .ok (.ireturn, 1) := by decide +kernel
theorem dX12_readsDesk_34 : decode cX12_readsDesk 34 = .ok (.aload_n 0, 1) := by decide +kernel
theorem dX12_readsDesk_35 : decode cX12_readsDesk 35 = .ok (.getfield 13, 3) := by decide +kernel
theorem dX12_readsDesk_38 : decode cX12_readsDesk 38 = .ok (.bipush 6, 2) := by decide +kernel
theorem dX12_readsDesk_40 : decode cX12_readsDesk 40 = .ok (.aload_n 0, 1) := by decide +kernel
theorem dX12_readsDesk_41 : decode cX12_readsDesk 41 = .ok (.getfield 268, 3) := by decide +kernel
theorem dX12_readsDesk_44 : decode cX12_readsDesk 44 = .ok (.iastore, 1) := by decide +kernel
theorem dX12_readsDesk_45 : decode cX12_readsDesk 45 = .ok (.aload_n 0, 1) := by decide +kernel
theorem dX12_readsDesk_46 : decode cX12_readsDesk 46 = .ok (.invokevirtual 298, 3) := by decide +kernel
theorem dX12_readsDesk_49 : decode cX12_readsDesk 49 = .ok (.ireturn, 1) := by decide +kernel
theorem fl_RX12_304 : FL RX12 304 12 23 := ⟨inG (i := 1423) (by decide +kernel) (by decide +kernel), by decide, by decide⟩
def P_X12_readsDesk   (σ : St) (Q : Int → St → Prop) : Prop :=
  (if (σ 12 0 23) = 0 then P_X12_nextToken (up σ 12 0 23 1) (fun σ_1 => P_X12_needsNumber 1 9 σ_1 (fun r_3 σ_2 => (if r_3 = 0 then Q 0 σ_2 else P_X12_closes (up σ_2 1310 0 6 (σ_2 12 0 36)) (fun r_5 σ_4 => (r_5 = 0 ∨ r_5 = 1) ∧ Q r_5 σ_4)))) else P_X12_fails 3 σ (fun r_7 σ_6 => (r_7 = 0 ∨ r_7 = 1) ∧ Q r_7 σ_6))
set_option maxRecDepth 20000 in
set_option maxHeartbeats 2000000 in
theorem s_X12_readsDesk    {σ : St} {Q : Int → St → Prop} (h : P_X12_readsDesk  σ Q) : Cn Y_X12_readsDesk 3 0 0 ww σ [vR 12 0] (QI Q) := by
  refine Cn_of [some (vR 12 0)] (by decide) (Nat.le_of_ble_eq_true rfl) rfl ?_
  unfold P_X12_readsDesk at h
  refine E_aload_n dX12_readsDesk_0 rfl rfl ?_
  refine E_geti (i := 0) dX12_readsDesk_1 fl_RX12_304 rfl ?_
  refine E_if_eq (tgt := 13) dX12_readsDesk_4 (by decide) (fun hc => ?_) (fun hc => ?_)
  · have h := Eq.mp (if_pos hc) h
    refine E_aload_n dX12_readsDesk_13 rfl rfl ?_
    refine E_ic dX12_readsDesk_14 rfl ?_
    refine E_putz dX12_readsDesk_15 fl_RX12_304 rfl rfl rfl (by decide) ?_
    refine E_aload_n dX12_readsDesk_18 rfl rfl ?_
    refine E_callV (Y' := Y_X12_nextToken) (as := []) (st := []) dX12_readsDesk_19 lk_RX12_212 m_X12_nextToken (by decide) (Nat.le_refl _) (Nat.le_refl _) rfl rfl (Nat.le_of_ble_eq_true rfl) (s_X12_nextToken h) (fun r0 B0 σ_1 h => ?_)
    obtain ⟨rfl, rfl, h⟩ := h
    refine E_aload_n dX12_readsDesk_22 rfl rfl ?_
    refine E_ic dX12_readsDesk_23 rfl ?_
    refine E_bp dX12_readsDesk_24 rfl ?_
    refine E_callV (Y' := Y_X12_needsNumber) (as := [vI 1, vI 9]) (st := []) dX12_readsDesk_26 lk_RX12_274 m_X12_needsNumber (by decide) (Nat.le_refl _) (Nat.le_refl _) rfl rfl (Nat.le_of_ble_eq_true rfl) (s_X12_needsNumber h) (fun r0 B0 σ_2 h => ?_)
    obtain ⟨r_3, rfl, rfl, h⟩ := h
    refine E_if_ne (tgt := 34) dX12_readsDesk_29 (by decide) (fun hc => ?_) (fun hc => ?_)
    · have h := Eq.mp (if_neg hc) h
      refine E_aload_n dX12_readsDesk_34 rfl rfl ?_
      refine E_getr (i := 0) dX12_readsDesk_35 fl_RX12_13 rfl rfl (go_12_10 _ _) ?_
      refine E_bp dX12_readsDesk_38 rfl ?_
      refine E_aload_n dX12_readsDesk_40 rfl rfl ?_
      refine E_geti (i := 0) dX12_readsDesk_41 fl_RX12_268 rfl ?_
      refine E_iast dX12_readsDesk_44 sh_1310 (by decide) (by decide) ?_
      refine E_aload_n dX12_readsDesk_45 rfl rfl ?_
      refine E_callV (Y' := Y_X12_closes) (as := []) (st := []) dX12_readsDesk_46 lk_RX12_298 m_X12_closes (by decide) (Nat.le_refl _) (Nat.le_refl _) rfl rfl (Nat.le_of_ble_eq_true rfl) (s_X12_closes h) (fun r0 B0 σ_4 h => ?_)
      obtain ⟨r_5, rfl, rfl, h⟩ := h
      obtain ⟨hg0, h⟩ := h
      exact E_zret dX12_readsDesk_49 rfl hg0 ⟨_, rfl, rfl, h⟩
    · have h := Eq.mp (if_pos hc) h
      refine E_ic dX12_readsDesk_32 rfl ?_
      exact E_zret dX12_readsDesk_33 rfl (by decide) ⟨_, rfl, rfl, h⟩
  · have h := Eq.mp (if_neg hc) h
    refine E_aload_n dX12_readsDesk_7 rfl rfl ?_
    refine E_ic dX12_readsDesk_8 rfl ?_
    refine E_callV (Y' := Y_X12_fails) (as := [vI 3]) (st := []) dX12_readsDesk_9 lk_RX12_205 m_X12_fails (by decide) (Nat.le_refl _) (Nat.le_refl _) rfl rfl (Nat.le_of_ble_eq_true rfl) (s_X12_fails h) (fun r0 B0 σ_6 h => ?_)
    obtain ⟨r_7, rfl, rfl, h⟩ := h
    obtain ⟨hg0, h⟩ := h
    exact E_zret dX12_readsDesk_12 rfl hg0 ⟨_, rfl, rfl, h⟩
abbrev Y_X12_readsDamp : My := (yX12_readsDamp, cX12_readsDamp, 1, some .boolean)
theorem dX12_readsDamp_0 : decode cX12_readsDamp 0 = .ok (.aload_n 0, 1) := by decide +kernel
theorem dX12_readsDamp_1 : decode cX12_readsDamp 1 = .ok (.getfield 13, 3) := by decide +kernel
theorem dX12_readsDamp_4 : decode cX12_readsDamp 4 = .ok (.bipush 7, 2) := by decide +kernel
theorem dX12_readsDamp_6 : decode cX12_readsDamp 6 = .ok (.iaload, 1) := by decide +kernel
theorem dX12_readsDamp_7 : decode cX12_readsDamp 7 = .ok (.ifCond .le 9, 3) := by decide +kernel
theorem dX12_readsDamp_10 : decode cX12_readsDamp 10 = .ok (.aload_n 0, 1) := by decide +kernel
theorem dX12_readsDamp_11 : decode cX12_readsDamp 11 = .ok (.iconst 3, 1) := by decide +kernel
theorem dX12_readsDamp_12 : decode cX12_readsDamp 12 = .ok (.invokevirtual 205, 3) := by decide +kernel
theorem dX12_readsDamp_15 : decode cX12_readsDamp 15 = .ok (.ireturn, 1) := by decide +kernel
theorem dX12_readsDamp_16 : decode cX12_readsDamp 16 = .ok (.aload_n 0, 1) := by decide +kernel
theorem dX12_readsDamp_17 : decode cX12_readsDamp 17 = .ok (.invokevirtual 212, 3) := by decide +kernel
theorem dX12_readsDamp_20 : decode cX12_readsDamp 20 = .ok (.aload_n 0, 1) := by decide +kernel
theorem dX12_readsDamp_21 : decode cX12_readsDamp 21 = .ok (.getfield 13, 3) := by decide +kernel
theorem dX12_readsDamp_24 : decode cX12_readsDamp 24 = .ok (.bipush 7, 2) := by decide +kernel
theorem dX12_readsDamp_26 : decode cX12_readsDamp 26 = .ok (.iaload, 1) := by decide +kernel
theorem dX12_readsDamp_27 : decode cX12_readsDamp 27 = .ok (.ifCond .eq 11, 3) := by decide +kernel
theorem dX12_readsDamp_30 : decode cX12_readsDamp 30 = .ok (.aload_n 0, 1) := by decide +kernel
theorem dX12_readsDamp_31 : decode cX12_readsDamp 31 = .ok (.getfield 166, 3) := by decide +kernel
theorem dX12_readsDamp_34 : decode cX12_readsDamp 34 = .ok (.iconst 2, 1) := by decide +kernel
theorem dX12_readsDamp_35 : decode cX12_readsDamp 35 = .ok (.if_icmp .ne 87, 3) := by decide +kernel
theorem dX12_readsDamp_38 : decode cX12_readsDamp 38 = .ok (.aload_n 0, 1) := by decide +kernel
theorem dX12_readsDamp_39 : decode cX12_readsDamp 39 = .ok (.getfield 166, 3) := by decide +kernel
theorem dX12_readsDamp_42 : decode cX12_readsDamp 42 = .ok (.iconst 2, 1) := by decide +kernel
theorem dX12_readsDamp_43 : decode cX12_readsDamp 43 = .ok (.if_icmp .eq 9, 3) := by decide +kernel
theorem dX12_readsDamp_46 : decode cX12_readsDamp 46 = .ok (.aload_n 0, 1) := by decide +kernel
theorem dX12_readsDamp_47 : decode cX12_readsDamp 47 = .ok (.iconst 1, 1) := by decide +kernel
theorem dX12_readsDamp_48 : decode cX12_readsDamp 48 = .ok (.invokevirtual 205, 3) := by decide +kernel
theorem dX12_readsDamp_51 : decode cX12_readsDamp 51 = .ok (.ireturn, 1) := by decide +kernel
theorem dX12_readsDamp_52 : decode cX12_readsDamp 52 = .ok (.aload_n 0, 1) := by decide +kernel
theorem dX12_readsDamp_53 : decode cX12_readsDamp 53 = .ok (.getfield 163, 3) := by decide +kernel
theorem dX12_readsDamp_56 : decode cX12_readsDamp 56 = .ok (.bipush 9, 2) := by decide +kernel
theorem dX12_readsDamp_58 : decode cX12_readsDamp 58 = .ok (.if_icmp .le 9, 3) := by decide +kernel
theorem dX12_readsDamp_61 : decode cX12_readsDamp 61 = .ok (.aload_n 0, 1) := by decide +kernel
theorem dX12_readsDamp_62 : decode cX12_readsDamp 62 = .ok (.iconst 4, 1) := by decide +kernel
theorem dX12_readsDamp_63 : decode cX12_readsDamp 63 = .ok (.invokevirtual 205, 3) := by decide +kernel
theorem dX12_readsDamp_66 : decode cX12_readsDamp 66 = .ok (.ireturn, 1) := by decide +kernel
theorem dX12_readsDamp_67 : decode cX12_readsDamp 67 = .ok (.aload_n 0, 1) := by decide +kernel
theorem dX12_readsDamp_68 : decode cX12_readsDamp 68 = .ok (.getfield 13, 3) := by decide +kernel
theorem dX12_readsDamp_71 : decode cX12_readsDamp 71 = .ok (.bipush 7, 2) := by decide +kernel
theorem dX12_readsDamp_73 : decode cX12_readsDamp 73 = .ok (.iaload, 1) := by decide +kernel
theorem dX12_readsDamp_74 : decode cX12_readsDamp 74 = .ok (.bipush 12, 2) := by decide +kernel
theorem dX12_readsDamp_76 : decode cX12_readsDamp 76 = .ok (.if_icmp .ne 9, 3) := by decide +kernel
theorem dX12_readsDamp_79 : decode cX12_readsDamp 79 = .ok (.aload_n 0, 1) := by decide +kernel
theorem dX12_readsDamp_80 : decode cX12_readsDamp 80 = .ok (.iconst 5, 1) := by decide +kernel
theorem dX12_readsDamp_81 : decode cX12_readsDamp 81 = .ok (.invokevirtual 205, 3) := by decide +kernel
theorem dX12_readsDamp_84 : decode cX12_readsDamp 84 = .ok (.ireturn, 1) := by decide +kernel
theorem dX12_readsDamp_85 : decode cX12_readsDamp 85 = .ok (.aload_n 0, 1) := by decide +kernel
theorem dX12_readsDamp_86 : decode cX12_readsDamp 86 = .ok (.getfield 38, 3) := by decide +kernel
theorem dX12_readsDamp_89 : decode cX12_readsDamp 89 = .ok (.bipush 12, 2) := by decide +kernel
theorem dX12_readsDamp_91 : decode cX12_readsDamp 91 = .ok (.aload_n 0, 1) := by decide +kernel
theorem dX12_readsDamp_92 : decode cX12_readsDamp 92 = .ok (.getfield 13, 3) := by decide +kernel
theorem dX12_readsDamp_95 : decode cX12_readsDamp 95 = .ok (.bipush 7, 2) := by decide +kernel
theorem dX12_readsDamp_97 : decode cX12_readsDamp 97 = .ok (.iaload, 1) := by decide +kernel
theorem dX12_readsDamp_98 : decode cX12_readsDamp 98 = .ok (.iadd, 1) := by decide +kernel
theorem dX12_readsDamp_99 : decode cX12_readsDamp 99 = .ok (.aload_n 0, 1) := by decide +kernel
theorem dX12_readsDamp_100 : decode cX12_readsDamp 100 = .ok (.getfield 163, 3) := by decide +kernel
theorem dX12_readsDamp_103 : decode cX12_readsDamp 103 = .ok (.iastore, 1) := by decide +kernel
theorem dX12_readsDamp_104 : decode cX12_readsDamp 104 = .ok (.aload_n 0, 1) := by decide +kernel
theorem dX12_readsDamp_105 : decode cX12_readsDamp 105 = .ok (.getfield 13, 3) := by decide +kernel
theorem dX12_readsDamp_108 : decode cX12_readsDamp 108 = .ok (.bipush 7, 2) := by decide +kernel
theorem dX12_readsDamp_110 : decode cX12_readsDamp 110 = .ok (.dup2, 1) := by decide +kernel
theorem dX12_readsDamp_111 : decode cX12_readsDamp 111 = .ok (.iaload, 1) := by decide +kernel
theorem dX12_readsDamp_112 : decode cX12_readsDamp 112 = .ok (.iconst 1, 1) := by decide +kernel
theorem dX12_readsDamp_113 : decode cX12_readsDamp 113 = .ok (.iadd, 1) := by decide +kernel
theorem dX12_readsDamp_114 : decode cX12_readsDamp 114 = .ok (.iastore, 1) := by decide +kernel
theorem dX12_readsDamp_115 : decode cX12_readsDamp 115 = .ok (.aload_n 0, 1) := by decide +kernel
theorem dX12_readsDamp_116 : decode cX12_readsDamp 116 = .ok (.invokevirtual 212, 3) := by decide +kernel
theorem dX12_readsDamp_119 : decode cX12_readsDamp 119 = .ok (.goto (-99), 3) := by decide +kernel
theorem dX12_readsDamp_122 : decode cX12_readsDamp 122 = .ok (.aload_n 0, 1) := by decide +kernel
theorem dX12_readsDamp_123 : decode cX12_readsDamp 123 = .ok (.invokevirtual 298, 3) := by decide +kernel
theorem dX12_readsDamp_126 : decode cX12_readsDamp 126 = .ok (.ireturn, 1) := by decide +kernel
theorem fl_RX12_38 : FL RX12 38 12 18 := ⟨inG (i := 1418) (by decide +kernel) (by decide +kernel), by decide, by decide⟩
theorem go_12_18 (σ : St) (i : Nat) : go σ 12 i 18 = (1318, i) := rfl
theorem sh_1318 : shp 1318 = (0, 24) := rfl
def P_X12_readsDamp_J38   (R : St → Prop) (K0 : St → Prop) (K1 : St → Prop) (K2 : St → Prop) (K3 : St → Prop) (Q : Int → St → Prop) (σ : St) : Prop :=
  (if (σ 12 0 6) = 2 then (if (σ 12 0 8) ≤ 9 then (if (σ 1310 0 7) = 12 then K3 σ else 0 ≤ wi (12 + (σ 1310 0 7)) ∧ wi (12 + (σ 1310 0 7)) < 24 ∧ P_X12_nextToken (up (up σ 1318 0 (wi (12 + (σ 1310 0 7))) (σ 12 0 8)) 1310 0 7 (wi (((up σ 1318 0 (wi (12 + (σ 1310 0 7))) (σ 12 0 8)) 1310 0 7) + 1))) (fun σ_2 => R σ_2)) else K2 σ) else K1 σ)
set_option maxRecDepth 20000 in
set_option maxHeartbeats 2000000 in
theorem e_P_X12_readsDamp_J38   {R : St → Prop} {K0 : St → Prop} {K1 : St → Prop} {K2 : St → Prop} {K3 : St → Prop} {Q : Int → St → Prop} {σ : St}  (hR : ∀ σ, R σ → E Y_X12_readsDamp 3 0 0 (QI Q) ww 0 0 20 [some (vR 12 0)] [] σ) (hK0 : ∀ σ, K0 σ → E Y_X12_readsDamp 3 0 0 (QI Q) ww 0 0 122 [some (vR 12 0)] [] σ) (hK1 : ∀ σ, K1 σ → E Y_X12_readsDamp 3 0 0 (QI Q) ww 0 0 46 [some (vR 12 0)] [] σ) (hK2 : ∀ σ, K2 σ → E Y_X12_readsDamp 3 0 0 (QI Q) ww 0 0 61 [some (vR 12 0)] [] σ) (hK3 : ∀ σ, K3 σ → E Y_X12_readsDamp 3 0 0 (QI Q) ww 0 0 79 [some (vR 12 0)] [] σ) (h : P_X12_readsDamp_J38 R K0 K1 K2 K3 Q σ) : E Y_X12_readsDamp 3 0 0 (QI Q) ww 0 0 38 [some (vR 12 0)] [] σ := by
  unfold P_X12_readsDamp_J38 at h
  refine E_aload_n dX12_readsDamp_38 rfl rfl ?_
  refine E_geti (i := 0) dX12_readsDamp_39 fl_RX12_166 rfl ?_
  refine E_ic dX12_readsDamp_42 rfl ?_
  refine E_icmp_eq (tgt := 52) dX12_readsDamp_43 (by decide) (fun hc => ?_) (fun hc => ?_)
  · have h := Eq.mp (if_pos hc) h
    refine E_aload_n dX12_readsDamp_52 rfl rfl ?_
    refine E_geti (i := 0) dX12_readsDamp_53 fl_RX12_163 rfl ?_
    refine E_bp dX12_readsDamp_56 rfl ?_
    refine E_icmp_le (tgt := 67) dX12_readsDamp_58 (by decide) (fun hc => ?_) (fun hc => ?_)
    · have h := Eq.mp (if_pos hc) h
      refine E_aload_n dX12_readsDamp_67 rfl rfl ?_
      refine E_getr (i := 0) dX12_readsDamp_68 fl_RX12_13 rfl rfl (go_12_10 _ _) ?_
      refine E_bp dX12_readsDamp_71 rfl ?_
      refine E_iald dX12_readsDamp_73 sh_1310 (by decide) (by decide) ?_
      refine E_bp dX12_readsDamp_74 rfl ?_
      refine E_icmp_ne (tgt := 85) dX12_readsDamp_76 (by decide) (fun hc => ?_) (fun hc => ?_)
      · have h := Eq.mp (if_neg hc) h
        refine E_aload_n dX12_readsDamp_85 rfl rfl ?_
        refine E_getr (i := 0) dX12_readsDamp_86 fl_RX12_38 rfl rfl (go_12_18 _ _) ?_
        refine E_bp dX12_readsDamp_89 rfl ?_
        refine E_aload_n dX12_readsDamp_91 rfl rfl ?_
        refine E_getr (i := 0) dX12_readsDamp_92 fl_RX12_13 rfl rfl (go_12_10 _ _) ?_
        refine E_bp dX12_readsDamp_95 rfl ?_
        refine E_iald dX12_readsDamp_97 sh_1310 (by decide) (by decide) ?_
        refine E_iadd dX12_readsDamp_98 ?_
        refine E_aload_n dX12_readsDamp_99 rfl rfl ?_
        refine E_geti (i := 0) dX12_readsDamp_100 fl_RX12_163 rfl ?_
        obtain ⟨hg0, hg1, h⟩ := h
        refine E_iast dX12_readsDamp_103 sh_1318 hg0 hg1 ?_
        refine E_aload_n dX12_readsDamp_104 rfl rfl ?_
        refine E_getr (i := 0) dX12_readsDamp_105 fl_RX12_13 rfl rfl (go_12_10 _ _) ?_
        refine E_bp dX12_readsDamp_108 rfl ?_
        refine E_dup2 dX12_readsDamp_110 (fun _ q => by cases q) (fun _ q => by cases q) ?_
        refine E_iald dX12_readsDamp_111 sh_1310 (by decide) (by decide) ?_
        refine E_ic dX12_readsDamp_112 rfl ?_
        refine E_iadd dX12_readsDamp_113 ?_
        refine E_iast dX12_readsDamp_114 sh_1310 (by decide) (by decide) ?_
        refine E_aload_n dX12_readsDamp_115 rfl rfl ?_
        refine E_callV (Y' := Y_X12_nextToken) (as := []) (st := []) dX12_readsDamp_116 lk_RX12_212 m_X12_nextToken (by decide) (Nat.le_refl _) (Nat.le_refl _) rfl rfl (Nat.le_of_ble_eq_true rfl) (s_X12_nextToken h) (fun r0 B0 σ_2 h => ?_)
        obtain ⟨rfl, rfl, h⟩ := h
        refine E_goto (tgt := 20) dX12_readsDamp_119 (by decide) ?_
        exact hR _ h
      · have h := Eq.mp (if_pos hc) h
        exact hK3 _ h
    · have h := Eq.mp (if_neg hc) h
      exact hK2 _ h
  · have h := Eq.mp (if_neg hc) h
    exact hK1 _ h
def P_X12_readsDamp_L20   (K0 : St → Prop) (K1 : St → Prop) (K2 : St → Prop) (K3 : St → Prop) (Q : Int → St → Prop) : Nat → St → Prop
  | 0, _ => False
  | n + 1, σ => (if (σ 1310 0 7) = 0 then P_X12_readsDamp_J38 (P_X12_readsDamp_L20 K0 K1 K2 K3 Q n) K0 K1 K2 K3 Q σ else (if (σ 12 0 6) = 2 then P_X12_readsDamp_J38 (P_X12_readsDamp_L20 K0 K1 K2 K3 Q n) K0 K1 K2 K3 Q σ else K0 σ))
set_option maxRecDepth 20000 in
set_option maxHeartbeats 2000000 in
theorem e_P_X12_readsDamp_L20   {K0 : St → Prop} {K1 : St → Prop} {K2 : St → Prop} {K3 : St → Prop} {Q : Int → St → Prop}  (hK0 : ∀ σ, K0 σ → E Y_X12_readsDamp 3 0 0 (QI Q) ww 0 0 122 [some (vR 12 0)] [] σ) (hK1 : ∀ σ, K1 σ → E Y_X12_readsDamp 3 0 0 (QI Q) ww 0 0 46 [some (vR 12 0)] [] σ) (hK2 : ∀ σ, K2 σ → E Y_X12_readsDamp 3 0 0 (QI Q) ww 0 0 61 [some (vR 12 0)] [] σ) (hK3 : ∀ σ, K3 σ → E Y_X12_readsDamp 3 0 0 (QI Q) ww 0 0 79 [some (vR 12 0)] [] σ) : ∀ (n : Nat) (σ : St), P_X12_readsDamp_L20 K0 K1 K2 K3 Q n  σ → E Y_X12_readsDamp 3 0 0 (QI Q) ww 0 0 20 [some (vR 12 0)] [] σ := by
  intro n
  induction n with
  | zero => intro  σ h; exact h.elim
  | succ n hR =>
    intro  σ h
    unfold P_X12_readsDamp_L20 at h
    refine E_aload_n dX12_readsDamp_20 rfl rfl ?_
    refine E_getr (i := 0) dX12_readsDamp_21 fl_RX12_13 rfl rfl (go_12_10 _ _) ?_
    refine E_bp dX12_readsDamp_24 rfl ?_
    refine E_iald dX12_readsDamp_26 sh_1310 (by decide) (by decide) ?_
    refine E_if_eq (tgt := 38) dX12_readsDamp_27 (by decide) (fun hc => ?_) (fun hc => ?_)
    · have h := Eq.mp (if_pos hc) h
      exact e_P_X12_readsDamp_J38 hR hK0 hK1 hK2 hK3 h
    · have h := Eq.mp (if_neg hc) h
      refine E_aload_n dX12_readsDamp_30 rfl rfl ?_
      refine E_geti (i := 0) dX12_readsDamp_31 fl_RX12_166 rfl ?_
      refine E_ic dX12_readsDamp_34 rfl ?_
      refine E_icmp_ne (tgt := 122) dX12_readsDamp_35 (by decide) (fun hc => ?_) (fun hc => ?_)
      · have h := Eq.mp (if_neg hc) h
        exact hK0 _ h
      · have h := Eq.mp (if_pos hc) h
        exact e_P_X12_readsDamp_J38 hR hK0 hK1 hK2 hK3 h
def P_X12_readsDamp   (σ : St) (Q : Int → St → Prop) : Prop :=
  (if (σ 1310 0 7) ≤ 0 then P_X12_nextToken σ (fun σ_1 => P_X12_readsDamp_L20 (fun σ_3 => P_X12_closes σ_3 (fun r_5 σ_4 => (r_5 = 0 ∨ r_5 = 1) ∧ Q r_5 σ_4)) (fun σ_6 => P_X12_fails 1 σ_6 (fun r_8 σ_7 => (r_8 = 0 ∨ r_8 = 1) ∧ Q r_8 σ_7)) (fun σ_9 => P_X12_fails 4 σ_9 (fun r_11 σ_10 => (r_11 = 0 ∨ r_11 = 1) ∧ Q r_11 σ_10)) (fun σ_12 => P_X12_fails 5 σ_12 (fun r_14 σ_13 => (r_14 = 0 ∨ r_14 = 1) ∧ Q r_14 σ_13)) Q FU σ_1) else P_X12_fails 3 σ (fun r_16 σ_15 => (r_16 = 0 ∨ r_16 = 1) ∧ Q r_16 σ_15))
set_option maxRecDepth 20000 in
set_option maxHeartbeats 2000000 in
theorem s_X12_readsDamp    {σ : St} {Q : Int → St → Prop} (h : P_X12_readsDamp  σ Q) : Cn Y_X12_readsDamp 3 0 0 ww σ [vR 12 0] (QI Q) := by
  refine Cn_of [some (vR 12 0)] (by decide) (Nat.le_of_ble_eq_true rfl) rfl ?_
  unfold P_X12_readsDamp at h
  refine E_aload_n dX12_readsDamp_0 rfl rfl ?_
  refine E_getr (i := 0) dX12_readsDamp_1 fl_RX12_13 rfl rfl (go_12_10 _ _) ?_
  refine E_bp dX12_readsDamp_4 rfl ?_
  refine E_iald dX12_readsDamp_6 sh_1310 (by decide) (by decide) ?_
  refine E_if_le (tgt := 16) dX12_readsDamp_7 (by decide) (fun hc => ?_) (fun hc => ?_)
  · have h := Eq.mp (if_pos hc) h
    refine E_aload_n dX12_readsDamp_16 rfl rfl ?_
    refine E_callV (Y' := Y_X12_nextToken) (as := []) (st := []) dX12_readsDamp_17 lk_RX12_212 m_X12_nextToken (by decide) (Nat.le_refl _) (Nat.le_refl _) rfl rfl (Nat.le_of_ble_eq_true rfl) (s_X12_nextToken h) (fun r0 B0 σ_1 h => ?_)
    obtain ⟨rfl, rfl, h⟩ := h
    refine e_P_X12_readsDamp_L20 ?_ ?_ ?_ ?_ _ _ h
    · intro σ_3 h
      refine E_aload_n dX12_readsDamp_122 rfl rfl ?_
      refine E_callV (Y' := Y_X12_closes) (as := []) (st := []) dX12_readsDamp_123 lk_RX12_298 m_X12_closes (by decide) (Nat.le_refl _) (Nat.le_refl _) rfl rfl (Nat.le_of_ble_eq_true rfl) (s_X12_closes h) (fun r0 B0 σ_4 h => ?_)
      obtain ⟨r_5, rfl, rfl, h⟩ := h
      obtain ⟨hg0, h⟩ := h
      exact E_zret dX12_readsDamp_126 rfl hg0 ⟨_, rfl, rfl, h⟩
    · intro σ_6 h
      refine E_aload_n dX12_readsDamp_46 rfl rfl ?_
      refine E_ic dX12_readsDamp_47 rfl ?_
      refine E_callV (Y' := Y_X12_fails) (as := [vI 1]) (st := []) dX12_readsDamp_48 lk_RX12_205 m_X12_fails (by decide) (Nat.le_refl _) (Nat.le_refl _) rfl rfl (Nat.le_of_ble_eq_true rfl) (s_X12_fails h) (fun r0 B0 σ_7 h => ?_)
      obtain ⟨r_8, rfl, rfl, h⟩ := h
      obtain ⟨hg0, h⟩ := h
      exact E_zret dX12_readsDamp_51 rfl hg0 ⟨_, rfl, rfl, h⟩
    · intro σ_9 h
      refine E_aload_n dX12_readsDamp_61 rfl rfl ?_
      refine E_ic dX12_readsDamp_62 rfl ?_
      refine E_callV (Y' := Y_X12_fails) (as := [vI 4]) (st := []) dX12_readsDamp_63 lk_RX12_205 m_X12_fails (by decide) (Nat.le_refl _) (Nat.le_refl _) rfl rfl (Nat.le_of_ble_eq_true rfl) (s_X12_fails h) (fun r0 B0 σ_10 h => ?_)
      obtain ⟨r_11, rfl, rfl, h⟩ := h
      obtain ⟨hg0, h⟩ := h
      exact E_zret dX12_readsDamp_66 rfl hg0 ⟨_, rfl, rfl, h⟩
    · intro σ_12 h
      refine E_aload_n dX12_readsDamp_79 rfl rfl ?_
      refine E_ic dX12_readsDamp_80 rfl ?_
      refine E_callV (Y' := Y_X12_fails) (as := [vI 5]) (st := []) dX12_readsDamp_81 lk_RX12_205 m_X12_fails (by decide) (Nat.le_refl _) (Nat.le_refl _) rfl rfl (Nat.le_of_ble_eq_true rfl) (s_X12_fails h) (fun r0 B0 σ_13 h => ?_)
      obtain ⟨r_14, rfl, rfl, h⟩ := h
      obtain ⟨hg0, h⟩ := h
      exact E_zret dX12_readsDamp_84 rfl hg0 ⟨_, rfl, rfl, h⟩
  · have h := Eq.mp (if_neg hc) h
    refine E_aload_n dX12_readsDamp_10 rfl rfl ?_
    refine E_ic dX12_readsDamp_11 rfl ?_
    refine E_callV (Y' := Y_X12_fails) (as := [vI 3]) (st := []) dX12_readsDamp_12 lk_RX12_205 m_X12_fails (by decide) (Nat.le_refl _) (Nat.le_refl _) rfl rfl (Nat.le_of_ble_eq_true rfl) (s_X12_fails h) (fun r0 B0 σ_15 h => ?_)
    obtain ⟨r_16, rfl, rfl, h⟩ := h
    obtain ⟨hg0, h⟩ := h
    exact E_zret dX12_readsDamp_15 rfl hg0 ⟨_, rfl, rfl, h⟩
