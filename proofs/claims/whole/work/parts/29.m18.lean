abbrev Y_X11_shave : My := (yX11_shave, cX11_shave, 2, some .int)
theorem dX11_shave_0 : decode cX11_shave 0 = .ok (.aload_n 0, 1) := by decide +kernel
theorem dX11_shave_1 : decode cX11_shave 1 = .ok (.getfield 19, 3) := by decide +kernel
theorem dX11_shave_4 : decode cX11_shave 4 = .ok (.iload_n 1, 1) := by decide +kernel
theorem dX11_shave_5 : decode cX11_shave 5 = .ok (.invokevirtual 142, 3) := by decide +kernel
theorem dX11_shave_8 : decode cX11_shave 8 = .ok (.ifCond .eq 14, 3) := by decide +kernel
theorem dX11_shave_11 : decode cX11_shave 11 = .ok (.aload_n 0, 1) := by decide +kernel
theorem dX11_shave_12 : decode cX11_shave 12 = .ok (.getfield 89, 3) := by decide +kernel
theorem dX11_shave_15 : decode cX11_shave 15 = .ok (.iload_n 1, 1) := by decide +kernel
theorem dX11_shave_16 : decode cX11_shave 16 = .ok (.invokevirtual 232, 3) := by decide +kernel
theorem dX11_shave_19 : decode cX11_shave 19 = .ok (.goto 4, 3) := by decide +kernel
theorem dX11_shave_22 : decode cX11_shave 22 = .ok (.iconst (-1), 1) := by decide +kernel
theorem dX11_shave_23 : decode cX11_shave 23 = .ok (.ireturn, 1) := by decide +kernel
theorem lk_RX11_232 : Cond.methodLink RX11 232 yX1_leastChange ∈ tG := inG (i := 1108) (by decide +kernel) (by decide +kernel)
theorem m_X1_leastChange : MV Y_X1_leastChange 1 1 := ⟨⟨inG (i := 1111) (by decide +kernel) (by decide +kernel), inG (i := 108) (by decide +kernel) (by decide +kernel), by decide, by decide, by decide, by decide +kernel⟩, inG (i := 1109) (by decide +kernel) (by decide +kernel), inG (i := 1110) (by decide +kernel) (by decide +kernel), by decide⟩
def P_X11_shave (x1 : Int) (σ : St) (Q : Int → St → Prop) : Prop :=
  P_X8_hasBall 0 x1 σ (fun r_2 σ_1 => (if r_2 = 0 then Q (-1) σ_1 else P_X1_leastChange x1 σ_1 (fun r_4 σ_3 => Q r_4 σ_3)))
set_option maxRecDepth 20000 in
set_option maxHeartbeats 2000000 in
theorem s_X11_shave {x1 : Int} {σ : St} {Q : Int → St → Prop} (h : P_X11_shave x1 σ Q) : Cn Y_X11_shave 3 0 0 ww σ [vR 11 0, vI x1] (QI Q) := by
  refine Cn_of [some (vR 11 0), some (vI x1)] (by decide) (Nat.le_of_ble_eq_true rfl) rfl ?_
  unfold P_X11_shave at h
  refine E_aload_n dX11_shave_0 rfl rfl ?_
  refine E_getr (i := 0) dX11_shave_1 fl_RX11_19 rfl rfl (go_11_1 _ _) ?_
  refine E_iload_n dX11_shave_4 rfl rfl ?_
  refine E_callV (Y' := Y_X8_hasBall) (as := [vI x1]) (st := []) dX11_shave_5 lk_RX11_142 m_X8_hasBall (by decide) (Nat.le_refl _) (Nat.le_refl _) rfl rfl (Nat.le_of_ble_eq_true rfl) (s_X8_hasBall h) (fun r0 B0 σ_1 h => ?_)
  obtain ⟨r_2, rfl, rfl, h⟩ := h
  refine E_if_eq (tgt := 22) dX11_shave_8 (by decide) (fun hc => ?_) (fun hc => ?_)
  · have h := Eq.mp (if_pos hc) h
    refine E_ic dX11_shave_22 rfl ?_
    exact E_iret dX11_shave_23 rfl ⟨_, rfl, rfl, h⟩
  · have h := Eq.mp (if_neg hc) h
    refine E_aload_n dX11_shave_11 rfl rfl ?_
    refine E_getr (i := 0) dX11_shave_12 fl_RX11_89 rfl rfl (go_11_12 _ _) ?_
    refine E_iload_n dX11_shave_15 rfl rfl ?_
    refine E_callV (Y' := Y_X1_leastChange) (as := [vI x1]) (st := []) dX11_shave_16 lk_RX11_232 m_X1_leastChange (by decide) (Nat.le_refl _) (Nat.le_refl _) rfl rfl (Nat.le_of_ble_eq_true rfl) (s_X1_leastChange h) (fun r0 B0 σ_3 h => ?_)
    obtain ⟨r_4, rfl, rfl, h⟩ := h
    refine E_goto (tgt := 23) dX11_shave_19 (by decide) ?_
    exact E_iret dX11_shave_23 rfl ⟨_, rfl, rfl, h⟩
abbrev Y_X0_look : My := (yX0_look, cX0_look, 5, none)
theorem dX0_look_0 : decode cX0_look 0 = .ok (.aload_n 0, 1) := by decide +kernel
theorem dX0_look_1 : decode cX0_look 1 = .ok (.getfield 11, 3) := by decide +kernel
theorem dX0_look_4 : decode cX0_look 4 = .ok (.iload_n 1, 1) := by decide +kernel
theorem dX0_look_5 : decode cX0_look 5 = .ok (.aaload, 1) := by decide +kernel
theorem dX0_look_6 : decode cX0_look 6 = .ok (.astore_n 3, 1) := by decide +kernel
theorem dX0_look_7 : decode cX0_look 7 = .ok (.aload_n 3, 1) := by decide +kernel
theorem dX0_look_8 : decode cX0_look 8 = .ok (.iconst 0, 1) := by decide +kernel
theorem dX0_look_9 : decode cX0_look 9 = .ok (.aload_n 0, 1) := by decide +kernel
theorem dX0_look_10 : decode cX0_look 10 = .ok (.getfield 20, 3) := by decide +kernel
theorem dX0_look_13 : decode cX0_look 13 = .ok (.getfield 24, 3) := by decide +kernel
theorem dX0_look_16 : decode cX0_look 16 = .ok (.iload_n 1, 1) := by decide +kernel
theorem dX0_look_17 : decode cX0_look 17 = .ok (.iaload, 1) := by decide +kernel
theorem dX0_look_18 : decode cX0_look 18 = .ok (.iastore, 1) := by decide +kernel
theorem dX0_look_19 : decode cX0_look 19 = .ok (.iconst 0, 1) := by decide +kernel
theorem dX0_look_20 : decode cX0_look 20 = .ok (.istore 4, 2) := by decide +kernel
theorem dX0_look_22 : decode cX0_look 22 = .ok (.iload 4, 2) := by decide +kernel
theorem dX0_look_24 : decode cX0_look 24 = .ok (.iload_n 2, 1) := by decide +kernel
theorem dX0_look_25 : decode cX0_look 25 = .ok (.if_icmp .ge 50, 3) := by decide +kernel
theorem dX0_look_28 : decode cX0_look 28 = .ok (.iload 4, 2) := by decide +kernel
theorem dX0_look_30 : decode cX0_look 30 = .ok (.bipush 60, 2) := by decide +kernel
theorem dX0_look_32 : decode cX0_look 32 = .ok (.if_icmp .ge 43, 3) := by decide +kernel
theorem dX0_look_35 : decode cX0_look 35 = .ok (.aload_n 3, 1) := by decide +kernel
theorem dX0_look_36 : decode cX0_look 36 = .ok (.iload 4, 2) := by decide +kernel
theorem dX0_look_38 : decode cX0_look 38 = .ok (.iconst 1, 1) := by decide +kernel
theorem dX0_look_39 : decode cX0_look 39 = .ok (.iadd, 1) := by decide +kernel
theorem dX0_look_40 : decode cX0_look 40 = .ok (.aload_n 0, 1) := by decide +kernel
theorem dX0_look_41 : decode cX0_look 41 = .ok (.iload_n 1, 1) := by decide +kernel
theorem dX0_look_42 : decode cX0_look 42 = .ok (.aload_n 3, 1) := by decide +kernel
theorem dX0_look_43 : decode cX0_look 43 = .ok (.iload 4, 2) := by decide +kernel
theorem dX0_look_45 : decode cX0_look 45 = .ok (.iaload, 1) := by decide +kernel
theorem dX0_look_46 : decode cX0_look 46 = .ok (.iload 4, 2) := by decide +kernel
theorem dX0_look_48 : decode cX0_look 48 = .ok (.aload_n 0, 1) := by decide +kernel
theorem dX0_look_49 : decode cX0_look 49 = .ok (.getfield 16, 3) := by decide +kernel
theorem dX0_look_52 : decode cX0_look 52 = .ok (.aload_n 0, 1) := by decide +kernel
theorem dX0_look_53 : decode cX0_look 53 = .ok (.getfield 20, 3) := by decide +kernel
theorem dX0_look_56 : decode cX0_look 56 = .ok (.getfield 29, 3) := by decide +kernel
theorem dX0_look_59 : decode cX0_look 59 = .ok (.iload 4, 2) := by decide +kernel
theorem dX0_look_61 : decode cX0_look 61 = .ok (.iadd, 1) := by decide +kernel
theorem dX0_look_62 : decode cX0_look 62 = .ok (.invokevirtual 33, 3) := by decide +kernel
theorem dX0_look_65 : decode cX0_look 65 = .ok (.invokevirtual 39, 3) := by decide +kernel
theorem dX0_look_68 : decode cX0_look 68 = .ok (.iastore, 1) := by decide +kernel
theorem dX0_look_69 : decode cX0_look 69 = .ok (.iinc 4 1, 3) := by decide +kernel
theorem dX0_look_72 : decode cX0_look 72 = .ok (.goto (-50), 3) := by decide +kernel
theorem dX0_look_75 : decode cX0_look 75 = .ok (.return_, 1) := by decide +kernel
theorem fl_RX0_24 : FL RX0 24 9 2 := ⟨inG (i := 309) (by decide +kernel) (by decide +kernel), by decide, by decide⟩
theorem lk_RX0_33 : Cond.methodLink RX0 33 yX8_dampOn ∈ tG := inG (i := 1181) (by decide +kernel) (by decide +kernel)
theorem lk_RX0_39 : Cond.methodLink RX0 39 yX0_sizeNext ∈ tG := inG (i := 1182) (by decide +kernel) (by decide +kernel)
theorem m_X0_sizeNext : MV Y_X0_sizeNext 4 0 := ⟨⟨inG (i := 1185) (by decide +kernel) (by decide +kernel), inG (i := 107) (by decide +kernel) (by decide +kernel), by decide, by decide, by decide, by decide +kernel⟩, inG (i := 1184) (by decide +kernel) (by decide +kernel), inG (i := 26) (by decide +kernel) (by decide +kernel), by decide⟩
def P_X0_look_L22 (x1 : Int) (x2 : Int) (o3 : Nat)  (Q : St → Prop) : Nat → Int → St → Prop
  | 0, _, _ => False
  | n + 1, x4, σ => (if x2 ≤ x4 then Q σ else (if 60 ≤ x4 then Q σ else 0 ≤ x4 ∧ x4 < 61 ∧ P_X8_dampOn 0 (wi ((σ 9 0 10) + x4)) σ (fun r_2 σ_1 => P_X0_sizeNext x1 (σ 152 o3 x4) x4 r_2 σ_1 (fun r_4 σ_3 => 0 ≤ wi (x4 + 1) ∧ wi (x4 + 1) < 61 ∧ (P_X0_look_L22 x1 x2 o3 Q n) (wi (x4 + 1)) (up σ_3 152 o3 (wi (x4 + 1)) r_4)))))
set_option maxRecDepth 20000 in
set_option maxHeartbeats 2000000 in
theorem e_P_X0_look_L22 {x1 : Int} {x2 : Int} {o3 : Nat}  {Q : St → Prop}  : ∀ (n : Nat) (x4 : Int) (σ : St), P_X0_look_L22 x1 x2 o3 Q n x4 σ → E Y_X0_look 4 0 0 (QV Q) ww 0 0 22 [some (vR 0 0), some (vI x1), some (vI x2), some (vR 152 o3), some (vI x4)] [] σ := by
  intro n
  induction n with
  | zero => intro x4 σ h; exact h.elim
  | succ n hR =>
    intro x4 σ h
    unfold P_X0_look_L22 at h
    refine E_iload dX0_look_22 rfl ?_
    refine E_iload_n dX0_look_24 rfl rfl ?_
    refine E_icmp_ge (tgt := 75) dX0_look_25 (by decide) (fun hc => ?_) (fun hc => ?_)
    · have h := Eq.mp (if_pos hc) h
      exact E_vret dX0_look_75 rfl ⟨rfl, rfl, h⟩
    · have h := Eq.mp (if_neg hc) h
      refine E_iload dX0_look_28 rfl ?_
      refine E_bp dX0_look_30 rfl ?_
      refine E_icmp_ge (tgt := 75) dX0_look_32 (by decide) (fun hc => ?_) (fun hc => ?_)
      · have h := Eq.mp (if_pos hc) h
        exact E_vret dX0_look_75 rfl ⟨rfl, rfl, h⟩
      · have h := Eq.mp (if_neg hc) h
        refine E_aload_n dX0_look_35 rfl rfl ?_
        refine E_iload dX0_look_36 rfl ?_
        refine E_ic dX0_look_38 rfl ?_
        refine E_iadd dX0_look_39 ?_
        refine E_aload_n dX0_look_40 rfl rfl ?_
        refine E_iload_n dX0_look_41 rfl rfl ?_
        refine E_aload_n dX0_look_42 rfl rfl ?_
        refine E_iload dX0_look_43 rfl ?_
        obtain ⟨hg0, hg1, h⟩ := h
        refine E_iald dX0_look_45 sh_152 hg0 hg1 ?_
        refine E_iload dX0_look_46 rfl ?_
        refine E_aload_n dX0_look_48 rfl rfl ?_
        refine E_getr (i := 0) dX0_look_49 fl_RX0_16 rfl rfl (go_0_0 _ _) ?_
        refine E_aload_n dX0_look_52 rfl rfl ?_
        refine E_getr (i := 0) dX0_look_53 fl_RX0_20 rfl rfl (go_0_1 _ _) ?_
        refine E_geti (i := 0) dX0_look_56 fl_RX0_29 rfl ?_
        refine E_iload dX0_look_59 rfl ?_
        refine E_iadd dX0_look_61 ?_
        refine E_callV (Y' := Y_X8_dampOn) (as := [vI (wi ((σ 9 0 10) + x4))]) (st := [vI x4, vI (σ 152 o3 x4), vI x1, vR 0 0, vI (wi (x4 + 1)), vR 152 o3]) dX0_look_62 lk_RX0_33 m_X8_dampOn (by decide) (Nat.le_refl _) (Nat.le_refl _) rfl rfl (Nat.le_of_ble_eq_true rfl) (s_X8_dampOn h) (fun r0 B0 σ_1 h => ?_)
        obtain ⟨r_2, rfl, rfl, h⟩ := h
        refine E_callV (Y' := Y_X0_sizeNext) (as := [vI x1, vI (σ 152 o3 x4), vI x4, vI r_2]) (st := [vI (wi (x4 + 1)), vR 152 o3]) dX0_look_65 lk_RX0_39 m_X0_sizeNext (by decide) (Nat.le_refl _) (Nat.le_refl _) rfl rfl (Nat.le_of_ble_eq_true rfl) (s_X0_sizeNext h) (fun r0 B0 σ_3 h => ?_)
        obtain ⟨r_4, rfl, rfl, h⟩ := h
        obtain ⟨hg0, hg1, h⟩ := h
        refine E_iast dX0_look_68 sh_152 hg0 hg1 ?_
        refine E_iinc (ls' := [some (vR 0 0), some (vI x1), some (vI x2), some (vR 152 o3), some (vI (wi (x4 + 1)))]) dX0_look_69 rfl (by decide) rfl rfl ?_
        refine E_goto (tgt := 22) dX0_look_72 (by decide) ?_
        exact hR _ _ h
def P_X0_look (x1 : Int) (x2 : Int) (σ : St) (Q : St → Prop) : Prop :=
  0 ≤ x1 ∧ x1 < 6 ∧ 0 ≤ x1 ∧ x1 < 6 ∧ P_X0_look_L22 x1 x2 x1.toNat Q FU 0 (up σ 152 x1.toNat 0 (σ 1002 0 x1))
set_option maxRecDepth 20000 in
set_option maxHeartbeats 2000000 in
theorem s_X0_look {x1 : Int} {x2 : Int} {σ : St} {Q : St → Prop} (h : P_X0_look x1 x2 σ Q) : Cn Y_X0_look 4 0 0 ww σ [vR 0 0, vI x1, vI x2] (QV Q) := by
  refine Cn_of [some (vR 0 0), some (vI x1), some (vI x2), none, none] (by decide) (Nat.le_of_ble_eq_true rfl) rfl ?_
  unfold P_X0_look at h
  refine E_aload_n dX0_look_0 rfl rfl ?_
  refine E_getr (i := 0) dX0_look_1 fl_RX0_11 rfl rfl (go_0_2 _ _) ?_
  refine E_iload_n dX0_look_4 rfl rfl ?_
  obtain ⟨hg0, hg1, h⟩ := h
  refine E_aald dX0_look_5 sh_102 (by decide) (by decide) hg0 hg1 rfl rfl ?_
  refine E_astore_n (ls' := [some (vR 0 0), some (vI x1), some (vI x2), some (vR 152 x1.toNat), none]) dX0_look_6 rfl (by decide) rfl ?_
  refine E_aload_n dX0_look_7 rfl rfl ?_
  refine E_ic dX0_look_8 rfl ?_
  refine E_aload_n dX0_look_9 rfl rfl ?_
  refine E_getr (i := 0) dX0_look_10 fl_RX0_20 rfl rfl (go_0_1 _ _) ?_
  refine E_getr (i := 0) dX0_look_13 fl_RX0_24 rfl rfl (go_9_2 _ _) ?_
  refine E_iload_n dX0_look_16 rfl rfl ?_
  obtain ⟨hg0, hg1, h⟩ := h
  refine E_iald dX0_look_17 sh_1002 hg0 hg1 ?_
  refine E_iast dX0_look_18 sh_152 (by decide) (by decide) ?_
  refine E_ic dX0_look_19 rfl ?_
  refine E_istore (ls' := [some (vR 0 0), some (vI x1), some (vI x2), some (vR 152 x1.toNat), some (vI 0)]) dX0_look_20 (by decide) rfl ?_
  refine e_P_X0_look_L22  _ _ _ h
abbrev Y_X0_firstAstray : My := (yX0_firstAstray, cX0_firstAstray, 3, some .int)
theorem dX0_firstAstray_0 : decode cX0_firstAstray 0 = .ok (.aload_n 0, 1) := by decide +kernel
theorem dX0_firstAstray_1 : decode cX0_firstAstray 1 = .ok (.iload_n 1, 1) := by decide +kernel
theorem dX0_firstAstray_2 : decode cX0_firstAstray 2 = .ok (.bipush 60, 2) := by decide +kernel
theorem dX0_firstAstray_4 : decode cX0_firstAstray 4 = .ok (.invokevirtual 57, 3) := by decide +kernel
theorem dX0_firstAstray_7 : decode cX0_firstAstray 7 = .ok (.iconst 0, 1) := by decide +kernel
theorem dX0_firstAstray_8 : decode cX0_firstAstray 8 = .ok (.istore_n 2, 1) := by decide +kernel
theorem dX0_firstAstray_9 : decode cX0_firstAstray 9 = .ok (.iload_n 2, 1) := by decide +kernel
theorem dX0_firstAstray_10 : decode cX0_firstAstray 10 = .ok (.bipush 60, 2) := by decide +kernel
theorem dX0_firstAstray_12 : decode cX0_firstAstray 12 = .ok (.if_icmp .gt 29, 3) := by decide +kernel
theorem dX0_firstAstray_15 : decode cX0_firstAstray 15 = .ok (.aload_n 0, 1) := by decide +kernel
theorem dX0_firstAstray_16 : decode cX0_firstAstray 16 = .ok (.iload_n 1, 1) := by decide +kernel
theorem dX0_firstAstray_17 : decode cX0_firstAstray 17 = .ok (.iload_n 2, 1) := by decide +kernel
theorem dX0_firstAstray_18 : decode cX0_firstAstray 18 = .ok (.invokevirtual 61, 3) := by decide +kernel
theorem dX0_firstAstray_21 : decode cX0_firstAstray 21 = .ok (.aload_n 0, 1) := by decide +kernel
theorem dX0_firstAstray_22 : decode cX0_firstAstray 22 = .ok (.getfield 16, 3) := by decide +kernel
theorem dX0_firstAstray_25 : decode cX0_firstAstray 25 = .ok (.getfield 65, 3) := by decide +kernel
theorem dX0_firstAstray_28 : decode cX0_firstAstray 28 = .ok (.iload_n 1, 1) := by decide +kernel
theorem dX0_firstAstray_29 : decode cX0_firstAstray 29 = .ok (.iaload, 1) := by decide +kernel
theorem dX0_firstAstray_30 : decode cX0_firstAstray 30 = .ok (.if_icmp .eq 5, 3) := by decide +kernel
theorem dX0_firstAstray_33 : decode cX0_firstAstray 33 = .ok (.iload_n 2, 1) := by decide +kernel
theorem dX0_firstAstray_34 : decode cX0_firstAstray 34 = .ok (.ireturn, 1) := by decide +kernel
theorem dX0_firstAstray_35 : decode cX0_firstAstray 35 = .ok (.iinc 2 1, 3) := by decide +kernel
theorem dX0_firstAstray_38 : decode cX0_firstAstray 38 = .ok (.goto (-29), 3) := by decide +kernel
theorem dX0_firstAstray_41 : decode cX0_firstAstray 41 = .ok (.iconst (-1), 1) := by decide +kernel
theorem dX0_firstAstray_42 : decode cX0_firstAstray 42 = .ok (.ireturn, 1) := by decide +kernel
theorem fl_RX0_65 : FL RX0 65 8 6 := ⟨inG (i := 204) (by decide +kernel) (by decide +kernel), by decide, by decide⟩
theorem lk_RX0_57 : Cond.methodLink RX0 57 yX0_look ∈ tG := inG (i := 1195) (by decide +kernel) (by decide +kernel)
theorem m_X0_look : MV Y_X0_look 2 0 := ⟨⟨inG (i := 1180) (by decide +kernel) (by decide +kernel), inG (i := 107) (by decide +kernel) (by decide +kernel), by decide, by decide, by decide, by decide +kernel⟩, inG (i := 1178) (by decide +kernel) (by decide +kernel), inG (i := 1179) (by decide +kernel) (by decide +kernel), by decide⟩
def P_X0_firstAstray_L9 (x1 : Int)  (Q : Int → St → Prop) : Nat → Int → St → Prop
  | 0, _, _ => False
  | n + 1, x2, σ => (if 60 < x2 then Q (-1) σ else P_X0_fallAfter x1 x2 σ (fun r_3 σ_2 => 0 ≤ x1 ∧ x1 < 6 ∧ (if r_3 = (σ_2 906 0 x1) then (P_X0_firstAstray_L9 x1 Q n) (wi (x2 + 1)) σ_2 else Q x2 σ_2)))
set_option maxRecDepth 20000 in
set_option maxHeartbeats 2000000 in
theorem e_P_X0_firstAstray_L9 {x1 : Int}  {Q : Int → St → Prop}  : ∀ (n : Nat) (x2 : Int) (σ : St), P_X0_firstAstray_L9 x1 Q n x2 σ → E Y_X0_firstAstray 5 0 0 (QI Q) ww 0 0 9 [some (vR 0 0), some (vI x1), some (vI x2)] [] σ := by
  intro n
  induction n with
  | zero => intro x2 σ h; exact h.elim
  | succ n hR =>
    intro x2 σ h
    unfold P_X0_firstAstray_L9 at h
    refine E_iload_n dX0_firstAstray_9 rfl rfl ?_
    refine E_bp dX0_firstAstray_10 rfl ?_
    refine E_icmp_gt (tgt := 41) dX0_firstAstray_12 (by decide) (fun hc => ?_) (fun hc => ?_)
    · have h := Eq.mp (if_pos hc) h
      refine E_ic dX0_firstAstray_41 rfl ?_
      exact E_iret dX0_firstAstray_42 rfl ⟨_, rfl, rfl, h⟩
    · have h := Eq.mp (if_neg hc) h
      refine E_aload_n dX0_firstAstray_15 rfl rfl ?_
      refine E_iload_n dX0_firstAstray_16 rfl rfl ?_
      refine E_iload_n dX0_firstAstray_17 rfl rfl ?_
      refine E_callV (Y' := Y_X0_fallAfter) (as := [vI x1, vI x2]) (st := []) dX0_firstAstray_18 lk_RX0_61 m_X0_fallAfter (by decide) (Nat.le_refl _) (Nat.le_refl _) rfl rfl (Nat.le_of_ble_eq_true rfl) (s_X0_fallAfter h) (fun r0 B0 σ_2 h => ?_)
      obtain ⟨r_3, rfl, rfl, h⟩ := h
      refine E_aload_n dX0_firstAstray_21 rfl rfl ?_
      refine E_getr (i := 0) dX0_firstAstray_22 fl_RX0_16 rfl rfl (go_0_0 _ _) ?_
      refine E_getr (i := 0) dX0_firstAstray_25 fl_RX0_65 rfl rfl (go_8_6 _ _) ?_
      refine E_iload_n dX0_firstAstray_28 rfl rfl ?_
      obtain ⟨hg0, hg1, h⟩ := h
      refine E_iald dX0_firstAstray_29 sh_906 hg0 hg1 ?_
      refine E_icmp_eq (tgt := 35) dX0_firstAstray_30 (by decide) (fun hc => ?_) (fun hc => ?_)
      · have h := Eq.mp (if_pos hc) h
        refine E_iinc (ls' := [some (vR 0 0), some (vI x1), some (vI (wi (x2 + 1)))]) dX0_firstAstray_35 rfl (by decide) rfl rfl ?_
        refine E_goto (tgt := 9) dX0_firstAstray_38 (by decide) ?_
        exact hR _ _ h
      · have h := Eq.mp (if_neg hc) h
        refine E_iload_n dX0_firstAstray_33 rfl rfl ?_
        exact E_iret dX0_firstAstray_34 rfl ⟨_, rfl, rfl, h⟩
def P_X0_firstAstray (x1 : Int) (σ : St) (Q : Int → St → Prop) : Prop :=
  P_X0_look x1 60 σ (fun σ_1 => P_X0_firstAstray_L9 x1 Q FU 0 σ_1)
set_option maxRecDepth 20000 in
set_option maxHeartbeats 2000000 in
theorem s_X0_firstAstray {x1 : Int} {σ : St} {Q : Int → St → Prop} (h : P_X0_firstAstray x1 σ Q) : Cn Y_X0_firstAstray 5 0 0 ww σ [vR 0 0, vI x1] (QI Q) := by
  refine Cn_of [some (vR 0 0), some (vI x1), none] (by decide) (Nat.le_of_ble_eq_true rfl) rfl ?_
  unfold P_X0_firstAstray at h
  refine E_aload_n dX0_firstAstray_0 rfl rfl ?_
  refine E_iload_n dX0_firstAstray_1 rfl rfl ?_
  refine E_bp dX0_firstAstray_2 rfl ?_
  refine E_callV (Y' := Y_X0_look) (as := [vI x1, vI 60]) (st := []) dX0_firstAstray_4 lk_RX0_57 m_X0_look (by decide) (Nat.le_refl _) (Nat.le_refl _) rfl rfl (Nat.le_of_ble_eq_true rfl) (s_X0_look h) (fun r0 B0 σ_1 h => ?_)
  obtain ⟨rfl, rfl, h⟩ := h
  refine E_ic dX0_firstAstray_7 rfl ?_
  refine E_istore_n (ls' := [some (vR 0 0), some (vI x1), some (vI 0)]) dX0_firstAstray_8 rfl (by decide) rfl ?_
  refine e_P_X0_firstAstray_L9  _ _ _ h
abbrev Y_X0_firstAsLarge : My := (yX0_firstAsLarge, cX0_firstAsLarge, 4, some .int)
theorem dX0_firstAsLarge_0 : decode cX0_firstAsLarge 0 = .ok (.aload_n 0, 1) := by decide +kernel
theorem dX0_firstAsLarge_1 : decode cX0_firstAsLarge 1 = .ok (.iload_n 1, 1) := by decide +kernel
theorem dX0_firstAsLarge_2 : decode cX0_firstAsLarge 2 = .ok (.bipush 60, 2) := by decide +kernel
theorem dX0_firstAsLarge_4 : decode cX0_firstAsLarge 4 = .ok (.invokevirtual 57, 3) := by decide +kernel
theorem dX0_firstAsLarge_7 : decode cX0_firstAsLarge 7 = .ok (.iconst 0, 1) := by decide +kernel
theorem dX0_firstAsLarge_8 : decode cX0_firstAsLarge 8 = .ok (.istore_n 3, 1) := by decide +kernel
theorem dX0_firstAsLarge_9 : decode cX0_firstAsLarge 9 = .ok (.iload_n 3, 1) := by decide +kernel
theorem dX0_firstAsLarge_10 : decode cX0_firstAsLarge 10 = .ok (.bipush 60, 2) := by decide +kernel
theorem dX0_firstAsLarge_12 : decode cX0_firstAsLarge 12 = .ok (.if_icmp .gt 23, 3) := by decide +kernel
theorem dX0_firstAsLarge_15 : decode cX0_firstAsLarge 15 = .ok (.aload_n 0, 1) := by decide +kernel
theorem dX0_firstAsLarge_16 : decode cX0_firstAsLarge 16 = .ok (.getfield 11, 3) := by decide +kernel
theorem dX0_firstAsLarge_19 : decode cX0_firstAsLarge 19 = .ok (.iload_n 1, 1) := by decide +kernel
theorem dX0_firstAsLarge_20 : decode cX0_firstAsLarge 20 = .ok (.aaload, 1) := by decide +kernel
theorem dX0_firstAsLarge_21 : decode cX0_firstAsLarge 21 = .ok (.iload_n 3, 1) := by decide +kernel
theorem dX0_firstAsLarge_22 : decode cX0_firstAsLarge 22 = .ok (.iaload, 1) := by decide +kernel
theorem dX0_firstAsLarge_23 : decode cX0_firstAsLarge 23 = .ok (.iload_n 2, 1) := by decide +kernel
theorem dX0_firstAsLarge_24 : decode cX0_firstAsLarge 24 = .ok (.if_icmp .lt 5, 3) := by decide +kernel
theorem dX0_firstAsLarge_27 : decode cX0_firstAsLarge 27 = .ok (.iload_n 3, 1) := by decide +kernel
theorem dX0_firstAsLarge_28 : decode cX0_firstAsLarge 28 = .ok (.ireturn, 1) := by decide +kernel
theorem dX0_firstAsLarge_29 : decode cX0_firstAsLarge 29 = .ok (.iinc 3 1, 3) := by decide +kernel
theorem dX0_firstAsLarge_32 : decode cX0_firstAsLarge 32 = .ok (.goto (-23), 3) := by decide +kernel
theorem dX0_firstAsLarge_35 : decode cX0_firstAsLarge 35 = .ok (.iconst (-1), 1) := by decide +kernel
theorem dX0_firstAsLarge_36 : decode cX0_firstAsLarge 36 = .ok (.ireturn, 1) := by decide +kernel
def P_X0_firstAsLarge_L9 (x1 : Int) (x2 : Int)  (Q : Int → St → Prop) : Nat → Int → St → Prop
  | 0, _, _ => False
  | n + 1, x3, σ => (if 60 < x3 then Q (-1) σ else 0 ≤ x1 ∧ x1 < 6 ∧ 0 ≤ x3 ∧ x3 < 61 ∧ (if (σ 152 x1.toNat x3) < x2 then (P_X0_firstAsLarge_L9 x1 x2 Q n) (wi (x3 + 1)) σ else Q x3 σ))
set_option maxRecDepth 20000 in
set_option maxHeartbeats 2000000 in
theorem e_P_X0_firstAsLarge_L9 {x1 : Int} {x2 : Int}  {Q : Int → St → Prop}  : ∀ (n : Nat) (x3 : Int) (σ : St), P_X0_firstAsLarge_L9 x1 x2 Q n x3 σ → E Y_X0_firstAsLarge 5 0 0 (QI Q) ww 0 0 9 [some (vR 0 0), some (vI x1), some (vI x2), some (vI x3)] [] σ := by
  intro n
  induction n with
  | zero => intro x3 σ h; exact h.elim
  | succ n hR =>
    intro x3 σ h
    unfold P_X0_firstAsLarge_L9 at h
    refine E_iload_n dX0_firstAsLarge_9 rfl rfl ?_
    refine E_bp dX0_firstAsLarge_10 rfl ?_
    refine E_icmp_gt (tgt := 35) dX0_firstAsLarge_12 (by decide) (fun hc => ?_) (fun hc => ?_)
    · have h := Eq.mp (if_pos hc) h
      refine E_ic dX0_firstAsLarge_35 rfl ?_
      exact E_iret dX0_firstAsLarge_36 rfl ⟨_, rfl, rfl, h⟩
    · have h := Eq.mp (if_neg hc) h
      refine E_aload_n dX0_firstAsLarge_15 rfl rfl ?_
      refine E_getr (i := 0) dX0_firstAsLarge_16 fl_RX0_11 rfl rfl (go_0_2 _ _) ?_
      refine E_iload_n dX0_firstAsLarge_19 rfl rfl ?_
      obtain ⟨hg0, hg1, h⟩ := h
      refine E_aald dX0_firstAsLarge_20 sh_102 (by decide) (by decide) hg0 hg1 rfl rfl ?_
      refine E_iload_n dX0_firstAsLarge_21 rfl rfl ?_
      obtain ⟨hg0, hg1, h⟩ := h
      refine E_iald dX0_firstAsLarge_22 sh_152 hg0 hg1 ?_
      refine E_iload_n dX0_firstAsLarge_23 rfl rfl ?_
      refine E_icmp_lt (tgt := 29) dX0_firstAsLarge_24 (by decide) (fun hc => ?_) (fun hc => ?_)
      · have h := Eq.mp (if_pos hc) h
        refine E_iinc (ls' := [some (vR 0 0), some (vI x1), some (vI x2), some (vI (wi (x3 + 1)))]) dX0_firstAsLarge_29 rfl (by decide) rfl rfl ?_
        refine E_goto (tgt := 9) dX0_firstAsLarge_32 (by decide) ?_
        exact hR _ _ h
      · have h := Eq.mp (if_neg hc) h
        refine E_iload_n dX0_firstAsLarge_27 rfl rfl ?_
        exact E_iret dX0_firstAsLarge_28 rfl ⟨_, rfl, rfl, h⟩
def P_X0_firstAsLarge (x1 : Int) (x2 : Int) (σ : St) (Q : Int → St → Prop) : Prop :=
  P_X0_look x1 60 σ (fun σ_1 => P_X0_firstAsLarge_L9 x1 x2 Q FU 0 σ_1)
set_option maxRecDepth 20000 in
set_option maxHeartbeats 2000000 in
theorem s_X0_firstAsLarge {x1 : Int} {x2 : Int} {σ : St} {Q : Int → St → Prop} (h : P_X0_firstAsLarge x1 x2 σ Q) : Cn Y_X0_firstAsLarge 5 0 0 ww σ [vR 0 0, vI x1, vI x2] (QI Q) := by
  refine Cn_of [some (vR 0 0), some (vI x1), some (vI x2), none] (by decide) (Nat.le_of_ble_eq_true rfl) rfl ?_
  unfold P_X0_firstAsLarge at h
  refine E_aload_n dX0_firstAsLarge_0 rfl rfl ?_
  refine E_iload_n dX0_firstAsLarge_1 rfl rfl ?_
  refine E_bp dX0_firstAsLarge_2 rfl ?_
  refine E_callV (Y' := Y_X0_look) (as := [vI x1, vI 60]) (st := []) dX0_firstAsLarge_4 lk_RX0_57 m_X0_look (by decide) (Nat.le_refl _) (Nat.le_refl _) rfl rfl (Nat.le_of_ble_eq_true rfl) (s_X0_look h) (fun r0 B0 σ_1 h => ?_)
  obtain ⟨rfl, rfl, h⟩ := h
  refine E_ic dX0_firstAsLarge_7 rfl ?_
  refine E_istore_n (ls' := [some (vR 0 0), some (vI x1), some (vI x2), some (vI 0)]) dX0_firstAsLarge_8 rfl (by decide) rfl ?_
  refine e_P_X0_firstAsLarge_L9  _ _ _ h
abbrev Y_X6_readDesk : My := (yX6_readDesk, cX6_readDesk, 2, none)
theorem dX6_readDesk_0 : decode cX6_readDesk 0 = .ok (.aload_n 0, 1) := by decide +kernel
theorem dX6_readDesk_1 : decode cX6_readDesk 1 = .ok (.getfield 9, 3) := by decide +kernel
theorem dX6_readDesk_4 : decode cX6_readDesk 4 = .ok (.ifCond .eq 11, 3) := by decide +kernel
theorem dX6_readDesk_7 : decode cX6_readDesk 7 = .ok (.aload_n 0, 1) := by decide +kernel
theorem dX6_readDesk_8 : decode cX6_readDesk 8 = .ok (.getfield 18, 3) := by decide +kernel
theorem dX6_readDesk_11 : decode cX6_readDesk 11 = .ok (.iconst 3, 1) := by decide +kernel
theorem dX6_readDesk_12 : decode cX6_readDesk 12 = .ok (.invokevirtual 66, 3) := by decide +kernel
theorem dX6_readDesk_15 : decode cX6_readDesk 15 = .ok (.aload_n 0, 1) := by decide +kernel
theorem dX6_readDesk_16 : decode cX6_readDesk 16 = .ok (.iconst 1, 1) := by decide +kernel
theorem dX6_readDesk_17 : decode cX6_readDesk 17 = .ok (.putfield 9, 3) := by decide +kernel
theorem dX6_readDesk_20 : decode cX6_readDesk 20 = .ok (.aload_n 0, 1) := by decide +kernel
theorem dX6_readDesk_21 : decode cX6_readDesk 21 = .ok (.getfield 18, 3) := by decide +kernel
theorem dX6_readDesk_24 : decode cX6_readDesk 24 = .ok (.invokevirtual 81, 3) := by decide +kernel
theorem dX6_readDesk_27 : decode cX6_readDesk 27 = .ok (.aload_n 1, 1) := by decide +kernel
theorem dX6_readDesk_28 : decode cX6_readDesk 28 = .ok (.aload_n 0, 1) := by decide +kernel
theorem dX6_readDesk_29 : decode cX6_readDesk 29 = .ok (.getfield 18, 3) := by decide +kernel
theorem dX6_readDesk_32 : decode cX6_readDesk 32 = .ok (.iconst 1, 1) := by decide +kernel
theorem dX6_readDesk_33 : decode cX6_readDesk 33 = .ok (.bipush 9, 2) := by decide +kernel
theorem dX6_readDesk_35 : decode cX6_readDesk 35 = .ok (.invokevirtual 104, 3) := by decide +kernel
theorem dX6_readDesk_38 : decode cX6_readDesk 38 = .ok (.putfield 153, 3) := by decide +kernel
theorem dX6_readDesk_41 : decode cX6_readDesk 41 = .ok (.return_, 1) := by decide +kernel
theorem fl_RX6_153 : FL RX6 153 8 13 := ⟨inG (i := 228) (by decide +kernel) (by decide +kernel), by decide, by decide⟩
theorem fl_RX6_18 : FL RX6 18 6 0 := ⟨inG (i := 287) (by decide +kernel) (by decide +kernel), by decide, by decide⟩
theorem fl_RX6_9 : FL RX6 9 6 1 := ⟨inG (i := 288) (by decide +kernel) (by decide +kernel), by decide, by decide⟩
theorem go_6_0 (σ : St) (i : Nat) : go σ 6 i 0 = (10, 0) := rfl
theorem lk_RX6_104 : Cond.methodLink RX6 104 yX10_takeNumber ∈ tG := inG (i := 738) (by decide +kernel) (by decide +kernel)
theorem lk_RX6_66 : Cond.methodLink RX6 66 yX10_wrong ∈ tG := inG (i := 685) (by decide +kernel) (by decide +kernel)
theorem lk_RX6_81 : Cond.methodLink RX6 81 yX10_next ∈ tG := inG (i := 689) (by decide +kernel) (by decide +kernel)
theorem m_X10_takeNumber : MV Y_X10_takeNumber 2 10 := ⟨⟨inG (i := 741) (by decide +kernel) (by decide +kernel), inG (i := 99) (by decide +kernel) (by decide +kernel), by decide, by decide, by decide, by decide +kernel⟩, inG (i := 739) (by decide +kernel) (by decide +kernel), inG (i := 740) (by decide +kernel) (by decide +kernel), by decide⟩
def P_X6_readDesk_J15 (o1 : Nat)  (Q : St → Prop) (σ : St) : Prop :=
  P_X10_next (up σ 6 0 1 1) (fun σ_1 => P_X10_takeNumber 1 9 σ_1 (fun r_3 σ_2 => Q (up σ_2 8 o1 13 r_3)))
set_option maxRecDepth 20000 in
set_option maxHeartbeats 2000000 in
theorem e_P_X6_readDesk_J15 {o1 : Nat}  {Q : St → Prop} {σ : St}  (h : P_X6_readDesk_J15 o1 Q σ) : E Y_X6_readDesk 3 0 0 (QV Q) ww 0 0 15 [some (vR 6 0), some (vR 8 o1)] [] σ := by
  unfold P_X6_readDesk_J15 at h
  refine E_aload_n dX6_readDesk_15 rfl rfl ?_
  refine E_ic dX6_readDesk_16 rfl ?_
  refine E_putz dX6_readDesk_17 fl_RX6_9 rfl rfl rfl (by decide) ?_
  refine E_aload_n dX6_readDesk_20 rfl rfl ?_
  refine E_getr (i := 0) dX6_readDesk_21 fl_RX6_18 rfl rfl (go_6_0 _ _) ?_
  refine E_callV (Y' := Y_X10_next) (as := []) (st := []) dX6_readDesk_24 lk_RX6_81 m_X10_next (by decide) (Nat.le_refl _) (Nat.le_refl _) rfl rfl (Nat.le_of_ble_eq_true rfl) (s_X10_next h) (fun r0 B0 σ_1 h => ?_)
  obtain ⟨rfl, rfl, h⟩ := h
  refine E_aload_n dX6_readDesk_27 rfl rfl ?_
  refine E_aload_n dX6_readDesk_28 rfl rfl ?_
  refine E_getr (i := 0) dX6_readDesk_29 fl_RX6_18 rfl rfl (go_6_0 _ _) ?_
  refine E_ic dX6_readDesk_32 rfl ?_
  refine E_bp dX6_readDesk_33 rfl ?_
  refine E_callV (Y' := Y_X10_takeNumber) (as := [vI 1, vI 9]) (st := [vR 8 o1]) dX6_readDesk_35 lk_RX6_104 m_X10_takeNumber (by decide) (Nat.le_refl _) (Nat.le_refl _) rfl rfl (Nat.le_of_ble_eq_true rfl) (s_X10_takeNumber h) (fun r0 B0 σ_2 h => ?_)
  obtain ⟨r_3, rfl, rfl, h⟩ := h
  refine E_puti dX6_readDesk_38 fl_RX6_153 rfl rfl rfl ?_
  exact E_vret dX6_readDesk_41 rfl ⟨rfl, rfl, h⟩
def P_X6_readDesk (o1 : Nat) (σ : St) (Q : St → Prop) : Prop :=
  (if (σ 6 0 1) = 0 then P_X6_readDesk_J15 o1 Q σ else P_X10_wrong 3 σ (fun σ_4 => P_X6_readDesk_J15 o1 Q σ_4))
set_option maxRecDepth 20000 in
set_option maxHeartbeats 2000000 in
theorem s_X6_readDesk {o1 : Nat} {σ : St} {Q : St → Prop} (h : P_X6_readDesk o1 σ Q) : Cn Y_X6_readDesk 3 0 0 ww σ [vR 6 0, vR 8 o1] (QV Q) := by
  refine Cn_of [some (vR 6 0), some (vR 8 o1)] (by decide) (Nat.le_of_ble_eq_true rfl) rfl ?_
  unfold P_X6_readDesk at h
  refine E_aload_n dX6_readDesk_0 rfl rfl ?_
  refine E_geti (i := 0) dX6_readDesk_1 fl_RX6_9 rfl ?_
  refine E_if_eq (tgt := 15) dX6_readDesk_4 (by decide) (fun hc => ?_) (fun hc => ?_)
  · have h := Eq.mp (if_pos hc) h
    exact e_P_X6_readDesk_J15 h
  · have h := Eq.mp (if_neg hc) h
    refine E_aload_n dX6_readDesk_7 rfl rfl ?_
    refine E_getr (i := 0) dX6_readDesk_8 fl_RX6_18 rfl rfl (go_6_0 _ _) ?_
    refine E_ic dX6_readDesk_11 rfl ?_
    refine E_callV (Y' := Y_X10_wrong) (as := [vI 3]) (st := []) dX6_readDesk_12 lk_RX6_66 m_X10_wrong (by decide) (Nat.le_refl _) (Nat.le_refl _) rfl rfl (Nat.le_of_ble_eq_true rfl) (s_X10_wrong h) (fun r0 B0 σ_4 h => ?_)
    obtain ⟨rfl, rfl, h⟩ := h
    exact e_P_X6_readDesk_J15 h
abbrev Y_X6_readDamp : My := (yX6_readDamp, cX6_readDamp, 4, none)
theorem dX6_readDamp_0 : decode cX6_readDamp 0 = .ok (.aload_n 1, 1) := by decide +kernel
theorem dX6_readDamp_1 : decode cX6_readDamp 1 = .ok (.getfield 155, 3) := by decide +kernel
theorem dX6_readDamp_4 : decode cX6_readDamp 4 = .ok (.ifCond .le 11, 3) := by decide +kernel
theorem dX6_readDamp_7 : decode cX6_readDamp 7 = .ok (.aload_n 0, 1) := by decide +kernel
theorem dX6_readDamp_8 : decode cX6_readDamp 8 = .ok (.getfield 18, 3) := by decide +kernel
theorem dX6_readDamp_11 : decode cX6_readDamp 11 = .ok (.iconst 3, 1) := by decide +kernel
theorem dX6_readDamp_12 : decode cX6_readDamp 12 = .ok (.invokevirtual 66, 3) := by decide +kernel
theorem dX6_readDamp_15 : decode cX6_readDamp 15 = .ok (.aload_n 0, 1) := by decide +kernel
theorem dX6_readDamp_16 : decode cX6_readDamp 16 = .ok (.getfield 18, 3) := by decide +kernel
theorem dX6_readDamp_19 : decode cX6_readDamp 19 = .ok (.invokevirtual 81, 3) := by decide +kernel
theorem dX6_readDamp_22 : decode cX6_readDamp 22 = .ok (.aload_n 1, 1) := by decide +kernel
theorem dX6_readDamp_23 : decode cX6_readDamp 23 = .ok (.aload_n 0, 1) := by decide +kernel
theorem dX6_readDamp_24 : decode cX6_readDamp 24 = .ok (.getfield 18, 3) := by decide +kernel
theorem dX6_readDamp_27 : decode cX6_readDamp 27 = .ok (.iconst 0, 1) := by decide +kernel
theorem dX6_readDamp_28 : decode cX6_readDamp 28 = .ok (.bipush 9, 2) := by decide +kernel
theorem dX6_readDamp_30 : decode cX6_readDamp 30 = .ok (.invokevirtual 104, 3) := by decide +kernel
theorem dX6_readDamp_33 : decode cX6_readDamp 33 = .ok (.invokevirtual 158, 3) := by decide +kernel
theorem dX6_readDamp_36 : decode cX6_readDamp 36 = .ok (.iconst 1, 1) := by decide +kernel
theorem dX6_readDamp_37 : decode cX6_readDamp 37 = .ok (.istore_n 2, 1) := by decide +kernel
theorem dX6_readDamp_38 : decode cX6_readDamp 38 = .ok (.iload_n 2, 1) := by decide +kernel
theorem dX6_readDamp_39 : decode cX6_readDamp 39 = .ok (.bipush 12, 2) := by decide +kernel
theorem dX6_readDamp_41 : decode cX6_readDamp 41 = .ok (.if_icmp .gt 66, 3) := by decide +kernel
theorem dX6_readDamp_44 : decode cX6_readDamp 44 = .ok (.aload_n 0, 1) := by decide +kernel
theorem dX6_readDamp_45 : decode cX6_readDamp 45 = .ok (.getfield 18, 3) := by decide +kernel
theorem dX6_readDamp_48 : decode cX6_readDamp 48 = .ok (.invokevirtual 161, 3) := by decide +kernel
theorem dX6_readDamp_51 : decode cX6_readDamp 51 = .ok (.ifCond .eq 56, 3) := by decide +kernel
theorem dX6_readDamp_54 : decode cX6_readDamp 54 = .ok (.aload_n 0, 1) := by decide +kernel
theorem dX6_readDamp_55 : decode cX6_readDamp 55 = .ok (.getfield 18, 3) := by decide +kernel
theorem dX6_readDamp_58 : decode cX6_readDamp 58 = .ok (.invokevirtual 164, 3) := by decide +kernel
theorem dX6_readDamp_61 : decode cX6_readDamp 61 = .ok (.ifCond .eq 46, 3) := by decide +kernel
theorem dX6_readDamp_64 : decode cX6_readDamp 64 = .ok (.aload_n 0, 1) := by decide +kernel
theorem dX6_readDamp_65 : decode cX6_readDamp 65 = .ok (.getfield 18, 3) := by decide +kernel
theorem dX6_readDamp_68 : decode cX6_readDamp 68 = .ok (.iconst 0, 1) := by decide +kernel
theorem dX6_readDamp_69 : decode cX6_readDamp 69 = .ok (.bipush 9, 2) := by decide +kernel
theorem dX6_readDamp_71 : decode cX6_readDamp 71 = .ok (.invokevirtual 94, 3) := by decide +kernel
theorem dX6_readDamp_74 : decode cX6_readDamp 74 = .ok (.istore_n 3, 1) := by decide +kernel
theorem dX6_readDamp_75 : decode cX6_readDamp 75 = .ok (.iload_n 2, 1) := by decide +kernel
theorem dX6_readDamp_76 : decode cX6_readDamp 76 = .ok (.bipush 12, 2) := by decide +kernel
theorem dX6_readDamp_78 : decode cX6_readDamp 78 = .ok (.if_icmp .lt 11, 3) := by decide +kernel
theorem dX6_readDamp_81 : decode cX6_readDamp 81 = .ok (.aload_n 0, 1) := by decide +kernel
theorem dX6_readDamp_82 : decode cX6_readDamp 82 = .ok (.getfield 18, 3) := by decide +kernel
theorem dX6_readDamp_85 : decode cX6_readDamp 85 = .ok (.iconst 5, 1) := by decide +kernel
theorem dX6_readDamp_86 : decode cX6_readDamp 86 = .ok (.invokevirtual 66, 3) := by decide +kernel
theorem dX6_readDamp_89 : decode cX6_readDamp 89 = .ok (.aload_n 0, 1) := by decide +kernel
theorem dX6_readDamp_90 : decode cX6_readDamp 90 = .ok (.getfield 18, 3) := by decide +kernel
theorem dX6_readDamp_93 : decode cX6_readDamp 93 = .ok (.invokevirtual 81, 3) := by decide +kernel
theorem dX6_readDamp_96 : decode cX6_readDamp 96 = .ok (.aload_n 1, 1) := by decide +kernel
theorem dX6_readDamp_97 : decode cX6_readDamp 97 = .ok (.iload_n 3, 1) := by decide +kernel
theorem dX6_readDamp_98 : decode cX6_readDamp 98 = .ok (.invokevirtual 158, 3) := by decide +kernel
theorem dX6_readDamp_101 : decode cX6_readDamp 101 = .ok (.iinc 2 1, 3) := by decide +kernel
theorem dX6_readDamp_104 : decode cX6_readDamp 104 = .ok (.goto (-66), 3) := by decide +kernel
theorem dX6_readDamp_107 : decode cX6_readDamp 107 = .ok (.return_, 1) := by decide +kernel
theorem fl_RX6_155 : FL RX6 155 8 12 := ⟨inG (i := 226) (by decide +kernel) (by decide +kernel), by decide, by decide⟩
theorem lk_RX6_158 : Cond.methodLink RX6 158 yX8_addDamp ∈ tG := inG (i := 786) (by decide +kernel) (by decide +kernel)
theorem lk_RX6_161 : Cond.methodLink RX6 161 yX10_isSound ∈ tG := inG (i := 790) (by decide +kernel) (by decide +kernel)
theorem lk_RX6_164 : Cond.methodLink RX6 164 yX10_isNumber ∈ tG := inG (i := 794) (by decide +kernel) (by decide +kernel)
theorem lk_RX6_94 : Cond.methodLink RX6 94 yX10_numberHere ∈ tG := inG (i := 725) (by decide +kernel) (by decide +kernel)
theorem m_X10_isSound : MV Y_X10_isSound 0 10 := ⟨⟨inG (i := 793) (by decide +kernel) (by decide +kernel), inG (i := 99) (by decide +kernel) (by decide +kernel), by decide, by decide, by decide, by decide +kernel⟩, inG (i := 791) (by decide +kernel) (by decide +kernel), inG (i := 792) (by decide +kernel) (by decide +kernel), by decide⟩
theorem m_X8_addDamp : MV Y_X8_addDamp 1 8 := ⟨⟨inG (i := 789) (by decide +kernel) (by decide +kernel), inG (i := 100) (by decide +kernel) (by decide +kernel), by decide, by decide, by decide, by decide +kernel⟩, inG (i := 787) (by decide +kernel) (by decide +kernel), inG (i := 788) (by decide +kernel) (by decide +kernel), by decide⟩
def P_X6_readDamp_J89 (o1 : Nat) (x2 : Int) (x3 : Int) (R : Int → St → Prop) (Q : St → Prop) (σ : St) : Prop :=
  P_X10_next σ (fun σ_11 => P_X8_addDamp o1 x3 σ_11 (fun σ_12 => R (wi (x2 + 1)) σ_12))
set_option maxRecDepth 20000 in
set_option maxHeartbeats 2000000 in
theorem e_P_X6_readDamp_J89 {o1 : Nat} {x2 : Int} {x3 : Int} {R : Int → St → Prop} {Q : St → Prop} {σ : St} (hR : ∀ x2 σ, R x2 σ → E Y_X6_readDamp 3 0 0 (QV Q) ww 0 0 38 [some (vR 6 0), some (vR 8 o1), some (vI x2), none] [] σ) (h : P_X6_readDamp_J89 o1 x2 x3 R Q σ) : E Y_X6_readDamp 3 0 0 (QV Q) ww 0 0 89 [some (vR 6 0), some (vR 8 o1), some (vI x2), some (vI x3)] [] σ := by
  unfold P_X6_readDamp_J89 at h
  refine E_aload_n dX6_readDamp_89 rfl rfl ?_
  refine E_getr (i := 0) dX6_readDamp_90 fl_RX6_18 rfl rfl (go_6_0 _ _) ?_
  refine E_callV (Y' := Y_X10_next) (as := []) (st := []) dX6_readDamp_93 lk_RX6_81 m_X10_next (by decide) (Nat.le_refl _) (Nat.le_refl _) rfl rfl (Nat.le_of_ble_eq_true rfl) (s_X10_next h) (fun r0 B0 σ_11 h => ?_)
  obtain ⟨rfl, rfl, h⟩ := h
  refine E_aload_n dX6_readDamp_96 rfl rfl ?_
  refine E_iload_n dX6_readDamp_97 rfl rfl ?_
  refine E_callV (Y' := Y_X8_addDamp) (as := [vI x3]) (st := []) dX6_readDamp_98 lk_RX6_158 m_X8_addDamp (by decide) (Nat.le_refl _) (Nat.le_refl _) rfl rfl (Nat.le_of_ble_eq_true rfl) (s_X8_addDamp h) (fun r0 B0 σ_12 h => ?_)
  obtain ⟨rfl, rfl, h⟩ := h
  refine E_iinc (ls' := [some (vR 6 0), some (vR 8 o1), some (vI (wi (x2 + 1))), some (vI x3)]) dX6_readDamp_101 rfl (by decide) rfl rfl ?_
  refine E_goto (tgt := 38) dX6_readDamp_104 (by decide) ?_
  refine E_wk2 [some (vR 6 0), some (vR 8 o1), some (vI (wi (x2 + 1))), none] ⟨rfl, ⟨rfl, ⟨rfl, trivial⟩⟩⟩ ?_
  exact hR _ _ h
def P_X6_readDamp_L38 (o1 : Nat)  (Q : St → Prop) : Nat → Int → St → Prop
  | 0, _, _ => False
  | n + 1, x2, σ => (if 12 < x2 then Q σ else P_X10_isSound σ (fun r_6 σ_5 => (if r_6 = 0 then Q σ_5 else P_X10_isNumber σ_5 (fun r_8 σ_7 => (if r_8 = 0 then Q σ_7 else P_X10_numberHere 0 9 σ_7 (fun r_10 σ_9 => (if x2 < 12 then P_X6_readDamp_J89 o1 x2 r_10 (P_X6_readDamp_L38 o1 Q n) Q σ_9 else P_X10_wrong 5 σ_9 (fun σ_13 => P_X6_readDamp_J89 o1 x2 r_10 (P_X6_readDamp_L38 o1 Q n) Q σ_13))))))))
set_option maxRecDepth 20000 in
set_option maxHeartbeats 2000000 in
theorem e_P_X6_readDamp_L38 {o1 : Nat}  {Q : St → Prop}  : ∀ (n : Nat) (x2 : Int) (σ : St), P_X6_readDamp_L38 o1 Q n x2 σ → E Y_X6_readDamp 3 0 0 (QV Q) ww 0 0 38 [some (vR 6 0), some (vR 8 o1), some (vI x2), none] [] σ := by
  intro n
  induction n with
  | zero => intro x2 σ h; exact h.elim
  | succ n hR =>
    intro x2 σ h
    unfold P_X6_readDamp_L38 at h
    refine E_iload_n dX6_readDamp_38 rfl rfl ?_
    refine E_bp dX6_readDamp_39 rfl ?_
    refine E_icmp_gt (tgt := 107) dX6_readDamp_41 (by decide) (fun hc => ?_) (fun hc => ?_)
    · have h := Eq.mp (if_pos hc) h
      exact E_vret dX6_readDamp_107 rfl ⟨rfl, rfl, h⟩
    · have h := Eq.mp (if_neg hc) h
      refine E_aload_n dX6_readDamp_44 rfl rfl ?_
      refine E_getr (i := 0) dX6_readDamp_45 fl_RX6_18 rfl rfl (go_6_0 _ _) ?_
      refine E_callV (Y' := Y_X10_isSound) (as := []) (st := []) dX6_readDamp_48 lk_RX6_161 m_X10_isSound (by decide) (Nat.le_refl _) (Nat.le_refl _) rfl rfl (Nat.le_of_ble_eq_true rfl) (s_X10_isSound h) (fun r0 B0 σ_5 h => ?_)
      obtain ⟨r_6, rfl, rfl, h⟩ := h
      refine E_if_eq (tgt := 107) dX6_readDamp_51 (by decide) (fun hc => ?_) (fun hc => ?_)
      · have h := Eq.mp (if_pos hc) h
        exact E_vret dX6_readDamp_107 rfl ⟨rfl, rfl, h⟩
      · have h := Eq.mp (if_neg hc) h
        refine E_aload_n dX6_readDamp_54 rfl rfl ?_
        refine E_getr (i := 0) dX6_readDamp_55 fl_RX6_18 rfl rfl (go_6_0 _ _) ?_
        refine E_callV (Y' := Y_X10_isNumber) (as := []) (st := []) dX6_readDamp_58 lk_RX6_164 m_X10_isNumber (by decide) (Nat.le_refl _) (Nat.le_refl _) rfl rfl (Nat.le_of_ble_eq_true rfl) (s_X10_isNumber h) (fun r0 B0 σ_7 h => ?_)
        obtain ⟨r_8, rfl, rfl, h⟩ := h
        refine E_if_eq (tgt := 107) dX6_readDamp_61 (by decide) (fun hc => ?_) (fun hc => ?_)
        · have h := Eq.mp (if_pos hc) h
          exact E_vret dX6_readDamp_107 rfl ⟨rfl, rfl, h⟩
        · have h := Eq.mp (if_neg hc) h
          refine E_aload_n dX6_readDamp_64 rfl rfl ?_
          refine E_getr (i := 0) dX6_readDamp_65 fl_RX6_18 rfl rfl (go_6_0 _ _) ?_
          refine E_ic dX6_readDamp_68 rfl ?_
          refine E_bp dX6_readDamp_69 rfl ?_
          refine E_callV (Y' := Y_X10_numberHere) (as := [vI 0, vI 9]) (st := []) dX6_readDamp_71 lk_RX6_94 m_X10_numberHere (by decide) (Nat.le_refl _) (Nat.le_refl _) rfl rfl (Nat.le_of_ble_eq_true rfl) (s_X10_numberHere h) (fun r0 B0 σ_9 h => ?_)
          obtain ⟨r_10, rfl, rfl, h⟩ := h
          refine E_istore_n (ls' := [some (vR 6 0), some (vR 8 o1), some (vI x2), some (vI r_10)]) dX6_readDamp_74 rfl (by decide) rfl ?_
          refine E_iload_n dX6_readDamp_75 rfl rfl ?_
          refine E_bp dX6_readDamp_76 rfl ?_
          refine E_icmp_lt (tgt := 89) dX6_readDamp_78 (by decide) (fun hc => ?_) (fun hc => ?_)
          · have h := Eq.mp (if_pos hc) h
            exact e_P_X6_readDamp_J89 hR h
          · have h := Eq.mp (if_neg hc) h
            refine E_aload_n dX6_readDamp_81 rfl rfl ?_
            refine E_getr (i := 0) dX6_readDamp_82 fl_RX6_18 rfl rfl (go_6_0 _ _) ?_
            refine E_ic dX6_readDamp_85 rfl ?_
            refine E_callV (Y' := Y_X10_wrong) (as := [vI 5]) (st := []) dX6_readDamp_86 lk_RX6_66 m_X10_wrong (by decide) (Nat.le_refl _) (Nat.le_refl _) rfl rfl (Nat.le_of_ble_eq_true rfl) (s_X10_wrong h) (fun r0 B0 σ_13 h => ?_)
            obtain ⟨rfl, rfl, h⟩ := h
            exact e_P_X6_readDamp_J89 hR h
def P_X6_readDamp_J15 (o1 : Nat)  (Q : St → Prop) (σ : St) : Prop :=
  P_X10_next σ (fun σ_1 => P_X10_takeNumber 0 9 σ_1 (fun r_3 σ_2 => P_X8_addDamp o1 r_3 σ_2 (fun σ_4 => P_X6_readDamp_L38 o1 Q FU 1 σ_4)))
set_option maxRecDepth 20000 in
set_option maxHeartbeats 2000000 in
theorem e_P_X6_readDamp_J15 {o1 : Nat}  {Q : St → Prop} {σ : St}  (h : P_X6_readDamp_J15 o1 Q σ) : E Y_X6_readDamp 3 0 0 (QV Q) ww 0 0 15 [some (vR 6 0), some (vR 8 o1), none, none] [] σ := by
  unfold P_X6_readDamp_J15 at h
  refine E_aload_n dX6_readDamp_15 rfl rfl ?_
  refine E_getr (i := 0) dX6_readDamp_16 fl_RX6_18 rfl rfl (go_6_0 _ _) ?_
  refine E_callV (Y' := Y_X10_next) (as := []) (st := []) dX6_readDamp_19 lk_RX6_81 m_X10_next (by decide) (Nat.le_refl _) (Nat.le_refl _) rfl rfl (Nat.le_of_ble_eq_true rfl) (s_X10_next h) (fun r0 B0 σ_1 h => ?_)
  obtain ⟨rfl, rfl, h⟩ := h
  refine E_aload_n dX6_readDamp_22 rfl rfl ?_
  refine E_aload_n dX6_readDamp_23 rfl rfl ?_
  refine E_getr (i := 0) dX6_readDamp_24 fl_RX6_18 rfl rfl (go_6_0 _ _) ?_
  refine E_ic dX6_readDamp_27 rfl ?_
  refine E_bp dX6_readDamp_28 rfl ?_
  refine E_callV (Y' := Y_X10_takeNumber) (as := [vI 0, vI 9]) (st := [vR 8 o1]) dX6_readDamp_30 lk_RX6_104 m_X10_takeNumber (by decide) (Nat.le_refl _) (Nat.le_refl _) rfl rfl (Nat.le_of_ble_eq_true rfl) (s_X10_takeNumber h) (fun r0 B0 σ_2 h => ?_)
  obtain ⟨r_3, rfl, rfl, h⟩ := h
  refine E_callV (Y' := Y_X8_addDamp) (as := [vI r_3]) (st := []) dX6_readDamp_33 lk_RX6_158 m_X8_addDamp (by decide) (Nat.le_refl _) (Nat.le_refl _) rfl rfl (Nat.le_of_ble_eq_true rfl) (s_X8_addDamp h) (fun r0 B0 σ_4 h => ?_)
  obtain ⟨rfl, rfl, h⟩ := h
  refine E_ic dX6_readDamp_36 rfl ?_
  refine E_istore_n (ls' := [some (vR 6 0), some (vR 8 o1), some (vI 1), none]) dX6_readDamp_37 rfl (by decide) rfl ?_
  refine e_P_X6_readDamp_L38  _ _ _ h
def P_X6_readDamp (o1 : Nat) (σ : St) (Q : St → Prop) : Prop :=
  (if (σ 8 o1 12) ≤ 0 then P_X6_readDamp_J15 o1 Q σ else P_X10_wrong 3 σ (fun σ_14 => P_X6_readDamp_J15 o1 Q σ_14))
set_option maxRecDepth 20000 in
set_option maxHeartbeats 2000000 in
theorem s_X6_readDamp {o1 : Nat} {σ : St} {Q : St → Prop} (h : P_X6_readDamp o1 σ Q) : Cn Y_X6_readDamp 3 0 0 ww σ [vR 6 0, vR 8 o1] (QV Q) := by
  refine Cn_of [some (vR 6 0), some (vR 8 o1), none, none] (by decide) (Nat.le_of_ble_eq_true rfl) rfl ?_
  unfold P_X6_readDamp at h
  refine E_aload_n dX6_readDamp_0 rfl rfl ?_
  refine E_geti (i := o1) dX6_readDamp_1 fl_RX6_155 rfl ?_
  refine E_if_le (tgt := 15) dX6_readDamp_4 (by decide) (fun hc => ?_) (fun hc => ?_)
  · have h := Eq.mp (if_pos hc) h
    exact e_P_X6_readDamp_J15 h
  · have h := Eq.mp (if_neg hc) h
    refine E_aload_n dX6_readDamp_7 rfl rfl ?_
    refine E_getr (i := 0) dX6_readDamp_8 fl_RX6_18 rfl rfl (go_6_0 _ _) ?_
    refine E_ic dX6_readDamp_11 rfl ?_
    refine E_callV (Y' := Y_X10_wrong) (as := [vI 3]) (st := []) dX6_readDamp_12 lk_RX6_66 m_X10_wrong (by decide) (Nat.le_refl _) (Nat.le_refl _) rfl rfl (Nat.le_of_ble_eq_true rfl) (s_X10_wrong h) (fun r0 B0 σ_14 h => ?_)
    obtain ⟨rfl, rfl, h⟩ := h
    exact e_P_X6_readDamp_J15 h
abbrev Y_X7_agreeing : My := (yX7_agreeing, cX7_agreeing, 4, some .int)
theorem dX7_agreeing_0 : decode cX7_agreeing 0 = .ok (.iconst 0, 1) := by decide +kernel
theorem dX7_agreeing_1 : decode cX7_agreeing 1 = .ok (.istore_n 2, 1) := by decide +kernel
theorem dX7_agreeing_2 : decode cX7_agreeing 2 = .ok (.iconst 0, 1) := by decide +kernel
theorem dX7_agreeing_3 : decode cX7_agreeing 3 = .ok (.istore_n 3, 1) := by decide +kernel
theorem dX7_agreeing_4 : decode cX7_agreeing 4 = .ok (.iload_n 3, 1) := by decide +kernel
theorem dX7_agreeing_5 : decode cX7_agreeing 5 = .ok (.aload_n 1, 1) := by decide +kernel
theorem dX7_agreeing_6 : decode cX7_agreeing 6 = .ok (.getfield 26, 3) := by decide +kernel
theorem dX7_agreeing_9 : decode cX7_agreeing 9 = .ok (.getfield 32, 3) := by decide +kernel
theorem dX7_agreeing_12 : decode cX7_agreeing 12 = .ok (.if_icmp .ge 31, 3) := by decide +kernel
theorem dX7_agreeing_15 : decode cX7_agreeing 15 = .ok (.aload_n 1, 1) := by decide +kernel
theorem dX7_agreeing_16 : decode cX7_agreeing 16 = .ok (.iload_n 3, 1) := by decide +kernel
theorem dX7_agreeing_17 : decode cX7_agreeing 17 = .ok (.bipush 30, 2) := by decide +kernel
theorem dX7_agreeing_19 : decode cX7_agreeing 19 = .ok (.invokevirtual 37, 3) := by decide +kernel
theorem dX7_agreeing_22 : decode cX7_agreeing 22 = .ok (.aload_n 0, 1) := by decide +kernel
theorem dX7_agreeing_23 : decode cX7_agreeing 23 = .ok (.iload_n 3, 1) := by decide +kernel
theorem dX7_agreeing_24 : decode cX7_agreeing 24 = .ok (.aload_n 1, 1) := by decide +kernel
theorem dX7_agreeing_25 : decode cX7_agreeing 25 = .ok (.invokevirtual 41, 3) := by decide +kernel
theorem dX7_agreeing_28 : decode cX7_agreeing 28 = .ok (.ifCond .eq 9, 3) := by decide +kernel
theorem dX7_agreeing_31 : decode cX7_agreeing 31 = .ok (.iload_n 2, 1) := by decide +kernel
theorem dX7_agreeing_32 : decode cX7_agreeing 32 = .ok (.iconst 1, 1) := by decide +kernel
theorem dX7_agreeing_33 : decode cX7_agreeing 33 = .ok (.iload_n 3, 1) := by decide +kernel
theorem dX7_agreeing_34 : decode cX7_agreeing 34 = .ok (.ishl, 1) := by decide +kernel
theorem dX7_agreeing_35 : decode cX7_agreeing 35 = .ok (.ior, 1) := by decide +kernel
theorem dX7_agreeing_36 : decode cX7_agreeing 36 = .ok (.istore_n 2, 1) := by decide +kernel
theorem dX7_agreeing_37 : decode cX7_agreeing 37 = .ok (.iinc 3 1, 3) := by decide +kernel
theorem dX7_agreeing_40 : decode cX7_agreeing 40 = .ok (.goto (-36), 3) := by decide +kernel
theorem dX7_agreeing_43 : decode cX7_agreeing 43 = .ok (.iload_n 2, 1) := by decide +kernel
theorem dX7_agreeing_44 : decode cX7_agreeing 44 = .ok (.ireturn, 1) := by decide +kernel
theorem fl_RX7_26 : FL RX7 26 0 0 := ⟨inG (i := 408) (by decide +kernel) (by decide +kernel), by decide, by decide⟩
theorem fl_RX7_32 : FL RX7 32 8 11 := ⟨inG (i := 222) (by decide +kernel) (by decide +kernel), by decide, by decide⟩
theorem lk_RX7_37 : Cond.methodLink RX7 37 yX0_look ∈ tG := inG (i := 1237) (by decide +kernel) (by decide +kernel)
theorem lk_RX7_41 : Cond.methodLink RX7 41 yX7_agrees ∈ tG := inG (i := 1238) (by decide +kernel) (by decide +kernel)
theorem m_X7_agrees : MV Y_X7_agrees 2 7 := ⟨⟨inG (i := 1241) (by decide +kernel) (by decide +kernel), inG (i := 106) (by decide +kernel) (by decide +kernel), by decide, by decide, by decide, by decide +kernel⟩, inG (i := 1240) (by decide +kernel) (by decide +kernel), inG (i := 27) (by decide +kernel) (by decide +kernel), by decide⟩
def P_X7_agreeing_L4 (o0 : Nat)  (Q : Int → St → Prop) : Nat → Int → Int → St → Prop
  | 0, _, _, _ => False
  | n + 1, x2, x3, σ => (if (σ 8 0 11) ≤ x3 then Q x2 σ else P_X0_look x3 30 σ (fun σ_1 => P_X7_agrees o0 x3 σ_1 (fun r_3 σ_2 => (if r_3 = 0 then (P_X7_agreeing_L4 o0 Q n) x2 (wi (x3 + 1)) σ_2 else (P_X7_agreeing_L4 o0 Q n) (bO x2 (bL 1 x3)) (wi (x3 + 1)) σ_2))))
set_option maxRecDepth 20000 in
set_option maxHeartbeats 2000000 in
theorem e_P_X7_agreeing_L4 {o0 : Nat}  {Q : Int → St → Prop}  : ∀ (n : Nat) (x2 : Int) (x3 : Int) (σ : St), P_X7_agreeing_L4 o0 Q n x2 x3 σ → E Y_X7_agreeing 5 0 0 (QI Q) ww 0 0 4 [some (vR 7 o0), some (vR 0 0), some (vI x2), some (vI x3)] [] σ := by
  intro n
  induction n with
  | zero => intro x2 x3 σ h; exact h.elim
  | succ n hR =>
    intro x2 x3 σ h
    unfold P_X7_agreeing_L4 at h
    refine E_iload_n dX7_agreeing_4 rfl rfl ?_
    refine E_aload_n dX7_agreeing_5 rfl rfl ?_
    refine E_getr (i := 0) dX7_agreeing_6 fl_RX7_26 rfl rfl (go_0_0 _ _) ?_
    refine E_geti (i := 0) dX7_agreeing_9 fl_RX7_32 rfl ?_
    refine E_icmp_ge (tgt := 43) dX7_agreeing_12 (by decide) (fun hc => ?_) (fun hc => ?_)
    · have h := Eq.mp (if_pos hc) h
      refine E_iload_n dX7_agreeing_43 rfl rfl ?_
      exact E_iret dX7_agreeing_44 rfl ⟨_, rfl, rfl, h⟩
    · have h := Eq.mp (if_neg hc) h
      refine E_aload_n dX7_agreeing_15 rfl rfl ?_
      refine E_iload_n dX7_agreeing_16 rfl rfl ?_
      refine E_bp dX7_agreeing_17 rfl ?_
      refine E_callV (Y' := Y_X0_look) (as := [vI x3, vI 30]) (st := []) dX7_agreeing_19 lk_RX7_37 m_X0_look (by decide) (Nat.le_refl _) (Nat.le_refl _) rfl rfl (Nat.le_of_ble_eq_true rfl) (s_X0_look h) (fun r0 B0 σ_1 h => ?_)
      obtain ⟨rfl, rfl, h⟩ := h
      refine E_aload_n dX7_agreeing_22 rfl rfl ?_
      refine E_iload_n dX7_agreeing_23 rfl rfl ?_
      refine E_aload_n dX7_agreeing_24 rfl rfl ?_
      refine E_callV (Y' := Y_X7_agrees) (as := [vI x3, vR 0 0]) (st := []) dX7_agreeing_25 lk_RX7_41 m_X7_agrees (by decide) (Nat.le_refl _) (Nat.le_refl _) rfl rfl (Nat.le_of_ble_eq_true rfl) (s_X7_agrees h) (fun r0 B0 σ_2 h => ?_)
      obtain ⟨r_3, rfl, rfl, h⟩ := h
      refine E_if_eq (tgt := 37) dX7_agreeing_28 (by decide) (fun hc => ?_) (fun hc => ?_)
      · have h := Eq.mp (if_pos hc) h
        refine E_iinc (ls' := [some (vR 7 o0), some (vR 0 0), some (vI x2), some (vI (wi (x3 + 1)))]) dX7_agreeing_37 rfl (by decide) rfl rfl ?_
        refine E_goto (tgt := 4) dX7_agreeing_40 (by decide) ?_
        exact hR _ _ _ h
      · have h := Eq.mp (if_neg hc) h
        refine E_iload_n dX7_agreeing_31 rfl rfl ?_
        refine E_ic dX7_agreeing_32 rfl ?_
        refine E_iload_n dX7_agreeing_33 rfl rfl ?_
        refine E_ishl dX7_agreeing_34 ?_
        refine E_ior dX7_agreeing_35 ?_
        refine E_istore_n (ls' := [some (vR 7 o0), some (vR 0 0), some (vI (bO x2 (bL 1 x3))), some (vI x3)]) dX7_agreeing_36 rfl (by decide) rfl ?_
        refine E_iinc (ls' := [some (vR 7 o0), some (vR 0 0), some (vI (bO x2 (bL 1 x3))), some (vI (wi (x3 + 1)))]) dX7_agreeing_37 rfl (by decide) rfl rfl ?_
        refine E_goto (tgt := 4) dX7_agreeing_40 (by decide) ?_
        exact hR _ _ _ h
def P_X7_agreeing (o0 : Nat) (σ : St) (Q : Int → St → Prop) : Prop :=
  P_X7_agreeing_L4 o0 Q FU 0 0 σ
set_option maxRecDepth 20000 in
set_option maxHeartbeats 2000000 in
theorem s_X7_agreeing {o0 : Nat} {σ : St} {Q : Int → St → Prop} (h : P_X7_agreeing o0 σ Q) : Cn Y_X7_agreeing 5 0 0 ww σ [vR 7 o0, vR 0 0] (QI Q) := by
  refine Cn_of [some (vR 7 o0), some (vR 0 0), none, none] (by decide) (Nat.le_of_ble_eq_true rfl) rfl ?_
  unfold P_X7_agreeing at h
  refine E_ic dX7_agreeing_0 rfl ?_
  refine E_istore_n (ls' := [some (vR 7 o0), some (vR 0 0), some (vI 0), none]) dX7_agreeing_1 rfl (by decide) rfl ?_
  refine E_ic dX7_agreeing_2 rfl ?_
  refine E_istore_n (ls' := [some (vR 7 o0), some (vR 0 0), some (vI 0), some (vI 0)]) dX7_agreeing_3 rfl (by decide) rfl ?_
  refine e_P_X7_agreeing_L4  _ _ _ _ h
abbrev Y_X11_later : My := (yX11_later, cX11_later, 3, some .int)
theorem dX11_later_0 : decode cX11_later 0 = .ok (.aload_n 0, 1) := by decide +kernel
theorem dX11_later_1 : decode cX11_later 1 = .ok (.getfield 19, 3) := by decide +kernel
theorem dX11_later_4 : decode cX11_later 4 = .ok (.iload_n 1, 1) := by decide +kernel
theorem dX11_later_5 : decode cX11_later 5 = .ok (.invokevirtual 142, 3) := by decide +kernel
theorem dX11_later_8 : decode cX11_later 8 = .ok (.ifCond .eq 13, 3) := by decide +kernel
theorem dX11_later_11 : decode cX11_later 11 = .ok (.iload_n 2, 1) := by decide +kernel
theorem dX11_later_12 : decode cX11_later 12 = .ok (.iconst 0, 1) := by decide +kernel
theorem dX11_later_13 : decode cX11_later 13 = .ok (.bipush 60, 2) := by decide +kernel
theorem dX11_later_15 : decode cX11_later 15 = .ok (.invokestatic 197, 3) := by decide +kernel
theorem dX11_later_18 : decode cX11_later 18 = .ok (.ifCond .ne 5, 3) := by decide +kernel
theorem dX11_later_21 : decode cX11_later 21 = .ok (.iconst (-1), 1) := by decide +kernel
theorem dX11_later_22 : decode cX11_later 22 = .ok (.ireturn, 1) := by decide +kernel
theorem dX11_later_23 : decode cX11_later 23 = .ok (.aload_n 0, 1) := by decide +kernel
theorem dX11_later_24 : decode cX11_later 24 = .ok (.getfield 82, 3) := by decide +kernel
theorem dX11_later_27 : decode cX11_later 27 = .ok (.iload_n 1, 1) := by decide +kernel
theorem dX11_later_28 : decode cX11_later 28 = .ok (.iload_n 2, 1) := by decide +kernel
theorem dX11_later_29 : decode cX11_later 29 = .ok (.invokevirtual 261, 3) := by decide +kernel
theorem dX11_later_32 : decode cX11_later 32 = .ok (.aload_n 0, 1) := by decide +kernel
theorem dX11_later_33 : decode cX11_later 33 = .ok (.getfield 82, 3) := by decide +kernel
theorem dX11_later_36 : decode cX11_later 36 = .ok (.getfield 265, 3) := by decide +kernel
theorem dX11_later_39 : decode cX11_later 39 = .ok (.iload_n 1, 1) := by decide +kernel
theorem dX11_later_40 : decode cX11_later 40 = .ok (.aaload, 1) := by decide +kernel
theorem dX11_later_41 : decode cX11_later 41 = .ok (.iload_n 2, 1) := by decide +kernel
theorem dX11_later_42 : decode cX11_later 42 = .ok (.iaload, 1) := by decide +kernel
theorem dX11_later_43 : decode cX11_later 43 = .ok (.ireturn, 1) := by decide +kernel
theorem fl_RX11_265 : FL RX11 265 0 2 := ⟨inG (i := 411) (by decide +kernel) (by decide +kernel), by decide, by decide⟩
theorem fl_RX11_82 : FL RX11 82 11 11 := ⟨inG (i := 485) (by decide +kernel) (by decide +kernel), by decide, by decide⟩
theorem go_11_11 (σ : St) (i : Nat) : go σ 11 i 11 = (0, 0) := rfl
theorem lk_RX11_261 : Cond.methodLink RX11 261 yX0_look ∈ tG := inG (i := 1177) (by decide +kernel) (by decide +kernel)
def P_X11_later (x1 : Int) (x2 : Int) (σ : St) (Q : Int → St → Prop) : Prop :=
  P_X8_hasBall 0 x1 σ (fun r_2 σ_1 => (if r_2 = 0 then Q (-1) σ_1 else P_X11_within x2 0 60 σ_1 (fun r_4 σ_3 => (if r_4 = 0 then Q (-1) σ_3 else P_X0_look x1 x2 σ_3 (fun σ_5 => 0 ≤ x1 ∧ x1 < 6 ∧ 0 ≤ x2 ∧ x2 < 61 ∧ Q (σ_5 152 x1.toNat x2) σ_5)))))
set_option maxRecDepth 20000 in
set_option maxHeartbeats 2000000 in
theorem s_X11_later {x1 : Int} {x2 : Int} {σ : St} {Q : Int → St → Prop} (h : P_X11_later x1 x2 σ Q) : Cn Y_X11_later 5 0 0 ww σ [vR 11 0, vI x1, vI x2] (QI Q) := by
  refine Cn_of [some (vR 11 0), some (vI x1), some (vI x2)] (by decide) (Nat.le_of_ble_eq_true rfl) rfl ?_
  unfold P_X11_later at h
  refine E_aload_n dX11_later_0 rfl rfl ?_
  refine E_getr (i := 0) dX11_later_1 fl_RX11_19 rfl rfl (go_11_1 _ _) ?_
  refine E_iload_n dX11_later_4 rfl rfl ?_
  refine E_callV (Y' := Y_X8_hasBall) (as := [vI x1]) (st := []) dX11_later_5 lk_RX11_142 m_X8_hasBall (by decide) (Nat.le_refl _) (Nat.le_refl _) rfl rfl (Nat.le_of_ble_eq_true rfl) (s_X8_hasBall h) (fun r0 B0 σ_1 h => ?_)
  obtain ⟨r_2, rfl, rfl, h⟩ := h
  refine E_if_eq (tgt := 21) dX11_later_8 (by decide) (fun hc => ?_) (fun hc => ?_)
  · have h := Eq.mp (if_pos hc) h
    refine E_ic dX11_later_21 rfl ?_
    exact E_iret dX11_later_22 rfl ⟨_, rfl, rfl, h⟩
  · have h := Eq.mp (if_neg hc) h
    refine E_iload_n dX11_later_11 rfl rfl ?_
    refine E_ic dX11_later_12 rfl ?_
    refine E_bp dX11_later_13 rfl ?_
    refine E_callS (Y' := Y_X11_within) (as := [vI x2, vI 0, vI 60]) (st := []) dX11_later_15 lk_RX11_197 m_X11_within (by decide) (Nat.le_refl _) (Nat.le_refl _) rfl rfl (Nat.le_of_ble_eq_true rfl) (s_X11_within h) (fun r0 B0 σ_3 h => ?_)
    obtain ⟨r_4, rfl, rfl, h⟩ := h
    refine E_if_ne (tgt := 23) dX11_later_18 (by decide) (fun hc => ?_) (fun hc => ?_)
    · have h := Eq.mp (if_neg hc) h
      refine E_aload_n dX11_later_23 rfl rfl ?_
      refine E_getr (i := 0) dX11_later_24 fl_RX11_82 rfl rfl (go_11_11 _ _) ?_
      refine E_iload_n dX11_later_27 rfl rfl ?_
      refine E_iload_n dX11_later_28 rfl rfl ?_
      refine E_callV (Y' := Y_X0_look) (as := [vI x1, vI x2]) (st := []) dX11_later_29 lk_RX11_261 m_X0_look (by decide) (Nat.le_refl _) (Nat.le_refl _) rfl rfl (Nat.le_of_ble_eq_true rfl) (s_X0_look h) (fun r0 B0 σ_5 h => ?_)
      obtain ⟨rfl, rfl, h⟩ := h
      refine E_aload_n dX11_later_32 rfl rfl ?_
      refine E_getr (i := 0) dX11_later_33 fl_RX11_82 rfl rfl (go_11_11 _ _) ?_
      refine E_getr (i := 0) dX11_later_36 fl_RX11_265 rfl rfl (go_0_2 _ _) ?_
      refine E_iload_n dX11_later_39 rfl rfl ?_
      obtain ⟨hg0, hg1, h⟩ := h
      refine E_aald dX11_later_40 sh_102 (by decide) (by decide) hg0 hg1 rfl rfl ?_
      refine E_iload_n dX11_later_41 rfl rfl ?_
      obtain ⟨hg0, hg1, h⟩ := h
      refine E_iald dX11_later_42 sh_152 hg0 hg1 ?_
      exact E_iret dX11_later_43 rfl ⟨_, rfl, rfl, h⟩
    · have h := Eq.mp (if_pos hc) h
      refine E_ic dX11_later_21 rfl ?_
      exact E_iret dX11_later_22 rfl ⟨_, rfl, rfl, h⟩
abbrev Y_X11_stray : My := (yX11_stray, cX11_stray, 2, some .int)
theorem dX11_stray_0 : decode cX11_stray 0 = .ok (.aload_n 0, 1) := by decide +kernel
theorem dX11_stray_1 : decode cX11_stray 1 = .ok (.getfield 19, 3) := by decide +kernel
theorem dX11_stray_4 : decode cX11_stray 4 = .ok (.iload_n 1, 1) := by decide +kernel
theorem dX11_stray_5 : decode cX11_stray 5 = .ok (.invokevirtual 142, 3) := by decide +kernel
theorem dX11_stray_8 : decode cX11_stray 8 = .ok (.ifCond .eq 14, 3) := by decide +kernel
theorem dX11_stray_11 : decode cX11_stray 11 = .ok (.aload_n 0, 1) := by decide +kernel
theorem dX11_stray_12 : decode cX11_stray 12 = .ok (.getfield 82, 3) := by decide +kernel
theorem dX11_stray_15 : decode cX11_stray 15 = .ok (.iload_n 1, 1) := by decide +kernel
theorem dX11_stray_16 : decode cX11_stray 16 = .ok (.invokevirtual 268, 3) := by decide +kernel
theorem dX11_stray_19 : decode cX11_stray 19 = .ok (.goto 4, 3) := by decide +kernel
theorem dX11_stray_22 : decode cX11_stray 22 = .ok (.iconst (-1), 1) := by decide +kernel
theorem dX11_stray_23 : decode cX11_stray 23 = .ok (.ireturn, 1) := by decide +kernel
theorem lk_RX11_268 : Cond.methodLink RX11 268 yX0_firstAstray ∈ tG := inG (i := 1191) (by decide +kernel) (by decide +kernel)
theorem m_X0_firstAstray : MV Y_X0_firstAstray 1 0 := ⟨⟨inG (i := 1194) (by decide +kernel) (by decide +kernel), inG (i := 107) (by decide +kernel) (by decide +kernel), by decide, by decide, by decide, by decide +kernel⟩, inG (i := 1192) (by decide +kernel) (by decide +kernel), inG (i := 1193) (by decide +kernel) (by decide +kernel), by decide⟩
def P_X11_stray (x1 : Int) (σ : St) (Q : Int → St → Prop) : Prop :=
  P_X8_hasBall 0 x1 σ (fun r_2 σ_1 => (if r_2 = 0 then Q (-1) σ_1 else P_X0_firstAstray x1 σ_1 (fun r_4 σ_3 => Q r_4 σ_3)))
set_option maxRecDepth 20000 in
set_option maxHeartbeats 2000000 in
theorem s_X11_stray {x1 : Int} {σ : St} {Q : Int → St → Prop} (h : P_X11_stray x1 σ Q) : Cn Y_X11_stray 6 0 0 ww σ [vR 11 0, vI x1] (QI Q) := by
  refine Cn_of [some (vR 11 0), some (vI x1)] (by decide) (Nat.le_of_ble_eq_true rfl) rfl ?_
  unfold P_X11_stray at h
  refine E_aload_n dX11_stray_0 rfl rfl ?_
  refine E_getr (i := 0) dX11_stray_1 fl_RX11_19 rfl rfl (go_11_1 _ _) ?_
  refine E_iload_n dX11_stray_4 rfl rfl ?_
  refine E_callV (Y' := Y_X8_hasBall) (as := [vI x1]) (st := []) dX11_stray_5 lk_RX11_142 m_X8_hasBall (by decide) (Nat.le_refl _) (Nat.le_refl _) rfl rfl (Nat.le_of_ble_eq_true rfl) (s_X8_hasBall h) (fun r0 B0 σ_1 h => ?_)
  obtain ⟨r_2, rfl, rfl, h⟩ := h
  refine E_if_eq (tgt := 22) dX11_stray_8 (by decide) (fun hc => ?_) (fun hc => ?_)
  · have h := Eq.mp (if_pos hc) h
    refine E_ic dX11_stray_22 rfl ?_
    exact E_iret dX11_stray_23 rfl ⟨_, rfl, rfl, h⟩
  · have h := Eq.mp (if_neg hc) h
    refine E_aload_n dX11_stray_11 rfl rfl ?_
    refine E_getr (i := 0) dX11_stray_12 fl_RX11_82 rfl rfl (go_11_11 _ _) ?_
    refine E_iload_n dX11_stray_15 rfl rfl ?_
    refine E_callV (Y' := Y_X0_firstAstray) (as := [vI x1]) (st := []) dX11_stray_16 lk_RX11_268 m_X0_firstAstray (by decide) (Nat.le_refl _) (Nat.le_refl _) rfl rfl (Nat.le_of_ble_eq_true rfl) (s_X0_firstAstray h) (fun r0 B0 σ_3 h => ?_)
    obtain ⟨r_4, rfl, rfl, h⟩ := h
    refine E_goto (tgt := 23) dX11_stray_19 (by decide) ?_
    exact E_iret dX11_stray_23 rfl ⟨_, rfl, rfl, h⟩
abbrev Y_X11_first : My := (yX11_first, cX11_first, 5, some .int)
theorem dX11_first_0 : decode cX11_first 0 = .ok (.bipush 61, 2) := by decide +kernel
theorem dX11_first_2 : decode cX11_first 2 = .ok (.istore_n 1, 1) := by decide +kernel
theorem dX11_first_3 : decode cX11_first 3 = .ok (.iconst (-1), 1) := by decide +kernel
theorem dX11_first_4 : decode cX11_first 4 = .ok (.istore_n 2, 1) := by decide +kernel
theorem dX11_first_5 : decode cX11_first 5 = .ok (.iconst 0, 1) := by decide +kernel
theorem dX11_first_6 : decode cX11_first 6 = .ok (.istore_n 3, 1) := by decide +kernel
theorem dX11_first_7 : decode cX11_first 7 = .ok (.iload_n 3, 1) := by decide +kernel
theorem dX11_first_8 : decode cX11_first 8 = .ok (.aload_n 0, 1) := by decide +kernel
theorem dX11_first_9 : decode cX11_first 9 = .ok (.getfield 19, 3) := by decide +kernel
theorem dX11_first_12 : decode cX11_first 12 = .ok (.getfield 258, 3) := by decide +kernel
theorem dX11_first_15 : decode cX11_first 15 = .ok (.if_icmp .ge 36, 3) := by decide +kernel
theorem dX11_first_18 : decode cX11_first 18 = .ok (.aload_n 0, 1) := by decide +kernel
theorem dX11_first_19 : decode cX11_first 19 = .ok (.getfield 82, 3) := by decide +kernel
theorem dX11_first_22 : decode cX11_first 22 = .ok (.iload_n 3, 1) := by decide +kernel
theorem dX11_first_23 : decode cX11_first 23 = .ok (.invokevirtual 268, 3) := by decide +kernel
theorem dX11_first_26 : decode cX11_first 26 = .ok (.istore 4, 2) := by decide +kernel
theorem dX11_first_28 : decode cX11_first 28 = .ok (.iload 4, 2) := by decide +kernel
theorem dX11_first_30 : decode cX11_first 30 = .ok (.iconst (-1), 1) := by decide +kernel
theorem dX11_first_31 : decode cX11_first 31 = .ok (.if_icmp .eq 14, 3) := by decide +kernel
theorem dX11_first_34 : decode cX11_first 34 = .ok (.iload 4, 2) := by decide +kernel
theorem dX11_first_36 : decode cX11_first 36 = .ok (.iload_n 1, 1) := by decide +kernel
theorem dX11_first_37 : decode cX11_first 37 = .ok (.if_icmp .ge 8, 3) := by decide +kernel
theorem dX11_first_40 : decode cX11_first 40 = .ok (.iload 4, 2) := by decide +kernel
theorem dX11_first_42 : decode cX11_first 42 = .ok (.istore_n 1, 1) := by decide +kernel
theorem dX11_first_43 : decode cX11_first 43 = .ok (.iload_n 3, 1) := by decide +kernel
theorem dX11_first_44 : decode cX11_first 44 = .ok (.istore_n 2, 1) := by decide +kernel
theorem dX11_first_45 : decode cX11_first 45 = .ok (.iinc 3 1, 3) := by decide +kernel
theorem dX11_first_48 : decode cX11_first 48 = .ok (.goto (-41), 3) := by decide +kernel
theorem dX11_first_51 : decode cX11_first 51 = .ok (.iload_n 2, 1) := by decide +kernel
theorem dX11_first_52 : decode cX11_first 52 = .ok (.ireturn, 1) := by decide +kernel
def P_X11_first_L7   (Q : Int → St → Prop) : Nat → Int → Int → Int → St → Prop
  | 0, _, _, _, _ => False
  | n + 1, x1, x2, x3, σ => (if (σ 8 0 11) ≤ x3 then Q x2 σ else P_X0_firstAstray x3 σ (fun r_2 σ_1 => (if r_2 = (-1) then (P_X11_first_L7 Q n) x1 x2 (wi (x3 + 1)) σ_1 else (if x1 ≤ r_2 then (P_X11_first_L7 Q n) x1 x2 (wi (x3 + 1)) σ_1 else (P_X11_first_L7 Q n) r_2 x3 (wi (x3 + 1)) σ_1))))
set_option maxRecDepth 20000 in
set_option maxHeartbeats 2000000 in
theorem e_P_X11_first_L7   {Q : Int → St → Prop}  : ∀ (n : Nat) (x1 : Int) (x2 : Int) (x3 : Int) (σ : St), P_X11_first_L7 Q n x1 x2 x3 σ → E Y_X11_first 6 0 0 (QI Q) ww 0 0 7 [some (vR 11 0), some (vI x1), some (vI x2), some (vI x3), none] [] σ := by
  intro n
  induction n with
  | zero => intro x1 x2 x3 σ h; exact h.elim
  | succ n hR =>
    intro x1 x2 x3 σ h
    unfold P_X11_first_L7 at h
    refine E_iload_n dX11_first_7 rfl rfl ?_
    refine E_aload_n dX11_first_8 rfl rfl ?_
    refine E_getr (i := 0) dX11_first_9 fl_RX11_19 rfl rfl (go_11_1 _ _) ?_
    refine E_geti (i := 0) dX11_first_12 fl_RX11_258 rfl ?_
    refine E_icmp_ge (tgt := 51) dX11_first_15 (by decide) (fun hc => ?_) (fun hc => ?_)
    · have h := Eq.mp (if_pos hc) h
      refine E_iload_n dX11_first_51 rfl rfl ?_
      exact E_iret dX11_first_52 rfl ⟨_, rfl, rfl, h⟩
    · have h := Eq.mp (if_neg hc) h
      refine E_aload_n dX11_first_18 rfl rfl ?_
      refine E_getr (i := 0) dX11_first_19 fl_RX11_82 rfl rfl (go_11_11 _ _) ?_
      refine E_iload_n dX11_first_22 rfl rfl ?_
      refine E_callV (Y' := Y_X0_firstAstray) (as := [vI x3]) (st := []) dX11_first_23 lk_RX11_268 m_X0_firstAstray (by decide) (Nat.le_refl _) (Nat.le_refl _) rfl rfl (Nat.le_of_ble_eq_true rfl) (s_X0_firstAstray h) (fun r0 B0 σ_1 h => ?_)
      obtain ⟨r_2, rfl, rfl, h⟩ := h
      refine E_istore (ls' := [some (vR 11 0), some (vI x1), some (vI x2), some (vI x3), some (vI r_2)]) dX11_first_26 (by decide) rfl ?_
      refine E_iload dX11_first_28 rfl ?_
      refine E_ic dX11_first_30 rfl ?_
      refine E_icmp_eq (tgt := 45) dX11_first_31 (by decide) (fun hc => ?_) (fun hc => ?_)
      · have h := Eq.mp (if_pos hc) h
        refine E_iinc (ls' := [some (vR 11 0), some (vI x1), some (vI x2), some (vI (wi (x3 + 1))), some (vI r_2)]) dX11_first_45 rfl (by decide) rfl rfl ?_
        refine E_goto (tgt := 7) dX11_first_48 (by decide) ?_
        refine E_wk2 [some (vR 11 0), some (vI x1), some (vI x2), some (vI (wi (x3 + 1))), none] ⟨rfl, ⟨rfl, ⟨rfl, ⟨rfl, trivial⟩⟩⟩⟩ ?_
        exact hR _ _ _ _ h
      · have h := Eq.mp (if_neg hc) h
        refine E_iload dX11_first_34 rfl ?_
        refine E_iload_n dX11_first_36 rfl rfl ?_
        refine E_icmp_ge (tgt := 45) dX11_first_37 (by decide) (fun hc => ?_) (fun hc => ?_)
        · have h := Eq.mp (if_pos hc) h
          refine E_iinc (ls' := [some (vR 11 0), some (vI x1), some (vI x2), some (vI (wi (x3 + 1))), some (vI r_2)]) dX11_first_45 rfl (by decide) rfl rfl ?_
          refine E_goto (tgt := 7) dX11_first_48 (by decide) ?_
          refine E_wk2 [some (vR 11 0), some (vI x1), some (vI x2), some (vI (wi (x3 + 1))), none] ⟨rfl, ⟨rfl, ⟨rfl, ⟨rfl, trivial⟩⟩⟩⟩ ?_
          exact hR _ _ _ _ h
        · have h := Eq.mp (if_neg hc) h
          refine E_iload dX11_first_40 rfl ?_
          refine E_istore_n (ls' := [some (vR 11 0), some (vI r_2), some (vI x2), some (vI x3), some (vI r_2)]) dX11_first_42 rfl (by decide) rfl ?_
          refine E_iload_n dX11_first_43 rfl rfl ?_
          refine E_istore_n (ls' := [some (vR 11 0), some (vI r_2), some (vI x3), some (vI x3), some (vI r_2)]) dX11_first_44 rfl (by decide) rfl ?_
          refine E_iinc (ls' := [some (vR 11 0), some (vI r_2), some (vI x3), some (vI (wi (x3 + 1))), some (vI r_2)]) dX11_first_45 rfl (by decide) rfl rfl ?_
          refine E_goto (tgt := 7) dX11_first_48 (by decide) ?_
          refine E_wk2 [some (vR 11 0), some (vI r_2), some (vI x3), some (vI (wi (x3 + 1))), none] ⟨rfl, ⟨rfl, ⟨rfl, ⟨rfl, trivial⟩⟩⟩⟩ ?_
          exact hR _ _ _ _ h
def P_X11_first  (σ : St) (Q : Int → St → Prop) : Prop :=
  P_X11_first_L7 Q FU 61 (-1) 0 σ
set_option maxRecDepth 20000 in
set_option maxHeartbeats 2000000 in
theorem s_X11_first  {σ : St} {Q : Int → St → Prop} (h : P_X11_first  σ Q) : Cn Y_X11_first 6 0 0 ww σ [vR 11 0] (QI Q) := by
  refine Cn_of [some (vR 11 0), none, none, none, none] (by decide) (Nat.le_of_ble_eq_true rfl) rfl ?_
  unfold P_X11_first at h
  refine E_bp dX11_first_0 rfl ?_
  refine E_istore_n (ls' := [some (vR 11 0), some (vI 61), none, none, none]) dX11_first_2 rfl (by decide) rfl ?_
  refine E_ic dX11_first_3 rfl ?_
  refine E_istore_n (ls' := [some (vR 11 0), some (vI 61), some (vI (-1)), none, none]) dX11_first_4 rfl (by decide) rfl ?_
  refine E_ic dX11_first_5 rfl ?_
  refine E_istore_n (ls' := [some (vR 11 0), some (vI 61), some (vI (-1)), some (vI 0), none]) dX11_first_6 rfl (by decide) rfl ?_
  refine e_P_X11_first_L7  _ _ _ _ _ h
abbrev Y_X11_safe : My := (yX11_safe, cX11_safe, 5, some .int)
theorem dX11_safe_0 : decode cX11_safe 0 = .ok (.iload_n 1, 1) := by decide +kernel
theorem dX11_safe_1 : decode cX11_safe 1 = .ok (.iconst 0, 1) := by decide +kernel
theorem dX11_safe_2 : decode cX11_safe 2 = .ok (.bipush 60, 2) := by decide +kernel
theorem dX11_safe_4 : decode cX11_safe 4 = .ok (.invokestatic 197, 3) := by decide +kernel
theorem dX11_safe_7 : decode cX11_safe 7 = .ok (.ifCond .ne 5, 3) := by decide +kernel
theorem dX11_safe_10 : decode cX11_safe 10 = .ok (.iconst (-1), 1) := by decide +kernel
theorem dX11_safe_11 : decode cX11_safe 11 = .ok (.ireturn, 1) := by decide +kernel
theorem dX11_safe_12 : decode cX11_safe 12 = .ok (.iconst 0, 1) := by decide +kernel
theorem dX11_safe_13 : decode cX11_safe 13 = .ok (.istore_n 2, 1) := by decide +kernel
theorem dX11_safe_14 : decode cX11_safe 14 = .ok (.iconst 0, 1) := by decide +kernel
theorem dX11_safe_15 : decode cX11_safe 15 = .ok (.istore_n 3, 1) := by decide +kernel
theorem dX11_safe_16 : decode cX11_safe 16 = .ok (.iload_n 3, 1) := by decide +kernel
theorem dX11_safe_17 : decode cX11_safe 17 = .ok (.aload_n 0, 1) := by decide +kernel
theorem dX11_safe_18 : decode cX11_safe 18 = .ok (.getfield 19, 3) := by decide +kernel
theorem dX11_safe_21 : decode cX11_safe 21 = .ok (.getfield 258, 3) := by decide +kernel
theorem dX11_safe_24 : decode cX11_safe 24 = .ok (.if_icmp .ge 37, 3) := by decide +kernel
theorem dX11_safe_27 : decode cX11_safe 27 = .ok (.aload_n 0, 1) := by decide +kernel
theorem dX11_safe_28 : decode cX11_safe 28 = .ok (.getfield 82, 3) := by decide +kernel
theorem dX11_safe_31 : decode cX11_safe 31 = .ok (.iload_n 3, 1) := by decide +kernel
theorem dX11_safe_32 : decode cX11_safe 32 = .ok (.invokevirtual 268, 3) := by decide +kernel
theorem dX11_safe_35 : decode cX11_safe 35 = .ok (.istore 4, 2) := by decide +kernel
theorem dX11_safe_37 : decode cX11_safe 37 = .ok (.iload 4, 2) := by decide +kernel
theorem dX11_safe_39 : decode cX11_safe 39 = .ok (.iconst (-1), 1) := by decide +kernel
theorem dX11_safe_40 : decode cX11_safe 40 = .ok (.if_icmp .eq 9, 3) := by decide +kernel
theorem dX11_safe_43 : decode cX11_safe 43 = .ok (.iload 4, 2) := by decide +kernel
theorem dX11_safe_45 : decode cX11_safe 45 = .ok (.iload_n 1, 1) := by decide +kernel
theorem dX11_safe_46 : decode cX11_safe 46 = .ok (.if_icmp .le 9, 3) := by decide +kernel
theorem dX11_safe_49 : decode cX11_safe 49 = .ok (.iload_n 2, 1) := by decide +kernel
theorem dX11_safe_50 : decode cX11_safe 50 = .ok (.iconst 1, 1) := by decide +kernel
theorem dX11_safe_51 : decode cX11_safe 51 = .ok (.iload_n 3, 1) := by decide +kernel
theorem dX11_safe_52 : decode cX11_safe 52 = .ok (.ishl, 1) := by decide +kernel
theorem dX11_safe_53 : decode cX11_safe 53 = .ok (.ior, 1) := by decide +kernel
theorem dX11_safe_54 : decode cX11_safe 54 = .ok (.istore_n 2, 1) := by decide +kernel
theorem dX11_safe_55 : decode cX11_safe 55 = .ok (.iinc 3 1, 3) := by decide +kernel
theorem dX11_safe_58 : decode cX11_safe 58 = .ok (.goto (-42), 3) := by decide +kernel
theorem dX11_safe_61 : decode cX11_safe 61 = .ok (.iload_n 2, 1) := by decide +kernel
theorem dX11_safe_62 : decode cX11_safe 62 = .ok (.ireturn, 1) := by decide +kernel
def P_X11_safe_J49 (x1 : Int) (x2 : Int) (x3 : Int) (R : Int → Int → St → Prop) (Q : Int → St → Prop) (σ : St) : Prop :=
  R (bO x2 (bL 1 x3)) (wi (x3 + 1)) σ
set_option maxRecDepth 20000 in
set_option maxHeartbeats 2000000 in
theorem e_P_X11_safe_J49 {x1 : Int} {x2 : Int} {x3 : Int} {R : Int → Int → St → Prop} {Q : Int → St → Prop} {σ : St} (hR : ∀ x2 x3 σ, R x2 x3 σ → E Y_X11_safe 6 0 0 (QI Q) ww 0 0 16 [some (vR 11 0), some (vI x1), some (vI x2), some (vI x3), none] [] σ) (h : P_X11_safe_J49 x1 x2 x3 R Q σ) : E Y_X11_safe 6 0 0 (QI Q) ww 0 0 49 [some (vR 11 0), some (vI x1), some (vI x2), some (vI x3), none] [] σ := by
  unfold P_X11_safe_J49 at h
  refine E_iload_n dX11_safe_49 rfl rfl ?_
  refine E_ic dX11_safe_50 rfl ?_
  refine E_iload_n dX11_safe_51 rfl rfl ?_
  refine E_ishl dX11_safe_52 ?_
  refine E_ior dX11_safe_53 ?_
  refine E_istore_n (ls' := [some (vR 11 0), some (vI x1), some (vI (bO x2 (bL 1 x3))), some (vI x3), none]) dX11_safe_54 rfl (by decide) rfl ?_
  refine E_iinc (ls' := [some (vR 11 0), some (vI x1), some (vI (bO x2 (bL 1 x3))), some (vI (wi (x3 + 1))), none]) dX11_safe_55 rfl (by decide) rfl rfl ?_
  refine E_goto (tgt := 16) dX11_safe_58 (by decide) ?_
  exact hR _ _ _ h
def P_X11_safe_L16 (x1 : Int)  (Q : Int → St → Prop) : Nat → Int → Int → St → Prop
  | 0, _, _, _ => False
  | n + 1, x2, x3, σ => (if (σ 8 0 11) ≤ x3 then Q x2 σ else P_X0_firstAstray x3 σ (fun r_4 σ_3 => (if r_4 = (-1) then P_X11_safe_J49 x1 x2 x3 (P_X11_safe_L16 x1 Q n) Q σ_3 else (if r_4 ≤ x1 then (P_X11_safe_L16 x1 Q n) x2 (wi (x3 + 1)) σ_3 else P_X11_safe_J49 x1 x2 x3 (P_X11_safe_L16 x1 Q n) Q σ_3))))
set_option maxRecDepth 20000 in
set_option maxHeartbeats 2000000 in
theorem e_P_X11_safe_L16 {x1 : Int}  {Q : Int → St → Prop}  : ∀ (n : Nat) (x2 : Int) (x3 : Int) (σ : St), P_X11_safe_L16 x1 Q n x2 x3 σ → E Y_X11_safe 6 0 0 (QI Q) ww 0 0 16 [some (vR 11 0), some (vI x1), some (vI x2), some (vI x3), none] [] σ := by
  intro n
  induction n with
  | zero => intro x2 x3 σ h; exact h.elim
  | succ n hR =>
    intro x2 x3 σ h
    unfold P_X11_safe_L16 at h
    refine E_iload_n dX11_safe_16 rfl rfl ?_
    refine E_aload_n dX11_safe_17 rfl rfl ?_
    refine E_getr (i := 0) dX11_safe_18 fl_RX11_19 rfl rfl (go_11_1 _ _) ?_
    refine E_geti (i := 0) dX11_safe_21 fl_RX11_258 rfl ?_
    refine E_icmp_ge (tgt := 61) dX11_safe_24 (by decide) (fun hc => ?_) (fun hc => ?_)
    · have h := Eq.mp (if_pos hc) h
      refine E_iload_n dX11_safe_61 rfl rfl ?_
      exact E_iret dX11_safe_62 rfl ⟨_, rfl, rfl, h⟩
    · have h := Eq.mp (if_neg hc) h
      refine E_aload_n dX11_safe_27 rfl rfl ?_
      refine E_getr (i := 0) dX11_safe_28 fl_RX11_82 rfl rfl (go_11_11 _ _) ?_
      refine E_iload_n dX11_safe_31 rfl rfl ?_
      refine E_callV (Y' := Y_X0_firstAstray) (as := [vI x3]) (st := []) dX11_safe_32 lk_RX11_268 m_X0_firstAstray (by decide) (Nat.le_refl _) (Nat.le_refl _) rfl rfl (Nat.le_of_ble_eq_true rfl) (s_X0_firstAstray h) (fun r0 B0 σ_3 h => ?_)
      obtain ⟨r_4, rfl, rfl, h⟩ := h
      refine E_istore (ls' := [some (vR 11 0), some (vI x1), some (vI x2), some (vI x3), some (vI r_4)]) dX11_safe_35 (by decide) rfl ?_
      refine E_iload dX11_safe_37 rfl ?_
      refine E_ic dX11_safe_39 rfl ?_
      refine E_icmp_eq (tgt := 49) dX11_safe_40 (by decide) (fun hc => ?_) (fun hc => ?_)
      · have h := Eq.mp (if_pos hc) h
        refine E_wk2 [some (vR 11 0), some (vI x1), some (vI x2), some (vI x3), none] ⟨rfl, ⟨rfl, ⟨rfl, ⟨rfl, trivial⟩⟩⟩⟩ ?_
        exact e_P_X11_safe_J49 hR h
      · have h := Eq.mp (if_neg hc) h
        refine E_iload dX11_safe_43 rfl ?_
        refine E_iload_n dX11_safe_45 rfl rfl ?_
        refine E_icmp_le (tgt := 55) dX11_safe_46 (by decide) (fun hc => ?_) (fun hc => ?_)
        · have h := Eq.mp (if_pos hc) h
          refine E_iinc (ls' := [some (vR 11 0), some (vI x1), some (vI x2), some (vI (wi (x3 + 1))), some (vI r_4)]) dX11_safe_55 rfl (by decide) rfl rfl ?_
          refine E_goto (tgt := 16) dX11_safe_58 (by decide) ?_
          refine E_wk2 [some (vR 11 0), some (vI x1), some (vI x2), some (vI (wi (x3 + 1))), none] ⟨rfl, ⟨rfl, ⟨rfl, ⟨rfl, trivial⟩⟩⟩⟩ ?_
          exact hR _ _ _ h
        · have h := Eq.mp (if_neg hc) h
          refine E_wk2 [some (vR 11 0), some (vI x1), some (vI x2), some (vI x3), none] ⟨rfl, ⟨rfl, ⟨rfl, ⟨rfl, trivial⟩⟩⟩⟩ ?_
          exact e_P_X11_safe_J49 hR h
def P_X11_safe (x1 : Int) (σ : St) (Q : Int → St → Prop) : Prop :=
  P_X11_within x1 0 60 σ (fun r_2 σ_1 => (if r_2 = 0 then Q (-1) σ_1 else P_X11_safe_L16 x1 Q FU 0 0 σ_1))
set_option maxRecDepth 20000 in
set_option maxHeartbeats 2000000 in
theorem s_X11_safe {x1 : Int} {σ : St} {Q : Int → St → Prop} (h : P_X11_safe x1 σ Q) : Cn Y_X11_safe 6 0 0 ww σ [vR 11 0, vI x1] (QI Q) := by
  refine Cn_of [some (vR 11 0), some (vI x1), none, none, none] (by decide) (Nat.le_of_ble_eq_true rfl) rfl ?_
  unfold P_X11_safe at h
  refine E_iload_n dX11_safe_0 rfl rfl ?_
  refine E_ic dX11_safe_1 rfl ?_
  refine E_bp dX11_safe_2 rfl ?_
  refine E_callS (Y' := Y_X11_within) (as := [vI x1, vI 0, vI 60]) (st := []) dX11_safe_4 lk_RX11_197 m_X11_within (by decide) (Nat.le_refl _) (Nat.le_refl _) rfl rfl (Nat.le_of_ble_eq_true rfl) (s_X11_within h) (fun r0 B0 σ_1 h => ?_)
  obtain ⟨r_2, rfl, rfl, h⟩ := h
  refine E_if_ne (tgt := 12) dX11_safe_7 (by decide) (fun hc => ?_) (fun hc => ?_)
  · have h := Eq.mp (if_neg hc) h
    refine E_ic dX11_safe_12 rfl ?_
    refine E_istore_n (ls' := [some (vR 11 0), some (vI x1), some (vI 0), none, none]) dX11_safe_13 rfl (by decide) rfl ?_
    refine E_ic dX11_safe_14 rfl ?_
    refine E_istore_n (ls' := [some (vR 11 0), some (vI x1), some (vI 0), some (vI 0), none]) dX11_safe_15 rfl (by decide) rfl ?_
    refine e_P_X11_safe_L16  _ _ _ _ h
  · have h := Eq.mp (if_pos hc) h
    refine E_ic dX11_safe_10 rfl ?_
    exact E_iret dX11_safe_11 rfl ⟨_, rfl, rfl, h⟩
abbrev Y_X11_wide : My := (yX11_wide, cX11_wide, 6, some .int)
theorem dX11_wide_0 : decode cX11_wide 0 = .ok (.iload_n 1, 1) := by decide +kernel
theorem dX11_wide_1 : decode cX11_wide 1 = .ok (.iconst 0, 1) := by decide +kernel
theorem dX11_wide_2 : decode cX11_wide 2 = .ok (.bipush 60, 2) := by decide +kernel
theorem dX11_wide_4 : decode cX11_wide 4 = .ok (.invokestatic 197, 3) := by decide +kernel
theorem dX11_wide_7 : decode cX11_wide 7 = .ok (.ifCond .ne 5, 3) := by decide +kernel
theorem dX11_wide_10 : decode cX11_wide 10 = .ok (.iconst (-1), 1) := by decide +kernel
theorem dX11_wide_11 : decode cX11_wide 11 = .ok (.ireturn, 1) := by decide +kernel
theorem dX11_wide_12 : decode cX11_wide 12 = .ok (.iconst 0, 1) := by decide +kernel
theorem dX11_wide_13 : decode cX11_wide 13 = .ok (.istore_n 2, 1) := by decide +kernel
theorem dX11_wide_14 : decode cX11_wide 14 = .ok (.iconst (-1), 1) := by decide +kernel
theorem dX11_wide_15 : decode cX11_wide 15 = .ok (.istore_n 3, 1) := by decide +kernel
theorem dX11_wide_16 : decode cX11_wide 16 = .ok (.iconst 0, 1) := by decide +kernel
theorem dX11_wide_17 : decode cX11_wide 17 = .ok (.istore 4, 2) := by decide +kernel
theorem dX11_wide_19 : decode cX11_wide 19 = .ok (.iload 4, 2) := by decide +kernel
theorem dX11_wide_21 : decode cX11_wide 21 = .ok (.aload_n 0, 1) := by decide +kernel
theorem dX11_wide_22 : decode cX11_wide 22 = .ok (.getfield 19, 3) := by decide +kernel
theorem dX11_wide_25 : decode cX11_wide 25 = .ok (.getfield 258, 3) := by decide +kernel
theorem dX11_wide_28 : decode cX11_wide 28 = .ok (.if_icmp .ge 45, 3) := by decide +kernel
theorem dX11_wide_31 : decode cX11_wide 31 = .ok (.aload_n 0, 1) := by decide +kernel
theorem dX11_wide_32 : decode cX11_wide 32 = .ok (.getfield 82, 3) := by decide +kernel
theorem dX11_wide_35 : decode cX11_wide 35 = .ok (.iload 4, 2) := by decide +kernel
theorem dX11_wide_37 : decode cX11_wide 37 = .ok (.iload_n 1, 1) := by decide +kernel
theorem dX11_wide_38 : decode cX11_wide 38 = .ok (.invokevirtual 261, 3) := by decide +kernel
theorem dX11_wide_41 : decode cX11_wide 41 = .ok (.aload_n 0, 1) := by decide +kernel
theorem dX11_wide_42 : decode cX11_wide 42 = .ok (.getfield 82, 3) := by decide +kernel
theorem dX11_wide_45 : decode cX11_wide 45 = .ok (.getfield 265, 3) := by decide +kernel
theorem dX11_wide_48 : decode cX11_wide 48 = .ok (.iload 4, 2) := by decide +kernel
theorem dX11_wide_50 : decode cX11_wide 50 = .ok (.aaload, 1) := by decide +kernel
theorem dX11_wide_51 : decode cX11_wide 51 = .ok (.iload_n 1, 1) := by decide +kernel
theorem dX11_wide_52 : decode cX11_wide 52 = .ok (.iaload, 1) := by decide +kernel
theorem dX11_wide_53 : decode cX11_wide 53 = .ok (.istore 5, 2) := by decide +kernel
theorem dX11_wide_55 : decode cX11_wide 55 = .ok (.iload 5, 2) := by decide +kernel
theorem dX11_wide_57 : decode cX11_wide 57 = .ok (.iload_n 2, 1) := by decide +kernel
theorem dX11_wide_58 : decode cX11_wide 58 = .ok (.if_icmp .le 9, 3) := by decide +kernel
theorem dX11_wide_61 : decode cX11_wide 61 = .ok (.iload 5, 2) := by decide +kernel
theorem dX11_wide_63 : decode cX11_wide 63 = .ok (.istore_n 2, 1) := by decide +kernel
theorem dX11_wide_64 : decode cX11_wide 64 = .ok (.iload 4, 2) := by decide +kernel
theorem dX11_wide_66 : decode cX11_wide 66 = .ok (.istore_n 3, 1) := by decide +kernel
theorem dX11_wide_67 : decode cX11_wide 67 = .ok (.iinc 4 1, 3) := by decide +kernel
theorem dX11_wide_70 : decode cX11_wide 70 = .ok (.goto (-51), 3) := by decide +kernel
theorem dX11_wide_73 : decode cX11_wide 73 = .ok (.iload_n 3, 1) := by decide +kernel
theorem dX11_wide_74 : decode cX11_wide 74 = .ok (.ireturn, 1) := by decide +kernel
def P_X11_wide_L19 (x1 : Int)  (Q : Int → St → Prop) : Nat → Int → Int → Int → St → Prop
  | 0, _, _, _, _ => False
  | n + 1, x2, x3, x4, σ => (if (σ 8 0 11) ≤ x4 then Q x3 σ else P_X0_look x4 x1 σ (fun σ_3 => 0 ≤ x4 ∧ x4 < 6 ∧ 0 ≤ x1 ∧ x1 < 61 ∧ (if (σ_3 152 x4.toNat x1) ≤ x2 then (P_X11_wide_L19 x1 Q n) x2 x3 (wi (x4 + 1)) σ_3 else (P_X11_wide_L19 x1 Q n) (σ_3 152 x4.toNat x1) x4 (wi (x4 + 1)) σ_3)))
set_option maxRecDepth 20000 in
set_option maxHeartbeats 2000000 in
theorem e_P_X11_wide_L19 {x1 : Int}  {Q : Int → St → Prop}  : ∀ (n : Nat) (x2 : Int) (x3 : Int) (x4 : Int) (σ : St), P_X11_wide_L19 x1 Q n x2 x3 x4 σ → E Y_X11_wide 5 0 0 (QI Q) ww 0 0 19 [some (vR 11 0), some (vI x1), some (vI x2), some (vI x3), some (vI x4), none] [] σ := by
  intro n
  induction n with
  | zero => intro x2 x3 x4 σ h; exact h.elim
  | succ n hR =>
    intro x2 x3 x4 σ h
    unfold P_X11_wide_L19 at h
    refine E_iload dX11_wide_19 rfl ?_
    refine E_aload_n dX11_wide_21 rfl rfl ?_
    refine E_getr (i := 0) dX11_wide_22 fl_RX11_19 rfl rfl (go_11_1 _ _) ?_
    refine E_geti (i := 0) dX11_wide_25 fl_RX11_258 rfl ?_
    refine E_icmp_ge (tgt := 73) dX11_wide_28 (by decide) (fun hc => ?_) (fun hc => ?_)
    · have h := Eq.mp (if_pos hc) h
      refine E_iload_n dX11_wide_73 rfl rfl ?_
      exact E_iret dX11_wide_74 rfl ⟨_, rfl, rfl, h⟩
    · have h := Eq.mp (if_neg hc) h
      refine E_aload_n dX11_wide_31 rfl rfl ?_
      refine E_getr (i := 0) dX11_wide_32 fl_RX11_82 rfl rfl (go_11_11 _ _) ?_
      refine E_iload dX11_wide_35 rfl ?_
      refine E_iload_n dX11_wide_37 rfl rfl ?_
      refine E_callV (Y' := Y_X0_look) (as := [vI x4, vI x1]) (st := []) dX11_wide_38 lk_RX11_261 m_X0_look (by decide) (Nat.le_refl _) (Nat.le_refl _) rfl rfl (Nat.le_of_ble_eq_true rfl) (s_X0_look h) (fun r0 B0 σ_3 h => ?_)
      obtain ⟨rfl, rfl, h⟩ := h
      refine E_aload_n dX11_wide_41 rfl rfl ?_
      refine E_getr (i := 0) dX11_wide_42 fl_RX11_82 rfl rfl (go_11_11 _ _) ?_
      refine E_getr (i := 0) dX11_wide_45 fl_RX11_265 rfl rfl (go_0_2 _ _) ?_
      refine E_iload dX11_wide_48 rfl ?_
      obtain ⟨hg0, hg1, h⟩ := h
      refine E_aald dX11_wide_50 sh_102 (by decide) (by decide) hg0 hg1 rfl rfl ?_
      refine E_iload_n dX11_wide_51 rfl rfl ?_
      obtain ⟨hg0, hg1, h⟩ := h
      refine E_iald dX11_wide_52 sh_152 hg0 hg1 ?_
      refine E_istore (ls' := [some (vR 11 0), some (vI x1), some (vI x2), some (vI x3), some (vI x4), some (vI (σ_3 152 x4.toNat x1))]) dX11_wide_53 (by decide) rfl ?_
      refine E_iload dX11_wide_55 rfl ?_
      refine E_iload_n dX11_wide_57 rfl rfl ?_
      refine E_icmp_le (tgt := 67) dX11_wide_58 (by decide) (fun hc => ?_) (fun hc => ?_)
      · have h := Eq.mp (if_pos hc) h
        refine E_iinc (ls' := [some (vR 11 0), some (vI x1), some (vI x2), some (vI x3), some (vI (wi (x4 + 1))), some (vI (σ_3 152 x4.toNat x1))]) dX11_wide_67 rfl (by decide) rfl rfl ?_
        refine E_goto (tgt := 19) dX11_wide_70 (by decide) ?_
        refine E_wk2 [some (vR 11 0), some (vI x1), some (vI x2), some (vI x3), some (vI (wi (x4 + 1))), none] ⟨rfl, ⟨rfl, ⟨rfl, ⟨rfl, ⟨rfl, trivial⟩⟩⟩⟩⟩ ?_
        exact hR _ _ _ _ h
      · have h := Eq.mp (if_neg hc) h
        refine E_iload dX11_wide_61 rfl ?_
        refine E_istore_n (ls' := [some (vR 11 0), some (vI x1), some (vI (σ_3 152 x4.toNat x1)), some (vI x3), some (vI x4), some (vI (σ_3 152 x4.toNat x1))]) dX11_wide_63 rfl (by decide) rfl ?_
        refine E_iload dX11_wide_64 rfl ?_
        refine E_istore_n (ls' := [some (vR 11 0), some (vI x1), some (vI (σ_3 152 x4.toNat x1)), some (vI x4), some (vI x4), some (vI (σ_3 152 x4.toNat x1))]) dX11_wide_66 rfl (by decide) rfl ?_
        refine E_iinc (ls' := [some (vR 11 0), some (vI x1), some (vI (σ_3 152 x4.toNat x1)), some (vI x4), some (vI (wi (x4 + 1))), some (vI (σ_3 152 x4.toNat x1))]) dX11_wide_67 rfl (by decide) rfl rfl ?_
        refine E_goto (tgt := 19) dX11_wide_70 (by decide) ?_
        refine E_wk2 [some (vR 11 0), some (vI x1), some (vI (σ_3 152 x4.toNat x1)), some (vI x4), some (vI (wi (x4 + 1))), none] ⟨rfl, ⟨rfl, ⟨rfl, ⟨rfl, ⟨rfl, trivial⟩⟩⟩⟩⟩ ?_
        exact hR _ _ _ _ h
def P_X11_wide (x1 : Int) (σ : St) (Q : Int → St → Prop) : Prop :=
  P_X11_within x1 0 60 σ (fun r_2 σ_1 => (if r_2 = 0 then Q (-1) σ_1 else P_X11_wide_L19 x1 Q FU 0 (-1) 0 σ_1))
set_option maxRecDepth 20000 in
set_option maxHeartbeats 2000000 in
theorem s_X11_wide {x1 : Int} {σ : St} {Q : Int → St → Prop} (h : P_X11_wide x1 σ Q) : Cn Y_X11_wide 5 0 0 ww σ [vR 11 0, vI x1] (QI Q) := by
  refine Cn_of [some (vR 11 0), some (vI x1), none, none, none, none] (by decide) (Nat.le_of_ble_eq_true rfl) rfl ?_
  unfold P_X11_wide at h
  refine E_iload_n dX11_wide_0 rfl rfl ?_
  refine E_ic dX11_wide_1 rfl ?_
  refine E_bp dX11_wide_2 rfl ?_
  refine E_callS (Y' := Y_X11_within) (as := [vI x1, vI 0, vI 60]) (st := []) dX11_wide_4 lk_RX11_197 m_X11_within (by decide) (Nat.le_refl _) (Nat.le_refl _) rfl rfl (Nat.le_of_ble_eq_true rfl) (s_X11_within h) (fun r0 B0 σ_1 h => ?_)
  obtain ⟨r_2, rfl, rfl, h⟩ := h
  refine E_if_ne (tgt := 12) dX11_wide_7 (by decide) (fun hc => ?_) (fun hc => ?_)
  · have h := Eq.mp (if_neg hc) h
    refine E_ic dX11_wide_12 rfl ?_
    refine E_istore_n (ls' := [some (vR 11 0), some (vI x1), some (vI 0), none, none, none]) dX11_wide_13 rfl (by decide) rfl ?_
    refine E_ic dX11_wide_14 rfl ?_
    refine E_istore_n (ls' := [some (vR 11 0), some (vI x1), some (vI 0), some (vI (-1)), none, none]) dX11_wide_15 rfl (by decide) rfl ?_
    refine E_ic dX11_wide_16 rfl ?_
    refine E_istore (ls' := [some (vR 11 0), some (vI x1), some (vI 0), some (vI (-1)), some (vI 0), none]) dX11_wide_17 (by decide) rfl ?_
    refine e_P_X11_wide_L19  _ _ _ _ _ h
  · have h := Eq.mp (if_pos hc) h
    refine E_ic dX11_wide_10 rfl ?_
    exact E_iret dX11_wide_11 rfl ⟨_, rfl, rfl, h⟩
abbrev Y_X11_over : My := (yX11_over, cX11_over, 3, some .int)
theorem dX11_over_0 : decode cX11_over 0 = .ok (.aload_n 0, 1) := by decide +kernel
theorem dX11_over_1 : decode cX11_over 1 = .ok (.getfield 19, 3) := by decide +kernel
theorem dX11_over_4 : decode cX11_over 4 = .ok (.iload_n 1, 1) := by decide +kernel
theorem dX11_over_5 : decode cX11_over 5 = .ok (.invokevirtual 142, 3) := by decide +kernel
theorem dX11_over_8 : decode cX11_over 8 = .ok (.ifCond .eq 13, 3) := by decide +kernel
theorem dX11_over_11 : decode cX11_over 11 = .ok (.iload_n 2, 1) := by decide +kernel
theorem dX11_over_12 : decode cX11_over 12 = .ok (.iconst 1, 1) := by decide +kernel
theorem dX11_over_13 : decode cX11_over 13 = .ok (.bipush 60, 2) := by decide +kernel
theorem dX11_over_15 : decode cX11_over 15 = .ok (.invokestatic 197, 3) := by decide +kernel
theorem dX11_over_18 : decode cX11_over 18 = .ok (.ifCond .ne 5, 3) := by decide +kernel
theorem dX11_over_21 : decode cX11_over 21 = .ok (.iconst (-1), 1) := by decide +kernel
theorem dX11_over_22 : decode cX11_over 22 = .ok (.ireturn, 1) := by decide +kernel
theorem dX11_over_23 : decode cX11_over 23 = .ok (.aload_n 0, 1) := by decide +kernel
theorem dX11_over_24 : decode cX11_over 24 = .ok (.getfield 82, 3) := by decide +kernel
theorem dX11_over_27 : decode cX11_over 27 = .ok (.iload_n 1, 1) := by decide +kernel
theorem dX11_over_28 : decode cX11_over 28 = .ok (.iload_n 2, 1) := by decide +kernel
theorem dX11_over_29 : decode cX11_over 29 = .ok (.invokevirtual 271, 3) := by decide +kernel
theorem dX11_over_32 : decode cX11_over 32 = .ok (.ireturn, 1) := by decide +kernel
theorem lk_RX11_271 : Cond.methodLink RX11 271 yX0_firstAsLarge ∈ tG := inG (i := 1217) (by decide +kernel) (by decide +kernel)
theorem m_X0_firstAsLarge : MV Y_X0_firstAsLarge 2 0 := ⟨⟨inG (i := 1220) (by decide +kernel) (by decide +kernel), inG (i := 107) (by decide +kernel) (by decide +kernel), by decide, by decide, by decide, by decide +kernel⟩, inG (i := 1218) (by decide +kernel) (by decide +kernel), inG (i := 1219) (by decide +kernel) (by decide +kernel), by decide⟩
def P_X11_over (x1 : Int) (x2 : Int) (σ : St) (Q : Int → St → Prop) : Prop :=
  P_X8_hasBall 0 x1 σ (fun r_2 σ_1 => (if r_2 = 0 then Q (-1) σ_1 else P_X11_within x2 1 60 σ_1 (fun r_4 σ_3 => (if r_4 = 0 then Q (-1) σ_3 else P_X0_firstAsLarge x1 x2 σ_3 (fun r_6 σ_5 => Q r_6 σ_5)))))
set_option maxRecDepth 20000 in
set_option maxHeartbeats 2000000 in
theorem s_X11_over {x1 : Int} {x2 : Int} {σ : St} {Q : Int → St → Prop} (h : P_X11_over x1 x2 σ Q) : Cn Y_X11_over 6 0 0 ww σ [vR 11 0, vI x1, vI x2] (QI Q) := by
  refine Cn_of [some (vR 11 0), some (vI x1), some (vI x2)] (by decide) (Nat.le_of_ble_eq_true rfl) rfl ?_
  unfold P_X11_over at h
  refine E_aload_n dX11_over_0 rfl rfl ?_
  refine E_getr (i := 0) dX11_over_1 fl_RX11_19 rfl rfl (go_11_1 _ _) ?_
  refine E_iload_n dX11_over_4 rfl rfl ?_
  refine E_callV (Y' := Y_X8_hasBall) (as := [vI x1]) (st := []) dX11_over_5 lk_RX11_142 m_X8_hasBall (by decide) (Nat.le_refl _) (Nat.le_refl _) rfl rfl (Nat.le_of_ble_eq_true rfl) (s_X8_hasBall h) (fun r0 B0 σ_1 h => ?_)
  obtain ⟨r_2, rfl, rfl, h⟩ := h
  refine E_if_eq (tgt := 21) dX11_over_8 (by decide) (fun hc => ?_) (fun hc => ?_)
  · have h := Eq.mp (if_pos hc) h
    refine E_ic dX11_over_21 rfl ?_
    exact E_iret dX11_over_22 rfl ⟨_, rfl, rfl, h⟩
  · have h := Eq.mp (if_neg hc) h
    refine E_iload_n dX11_over_11 rfl rfl ?_
    refine E_ic dX11_over_12 rfl ?_
    refine E_bp dX11_over_13 rfl ?_
    refine E_callS (Y' := Y_X11_within) (as := [vI x2, vI 1, vI 60]) (st := []) dX11_over_15 lk_RX11_197 m_X11_within (by decide) (Nat.le_refl _) (Nat.le_refl _) rfl rfl (Nat.le_of_ble_eq_true rfl) (s_X11_within h) (fun r0 B0 σ_3 h => ?_)
    obtain ⟨r_4, rfl, rfl, h⟩ := h
    refine E_if_ne (tgt := 23) dX11_over_18 (by decide) (fun hc => ?_) (fun hc => ?_)
    · have h := Eq.mp (if_neg hc) h
      refine E_aload_n dX11_over_23 rfl rfl ?_
      refine E_getr (i := 0) dX11_over_24 fl_RX11_82 rfl rfl (go_11_11 _ _) ?_
      refine E_iload_n dX11_over_27 rfl rfl ?_
      refine E_iload_n dX11_over_28 rfl rfl ?_
      refine E_callV (Y' := Y_X0_firstAsLarge) (as := [vI x1, vI x2]) (st := []) dX11_over_29 lk_RX11_271 m_X0_firstAsLarge (by decide) (Nat.le_refl _) (Nat.le_refl _) rfl rfl (Nat.le_of_ble_eq_true rfl) (s_X0_firstAsLarge h) (fun r0 B0 σ_5 h => ?_)
      obtain ⟨r_6, rfl, rfl, h⟩ := h
      exact E_iret dX11_over_32 rfl ⟨_, rfl, rfl, h⟩
    · have h := Eq.mp (if_pos hc) h
      refine E_ic dX11_over_21 rfl ?_
      exact E_iret dX11_over_22 rfl ⟨_, rfl, rfl, h⟩
abbrev Y_X11_who : My := (yX11_who, cX11_who, 1, some .int)
theorem dX11_who_0 : decode cX11_who 0 = .ok (.aload_n 0, 1) := by decide +kernel
theorem dX11_who_1 : decode cX11_who 1 = .ok (.getfield 67, 3) := by decide +kernel
theorem dX11_who_4 : decode cX11_who 4 = .ok (.aload_n 0, 1) := by decide +kernel
theorem dX11_who_5 : decode cX11_who 5 = .ok (.getfield 82, 3) := by decide +kernel
theorem dX11_who_8 : decode cX11_who 8 = .ok (.invokevirtual 279, 3) := by decide +kernel
theorem dX11_who_11 : decode cX11_who 11 = .ok (.ireturn, 1) := by decide +kernel
theorem lk_RX11_279 : Cond.methodLink RX11 279 yX7_agreeing ∈ tG := inG (i := 1233) (by decide +kernel) (by decide +kernel)
theorem m_X7_agreeing : MV Y_X7_agreeing 1 7 := ⟨⟨inG (i := 1236) (by decide +kernel) (by decide +kernel), inG (i := 106) (by decide +kernel) (by decide +kernel), by decide, by decide, by decide, by decide +kernel⟩, inG (i := 1234) (by decide +kernel) (by decide +kernel), inG (i := 1235) (by decide +kernel) (by decide +kernel), by decide⟩
def P_X11_who  (σ : St) (Q : Int → St → Prop) : Prop :=
  P_X7_agreeing 0 σ (fun r_2 σ_1 => Q r_2 σ_1)
set_option maxRecDepth 20000 in
set_option maxHeartbeats 2000000 in
theorem s_X11_who  {σ : St} {Q : Int → St → Prop} (h : P_X11_who  σ Q) : Cn Y_X11_who 6 0 0 ww σ [vR 11 0] (QI Q) := by
  refine Cn_of [some (vR 11 0)] (by decide) (Nat.le_of_ble_eq_true rfl) rfl ?_
  unfold P_X11_who at h
  refine E_aload_n dX11_who_0 rfl rfl ?_
  refine E_getr (i := 0) dX11_who_1 fl_RX11_67 rfl rfl (go_11_9 _ _) ?_
  refine E_aload_n dX11_who_4 rfl rfl ?_
  refine E_getr (i := 0) dX11_who_5 fl_RX11_82 rfl rfl (go_11_11 _ _) ?_
  refine E_callV (Y' := Y_X7_agreeing) (as := [vR 0 0]) (st := []) dX11_who_8 lk_RX11_279 m_X7_agreeing (by decide) (Nat.le_refl _) (Nat.le_refl _) rfl rfl (Nat.le_of_ble_eq_true rfl) (s_X7_agreeing h) (fun r0 B0 σ_1 h => ?_)
  obtain ⟨r_2, rfl, rfl, h⟩ := h
  exact E_iret dX11_who_11 rfl ⟨_, rfl, rfl, h⟩
