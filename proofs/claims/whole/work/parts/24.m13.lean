abbrev Y_X12_laysFalls : My := (yX12_laysFalls, cX12_laysFalls, 3, none)
theorem dX12_laysFalls_0 : decode cX12_laysFalls 0 = .ok (.aload_n 0, 1) := by decide +kernel
theorem dX12_laysFalls_1 : decode cX12_laysFalls 1 = .ok (.getfield 111, 3) := by decide +kernel
theorem dX12_laysFalls_4 : decode cX12_laysFalls 4 = .ok (.iconst 0, 1) := by decide +kernel
theorem dX12_laysFalls_5 : decode cX12_laysFalls 5 = .ok (.aload_n 0, 1) := by decide +kernel
theorem dX12_laysFalls_6 : decode cX12_laysFalls 6 = .ok (.getfield 117, 3) := by decide +kernel
theorem dX12_laysFalls_9 : decode cX12_laysFalls 9 = .ok (.iconst 0, 1) := by decide +kernel
theorem dX12_laysFalls_10 : decode cX12_laysFalls 10 = .ok (.invokestatic 409, 3) := by decide +kernel
theorem dX12_laysFalls_13 : decode cX12_laysFalls 13 = .ok (.iconst 0, 1) := by decide +kernel
theorem dX12_laysFalls_14 : decode cX12_laysFalls 14 = .ok (.istore_n 1, 1) := by decide +kernel
theorem dX12_laysFalls_15 : decode cX12_laysFalls 15 = .ok (.iload_n 1, 1) := by decide +kernel
theorem dX12_laysFalls_16 : decode cX12_laysFalls 16 = .ok (.bipush 30, 2) := by decide +kernel
theorem dX12_laysFalls_18 : decode cX12_laysFalls 18 = .ok (.if_icmp .gt 48, 3) := by decide +kernel
theorem dX12_laysFalls_21 : decode cX12_laysFalls 21 = .ok (.iconst 0, 1) := by decide +kernel
theorem dX12_laysFalls_22 : decode cX12_laysFalls 22 = .ok (.istore_n 2, 1) := by decide +kernel
theorem dX12_laysFalls_23 : decode cX12_laysFalls 23 = .ok (.iload_n 2, 1) := by decide +kernel
theorem dX12_laysFalls_24 : decode cX12_laysFalls 24 = .ok (.aload_n 0, 1) := by decide +kernel
theorem dX12_laysFalls_25 : decode cX12_laysFalls 25 = .ok (.getfield 13, 3) := by decide +kernel
theorem dX12_laysFalls_28 : decode cX12_laysFalls 28 = .ok (.iconst 1, 1) := by decide +kernel
theorem dX12_laysFalls_29 : decode cX12_laysFalls 29 = .ok (.iaload, 1) := by decide +kernel
theorem dX12_laysFalls_30 : decode cX12_laysFalls 30 = .ok (.if_icmp .ge 25, 3) := by decide +kernel
theorem dX12_laysFalls_33 : decode cX12_laysFalls 33 = .ok (.aload_n 0, 1) := by decide +kernel
theorem dX12_laysFalls_34 : decode cX12_laysFalls 34 = .ok (.getfield 135, 3) := by decide +kernel
theorem dX12_laysFalls_37 : decode cX12_laysFalls 37 = .ok (.bipush 6, 2) := by decide +kernel
theorem dX12_laysFalls_39 : decode cX12_laysFalls 39 = .ok (.iload_n 1, 1) := by decide +kernel
theorem dX12_laysFalls_40 : decode cX12_laysFalls 40 = .ok (.imul, 1) := by decide +kernel
theorem dX12_laysFalls_41 : decode cX12_laysFalls 41 = .ok (.iload_n 2, 1) := by decide +kernel
theorem dX12_laysFalls_42 : decode cX12_laysFalls 42 = .ok (.iadd, 1) := by decide +kernel
theorem dX12_laysFalls_43 : decode cX12_laysFalls 43 = .ok (.aload_n 0, 1) := by decide +kernel
theorem dX12_laysFalls_44 : decode cX12_laysFalls 44 = .ok (.iload_n 2, 1) := by decide +kernel
theorem dX12_laysFalls_45 : decode cX12_laysFalls 45 = .ok (.invokevirtual 366, 3) := by decide +kernel
theorem dX12_laysFalls_48 : decode cX12_laysFalls 48 = .ok (.iastore, 1) := by decide +kernel
theorem dX12_laysFalls_49 : decode cX12_laysFalls 49 = .ok (.iinc 2 1, 3) := by decide +kernel
theorem dX12_laysFalls_52 : decode cX12_laysFalls 52 = .ok (.goto (-29), 3) := by decide +kernel
theorem dX12_laysFalls_55 : decode cX12_laysFalls 55 = .ok (.aload_n 0, 1) := by decide +kernel
theorem dX12_laysFalls_56 : decode cX12_laysFalls 56 = .ok (.invokevirtual 425, 3) := by decide +kernel
theorem dX12_laysFalls_59 : decode cX12_laysFalls 59 = .ok (.pop, 1) := by decide +kernel
theorem dX12_laysFalls_60 : decode cX12_laysFalls 60 = .ok (.iinc 1 1, 3) := by decide +kernel
theorem dX12_laysFalls_63 : decode cX12_laysFalls 63 = .ok (.goto (-48), 3) := by decide +kernel
theorem dX12_laysFalls_66 : decode cX12_laysFalls 66 = .ok (.aload_n 0, 1) := by decide +kernel
theorem dX12_laysFalls_67 : decode cX12_laysFalls 67 = .ok (.getfield 117, 3) := by decide +kernel
theorem dX12_laysFalls_70 : decode cX12_laysFalls 70 = .ok (.iconst 0, 1) := by decide +kernel
theorem dX12_laysFalls_71 : decode cX12_laysFalls 71 = .ok (.aload_n 0, 1) := by decide +kernel
theorem dX12_laysFalls_72 : decode cX12_laysFalls 72 = .ok (.getfield 111, 3) := by decide +kernel
theorem dX12_laysFalls_75 : decode cX12_laysFalls 75 = .ok (.iconst 0, 1) := by decide +kernel
theorem dX12_laysFalls_76 : decode cX12_laysFalls 76 = .ok (.invokestatic 409, 3) := by decide +kernel
theorem dX12_laysFalls_79 : decode cX12_laysFalls 79 = .ok (.return_, 1) := by decide +kernel
theorem fl_RX12_135 : FL RX12 135 12 57 := ⟨inG (i := 1457) (by decide +kernel) (by decide +kernel), by decide, by decide⟩
theorem go_12_57 (σ : St) (i : Nat) : go σ 12 i 57 = (1357, i) := rfl
theorem sh_1357 : shp 1357 = (0, 186) := rfl
def P_X12_laysFalls_L23  (x1 : Int) (K : St → Prop) (Q : St → Prop) : Nat → Int → St → Prop
  | 0, _, _ => False
  | n + 1, x2, σ => (if (σ 1310 0 1) ≤ x2 then K σ else P_X12_fallOf x2 σ (fun r_3 σ_2 => 0 ≤ wi ((wi (6 * x1)) + x2) ∧ wi ((wi (6 * x1)) + x2) < 186 ∧ (P_X12_laysFalls_L23 x1 K Q n) (wi (x2 + 1)) (up σ_2 1357 0 (wi ((wi (6 * x1)) + x2)) r_3)))
set_option maxRecDepth 20000 in
set_option maxHeartbeats 2000000 in
theorem e_P_X12_laysFalls_L23  {x1 : Int} {K : St → Prop} {Q : St → Prop}  (hK : ∀ σ, K σ → E Y_X12_laysFalls 6 0 0 (QV Q) ww 0 0 55 [some (vR 12 0), some (vI x1), none] [] σ) : ∀ (n : Nat) (x2 : Int) (σ : St), P_X12_laysFalls_L23 x1 K Q n x2 σ → E Y_X12_laysFalls 6 0 0 (QV Q) ww 0 0 23 [some (vR 12 0), some (vI x1), some (vI x2)] [] σ := by
  intro n
  induction n with
  | zero => intro x2 σ h; exact h.elim
  | succ n hR =>
    intro x2 σ h
    unfold P_X12_laysFalls_L23 at h
    refine E_iload_n dX12_laysFalls_23 rfl rfl ?_
    refine E_aload_n dX12_laysFalls_24 rfl rfl ?_
    refine E_getr (i := 0) dX12_laysFalls_25 fl_RX12_13 rfl rfl (go_12_10 _ _) ?_
    refine E_ic dX12_laysFalls_28 rfl ?_
    refine E_iald dX12_laysFalls_29 sh_1310 (by decide) (by decide) ?_
    refine E_icmp_ge (tgt := 55) dX12_laysFalls_30 (by decide) (fun hc => ?_) (fun hc => ?_)
    · have h := Eq.mp (if_pos hc) h
      refine E_wk2 [some (vR 12 0), some (vI x1), none] ⟨rfl, ⟨rfl, trivial⟩⟩ ?_
      exact hK _ h
    · have h := Eq.mp (if_neg hc) h
      refine E_aload_n dX12_laysFalls_33 rfl rfl ?_
      refine E_getr (i := 0) dX12_laysFalls_34 fl_RX12_135 rfl rfl (go_12_57 _ _) ?_
      refine E_bp dX12_laysFalls_37 rfl ?_
      refine E_iload_n dX12_laysFalls_39 rfl rfl ?_
      refine E_imul dX12_laysFalls_40 ?_
      refine E_iload_n dX12_laysFalls_41 rfl rfl ?_
      refine E_iadd dX12_laysFalls_42 ?_
      refine E_aload_n dX12_laysFalls_43 rfl rfl ?_
      refine E_iload_n dX12_laysFalls_44 rfl rfl ?_
      refine E_callV (Y' := Y_X12_fallOf) (as := [vI x2]) (st := [vI (wi ((wi (6 * x1)) + x2)), vR 1357 0]) dX12_laysFalls_45 lk_RX12_366 m_X12_fallOf (by decide) (Nat.le_refl _) (Nat.le_refl _) rfl rfl (Nat.le_of_ble_eq_true rfl) (s_X12_fallOf h) (fun r0 B0 σ_2 h => ?_)
      obtain ⟨r_3, rfl, rfl, h⟩ := h
      obtain ⟨hg0, hg1, h⟩ := h
      refine E_iast dX12_laysFalls_48 sh_1357 hg0 hg1 ?_
      refine E_iinc (ls' := [some (vR 12 0), some (vI x1), some (vI (wi (x2 + 1)))]) dX12_laysFalls_49 rfl (by decide) rfl rfl ?_
      refine E_goto (tgt := 23) dX12_laysFalls_52 (by decide) ?_
      exact hR _ _ h
def P_X12_laysFalls_L15   (K : St → Prop) (Q : St → Prop) : Nat → Int → St → Prop
  | 0, _, _ => False
  | n + 1, x1, σ => (if 30 < x1 then K σ else P_X12_laysFalls_L23 x1 (fun σ_4 => P_X12_endsAsTold σ_4 (fun r_6 σ_5 => (P_X12_laysFalls_L15 K Q n) (wi (x1 + 1)) σ_5)) Q FU 0 σ)
set_option maxRecDepth 20000 in
set_option maxHeartbeats 2000000 in
theorem e_P_X12_laysFalls_L15   {K : St → Prop} {Q : St → Prop}  (hK : ∀ σ, K σ → E Y_X12_laysFalls 6 0 0 (QV Q) ww 0 0 66 [some (vR 12 0), none, none] [] σ) : ∀ (n : Nat) (x1 : Int) (σ : St), P_X12_laysFalls_L15 K Q n x1 σ → E Y_X12_laysFalls 6 0 0 (QV Q) ww 0 0 15 [some (vR 12 0), some (vI x1), none] [] σ := by
  intro n
  induction n with
  | zero => intro x1 σ h; exact h.elim
  | succ n hR =>
    intro x1 σ h
    unfold P_X12_laysFalls_L15 at h
    refine E_iload_n dX12_laysFalls_15 rfl rfl ?_
    refine E_bp dX12_laysFalls_16 rfl ?_
    refine E_icmp_gt (tgt := 66) dX12_laysFalls_18 (by decide) (fun hc => ?_) (fun hc => ?_)
    · have h := Eq.mp (if_pos hc) h
      refine E_wk2 [some (vR 12 0), none, none] ⟨rfl, trivial⟩ ?_
      exact hK _ h
    · have h := Eq.mp (if_neg hc) h
      refine E_ic dX12_laysFalls_21 rfl ?_
      refine E_istore_n (ls' := [some (vR 12 0), some (vI x1), some (vI 0)]) dX12_laysFalls_22 rfl (by decide) rfl ?_
      refine e_P_X12_laysFalls_L23 ?_ _ _ _ h
      · intro σ_4 h
        refine E_aload_n dX12_laysFalls_55 rfl rfl ?_
        refine E_callV (Y' := Y_X12_endsAsTold) (as := []) (st := []) dX12_laysFalls_56 lk_RX12_425 m_X12_endsAsTold (by decide) (Nat.le_refl _) (Nat.le_refl _) rfl rfl (Nat.le_of_ble_eq_true rfl) (s_X12_endsAsTold h) (fun r0 B0 σ_5 h => ?_)
        obtain ⟨r_6, rfl, rfl, h⟩ := h
        refine E_pop dX12_laysFalls_59 (fun _ q => by cases q) ?_
        refine E_iinc (ls' := [some (vR 12 0), some (vI (wi (x1 + 1))), none]) dX12_laysFalls_60 rfl (by decide) rfl rfl ?_
        refine E_goto (tgt := 15) dX12_laysFalls_63 (by decide) ?_
        exact hR _ _ h
def P_X12_laysFalls   (σ : St) (Q : St → Prop) : Prop :=
  P_X12_copies 1346 0 0 1348 0 0 σ (fun σ_1 => P_X12_laysFalls_L15 (fun σ_7 => P_X12_copies 1348 0 0 1346 0 0 σ_7 (fun σ_8 => Q σ_8)) Q FU 0 σ_1)
set_option maxRecDepth 20000 in
set_option maxHeartbeats 2000000 in
theorem s_X12_laysFalls    {σ : St} {Q : St → Prop} (h : P_X12_laysFalls  σ Q) : Cn Y_X12_laysFalls 6 0 0 ww σ [vR 12 0] (QV Q) := by
  refine Cn_of [some (vR 12 0), none, none] (by decide) (Nat.le_of_ble_eq_true rfl) rfl ?_
  unfold P_X12_laysFalls at h
  refine E_aload_n dX12_laysFalls_0 rfl rfl ?_
  refine E_getr (i := 0) dX12_laysFalls_1 fl_RX12_111 rfl rfl (go_12_46 _ _) ?_
  refine E_ic dX12_laysFalls_4 rfl ?_
  refine E_aload_n dX12_laysFalls_5 rfl rfl ?_
  refine E_getr (i := 0) dX12_laysFalls_6 fl_RX12_117 rfl rfl (go_12_48 _ _) ?_
  refine E_ic dX12_laysFalls_9 rfl ?_
  refine E_callS (Y' := Y_X12_copies) (as := [vR 1346 0, vI 0, vR 1348 0, vI 0]) (st := []) dX12_laysFalls_10 lk_RX12_409 m_X12_copies (by decide) (Nat.le_refl _) (Nat.le_refl _) rfl rfl (Nat.le_of_ble_eq_true rfl) (s_X12_copies h) (fun r0 B0 σ_1 h => ?_)
  obtain ⟨rfl, rfl, h⟩ := h
  refine E_ic dX12_laysFalls_13 rfl ?_
  refine E_istore_n (ls' := [some (vR 12 0), some (vI 0), none]) dX12_laysFalls_14 rfl (by decide) rfl ?_
  refine e_P_X12_laysFalls_L15 ?_ _ _ _ h
  · intro σ_7 h
    refine E_aload_n dX12_laysFalls_66 rfl rfl ?_
    refine E_getr (i := 0) dX12_laysFalls_67 fl_RX12_117 rfl rfl (go_12_48 _ _) ?_
    refine E_ic dX12_laysFalls_70 rfl ?_
    refine E_aload_n dX12_laysFalls_71 rfl rfl ?_
    refine E_getr (i := 0) dX12_laysFalls_72 fl_RX12_111 rfl rfl (go_12_46 _ _) ?_
    refine E_ic dX12_laysFalls_75 rfl ?_
    refine E_callS (Y' := Y_X12_copies) (as := [vR 1348 0, vI 0, vR 1346 0, vI 0]) (st := []) dX12_laysFalls_76 lk_RX12_409 m_X12_copies (by decide) (Nat.le_refl _) (Nat.le_refl _) rfl rfl (Nat.le_of_ble_eq_true rfl) (s_X12_copies h) (fun r0 B0 σ_8 h => ?_)
    obtain ⟨rfl, rfl, h⟩ := h
    exact E_vret dX12_laysFalls_79 rfl ⟨rfl, rfl, h⟩
abbrev Y_X12_see : My := (yX12_see, cX12_see, 4, some .boolean)
theorem dX12_see_0 : decode cX12_see 0 = .ok (.aload_n 0, 1) := by decide +kernel
theorem dX12_see_1 : decode cX12_see 1 = .ok (.iconst 0, 1) := by decide +kernel
theorem dX12_see_2 : decode cX12_see 2 = .ok (.putfield 141, 3) := by decide +kernel
theorem dX12_see_5 : decode cX12_see 5 = .ok (.aload_n 0, 1) := by decide +kernel
theorem dX12_see_6 : decode cX12_see 6 = .ok (.iload_n 1, 1) := by decide +kernel
theorem dX12_see_7 : decode cX12_see 7 = .ok (.invokevirtual 403, 3) := by decide +kernel
theorem dX12_see_10 : decode cX12_see 10 = .ok (.ifCond .eq 24, 3) := by decide +kernel
theorem dX12_see_13 : decode cX12_see 13 = .ok (.iload_n 2, 1) := by decide +kernel
theorem dX12_see_14 : decode cX12_see 14 = .ok (.iconst 0, 1) := by decide +kernel
theorem dX12_see_15 : decode cX12_see 15 = .ok (.bipush 30, 2) := by decide +kernel
theorem dX12_see_17 : decode cX12_see 17 = .ok (.invokestatic 264, 3) := by decide +kernel
theorem dX12_see_20 : decode cX12_see 20 = .ok (.ifCond .eq 14, 3) := by decide +kernel
theorem dX12_see_23 : decode cX12_see 23 = .ok (.aload_n 0, 1) := by decide +kernel
theorem dX12_see_24 : decode cX12_see 24 = .ok (.getfield 99, 3) := by decide +kernel
theorem dX12_see_27 : decode cX12_see 27 = .ok (.iconst 0, 1) := by decide +kernel
theorem dX12_see_28 : decode cX12_see 28 = .ok (.iaload, 1) := by decide +kernel
theorem dX12_see_29 : decode cX12_see 29 = .ok (.bipush 8, 2) := by decide +kernel
theorem dX12_see_31 : decode cX12_see 31 = .ok (.if_icmp .ne 5, 3) := by decide +kernel
theorem dX12_see_34 : decode cX12_see 34 = .ok (.iconst 0, 1) := by decide +kernel
theorem dX12_see_35 : decode cX12_see 35 = .ok (.ireturn, 1) := by decide +kernel
theorem dX12_see_36 : decode cX12_see 36 = .ok (.aload_n 0, 1) := by decide +kernel
theorem dX12_see_37 : decode cX12_see 37 = .ok (.getfield 102, 3) := by decide +kernel
theorem dX12_see_40 : decode cX12_see 40 = .ok (.aload_n 0, 1) := by decide +kernel
theorem dX12_see_41 : decode cX12_see 41 = .ok (.getfield 99, 3) := by decide +kernel
theorem dX12_see_44 : decode cX12_see 44 = .ok (.iconst 0, 1) := by decide +kernel
theorem dX12_see_45 : decode cX12_see 45 = .ok (.iaload, 1) := by decide +kernel
theorem dX12_see_46 : decode cX12_see 46 = .ok (.iload_n 1, 1) := by decide +kernel
theorem dX12_see_47 : decode cX12_see 47 = .ok (.iastore, 1) := by decide +kernel
theorem dX12_see_48 : decode cX12_see 48 = .ok (.aload_n 0, 1) := by decide +kernel
theorem dX12_see_49 : decode cX12_see 49 = .ok (.getfield 105, 3) := by decide +kernel
theorem dX12_see_52 : decode cX12_see 52 = .ok (.aload_n 0, 1) := by decide +kernel
theorem dX12_see_53 : decode cX12_see 53 = .ok (.getfield 99, 3) := by decide +kernel
theorem dX12_see_56 : decode cX12_see 56 = .ok (.iconst 0, 1) := by decide +kernel
theorem dX12_see_57 : decode cX12_see 57 = .ok (.iaload, 1) := by decide +kernel
theorem dX12_see_58 : decode cX12_see 58 = .ok (.iload_n 2, 1) := by decide +kernel
theorem dX12_see_59 : decode cX12_see 59 = .ok (.iastore, 1) := by decide +kernel
theorem dX12_see_60 : decode cX12_see 60 = .ok (.aload_n 0, 1) := by decide +kernel
theorem dX12_see_61 : decode cX12_see 61 = .ok (.getfield 108, 3) := by decide +kernel
theorem dX12_see_64 : decode cX12_see 64 = .ok (.aload_n 0, 1) := by decide +kernel
theorem dX12_see_65 : decode cX12_see 65 = .ok (.getfield 99, 3) := by decide +kernel
theorem dX12_see_68 : decode cX12_see 68 = .ok (.iconst 0, 1) := by decide +kernel
theorem dX12_see_69 : decode cX12_see 69 = .ok (.iaload, 1) := by decide +kernel
theorem dX12_see_70 : decode cX12_see 70 = .ok (.iload_n 3, 1) := by decide +kernel
theorem dX12_see_71 : decode cX12_see 71 = .ok (.bastore, 1) := by decide +kernel
theorem dX12_see_72 : decode cX12_see 72 = .ok (.aload_n 0, 1) := by decide +kernel
theorem dX12_see_73 : decode cX12_see 73 = .ok (.getfield 99, 3) := by decide +kernel
theorem dX12_see_76 : decode cX12_see 76 = .ok (.iconst 0, 1) := by decide +kernel
theorem dX12_see_77 : decode cX12_see 77 = .ok (.dup2, 1) := by decide +kernel
theorem dX12_see_78 : decode cX12_see 78 = .ok (.iaload, 1) := by decide +kernel
theorem dX12_see_79 : decode cX12_see 79 = .ok (.iconst 1, 1) := by decide +kernel
theorem dX12_see_80 : decode cX12_see 80 = .ok (.iadd, 1) := by decide +kernel
theorem dX12_see_81 : decode cX12_see 81 = .ok (.iastore, 1) := by decide +kernel
theorem dX12_see_82 : decode cX12_see 82 = .ok (.iconst 1, 1) := by decide +kernel
theorem dX12_see_83 : decode cX12_see 83 = .ok (.ireturn, 1) := by decide +kernel
def P_X12_see  (x1 : Int) (x2 : Int) (x3 : Int) (σ : St) (Q : Int → St → Prop) : Prop :=
  P_X12_isCounter x1 (up σ 12 0 0 0) (fun r_2 σ_1 => (if r_2 = 0 then Q 0 σ_1 else P_X12_within x2 0 30 σ_1 (fun r_4 σ_3 => (if r_4 = 0 then Q 0 σ_3 else (if (σ_3 1342 0 0) = 8 then Q 0 σ_3 else 0 ≤ σ_3 1342 0 0 ∧ σ_3 1342 0 0 < 40 ∧ 0 ≤ (up σ_3 1343 0 (σ_3 1342 0 0) x1) 1342 0 0 ∧ (up σ_3 1343 0 (σ_3 1342 0 0) x1) 1342 0 0 < 40 ∧ 0 ≤ (up (up σ_3 1343 0 (σ_3 1342 0 0) x1) 1344 0 ((up σ_3 1343 0 (σ_3 1342 0 0) x1) 1342 0 0) x2) 1342 0 0 ∧ (up (up σ_3 1343 0 (σ_3 1342 0 0) x1) 1344 0 ((up σ_3 1343 0 (σ_3 1342 0 0) x1) 1342 0 0) x2) 1342 0 0 < 40 ∧ (x3 = 0 ∨ x3 = 1) ∧ Q 1 (up (up (up (up σ_3 1343 0 (σ_3 1342 0 0) x1) 1344 0 ((up σ_3 1343 0 (σ_3 1342 0 0) x1) 1342 0 0) x2) 1345 0 ((up (up σ_3 1343 0 (σ_3 1342 0 0) x1) 1344 0 ((up σ_3 1343 0 (σ_3 1342 0 0) x1) 1342 0 0) x2) 1342 0 0) x3) 1342 0 0 (wi (((up (up (up σ_3 1343 0 (σ_3 1342 0 0) x1) 1344 0 ((up σ_3 1343 0 (σ_3 1342 0 0) x1) 1342 0 0) x2) 1345 0 ((up (up σ_3 1343 0 (σ_3 1342 0 0) x1) 1344 0 ((up σ_3 1343 0 (σ_3 1342 0 0) x1) 1342 0 0) x2) 1342 0 0) x3) 1342 0 0) + 1))))))))
set_option maxRecDepth 20000 in
set_option maxHeartbeats 2000000 in
theorem s_X12_see   {x1 : Int} {x2 : Int} {x3 : Int} {σ : St} {Q : Int → St → Prop} (h : P_X12_see x1 x2 x3 σ Q) : Cn Y_X12_see 1 0 0 ww σ [vR 12 0, vI x1, vI x2, vI x3] (QI Q) := by
  refine Cn_of [some (vR 12 0), some (vI x1), some (vI x2), some (vI x3)] (by decide) (Nat.le_of_ble_eq_true rfl) rfl ?_
  unfold P_X12_see at h
  refine E_aload_n dX12_see_0 rfl rfl ?_
  refine E_ic dX12_see_1 rfl ?_
  refine E_puti dX12_see_2 fl_RX12_141 rfl rfl rfl ?_
  refine E_aload_n dX12_see_5 rfl rfl ?_
  refine E_iload_n dX12_see_6 rfl rfl ?_
  refine E_callV (Y' := Y_X12_isCounter) (as := [vI x1]) (st := []) dX12_see_7 lk_RX12_403 m_X12_isCounter (by decide) (Nat.le_refl _) (Nat.le_refl _) rfl rfl (Nat.le_of_ble_eq_true rfl) (s_X12_isCounter h) (fun r0 B0 σ_1 h => ?_)
  obtain ⟨r_2, rfl, rfl, h⟩ := h
  refine E_if_eq (tgt := 34) dX12_see_10 (by decide) (fun hc => ?_) (fun hc => ?_)
  · have h := Eq.mp (if_pos hc) h
    refine E_ic dX12_see_34 rfl ?_
    exact E_zret dX12_see_35 rfl (by decide) ⟨_, rfl, rfl, h⟩
  · have h := Eq.mp (if_neg hc) h
    refine E_iload_n dX12_see_13 rfl rfl ?_
    refine E_ic dX12_see_14 rfl ?_
    refine E_bp dX12_see_15 rfl ?_
    refine E_callS (Y' := Y_X12_within) (as := [vI x2, vI 0, vI 30]) (st := []) dX12_see_17 lk_RX12_264 m_X12_within (by decide) (Nat.le_refl _) (Nat.le_refl _) rfl rfl (Nat.le_of_ble_eq_true rfl) (s_X12_within h) (fun r0 B0 σ_3 h => ?_)
    obtain ⟨r_4, rfl, rfl, h⟩ := h
    refine E_if_eq (tgt := 34) dX12_see_20 (by decide) (fun hc => ?_) (fun hc => ?_)
    · have h := Eq.mp (if_pos hc) h
      refine E_ic dX12_see_34 rfl ?_
      exact E_zret dX12_see_35 rfl (by decide) ⟨_, rfl, rfl, h⟩
    · have h := Eq.mp (if_neg hc) h
      refine E_aload_n dX12_see_23 rfl rfl ?_
      refine E_getr (i := 0) dX12_see_24 fl_RX12_99 rfl rfl (go_12_42 _ _) ?_
      refine E_ic dX12_see_27 rfl ?_
      refine E_iald dX12_see_28 sh_1342 (by decide) (by decide) ?_
      refine E_bp dX12_see_29 rfl ?_
      refine E_icmp_ne (tgt := 36) dX12_see_31 (by decide) (fun hc => ?_) (fun hc => ?_)
      · have h := Eq.mp (if_neg hc) h
        refine E_aload_n dX12_see_36 rfl rfl ?_
        refine E_getr (i := 0) dX12_see_37 fl_RX12_102 rfl rfl (go_12_43 _ _) ?_
        refine E_aload_n dX12_see_40 rfl rfl ?_
        refine E_getr (i := 0) dX12_see_41 fl_RX12_99 rfl rfl (go_12_42 _ _) ?_
        refine E_ic dX12_see_44 rfl ?_
        refine E_iald dX12_see_45 sh_1342 (by decide) (by decide) ?_
        refine E_iload_n dX12_see_46 rfl rfl ?_
        obtain ⟨hg0, hg1, h⟩ := h
        refine E_iast dX12_see_47 sh_1343 hg0 hg1 ?_
        refine E_aload_n dX12_see_48 rfl rfl ?_
        refine E_getr (i := 0) dX12_see_49 fl_RX12_105 rfl rfl (go_12_44 _ _) ?_
        refine E_aload_n dX12_see_52 rfl rfl ?_
        refine E_getr (i := 0) dX12_see_53 fl_RX12_99 rfl rfl (go_12_42 _ _) ?_
        refine E_ic dX12_see_56 rfl ?_
        refine E_iald dX12_see_57 sh_1342 (by decide) (by decide) ?_
        refine E_iload_n dX12_see_58 rfl rfl ?_
        obtain ⟨hg0, hg1, h⟩ := h
        refine E_iast dX12_see_59 sh_1344 hg0 hg1 ?_
        refine E_aload_n dX12_see_60 rfl rfl ?_
        refine E_getr (i := 0) dX12_see_61 fl_RX12_108 rfl rfl (go_12_45 _ _) ?_
        refine E_aload_n dX12_see_64 rfl rfl ?_
        refine E_getr (i := 0) dX12_see_65 fl_RX12_99 rfl rfl (go_12_42 _ _) ?_
        refine E_ic dX12_see_68 rfl ?_
        refine E_iald dX12_see_69 sh_1342 (by decide) (by decide) ?_
        refine E_iload_n dX12_see_70 rfl rfl ?_
        obtain ⟨hg0, hg1, hg2, h⟩ := h
        refine E_zast dX12_see_71 sh_1345 hg0 hg1 hg2 ?_
        refine E_aload_n dX12_see_72 rfl rfl ?_
        refine E_getr (i := 0) dX12_see_73 fl_RX12_99 rfl rfl (go_12_42 _ _) ?_
        refine E_ic dX12_see_76 rfl ?_
        refine E_dup2 dX12_see_77 (fun _ q => by cases q) (fun _ q => by cases q) ?_
        refine E_iald dX12_see_78 sh_1342 (by decide) (by decide) ?_
        refine E_ic dX12_see_79 rfl ?_
        refine E_iadd dX12_see_80 ?_
        refine E_iast dX12_see_81 sh_1342 (by decide) (by decide) ?_
        refine E_ic dX12_see_82 rfl ?_
        exact E_zret dX12_see_83 rfl (by decide) ⟨_, rfl, rfl, h⟩
      · have h := Eq.mp (if_pos hc) h
        refine E_ic dX12_see_34 rfl ?_
        exact E_zret dX12_see_35 rfl (by decide) ⟨_, rfl, rfl, h⟩
abbrev Y_X12_isAsSeen : My := (yX12_isAsSeen, cX12_isAsSeen, 3, some .boolean)
theorem dX12_isAsSeen_0 : decode cX12_isAsSeen 0 = .ok (.iconst 0, 1) := by decide +kernel
theorem dX12_isAsSeen_1 : decode cX12_isAsSeen 1 = .ok (.istore_n 2, 1) := by decide +kernel
theorem dX12_isAsSeen_2 : decode cX12_isAsSeen 2 = .ok (.iload_n 2, 1) := by decide +kernel
theorem dX12_isAsSeen_3 : decode cX12_isAsSeen 3 = .ok (.aload_n 0, 1) := by decide +kernel
theorem dX12_isAsSeen_4 : decode cX12_isAsSeen 4 = .ok (.getfield 99, 3) := by decide +kernel
theorem dX12_isAsSeen_7 : decode cX12_isAsSeen 7 = .ok (.iconst 0, 1) := by decide +kernel
theorem dX12_isAsSeen_8 : decode cX12_isAsSeen 8 = .ok (.iaload, 1) := by decide +kernel
theorem dX12_isAsSeen_9 : decode cX12_isAsSeen 9 = .ok (.if_icmp .ge 50, 3) := by decide +kernel
theorem dX12_isAsSeen_12 : decode cX12_isAsSeen 12 = .ok (.aload_n 0, 1) := by decide +kernel
theorem dX12_isAsSeen_13 : decode cX12_isAsSeen 13 = .ok (.getfield 135, 3) := by decide +kernel
theorem dX12_isAsSeen_16 : decode cX12_isAsSeen 16 = .ok (.bipush 6, 2) := by decide +kernel
theorem dX12_isAsSeen_18 : decode cX12_isAsSeen 18 = .ok (.aload_n 0, 1) := by decide +kernel
theorem dX12_isAsSeen_19 : decode cX12_isAsSeen 19 = .ok (.getfield 105, 3) := by decide +kernel
theorem dX12_isAsSeen_22 : decode cX12_isAsSeen 22 = .ok (.iload_n 2, 1) := by decide +kernel
theorem dX12_isAsSeen_23 : decode cX12_isAsSeen 23 = .ok (.iaload, 1) := by decide +kernel
theorem dX12_isAsSeen_24 : decode cX12_isAsSeen 24 = .ok (.imul, 1) := by decide +kernel
theorem dX12_isAsSeen_25 : decode cX12_isAsSeen 25 = .ok (.iload_n 1, 1) := by decide +kernel
theorem dX12_isAsSeen_26 : decode cX12_isAsSeen 26 = .ok (.iadd, 1) := by decide +kernel
theorem dX12_isAsSeen_27 : decode cX12_isAsSeen 27 = .ok (.iaload, 1) := by decide +kernel
theorem dX12_isAsSeen_28 : decode cX12_isAsSeen 28 = .ok (.aload_n 0, 1) := by decide +kernel
theorem dX12_isAsSeen_29 : decode cX12_isAsSeen 29 = .ok (.getfield 102, 3) := by decide +kernel
theorem dX12_isAsSeen_32 : decode cX12_isAsSeen 32 = .ok (.iload_n 2, 1) := by decide +kernel
theorem dX12_isAsSeen_33 : decode cX12_isAsSeen 33 = .ok (.iaload, 1) := by decide +kernel
theorem dX12_isAsSeen_34 : decode cX12_isAsSeen 34 = .ok (.if_icmp .ne 7, 3) := by decide +kernel
theorem dX12_isAsSeen_37 : decode cX12_isAsSeen 37 = .ok (.iconst 1, 1) := by decide +kernel
theorem dX12_isAsSeen_38 : decode cX12_isAsSeen 38 = .ok (.goto 4, 3) := by decide +kernel
theorem dX12_isAsSeen_41 : decode cX12_isAsSeen 41 = .ok (.iconst 0, 1) := by decide +kernel
theorem dX12_isAsSeen_42 : decode cX12_isAsSeen 42 = .ok (.aload_n 0, 1) := by decide +kernel
theorem dX12_isAsSeen_43 : decode cX12_isAsSeen 43 = .ok (.getfield 108, 3) := by decide +kernel
theorem dX12_isAsSeen_46 : decode cX12_isAsSeen 46 = .ok (.iload_n 2, 1) := by decide +kernel
theorem dX12_isAsSeen_47 : decode cX12_isAsSeen 47 = .ok (.baload, 1) := by decide +kernel
theorem dX12_isAsSeen_48 : decode cX12_isAsSeen 48 = .ok (.if_icmp .eq 5, 3) := by decide +kernel
theorem dX12_isAsSeen_51 : decode cX12_isAsSeen 51 = .ok (.iconst 0, 1) := by decide +kernel
theorem dX12_isAsSeen_52 : decode cX12_isAsSeen 52 = .ok (.ireturn, 1) := by decide +kernel
theorem dX12_isAsSeen_53 : decode cX12_isAsSeen 53 = .ok (.iinc 2 1, 3) := by decide +kernel
theorem dX12_isAsSeen_56 : decode cX12_isAsSeen 56 = .ok (.goto (-54), 3) := by decide +kernel
theorem dX12_isAsSeen_59 : decode cX12_isAsSeen 59 = .ok (.iconst 1, 1) := by decide +kernel
theorem dX12_isAsSeen_60 : decode cX12_isAsSeen 60 = .ok (.ireturn, 1) := by decide +kernel
def P_X12_isAsSeen_J42  (x1 : Int) (x2 : Int) (y0 : Int) (R : Int → St → Prop) (Q : Int → St → Prop) (σ : St) : Prop :=
  0 ≤ x2 ∧ x2 < 40 ∧ (if y0 = (σ 1345 0 x2) then R (wi (x2 + 1)) σ else Q 0 σ)
set_option maxRecDepth 20000 in
set_option maxHeartbeats 2000000 in
theorem e_P_X12_isAsSeen_J42  {x1 : Int} {x2 : Int} {y0 : Int} {R : Int → St → Prop} {Q : Int → St → Prop} {σ : St}  (hR : ∀ x2 σ, R x2 σ → E Y_X12_isAsSeen 0 0 0 (QI Q) ww 0 0 2 [some (vR 12 0), some (vI x1), some (vI x2)] [] σ) (h : P_X12_isAsSeen_J42 x1 x2 y0 R Q σ) : E Y_X12_isAsSeen 0 0 0 (QI Q) ww 0 0 42 [some (vR 12 0), some (vI x1), some (vI x2)] [vI y0] σ := by
  unfold P_X12_isAsSeen_J42 at h
  refine E_aload_n dX12_isAsSeen_42 rfl rfl ?_
  refine E_getr (i := 0) dX12_isAsSeen_43 fl_RX12_108 rfl rfl (go_12_45 _ _) ?_
  refine E_iload_n dX12_isAsSeen_46 rfl rfl ?_
  obtain ⟨hg0, hg1, h⟩ := h
  refine E_zald dX12_isAsSeen_47 sh_1345 hg0 hg1 ?_
  refine E_icmp_eq (tgt := 53) dX12_isAsSeen_48 (by decide) (fun hc => ?_) (fun hc => ?_)
  · have h := Eq.mp (if_pos hc) h
    refine E_iinc (ls' := [some (vR 12 0), some (vI x1), some (vI (wi (x2 + 1)))]) dX12_isAsSeen_53 rfl (by decide) rfl rfl ?_
    refine E_goto (tgt := 2) dX12_isAsSeen_56 (by decide) ?_
    exact hR _ _ h
  · have h := Eq.mp (if_neg hc) h
    refine E_ic dX12_isAsSeen_51 rfl ?_
    exact E_zret dX12_isAsSeen_52 rfl (by decide) ⟨_, rfl, rfl, h⟩
def P_X12_isAsSeen_L2  (x1 : Int)  (Q : Int → St → Prop) : Nat → Int → St → Prop
  | 0, _, _ => False
  | n + 1, x2, σ => (if (σ 1342 0 0) ≤ x2 then Q 1 σ else 0 ≤ x2 ∧ x2 < 40 ∧ 0 ≤ wi ((wi (6 * (σ 1344 0 x2))) + x1) ∧ wi ((wi (6 * (σ 1344 0 x2))) + x1) < 186 ∧ 0 ≤ x2 ∧ x2 < 40 ∧ (if (σ 1357 0 (wi ((wi (6 * (σ 1344 0 x2))) + x1))) = (σ 1343 0 x2) then P_X12_isAsSeen_J42 x1 x2 1 (P_X12_isAsSeen_L2 x1 Q n) Q σ else P_X12_isAsSeen_J42 x1 x2 0 (P_X12_isAsSeen_L2 x1 Q n) Q σ))
set_option maxRecDepth 20000 in
set_option maxHeartbeats 2000000 in
theorem e_P_X12_isAsSeen_L2  {x1 : Int}  {Q : Int → St → Prop}   : ∀ (n : Nat) (x2 : Int) (σ : St), P_X12_isAsSeen_L2 x1 Q n x2 σ → E Y_X12_isAsSeen 0 0 0 (QI Q) ww 0 0 2 [some (vR 12 0), some (vI x1), some (vI x2)] [] σ := by
  intro n
  induction n with
  | zero => intro x2 σ h; exact h.elim
  | succ n hR =>
    intro x2 σ h
    unfold P_X12_isAsSeen_L2 at h
    refine E_iload_n dX12_isAsSeen_2 rfl rfl ?_
    refine E_aload_n dX12_isAsSeen_3 rfl rfl ?_
    refine E_getr (i := 0) dX12_isAsSeen_4 fl_RX12_99 rfl rfl (go_12_42 _ _) ?_
    refine E_ic dX12_isAsSeen_7 rfl ?_
    refine E_iald dX12_isAsSeen_8 sh_1342 (by decide) (by decide) ?_
    refine E_icmp_ge (tgt := 59) dX12_isAsSeen_9 (by decide) (fun hc => ?_) (fun hc => ?_)
    · have h := Eq.mp (if_pos hc) h
      refine E_ic dX12_isAsSeen_59 rfl ?_
      exact E_zret dX12_isAsSeen_60 rfl (by decide) ⟨_, rfl, rfl, h⟩
    · have h := Eq.mp (if_neg hc) h
      refine E_aload_n dX12_isAsSeen_12 rfl rfl ?_
      refine E_getr (i := 0) dX12_isAsSeen_13 fl_RX12_135 rfl rfl (go_12_57 _ _) ?_
      refine E_bp dX12_isAsSeen_16 rfl ?_
      refine E_aload_n dX12_isAsSeen_18 rfl rfl ?_
      refine E_getr (i := 0) dX12_isAsSeen_19 fl_RX12_105 rfl rfl (go_12_44 _ _) ?_
      refine E_iload_n dX12_isAsSeen_22 rfl rfl ?_
      obtain ⟨hg0, hg1, h⟩ := h
      refine E_iald dX12_isAsSeen_23 sh_1344 hg0 hg1 ?_
      refine E_imul dX12_isAsSeen_24 ?_
      refine E_iload_n dX12_isAsSeen_25 rfl rfl ?_
      refine E_iadd dX12_isAsSeen_26 ?_
      obtain ⟨hg0, hg1, h⟩ := h
      refine E_iald dX12_isAsSeen_27 sh_1357 hg0 hg1 ?_
      refine E_aload_n dX12_isAsSeen_28 rfl rfl ?_
      refine E_getr (i := 0) dX12_isAsSeen_29 fl_RX12_102 rfl rfl (go_12_43 _ _) ?_
      refine E_iload_n dX12_isAsSeen_32 rfl rfl ?_
      obtain ⟨hg0, hg1, h⟩ := h
      refine E_iald dX12_isAsSeen_33 sh_1343 hg0 hg1 ?_
      refine E_icmp_ne (tgt := 41) dX12_isAsSeen_34 (by decide) (fun hc => ?_) (fun hc => ?_)
      · have h := Eq.mp (if_neg hc) h
        refine E_ic dX12_isAsSeen_41 rfl ?_
        exact e_P_X12_isAsSeen_J42 hR h
      · have h := Eq.mp (if_pos hc) h
        refine E_ic dX12_isAsSeen_37 rfl ?_
        refine E_goto (tgt := 42) dX12_isAsSeen_38 (by decide) ?_
        exact e_P_X12_isAsSeen_J42 hR h
def P_X12_isAsSeen  (x1 : Int) (σ : St) (Q : Int → St → Prop) : Prop :=
  P_X12_isAsSeen_L2 x1 Q FU 0 σ
set_option maxRecDepth 20000 in
set_option maxHeartbeats 2000000 in
theorem s_X12_isAsSeen   {x1 : Int} {σ : St} {Q : Int → St → Prop} (h : P_X12_isAsSeen x1 σ Q) : Cn Y_X12_isAsSeen 0 0 0 ww σ [vR 12 0, vI x1] (QI Q) := by
  refine Cn_of [some (vR 12 0), some (vI x1), none] (by decide) (Nat.le_of_ble_eq_true rfl) rfl ?_
  unfold P_X12_isAsSeen at h
  refine E_ic dX12_isAsSeen_0 rfl ?_
  refine E_istore_n (ls' := [some (vR 12 0), some (vI x1), some (vI 0)]) dX12_isAsSeen_1 rfl (by decide) rfl ?_
  refine e_P_X12_isAsSeen_L2  _ _ _ h
abbrev Y_X12_who : My := (yX12_who, cX12_who, 3, some .int)
theorem dX12_who_0 : decode cX12_who 0 = .ok (.aload_n 0, 1) := by decide +kernel
theorem dX12_who_1 : decode cX12_who 1 = .ok (.iconst 0, 1) := by decide +kernel
theorem dX12_who_2 : decode cX12_who 2 = .ok (.putfield 141, 3) := by decide +kernel
theorem dX12_who_5 : decode cX12_who 5 = .ok (.aload_n 0, 1) := by decide +kernel
theorem dX12_who_6 : decode cX12_who 6 = .ok (.invokevirtual 463, 3) := by decide +kernel
theorem dX12_who_9 : decode cX12_who 9 = .ok (.iconst 0, 1) := by decide +kernel
theorem dX12_who_10 : decode cX12_who 10 = .ok (.istore_n 1, 1) := by decide +kernel
theorem dX12_who_11 : decode cX12_who 11 = .ok (.iconst 0, 1) := by decide +kernel
theorem dX12_who_12 : decode cX12_who 12 = .ok (.istore_n 2, 1) := by decide +kernel
theorem dX12_who_13 : decode cX12_who 13 = .ok (.iload_n 2, 1) := by decide +kernel
theorem dX12_who_14 : decode cX12_who 14 = .ok (.aload_n 0, 1) := by decide +kernel
theorem dX12_who_15 : decode cX12_who 15 = .ok (.getfield 13, 3) := by decide +kernel
theorem dX12_who_18 : decode cX12_who 18 = .ok (.iconst 1, 1) := by decide +kernel
theorem dX12_who_19 : decode cX12_who 19 = .ok (.iaload, 1) := by decide +kernel
theorem dX12_who_20 : decode cX12_who 20 = .ok (.if_icmp .ge 27, 3) := by decide +kernel
theorem dX12_who_23 : decode cX12_who 23 = .ok (.iload_n 1, 1) := by decide +kernel
theorem dX12_who_24 : decode cX12_who 24 = .ok (.aload_n 0, 1) := by decide +kernel
theorem dX12_who_25 : decode cX12_who 25 = .ok (.iload_n 2, 1) := by decide +kernel
theorem dX12_who_26 : decode cX12_who 26 = .ok (.invokevirtual 466, 3) := by decide +kernel
theorem dX12_who_29 : decode cX12_who 29 = .ok (.ifCond .eq 9, 3) := by decide +kernel
theorem dX12_who_32 : decode cX12_who 32 = .ok (.iconst 1, 1) := by decide +kernel
theorem dX12_who_33 : decode cX12_who 33 = .ok (.iload_n 2, 1) := by decide +kernel
theorem dX12_who_34 : decode cX12_who 34 = .ok (.ishl, 1) := by decide +kernel
theorem dX12_who_35 : decode cX12_who 35 = .ok (.goto 4, 3) := by decide +kernel
theorem dX12_who_38 : decode cX12_who 38 = .ok (.iconst 0, 1) := by decide +kernel
theorem dX12_who_39 : decode cX12_who 39 = .ok (.ior, 1) := by decide +kernel
theorem dX12_who_40 : decode cX12_who 40 = .ok (.istore_n 1, 1) := by decide +kernel
theorem dX12_who_41 : decode cX12_who 41 = .ok (.iinc 2 1, 3) := by decide +kernel
theorem dX12_who_44 : decode cX12_who 44 = .ok (.goto (-31), 3) := by decide +kernel
theorem dX12_who_47 : decode cX12_who 47 = .ok (.iload_n 1, 1) := by decide +kernel
theorem dX12_who_48 : decode cX12_who 48 = .ok (.ireturn, 1) := by decide +kernel
theorem lk_RX12_463 : Cond.methodLink RX12 463 yX12_laysFalls ∈ tG := inG (i := 2005) (by decide +kernel) (by decide +kernel)
theorem lk_RX12_466 : Cond.methodLink RX12 466 yX12_isAsSeen ∈ tG := inG (i := 2009) (by decide +kernel) (by decide +kernel)
theorem m_X12_isAsSeen : MV Y_X12_isAsSeen 1 12 := ⟨⟨inG (i := 2012) (by decide +kernel) (by decide +kernel), inG (i := 110) (by decide +kernel) (by decide +kernel), by decide, by decide, by decide, by decide +kernel⟩, inG (i := 2011) (by decide +kernel) (by decide +kernel), inG (i := 92) (by decide +kernel) (by decide +kernel), by decide⟩
theorem m_X12_laysFalls : MV Y_X12_laysFalls 0 12 := ⟨⟨inG (i := 2008) (by decide +kernel) (by decide +kernel), inG (i := 110) (by decide +kernel) (by decide +kernel), by decide, by decide, by decide, by decide +kernel⟩, inG (i := 2007) (by decide +kernel) (by decide +kernel), inG (i := 91) (by decide +kernel) (by decide +kernel), by decide⟩
def P_X12_who_L13    (Q : Int → St → Prop) : Nat → Int → Int → St → Prop
  | 0, _, _, _ => False
  | n + 1, x1, x2, σ => (if (σ 1310 0 1) ≤ x2 then Q x1 σ else P_X12_isAsSeen x2 σ (fun r_3 σ_2 => (if r_3 = 0 then (P_X12_who_L13 Q n) (bO x1 0) (wi (x2 + 1)) σ_2 else (P_X12_who_L13 Q n) (bO x1 (bL 1 x2)) (wi (x2 + 1)) σ_2)))
set_option maxRecDepth 20000 in
set_option maxHeartbeats 2000000 in
theorem e_P_X12_who_L13    {Q : Int → St → Prop}   : ∀ (n : Nat) (x1 : Int) (x2 : Int) (σ : St), P_X12_who_L13 Q n x1 x2 σ → E Y_X12_who 7 0 0 (QI Q) ww 0 0 13 [some (vR 12 0), some (vI x1), some (vI x2)] [] σ := by
  intro n
  induction n with
  | zero => intro x1 x2 σ h; exact h.elim
  | succ n hR =>
    intro x1 x2 σ h
    unfold P_X12_who_L13 at h
    refine E_iload_n dX12_who_13 rfl rfl ?_
    refine E_aload_n dX12_who_14 rfl rfl ?_
    refine E_getr (i := 0) dX12_who_15 fl_RX12_13 rfl rfl (go_12_10 _ _) ?_
    refine E_ic dX12_who_18 rfl ?_
    refine E_iald dX12_who_19 sh_1310 (by decide) (by decide) ?_
    refine E_icmp_ge (tgt := 47) dX12_who_20 (by decide) (fun hc => ?_) (fun hc => ?_)
    · have h := Eq.mp (if_pos hc) h
      refine E_iload_n dX12_who_47 rfl rfl ?_
      exact E_iret dX12_who_48 rfl ⟨_, rfl, rfl, h⟩
    · have h := Eq.mp (if_neg hc) h
      refine E_iload_n dX12_who_23 rfl rfl ?_
      refine E_aload_n dX12_who_24 rfl rfl ?_
      refine E_iload_n dX12_who_25 rfl rfl ?_
      refine E_callV (Y' := Y_X12_isAsSeen) (as := [vI x2]) (st := [vI x1]) dX12_who_26 lk_RX12_466 m_X12_isAsSeen (by decide) (Nat.le_refl _) (Nat.le_refl _) rfl rfl (Nat.le_of_ble_eq_true rfl) (s_X12_isAsSeen h) (fun r0 B0 σ_2 h => ?_)
      obtain ⟨r_3, rfl, rfl, h⟩ := h
      refine E_if_eq (tgt := 38) dX12_who_29 (by decide) (fun hc => ?_) (fun hc => ?_)
      · have h := Eq.mp (if_pos hc) h
        refine E_ic dX12_who_38 rfl ?_
        refine E_ior dX12_who_39 ?_
        refine E_istore_n (ls' := [some (vR 12 0), some (vI (bO x1 0)), some (vI x2)]) dX12_who_40 rfl (by decide) rfl ?_
        refine E_iinc (ls' := [some (vR 12 0), some (vI (bO x1 0)), some (vI (wi (x2 + 1)))]) dX12_who_41 rfl (by decide) rfl rfl ?_
        refine E_goto (tgt := 13) dX12_who_44 (by decide) ?_
        exact hR _ _ _ h
      · have h := Eq.mp (if_neg hc) h
        refine E_ic dX12_who_32 rfl ?_
        refine E_iload_n dX12_who_33 rfl rfl ?_
        refine E_ishl dX12_who_34 ?_
        refine E_goto (tgt := 39) dX12_who_35 (by decide) ?_
        refine E_ior dX12_who_39 ?_
        refine E_istore_n (ls' := [some (vR 12 0), some (vI (bO x1 (bL 1 x2))), some (vI x2)]) dX12_who_40 rfl (by decide) rfl ?_
        refine E_iinc (ls' := [some (vR 12 0), some (vI (bO x1 (bL 1 x2))), some (vI (wi (x2 + 1)))]) dX12_who_41 rfl (by decide) rfl rfl ?_
        refine E_goto (tgt := 13) dX12_who_44 (by decide) ?_
        exact hR _ _ _ h
def P_X12_who   (σ : St) (Q : Int → St → Prop) : Prop :=
  P_X12_laysFalls (up σ 12 0 0 0) (fun σ_1 => P_X12_who_L13 Q FU 0 0 σ_1)
set_option maxRecDepth 20000 in
set_option maxHeartbeats 2000000 in
theorem s_X12_who    {σ : St} {Q : Int → St → Prop} (h : P_X12_who  σ Q) : Cn Y_X12_who 7 0 0 ww σ [vR 12 0] (QI Q) := by
  refine Cn_of [some (vR 12 0), none, none] (by decide) (Nat.le_of_ble_eq_true rfl) rfl ?_
  unfold P_X12_who at h
  refine E_aload_n dX12_who_0 rfl rfl ?_
  refine E_ic dX12_who_1 rfl ?_
  refine E_puti dX12_who_2 fl_RX12_141 rfl rfl rfl ?_
  refine E_aload_n dX12_who_5 rfl rfl ?_
  refine E_callV (Y' := Y_X12_laysFalls) (as := []) (st := []) dX12_who_6 lk_RX12_463 m_X12_laysFalls (by decide) (Nat.le_refl _) (Nat.le_refl _) rfl rfl (Nat.le_of_ble_eq_true rfl) (s_X12_laysFalls h) (fun r0 B0 σ_1 h => ?_)
  obtain ⟨rfl, rfl, h⟩ := h
  refine E_ic dX12_who_9 rfl ?_
  refine E_istore_n (ls' := [some (vR 12 0), some (vI 0), none]) dX12_who_10 rfl (by decide) rfl ?_
  refine E_ic dX12_who_11 rfl ?_
  refine E_istore_n (ls' := [some (vR 12 0), some (vI 0), some (vI 0)]) dX12_who_12 rfl (by decide) rfl ?_
  refine e_P_X12_who_L13  _ _ _ _ h
abbrev Y_X12_ask : My := (yX12_ask, cX12_ask, 9, some .int)
theorem dX12_ask_0 : decode cX12_ask 0 = .ok (.aload_n 0, 1) := by decide +kernel
theorem dX12_ask_1 : decode cX12_ask 1 = .ok (.iconst 0, 1) := by decide +kernel
theorem dX12_ask_2 : decode cX12_ask 2 = .ok (.putfield 141, 3) := by decide +kernel
theorem dX12_ask_5 : decode cX12_ask 5 = .ok (.aload_n 0, 1) := by decide +kernel
theorem dX12_ask_6 : decode cX12_ask 6 = .ok (.invokevirtual 469, 3) := by decide +kernel
theorem dX12_ask_9 : decode cX12_ask 9 = .ok (.istore_n 1, 1) := by decide +kernel
theorem dX12_ask_10 : decode cX12_ask 10 = .ok (.iload_n 1, 1) := by decide +kernel
theorem dX12_ask_11 : decode cX12_ask 11 = .ok (.invokestatic 391, 3) := by decide +kernel
theorem dX12_ask_14 : decode cX12_ask 14 = .ok (.istore_n 2, 1) := by decide +kernel
theorem dX12_ask_15 : decode cX12_ask 15 = .ok (.iload_n 2, 1) := by decide +kernel
theorem dX12_ask_16 : decode cX12_ask 16 = .ok (.istore_n 3, 1) := by decide +kernel
theorem dX12_ask_17 : decode cX12_ask 17 = .ok (.iconst (-1), 1) := by decide +kernel
theorem dX12_ask_18 : decode cX12_ask 18 = .ok (.istore 4, 2) := by decide +kernel
theorem dX12_ask_20 : decode cX12_ask 20 = .ok (.iconst 0, 1) := by decide +kernel
theorem dX12_ask_21 : decode cX12_ask 21 = .ok (.istore 5, 2) := by decide +kernel
theorem dX12_ask_23 : decode cX12_ask 23 = .ok (.iload 5, 2) := by decide +kernel
theorem dX12_ask_25 : decode cX12_ask 25 = .ok (.bipush 30, 2) := by decide +kernel
theorem dX12_ask_27 : decode cX12_ask 27 = .ok (.if_icmp .gt 123, 3) := by decide +kernel
theorem dX12_ask_30 : decode cX12_ask 30 = .ok (.iconst 0, 1) := by decide +kernel
theorem dX12_ask_31 : decode cX12_ask 31 = .ok (.istore 6, 2) := by decide +kernel
theorem dX12_ask_33 : decode cX12_ask 33 = .ok (.iload 6, 2) := by decide +kernel
theorem dX12_ask_35 : decode cX12_ask 35 = .ok (.aload_n 0, 1) := by decide +kernel
theorem dX12_ask_36 : decode cX12_ask 36 = .ok (.getfield 13, 3) := by decide +kernel
theorem dX12_ask_39 : decode cX12_ask 39 = .ok (.iconst 0, 1) := by decide +kernel
theorem dX12_ask_40 : decode cX12_ask 40 = .ok (.iaload, 1) := by decide +kernel
theorem dX12_ask_41 : decode cX12_ask 41 = .ok (.if_icmp .ge 103, 3) := by decide +kernel
theorem dX12_ask_44 : decode cX12_ask 44 = .ok (.iconst 0, 1) := by decide +kernel
theorem dX12_ask_45 : decode cX12_ask 45 = .ok (.istore 7, 2) := by decide +kernel
theorem dX12_ask_47 : decode cX12_ask 47 = .ok (.iconst 0, 1) := by decide +kernel
theorem dX12_ask_48 : decode cX12_ask 48 = .ok (.istore 8, 2) := by decide +kernel
theorem dX12_ask_50 : decode cX12_ask 50 = .ok (.iload 8, 2) := by decide +kernel
theorem dX12_ask_52 : decode cX12_ask 52 = .ok (.aload_n 0, 1) := by decide +kernel
theorem dX12_ask_53 : decode cX12_ask 53 = .ok (.getfield 13, 3) := by decide +kernel
theorem dX12_ask_56 : decode cX12_ask 56 = .ok (.iconst 1, 1) := by decide +kernel
theorem dX12_ask_57 : decode cX12_ask 57 = .ok (.iaload, 1) := by decide +kernel
theorem dX12_ask_58 : decode cX12_ask 58 = .ok (.if_icmp .ge 47, 3) := by decide +kernel
theorem dX12_ask_61 : decode cX12_ask 61 = .ok (.iload 7, 2) := by decide +kernel
theorem dX12_ask_63 : decode cX12_ask 63 = .ok (.iload_n 1, 1) := by decide +kernel
theorem dX12_ask_64 : decode cX12_ask 64 = .ok (.iload 8, 2) := by decide +kernel
theorem dX12_ask_66 : decode cX12_ask 66 = .ok (.ishr, 1) := by decide +kernel
theorem dX12_ask_67 : decode cX12_ask 67 = .ok (.iconst 1, 1) := by decide +kernel
theorem dX12_ask_68 : decode cX12_ask 68 = .ok (.iand, 1) := by decide +kernel
theorem dX12_ask_69 : decode cX12_ask 69 = .ok (.iconst 1, 1) := by decide +kernel
theorem dX12_ask_70 : decode cX12_ask 70 = .ok (.if_icmp .ne 25, 3) := by decide +kernel
theorem dX12_ask_73 : decode cX12_ask 73 = .ok (.aload_n 0, 1) := by decide +kernel
theorem dX12_ask_74 : decode cX12_ask 74 = .ok (.getfield 135, 3) := by decide +kernel
theorem dX12_ask_77 : decode cX12_ask 77 = .ok (.bipush 6, 2) := by decide +kernel
theorem dX12_ask_79 : decode cX12_ask 79 = .ok (.iload 5, 2) := by decide +kernel
theorem dX12_ask_81 : decode cX12_ask 81 = .ok (.imul, 1) := by decide +kernel
theorem dX12_ask_82 : decode cX12_ask 82 = .ok (.iload 8, 2) := by decide +kernel
theorem dX12_ask_84 : decode cX12_ask 84 = .ok (.iadd, 1) := by decide +kernel
theorem dX12_ask_85 : decode cX12_ask 85 = .ok (.iaload, 1) := by decide +kernel
theorem dX12_ask_86 : decode cX12_ask 86 = .ok (.iload 6, 2) := by decide +kernel
theorem dX12_ask_88 : decode cX12_ask 88 = .ok (.if_icmp .ne 7, 3) := by decide +kernel
theorem dX12_ask_91 : decode cX12_ask 91 = .ok (.iconst 1, 1) := by decide +kernel
theorem dX12_ask_92 : decode cX12_ask 92 = .ok (.goto 4, 3) := by decide +kernel
theorem dX12_ask_95 : decode cX12_ask 95 = .ok (.iconst 0, 1) := by decide +kernel
theorem dX12_ask_96 : decode cX12_ask 96 = .ok (.iadd, 1) := by decide +kernel
theorem dX12_ask_97 : decode cX12_ask 97 = .ok (.istore 7, 2) := by decide +kernel
theorem dX12_ask_99 : decode cX12_ask 99 = .ok (.iinc 8 1, 3) := by decide +kernel
theorem dX12_ask_102 : decode cX12_ask 102 = .ok (.goto (-52), 3) := by decide +kernel
theorem dX12_ask_105 : decode cX12_ask 105 = .ok (.iload 7, 2) := by decide +kernel
theorem dX12_ask_107 : decode cX12_ask 107 = .ok (.iload_n 2, 1) := by decide +kernel
theorem dX12_ask_108 : decode cX12_ask 108 = .ok (.iload 7, 2) := by decide +kernel
theorem dX12_ask_110 : decode cX12_ask 110 = .ok (.isub, 1) := by decide +kernel
theorem dX12_ask_111 : decode cX12_ask 111 = .ok (.invokestatic 437, 3) := by decide +kernel
theorem dX12_ask_114 : decode cX12_ask 114 = .ok (.istore 7, 2) := by decide +kernel
theorem dX12_ask_116 : decode cX12_ask 116 = .ok (.iload 7, 2) := by decide +kernel
theorem dX12_ask_118 : decode cX12_ask 118 = .ok (.iload_n 3, 1) := by decide +kernel
theorem dX12_ask_119 : decode cX12_ask 119 = .ok (.if_icmp .lt 6, 3) := by decide +kernel
theorem dX12_ask_122 : decode cX12_ask 122 = .ok (.goto 16, 3) := by decide +kernel
theorem dX12_ask_125 : decode cX12_ask 125 = .ok (.iload 7, 2) := by decide +kernel
theorem dX12_ask_127 : decode cX12_ask 127 = .ok (.istore_n 3, 1) := by decide +kernel
theorem dX12_ask_128 : decode cX12_ask 128 = .ok (.bipush 8, 2) := by decide +kernel
theorem dX12_ask_130 : decode cX12_ask 130 = .ok (.iload 5, 2) := by decide +kernel
theorem dX12_ask_132 : decode cX12_ask 132 = .ok (.imul, 1) := by decide +kernel
theorem dX12_ask_133 : decode cX12_ask 133 = .ok (.iload 6, 2) := by decide +kernel
theorem dX12_ask_135 : decode cX12_ask 135 = .ok (.iadd, 1) := by decide +kernel
theorem dX12_ask_136 : decode cX12_ask 136 = .ok (.istore 4, 2) := by decide +kernel
theorem dX12_ask_138 : decode cX12_ask 138 = .ok (.iinc 6 1, 3) := by decide +kernel
theorem dX12_ask_141 : decode cX12_ask 141 = .ok (.goto (-108), 3) := by decide +kernel
theorem dX12_ask_144 : decode cX12_ask 144 = .ok (.iinc 5 1, 3) := by decide +kernel
theorem dX12_ask_147 : decode cX12_ask 147 = .ok (.goto (-124), 3) := by decide +kernel
theorem dX12_ask_150 : decode cX12_ask 150 = .ok (.iload 4, 2) := by decide +kernel
theorem dX12_ask_152 : decode cX12_ask 152 = .ok (.ireturn, 1) := by decide +kernel
theorem lk_RX12_469 : Cond.methodLink RX12 469 yX12_who ∈ tG := inG (i := 2017) (by decide +kernel) (by decide +kernel)
theorem m_X12_who : MV Y_X12_who 0 12 := ⟨⟨inG (i := 2004) (by decide +kernel) (by decide +kernel), inG (i := 110) (by decide +kernel) (by decide +kernel), by decide, by decide, by decide, by decide +kernel⟩, inG (i := 2002) (by decide +kernel) (by decide +kernel), inG (i := 2003) (by decide +kernel) (by decide +kernel), by decide⟩
def P_X12_ask_J95  (x1 : Int) (x2 : Int) (x3 : Int) (x4 : Int) (x5 : Int) (x6 : Int) (x8 : Int) (y0 : Int) (R : Int → Int → St → Prop) (K : Int → St → Prop) (Q : Int → St → Prop) (σ : St) : Prop :=
  R (wi (y0 + 0)) (wi (x8 + 1)) σ
set_option maxRecDepth 20000 in
set_option maxHeartbeats 2000000 in
theorem e_P_X12_ask_J95  {x1 : Int} {x2 : Int} {x3 : Int} {x4 : Int} {x5 : Int} {x6 : Int} {x8 : Int} {y0 : Int} {R : Int → Int → St → Prop} {K : Int → St → Prop} {Q : Int → St → Prop} {σ : St}  (hR : ∀ x7 x8 σ, R x7 x8 σ → E Y_X12_ask 8 0 0 (QI Q) ww 0 0 50 [some (vR 12 0), some (vI x1), some (vI x2), some (vI x3), some (vI x4), some (vI x5), some (vI x6), some (vI x7), some (vI x8)] [] σ) (hK : ∀ x7 σ, K x7 σ → E Y_X12_ask 8 0 0 (QI Q) ww 0 0 105 [some (vR 12 0), some (vI x1), some (vI x2), some (vI x3), some (vI x4), some (vI x5), some (vI x6), some (vI x7), none] [] σ) (h : P_X12_ask_J95 x1 x2 x3 x4 x5 x6 x8 y0 R K Q σ) : E Y_X12_ask 8 0 0 (QI Q) ww 0 0 95 [some (vR 12 0), some (vI x1), some (vI x2), some (vI x3), some (vI x4), some (vI x5), some (vI x6), none, some (vI x8)] [vI y0] σ := by
  unfold P_X12_ask_J95 at h
  refine E_ic dX12_ask_95 rfl ?_
  refine E_iadd dX12_ask_96 ?_
  refine E_istore (ls' := [some (vR 12 0), some (vI x1), some (vI x2), some (vI x3), some (vI x4), some (vI x5), some (vI x6), some (vI (wi (y0 + 0))), some (vI x8)]) dX12_ask_97 (by decide) rfl ?_
  refine E_iinc (ls' := [some (vR 12 0), some (vI x1), some (vI x2), some (vI x3), some (vI x4), some (vI x5), some (vI x6), some (vI (wi (y0 + 0))), some (vI (wi (x8 + 1)))]) dX12_ask_99 rfl (by decide) rfl rfl ?_
  refine E_goto (tgt := 50) dX12_ask_102 (by decide) ?_
  exact hR _ _ _ h
def P_X12_ask_L50  (x1 : Int) (x2 : Int) (x3 : Int) (x4 : Int) (x5 : Int) (x6 : Int) (K : Int → St → Prop) (Q : Int → St → Prop) : Nat → Int → Int → St → Prop
  | 0, _, _, _ => False
  | n + 1, x7, x8, σ => (if (σ 1310 0 1) ≤ x8 then K x7 σ else (if (bA (bR x1 x8) 1) = 1 then 0 ≤ wi ((wi (6 * x5)) + x8) ∧ wi ((wi (6 * x5)) + x8) < 186 ∧ (if (σ 1357 0 (wi ((wi (6 * x5)) + x8))) = x6 then (P_X12_ask_L50 x1 x2 x3 x4 x5 x6 K Q n) (wi (x7 + 1)) (wi (x8 + 1)) σ else P_X12_ask_J95 x1 x2 x3 x4 x5 x6 x8 x7 (P_X12_ask_L50 x1 x2 x3 x4 x5 x6 K Q n) K Q σ) else P_X12_ask_J95 x1 x2 x3 x4 x5 x6 x8 x7 (P_X12_ask_L50 x1 x2 x3 x4 x5 x6 K Q n) K Q σ))
set_option maxRecDepth 20000 in
set_option maxHeartbeats 2000000 in
theorem e_P_X12_ask_L50  {x1 : Int} {x2 : Int} {x3 : Int} {x4 : Int} {x5 : Int} {x6 : Int} {K : Int → St → Prop} {Q : Int → St → Prop}  (hK : ∀ x7 σ, K x7 σ → E Y_X12_ask 8 0 0 (QI Q) ww 0 0 105 [some (vR 12 0), some (vI x1), some (vI x2), some (vI x3), some (vI x4), some (vI x5), some (vI x6), some (vI x7), none] [] σ) : ∀ (n : Nat) (x7 : Int) (x8 : Int) (σ : St), P_X12_ask_L50 x1 x2 x3 x4 x5 x6 K Q n x7 x8 σ → E Y_X12_ask 8 0 0 (QI Q) ww 0 0 50 [some (vR 12 0), some (vI x1), some (vI x2), some (vI x3), some (vI x4), some (vI x5), some (vI x6), some (vI x7), some (vI x8)] [] σ := by
  intro n
  induction n with
  | zero => intro x7 x8 σ h; exact h.elim
  | succ n hR =>
    intro x7 x8 σ h
    unfold P_X12_ask_L50 at h
    refine E_iload dX12_ask_50 rfl ?_
    refine E_aload_n dX12_ask_52 rfl rfl ?_
    refine E_getr (i := 0) dX12_ask_53 fl_RX12_13 rfl rfl (go_12_10 _ _) ?_
    refine E_ic dX12_ask_56 rfl ?_
    refine E_iald dX12_ask_57 sh_1310 (by decide) (by decide) ?_
    refine E_icmp_ge (tgt := 105) dX12_ask_58 (by decide) (fun hc => ?_) (fun hc => ?_)
    · have h := Eq.mp (if_pos hc) h
      refine E_wk2 [some (vR 12 0), some (vI x1), some (vI x2), some (vI x3), some (vI x4), some (vI x5), some (vI x6), some (vI x7), none] ⟨rfl, ⟨rfl, ⟨rfl, ⟨rfl, ⟨rfl, ⟨rfl, ⟨rfl, ⟨rfl, trivial⟩⟩⟩⟩⟩⟩⟩⟩ ?_
      exact hK _ _ h
    · have h := Eq.mp (if_neg hc) h
      refine E_iload dX12_ask_61 rfl ?_
      refine E_iload_n dX12_ask_63 rfl rfl ?_
      refine E_iload dX12_ask_64 rfl ?_
      refine E_ishr dX12_ask_66 ?_
      refine E_ic dX12_ask_67 rfl ?_
      refine E_iand dX12_ask_68 ?_
      refine E_ic dX12_ask_69 rfl ?_
      refine E_icmp_ne (tgt := 95) dX12_ask_70 (by decide) (fun hc => ?_) (fun hc => ?_)
      · have h := Eq.mp (if_neg hc) h
        refine E_wk2 [some (vR 12 0), some (vI x1), some (vI x2), some (vI x3), some (vI x4), some (vI x5), some (vI x6), none, some (vI x8)] ⟨rfl, ⟨rfl, ⟨rfl, ⟨rfl, ⟨rfl, ⟨rfl, ⟨rfl, ⟨rfl, trivial⟩⟩⟩⟩⟩⟩⟩⟩ ?_
        exact e_P_X12_ask_J95 hR hK h
      · have h := Eq.mp (if_pos hc) h
        refine E_aload_n dX12_ask_73 rfl rfl ?_
        refine E_getr (i := 0) dX12_ask_74 fl_RX12_135 rfl rfl (go_12_57 _ _) ?_
        refine E_bp dX12_ask_77 rfl ?_
        refine E_iload dX12_ask_79 rfl ?_
        refine E_imul dX12_ask_81 ?_
        refine E_iload dX12_ask_82 rfl ?_
        refine E_iadd dX12_ask_84 ?_
        obtain ⟨hg0, hg1, h⟩ := h
        refine E_iald dX12_ask_85 sh_1357 hg0 hg1 ?_
        refine E_iload dX12_ask_86 rfl ?_
        refine E_icmp_ne (tgt := 95) dX12_ask_88 (by decide) (fun hc => ?_) (fun hc => ?_)
        · have h := Eq.mp (if_neg hc) h
          refine E_wk2 [some (vR 12 0), some (vI x1), some (vI x2), some (vI x3), some (vI x4), some (vI x5), some (vI x6), none, some (vI x8)] ⟨rfl, ⟨rfl, ⟨rfl, ⟨rfl, ⟨rfl, ⟨rfl, ⟨rfl, ⟨rfl, trivial⟩⟩⟩⟩⟩⟩⟩⟩ ?_
          exact e_P_X12_ask_J95 hR hK h
        · have h := Eq.mp (if_pos hc) h
          refine E_ic dX12_ask_91 rfl ?_
          refine E_goto (tgt := 96) dX12_ask_92 (by decide) ?_
          refine E_iadd dX12_ask_96 ?_
          refine E_istore (ls' := [some (vR 12 0), some (vI x1), some (vI x2), some (vI x3), some (vI x4), some (vI x5), some (vI x6), some (vI (wi (x7 + 1))), some (vI x8)]) dX12_ask_97 (by decide) rfl ?_
          refine E_iinc (ls' := [some (vR 12 0), some (vI x1), some (vI x2), some (vI x3), some (vI x4), some (vI x5), some (vI x6), some (vI (wi (x7 + 1))), some (vI (wi (x8 + 1)))]) dX12_ask_99 rfl (by decide) rfl rfl ?_
          refine E_goto (tgt := 50) dX12_ask_102 (by decide) ?_
          exact hR _ _ _ h
def P_X12_ask_L33  (x1 : Int) (x2 : Int) (x5 : Int) (K : Int → Int → St → Prop) (Q : Int → St → Prop) : Nat → Int → Int → Int → St → Prop
  | 0, _, _, _, _ => False
  | n + 1, x3, x4, x6, σ => (if (σ 1310 0 0) ≤ x6 then K x3 x4 σ else P_X12_ask_L50 x1 x2 x3 x4 x5 x6 (fun x7_5 σ_6 => (if (max x7_5 (wi (x2 - x7_5))) < x3 then (P_X12_ask_L33 x1 x2 x5 K Q n) (max x7_5 (wi (x2 - x7_5))) (wi ((wi (8 * x5)) + x6)) (wi (x6 + 1)) σ_6 else (P_X12_ask_L33 x1 x2 x5 K Q n) x3 x4 (wi (x6 + 1)) σ_6)) Q FU 0 0 σ)
set_option maxRecDepth 20000 in
set_option maxHeartbeats 2000000 in
theorem e_P_X12_ask_L33  {x1 : Int} {x2 : Int} {x5 : Int} {K : Int → Int → St → Prop} {Q : Int → St → Prop}  (hK : ∀ x3 x4 σ, K x3 x4 σ → E Y_X12_ask 8 0 0 (QI Q) ww 0 0 144 [some (vR 12 0), some (vI x1), some (vI x2), some (vI x3), some (vI x4), some (vI x5), none, none, none] [] σ) : ∀ (n : Nat) (x3 : Int) (x4 : Int) (x6 : Int) (σ : St), P_X12_ask_L33 x1 x2 x5 K Q n x3 x4 x6 σ → E Y_X12_ask 8 0 0 (QI Q) ww 0 0 33 [some (vR 12 0), some (vI x1), some (vI x2), some (vI x3), some (vI x4), some (vI x5), some (vI x6), none, none] [] σ := by
  intro n
  induction n with
  | zero => intro x3 x4 x6 σ h; exact h.elim
  | succ n hR =>
    intro x3 x4 x6 σ h
    unfold P_X12_ask_L33 at h
    refine E_iload dX12_ask_33 rfl ?_
    refine E_aload_n dX12_ask_35 rfl rfl ?_
    refine E_getr (i := 0) dX12_ask_36 fl_RX12_13 rfl rfl (go_12_10 _ _) ?_
    refine E_ic dX12_ask_39 rfl ?_
    refine E_iald dX12_ask_40 sh_1310 (by decide) (by decide) ?_
    refine E_icmp_ge (tgt := 144) dX12_ask_41 (by decide) (fun hc => ?_) (fun hc => ?_)
    · have h := Eq.mp (if_pos hc) h
      refine E_wk2 [some (vR 12 0), some (vI x1), some (vI x2), some (vI x3), some (vI x4), some (vI x5), none, none, none] ⟨rfl, ⟨rfl, ⟨rfl, ⟨rfl, ⟨rfl, ⟨rfl, trivial⟩⟩⟩⟩⟩⟩ ?_
      exact hK _ _ _ h
    · have h := Eq.mp (if_neg hc) h
      refine E_ic dX12_ask_44 rfl ?_
      refine E_istore (ls' := [some (vR 12 0), some (vI x1), some (vI x2), some (vI x3), some (vI x4), some (vI x5), some (vI x6), some (vI 0), none]) dX12_ask_45 (by decide) rfl ?_
      refine E_ic dX12_ask_47 rfl ?_
      refine E_istore (ls' := [some (vR 12 0), some (vI x1), some (vI x2), some (vI x3), some (vI x4), some (vI x5), some (vI x6), some (vI 0), some (vI 0)]) dX12_ask_48 (by decide) rfl ?_
      refine e_P_X12_ask_L50 ?_ _ _ _ _ h
      · intro x7_5 σ_6 h
        refine E_iload dX12_ask_105 rfl ?_
        refine E_iload_n dX12_ask_107 rfl rfl ?_
        refine E_iload dX12_ask_108 rfl ?_
        refine E_isub dX12_ask_110 ?_
        refine E_mmax dX12_ask_111 lk_RX12_437 (by decide) (Nat.le_refl _) (Nat.le_refl _) (Nat.le_of_ble_eq_true rfl) ?_
        refine E_istore (ls' := [some (vR 12 0), some (vI x1), some (vI x2), some (vI x3), some (vI x4), some (vI x5), some (vI x6), some (vI (max x7_5 (wi (x2 - x7_5)))), none]) dX12_ask_114 (by decide) rfl ?_
        refine E_iload dX12_ask_116 rfl ?_
        refine E_iload_n dX12_ask_118 rfl rfl ?_
        refine E_icmp_lt (tgt := 125) dX12_ask_119 (by decide) (fun hc => ?_) (fun hc => ?_)
        · have h := Eq.mp (if_pos hc) h
          refine E_iload dX12_ask_125 rfl ?_
          refine E_istore_n (ls' := [some (vR 12 0), some (vI x1), some (vI x2), some (vI (max x7_5 (wi (x2 - x7_5)))), some (vI x4), some (vI x5), some (vI x6), some (vI (max x7_5 (wi (x2 - x7_5)))), none]) dX12_ask_127 rfl (by decide) rfl ?_
          refine E_bp dX12_ask_128 rfl ?_
          refine E_iload dX12_ask_130 rfl ?_
          refine E_imul dX12_ask_132 ?_
          refine E_iload dX12_ask_133 rfl ?_
          refine E_iadd dX12_ask_135 ?_
          refine E_istore (ls' := [some (vR 12 0), some (vI x1), some (vI x2), some (vI (max x7_5 (wi (x2 - x7_5)))), some (vI (wi ((wi (8 * x5)) + x6))), some (vI x5), some (vI x6), some (vI (max x7_5 (wi (x2 - x7_5)))), none]) dX12_ask_136 (by decide) rfl ?_
          refine E_iinc (ls' := [some (vR 12 0), some (vI x1), some (vI x2), some (vI (max x7_5 (wi (x2 - x7_5)))), some (vI (wi ((wi (8 * x5)) + x6))), some (vI x5), some (vI (wi (x6 + 1))), some (vI (max x7_5 (wi (x2 - x7_5)))), none]) dX12_ask_138 rfl (by decide) rfl rfl ?_
          refine E_goto (tgt := 33) dX12_ask_141 (by decide) ?_
          refine E_wk2 [some (vR 12 0), some (vI x1), some (vI x2), some (vI (max x7_5 (wi (x2 - x7_5)))), some (vI (wi ((wi (8 * x5)) + x6))), some (vI x5), some (vI (wi (x6 + 1))), none, none] ⟨rfl, ⟨rfl, ⟨rfl, ⟨rfl, ⟨rfl, ⟨rfl, ⟨rfl, trivial⟩⟩⟩⟩⟩⟩⟩ ?_
          exact hR _ _ _ _ h
        · have h := Eq.mp (if_neg hc) h
          refine E_goto (tgt := 138) dX12_ask_122 (by decide) ?_
          refine E_iinc (ls' := [some (vR 12 0), some (vI x1), some (vI x2), some (vI x3), some (vI x4), some (vI x5), some (vI (wi (x6 + 1))), some (vI (max x7_5 (wi (x2 - x7_5)))), none]) dX12_ask_138 rfl (by decide) rfl rfl ?_
          refine E_goto (tgt := 33) dX12_ask_141 (by decide) ?_
          refine E_wk2 [some (vR 12 0), some (vI x1), some (vI x2), some (vI x3), some (vI x4), some (vI x5), some (vI (wi (x6 + 1))), none, none] ⟨rfl, ⟨rfl, ⟨rfl, ⟨rfl, ⟨rfl, ⟨rfl, ⟨rfl, trivial⟩⟩⟩⟩⟩⟩⟩ ?_
          exact hR _ _ _ _ h
def P_X12_ask_L23  (x1 : Int) (x2 : Int)  (Q : Int → St → Prop) : Nat → Int → Int → Int → St → Prop
  | 0, _, _, _, _ => False
  | n + 1, x3, x4, x5, σ => (if 30 < x5 then Q x4 σ else P_X12_ask_L33 x1 x2 x5 (fun x3_7 x4_8 σ_9 => (P_X12_ask_L23 x1 x2 Q n) x3_7 x4_8 (wi (x5 + 1)) σ_9) Q FU x3 x4 0 σ)
set_option maxRecDepth 20000 in
set_option maxHeartbeats 2000000 in
theorem e_P_X12_ask_L23  {x1 : Int} {x2 : Int}  {Q : Int → St → Prop}   : ∀ (n : Nat) (x3 : Int) (x4 : Int) (x5 : Int) (σ : St), P_X12_ask_L23 x1 x2 Q n x3 x4 x5 σ → E Y_X12_ask 8 0 0 (QI Q) ww 0 0 23 [some (vR 12 0), some (vI x1), some (vI x2), some (vI x3), some (vI x4), some (vI x5), none, none, none] [] σ := by
  intro n
  induction n with
  | zero => intro x3 x4 x5 σ h; exact h.elim
  | succ n hR =>
    intro x3 x4 x5 σ h
    unfold P_X12_ask_L23 at h
    refine E_iload dX12_ask_23 rfl ?_
    refine E_bp dX12_ask_25 rfl ?_
    refine E_icmp_gt (tgt := 150) dX12_ask_27 (by decide) (fun hc => ?_) (fun hc => ?_)
    · have h := Eq.mp (if_pos hc) h
      refine E_iload dX12_ask_150 rfl ?_
      exact E_iret dX12_ask_152 rfl ⟨_, rfl, rfl, h⟩
    · have h := Eq.mp (if_neg hc) h
      refine E_ic dX12_ask_30 rfl ?_
      refine E_istore (ls' := [some (vR 12 0), some (vI x1), some (vI x2), some (vI x3), some (vI x4), some (vI x5), some (vI 0), none, none]) dX12_ask_31 (by decide) rfl ?_
      refine e_P_X12_ask_L33 ?_ _ _ _ _ _ h
      · intro x3_7 x4_8 σ_9 h
        refine E_iinc (ls' := [some (vR 12 0), some (vI x1), some (vI x2), some (vI x3_7), some (vI x4_8), some (vI (wi (x5 + 1))), none, none, none]) dX12_ask_144 rfl (by decide) rfl rfl ?_
        refine E_goto (tgt := 23) dX12_ask_147 (by decide) ?_
        exact hR _ _ _ _ h
def P_X12_ask   (σ : St) (Q : Int → St → Prop) : Prop :=
  P_X12_who (up σ 12 0 0 0) (fun r_2 σ_1 => P_X12_bits r_2 σ_1 (fun r_4 σ_3 => P_X12_ask_L23 r_2 r_4 Q FU r_4 (-1) 0 σ_3))
set_option maxRecDepth 20000 in
set_option maxHeartbeats 2000000 in
theorem s_X12_ask    {σ : St} {Q : Int → St → Prop} (h : P_X12_ask  σ Q) : Cn Y_X12_ask 8 0 0 ww σ [vR 12 0] (QI Q) := by
  refine Cn_of [some (vR 12 0), none, none, none, none, none, none, none, none] (by decide) (Nat.le_of_ble_eq_true rfl) rfl ?_
  unfold P_X12_ask at h
  refine E_aload_n dX12_ask_0 rfl rfl ?_
  refine E_ic dX12_ask_1 rfl ?_
  refine E_puti dX12_ask_2 fl_RX12_141 rfl rfl rfl ?_
  refine E_aload_n dX12_ask_5 rfl rfl ?_
  refine E_callV (Y' := Y_X12_who) (as := []) (st := []) dX12_ask_6 lk_RX12_469 m_X12_who (by decide) (Nat.le_refl _) (Nat.le_refl _) rfl rfl (Nat.le_of_ble_eq_true rfl) (s_X12_who h) (fun r0 B0 σ_1 h => ?_)
  obtain ⟨r_2, rfl, rfl, h⟩ := h
  refine E_istore_n (ls' := [some (vR 12 0), some (vI r_2), none, none, none, none, none, none, none]) dX12_ask_9 rfl (by decide) rfl ?_
  refine E_iload_n dX12_ask_10 rfl rfl ?_
  refine E_callS (Y' := Y_X12_bits) (as := [vI r_2]) (st := []) dX12_ask_11 lk_RX12_391 m_X12_bits (by decide) (Nat.le_refl _) (Nat.le_refl _) rfl rfl (Nat.le_of_ble_eq_true rfl) (s_X12_bits h) (fun r0 B0 σ_3 h => ?_)
  obtain ⟨r_4, rfl, rfl, h⟩ := h
  refine E_istore_n (ls' := [some (vR 12 0), some (vI r_2), some (vI r_4), none, none, none, none, none, none]) dX12_ask_14 rfl (by decide) rfl ?_
  refine E_iload_n dX12_ask_15 rfl rfl ?_
  refine E_istore_n (ls' := [some (vR 12 0), some (vI r_2), some (vI r_4), some (vI r_4), none, none, none, none, none]) dX12_ask_16 rfl (by decide) rfl ?_
  refine E_ic dX12_ask_17 rfl ?_
  refine E_istore (ls' := [some (vR 12 0), some (vI r_2), some (vI r_4), some (vI r_4), some (vI (-1)), none, none, none, none]) dX12_ask_18 (by decide) rfl ?_
  refine E_ic dX12_ask_20 rfl ?_
  refine E_istore (ls' := [some (vR 12 0), some (vI r_2), some (vI r_4), some (vI r_4), some (vI (-1)), some (vI 0), none, none, none]) dX12_ask_21 (by decide) rfl ?_
  refine e_P_X12_ask_L23  _ _ _ _ _ h
abbrev Y_X12_chance : My := (yX12_chance, cX12_chance, 13, some .int)
theorem dX12_chance_0 : decode cX12_chance 0 = .ok (.aload_n 0, 1) := by decide +kernel
theorem dX12_chance_1 : decode cX12_chance 1 = .ok (.iconst 0, 1) := by decide +kernel
theorem dX12_chance_2 : decode cX12_chance 2 = .ok (.putfield 141, 3) := by decide +kernel
theorem dX12_chance_5 : decode cX12_chance 5 = .ok (.aload_n 0, 1) := by decide +kernel
theorem dX12_chance_6 : decode cX12_chance 6 = .ok (.iload_n 1, 1) := by decide +kernel
theorem dX12_chance_7 : decode cX12_chance 7 = .ok (.invokevirtual 406, 3) := by decide +kernel
theorem dX12_chance_10 : decode cX12_chance 10 = .ok (.ifCond .eq 23, 3) := by decide +kernel
theorem dX12_chance_13 : decode cX12_chance 13 = .ok (.iload_n 2, 1) := by decide +kernel
theorem dX12_chance_14 : decode cX12_chance 14 = .ok (.iconst 1, 1) := by decide +kernel
theorem dX12_chance_15 : decode cX12_chance 15 = .ok (.bipush 6, 2) := by decide +kernel
theorem dX12_chance_17 : decode cX12_chance 17 = .ok (.invokestatic 264, 3) := by decide +kernel
theorem dX12_chance_20 : decode cX12_chance 20 = .ok (.ifCond .eq 13, 3) := by decide +kernel
theorem dX12_chance_23 : decode cX12_chance 23 = .ok (.iload_n 3, 1) := by decide +kernel
theorem dX12_chance_24 : decode cX12_chance 24 = .ok (.iconst 0, 1) := by decide +kernel
theorem dX12_chance_25 : decode cX12_chance 25 = .ok (.bipush 10, 2) := by decide +kernel
theorem dX12_chance_27 : decode cX12_chance 27 = .ok (.invokestatic 264, 3) := by decide +kernel
theorem dX12_chance_30 : decode cX12_chance 30 = .ok (.ifCond .ne 5, 3) := by decide +kernel
theorem dX12_chance_33 : decode cX12_chance 33 = .ok (.iconst (-1), 1) := by decide +kernel
theorem dX12_chance_34 : decode cX12_chance 34 = .ok (.ireturn, 1) := by decide +kernel
theorem dX12_chance_35 : decode cX12_chance 35 = .ok (.lconst 0, 1) := by decide +kernel
theorem dX12_chance_36 : decode cX12_chance 36 = .ok (.lstore 4, 2) := by decide +kernel
theorem dX12_chance_38 : decode cX12_chance 38 = .ok (.lconst 1, 1) := by decide +kernel
theorem dX12_chance_39 : decode cX12_chance 39 = .ok (.lstore 6, 2) := by decide +kernel
theorem dX12_chance_41 : decode cX12_chance 41 = .ok (.iconst 0, 1) := by decide +kernel
theorem dX12_chance_42 : decode cX12_chance 42 = .ok (.istore 8, 2) := by decide +kernel
theorem dX12_chance_44 : decode cX12_chance 44 = .ok (.iload 8, 2) := by decide +kernel
theorem dX12_chance_46 : decode cX12_chance 46 = .ok (.iload_n 2, 1) := by decide +kernel
theorem dX12_chance_47 : decode cX12_chance 47 = .ok (.if_icmp .ge 17, 3) := by decide +kernel
theorem dX12_chance_50 : decode cX12_chance 50 = .ok (.lload 6, 2) := by decide +kernel
theorem dX12_chance_52 : decode cX12_chance 52 = .ok (.ldc2_w 472, 3) := by decide +kernel
theorem dX12_chance_55 : decode cX12_chance 55 = .ok (.lmul, 1) := by decide +kernel
theorem dX12_chance_56 : decode cX12_chance 56 = .ok (.lstore 6, 2) := by decide +kernel
theorem dX12_chance_58 : decode cX12_chance 58 = .ok (.iinc 8 1, 3) := by decide +kernel
theorem dX12_chance_61 : decode cX12_chance 61 = .ok (.goto (-17), 3) := by decide +kernel
theorem dX12_chance_64 : decode cX12_chance 64 = .ok (.aload_n 0, 1) := by decide +kernel
theorem dX12_chance_65 : decode cX12_chance 65 = .ok (.getfield 111, 3) := by decide +kernel
theorem dX12_chance_68 : decode cX12_chance 68 = .ok (.iconst 0, 1) := by decide +kernel
theorem dX12_chance_69 : decode cX12_chance 69 = .ok (.aload_n 0, 1) := by decide +kernel
theorem dX12_chance_70 : decode cX12_chance 70 = .ok (.getfield 117, 3) := by decide +kernel
theorem dX12_chance_73 : decode cX12_chance 73 = .ok (.iconst 0, 1) := by decide +kernel
theorem dX12_chance_74 : decode cX12_chance 74 = .ok (.invokestatic 409, 3) := by decide +kernel
theorem dX12_chance_77 : decode cX12_chance 77 = .ok (.iconst 0, 1) := by decide +kernel
theorem dX12_chance_78 : decode cX12_chance 78 = .ok (.istore 8, 2) := by decide +kernel
theorem dX12_chance_80 : decode cX12_chance 80 = .ok (.iload 8, 2) := by decide +kernel
theorem dX12_chance_82 : decode cX12_chance 82 = .ok (.iconst 1, 1) := by decide +kernel
theorem dX12_chance_83 : decode cX12_chance 83 = .ok (.iload_n 2, 1) := by decide +kernel
theorem dX12_chance_84 : decode cX12_chance 84 = .ok (.ishl, 1) := by decide +kernel
theorem dX12_chance_85 : decode cX12_chance 85 = .ok (.if_icmp .ge 115, 3) := by decide +kernel
theorem dX12_chance_88 : decode cX12_chance 88 = .ok (.lconst 1, 1) := by decide +kernel
theorem dX12_chance_89 : decode cX12_chance 89 = .ok (.lstore 9, 2) := by decide +kernel
theorem dX12_chance_91 : decode cX12_chance 91 = .ok (.iconst 0, 1) := by decide +kernel
theorem dX12_chance_92 : decode cX12_chance 92 = .ok (.istore 11, 2) := by decide +kernel
theorem dX12_chance_94 : decode cX12_chance 94 = .ok (.iload 11, 2) := by decide +kernel
theorem dX12_chance_96 : decode cX12_chance 96 = .ok (.iload_n 2, 1) := by decide +kernel
theorem dX12_chance_97 : decode cX12_chance 97 = .ok (.if_icmp .ge 63, 3) := by decide +kernel
theorem dX12_chance_100 : decode cX12_chance 100 = .ok (.iload 8, 2) := by decide +kernel
theorem dX12_chance_102 : decode cX12_chance 102 = .ok (.iload 11, 2) := by decide +kernel
theorem dX12_chance_104 : decode cX12_chance 104 = .ok (.ishr, 1) := by decide +kernel
theorem dX12_chance_105 : decode cX12_chance 105 = .ok (.iconst 1, 1) := by decide +kernel
theorem dX12_chance_106 : decode cX12_chance 106 = .ok (.iand, 1) := by decide +kernel
theorem dX12_chance_107 : decode cX12_chance 107 = .ok (.iconst 1, 1) := by decide +kernel
theorem dX12_chance_108 : decode cX12_chance 108 = .ok (.if_icmp .ne 7, 3) := by decide +kernel
theorem dX12_chance_111 : decode cX12_chance 111 = .ok (.iconst 1, 1) := by decide +kernel
theorem dX12_chance_112 : decode cX12_chance 112 = .ok (.goto 4, 3) := by decide +kernel
theorem dX12_chance_115 : decode cX12_chance 115 = .ok (.iconst 0, 1) := by decide +kernel
theorem dX12_chance_116 : decode cX12_chance 116 = .ok (.istore 12, 2) := by decide +kernel
theorem dX12_chance_118 : decode cX12_chance 118 = .ok (.lload 9, 2) := by decide +kernel
theorem dX12_chance_120 : decode cX12_chance 120 = .ok (.iload 12, 2) := by decide +kernel
theorem dX12_chance_122 : decode cX12_chance 122 = .ok (.ifCond .eq 8, 3) := by decide +kernel
theorem dX12_chance_125 : decode cX12_chance 125 = .ok (.iload_n 3, 1) := by decide +kernel
theorem dX12_chance_126 : decode cX12_chance 126 = .ok (.i2l, 1) := by decide +kernel
theorem dX12_chance_127 : decode cX12_chance 127 = .ok (.goto 8, 3) := by decide +kernel
theorem dX12_chance_130 : decode cX12_chance 130 = .ok (.bipush 10, 2) := by decide +kernel
theorem dX12_chance_132 : decode cX12_chance 132 = .ok (.iload_n 3, 1) := by decide +kernel
theorem dX12_chance_133 : decode cX12_chance 133 = .ok (.isub, 1) := by decide +kernel
theorem dX12_chance_134 : decode cX12_chance 134 = .ok (.i2l, 1) := by decide +kernel
theorem dX12_chance_135 : decode cX12_chance 135 = .ok (.lmul, 1) := by decide +kernel
theorem dX12_chance_136 : decode cX12_chance 136 = .ok (.lstore 9, 2) := by decide +kernel
theorem dX12_chance_138 : decode cX12_chance 138 = .ok (.aload_n 0, 1) := by decide +kernel
theorem dX12_chance_139 : decode cX12_chance 139 = .ok (.iload 12, 2) := by decide +kernel
theorem dX12_chance_141 : decode cX12_chance 141 = .ok (.ifCond .eq 8, 3) := by decide +kernel
theorem dX12_chance_144 : decode cX12_chance 144 = .ok (.bipush 9, 2) := by decide +kernel
theorem dX12_chance_146 : decode cX12_chance 146 = .ok (.goto 4, 3) := by decide +kernel
theorem dX12_chance_149 : decode cX12_chance 149 = .ok (.iconst 0, 1) := by decide +kernel
theorem dX12_chance_150 : decode cX12_chance 150 = .ok (.invokevirtual 400, 3) := by decide +kernel
theorem dX12_chance_153 : decode cX12_chance 153 = .ok (.pop, 1) := by decide +kernel
theorem dX12_chance_154 : decode cX12_chance 154 = .ok (.iinc 11 1, 3) := by decide +kernel
theorem dX12_chance_157 : decode cX12_chance 157 = .ok (.goto (-63), 3) := by decide +kernel
theorem dX12_chance_160 : decode cX12_chance 160 = .ok (.aload_n 0, 1) := by decide +kernel
theorem dX12_chance_161 : decode cX12_chance 161 = .ok (.iload_n 1, 1) := by decide +kernel
theorem dX12_chance_162 : decode cX12_chance 162 = .ok (.invokevirtual 366, 3) := by decide +kernel
theorem dX12_chance_165 : decode cX12_chance 165 = .ok (.aload_n 0, 1) := by decide +kernel
theorem dX12_chance_166 : decode cX12_chance 166 = .ok (.getfield 35, 3) := by decide +kernel
theorem dX12_chance_169 : decode cX12_chance 169 = .ok (.iload_n 1, 1) := by decide +kernel
theorem dX12_chance_170 : decode cX12_chance 170 = .ok (.iaload, 1) := by decide +kernel
theorem dX12_chance_171 : decode cX12_chance 171 = .ok (.if_icmp .ne 10, 3) := by decide +kernel
theorem dX12_chance_174 : decode cX12_chance 174 = .ok (.lload 4, 2) := by decide +kernel
theorem dX12_chance_176 : decode cX12_chance 176 = .ok (.lload 9, 2) := by decide +kernel
theorem dX12_chance_178 : decode cX12_chance 178 = .ok (.ladd, 1) := by decide +kernel
theorem dX12_chance_179 : decode cX12_chance 179 = .ok (.lstore 4, 2) := by decide +kernel
theorem dX12_chance_181 : decode cX12_chance 181 = .ok (.aload_n 0, 1) := by decide +kernel
theorem dX12_chance_182 : decode cX12_chance 182 = .ok (.getfield 117, 3) := by decide +kernel
theorem dX12_chance_185 : decode cX12_chance 185 = .ok (.iconst 0, 1) := by decide +kernel
theorem dX12_chance_186 : decode cX12_chance 186 = .ok (.aload_n 0, 1) := by decide +kernel
theorem dX12_chance_187 : decode cX12_chance 187 = .ok (.getfield 111, 3) := by decide +kernel
theorem dX12_chance_190 : decode cX12_chance 190 = .ok (.iconst 0, 1) := by decide +kernel
theorem dX12_chance_191 : decode cX12_chance 191 = .ok (.invokestatic 409, 3) := by decide +kernel
theorem dX12_chance_194 : decode cX12_chance 194 = .ok (.iinc 8 1, 3) := by decide +kernel
theorem dX12_chance_197 : decode cX12_chance 197 = .ok (.goto (-117), 3) := by decide +kernel
theorem dX12_chance_200 : decode cX12_chance 200 = .ok (.lload 4, 2) := by decide +kernel
theorem dX12_chance_202 : decode cX12_chance 202 = .ok (.ldc2_w 474, 3) := by decide +kernel
theorem dX12_chance_205 : decode cX12_chance 205 = .ok (.lmul, 1) := by decide +kernel
theorem dX12_chance_206 : decode cX12_chance 206 = .ok (.lload 6, 2) := by decide +kernel
theorem dX12_chance_208 : decode cX12_chance 208 = .ok (.ldiv, 1) := by decide +kernel
theorem dX12_chance_209 : decode cX12_chance 209 = .ok (.l2i, 1) := by decide +kernel
theorem dX12_chance_210 : decode cX12_chance 210 = .ok (.ireturn, 1) := by decide +kernel
theorem kl_RX12_472 : Cond.constantLong RX12 472 (10) ∈ tG := inG (i := 2022) (by decide +kernel) (by decide +kernel)
theorem kl_RX12_474 : Cond.constantLong RX12 474 (1000000) ∈ tG := inG (i := 2023) (by decide +kernel) (by decide +kernel)
def P_X12_chance_L44  (x1 : Int) (x2 : Int) (x3 : Int) (x4 : Int) (K : Int → St → Prop) (Q : Int → St → Prop) : Nat → Int → Int → St → Prop
  | 0, _, _, _ => False
  | n + 1, x6, x8, σ => (if x2 ≤ x8 then K x6 σ else (P_X12_chance_L44 x1 x2 x3 x4 K Q n) (wj (x6 * 10)) (wi (x8 + 1)) σ)
set_option maxRecDepth 20000 in
set_option maxHeartbeats 2000000 in
theorem e_P_X12_chance_L44  {x1 : Int} {x2 : Int} {x3 : Int} {x4 : Int} {K : Int → St → Prop} {Q : Int → St → Prop}  (hK : ∀ x6 σ, K x6 σ → E Y_X12_chance 5 0 0 (QI Q) ww 0 0 64 [some (vR 12 0), some (vI x1), some (vI x2), some (vI x3), some (vL x4), none, some (vL x6), none, none, none, none, none, none] [] σ) : ∀ (n : Nat) (x6 : Int) (x8 : Int) (σ : St), P_X12_chance_L44 x1 x2 x3 x4 K Q n x6 x8 σ → E Y_X12_chance 5 0 0 (QI Q) ww 0 0 44 [some (vR 12 0), some (vI x1), some (vI x2), some (vI x3), some (vL x4), none, some (vL x6), none, some (vI x8), none, none, none, none] [] σ := by
  intro n
  induction n with
  | zero => intro x6 x8 σ h; exact h.elim
  | succ n hR =>
    intro x6 x8 σ h
    unfold P_X12_chance_L44 at h
    refine E_iload dX12_chance_44 rfl ?_
    refine E_iload_n dX12_chance_46 rfl rfl ?_
    refine E_icmp_ge (tgt := 64) dX12_chance_47 (by decide) (fun hc => ?_) (fun hc => ?_)
    · have h := Eq.mp (if_pos hc) h
      refine E_wk2 [some (vR 12 0), some (vI x1), some (vI x2), some (vI x3), some (vL x4), none, some (vL x6), none, none, none, none, none, none] ⟨rfl, ⟨rfl, ⟨rfl, ⟨rfl, ⟨rfl, ⟨rfl, trivial⟩⟩⟩⟩⟩⟩ ?_
      exact hK _ _ h
    · have h := Eq.mp (if_neg hc) h
      refine E_lload dX12_chance_50 rfl ?_
      refine E_ldc2 (z := 10) dX12_chance_52 kl_RX12_472 (by decide) ?_
      refine E_lmul dX12_chance_55 ?_
      refine E_lstore (ls' := [some (vR 12 0), some (vI x1), some (vI x2), some (vI x3), some (vL x4), none, some (vL (wj (x6 * 10))), none, some (vI x8), none, none, none, none]) dX12_chance_56 (by decide) rfl ?_
      refine E_iinc (ls' := [some (vR 12 0), some (vI x1), some (vI x2), some (vI x3), some (vL x4), none, some (vL (wj (x6 * 10))), none, some (vI (wi (x8 + 1))), none, none, none, none]) dX12_chance_58 rfl (by decide) rfl rfl ?_
      refine E_goto (tgt := 44) dX12_chance_61 (by decide) ?_
      exact hR _ _ _ h
def P_X12_chance_J150  (x1 : Int) (x2 : Int) (x3 : Int) (x4 : Int) (x6 : Int) (x8 : Int) (x9 : Int) (x11 : Int) (y0 : Int) (R : Int → Int → St → Prop) (K : Int → St → Prop) (Q : Int → St → Prop) (σ : St) : Prop :=
  P_X12_ends y0 σ (fun r_11 σ_10 => R x9 (wi (x11 + 1)) σ_10)
set_option maxRecDepth 20000 in
set_option maxHeartbeats 2000000 in
theorem e_P_X12_chance_J150  {x1 : Int} {x2 : Int} {x3 : Int} {x4 : Int} {x6 : Int} {x8 : Int} {x9 : Int} {x11 : Int} {y0 : Int} {R : Int → Int → St → Prop} {K : Int → St → Prop} {Q : Int → St → Prop} {σ : St}  (hR : ∀ x9 x11 σ, R x9 x11 σ → E Y_X12_chance 5 0 0 (QI Q) ww 0 0 94 [some (vR 12 0), some (vI x1), some (vI x2), some (vI x3), some (vL x4), none, some (vL x6), none, some (vI x8), some (vL x9), none, some (vI x11), none] [] σ) (hK : ∀ x9 σ, K x9 σ → E Y_X12_chance 5 0 0 (QI Q) ww 0 0 160 [some (vR 12 0), some (vI x1), some (vI x2), some (vI x3), some (vL x4), none, some (vL x6), none, some (vI x8), some (vL x9), none, none, none] [] σ) (h : P_X12_chance_J150 x1 x2 x3 x4 x6 x8 x9 x11 y0 R K Q σ) : E Y_X12_chance 5 0 0 (QI Q) ww 0 0 150 [some (vR 12 0), some (vI x1), some (vI x2), some (vI x3), some (vL x4), none, some (vL x6), none, some (vI x8), some (vL x9), none, some (vI x11), none] [vI y0, vR 12 0] σ := by
  unfold P_X12_chance_J150 at h
  refine E_callV (Y' := Y_X12_ends) (as := [vI y0]) (st := []) dX12_chance_150 lk_RX12_400 m_X12_ends (by decide) (Nat.le_refl _) (Nat.le_refl _) rfl rfl (Nat.le_of_ble_eq_true rfl) (s_X12_ends h) (fun r0 B0 σ_10 h => ?_)
  obtain ⟨r_11, rfl, rfl, h⟩ := h
  refine E_pop dX12_chance_153 (fun _ q => by cases q) ?_
  refine E_iinc (ls' := [some (vR 12 0), some (vI x1), some (vI x2), some (vI x3), some (vL x4), none, some (vL x6), none, some (vI x8), some (vL x9), none, some (vI (wi (x11 + 1))), none]) dX12_chance_154 rfl (by decide) rfl rfl ?_
  refine E_goto (tgt := 94) dX12_chance_157 (by decide) ?_
  exact hR _ _ _ h
def P_X12_chance_J135  (x1 : Int) (x2 : Int) (x3 : Int) (x4 : Int) (x6 : Int) (x8 : Int) (x11 : Int) (x12 : Int) (y0 : Int) (y1 : Int) (R : Int → Int → St → Prop) (K : Int → St → Prop) (Q : Int → St → Prop) (σ : St) : Prop :=
  (if x12 = 0 then P_X12_chance_J150 x1 x2 x3 x4 x6 x8 (wj (y1 * y0)) x11 0 R K Q σ else P_X12_chance_J150 x1 x2 x3 x4 x6 x8 (wj (y1 * y0)) x11 9 R K Q σ)
set_option maxRecDepth 20000 in
set_option maxHeartbeats 2000000 in
theorem e_P_X12_chance_J135  {x1 : Int} {x2 : Int} {x3 : Int} {x4 : Int} {x6 : Int} {x8 : Int} {x11 : Int} {x12 : Int} {y0 : Int} {y1 : Int} {R : Int → Int → St → Prop} {K : Int → St → Prop} {Q : Int → St → Prop} {σ : St}  (hR : ∀ x9 x11 σ, R x9 x11 σ → E Y_X12_chance 5 0 0 (QI Q) ww 0 0 94 [some (vR 12 0), some (vI x1), some (vI x2), some (vI x3), some (vL x4), none, some (vL x6), none, some (vI x8), some (vL x9), none, some (vI x11), none] [] σ) (hK : ∀ x9 σ, K x9 σ → E Y_X12_chance 5 0 0 (QI Q) ww 0 0 160 [some (vR 12 0), some (vI x1), some (vI x2), some (vI x3), some (vL x4), none, some (vL x6), none, some (vI x8), some (vL x9), none, none, none] [] σ) (h : P_X12_chance_J135 x1 x2 x3 x4 x6 x8 x11 x12 y0 y1 R K Q σ) : E Y_X12_chance 5 0 0 (QI Q) ww 0 0 135 [some (vR 12 0), some (vI x1), some (vI x2), some (vI x3), some (vL x4), none, some (vL x6), none, some (vI x8), none, none, some (vI x11), some (vI x12)] [vL y0, vL y1] σ := by
  unfold P_X12_chance_J135 at h
  refine E_lmul dX12_chance_135 ?_
  refine E_lstore (ls' := [some (vR 12 0), some (vI x1), some (vI x2), some (vI x3), some (vL x4), none, some (vL x6), none, some (vI x8), some (vL (wj (y1 * y0))), none, some (vI x11), some (vI x12)]) dX12_chance_136 (by decide) rfl ?_
  refine E_aload_n dX12_chance_138 rfl rfl ?_
  refine E_iload dX12_chance_139 rfl ?_
  refine E_if_eq (tgt := 149) dX12_chance_141 (by decide) (fun hc => ?_) (fun hc => ?_)
  · have h := Eq.mp (if_pos hc) h
    refine E_ic dX12_chance_149 rfl ?_
    refine E_wk2 [some (vR 12 0), some (vI x1), some (vI x2), some (vI x3), some (vL x4), none, some (vL x6), none, some (vI x8), some (vL (wj (y1 * y0))), none, some (vI x11), none] ⟨rfl, ⟨rfl, ⟨rfl, ⟨rfl, ⟨rfl, ⟨rfl, ⟨rfl, ⟨rfl, ⟨rfl, trivial⟩⟩⟩⟩⟩⟩⟩⟩⟩ ?_
    exact e_P_X12_chance_J150 hR hK h
  · have h := Eq.mp (if_neg hc) h
    refine E_bp dX12_chance_144 rfl ?_
    refine E_goto (tgt := 150) dX12_chance_146 (by decide) ?_
    refine E_wk2 [some (vR 12 0), some (vI x1), some (vI x2), some (vI x3), some (vL x4), none, some (vL x6), none, some (vI x8), some (vL (wj (y1 * y0))), none, some (vI x11), none] ⟨rfl, ⟨rfl, ⟨rfl, ⟨rfl, ⟨rfl, ⟨rfl, ⟨rfl, ⟨rfl, ⟨rfl, trivial⟩⟩⟩⟩⟩⟩⟩⟩⟩ ?_
    exact e_P_X12_chance_J150 hR hK h
def P_X12_chance_J116  (x1 : Int) (x2 : Int) (x3 : Int) (x4 : Int) (x6 : Int) (x8 : Int) (x9 : Int) (x11 : Int) (y0 : Int) (R : Int → Int → St → Prop) (K : Int → St → Prop) (Q : Int → St → Prop) (σ : St) : Prop :=
  (if y0 = 0 then P_X12_chance_J135 x1 x2 x3 x4 x6 x8 x11 y0 (wi (10 - x3)) x9 R K Q σ else P_X12_chance_J135 x1 x2 x3 x4 x6 x8 x11 y0 x3 x9 R K Q σ)
set_option maxRecDepth 20000 in
set_option maxHeartbeats 2000000 in
theorem e_P_X12_chance_J116  {x1 : Int} {x2 : Int} {x3 : Int} {x4 : Int} {x6 : Int} {x8 : Int} {x9 : Int} {x11 : Int} {y0 : Int} {R : Int → Int → St → Prop} {K : Int → St → Prop} {Q : Int → St → Prop} {σ : St}  (hR : ∀ x9 x11 σ, R x9 x11 σ → E Y_X12_chance 5 0 0 (QI Q) ww 0 0 94 [some (vR 12 0), some (vI x1), some (vI x2), some (vI x3), some (vL x4), none, some (vL x6), none, some (vI x8), some (vL x9), none, some (vI x11), none] [] σ) (hK : ∀ x9 σ, K x9 σ → E Y_X12_chance 5 0 0 (QI Q) ww 0 0 160 [some (vR 12 0), some (vI x1), some (vI x2), some (vI x3), some (vL x4), none, some (vL x6), none, some (vI x8), some (vL x9), none, none, none] [] σ) (h : P_X12_chance_J116 x1 x2 x3 x4 x6 x8 x9 x11 y0 R K Q σ) : E Y_X12_chance 5 0 0 (QI Q) ww 0 0 116 [some (vR 12 0), some (vI x1), some (vI x2), some (vI x3), some (vL x4), none, some (vL x6), none, some (vI x8), some (vL x9), none, some (vI x11), none] [vI y0] σ := by
  unfold P_X12_chance_J116 at h
  refine E_istore (ls' := [some (vR 12 0), some (vI x1), some (vI x2), some (vI x3), some (vL x4), none, some (vL x6), none, some (vI x8), some (vL x9), none, some (vI x11), some (vI y0)]) dX12_chance_116 (by decide) rfl ?_
  refine E_lload dX12_chance_118 rfl ?_
  refine E_iload dX12_chance_120 rfl ?_
  refine E_if_eq (tgt := 130) dX12_chance_122 (by decide) (fun hc => ?_) (fun hc => ?_)
  · have h := Eq.mp (if_pos hc) h
    refine E_bp dX12_chance_130 rfl ?_
    refine E_iload_n dX12_chance_132 rfl rfl ?_
    refine E_isub dX12_chance_133 ?_
    refine E_i2l dX12_chance_134 ?_
    refine E_wk2 [some (vR 12 0), some (vI x1), some (vI x2), some (vI x3), some (vL x4), none, some (vL x6), none, some (vI x8), none, none, some (vI x11), some (vI y0)] ⟨rfl, ⟨rfl, ⟨rfl, ⟨rfl, ⟨rfl, ⟨rfl, ⟨rfl, ⟨rfl, ⟨rfl, trivial⟩⟩⟩⟩⟩⟩⟩⟩⟩ ?_
    exact e_P_X12_chance_J135 hR hK h
  · have h := Eq.mp (if_neg hc) h
    refine E_iload_n dX12_chance_125 rfl rfl ?_
    refine E_i2l dX12_chance_126 ?_
    refine E_goto (tgt := 135) dX12_chance_127 (by decide) ?_
    refine E_wk2 [some (vR 12 0), some (vI x1), some (vI x2), some (vI x3), some (vL x4), none, some (vL x6), none, some (vI x8), none, none, some (vI x11), some (vI y0)] ⟨rfl, ⟨rfl, ⟨rfl, ⟨rfl, ⟨rfl, ⟨rfl, ⟨rfl, ⟨rfl, ⟨rfl, trivial⟩⟩⟩⟩⟩⟩⟩⟩⟩ ?_
    exact e_P_X12_chance_J135 hR hK h
def P_X12_chance_L94  (x1 : Int) (x2 : Int) (x3 : Int) (x4 : Int) (x6 : Int) (x8 : Int) (K : Int → St → Prop) (Q : Int → St → Prop) : Nat → Int → Int → St → Prop
  | 0, _, _, _ => False
  | n + 1, x9, x11, σ => (if x2 ≤ x11 then K x9 σ else (if (bA (bR x8 x11) 1) = 1 then P_X12_chance_J116 x1 x2 x3 x4 x6 x8 x9 x11 1 (P_X12_chance_L94 x1 x2 x3 x4 x6 x8 K Q n) K Q σ else P_X12_chance_J116 x1 x2 x3 x4 x6 x8 x9 x11 0 (P_X12_chance_L94 x1 x2 x3 x4 x6 x8 K Q n) K Q σ))
set_option maxRecDepth 20000 in
set_option maxHeartbeats 2000000 in
theorem e_P_X12_chance_L94  {x1 : Int} {x2 : Int} {x3 : Int} {x4 : Int} {x6 : Int} {x8 : Int} {K : Int → St → Prop} {Q : Int → St → Prop}  (hK : ∀ x9 σ, K x9 σ → E Y_X12_chance 5 0 0 (QI Q) ww 0 0 160 [some (vR 12 0), some (vI x1), some (vI x2), some (vI x3), some (vL x4), none, some (vL x6), none, some (vI x8), some (vL x9), none, none, none] [] σ) : ∀ (n : Nat) (x9 : Int) (x11 : Int) (σ : St), P_X12_chance_L94 x1 x2 x3 x4 x6 x8 K Q n x9 x11 σ → E Y_X12_chance 5 0 0 (QI Q) ww 0 0 94 [some (vR 12 0), some (vI x1), some (vI x2), some (vI x3), some (vL x4), none, some (vL x6), none, some (vI x8), some (vL x9), none, some (vI x11), none] [] σ := by
  intro n
  induction n with
  | zero => intro x9 x11 σ h; exact h.elim
  | succ n hR =>
    intro x9 x11 σ h
    unfold P_X12_chance_L94 at h
    refine E_iload dX12_chance_94 rfl ?_
    refine E_iload_n dX12_chance_96 rfl rfl ?_
    refine E_icmp_ge (tgt := 160) dX12_chance_97 (by decide) (fun hc => ?_) (fun hc => ?_)
    · have h := Eq.mp (if_pos hc) h
      refine E_wk2 [some (vR 12 0), some (vI x1), some (vI x2), some (vI x3), some (vL x4), none, some (vL x6), none, some (vI x8), some (vL x9), none, none, none] ⟨rfl, ⟨rfl, ⟨rfl, ⟨rfl, ⟨rfl, ⟨rfl, ⟨rfl, ⟨rfl, trivial⟩⟩⟩⟩⟩⟩⟩⟩ ?_
      exact hK _ _ h
    · have h := Eq.mp (if_neg hc) h
      refine E_iload dX12_chance_100 rfl ?_
      refine E_iload dX12_chance_102 rfl ?_
      refine E_ishr dX12_chance_104 ?_
      refine E_ic dX12_chance_105 rfl ?_
      refine E_iand dX12_chance_106 ?_
      refine E_ic dX12_chance_107 rfl ?_
      refine E_icmp_ne (tgt := 115) dX12_chance_108 (by decide) (fun hc => ?_) (fun hc => ?_)
      · have h := Eq.mp (if_neg hc) h
        refine E_ic dX12_chance_115 rfl ?_
        exact e_P_X12_chance_J116 hR hK h
      · have h := Eq.mp (if_pos hc) h
        refine E_ic dX12_chance_111 rfl ?_
        refine E_goto (tgt := 116) dX12_chance_112 (by decide) ?_
        exact e_P_X12_chance_J116 hR hK h
def P_X12_chance_J181  (x1 : Int) (x2 : Int) (x3 : Int) (x4 : Int) (x6 : Int) (x8 : Int) (R : Int → Int → St → Prop) (Q : Int → St → Prop) (σ : St) : Prop :=
  P_X12_copies 1348 0 0 1346 0 0 σ (fun σ_16 => R x4 (wi (x8 + 1)) σ_16)
set_option maxRecDepth 20000 in
set_option maxHeartbeats 2000000 in
theorem e_P_X12_chance_J181  {x1 : Int} {x2 : Int} {x3 : Int} {x4 : Int} {x6 : Int} {x8 : Int} {R : Int → Int → St → Prop} {Q : Int → St → Prop} {σ : St}  (hR : ∀ x4 x8 σ, R x4 x8 σ → E Y_X12_chance 5 0 0 (QI Q) ww 0 0 80 [some (vR 12 0), some (vI x1), some (vI x2), some (vI x3), some (vL x4), none, some (vL x6), none, some (vI x8), none, none, none, none] [] σ) (h : P_X12_chance_J181 x1 x2 x3 x4 x6 x8 R Q σ) : E Y_X12_chance 5 0 0 (QI Q) ww 0 0 181 [some (vR 12 0), some (vI x1), some (vI x2), some (vI x3), some (vL x4), none, some (vL x6), none, some (vI x8), none, none, none, none] [] σ := by
  unfold P_X12_chance_J181 at h
  refine E_aload_n dX12_chance_181 rfl rfl ?_
  refine E_getr (i := 0) dX12_chance_182 fl_RX12_117 rfl rfl (go_12_48 _ _) ?_
  refine E_ic dX12_chance_185 rfl ?_
  refine E_aload_n dX12_chance_186 rfl rfl ?_
  refine E_getr (i := 0) dX12_chance_187 fl_RX12_111 rfl rfl (go_12_46 _ _) ?_
  refine E_ic dX12_chance_190 rfl ?_
  refine E_callS (Y' := Y_X12_copies) (as := [vR 1348 0, vI 0, vR 1346 0, vI 0]) (st := []) dX12_chance_191 lk_RX12_409 m_X12_copies (by decide) (Nat.le_refl _) (Nat.le_refl _) rfl rfl (Nat.le_of_ble_eq_true rfl) (s_X12_copies h) (fun r0 B0 σ_16 h => ?_)
  obtain ⟨rfl, rfl, h⟩ := h
  refine E_iinc (ls' := [some (vR 12 0), some (vI x1), some (vI x2), some (vI x3), some (vL x4), none, some (vL x6), none, some (vI (wi (x8 + 1))), none, none, none, none]) dX12_chance_194 rfl (by decide) rfl rfl ?_
  refine E_goto (tgt := 80) dX12_chance_197 (by decide) ?_
  exact hR _ _ _ h
def P_X12_chance_L80  (x1 : Int) (x2 : Int) (x3 : Int) (x6 : Int)  (Q : Int → St → Prop) : Nat → Int → Int → St → Prop
  | 0, _, _, _ => False
  | n + 1, x4, x8, σ => (if (bL 1 x2) ≤ x8 then ¬ x6 = 0 ∧ Q (wi (wj ((wj (x4 * 1000000)).tdiv x6))) σ else P_X12_chance_L94 x1 x2 x3 x4 x6 x8 (fun x9_12 σ_13 => P_X12_fallOf x1 σ_13 (fun r_15 σ_14 => 0 ≤ x1 ∧ x1 < 12 ∧ (if r_15 = (σ_14 1317 0 x1) then P_X12_chance_J181 x1 x2 x3 (wj (x4 + x9_12)) x6 x8 (P_X12_chance_L80 x1 x2 x3 x6 Q n) Q σ_14 else P_X12_chance_J181 x1 x2 x3 x4 x6 x8 (P_X12_chance_L80 x1 x2 x3 x6 Q n) Q σ_14))) Q FU 1 0 σ)
set_option maxRecDepth 20000 in
set_option maxHeartbeats 2000000 in
theorem e_P_X12_chance_L80  {x1 : Int} {x2 : Int} {x3 : Int} {x6 : Int}  {Q : Int → St → Prop}   : ∀ (n : Nat) (x4 : Int) (x8 : Int) (σ : St), P_X12_chance_L80 x1 x2 x3 x6 Q n x4 x8 σ → E Y_X12_chance 5 0 0 (QI Q) ww 0 0 80 [some (vR 12 0), some (vI x1), some (vI x2), some (vI x3), some (vL x4), none, some (vL x6), none, some (vI x8), none, none, none, none] [] σ := by
  intro n
  induction n with
  | zero => intro x4 x8 σ h; exact h.elim
  | succ n hR =>
    intro x4 x8 σ h
    unfold P_X12_chance_L80 at h
    refine E_iload dX12_chance_80 rfl ?_
    refine E_ic dX12_chance_82 rfl ?_
    refine E_iload_n dX12_chance_83 rfl rfl ?_
    refine E_ishl dX12_chance_84 ?_
    refine E_icmp_ge (tgt := 200) dX12_chance_85 (by decide) (fun hc => ?_) (fun hc => ?_)
    · have h := Eq.mp (if_pos hc) h
      refine E_lload dX12_chance_200 rfl ?_
      refine E_ldc2 (z := 1000000) dX12_chance_202 kl_RX12_474 (by decide) ?_
      refine E_lmul dX12_chance_205 ?_
      refine E_lload dX12_chance_206 rfl ?_
      obtain ⟨hg0, h⟩ := h
      refine E_ldiv dX12_chance_208 hg0 ?_
      refine E_l2i dX12_chance_209 ?_
      exact E_iret dX12_chance_210 rfl ⟨_, rfl, rfl, h⟩
    · have h := Eq.mp (if_neg hc) h
      refine E_lc dX12_chance_88 rfl ?_
      refine E_lstore (ls' := [some (vR 12 0), some (vI x1), some (vI x2), some (vI x3), some (vL x4), none, some (vL x6), none, some (vI x8), some (vL 1), none, none, none]) dX12_chance_89 (by decide) rfl ?_
      refine E_ic dX12_chance_91 rfl ?_
      refine E_istore (ls' := [some (vR 12 0), some (vI x1), some (vI x2), some (vI x3), some (vL x4), none, some (vL x6), none, some (vI x8), some (vL 1), none, some (vI 0), none]) dX12_chance_92 (by decide) rfl ?_
      refine e_P_X12_chance_L94 ?_ _ _ _ _ h
      · intro x9_12 σ_13 h
        refine E_aload_n dX12_chance_160 rfl rfl ?_
        refine E_iload_n dX12_chance_161 rfl rfl ?_
        refine E_callV (Y' := Y_X12_fallOf) (as := [vI x1]) (st := []) dX12_chance_162 lk_RX12_366 m_X12_fallOf (by decide) (Nat.le_refl _) (Nat.le_refl _) rfl rfl (Nat.le_of_ble_eq_true rfl) (s_X12_fallOf h) (fun r0 B0 σ_14 h => ?_)
        obtain ⟨r_15, rfl, rfl, h⟩ := h
        refine E_aload_n dX12_chance_165 rfl rfl ?_
        refine E_getr (i := 0) dX12_chance_166 fl_RX12_35 rfl rfl (go_12_17 _ _) ?_
        refine E_iload_n dX12_chance_169 rfl rfl ?_
        obtain ⟨hg0, hg1, h⟩ := h
        refine E_iald dX12_chance_170 sh_1317 hg0 hg1 ?_
        refine E_icmp_ne (tgt := 181) dX12_chance_171 (by decide) (fun hc => ?_) (fun hc => ?_)
        · have h := Eq.mp (if_neg hc) h
          refine E_wk2 [some (vR 12 0), some (vI x1), some (vI x2), some (vI x3), some (vL x4), none, some (vL x6), none, some (vI x8), none, none, none, none] ⟨rfl, ⟨rfl, ⟨rfl, ⟨rfl, ⟨rfl, ⟨rfl, ⟨rfl, trivial⟩⟩⟩⟩⟩⟩⟩ ?_
          exact e_P_X12_chance_J181 hR h
        · have h := Eq.mp (if_pos hc) h
          refine E_lload dX12_chance_174 rfl ?_
          refine E_lload dX12_chance_176 rfl ?_
          refine E_ladd dX12_chance_178 ?_
          refine E_lstore (ls' := [some (vR 12 0), some (vI x1), some (vI x2), some (vI x3), some (vL (wj (x4 + x9_12))), none, some (vL x6), none, some (vI x8), some (vL x9_12), none, none, none]) dX12_chance_179 (by decide) rfl ?_
          refine E_wk2 [some (vR 12 0), some (vI x1), some (vI x2), some (vI x3), some (vL (wj (x4 + x9_12))), none, some (vL x6), none, some (vI x8), none, none, none, none] ⟨rfl, ⟨rfl, ⟨rfl, ⟨rfl, ⟨rfl, ⟨rfl, ⟨rfl, trivial⟩⟩⟩⟩⟩⟩⟩ ?_
          exact e_P_X12_chance_J181 hR h
def P_X12_chance  (x1 : Int) (x2 : Int) (x3 : Int) (σ : St) (Q : Int → St → Prop) : Prop :=
  P_X12_isBall x1 (up σ 12 0 0 0) (fun r_2 σ_1 => (if r_2 = 0 then Q (-1) σ_1 else P_X12_within x2 1 6 σ_1 (fun r_4 σ_3 => (if r_4 = 0 then Q (-1) σ_3 else P_X12_within x3 0 10 σ_3 (fun r_6 σ_5 => (if r_6 = 0 then Q (-1) σ_5 else P_X12_chance_L44 x1 x2 x3 0 (fun x6_7 σ_8 => P_X12_copies 1346 0 0 1348 0 0 σ_8 (fun σ_9 => P_X12_chance_L80 x1 x2 x3 x6_7 Q FU 0 0 σ_9)) Q FU 1 0 σ_5))))))
set_option maxRecDepth 20000 in
set_option maxHeartbeats 2000000 in
theorem s_X12_chance   {x1 : Int} {x2 : Int} {x3 : Int} {σ : St} {Q : Int → St → Prop} (h : P_X12_chance x1 x2 x3 σ Q) : Cn Y_X12_chance 5 0 0 ww σ [vR 12 0, vI x1, vI x2, vI x3] (QI Q) := by
  refine Cn_of [some (vR 12 0), some (vI x1), some (vI x2), some (vI x3), none, none, none, none, none, none, none, none, none] (by decide) (Nat.le_of_ble_eq_true rfl) rfl ?_
  unfold P_X12_chance at h
  refine E_aload_n dX12_chance_0 rfl rfl ?_
  refine E_ic dX12_chance_1 rfl ?_
  refine E_puti dX12_chance_2 fl_RX12_141 rfl rfl rfl ?_
  refine E_aload_n dX12_chance_5 rfl rfl ?_
  refine E_iload_n dX12_chance_6 rfl rfl ?_
  refine E_callV (Y' := Y_X12_isBall) (as := [vI x1]) (st := []) dX12_chance_7 lk_RX12_406 m_X12_isBall (by decide) (Nat.le_refl _) (Nat.le_refl _) rfl rfl (Nat.le_of_ble_eq_true rfl) (s_X12_isBall h) (fun r0 B0 σ_1 h => ?_)
  obtain ⟨r_2, rfl, rfl, h⟩ := h
  refine E_if_eq (tgt := 33) dX12_chance_10 (by decide) (fun hc => ?_) (fun hc => ?_)
  · have h := Eq.mp (if_pos hc) h
    refine E_ic dX12_chance_33 rfl ?_
    exact E_iret dX12_chance_34 rfl ⟨_, rfl, rfl, h⟩
  · have h := Eq.mp (if_neg hc) h
    refine E_iload_n dX12_chance_13 rfl rfl ?_
    refine E_ic dX12_chance_14 rfl ?_
    refine E_bp dX12_chance_15 rfl ?_
    refine E_callS (Y' := Y_X12_within) (as := [vI x2, vI 1, vI 6]) (st := []) dX12_chance_17 lk_RX12_264 m_X12_within (by decide) (Nat.le_refl _) (Nat.le_refl _) rfl rfl (Nat.le_of_ble_eq_true rfl) (s_X12_within h) (fun r0 B0 σ_3 h => ?_)
    obtain ⟨r_4, rfl, rfl, h⟩ := h
    refine E_if_eq (tgt := 33) dX12_chance_20 (by decide) (fun hc => ?_) (fun hc => ?_)
    · have h := Eq.mp (if_pos hc) h
      refine E_ic dX12_chance_33 rfl ?_
      exact E_iret dX12_chance_34 rfl ⟨_, rfl, rfl, h⟩
    · have h := Eq.mp (if_neg hc) h
      refine E_iload_n dX12_chance_23 rfl rfl ?_
      refine E_ic dX12_chance_24 rfl ?_
      refine E_bp dX12_chance_25 rfl ?_
      refine E_callS (Y' := Y_X12_within) (as := [vI x3, vI 0, vI 10]) (st := []) dX12_chance_27 lk_RX12_264 m_X12_within (by decide) (Nat.le_refl _) (Nat.le_refl _) rfl rfl (Nat.le_of_ble_eq_true rfl) (s_X12_within h) (fun r0 B0 σ_5 h => ?_)
      obtain ⟨r_6, rfl, rfl, h⟩ := h
      refine E_if_ne (tgt := 35) dX12_chance_30 (by decide) (fun hc => ?_) (fun hc => ?_)
      · have h := Eq.mp (if_neg hc) h
        refine E_lc dX12_chance_35 rfl ?_
        refine E_lstore (ls' := [some (vR 12 0), some (vI x1), some (vI x2), some (vI x3), some (vL 0), none, none, none, none, none, none, none, none]) dX12_chance_36 (by decide) rfl ?_
        refine E_lc dX12_chance_38 rfl ?_
        refine E_lstore (ls' := [some (vR 12 0), some (vI x1), some (vI x2), some (vI x3), some (vL 0), none, some (vL 1), none, none, none, none, none, none]) dX12_chance_39 (by decide) rfl ?_
        refine E_ic dX12_chance_41 rfl ?_
        refine E_istore (ls' := [some (vR 12 0), some (vI x1), some (vI x2), some (vI x3), some (vL 0), none, some (vL 1), none, some (vI 0), none, none, none, none]) dX12_chance_42 (by decide) rfl ?_
        refine e_P_X12_chance_L44 ?_ _ _ _ _ h
        · intro x6_7 σ_8 h
          refine E_aload_n dX12_chance_64 rfl rfl ?_
          refine E_getr (i := 0) dX12_chance_65 fl_RX12_111 rfl rfl (go_12_46 _ _) ?_
          refine E_ic dX12_chance_68 rfl ?_
          refine E_aload_n dX12_chance_69 rfl rfl ?_
          refine E_getr (i := 0) dX12_chance_70 fl_RX12_117 rfl rfl (go_12_48 _ _) ?_
          refine E_ic dX12_chance_73 rfl ?_
          refine E_callS (Y' := Y_X12_copies) (as := [vR 1346 0, vI 0, vR 1348 0, vI 0]) (st := []) dX12_chance_74 lk_RX12_409 m_X12_copies (by decide) (Nat.le_refl _) (Nat.le_refl _) rfl rfl (Nat.le_of_ble_eq_true rfl) (s_X12_copies h) (fun r0 B0 σ_9 h => ?_)
          obtain ⟨rfl, rfl, h⟩ := h
          refine E_ic dX12_chance_77 rfl ?_
          refine E_istore (ls' := [some (vR 12 0), some (vI x1), some (vI x2), some (vI x3), some (vL 0), none, some (vL x6_7), none, some (vI 0), none, none, none, none]) dX12_chance_78 (by decide) rfl ?_
          refine e_P_X12_chance_L80  _ _ _ _ h
      · have h := Eq.mp (if_pos hc) h
        refine E_ic dX12_chance_33 rfl ?_
        exact E_iret dX12_chance_34 rfl ⟨_, rfl, rfl, h⟩
abbrev Y_X12_getsBy : My := (yX12_getsBy, cX12_getsBy, 5, some .int)
theorem dX12_getsBy_0 : decode cX12_getsBy 0 = .ok (.iload_n 3, 1) := by decide +kernel
theorem dX12_getsBy_1 : decode cX12_getsBy 1 = .ok (.iconst 1, 1) := by decide +kernel
theorem dX12_getsBy_2 : decode cX12_getsBy 2 = .ok (.if_icmp .ne 18, 3) := by decide +kernel
theorem dX12_getsBy_5 : decode cX12_getsBy 5 = .ok (.iload 4, 2) := by decide +kernel
theorem dX12_getsBy_7 : decode cX12_getsBy 7 = .ok (.iconst 1, 1) := by decide +kernel
theorem dX12_getsBy_8 : decode cX12_getsBy 8 = .ok (.if_icmp .ne 8, 3) := by decide +kernel
theorem dX12_getsBy_11 : decode cX12_getsBy 11 = .ok (.iload_n 0, 1) := by decide +kernel
theorem dX12_getsBy_12 : decode cX12_getsBy 12 = .ok (.ineg, 1) := by decide +kernel
theorem dX12_getsBy_13 : decode cX12_getsBy 13 = .ok (.goto 18, 3) := by decide +kernel
theorem dX12_getsBy_16 : decode cX12_getsBy 16 = .ok (.iload_n 1, 1) := by decide +kernel
theorem dX12_getsBy_17 : decode cX12_getsBy 17 = .ok (.goto 14, 3) := by decide +kernel
theorem dX12_getsBy_20 : decode cX12_getsBy 20 = .ok (.iload 4, 2) := by decide +kernel
theorem dX12_getsBy_22 : decode cX12_getsBy 22 = .ok (.iconst 1, 1) := by decide +kernel
theorem dX12_getsBy_23 : decode cX12_getsBy 23 = .ok (.if_icmp .ne 7, 3) := by decide +kernel
theorem dX12_getsBy_26 : decode cX12_getsBy 26 = .ok (.iload_n 2, 1) := by decide +kernel
theorem dX12_getsBy_27 : decode cX12_getsBy 27 = .ok (.goto 4, 3) := by decide +kernel
theorem dX12_getsBy_30 : decode cX12_getsBy 30 = .ok (.iconst 0, 1) := by decide +kernel
theorem dX12_getsBy_31 : decode cX12_getsBy 31 = .ok (.ireturn, 1) := by decide +kernel
def P_X12_getsBy  (x0 : Int) (x1 : Int) (x2 : Int) (x3 : Int) (x4 : Int) (σ : St) (Q : Int → St → Prop) : Prop :=
  (if x3 = 1 then (if x4 = 1 then Q (wi (-x0)) σ else Q x1 σ) else (if x4 = 1 then Q x2 σ else Q 0 σ))
set_option maxRecDepth 20000 in
set_option maxHeartbeats 2000000 in
theorem s_X12_getsBy   {x0 : Int} {x1 : Int} {x2 : Int} {x3 : Int} {x4 : Int} {σ : St} {Q : Int → St → Prop} (h : P_X12_getsBy x0 x1 x2 x3 x4 σ Q) : Cn Y_X12_getsBy 0 0 0 ww σ [vI x0, vI x1, vI x2, vI x3, vI x4] (QI Q) := by
  refine Cn_of [some (vI x0), some (vI x1), some (vI x2), some (vI x3), some (vI x4)] (by decide) (Nat.le_of_ble_eq_true rfl) rfl ?_
  unfold P_X12_getsBy at h
  refine E_iload_n dX12_getsBy_0 rfl rfl ?_
  refine E_ic dX12_getsBy_1 rfl ?_
  refine E_icmp_ne (tgt := 20) dX12_getsBy_2 (by decide) (fun hc => ?_) (fun hc => ?_)
  · have h := Eq.mp (if_neg hc) h
    refine E_iload dX12_getsBy_20 rfl ?_
    refine E_ic dX12_getsBy_22 rfl ?_
    refine E_icmp_ne (tgt := 30) dX12_getsBy_23 (by decide) (fun hc => ?_) (fun hc => ?_)
    · have h := Eq.mp (if_neg hc) h
      refine E_ic dX12_getsBy_30 rfl ?_
      exact E_iret dX12_getsBy_31 rfl ⟨_, rfl, rfl, h⟩
    · have h := Eq.mp (if_pos hc) h
      refine E_iload_n dX12_getsBy_26 rfl rfl ?_
      refine E_goto (tgt := 31) dX12_getsBy_27 (by decide) ?_
      exact E_iret dX12_getsBy_31 rfl ⟨_, rfl, rfl, h⟩
  · have h := Eq.mp (if_pos hc) h
    refine E_iload dX12_getsBy_5 rfl ?_
    refine E_ic dX12_getsBy_7 rfl ?_
    refine E_icmp_ne (tgt := 16) dX12_getsBy_8 (by decide) (fun hc => ?_) (fun hc => ?_)
    · have h := Eq.mp (if_neg hc) h
      refine E_iload_n dX12_getsBy_16 rfl rfl ?_
      refine E_goto (tgt := 31) dX12_getsBy_17 (by decide) ?_
      exact E_iret dX12_getsBy_31 rfl ⟨_, rfl, rfl, h⟩
    · have h := Eq.mp (if_pos hc) h
      refine E_iload_n dX12_getsBy_11 rfl rfl ?_
      refine E_ineg dX12_getsBy_12 ?_
      refine E_goto (tgt := 31) dX12_getsBy_13 (by decide) ?_
      exact E_iret dX12_getsBy_31 rfl ⟨_, rfl, rfl, h⟩
abbrev Y_X12_rests : My := (yX12_rests, cX12_rests, 9, some .int)
theorem dX12_rests_0 : decode cX12_rests 0 = .ok (.aload_n 0, 1) := by decide +kernel
theorem dX12_rests_1 : decode cX12_rests 1 = .ok (.iload_n 1, 1) := by decide +kernel
theorem dX12_rests_2 : decode cX12_rests 2 = .ok (.iconst 0, 1) := by decide +kernel
theorem dX12_rests_3 : decode cX12_rests 3 = .ok (.bipush 9, 2) := by decide +kernel
theorem dX12_rests_5 : decode cX12_rests 5 = .ok (.invokestatic 264, 3) := by decide +kernel
theorem dX12_rests_8 : decode cX12_rests 8 = .ok (.ifCond .eq 33, 3) := by decide +kernel
theorem dX12_rests_11 : decode cX12_rests 11 = .ok (.iload_n 2, 1) := by decide +kernel
theorem dX12_rests_12 : decode cX12_rests 12 = .ok (.iconst 0, 1) := by decide +kernel
theorem dX12_rests_13 : decode cX12_rests 13 = .ok (.bipush 9, 2) := by decide +kernel
theorem dX12_rests_15 : decode cX12_rests 15 = .ok (.invokestatic 264, 3) := by decide +kernel
theorem dX12_rests_18 : decode cX12_rests 18 = .ok (.ifCond .eq 23, 3) := by decide +kernel
theorem dX12_rests_21 : decode cX12_rests 21 = .ok (.iload_n 3, 1) := by decide +kernel
theorem dX12_rests_22 : decode cX12_rests 22 = .ok (.iconst 0, 1) := by decide +kernel
theorem dX12_rests_23 : decode cX12_rests 23 = .ok (.bipush 9, 2) := by decide +kernel
theorem dX12_rests_25 : decode cX12_rests 25 = .ok (.invokestatic 264, 3) := by decide +kernel
theorem dX12_rests_28 : decode cX12_rests 28 = .ok (.ifCond .eq 13, 3) := by decide +kernel
theorem dX12_rests_31 : decode cX12_rests 31 = .ok (.iload 4, 2) := by decide +kernel
theorem dX12_rests_33 : decode cX12_rests 33 = .ok (.iconst (-1), 1) := by decide +kernel
theorem dX12_rests_34 : decode cX12_rests 34 = .ok (.if_icmp .lt 7, 3) := by decide +kernel
theorem dX12_rests_37 : decode cX12_rests 37 = .ok (.iconst 0, 1) := by decide +kernel
theorem dX12_rests_38 : decode cX12_rests 38 = .ok (.goto 4, 3) := by decide +kernel
theorem dX12_rests_41 : decode cX12_rests 41 = .ok (.iconst 1, 1) := by decide +kernel
theorem dX12_rests_42 : decode cX12_rests 42 = .ok (.putfield 141, 3) := by decide +kernel
theorem dX12_rests_45 : decode cX12_rests 45 = .ok (.aload_n 0, 1) := by decide +kernel
theorem dX12_rests_46 : decode cX12_rests 46 = .ok (.getfield 141, 3) := by decide +kernel
theorem dX12_rests_49 : decode cX12_rests 49 = .ok (.iconst 1, 1) := by decide +kernel
theorem dX12_rests_50 : decode cX12_rests 50 = .ok (.if_icmp .ne 5, 3) := by decide +kernel
theorem dX12_rests_53 : decode cX12_rests 53 = .ok (.iconst 0, 1) := by decide +kernel
theorem dX12_rests_54 : decode cX12_rests 54 = .ok (.ireturn, 1) := by decide +kernel
theorem dX12_rests_55 : decode cX12_rests 55 = .ok (.iconst 0, 1) := by decide +kernel
theorem dX12_rests_56 : decode cX12_rests 56 = .ok (.istore 5, 2) := by decide +kernel
theorem dX12_rests_58 : decode cX12_rests 58 = .ok (.iconst 0, 1) := by decide +kernel
theorem dX12_rests_59 : decode cX12_rests 59 = .ok (.istore 6, 2) := by decide +kernel
theorem dX12_rests_61 : decode cX12_rests 61 = .ok (.iload 6, 2) := by decide +kernel
theorem dX12_rests_63 : decode cX12_rests 63 = .ok (.iconst 4, 1) := by decide +kernel
theorem dX12_rests_64 : decode cX12_rests 64 = .ok (.if_icmp .ge 87, 3) := by decide +kernel
theorem dX12_rests_67 : decode cX12_rests 67 = .ok (.iload 6, 2) := by decide +kernel
theorem dX12_rests_69 : decode cX12_rests 69 = .ok (.iconst 2, 1) := by decide +kernel
theorem dX12_rests_70 : decode cX12_rests 70 = .ok (.idiv, 1) := by decide +kernel
theorem dX12_rests_71 : decode cX12_rests 71 = .ok (.istore 7, 2) := by decide +kernel
theorem dX12_rests_73 : decode cX12_rests 73 = .ok (.iload 6, 2) := by decide +kernel
theorem dX12_rests_75 : decode cX12_rests 75 = .ok (.iconst 2, 1) := by decide +kernel
theorem dX12_rests_76 : decode cX12_rests 76 = .ok (.irem, 1) := by decide +kernel
theorem dX12_rests_77 : decode cX12_rests 77 = .ok (.istore 8, 2) := by decide +kernel
theorem dX12_rests_79 : decode cX12_rests 79 = .ok (.iload_n 1, 1) := by decide +kernel
theorem dX12_rests_80 : decode cX12_rests 80 = .ok (.iload_n 2, 1) := by decide +kernel
theorem dX12_rests_81 : decode cX12_rests 81 = .ok (.iload_n 3, 1) := by decide +kernel
theorem dX12_rests_82 : decode cX12_rests 82 = .ok (.iconst 1, 1) := by decide +kernel
theorem dX12_rests_83 : decode cX12_rests 83 = .ok (.iload 7, 2) := by decide +kernel
theorem dX12_rests_85 : decode cX12_rests 85 = .ok (.isub, 1) := by decide +kernel
theorem dX12_rests_86 : decode cX12_rests 86 = .ok (.iload 8, 2) := by decide +kernel
theorem dX12_rests_88 : decode cX12_rests 88 = .ok (.invokestatic 476, 3) := by decide +kernel
theorem dX12_rests_91 : decode cX12_rests 91 = .ok (.iload_n 1, 1) := by decide +kernel
theorem dX12_rests_92 : decode cX12_rests 92 = .ok (.iload_n 2, 1) := by decide +kernel
theorem dX12_rests_93 : decode cX12_rests 93 = .ok (.iload_n 3, 1) := by decide +kernel
theorem dX12_rests_94 : decode cX12_rests 94 = .ok (.iload 7, 2) := by decide +kernel
theorem dX12_rests_96 : decode cX12_rests 96 = .ok (.iload 8, 2) := by decide +kernel
theorem dX12_rests_98 : decode cX12_rests 98 = .ok (.invokestatic 476, 3) := by decide +kernel
theorem dX12_rests_101 : decode cX12_rests 101 = .ok (.if_icmp .gt 44, 3) := by decide +kernel
theorem dX12_rests_104 : decode cX12_rests 104 = .ok (.iload_n 1, 1) := by decide +kernel
theorem dX12_rests_105 : decode cX12_rests 105 = .ok (.iload_n 2, 1) := by decide +kernel
theorem dX12_rests_106 : decode cX12_rests 106 = .ok (.iload_n 3, 1) := by decide +kernel
theorem dX12_rests_107 : decode cX12_rests 107 = .ok (.iconst 1, 1) := by decide +kernel
theorem dX12_rests_108 : decode cX12_rests 108 = .ok (.iload 8, 2) := by decide +kernel
theorem dX12_rests_110 : decode cX12_rests 110 = .ok (.isub, 1) := by decide +kernel
theorem dX12_rests_111 : decode cX12_rests 111 = .ok (.iload 7, 2) := by decide +kernel
theorem dX12_rests_113 : decode cX12_rests 113 = .ok (.invokestatic 476, 3) := by decide +kernel
theorem dX12_rests_116 : decode cX12_rests 116 = .ok (.iload_n 1, 1) := by decide +kernel
theorem dX12_rests_117 : decode cX12_rests 117 = .ok (.iload_n 2, 1) := by decide +kernel
theorem dX12_rests_118 : decode cX12_rests 118 = .ok (.iload_n 3, 1) := by decide +kernel
theorem dX12_rests_119 : decode cX12_rests 119 = .ok (.iload 8, 2) := by decide +kernel
theorem dX12_rests_121 : decode cX12_rests 121 = .ok (.iload 7, 2) := by decide +kernel
theorem dX12_rests_123 : decode cX12_rests 123 = .ok (.invokestatic 476, 3) := by decide +kernel
theorem dX12_rests_126 : decode cX12_rests 126 = .ok (.if_icmp .le 6, 3) := by decide +kernel
theorem dX12_rests_129 : decode cX12_rests 129 = .ok (.goto 16, 3) := by decide +kernel
theorem dX12_rests_132 : decode cX12_rests 132 = .ok (.iload 5, 2) := by decide +kernel
theorem dX12_rests_134 : decode cX12_rests 134 = .ok (.iload 4, 2) := by decide +kernel
theorem dX12_rests_136 : decode cX12_rests 136 = .ok (.if_icmp .ne 6, 3) := by decide +kernel
theorem dX12_rests_139 : decode cX12_rests 139 = .ok (.iload 6, 2) := by decide +kernel
theorem dX12_rests_141 : decode cX12_rests 141 = .ok (.ireturn, 1) := by decide +kernel
theorem dX12_rests_142 : decode cX12_rests 142 = .ok (.iinc 5 1, 3) := by decide +kernel
theorem dX12_rests_145 : decode cX12_rests 145 = .ok (.iinc 6 1, 3) := by decide +kernel
theorem dX12_rests_148 : decode cX12_rests 148 = .ok (.goto (-87), 3) := by decide +kernel
theorem dX12_rests_151 : decode cX12_rests 151 = .ok (.aload_n 0, 1) := by decide +kernel
theorem dX12_rests_152 : decode cX12_rests 152 = .ok (.iload 4, 2) := by decide +kernel
theorem dX12_rests_154 : decode cX12_rests 154 = .ok (.iconst (-1), 1) := by decide +kernel
theorem dX12_rests_155 : decode cX12_rests 155 = .ok (.if_icmp .ne 7, 3) := by decide +kernel
theorem dX12_rests_158 : decode cX12_rests 158 = .ok (.iconst 0, 1) := by decide +kernel
theorem dX12_rests_159 : decode cX12_rests 159 = .ok (.goto 4, 3) := by decide +kernel
theorem dX12_rests_162 : decode cX12_rests 162 = .ok (.iconst 1, 1) := by decide +kernel
theorem dX12_rests_163 : decode cX12_rests 163 = .ok (.putfield 141, 3) := by decide +kernel
theorem dX12_rests_166 : decode cX12_rests 166 = .ok (.iload 4, 2) := by decide +kernel
theorem dX12_rests_168 : decode cX12_rests 168 = .ok (.iconst (-1), 1) := by decide +kernel
theorem dX12_rests_169 : decode cX12_rests 169 = .ok (.if_icmp .ne 8, 3) := by decide +kernel
theorem dX12_rests_172 : decode cX12_rests 172 = .ok (.iload 5, 2) := by decide +kernel
theorem dX12_rests_174 : decode cX12_rests 174 = .ok (.goto 4, 3) := by decide +kernel
theorem dX12_rests_177 : decode cX12_rests 177 = .ok (.iconst 0, 1) := by decide +kernel
theorem dX12_rests_178 : decode cX12_rests 178 = .ok (.ireturn, 1) := by decide +kernel
theorem lk_RX12_476 : Cond.methodLink RX12 476 yX12_getsBy ∈ tG := inG (i := 2028) (by decide +kernel) (by decide +kernel)
theorem m_X12_getsBy : MS Y_X12_getsBy 5 := ⟨⟨inG (i := 2030) (by decide +kernel) (by decide +kernel), inG (i := 110) (by decide +kernel) (by decide +kernel), by decide, by decide, by decide, by decide +kernel⟩, inG (i := 2029) (by decide +kernel) (by decide +kernel)⟩
def P_X12_rests_L61  (x1 : Int) (x2 : Int) (x3 : Int) (x4 : Int) (K : Int → St → Prop) (Q : Int → St → Prop) : Nat → Int → Int → St → Prop
  | 0, _, _, _ => False
  | n + 1, x5, x6, σ => (if 4 ≤ x6 then K x5 σ else P_X12_getsBy x1 x2 x3 (wi (1 - (wi (x6.tdiv 2)))) (x6.tmod 2) σ (fun r_4 σ_3 => P_X12_getsBy x1 x2 x3 (wi (x6.tdiv 2)) (x6.tmod 2) σ_3 (fun r_6 σ_5 => (if r_6 < r_4 then (P_X12_rests_L61 x1 x2 x3 x4 K Q n) x5 (wi (x6 + 1)) σ_5 else P_X12_getsBy x1 x2 x3 (wi (1 - (x6.tmod 2))) (wi (x6.tdiv 2)) σ_5 (fun r_8 σ_7 => P_X12_getsBy x1 x2 x3 (x6.tmod 2) (wi (x6.tdiv 2)) σ_7 (fun r_10 σ_9 => (if r_8 ≤ r_10 then (if x5 = x4 then Q x6 σ_9 else (P_X12_rests_L61 x1 x2 x3 x4 K Q n) (wi (x5 + 1)) (wi (x6 + 1)) σ_9) else (P_X12_rests_L61 x1 x2 x3 x4 K Q n) x5 (wi (x6 + 1)) σ_9)))))))
set_option maxRecDepth 20000 in
set_option maxHeartbeats 2000000 in
theorem e_P_X12_rests_L61  {x1 : Int} {x2 : Int} {x3 : Int} {x4 : Int} {K : Int → St → Prop} {Q : Int → St → Prop}  (hK : ∀ x5 σ, K x5 σ → E Y_X12_rests 1 0 0 (QI Q) ww 0 0 151 [some (vR 12 0), none, none, none, some (vI x4), some (vI x5), none, none, none] [] σ) : ∀ (n : Nat) (x5 : Int) (x6 : Int) (σ : St), P_X12_rests_L61 x1 x2 x3 x4 K Q n x5 x6 σ → E Y_X12_rests 1 0 0 (QI Q) ww 0 0 61 [some (vR 12 0), some (vI x1), some (vI x2), some (vI x3), some (vI x4), some (vI x5), some (vI x6), none, none] [] σ := by
  intro n
  induction n with
  | zero => intro x5 x6 σ h; exact h.elim
  | succ n hR =>
    intro x5 x6 σ h
    unfold P_X12_rests_L61 at h
    refine E_iload dX12_rests_61 rfl ?_
    refine E_ic dX12_rests_63 rfl ?_
    refine E_icmp_ge (tgt := 151) dX12_rests_64 (by decide) (fun hc => ?_) (fun hc => ?_)
    · have h := Eq.mp (if_pos hc) h
      refine E_wk2 [some (vR 12 0), none, none, none, some (vI x4), some (vI x5), none, none, none] ⟨rfl, ⟨rfl, ⟨rfl, trivial⟩⟩⟩ ?_
      exact hK _ _ h
    · have h := Eq.mp (if_neg hc) h
      refine E_iload dX12_rests_67 rfl ?_
      refine E_ic dX12_rests_69 rfl ?_
      refine E_idiv dX12_rests_70 (by decide) ?_
      refine E_istore (ls' := [some (vR 12 0), some (vI x1), some (vI x2), some (vI x3), some (vI x4), some (vI x5), some (vI x6), some (vI (wi (x6.tdiv 2))), none]) dX12_rests_71 (by decide) rfl ?_
      refine E_iload dX12_rests_73 rfl ?_
      refine E_ic dX12_rests_75 rfl ?_
      refine E_irem dX12_rests_76 (by decide) ?_
      refine E_istore (ls' := [some (vR 12 0), some (vI x1), some (vI x2), some (vI x3), some (vI x4), some (vI x5), some (vI x6), some (vI (wi (x6.tdiv 2))), some (vI (x6.tmod 2))]) dX12_rests_77 (by decide) rfl ?_
      refine E_iload_n dX12_rests_79 rfl rfl ?_
      refine E_iload_n dX12_rests_80 rfl rfl ?_
      refine E_iload_n dX12_rests_81 rfl rfl ?_
      refine E_ic dX12_rests_82 rfl ?_
      refine E_iload dX12_rests_83 rfl ?_
      refine E_isub dX12_rests_85 ?_
      refine E_iload dX12_rests_86 rfl ?_
      refine E_callS (Y' := Y_X12_getsBy) (as := [vI x1, vI x2, vI x3, vI (wi (1 - (wi (x6.tdiv 2)))), vI (x6.tmod 2)]) (st := []) dX12_rests_88 lk_RX12_476 m_X12_getsBy (by decide) (Nat.le_refl _) (Nat.le_refl _) rfl rfl (Nat.le_of_ble_eq_true rfl) (s_X12_getsBy h) (fun r0 B0 σ_3 h => ?_)
      obtain ⟨r_4, rfl, rfl, h⟩ := h
      refine E_iload_n dX12_rests_91 rfl rfl ?_
      refine E_iload_n dX12_rests_92 rfl rfl ?_
      refine E_iload_n dX12_rests_93 rfl rfl ?_
      refine E_iload dX12_rests_94 rfl ?_
      refine E_iload dX12_rests_96 rfl ?_
      refine E_callS (Y' := Y_X12_getsBy) (as := [vI x1, vI x2, vI x3, vI (wi (x6.tdiv 2)), vI (x6.tmod 2)]) (st := [vI r_4]) dX12_rests_98 lk_RX12_476 m_X12_getsBy (by decide) (Nat.le_refl _) (Nat.le_refl _) rfl rfl (Nat.le_of_ble_eq_true rfl) (s_X12_getsBy h) (fun r0 B0 σ_5 h => ?_)
      obtain ⟨r_6, rfl, rfl, h⟩ := h
      refine E_icmp_gt (tgt := 145) dX12_rests_101 (by decide) (fun hc => ?_) (fun hc => ?_)
      · have h := Eq.mp (if_pos hc) h
        refine E_iinc (ls' := [some (vR 12 0), some (vI x1), some (vI x2), some (vI x3), some (vI x4), some (vI x5), some (vI (wi (x6 + 1))), some (vI (wi (x6.tdiv 2))), some (vI (x6.tmod 2))]) dX12_rests_145 rfl (by decide) rfl rfl ?_
        refine E_goto (tgt := 61) dX12_rests_148 (by decide) ?_
        refine E_wk2 [some (vR 12 0), some (vI x1), some (vI x2), some (vI x3), some (vI x4), some (vI x5), some (vI (wi (x6 + 1))), none, none] ⟨rfl, ⟨rfl, ⟨rfl, ⟨rfl, ⟨rfl, ⟨rfl, ⟨rfl, trivial⟩⟩⟩⟩⟩⟩⟩ ?_
        exact hR _ _ _ h
      · have h := Eq.mp (if_neg hc) h
        refine E_iload_n dX12_rests_104 rfl rfl ?_
        refine E_iload_n dX12_rests_105 rfl rfl ?_
        refine E_iload_n dX12_rests_106 rfl rfl ?_
        refine E_ic dX12_rests_107 rfl ?_
        refine E_iload dX12_rests_108 rfl ?_
        refine E_isub dX12_rests_110 ?_
        refine E_iload dX12_rests_111 rfl ?_
        refine E_callS (Y' := Y_X12_getsBy) (as := [vI x1, vI x2, vI x3, vI (wi (1 - (x6.tmod 2))), vI (wi (x6.tdiv 2))]) (st := []) dX12_rests_113 lk_RX12_476 m_X12_getsBy (by decide) (Nat.le_refl _) (Nat.le_refl _) rfl rfl (Nat.le_of_ble_eq_true rfl) (s_X12_getsBy h) (fun r0 B0 σ_7 h => ?_)
        obtain ⟨r_8, rfl, rfl, h⟩ := h
        refine E_iload_n dX12_rests_116 rfl rfl ?_
        refine E_iload_n dX12_rests_117 rfl rfl ?_
        refine E_iload_n dX12_rests_118 rfl rfl ?_
        refine E_iload dX12_rests_119 rfl ?_
        refine E_iload dX12_rests_121 rfl ?_
        refine E_callS (Y' := Y_X12_getsBy) (as := [vI x1, vI x2, vI x3, vI (x6.tmod 2), vI (wi (x6.tdiv 2))]) (st := [vI r_8]) dX12_rests_123 lk_RX12_476 m_X12_getsBy (by decide) (Nat.le_refl _) (Nat.le_refl _) rfl rfl (Nat.le_of_ble_eq_true rfl) (s_X12_getsBy h) (fun r0 B0 σ_9 h => ?_)
        obtain ⟨r_10, rfl, rfl, h⟩ := h
        refine E_icmp_le (tgt := 132) dX12_rests_126 (by decide) (fun hc => ?_) (fun hc => ?_)
        · have h := Eq.mp (if_pos hc) h
          refine E_iload dX12_rests_132 rfl ?_
          refine E_iload dX12_rests_134 rfl ?_
          refine E_icmp_ne (tgt := 142) dX12_rests_136 (by decide) (fun hc => ?_) (fun hc => ?_)
          · have h := Eq.mp (if_neg hc) h
            refine E_iinc (ls' := [some (vR 12 0), some (vI x1), some (vI x2), some (vI x3), some (vI x4), some (vI (wi (x5 + 1))), some (vI x6), some (vI (wi (x6.tdiv 2))), some (vI (x6.tmod 2))]) dX12_rests_142 rfl (by decide) rfl rfl ?_
            refine E_iinc (ls' := [some (vR 12 0), some (vI x1), some (vI x2), some (vI x3), some (vI x4), some (vI (wi (x5 + 1))), some (vI (wi (x6 + 1))), some (vI (wi (x6.tdiv 2))), some (vI (x6.tmod 2))]) dX12_rests_145 rfl (by decide) rfl rfl ?_
            refine E_goto (tgt := 61) dX12_rests_148 (by decide) ?_
            refine E_wk2 [some (vR 12 0), some (vI x1), some (vI x2), some (vI x3), some (vI x4), some (vI (wi (x5 + 1))), some (vI (wi (x6 + 1))), none, none] ⟨rfl, ⟨rfl, ⟨rfl, ⟨rfl, ⟨rfl, ⟨rfl, ⟨rfl, trivial⟩⟩⟩⟩⟩⟩⟩ ?_
            exact hR _ _ _ h
          · have h := Eq.mp (if_pos hc) h
            refine E_iload dX12_rests_139 rfl ?_
            exact E_iret dX12_rests_141 rfl ⟨_, rfl, rfl, h⟩
        · have h := Eq.mp (if_neg hc) h
          refine E_goto (tgt := 145) dX12_rests_129 (by decide) ?_
          refine E_iinc (ls' := [some (vR 12 0), some (vI x1), some (vI x2), some (vI x3), some (vI x4), some (vI x5), some (vI (wi (x6 + 1))), some (vI (wi (x6.tdiv 2))), some (vI (x6.tmod 2))]) dX12_rests_145 rfl (by decide) rfl rfl ?_
          refine E_goto (tgt := 61) dX12_rests_148 (by decide) ?_
          refine E_wk2 [some (vR 12 0), some (vI x1), some (vI x2), some (vI x3), some (vI x4), some (vI x5), some (vI (wi (x6 + 1))), none, none] ⟨rfl, ⟨rfl, ⟨rfl, ⟨rfl, ⟨rfl, ⟨rfl, ⟨rfl, trivial⟩⟩⟩⟩⟩⟩⟩ ?_
          exact hR _ _ _ h
def P_X12_rests_J163  (x4 : Int) (x5 : Int) (y0 : Int)  (Q : Int → St → Prop) (σ : St) : Prop :=
  (if x4 = (-1) then Q x5 (up σ 12 0 0 y0) else Q 0 (up σ 12 0 0 y0))
set_option maxRecDepth 20000 in
set_option maxHeartbeats 2000000 in
theorem e_P_X12_rests_J163  {x4 : Int} {x5 : Int} {y0 : Int}  {Q : Int → St → Prop} {σ : St}   (h : P_X12_rests_J163 x4 x5 y0 Q σ) : E Y_X12_rests 1 0 0 (QI Q) ww 0 0 163 [none, none, none, none, some (vI x4), some (vI x5), none, none, none] [vI y0, vR 12 0] σ := by
  unfold P_X12_rests_J163 at h
  refine E_puti dX12_rests_163 fl_RX12_141 rfl rfl rfl ?_
  refine E_iload dX12_rests_166 rfl ?_
  refine E_ic dX12_rests_168 rfl ?_
  refine E_icmp_ne (tgt := 177) dX12_rests_169 (by decide) (fun hc => ?_) (fun hc => ?_)
  · have h := Eq.mp (if_neg hc) h
    refine E_ic dX12_rests_177 rfl ?_
    exact E_iret dX12_rests_178 rfl ⟨_, rfl, rfl, h⟩
  · have h := Eq.mp (if_pos hc) h
    refine E_iload dX12_rests_172 rfl ?_
    refine E_goto (tgt := 178) dX12_rests_174 (by decide) ?_
    exact E_iret dX12_rests_178 rfl ⟨_, rfl, rfl, h⟩
def P_X12_rests_J42  (x1 : Int) (x2 : Int) (x3 : Int) (x4 : Int) (y0 : Int)  (Q : Int → St → Prop) (σ : St) : Prop :=
  (if ((up σ 12 0 0 y0) 12 0 0) = 1 then Q 0 (up σ 12 0 0 y0) else P_X12_rests_L61 x1 x2 x3 x4 (fun x5_11 σ_12 => (if x4 = (-1) then P_X12_rests_J163 x4 x5_11 0 Q σ_12 else P_X12_rests_J163 x4 x5_11 1 Q σ_12)) Q FU 0 0 (up σ 12 0 0 y0))
set_option maxRecDepth 20000 in
set_option maxHeartbeats 2000000 in
theorem e_P_X12_rests_J42  {x1 : Int} {x2 : Int} {x3 : Int} {x4 : Int} {y0 : Int}  {Q : Int → St → Prop} {σ : St}   (h : P_X12_rests_J42 x1 x2 x3 x4 y0 Q σ) : E Y_X12_rests 1 0 0 (QI Q) ww 0 0 42 [some (vR 12 0), some (vI x1), some (vI x2), some (vI x3), some (vI x4), none, none, none, none] [vI y0, vR 12 0] σ := by
  unfold P_X12_rests_J42 at h
  refine E_puti dX12_rests_42 fl_RX12_141 rfl rfl rfl ?_
  refine E_aload_n dX12_rests_45 rfl rfl ?_
  refine E_geti (i := 0) dX12_rests_46 fl_RX12_141 rfl ?_
  refine E_ic dX12_rests_49 rfl ?_
  refine E_icmp_ne (tgt := 55) dX12_rests_50 (by decide) (fun hc => ?_) (fun hc => ?_)
  · have h := Eq.mp (if_neg hc) h
    refine E_ic dX12_rests_55 rfl ?_
    refine E_istore (ls' := [some (vR 12 0), some (vI x1), some (vI x2), some (vI x3), some (vI x4), some (vI 0), none, none, none]) dX12_rests_56 (by decide) rfl ?_
    refine E_ic dX12_rests_58 rfl ?_
    refine E_istore (ls' := [some (vR 12 0), some (vI x1), some (vI x2), some (vI x3), some (vI x4), some (vI 0), some (vI 0), none, none]) dX12_rests_59 (by decide) rfl ?_
    refine e_P_X12_rests_L61 ?_ _ _ _ _ h
    · intro x5_11 σ_12 h
      refine E_aload_n dX12_rests_151 rfl rfl ?_
      refine E_iload dX12_rests_152 rfl ?_
      refine E_ic dX12_rests_154 rfl ?_
      refine E_icmp_ne (tgt := 162) dX12_rests_155 (by decide) (fun hc => ?_) (fun hc => ?_)
      · have h := Eq.mp (if_neg hc) h
        refine E_ic dX12_rests_162 rfl ?_
        refine E_wk2 [none, none, none, none, some (vI x4), some (vI x5_11), none, none, none] ⟨rfl, ⟨rfl, trivial⟩⟩ ?_
        exact e_P_X12_rests_J163 h
      · have h := Eq.mp (if_pos hc) h
        refine E_ic dX12_rests_158 rfl ?_
        refine E_goto (tgt := 163) dX12_rests_159 (by decide) ?_
        refine E_wk2 [none, none, none, none, some (vI x4), some (vI x5_11), none, none, none] ⟨rfl, ⟨rfl, trivial⟩⟩ ?_
        exact e_P_X12_rests_J163 h
  · have h := Eq.mp (if_pos hc) h
    refine E_ic dX12_rests_53 rfl ?_
    exact E_iret dX12_rests_54 rfl ⟨_, rfl, rfl, h⟩
def P_X12_rests_J41  (x1 : Int) (x2 : Int) (x3 : Int) (x4 : Int)  (Q : Int → St → Prop) (σ : St) : Prop :=
  P_X12_rests_J42 x1 x2 x3 x4 1 Q σ
set_option maxRecDepth 20000 in
set_option maxHeartbeats 2000000 in
theorem e_P_X12_rests_J41  {x1 : Int} {x2 : Int} {x3 : Int} {x4 : Int}  {Q : Int → St → Prop} {σ : St}   (h : P_X12_rests_J41 x1 x2 x3 x4 Q σ) : E Y_X12_rests 1 0 0 (QI Q) ww 0 0 41 [some (vR 12 0), some (vI x1), some (vI x2), some (vI x3), some (vI x4), none, none, none, none] [vR 12 0] σ := by
  unfold P_X12_rests_J41 at h
  refine E_ic dX12_rests_41 rfl ?_
  exact e_P_X12_rests_J42 h
def P_X12_rests  (x1 : Int) (x2 : Int) (x3 : Int) (x4 : Int) (σ : St) (Q : Int → St → Prop) : Prop :=
  P_X12_within x1 0 9 σ (fun r_2 σ_1 => (if r_2 = 0 then P_X12_rests_J41 x1 x2 x3 x4 Q σ_1 else P_X12_within x2 0 9 σ_1 (fun r_14 σ_13 => (if r_14 = 0 then P_X12_rests_J41 x1 x2 x3 x4 Q σ_13 else P_X12_within x3 0 9 σ_13 (fun r_16 σ_15 => (if r_16 = 0 then P_X12_rests_J41 x1 x2 x3 x4 Q σ_15 else (if x4 < (-1) then P_X12_rests_J41 x1 x2 x3 x4 Q σ_15 else P_X12_rests_J42 x1 x2 x3 x4 0 Q σ_15)))))))
set_option maxRecDepth 20000 in
set_option maxHeartbeats 2000000 in
theorem s_X12_rests   {x1 : Int} {x2 : Int} {x3 : Int} {x4 : Int} {σ : St} {Q : Int → St → Prop} (h : P_X12_rests x1 x2 x3 x4 σ Q) : Cn Y_X12_rests 1 0 0 ww σ [vR 12 0, vI x1, vI x2, vI x3, vI x4] (QI Q) := by
  refine Cn_of [some (vR 12 0), some (vI x1), some (vI x2), some (vI x3), some (vI x4), none, none, none, none] (by decide) (Nat.le_of_ble_eq_true rfl) rfl ?_
  unfold P_X12_rests at h
  refine E_aload_n dX12_rests_0 rfl rfl ?_
  refine E_iload_n dX12_rests_1 rfl rfl ?_
  refine E_ic dX12_rests_2 rfl ?_
  refine E_bp dX12_rests_3 rfl ?_
  refine E_callS (Y' := Y_X12_within) (as := [vI x1, vI 0, vI 9]) (st := [vR 12 0]) dX12_rests_5 lk_RX12_264 m_X12_within (by decide) (Nat.le_refl _) (Nat.le_refl _) rfl rfl (Nat.le_of_ble_eq_true rfl) (s_X12_within h) (fun r0 B0 σ_1 h => ?_)
  obtain ⟨r_2, rfl, rfl, h⟩ := h
  refine E_if_eq (tgt := 41) dX12_rests_8 (by decide) (fun hc => ?_) (fun hc => ?_)
  · have h := Eq.mp (if_pos hc) h
    exact e_P_X12_rests_J41 h
  · have h := Eq.mp (if_neg hc) h
    refine E_iload_n dX12_rests_11 rfl rfl ?_
    refine E_ic dX12_rests_12 rfl ?_
    refine E_bp dX12_rests_13 rfl ?_
    refine E_callS (Y' := Y_X12_within) (as := [vI x2, vI 0, vI 9]) (st := [vR 12 0]) dX12_rests_15 lk_RX12_264 m_X12_within (by decide) (Nat.le_refl _) (Nat.le_refl _) rfl rfl (Nat.le_of_ble_eq_true rfl) (s_X12_within h) (fun r0 B0 σ_13 h => ?_)
    obtain ⟨r_14, rfl, rfl, h⟩ := h
    refine E_if_eq (tgt := 41) dX12_rests_18 (by decide) (fun hc => ?_) (fun hc => ?_)
    · have h := Eq.mp (if_pos hc) h
      exact e_P_X12_rests_J41 h
    · have h := Eq.mp (if_neg hc) h
      refine E_iload_n dX12_rests_21 rfl rfl ?_
      refine E_ic dX12_rests_22 rfl ?_
      refine E_bp dX12_rests_23 rfl ?_
      refine E_callS (Y' := Y_X12_within) (as := [vI x3, vI 0, vI 9]) (st := [vR 12 0]) dX12_rests_25 lk_RX12_264 m_X12_within (by decide) (Nat.le_refl _) (Nat.le_refl _) rfl rfl (Nat.le_of_ble_eq_true rfl) (s_X12_within h) (fun r0 B0 σ_15 h => ?_)
      obtain ⟨r_16, rfl, rfl, h⟩ := h
      refine E_if_eq (tgt := 41) dX12_rests_28 (by decide) (fun hc => ?_) (fun hc => ?_)
      · have h := Eq.mp (if_pos hc) h
        exact e_P_X12_rests_J41 h
      · have h := Eq.mp (if_neg hc) h
        refine E_iload dX12_rests_31 rfl ?_
        refine E_ic dX12_rests_33 rfl ?_
        refine E_icmp_lt (tgt := 41) dX12_rests_34 (by decide) (fun hc => ?_) (fun hc => ?_)
        · have h := Eq.mp (if_pos hc) h
          exact e_P_X12_rests_J41 h
        · have h := Eq.mp (if_neg hc) h
          refine E_ic dX12_rests_37 rfl ?_
          refine E_goto (tgt := 42) dX12_rests_38 (by decide) ?_
          exact e_P_X12_rests_J42 h
