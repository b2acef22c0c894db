abbrev Y_X12_opens : My := (yX12_opens, cX12_opens, 2, none)
theorem dX12_opens_0 : decode cX12_opens 0 = .ok (.aload_n 0, 1) := by decide +kernel
theorem dX12_opens_1 : decode cX12_opens 1 = .ok (.getfield 60, 3) := by decide +kernel
theorem dX12_opens_4 : decode cX12_opens 4 = .ok (.iload_n 1, 1) := by decide +kernel
theorem dX12_opens_5 : decode cX12_opens 5 = .ok (.iconst 0, 1) := by decide +kernel
theorem dX12_opens_6 : decode cX12_opens 6 = .ok (.iastore, 1) := by decide +kernel
theorem dX12_opens_7 : decode cX12_opens 7 = .ok (.aload_n 0, 1) := by decide +kernel
theorem dX12_opens_8 : decode cX12_opens 8 = .ok (.getfield 66, 3) := by decide +kernel
theorem dX12_opens_11 : decode cX12_opens 11 = .ok (.iload_n 1, 1) := by decide +kernel
theorem dX12_opens_12 : decode cX12_opens 12 = .ok (.iconst 0, 1) := by decide +kernel
theorem dX12_opens_13 : decode cX12_opens 13 = .ok (.iastore, 1) := by decide +kernel
theorem dX12_opens_14 : decode cX12_opens 14 = .ok (.aload_n 0, 1) := by decide +kernel
theorem dX12_opens_15 : decode cX12_opens 15 = .ok (.getfield 69, 3) := by decide +kernel
theorem dX12_opens_18 : decode cX12_opens 18 = .ok (.iload_n 1, 1) := by decide +kernel
theorem dX12_opens_19 : decode cX12_opens 19 = .ok (.iconst 0, 1) := by decide +kernel
theorem dX12_opens_20 : decode cX12_opens 20 = .ok (.iastore, 1) := by decide +kernel
theorem dX12_opens_21 : decode cX12_opens 21 = .ok (.aload_n 0, 1) := by decide +kernel
theorem dX12_opens_22 : decode cX12_opens 22 = .ok (.getfield 72, 3) := by decide +kernel
theorem dX12_opens_25 : decode cX12_opens 25 = .ok (.iload_n 1, 1) := by decide +kernel
theorem dX12_opens_26 : decode cX12_opens 26 = .ok (.bipush 20, 2) := by decide +kernel
theorem dX12_opens_28 : decode cX12_opens 28 = .ok (.iastore, 1) := by decide +kernel
theorem dX12_opens_29 : decode cX12_opens 29 = .ok (.aload_n 0, 1) := by decide +kernel
theorem dX12_opens_30 : decode cX12_opens 30 = .ok (.getfield 78, 3) := by decide +kernel
theorem dX12_opens_33 : decode cX12_opens 33 = .ok (.iload_n 1, 1) := by decide +kernel
theorem dX12_opens_34 : decode cX12_opens 34 = .ok (.iconst 0, 1) := by decide +kernel
theorem dX12_opens_35 : decode cX12_opens 35 = .ok (.iastore, 1) := by decide +kernel
theorem dX12_opens_36 : decode cX12_opens 36 = .ok (.return_, 1) := by decide +kernel
theorem fl_RX12_60 : FL RX12 60 12 27 := ⟨inG (i := 1427) (by decide +kernel) (by decide +kernel), by decide, by decide⟩
theorem fl_RX12_66 : FL RX12 66 12 29 := ⟨inG (i := 1429) (by decide +kernel) (by decide +kernel), by decide, by decide⟩
theorem fl_RX12_69 : FL RX12 69 12 30 := ⟨inG (i := 1430) (by decide +kernel) (by decide +kernel), by decide, by decide⟩
theorem fl_RX12_72 : FL RX12 72 12 31 := ⟨inG (i := 1431) (by decide +kernel) (by decide +kernel), by decide, by decide⟩
theorem fl_RX12_78 : FL RX12 78 12 33 := ⟨inG (i := 1433) (by decide +kernel) (by decide +kernel), by decide, by decide⟩
theorem go_12_27 (σ : St) (i : Nat) : go σ 12 i 27 = (1327, i) := rfl
theorem go_12_29 (σ : St) (i : Nat) : go σ 12 i 29 = (1329, i) := rfl
theorem go_12_30 (σ : St) (i : Nat) : go σ 12 i 30 = (1330, i) := rfl
theorem go_12_31 (σ : St) (i : Nat) : go σ 12 i 31 = (1331, i) := rfl
theorem go_12_33 (σ : St) (i : Nat) : go σ 12 i 33 = (1333, i) := rfl
theorem sh_1327 : shp 1327 = (0, 7) := rfl
theorem sh_1329 : shp 1329 = (0, 7) := rfl
theorem sh_1330 : shp 1330 = (0, 7) := rfl
theorem sh_1331 : shp 1331 = (0, 7) := rfl
theorem sh_1333 : shp 1333 = (0, 7) := rfl
def P_X12_opens  (x1 : Int) (σ : St) (Q : St → Prop) : Prop :=
  0 ≤ x1 ∧ x1 < 7 ∧ 0 ≤ x1 ∧ x1 < 7 ∧ 0 ≤ x1 ∧ x1 < 7 ∧ 0 ≤ x1 ∧ x1 < 7 ∧ 0 ≤ x1 ∧ x1 < 7 ∧ Q (up (up (up (up (up σ 1327 0 x1 0) 1329 0 x1 0) 1330 0 x1 0) 1331 0 x1 20) 1333 0 x1 0)
set_option maxRecDepth 20000 in
set_option maxHeartbeats 2000000 in
theorem s_X12_opens   {x1 : Int} {σ : St} {Q : St → Prop} (h : P_X12_opens x1 σ Q) : Cn Y_X12_opens 0 0 0 ww σ [vR 12 0, vI x1] (QV Q) := by
  refine Cn_of [some (vR 12 0), some (vI x1)] (by decide) (Nat.le_of_ble_eq_true rfl) rfl ?_
  unfold P_X12_opens at h
  refine E_aload_n dX12_opens_0 rfl rfl ?_
  refine E_getr (i := 0) dX12_opens_1 fl_RX12_60 rfl rfl (go_12_27 _ _) ?_
  refine E_iload_n dX12_opens_4 rfl rfl ?_
  refine E_ic dX12_opens_5 rfl ?_
  obtain ⟨hg0, hg1, h⟩ := h
  refine E_iast dX12_opens_6 sh_1327 hg0 hg1 ?_
  refine E_aload_n dX12_opens_7 rfl rfl ?_
  refine E_getr (i := 0) dX12_opens_8 fl_RX12_66 rfl rfl (go_12_29 _ _) ?_
  refine E_iload_n dX12_opens_11 rfl rfl ?_
  refine E_ic dX12_opens_12 rfl ?_
  obtain ⟨hg0, hg1, h⟩ := h
  refine E_iast dX12_opens_13 sh_1329 hg0 hg1 ?_
  refine E_aload_n dX12_opens_14 rfl rfl ?_
  refine E_getr (i := 0) dX12_opens_15 fl_RX12_69 rfl rfl (go_12_30 _ _) ?_
  refine E_iload_n dX12_opens_18 rfl rfl ?_
  refine E_ic dX12_opens_19 rfl ?_
  obtain ⟨hg0, hg1, h⟩ := h
  refine E_iast dX12_opens_20 sh_1330 hg0 hg1 ?_
  refine E_aload_n dX12_opens_21 rfl rfl ?_
  refine E_getr (i := 0) dX12_opens_22 fl_RX12_72 rfl rfl (go_12_31 _ _) ?_
  refine E_iload_n dX12_opens_25 rfl rfl ?_
  refine E_bp dX12_opens_26 rfl ?_
  obtain ⟨hg0, hg1, h⟩ := h
  refine E_iast dX12_opens_28 sh_1331 hg0 hg1 ?_
  refine E_aload_n dX12_opens_29 rfl rfl ?_
  refine E_getr (i := 0) dX12_opens_30 fl_RX12_78 rfl rfl (go_12_33 _ _) ?_
  refine E_iload_n dX12_opens_33 rfl rfl ?_
  refine E_ic dX12_opens_34 rfl ?_
  obtain ⟨hg0, hg1, h⟩ := h
  refine E_iast dX12_opens_35 sh_1333 hg0 hg1 ?_
  exact E_vret dX12_opens_36 rfl ⟨rfl, rfl, h⟩
abbrev Y_X12_sums : My := (yX12_sums, cX12_sums, 2, none)
theorem dX12_sums_0 : decode cX12_sums 0 = .ok (.aload_n 0, 1) := by decide +kernel
theorem dX12_sums_1 : decode cX12_sums 1 = .ok (.getfield 69, 3) := by decide +kernel
theorem dX12_sums_4 : decode cX12_sums 4 = .ok (.iload_n 1, 1) := by decide +kernel
theorem dX12_sums_5 : decode cX12_sums 5 = .ok (.aload_n 0, 1) := by decide +kernel
theorem dX12_sums_6 : decode cX12_sums 6 = .ok (.getfield 72, 3) := by decide +kernel
theorem dX12_sums_9 : decode cX12_sums 9 = .ok (.iload_n 1, 1) := by decide +kernel
theorem dX12_sums_10 : decode cX12_sums 10 = .ok (.iaload, 1) := by decide +kernel
theorem dX12_sums_11 : decode cX12_sums 11 = .ok (.bipush 21, 2) := by decide +kernel
theorem dX12_sums_13 : decode cX12_sums 13 = .ok (.if_icmp .ne 19, 3) := by decide +kernel
theorem dX12_sums_16 : decode cX12_sums 16 = .ok (.aload_n 0, 1) := by decide +kernel
theorem dX12_sums_17 : decode cX12_sums 17 = .ok (.getfield 69, 3) := by decide +kernel
theorem dX12_sums_20 : decode cX12_sums 20 = .ok (.iload_n 1, 1) := by decide +kernel
theorem dX12_sums_21 : decode cX12_sums 21 = .ok (.iaload, 1) := by decide +kernel
theorem dX12_sums_22 : decode cX12_sums 22 = .ok (.aload_n 0, 1) := by decide +kernel
theorem dX12_sums_23 : decode cX12_sums 23 = .ok (.getfield 75, 3) := by decide +kernel
theorem dX12_sums_26 : decode cX12_sums 26 = .ok (.iload_n 1, 1) := by decide +kernel
theorem dX12_sums_27 : decode cX12_sums 27 = .ok (.iaload, 1) := by decide +kernel
theorem dX12_sums_28 : decode cX12_sums 28 = .ok (.isub, 1) := by decide +kernel
theorem dX12_sums_29 : decode cX12_sums 29 = .ok (.goto 16, 3) := by decide +kernel
theorem dX12_sums_32 : decode cX12_sums 32 = .ok (.aload_n 0, 1) := by decide +kernel
theorem dX12_sums_33 : decode cX12_sums 33 = .ok (.getfield 69, 3) := by decide +kernel
theorem dX12_sums_36 : decode cX12_sums 36 = .ok (.iload_n 1, 1) := by decide +kernel
theorem dX12_sums_37 : decode cX12_sums 37 = .ok (.iaload, 1) := by decide +kernel
theorem dX12_sums_38 : decode cX12_sums 38 = .ok (.aload_n 0, 1) := by decide +kernel
theorem dX12_sums_39 : decode cX12_sums 39 = .ok (.getfield 75, 3) := by decide +kernel
theorem dX12_sums_42 : decode cX12_sums 42 = .ok (.iload_n 1, 1) := by decide +kernel
theorem dX12_sums_43 : decode cX12_sums 43 = .ok (.iaload, 1) := by decide +kernel
theorem dX12_sums_44 : decode cX12_sums 44 = .ok (.iadd, 1) := by decide +kernel
theorem dX12_sums_45 : decode cX12_sums 45 = .ok (.iastore, 1) := by decide +kernel
theorem dX12_sums_46 : decode cX12_sums 46 = .ok (.aload_n 0, 1) := by decide +kernel
theorem dX12_sums_47 : decode cX12_sums 47 = .ok (.getfield 78, 3) := by decide +kernel
theorem dX12_sums_50 : decode cX12_sums 50 = .ok (.iload_n 1, 1) := by decide +kernel
theorem dX12_sums_51 : decode cX12_sums 51 = .ok (.iconst 0, 1) := by decide +kernel
theorem dX12_sums_52 : decode cX12_sums 52 = .ok (.iastore, 1) := by decide +kernel
theorem dX12_sums_53 : decode cX12_sums 53 = .ok (.return_, 1) := by decide +kernel
theorem fl_RX12_75 : FL RX12 75 12 32 := ⟨inG (i := 1432) (by decide +kernel) (by decide +kernel), by decide, by decide⟩
theorem go_12_32 (σ : St) (i : Nat) : go σ 12 i 32 = (1332, i) := rfl
theorem sh_1332 : shp 1332 = (0, 7) := rfl
def P_X12_sums_J45  (x1 : Int) (y0 : Int) (y1 : Int)  (Q : St → Prop) (σ : St) : Prop :=
  0 ≤ y1 ∧ y1 < 7 ∧ 0 ≤ x1 ∧ x1 < 7 ∧ Q (up (up σ 1330 0 y1 y0) 1333 0 x1 0)
set_option maxRecDepth 20000 in
set_option maxHeartbeats 2000000 in
theorem e_P_X12_sums_J45  {x1 : Int} {y0 : Int} {y1 : Int}  {Q : St → Prop} {σ : St}   (h : P_X12_sums_J45 x1 y0 y1 Q σ) : E Y_X12_sums 0 0 0 (QV Q) ww 0 0 45 [some (vR 12 0), some (vI x1)] [vI y0, vI y1, vR 1330 0] σ := by
  unfold P_X12_sums_J45 at h
  obtain ⟨hg0, hg1, h⟩ := h
  refine E_iast dX12_sums_45 sh_1330 hg0 hg1 ?_
  refine E_aload_n dX12_sums_46 rfl rfl ?_
  refine E_getr (i := 0) dX12_sums_47 fl_RX12_78 rfl rfl (go_12_33 _ _) ?_
  refine E_iload_n dX12_sums_50 rfl rfl ?_
  refine E_ic dX12_sums_51 rfl ?_
  obtain ⟨hg0, hg1, h⟩ := h
  refine E_iast dX12_sums_52 sh_1333 hg0 hg1 ?_
  exact E_vret dX12_sums_53 rfl ⟨rfl, rfl, h⟩
def P_X12_sums  (x1 : Int) (σ : St) (Q : St → Prop) : Prop :=
  0 ≤ x1 ∧ x1 < 7 ∧ (if (σ 1331 0 x1) = 21 then 0 ≤ x1 ∧ x1 < 7 ∧ 0 ≤ x1 ∧ x1 < 7 ∧ P_X12_sums_J45 x1 (wi ((σ 1330 0 x1) - (σ 1332 0 x1))) x1 Q σ else 0 ≤ x1 ∧ x1 < 7 ∧ 0 ≤ x1 ∧ x1 < 7 ∧ P_X12_sums_J45 x1 (wi ((σ 1330 0 x1) + (σ 1332 0 x1))) x1 Q σ)
set_option maxRecDepth 20000 in
set_option maxHeartbeats 2000000 in
theorem s_X12_sums   {x1 : Int} {σ : St} {Q : St → Prop} (h : P_X12_sums x1 σ Q) : Cn Y_X12_sums 0 0 0 ww σ [vR 12 0, vI x1] (QV Q) := by
  refine Cn_of [some (vR 12 0), some (vI x1)] (by decide) (Nat.le_of_ble_eq_true rfl) rfl ?_
  unfold P_X12_sums at h
  refine E_aload_n dX12_sums_0 rfl rfl ?_
  refine E_getr (i := 0) dX12_sums_1 fl_RX12_69 rfl rfl (go_12_30 _ _) ?_
  refine E_iload_n dX12_sums_4 rfl rfl ?_
  refine E_aload_n dX12_sums_5 rfl rfl ?_
  refine E_getr (i := 0) dX12_sums_6 fl_RX12_72 rfl rfl (go_12_31 _ _) ?_
  refine E_iload_n dX12_sums_9 rfl rfl ?_
  obtain ⟨hg0, hg1, h⟩ := h
  refine E_iald dX12_sums_10 sh_1331 hg0 hg1 ?_
  refine E_bp dX12_sums_11 rfl ?_
  refine E_icmp_ne (tgt := 32) dX12_sums_13 (by decide) (fun hc => ?_) (fun hc => ?_)
  · have h := Eq.mp (if_neg hc) h
    refine E_aload_n dX12_sums_32 rfl rfl ?_
    refine E_getr (i := 0) dX12_sums_33 fl_RX12_69 rfl rfl (go_12_30 _ _) ?_
    refine E_iload_n dX12_sums_36 rfl rfl ?_
    obtain ⟨hg0, hg1, h⟩ := h
    refine E_iald dX12_sums_37 sh_1330 hg0 hg1 ?_
    refine E_aload_n dX12_sums_38 rfl rfl ?_
    refine E_getr (i := 0) dX12_sums_39 fl_RX12_75 rfl rfl (go_12_32 _ _) ?_
    refine E_iload_n dX12_sums_42 rfl rfl ?_
    obtain ⟨hg0, hg1, h⟩ := h
    refine E_iald dX12_sums_43 sh_1332 hg0 hg1 ?_
    refine E_iadd dX12_sums_44 ?_
    exact e_P_X12_sums_J45 h
  · have h := Eq.mp (if_pos hc) h
    refine E_aload_n dX12_sums_16 rfl rfl ?_
    refine E_getr (i := 0) dX12_sums_17 fl_RX12_69 rfl rfl (go_12_30 _ _) ?_
    refine E_iload_n dX12_sums_20 rfl rfl ?_
    obtain ⟨hg0, hg1, h⟩ := h
    refine E_iald dX12_sums_21 sh_1330 hg0 hg1 ?_
    refine E_aload_n dX12_sums_22 rfl rfl ?_
    refine E_getr (i := 0) dX12_sums_23 fl_RX12_75 rfl rfl (go_12_32 _ _) ?_
    refine E_iload_n dX12_sums_26 rfl rfl ?_
    obtain ⟨hg0, hg1, h⟩ := h
    refine E_iald dX12_sums_27 sh_1332 hg0 hg1 ?_
    refine E_isub dX12_sums_28 ?_
    refine E_goto (tgt := 45) dX12_sums_29 (by decide) ?_
    exact e_P_X12_sums_J45 h
abbrev Y_X12_tests : My := (yX12_tests, cX12_tests, 3, none)
theorem dX12_tests_0 : decode cX12_tests 0 = .ok (.aload_n 0, 1) := by decide +kernel
theorem dX12_tests_1 : decode cX12_tests 1 = .ok (.iload_n 1, 1) := by decide +kernel
theorem dX12_tests_2 : decode cX12_tests 2 = .ok (.invokevirtual 219, 3) := by decide +kernel
theorem dX12_tests_5 : decode cX12_tests 5 = .ok (.aload_n 0, 1) := by decide +kernel
theorem dX12_tests_6 : decode cX12_tests 6 = .ok (.getfield 69, 3) := by decide +kernel
theorem dX12_tests_9 : decode cX12_tests 9 = .ok (.iload_n 1, 1) := by decide +kernel
theorem dX12_tests_10 : decode cX12_tests 10 = .ok (.iaload, 1) := by decide +kernel
theorem dX12_tests_11 : decode cX12_tests 11 = .ok (.istore_n 2, 1) := by decide +kernel
theorem dX12_tests_12 : decode cX12_tests 12 = .ok (.aload_n 0, 1) := by decide +kernel
theorem dX12_tests_13 : decode cX12_tests 13 = .ok (.getfield 66, 3) := by decide +kernel
theorem dX12_tests_16 : decode cX12_tests 16 = .ok (.iload_n 1, 1) := by decide +kernel
theorem dX12_tests_17 : decode cX12_tests 17 = .ok (.iaload, 1) := by decide +kernel
theorem dX12_tests_18 : decode cX12_tests 18 = .ok (.bipush 24, 2) := by decide +kernel
theorem dX12_tests_20 : decode cX12_tests 20 = .ok (.if_icmp .ne 24, 3) := by decide +kernel
theorem dX12_tests_23 : decode cX12_tests 23 = .ok (.aload_n 0, 1) := by decide +kernel
theorem dX12_tests_24 : decode cX12_tests 24 = .ok (.getfield 63, 3) := by decide +kernel
theorem dX12_tests_27 : decode cX12_tests 27 = .ok (.iload_n 1, 1) := by decide +kernel
theorem dX12_tests_28 : decode cX12_tests 28 = .ok (.iaload, 1) := by decide +kernel
theorem dX12_tests_29 : decode cX12_tests 29 = .ok (.aload_n 0, 1) := by decide +kernel
theorem dX12_tests_30 : decode cX12_tests 30 = .ok (.getfield 69, 3) := by decide +kernel
theorem dX12_tests_33 : decode cX12_tests 33 = .ok (.iload_n 1, 1) := by decide +kernel
theorem dX12_tests_34 : decode cX12_tests 34 = .ok (.iaload, 1) := by decide +kernel
theorem dX12_tests_35 : decode cX12_tests 35 = .ok (.if_icmp .ge 7, 3) := by decide +kernel
theorem dX12_tests_38 : decode cX12_tests 38 = .ok (.iconst 1, 1) := by decide +kernel
theorem dX12_tests_39 : decode cX12_tests 39 = .ok (.goto 4, 3) := by decide +kernel
theorem dX12_tests_42 : decode cX12_tests 42 = .ok (.iconst 0, 1) := by decide +kernel
theorem dX12_tests_43 : decode cX12_tests 43 = .ok (.istore_n 2, 1) := by decide +kernel
theorem dX12_tests_44 : decode cX12_tests 44 = .ok (.aload_n 0, 1) := by decide +kernel
theorem dX12_tests_45 : decode cX12_tests 45 = .ok (.getfield 66, 3) := by decide +kernel
theorem dX12_tests_48 : decode cX12_tests 48 = .ok (.iload_n 1, 1) := by decide +kernel
theorem dX12_tests_49 : decode cX12_tests 49 = .ok (.iaload, 1) := by decide +kernel
theorem dX12_tests_50 : decode cX12_tests 50 = .ok (.bipush 25, 2) := by decide +kernel
theorem dX12_tests_52 : decode cX12_tests 52 = .ok (.if_icmp .ne 24, 3) := by decide +kernel
theorem dX12_tests_55 : decode cX12_tests 55 = .ok (.aload_n 0, 1) := by decide +kernel
theorem dX12_tests_56 : decode cX12_tests 56 = .ok (.getfield 63, 3) := by decide +kernel
theorem dX12_tests_59 : decode cX12_tests 59 = .ok (.iload_n 1, 1) := by decide +kernel
theorem dX12_tests_60 : decode cX12_tests 60 = .ok (.iaload, 1) := by decide +kernel
theorem dX12_tests_61 : decode cX12_tests 61 = .ok (.aload_n 0, 1) := by decide +kernel
theorem dX12_tests_62 : decode cX12_tests 62 = .ok (.getfield 69, 3) := by decide +kernel
theorem dX12_tests_65 : decode cX12_tests 65 = .ok (.iload_n 1, 1) := by decide +kernel
theorem dX12_tests_66 : decode cX12_tests 66 = .ok (.iaload, 1) := by decide +kernel
theorem dX12_tests_67 : decode cX12_tests 67 = .ok (.if_icmp .ne 7, 3) := by decide +kernel
theorem dX12_tests_70 : decode cX12_tests 70 = .ok (.iconst 1, 1) := by decide +kernel
theorem dX12_tests_71 : decode cX12_tests 71 = .ok (.goto 4, 3) := by decide +kernel
theorem dX12_tests_74 : decode cX12_tests 74 = .ok (.iconst 0, 1) := by decide +kernel
theorem dX12_tests_75 : decode cX12_tests 75 = .ok (.istore_n 2, 1) := by decide +kernel
theorem dX12_tests_76 : decode cX12_tests 76 = .ok (.aload_n 0, 1) := by decide +kernel
theorem dX12_tests_77 : decode cX12_tests 77 = .ok (.getfield 60, 3) := by decide +kernel
theorem dX12_tests_80 : decode cX12_tests 80 = .ok (.iload_n 1, 1) := by decide +kernel
theorem dX12_tests_81 : decode cX12_tests 81 = .ok (.iaload, 1) := by decide +kernel
theorem dX12_tests_82 : decode cX12_tests 82 = .ok (.bipush 26, 2) := by decide +kernel
theorem dX12_tests_84 : decode cX12_tests 84 = .ok (.if_icmp .ne 22, 3) := by decide +kernel
theorem dX12_tests_87 : decode cX12_tests 87 = .ok (.aload_n 0, 1) := by decide +kernel
theorem dX12_tests_88 : decode cX12_tests 88 = .ok (.getfield 57, 3) := by decide +kernel
theorem dX12_tests_91 : decode cX12_tests 91 = .ok (.iload_n 1, 1) := by decide +kernel
theorem dX12_tests_92 : decode cX12_tests 92 = .ok (.iaload, 1) := by decide +kernel
theorem dX12_tests_93 : decode cX12_tests 93 = .ok (.ifCond .eq 11, 3) := by decide +kernel
theorem dX12_tests_96 : decode cX12_tests 96 = .ok (.iload_n 2, 1) := by decide +kernel
theorem dX12_tests_97 : decode cX12_tests 97 = .ok (.ifCond .eq 7, 3) := by decide +kernel
theorem dX12_tests_100 : decode cX12_tests 100 = .ok (.iconst 1, 1) := by decide +kernel
theorem dX12_tests_101 : decode cX12_tests 101 = .ok (.goto 4, 3) := by decide +kernel
theorem dX12_tests_104 : decode cX12_tests 104 = .ok (.iconst 0, 1) := by decide +kernel
theorem dX12_tests_105 : decode cX12_tests 105 = .ok (.istore_n 2, 1) := by decide +kernel
theorem dX12_tests_106 : decode cX12_tests 106 = .ok (.aload_n 0, 1) := by decide +kernel
theorem dX12_tests_107 : decode cX12_tests 107 = .ok (.getfield 60, 3) := by decide +kernel
theorem dX12_tests_110 : decode cX12_tests 110 = .ok (.iload_n 1, 1) := by decide +kernel
theorem dX12_tests_111 : decode cX12_tests 111 = .ok (.iaload, 1) := by decide +kernel
theorem dX12_tests_112 : decode cX12_tests 112 = .ok (.bipush 27, 2) := by decide +kernel
theorem dX12_tests_114 : decode cX12_tests 114 = .ok (.if_icmp .ne 22, 3) := by decide +kernel
theorem dX12_tests_117 : decode cX12_tests 117 = .ok (.aload_n 0, 1) := by decide +kernel
theorem dX12_tests_118 : decode cX12_tests 118 = .ok (.getfield 57, 3) := by decide +kernel
theorem dX12_tests_121 : decode cX12_tests 121 = .ok (.iload_n 1, 1) := by decide +kernel
theorem dX12_tests_122 : decode cX12_tests 122 = .ok (.iaload, 1) := by decide +kernel
theorem dX12_tests_123 : decode cX12_tests 123 = .ok (.ifCond .ne 7, 3) := by decide +kernel
theorem dX12_tests_126 : decode cX12_tests 126 = .ok (.iload_n 2, 1) := by decide +kernel
theorem dX12_tests_127 : decode cX12_tests 127 = .ok (.ifCond .eq 7, 3) := by decide +kernel
theorem dX12_tests_130 : decode cX12_tests 130 = .ok (.iconst 1, 1) := by decide +kernel
theorem dX12_tests_131 : decode cX12_tests 131 = .ok (.goto 4, 3) := by decide +kernel
theorem dX12_tests_134 : decode cX12_tests 134 = .ok (.iconst 0, 1) := by decide +kernel
theorem dX12_tests_135 : decode cX12_tests 135 = .ok (.istore_n 2, 1) := by decide +kernel
theorem dX12_tests_136 : decode cX12_tests 136 = .ok (.aload_n 0, 1) := by decide +kernel
theorem dX12_tests_137 : decode cX12_tests 137 = .ok (.getfield 57, 3) := by decide +kernel
theorem dX12_tests_140 : decode cX12_tests 140 = .ok (.iload_n 1, 1) := by decide +kernel
theorem dX12_tests_141 : decode cX12_tests 141 = .ok (.iload_n 2, 1) := by decide +kernel
theorem dX12_tests_142 : decode cX12_tests 142 = .ok (.iastore, 1) := by decide +kernel
theorem dX12_tests_143 : decode cX12_tests 143 = .ok (.aload_n 0, 1) := by decide +kernel
theorem dX12_tests_144 : decode cX12_tests 144 = .ok (.getfield 66, 3) := by decide +kernel
theorem dX12_tests_147 : decode cX12_tests 147 = .ok (.iload_n 1, 1) := by decide +kernel
theorem dX12_tests_148 : decode cX12_tests 148 = .ok (.iconst 0, 1) := by decide +kernel
theorem dX12_tests_149 : decode cX12_tests 149 = .ok (.iastore, 1) := by decide +kernel
theorem dX12_tests_150 : decode cX12_tests 150 = .ok (.aload_n 0, 1) := by decide +kernel
theorem dX12_tests_151 : decode cX12_tests 151 = .ok (.getfield 69, 3) := by decide +kernel
theorem dX12_tests_154 : decode cX12_tests 154 = .ok (.iload_n 1, 1) := by decide +kernel
theorem dX12_tests_155 : decode cX12_tests 155 = .ok (.iconst 0, 1) := by decide +kernel
theorem dX12_tests_156 : decode cX12_tests 156 = .ok (.iastore, 1) := by decide +kernel
theorem dX12_tests_157 : decode cX12_tests 157 = .ok (.aload_n 0, 1) := by decide +kernel
theorem dX12_tests_158 : decode cX12_tests 158 = .ok (.getfield 72, 3) := by decide +kernel
theorem dX12_tests_161 : decode cX12_tests 161 = .ok (.iload_n 1, 1) := by decide +kernel
theorem dX12_tests_162 : decode cX12_tests 162 = .ok (.bipush 20, 2) := by decide +kernel
theorem dX12_tests_164 : decode cX12_tests 164 = .ok (.iastore, 1) := by decide +kernel
theorem dX12_tests_165 : decode cX12_tests 165 = .ok (.return_, 1) := by decide +kernel
theorem fl_RX12_57 : FL RX12 57 12 26 := ⟨inG (i := 1426) (by decide +kernel) (by decide +kernel), by decide, by decide⟩
theorem fl_RX12_63 : FL RX12 63 12 28 := ⟨inG (i := 1428) (by decide +kernel) (by decide +kernel), by decide, by decide⟩
theorem go_12_26 (σ : St) (i : Nat) : go σ 12 i 26 = (1326, i) := rfl
theorem go_12_28 (σ : St) (i : Nat) : go σ 12 i 28 = (1328, i) := rfl
theorem lk_RX12_219 : Cond.methodLink RX12 219 yX12_sums ∈ tG := inG (i := 1857) (by decide +kernel) (by decide +kernel)
theorem m_X12_sums : MV Y_X12_sums 1 12 := ⟨⟨inG (i := 1860) (by decide +kernel) (by decide +kernel), inG (i := 110) (by decide +kernel) (by decide +kernel), by decide, by decide, by decide, by decide +kernel⟩, inG (i := 1859) (by decide +kernel) (by decide +kernel), inG (i := 80) (by decide +kernel) (by decide +kernel), by decide⟩
theorem sh_1326 : shp 1326 = (0, 7) := rfl
theorem sh_1328 : shp 1328 = (0, 7) := rfl
def P_X12_tests_J136  (x1 : Int) (x2 : Int)  (Q : St → Prop) (σ : St) : Prop :=
  0 ≤ x1 ∧ x1 < 7 ∧ 0 ≤ x1 ∧ x1 < 7 ∧ 0 ≤ x1 ∧ x1 < 7 ∧ 0 ≤ x1 ∧ x1 < 7 ∧ Q (up (up (up (up σ 1326 0 x1 x2) 1329 0 x1 0) 1330 0 x1 0) 1331 0 x1 20)
set_option maxRecDepth 20000 in
set_option maxHeartbeats 2000000 in
theorem e_P_X12_tests_J136  {x1 : Int} {x2 : Int}  {Q : St → Prop} {σ : St}   (h : P_X12_tests_J136 x1 x2 Q σ) : E Y_X12_tests 1 0 0 (QV Q) ww 0 0 136 [some (vR 12 0), some (vI x1), some (vI x2)] [] σ := by
  unfold P_X12_tests_J136 at h
  refine E_aload_n dX12_tests_136 rfl rfl ?_
  refine E_getr (i := 0) dX12_tests_137 fl_RX12_57 rfl rfl (go_12_26 _ _) ?_
  refine E_iload_n dX12_tests_140 rfl rfl ?_
  refine E_iload_n dX12_tests_141 rfl rfl ?_
  obtain ⟨hg0, hg1, h⟩ := h
  refine E_iast dX12_tests_142 sh_1326 hg0 hg1 ?_
  refine E_aload_n dX12_tests_143 rfl rfl ?_
  refine E_getr (i := 0) dX12_tests_144 fl_RX12_66 rfl rfl (go_12_29 _ _) ?_
  refine E_iload_n dX12_tests_147 rfl rfl ?_
  refine E_ic dX12_tests_148 rfl ?_
  obtain ⟨hg0, hg1, h⟩ := h
  refine E_iast dX12_tests_149 sh_1329 hg0 hg1 ?_
  refine E_aload_n dX12_tests_150 rfl rfl ?_
  refine E_getr (i := 0) dX12_tests_151 fl_RX12_69 rfl rfl (go_12_30 _ _) ?_
  refine E_iload_n dX12_tests_154 rfl rfl ?_
  refine E_ic dX12_tests_155 rfl ?_
  obtain ⟨hg0, hg1, h⟩ := h
  refine E_iast dX12_tests_156 sh_1330 hg0 hg1 ?_
  refine E_aload_n dX12_tests_157 rfl rfl ?_
  refine E_getr (i := 0) dX12_tests_158 fl_RX12_72 rfl rfl (go_12_31 _ _) ?_
  refine E_iload_n dX12_tests_161 rfl rfl ?_
  refine E_bp dX12_tests_162 rfl ?_
  obtain ⟨hg0, hg1, h⟩ := h
  refine E_iast dX12_tests_164 sh_1331 hg0 hg1 ?_
  exact E_vret dX12_tests_165 rfl ⟨rfl, rfl, h⟩
def P_X12_tests_J135  (x1 : Int) (y0 : Int)  (Q : St → Prop) (σ : St) : Prop :=
  P_X12_tests_J136 x1 y0 Q σ
set_option maxRecDepth 20000 in
set_option maxHeartbeats 2000000 in
theorem e_P_X12_tests_J135  {x1 : Int} {y0 : Int}  {Q : St → Prop} {σ : St}   (h : P_X12_tests_J135 x1 y0 Q σ) : E Y_X12_tests 1 0 0 (QV Q) ww 0 0 135 [some (vR 12 0), some (vI x1), none] [vI y0] σ := by
  unfold P_X12_tests_J135 at h
  refine E_istore_n (ls' := [some (vR 12 0), some (vI x1), some (vI y0)]) dX12_tests_135 rfl (by decide) rfl ?_
  exact e_P_X12_tests_J136 h
def P_X12_tests_J130  (x1 : Int)  (Q : St → Prop) (σ : St) : Prop :=
  P_X12_tests_J135 x1 1 Q σ
set_option maxRecDepth 20000 in
set_option maxHeartbeats 2000000 in
theorem e_P_X12_tests_J130  {x1 : Int}  {Q : St → Prop} {σ : St}   (h : P_X12_tests_J130 x1 Q σ) : E Y_X12_tests 1 0 0 (QV Q) ww 0 0 130 [some (vR 12 0), some (vI x1), none] [] σ := by
  unfold P_X12_tests_J130 at h
  refine E_ic dX12_tests_130 rfl ?_
  refine E_goto (tgt := 135) dX12_tests_131 (by decide) ?_
  exact e_P_X12_tests_J135 h
def P_X12_tests_J106  (x1 : Int) (x2 : Int)  (Q : St → Prop) (σ : St) : Prop :=
  0 ≤ x1 ∧ x1 < 7 ∧ (if (σ 1327 0 x1) = 27 then 0 ≤ x1 ∧ x1 < 7 ∧ (if (σ 1326 0 x1) = 0 then (if x2 = 0 then P_X12_tests_J135 x1 0 Q σ else P_X12_tests_J130 x1 Q σ) else P_X12_tests_J130 x1 Q σ) else P_X12_tests_J136 x1 x2 Q σ)
set_option maxRecDepth 20000 in
set_option maxHeartbeats 2000000 in
theorem e_P_X12_tests_J106  {x1 : Int} {x2 : Int}  {Q : St → Prop} {σ : St}   (h : P_X12_tests_J106 x1 x2 Q σ) : E Y_X12_tests 1 0 0 (QV Q) ww 0 0 106 [some (vR 12 0), some (vI x1), some (vI x2)] [] σ := by
  unfold P_X12_tests_J106 at h
  refine E_aload_n dX12_tests_106 rfl rfl ?_
  refine E_getr (i := 0) dX12_tests_107 fl_RX12_60 rfl rfl (go_12_27 _ _) ?_
  refine E_iload_n dX12_tests_110 rfl rfl ?_
  obtain ⟨hg0, hg1, h⟩ := h
  refine E_iald dX12_tests_111 sh_1327 hg0 hg1 ?_
  refine E_bp dX12_tests_112 rfl ?_
  refine E_icmp_ne (tgt := 136) dX12_tests_114 (by decide) (fun hc => ?_) (fun hc => ?_)
  · have h := Eq.mp (if_neg hc) h
    exact e_P_X12_tests_J136 h
  · have h := Eq.mp (if_pos hc) h
    refine E_aload_n dX12_tests_117 rfl rfl ?_
    refine E_getr (i := 0) dX12_tests_118 fl_RX12_57 rfl rfl (go_12_26 _ _) ?_
    refine E_iload_n dX12_tests_121 rfl rfl ?_
    obtain ⟨hg0, hg1, h⟩ := h
    refine E_iald dX12_tests_122 sh_1326 hg0 hg1 ?_
    refine E_if_ne (tgt := 130) dX12_tests_123 (by decide) (fun hc => ?_) (fun hc => ?_)
    · have h := Eq.mp (if_neg hc) h
      refine E_wk2 [some (vR 12 0), some (vI x1), none] ⟨rfl, ⟨rfl, trivial⟩⟩ ?_
      exact e_P_X12_tests_J130 h
    · have h := Eq.mp (if_pos hc) h
      refine E_iload_n dX12_tests_126 rfl rfl ?_
      refine E_if_eq (tgt := 134) dX12_tests_127 (by decide) (fun hc => ?_) (fun hc => ?_)
      · have h := Eq.mp (if_pos hc) h
        refine E_ic dX12_tests_134 rfl ?_
        refine E_wk2 [some (vR 12 0), some (vI x1), none] ⟨rfl, ⟨rfl, trivial⟩⟩ ?_
        exact e_P_X12_tests_J135 h
      · have h := Eq.mp (if_neg hc) h
        refine E_wk2 [some (vR 12 0), some (vI x1), none] ⟨rfl, ⟨rfl, trivial⟩⟩ ?_
        exact e_P_X12_tests_J130 h
def P_X12_tests_J105  (x1 : Int) (y0 : Int)  (Q : St → Prop) (σ : St) : Prop :=
  P_X12_tests_J106 x1 y0 Q σ
set_option maxRecDepth 20000 in
set_option maxHeartbeats 2000000 in
theorem e_P_X12_tests_J105  {x1 : Int} {y0 : Int}  {Q : St → Prop} {σ : St}   (h : P_X12_tests_J105 x1 y0 Q σ) : E Y_X12_tests 1 0 0 (QV Q) ww 0 0 105 [some (vR 12 0), some (vI x1), none] [vI y0] σ := by
  unfold P_X12_tests_J105 at h
  refine E_istore_n (ls' := [some (vR 12 0), some (vI x1), some (vI y0)]) dX12_tests_105 rfl (by decide) rfl ?_
  exact e_P_X12_tests_J106 h
def P_X12_tests_J104  (x1 : Int)  (Q : St → Prop) (σ : St) : Prop :=
  P_X12_tests_J105 x1 0 Q σ
set_option maxRecDepth 20000 in
set_option maxHeartbeats 2000000 in
theorem e_P_X12_tests_J104  {x1 : Int}  {Q : St → Prop} {σ : St}   (h : P_X12_tests_J104 x1 Q σ) : E Y_X12_tests 1 0 0 (QV Q) ww 0 0 104 [some (vR 12 0), some (vI x1), none] [] σ := by
  unfold P_X12_tests_J104 at h
  refine E_ic dX12_tests_104 rfl ?_
  exact e_P_X12_tests_J105 h
def P_X12_tests_J76  (x1 : Int) (x2 : Int)  (Q : St → Prop) (σ : St) : Prop :=
  0 ≤ x1 ∧ x1 < 7 ∧ (if (σ 1327 0 x1) = 26 then 0 ≤ x1 ∧ x1 < 7 ∧ (if (σ 1326 0 x1) = 0 then P_X12_tests_J104 x1 Q σ else (if x2 = 0 then P_X12_tests_J104 x1 Q σ else P_X12_tests_J105 x1 1 Q σ)) else P_X12_tests_J106 x1 x2 Q σ)
set_option maxRecDepth 20000 in
set_option maxHeartbeats 2000000 in
theorem e_P_X12_tests_J76  {x1 : Int} {x2 : Int}  {Q : St → Prop} {σ : St}   (h : P_X12_tests_J76 x1 x2 Q σ) : E Y_X12_tests 1 0 0 (QV Q) ww 0 0 76 [some (vR 12 0), some (vI x1), some (vI x2)] [] σ := by
  unfold P_X12_tests_J76 at h
  refine E_aload_n dX12_tests_76 rfl rfl ?_
  refine E_getr (i := 0) dX12_tests_77 fl_RX12_60 rfl rfl (go_12_27 _ _) ?_
  refine E_iload_n dX12_tests_80 rfl rfl ?_
  obtain ⟨hg0, hg1, h⟩ := h
  refine E_iald dX12_tests_81 sh_1327 hg0 hg1 ?_
  refine E_bp dX12_tests_82 rfl ?_
  refine E_icmp_ne (tgt := 106) dX12_tests_84 (by decide) (fun hc => ?_) (fun hc => ?_)
  · have h := Eq.mp (if_neg hc) h
    exact e_P_X12_tests_J106 h
  · have h := Eq.mp (if_pos hc) h
    refine E_aload_n dX12_tests_87 rfl rfl ?_
    refine E_getr (i := 0) dX12_tests_88 fl_RX12_57 rfl rfl (go_12_26 _ _) ?_
    refine E_iload_n dX12_tests_91 rfl rfl ?_
    obtain ⟨hg0, hg1, h⟩ := h
    refine E_iald dX12_tests_92 sh_1326 hg0 hg1 ?_
    refine E_if_eq (tgt := 104) dX12_tests_93 (by decide) (fun hc => ?_) (fun hc => ?_)
    · have h := Eq.mp (if_pos hc) h
      refine E_wk2 [some (vR 12 0), some (vI x1), none] ⟨rfl, ⟨rfl, trivial⟩⟩ ?_
      exact e_P_X12_tests_J104 h
    · have h := Eq.mp (if_neg hc) h
      refine E_iload_n dX12_tests_96 rfl rfl ?_
      refine E_if_eq (tgt := 104) dX12_tests_97 (by decide) (fun hc => ?_) (fun hc => ?_)
      · have h := Eq.mp (if_pos hc) h
        refine E_wk2 [some (vR 12 0), some (vI x1), none] ⟨rfl, ⟨rfl, trivial⟩⟩ ?_
        exact e_P_X12_tests_J104 h
      · have h := Eq.mp (if_neg hc) h
        refine E_ic dX12_tests_100 rfl ?_
        refine E_goto (tgt := 105) dX12_tests_101 (by decide) ?_
        refine E_wk2 [some (vR 12 0), some (vI x1), none] ⟨rfl, ⟨rfl, trivial⟩⟩ ?_
        exact e_P_X12_tests_J105 h
def P_X12_tests_J75  (x1 : Int) (y0 : Int)  (Q : St → Prop) (σ : St) : Prop :=
  P_X12_tests_J76 x1 y0 Q σ
set_option maxRecDepth 20000 in
set_option maxHeartbeats 2000000 in
theorem e_P_X12_tests_J75  {x1 : Int} {y0 : Int}  {Q : St → Prop} {σ : St}   (h : P_X12_tests_J75 x1 y0 Q σ) : E Y_X12_tests 1 0 0 (QV Q) ww 0 0 75 [some (vR 12 0), some (vI x1), none] [vI y0] σ := by
  unfold P_X12_tests_J75 at h
  refine E_istore_n (ls' := [some (vR 12 0), some (vI x1), some (vI y0)]) dX12_tests_75 rfl (by decide) rfl ?_
  exact e_P_X12_tests_J76 h
def P_X12_tests_J44  (x1 : Int) (x2 : Int)  (Q : St → Prop) (σ : St) : Prop :=
  0 ≤ x1 ∧ x1 < 7 ∧ (if (σ 1329 0 x1) = 25 then 0 ≤ x1 ∧ x1 < 7 ∧ 0 ≤ x1 ∧ x1 < 7 ∧ (if (σ 1328 0 x1) = (σ 1330 0 x1) then P_X12_tests_J75 x1 1 Q σ else P_X12_tests_J75 x1 0 Q σ) else P_X12_tests_J76 x1 x2 Q σ)
set_option maxRecDepth 20000 in
set_option maxHeartbeats 2000000 in
theorem e_P_X12_tests_J44  {x1 : Int} {x2 : Int}  {Q : St → Prop} {σ : St}   (h : P_X12_tests_J44 x1 x2 Q σ) : E Y_X12_tests 1 0 0 (QV Q) ww 0 0 44 [some (vR 12 0), some (vI x1), some (vI x2)] [] σ := by
  unfold P_X12_tests_J44 at h
  refine E_aload_n dX12_tests_44 rfl rfl ?_
  refine E_getr (i := 0) dX12_tests_45 fl_RX12_66 rfl rfl (go_12_29 _ _) ?_
  refine E_iload_n dX12_tests_48 rfl rfl ?_
  obtain ⟨hg0, hg1, h⟩ := h
  refine E_iald dX12_tests_49 sh_1329 hg0 hg1 ?_
  refine E_bp dX12_tests_50 rfl ?_
  refine E_icmp_ne (tgt := 76) dX12_tests_52 (by decide) (fun hc => ?_) (fun hc => ?_)
  · have h := Eq.mp (if_neg hc) h
    exact e_P_X12_tests_J76 h
  · have h := Eq.mp (if_pos hc) h
    refine E_aload_n dX12_tests_55 rfl rfl ?_
    refine E_getr (i := 0) dX12_tests_56 fl_RX12_63 rfl rfl (go_12_28 _ _) ?_
    refine E_iload_n dX12_tests_59 rfl rfl ?_
    obtain ⟨hg0, hg1, h⟩ := h
    refine E_iald dX12_tests_60 sh_1328 hg0 hg1 ?_
    refine E_aload_n dX12_tests_61 rfl rfl ?_
    refine E_getr (i := 0) dX12_tests_62 fl_RX12_69 rfl rfl (go_12_30 _ _) ?_
    refine E_iload_n dX12_tests_65 rfl rfl ?_
    obtain ⟨hg0, hg1, h⟩ := h
    refine E_iald dX12_tests_66 sh_1330 hg0 hg1 ?_
    refine E_icmp_ne (tgt := 74) dX12_tests_67 (by decide) (fun hc => ?_) (fun hc => ?_)
    · have h := Eq.mp (if_neg hc) h
      refine E_ic dX12_tests_74 rfl ?_
      refine E_wk2 [some (vR 12 0), some (vI x1), none] ⟨rfl, ⟨rfl, trivial⟩⟩ ?_
      exact e_P_X12_tests_J75 h
    · have h := Eq.mp (if_pos hc) h
      refine E_ic dX12_tests_70 rfl ?_
      refine E_goto (tgt := 75) dX12_tests_71 (by decide) ?_
      refine E_wk2 [some (vR 12 0), some (vI x1), none] ⟨rfl, ⟨rfl, trivial⟩⟩ ?_
      exact e_P_X12_tests_J75 h
def P_X12_tests_J43  (x1 : Int) (y0 : Int)  (Q : St → Prop) (σ : St) : Prop :=
  P_X12_tests_J44 x1 y0 Q σ
set_option maxRecDepth 20000 in
set_option maxHeartbeats 2000000 in
theorem e_P_X12_tests_J43  {x1 : Int} {y0 : Int}  {Q : St → Prop} {σ : St}   (h : P_X12_tests_J43 x1 y0 Q σ) : E Y_X12_tests 1 0 0 (QV Q) ww 0 0 43 [some (vR 12 0), some (vI x1), none] [vI y0] σ := by
  unfold P_X12_tests_J43 at h
  refine E_istore_n (ls' := [some (vR 12 0), some (vI x1), some (vI y0)]) dX12_tests_43 rfl (by decide) rfl ?_
  exact e_P_X12_tests_J44 h
def P_X12_tests  (x1 : Int) (σ : St) (Q : St → Prop) : Prop :=
  P_X12_sums x1 σ (fun σ_1 => 0 ≤ x1 ∧ x1 < 7 ∧ 0 ≤ x1 ∧ x1 < 7 ∧ (if (σ_1 1329 0 x1) = 24 then 0 ≤ x1 ∧ x1 < 7 ∧ 0 ≤ x1 ∧ x1 < 7 ∧ (if (σ_1 1330 0 x1) ≤ (σ_1 1328 0 x1) then P_X12_tests_J43 x1 0 Q σ_1 else P_X12_tests_J43 x1 1 Q σ_1) else P_X12_tests_J44 x1 (σ_1 1330 0 x1) Q σ_1))
set_option maxRecDepth 20000 in
set_option maxHeartbeats 2000000 in
theorem s_X12_tests   {x1 : Int} {σ : St} {Q : St → Prop} (h : P_X12_tests x1 σ Q) : Cn Y_X12_tests 1 0 0 ww σ [vR 12 0, vI x1] (QV Q) := by
  refine Cn_of [some (vR 12 0), some (vI x1), none] (by decide) (Nat.le_of_ble_eq_true rfl) rfl ?_
  unfold P_X12_tests at h
  refine E_aload_n dX12_tests_0 rfl rfl ?_
  refine E_iload_n dX12_tests_1 rfl rfl ?_
  refine E_callV (Y' := Y_X12_sums) (as := [vI x1]) (st := []) dX12_tests_2 lk_RX12_219 m_X12_sums (by decide) (Nat.le_refl _) (Nat.le_refl _) rfl rfl (Nat.le_of_ble_eq_true rfl) (s_X12_sums h) (fun r0 B0 σ_1 h => ?_)
  obtain ⟨rfl, rfl, h⟩ := h
  refine E_aload_n dX12_tests_5 rfl rfl ?_
  refine E_getr (i := 0) dX12_tests_6 fl_RX12_69 rfl rfl (go_12_30 _ _) ?_
  refine E_iload_n dX12_tests_9 rfl rfl ?_
  obtain ⟨hg0, hg1, h⟩ := h
  refine E_iald dX12_tests_10 sh_1330 hg0 hg1 ?_
  refine E_istore_n (ls' := [some (vR 12 0), some (vI x1), some (vI (σ_1 1330 0 x1))]) dX12_tests_11 rfl (by decide) rfl ?_
  refine E_aload_n dX12_tests_12 rfl rfl ?_
  refine E_getr (i := 0) dX12_tests_13 fl_RX12_66 rfl rfl (go_12_29 _ _) ?_
  refine E_iload_n dX12_tests_16 rfl rfl ?_
  obtain ⟨hg0, hg1, h⟩ := h
  refine E_iald dX12_tests_17 sh_1329 hg0 hg1 ?_
  refine E_bp dX12_tests_18 rfl ?_
  refine E_icmp_ne (tgt := 44) dX12_tests_20 (by decide) (fun hc => ?_) (fun hc => ?_)
  · have h := Eq.mp (if_neg hc) h
    exact e_P_X12_tests_J44 h
  · have h := Eq.mp (if_pos hc) h
    refine E_aload_n dX12_tests_23 rfl rfl ?_
    refine E_getr (i := 0) dX12_tests_24 fl_RX12_63 rfl rfl (go_12_28 _ _) ?_
    refine E_iload_n dX12_tests_27 rfl rfl ?_
    obtain ⟨hg0, hg1, h⟩ := h
    refine E_iald dX12_tests_28 sh_1328 hg0 hg1 ?_
    refine E_aload_n dX12_tests_29 rfl rfl ?_
    refine E_getr (i := 0) dX12_tests_30 fl_RX12_69 rfl rfl (go_12_30 _ _) ?_
    refine E_iload_n dX12_tests_33 rfl rfl ?_
    obtain ⟨hg0, hg1, h⟩ := h
    refine E_iald dX12_tests_34 sh_1330 hg0 hg1 ?_
    refine E_icmp_ge (tgt := 42) dX12_tests_35 (by decide) (fun hc => ?_) (fun hc => ?_)
    · have h := Eq.mp (if_pos hc) h
      refine E_ic dX12_tests_42 rfl ?_
      refine E_wk2 [some (vR 12 0), some (vI x1), none] ⟨rfl, ⟨rfl, trivial⟩⟩ ?_
      exact e_P_X12_tests_J43 h
    · have h := Eq.mp (if_neg hc) h
      refine E_ic dX12_tests_38 rfl ?_
      refine E_goto (tgt := 43) dX12_tests_39 (by decide) ?_
      refine E_wk2 [some (vR 12 0), some (vI x1), none] ⟨rfl, ⟨rfl, trivial⟩⟩ ?_
      exact e_P_X12_tests_J43 h
abbrev Y_X12_worked : My := (yX12_worked, cX12_worked, 6, some .int)
theorem dX12_worked_0 : decode cX12_worked 0 = .ok (.iconst 0, 1) := by decide +kernel
theorem dX12_worked_1 : decode cX12_worked 1 = .ok (.istore_n 2, 1) := by decide +kernel
theorem dX12_worked_2 : decode cX12_worked 2 = .ok (.aload_n 0, 1) := by decide +kernel
theorem dX12_worked_3 : decode cX12_worked 3 = .ok (.iconst 0, 1) := by decide +kernel
theorem dX12_worked_4 : decode cX12_worked 4 = .ok (.invokevirtual 222, 3) := by decide +kernel
theorem dX12_worked_7 : decode cX12_worked 7 = .ok (.aload_n 0, 1) := by decide +kernel
theorem dX12_worked_8 : decode cX12_worked 8 = .ok (.getfield 41, 3) := by decide +kernel
theorem dX12_worked_11 : decode cX12_worked 11 = .ok (.iload_n 1, 1) := by decide +kernel
theorem dX12_worked_12 : decode cX12_worked 12 = .ok (.iaload, 1) := by decide +kernel
theorem dX12_worked_13 : decode cX12_worked 13 = .ok (.istore_n 3, 1) := by decide +kernel
theorem dX12_worked_14 : decode cX12_worked 14 = .ok (.iload_n 3, 1) := by decide +kernel
theorem dX12_worked_15 : decode cX12_worked 15 = .ok (.aload_n 0, 1) := by decide +kernel
theorem dX12_worked_16 : decode cX12_worked 16 = .ok (.getfield 44, 3) := by decide +kernel
theorem dX12_worked_19 : decode cX12_worked 19 = .ok (.iload_n 1, 1) := by decide +kernel
theorem dX12_worked_20 : decode cX12_worked 20 = .ok (.iaload, 1) := by decide +kernel
theorem dX12_worked_21 : decode cX12_worked 21 = .ok (.if_icmp .ge 314, 3) := by decide +kernel
theorem dX12_worked_24 : decode cX12_worked 24 = .ok (.aload_n 0, 1) := by decide +kernel
theorem dX12_worked_25 : decode cX12_worked 25 = .ok (.getfield 47, 3) := by decide +kernel
theorem dX12_worked_28 : decode cX12_worked 28 = .ok (.iload_n 3, 1) := by decide +kernel
theorem dX12_worked_29 : decode cX12_worked 29 = .ok (.iaload, 1) := by decide +kernel
theorem dX12_worked_30 : decode cX12_worked 30 = .ok (.istore 4, 2) := by decide +kernel
theorem dX12_worked_32 : decode cX12_worked 32 = .ok (.iload 4, 2) := by decide +kernel
theorem dX12_worked_34 : decode cX12_worked 34 = .ok (.bipush 28, 2) := by decide +kernel
theorem dX12_worked_36 : decode cX12_worked 36 = .ok (.if_icmp .eq 10, 3) := by decide +kernel
theorem dX12_worked_39 : decode cX12_worked 39 = .ok (.iload 4, 2) := by decide +kernel
theorem dX12_worked_41 : decode cX12_worked 41 = .ok (.bipush 30, 2) := by decide +kernel
theorem dX12_worked_43 : decode cX12_worked 43 = .ok (.if_icmp .ne 32, 3) := by decide +kernel
theorem dX12_worked_46 : decode cX12_worked 46 = .ok (.iinc 2 1, 3) := by decide +kernel
theorem dX12_worked_49 : decode cX12_worked 49 = .ok (.aload_n 0, 1) := by decide +kernel
theorem dX12_worked_50 : decode cX12_worked 50 = .ok (.getfield 81, 3) := by decide +kernel
theorem dX12_worked_53 : decode cX12_worked 53 = .ok (.iload_n 2, 1) := by decide +kernel
theorem dX12_worked_54 : decode cX12_worked 54 = .ok (.iload 4, 2) := by decide +kernel
theorem dX12_worked_56 : decode cX12_worked 56 = .ok (.bipush 30, 2) := by decide +kernel
theorem dX12_worked_58 : decode cX12_worked 58 = .ok (.if_icmp .ne 7, 3) := by decide +kernel
theorem dX12_worked_61 : decode cX12_worked 61 = .ok (.iconst 1, 1) := by decide +kernel
theorem dX12_worked_62 : decode cX12_worked 62 = .ok (.goto 4, 3) := by decide +kernel
theorem dX12_worked_65 : decode cX12_worked 65 = .ok (.iconst 0, 1) := by decide +kernel
theorem dX12_worked_66 : decode cX12_worked 66 = .ok (.iastore, 1) := by decide +kernel
theorem dX12_worked_67 : decode cX12_worked 67 = .ok (.aload_n 0, 1) := by decide +kernel
theorem dX12_worked_68 : decode cX12_worked 68 = .ok (.iload_n 2, 1) := by decide +kernel
theorem dX12_worked_69 : decode cX12_worked 69 = .ok (.invokevirtual 222, 3) := by decide +kernel
theorem dX12_worked_72 : decode cX12_worked 72 = .ok (.goto 257, 3) := by decide +kernel
theorem dX12_worked_75 : decode cX12_worked 75 = .ok (.iload 4, 2) := by decide +kernel
theorem dX12_worked_77 : decode cX12_worked 77 = .ok (.bipush 20, 2) := by decide +kernel
theorem dX12_worked_79 : decode cX12_worked 79 = .ok (.if_icmp .eq 10, 3) := by decide +kernel
theorem dX12_worked_82 : decode cX12_worked 82 = .ok (.iload 4, 2) := by decide +kernel
theorem dX12_worked_84 : decode cX12_worked 84 = .ok (.bipush 21, 2) := by decide +kernel
theorem dX12_worked_86 : decode cX12_worked 86 = .ok (.if_icmp .ne 19, 3) := by decide +kernel
theorem dX12_worked_89 : decode cX12_worked 89 = .ok (.aload_n 0, 1) := by decide +kernel
theorem dX12_worked_90 : decode cX12_worked 90 = .ok (.iload_n 2, 1) := by decide +kernel
theorem dX12_worked_91 : decode cX12_worked 91 = .ok (.invokevirtual 219, 3) := by decide +kernel
theorem dX12_worked_94 : decode cX12_worked 94 = .ok (.aload_n 0, 1) := by decide +kernel
theorem dX12_worked_95 : decode cX12_worked 95 = .ok (.getfield 72, 3) := by decide +kernel
theorem dX12_worked_98 : decode cX12_worked 98 = .ok (.iload_n 2, 1) := by decide +kernel
theorem dX12_worked_99 : decode cX12_worked 99 = .ok (.iload 4, 2) := by decide +kernel
theorem dX12_worked_101 : decode cX12_worked 101 = .ok (.iastore, 1) := by decide +kernel
theorem dX12_worked_102 : decode cX12_worked 102 = .ok (.goto 227, 3) := by decide +kernel
theorem dX12_worked_105 : decode cX12_worked 105 = .ok (.iload 4, 2) := by decide +kernel
theorem dX12_worked_107 : decode cX12_worked 107 = .ok (.bipush 22, 2) := by decide +kernel
theorem dX12_worked_109 : decode cX12_worked 109 = .ok (.if_icmp .ne 14, 3) := by decide +kernel
theorem dX12_worked_112 : decode cX12_worked 112 = .ok (.aload_n 0, 1) := by decide +kernel
theorem dX12_worked_113 : decode cX12_worked 113 = .ok (.getfield 78, 3) := by decide +kernel
theorem dX12_worked_116 : decode cX12_worked 116 = .ok (.iload_n 2, 1) := by decide +kernel
theorem dX12_worked_117 : decode cX12_worked 117 = .ok (.iload 4, 2) := by decide +kernel
theorem dX12_worked_119 : decode cX12_worked 119 = .ok (.iastore, 1) := by decide +kernel
theorem dX12_worked_120 : decode cX12_worked 120 = .ok (.goto 209, 3) := by decide +kernel
theorem dX12_worked_123 : decode cX12_worked 123 = .ok (.iload 4, 2) := by decide +kernel
theorem dX12_worked_125 : decode cX12_worked 125 = .ok (.bipush 24, 2) := by decide +kernel
theorem dX12_worked_127 : decode cX12_worked 127 = .ok (.if_icmp .eq 10, 3) := by decide +kernel
theorem dX12_worked_130 : decode cX12_worked 130 = .ok (.iload 4, 2) := by decide +kernel
theorem dX12_worked_132 : decode cX12_worked 132 = .ok (.bipush 25, 2) := by decide +kernel
theorem dX12_worked_134 : decode cX12_worked 134 = .ok (.if_icmp .ne 46, 3) := by decide +kernel
theorem dX12_worked_137 : decode cX12_worked 137 = .ok (.aload_n 0, 1) := by decide +kernel
theorem dX12_worked_138 : decode cX12_worked 138 = .ok (.iload_n 2, 1) := by decide +kernel
theorem dX12_worked_139 : decode cX12_worked 139 = .ok (.invokevirtual 219, 3) := by decide +kernel
theorem dX12_worked_142 : decode cX12_worked 142 = .ok (.aload_n 0, 1) := by decide +kernel
theorem dX12_worked_143 : decode cX12_worked 143 = .ok (.getfield 63, 3) := by decide +kernel
theorem dX12_worked_146 : decode cX12_worked 146 = .ok (.iload_n 2, 1) := by decide +kernel
theorem dX12_worked_147 : decode cX12_worked 147 = .ok (.aload_n 0, 1) := by decide +kernel
theorem dX12_worked_148 : decode cX12_worked 148 = .ok (.getfield 69, 3) := by decide +kernel
theorem dX12_worked_151 : decode cX12_worked 151 = .ok (.iload_n 2, 1) := by decide +kernel
theorem dX12_worked_152 : decode cX12_worked 152 = .ok (.iaload, 1) := by decide +kernel
theorem dX12_worked_153 : decode cX12_worked 153 = .ok (.iastore, 1) := by decide +kernel
theorem dX12_worked_154 : decode cX12_worked 154 = .ok (.aload_n 0, 1) := by decide +kernel
theorem dX12_worked_155 : decode cX12_worked 155 = .ok (.getfield 66, 3) := by decide +kernel
theorem dX12_worked_158 : decode cX12_worked 158 = .ok (.iload_n 2, 1) := by decide +kernel
theorem dX12_worked_159 : decode cX12_worked 159 = .ok (.iload 4, 2) := by decide +kernel
theorem dX12_worked_161 : decode cX12_worked 161 = .ok (.iastore, 1) := by decide +kernel
theorem dX12_worked_162 : decode cX12_worked 162 = .ok (.aload_n 0, 1) := by decide +kernel
theorem dX12_worked_163 : decode cX12_worked 163 = .ok (.getfield 69, 3) := by decide +kernel
theorem dX12_worked_166 : decode cX12_worked 166 = .ok (.iload_n 2, 1) := by decide +kernel
theorem dX12_worked_167 : decode cX12_worked 167 = .ok (.iconst 0, 1) := by decide +kernel
theorem dX12_worked_168 : decode cX12_worked 168 = .ok (.iastore, 1) := by decide +kernel
theorem dX12_worked_169 : decode cX12_worked 169 = .ok (.aload_n 0, 1) := by decide +kernel
theorem dX12_worked_170 : decode cX12_worked 170 = .ok (.getfield 72, 3) := by decide +kernel
theorem dX12_worked_173 : decode cX12_worked 173 = .ok (.iload_n 2, 1) := by decide +kernel
theorem dX12_worked_174 : decode cX12_worked 174 = .ok (.bipush 20, 2) := by decide +kernel
theorem dX12_worked_176 : decode cX12_worked 176 = .ok (.iastore, 1) := by decide +kernel
theorem dX12_worked_177 : decode cX12_worked 177 = .ok (.goto 152, 3) := by decide +kernel
theorem dX12_worked_180 : decode cX12_worked 180 = .ok (.iload 4, 2) := by decide +kernel
theorem dX12_worked_182 : decode cX12_worked 182 = .ok (.bipush 26, 2) := by decide +kernel
theorem dX12_worked_184 : decode cX12_worked 184 = .ok (.if_icmp .eq 10, 3) := by decide +kernel
theorem dX12_worked_187 : decode cX12_worked 187 = .ok (.iload 4, 2) := by decide +kernel
theorem dX12_worked_189 : decode cX12_worked 189 = .ok (.bipush 27, 2) := by decide +kernel
theorem dX12_worked_191 : decode cX12_worked 191 = .ok (.if_icmp .ne 19, 3) := by decide +kernel
theorem dX12_worked_194 : decode cX12_worked 194 = .ok (.aload_n 0, 1) := by decide +kernel
theorem dX12_worked_195 : decode cX12_worked 195 = .ok (.iload_n 2, 1) := by decide +kernel
theorem dX12_worked_196 : decode cX12_worked 196 = .ok (.invokevirtual 225, 3) := by decide +kernel
theorem dX12_worked_199 : decode cX12_worked 199 = .ok (.aload_n 0, 1) := by decide +kernel
theorem dX12_worked_200 : decode cX12_worked 200 = .ok (.getfield 60, 3) := by decide +kernel
theorem dX12_worked_203 : decode cX12_worked 203 = .ok (.iload_n 2, 1) := by decide +kernel
theorem dX12_worked_204 : decode cX12_worked 204 = .ok (.iload 4, 2) := by decide +kernel
theorem dX12_worked_206 : decode cX12_worked 206 = .ok (.iastore, 1) := by decide +kernel
theorem dX12_worked_207 : decode cX12_worked 207 = .ok (.goto 122, 3) := by decide +kernel
theorem dX12_worked_210 : decode cX12_worked 210 = .ok (.iload 4, 2) := by decide +kernel
theorem dX12_worked_212 : decode cX12_worked 212 = .ok (.bipush 100, 2) := by decide +kernel
theorem dX12_worked_214 : decode cX12_worked 214 = .ok (.if_icmp .lt 11, 3) := by decide +kernel
theorem dX12_worked_217 : decode cX12_worked 217 = .ok (.iload 4, 2) := by decide +kernel
theorem dX12_worked_219 : decode cX12_worked 219 = .ok (.bipush 100, 2) := by decide +kernel
theorem dX12_worked_221 : decode cX12_worked 221 = .ok (.isub, 1) := by decide +kernel
theorem dX12_worked_222 : decode cX12_worked 222 = .ok (.goto 21, 3) := by decide +kernel
theorem dX12_worked_225 : decode cX12_worked 225 = .ok (.iload 4, 2) := by decide +kernel
theorem dX12_worked_227 : decode cX12_worked 227 = .ok (.bipush 20, 2) := by decide +kernel
theorem dX12_worked_229 : decode cX12_worked 229 = .ok (.if_icmp .ge 13, 3) := by decide +kernel
theorem dX12_worked_232 : decode cX12_worked 232 = .ok (.aload_n 0, 1) := by decide +kernel
theorem dX12_worked_233 : decode cX12_worked 233 = .ok (.getfield 84, 3) := by decide +kernel
theorem dX12_worked_236 : decode cX12_worked 236 = .ok (.iload 4, 2) := by decide +kernel
theorem dX12_worked_238 : decode cX12_worked 238 = .ok (.iaload, 1) := by decide +kernel
theorem dX12_worked_239 : decode cX12_worked 239 = .ok (.goto 4, 3) := by decide +kernel
theorem dX12_worked_242 : decode cX12_worked 242 = .ok (.iconst 0, 1) := by decide +kernel
theorem dX12_worked_243 : decode cX12_worked 243 = .ok (.istore 5, 2) := by decide +kernel
theorem dX12_worked_245 : decode cX12_worked 245 = .ok (.iload 4, 2) := by decide +kernel
theorem dX12_worked_247 : decode cX12_worked 247 = .ok (.bipush 29, 2) := by decide +kernel
theorem dX12_worked_249 : decode cX12_worked 249 = .ok (.if_icmp .ne 19, 3) := by decide +kernel
theorem dX12_worked_252 : decode cX12_worked 252 = .ok (.aload_n 0, 1) := by decide +kernel
theorem dX12_worked_253 : decode cX12_worked 253 = .ok (.iload_n 2, 1) := by decide +kernel
theorem dX12_worked_254 : decode cX12_worked 254 = .ok (.invokevirtual 225, 3) := by decide +kernel
theorem dX12_worked_257 : decode cX12_worked 257 = .ok (.aload_n 0, 1) := by decide +kernel
theorem dX12_worked_258 : decode cX12_worked 258 = .ok (.getfield 57, 3) := by decide +kernel
theorem dX12_worked_261 : decode cX12_worked 261 = .ok (.iload_n 2, 1) := by decide +kernel
theorem dX12_worked_262 : decode cX12_worked 262 = .ok (.iaload, 1) := by decide +kernel
theorem dX12_worked_263 : decode cX12_worked 263 = .ok (.istore 5, 2) := by decide +kernel
theorem dX12_worked_265 : decode cX12_worked 265 = .ok (.iinc 2 (-1), 3) := by decide +kernel
theorem dX12_worked_268 : decode cX12_worked 268 = .ok (.iload_n 2, 1) := by decide +kernel
theorem dX12_worked_269 : decode cX12_worked 269 = .ok (.ifCond .le 31, 3) := by decide +kernel
theorem dX12_worked_272 : decode cX12_worked 272 = .ok (.aload_n 0, 1) := by decide +kernel
theorem dX12_worked_273 : decode cX12_worked 273 = .ok (.getfield 81, 3) := by decide +kernel
theorem dX12_worked_276 : decode cX12_worked 276 = .ok (.iload_n 2, 1) := by decide +kernel
theorem dX12_worked_277 : decode cX12_worked 277 = .ok (.iaload, 1) := by decide +kernel
theorem dX12_worked_278 : decode cX12_worked 278 = .ok (.iconst 1, 1) := by decide +kernel
theorem dX12_worked_279 : decode cX12_worked 279 = .ok (.if_icmp .ne 21, 3) := by decide +kernel
theorem dX12_worked_282 : decode cX12_worked 282 = .ok (.iload 5, 2) := by decide +kernel
theorem dX12_worked_284 : decode cX12_worked 284 = .ok (.ifCond .ne 7, 3) := by decide +kernel
theorem dX12_worked_287 : decode cX12_worked 287 = .ok (.iconst 1, 1) := by decide +kernel
theorem dX12_worked_288 : decode cX12_worked 288 = .ok (.goto 4, 3) := by decide +kernel
theorem dX12_worked_291 : decode cX12_worked 291 = .ok (.iconst 0, 1) := by decide +kernel
theorem dX12_worked_292 : decode cX12_worked 292 = .ok (.istore 5, 2) := by decide +kernel
theorem dX12_worked_294 : decode cX12_worked 294 = .ok (.iinc 2 (-1), 3) := by decide +kernel
theorem dX12_worked_297 : decode cX12_worked 297 = .ok (.goto (-29), 3) := by decide +kernel
theorem dX12_worked_300 : decode cX12_worked 300 = .ok (.aload_n 0, 1) := by decide +kernel
theorem dX12_worked_301 : decode cX12_worked 301 = .ok (.getfield 75, 3) := by decide +kernel
theorem dX12_worked_304 : decode cX12_worked 304 = .ok (.iload_n 2, 1) := by decide +kernel
theorem dX12_worked_305 : decode cX12_worked 305 = .ok (.aload_n 0, 1) := by decide +kernel
theorem dX12_worked_306 : decode cX12_worked 306 = .ok (.getfield 78, 3) := by decide +kernel
theorem dX12_worked_309 : decode cX12_worked 309 = .ok (.iload_n 2, 1) := by decide +kernel
theorem dX12_worked_310 : decode cX12_worked 310 = .ok (.iaload, 1) := by decide +kernel
theorem dX12_worked_311 : decode cX12_worked 311 = .ok (.ifCond .ne 8, 3) := by decide +kernel
theorem dX12_worked_314 : decode cX12_worked 314 = .ok (.iload 5, 2) := by decide +kernel
theorem dX12_worked_316 : decode cX12_worked 316 = .ok (.goto 12, 3) := by decide +kernel
theorem dX12_worked_319 : decode cX12_worked 319 = .ok (.aload_n 0, 1) := by decide +kernel
theorem dX12_worked_320 : decode cX12_worked 320 = .ok (.getfield 75, 3) := by decide +kernel
theorem dX12_worked_323 : decode cX12_worked 323 = .ok (.iload_n 2, 1) := by decide +kernel
theorem dX12_worked_324 : decode cX12_worked 324 = .ok (.iaload, 1) := by decide +kernel
theorem dX12_worked_325 : decode cX12_worked 325 = .ok (.iload 5, 2) := by decide +kernel
theorem dX12_worked_327 : decode cX12_worked 327 = .ok (.imul, 1) := by decide +kernel
theorem dX12_worked_328 : decode cX12_worked 328 = .ok (.iastore, 1) := by decide +kernel
theorem dX12_worked_329 : decode cX12_worked 329 = .ok (.iinc 3 1, 3) := by decide +kernel
theorem dX12_worked_332 : decode cX12_worked 332 = .ok (.goto (-318), 3) := by decide +kernel
theorem dX12_worked_335 : decode cX12_worked 335 = .ok (.aload_n 0, 1) := by decide +kernel
theorem dX12_worked_336 : decode cX12_worked 336 = .ok (.iconst 0, 1) := by decide +kernel
theorem dX12_worked_337 : decode cX12_worked 337 = .ok (.invokevirtual 225, 3) := by decide +kernel
theorem dX12_worked_340 : decode cX12_worked 340 = .ok (.aload_n 0, 1) := by decide +kernel
theorem dX12_worked_341 : decode cX12_worked 341 = .ok (.getfield 57, 3) := by decide +kernel
theorem dX12_worked_344 : decode cX12_worked 344 = .ok (.iconst 0, 1) := by decide +kernel
theorem dX12_worked_345 : decode cX12_worked 345 = .ok (.iaload, 1) := by decide +kernel
theorem dX12_worked_346 : decode cX12_worked 346 = .ok (.ireturn, 1) := by decide +kernel
theorem fl_RX12_41 : FL RX12 41 12 19 := ⟨inG (i := 1419) (by decide +kernel) (by decide +kernel), by decide, by decide⟩
theorem fl_RX12_44 : FL RX12 44 12 20 := ⟨inG (i := 1420) (by decide +kernel) (by decide +kernel), by decide, by decide⟩
theorem fl_RX12_81 : FL RX12 81 12 34 := ⟨inG (i := 1434) (by decide +kernel) (by decide +kernel), by decide, by decide⟩
theorem fl_RX12_84 : FL RX12 84 12 35 := ⟨inG (i := 1435) (by decide +kernel) (by decide +kernel), by decide, by decide⟩
theorem go_12_19 (σ : St) (i : Nat) : go σ 12 i 19 = (1319, i) := rfl
theorem go_12_20 (σ : St) (i : Nat) : go σ 12 i 20 = (1320, i) := rfl
theorem go_12_34 (σ : St) (i : Nat) : go σ 12 i 34 = (1334, i) := rfl
theorem go_12_35 (σ : St) (i : Nat) : go σ 12 i 35 = (1335, i) := rfl
theorem lk_RX12_222 : Cond.methodLink RX12 222 yX12_opens ∈ tG := inG (i := 1853) (by decide +kernel) (by decide +kernel)
theorem lk_RX12_225 : Cond.methodLink RX12 225 yX12_tests ∈ tG := inG (i := 1861) (by decide +kernel) (by decide +kernel)
theorem m_X12_opens : MV Y_X12_opens 1 12 := ⟨⟨inG (i := 1856) (by decide +kernel) (by decide +kernel), inG (i := 110) (by decide +kernel) (by decide +kernel), by decide, by decide, by decide, by decide +kernel⟩, inG (i := 1855) (by decide +kernel) (by decide +kernel), inG (i := 79) (by decide +kernel) (by decide +kernel), by decide⟩
theorem m_X12_tests : MV Y_X12_tests 1 12 := ⟨⟨inG (i := 1864) (by decide +kernel) (by decide +kernel), inG (i := 110) (by decide +kernel) (by decide +kernel), by decide, by decide, by decide, by decide +kernel⟩, inG (i := 1863) (by decide +kernel) (by decide +kernel), inG (i := 81) (by decide +kernel) (by decide +kernel), by decide⟩
theorem sh_1319 : shp 1319 = (0, 2) := rfl
theorem sh_1320 : shp 1320 = (0, 2) := rfl
theorem sh_1334 : shp 1334 = (0, 7) := rfl
theorem sh_1335 : shp 1335 = (0, 20) := rfl
def P_X12_worked_J66  (x1 : Int) (x2 : Int) (x3 : Int) (y0 : Int) (y1 : Int) (R : Int → Int → St → Prop) (K : St → Prop) (Q : Int → St → Prop) (σ : St) : Prop :=
  0 ≤ y1 ∧ y1 < 7 ∧ P_X12_opens x2 (up σ 1334 0 y1 y0) (fun σ_2 => R x2 (wi (x3 + 1)) σ_2)
set_option maxRecDepth 20000 in
set_option maxHeartbeats 2000000 in
theorem e_P_X12_worked_J66  {x1 : Int} {x2 : Int} {x3 : Int} {y0 : Int} {y1 : Int} {R : Int → Int → St → Prop} {K : St → Prop} {Q : Int → St → Prop} {σ : St}  (hR : ∀ x2 x3 σ, R x2 x3 σ → E Y_X12_worked 2 0 0 (QI Q) ww 0 0 14 [some (vR 12 0), some (vI x1), some (vI x2), some (vI x3), none, none] [] σ) (hK : ∀ σ, K σ → E Y_X12_worked 2 0 0 (QI Q) ww 0 0 335 [some (vR 12 0), none, none, none, none, none] [] σ) (h : P_X12_worked_J66 x1 x2 x3 y0 y1 R K Q σ) : E Y_X12_worked 2 0 0 (QI Q) ww 0 0 66 [some (vR 12 0), some (vI x1), some (vI x2), some (vI x3), none, none] [vI y0, vI y1, vR 1334 0] σ := by
  unfold P_X12_worked_J66 at h
  obtain ⟨hg0, hg1, h⟩ := h
  refine E_iast dX12_worked_66 sh_1334 hg0 hg1 ?_
  refine E_aload_n dX12_worked_67 rfl rfl ?_
  refine E_iload_n dX12_worked_68 rfl rfl ?_
  refine E_callV (Y' := Y_X12_opens) (as := [vI x2]) (st := []) dX12_worked_69 lk_RX12_222 m_X12_opens (by decide) (Nat.le_refl _) (Nat.le_refl _) rfl rfl (Nat.le_of_ble_eq_true rfl) (s_X12_opens h) (fun r0 B0 σ_2 h => ?_)
  obtain ⟨rfl, rfl, h⟩ := h
  refine E_goto (tgt := 329) dX12_worked_72 (by decide) ?_
  refine E_iinc (ls' := [some (vR 12 0), some (vI x1), some (vI x2), some (vI (wi (x3 + 1))), none, none]) dX12_worked_329 rfl (by decide) rfl rfl ?_
  refine E_goto (tgt := 14) dX12_worked_332 (by decide) ?_
  exact hR _ _ _ h
def P_X12_worked_J46  (x1 : Int) (x2 : Int) (x3 : Int) (x4 : Int) (R : Int → Int → St → Prop) (K : St → Prop) (Q : Int → St → Prop) (σ : St) : Prop :=
  (if x4 = 30 then P_X12_worked_J66 x1 (wi (x2 + 1)) x3 1 (wi (x2 + 1)) R K Q σ else P_X12_worked_J66 x1 (wi (x2 + 1)) x3 0 (wi (x2 + 1)) R K Q σ)
set_option maxRecDepth 20000 in
set_option maxHeartbeats 2000000 in
theorem e_P_X12_worked_J46  {x1 : Int} {x2 : Int} {x3 : Int} {x4 : Int} {R : Int → Int → St → Prop} {K : St → Prop} {Q : Int → St → Prop} {σ : St}  (hR : ∀ x2 x3 σ, R x2 x3 σ → E Y_X12_worked 2 0 0 (QI Q) ww 0 0 14 [some (vR 12 0), some (vI x1), some (vI x2), some (vI x3), none, none] [] σ) (hK : ∀ σ, K σ → E Y_X12_worked 2 0 0 (QI Q) ww 0 0 335 [some (vR 12 0), none, none, none, none, none] [] σ) (h : P_X12_worked_J46 x1 x2 x3 x4 R K Q σ) : E Y_X12_worked 2 0 0 (QI Q) ww 0 0 46 [some (vR 12 0), some (vI x1), some (vI x2), some (vI x3), some (vI x4), none] [] σ := by
  unfold P_X12_worked_J46 at h
  refine E_iinc (ls' := [some (vR 12 0), some (vI x1), some (vI (wi (x2 + 1))), some (vI x3), some (vI x4), none]) dX12_worked_46 rfl (by decide) rfl rfl ?_
  refine E_aload_n dX12_worked_49 rfl rfl ?_
  refine E_getr (i := 0) dX12_worked_50 fl_RX12_81 rfl rfl (go_12_34 _ _) ?_
  refine E_iload_n dX12_worked_53 rfl rfl ?_
  refine E_iload dX12_worked_54 rfl ?_
  refine E_bp dX12_worked_56 rfl ?_
  refine E_icmp_ne (tgt := 65) dX12_worked_58 (by decide) (fun hc => ?_) (fun hc => ?_)
  · have h := Eq.mp (if_neg hc) h
    refine E_ic dX12_worked_65 rfl ?_
    refine E_wk2 [some (vR 12 0), some (vI x1), some (vI (wi (x2 + 1))), some (vI x3), none, none] ⟨rfl, ⟨rfl, ⟨rfl, ⟨rfl, trivial⟩⟩⟩⟩ ?_
    exact e_P_X12_worked_J66 hR hK h
  · have h := Eq.mp (if_pos hc) h
    refine E_ic dX12_worked_61 rfl ?_
    refine E_goto (tgt := 66) dX12_worked_62 (by decide) ?_
    refine E_wk2 [some (vR 12 0), some (vI x1), some (vI (wi (x2 + 1))), some (vI x3), none, none] ⟨rfl, ⟨rfl, ⟨rfl, ⟨rfl, trivial⟩⟩⟩⟩ ?_
    exact e_P_X12_worked_J66 hR hK h
def P_X12_worked_J89  (x1 : Int) (x2 : Int) (x3 : Int) (x4 : Int) (R : Int → Int → St → Prop) (K : St → Prop) (Q : Int → St → Prop) (σ : St) : Prop :=
  P_X12_sums x2 σ (fun σ_3 => 0 ≤ x2 ∧ x2 < 7 ∧ R x2 (wi (x3 + 1)) (up σ_3 1331 0 x2 x4))
set_option maxRecDepth 20000 in
set_option maxHeartbeats 2000000 in
theorem e_P_X12_worked_J89  {x1 : Int} {x2 : Int} {x3 : Int} {x4 : Int} {R : Int → Int → St → Prop} {K : St → Prop} {Q : Int → St → Prop} {σ : St}  (hR : ∀ x2 x3 σ, R x2 x3 σ → E Y_X12_worked 2 0 0 (QI Q) ww 0 0 14 [some (vR 12 0), some (vI x1), some (vI x2), some (vI x3), none, none] [] σ) (hK : ∀ σ, K σ → E Y_X12_worked 2 0 0 (QI Q) ww 0 0 335 [some (vR 12 0), none, none, none, none, none] [] σ) (h : P_X12_worked_J89 x1 x2 x3 x4 R K Q σ) : E Y_X12_worked 2 0 0 (QI Q) ww 0 0 89 [some (vR 12 0), some (vI x1), some (vI x2), some (vI x3), some (vI x4), none] [] σ := by
  unfold P_X12_worked_J89 at h
  refine E_aload_n dX12_worked_89 rfl rfl ?_
  refine E_iload_n dX12_worked_90 rfl rfl ?_
  refine E_callV (Y' := Y_X12_sums) (as := [vI x2]) (st := []) dX12_worked_91 lk_RX12_219 m_X12_sums (by decide) (Nat.le_refl _) (Nat.le_refl _) rfl rfl (Nat.le_of_ble_eq_true rfl) (s_X12_sums h) (fun r0 B0 σ_3 h => ?_)
  obtain ⟨rfl, rfl, h⟩ := h
  refine E_aload_n dX12_worked_94 rfl rfl ?_
  refine E_getr (i := 0) dX12_worked_95 fl_RX12_72 rfl rfl (go_12_31 _ _) ?_
  refine E_iload_n dX12_worked_98 rfl rfl ?_
  refine E_iload dX12_worked_99 rfl ?_
  obtain ⟨hg0, hg1, h⟩ := h
  refine E_iast dX12_worked_101 sh_1331 hg0 hg1 ?_
  refine E_goto (tgt := 329) dX12_worked_102 (by decide) ?_
  refine E_iinc (ls' := [some (vR 12 0), some (vI x1), some (vI x2), some (vI (wi (x3 + 1))), some (vI x4), none]) dX12_worked_329 rfl (by decide) rfl rfl ?_
  refine E_goto (tgt := 14) dX12_worked_332 (by decide) ?_
  refine E_wk2 [some (vR 12 0), some (vI x1), some (vI x2), some (vI (wi (x3 + 1))), none, none] ⟨rfl, ⟨rfl, ⟨rfl, ⟨rfl, trivial⟩⟩⟩⟩ ?_
  exact hR _ _ _ h
def P_X12_worked_J137  (x1 : Int) (x2 : Int) (x3 : Int) (x4 : Int) (R : Int → Int → St → Prop) (K : St → Prop) (Q : Int → St → Prop) (σ : St) : Prop :=
  P_X12_sums x2 σ (fun σ_4 => 0 ≤ x2 ∧ x2 < 7 ∧ 0 ≤ x2 ∧ x2 < 7 ∧ 0 ≤ x2 ∧ x2 < 7 ∧ 0 ≤ x2 ∧ x2 < 7 ∧ 0 ≤ x2 ∧ x2 < 7 ∧ R x2 (wi (x3 + 1)) (up (up (up (up σ_4 1328 0 x2 (σ_4 1330 0 x2)) 1329 0 x2 x4) 1330 0 x2 0) 1331 0 x2 20))
set_option maxRecDepth 20000 in
set_option maxHeartbeats 2000000 in
theorem e_P_X12_worked_J137  {x1 : Int} {x2 : Int} {x3 : Int} {x4 : Int} {R : Int → Int → St → Prop} {K : St → Prop} {Q : Int → St → Prop} {σ : St}  (hR : ∀ x2 x3 σ, R x2 x3 σ → E Y_X12_worked 2 0 0 (QI Q) ww 0 0 14 [some (vR 12 0), some (vI x1), some (vI x2), some (vI x3), none, none] [] σ) (hK : ∀ σ, K σ → E Y_X12_worked 2 0 0 (QI Q) ww 0 0 335 [some (vR 12 0), none, none, none, none, none] [] σ) (h : P_X12_worked_J137 x1 x2 x3 x4 R K Q σ) : E Y_X12_worked 2 0 0 (QI Q) ww 0 0 137 [some (vR 12 0), some (vI x1), some (vI x2), some (vI x3), some (vI x4), none] [] σ := by
  unfold P_X12_worked_J137 at h
  refine E_aload_n dX12_worked_137 rfl rfl ?_
  refine E_iload_n dX12_worked_138 rfl rfl ?_
  refine E_callV (Y' := Y_X12_sums) (as := [vI x2]) (st := []) dX12_worked_139 lk_RX12_219 m_X12_sums (by decide) (Nat.le_refl _) (Nat.le_refl _) rfl rfl (Nat.le_of_ble_eq_true rfl) (s_X12_sums h) (fun r0 B0 σ_4 h => ?_)
  obtain ⟨rfl, rfl, h⟩ := h
  refine E_aload_n dX12_worked_142 rfl rfl ?_
  refine E_getr (i := 0) dX12_worked_143 fl_RX12_63 rfl rfl (go_12_28 _ _) ?_
  refine E_iload_n dX12_worked_146 rfl rfl ?_
  refine E_aload_n dX12_worked_147 rfl rfl ?_
  refine E_getr (i := 0) dX12_worked_148 fl_RX12_69 rfl rfl (go_12_30 _ _) ?_
  refine E_iload_n dX12_worked_151 rfl rfl ?_
  obtain ⟨hg0, hg1, h⟩ := h
  refine E_iald dX12_worked_152 sh_1330 hg0 hg1 ?_
  obtain ⟨hg0, hg1, h⟩ := h
  refine E_iast dX12_worked_153 sh_1328 hg0 hg1 ?_
  refine E_aload_n dX12_worked_154 rfl rfl ?_
  refine E_getr (i := 0) dX12_worked_155 fl_RX12_66 rfl rfl (go_12_29 _ _) ?_
  refine E_iload_n dX12_worked_158 rfl rfl ?_
  refine E_iload dX12_worked_159 rfl ?_
  obtain ⟨hg0, hg1, h⟩ := h
  refine E_iast dX12_worked_161 sh_1329 hg0 hg1 ?_
  refine E_aload_n dX12_worked_162 rfl rfl ?_
  refine E_getr (i := 0) dX12_worked_163 fl_RX12_69 rfl rfl (go_12_30 _ _) ?_
  refine E_iload_n dX12_worked_166 rfl rfl ?_
  refine E_ic dX12_worked_167 rfl ?_
  obtain ⟨hg0, hg1, h⟩ := h
  refine E_iast dX12_worked_168 sh_1330 hg0 hg1 ?_
  refine E_aload_n dX12_worked_169 rfl rfl ?_
  refine E_getr (i := 0) dX12_worked_170 fl_RX12_72 rfl rfl (go_12_31 _ _) ?_
  refine E_iload_n dX12_worked_173 rfl rfl ?_
  refine E_bp dX12_worked_174 rfl ?_
  obtain ⟨hg0, hg1, h⟩ := h
  refine E_iast dX12_worked_176 sh_1331 hg0 hg1 ?_
  refine E_goto (tgt := 329) dX12_worked_177 (by decide) ?_
  refine E_iinc (ls' := [some (vR 12 0), some (vI x1), some (vI x2), some (vI (wi (x3 + 1))), some (vI x4), none]) dX12_worked_329 rfl (by decide) rfl rfl ?_
  refine E_goto (tgt := 14) dX12_worked_332 (by decide) ?_
  refine E_wk2 [some (vR 12 0), some (vI x1), some (vI x2), some (vI (wi (x3 + 1))), none, none] ⟨rfl, ⟨rfl, ⟨rfl, ⟨rfl, trivial⟩⟩⟩⟩ ?_
  exact hR _ _ _ h
def P_X12_worked_J194  (x1 : Int) (x2 : Int) (x3 : Int) (x4 : Int) (R : Int → Int → St → Prop) (K : St → Prop) (Q : Int → St → Prop) (σ : St) : Prop :=
  P_X12_tests x2 σ (fun σ_5 => 0 ≤ x2 ∧ x2 < 7 ∧ R x2 (wi (x3 + 1)) (up σ_5 1327 0 x2 x4))
set_option maxRecDepth 20000 in
set_option maxHeartbeats 2000000 in
theorem e_P_X12_worked_J194  {x1 : Int} {x2 : Int} {x3 : Int} {x4 : Int} {R : Int → Int → St → Prop} {K : St → Prop} {Q : Int → St → Prop} {σ : St}  (hR : ∀ x2 x3 σ, R x2 x3 σ → E Y_X12_worked 2 0 0 (QI Q) ww 0 0 14 [some (vR 12 0), some (vI x1), some (vI x2), some (vI x3), none, none] [] σ) (hK : ∀ σ, K σ → E Y_X12_worked 2 0 0 (QI Q) ww 0 0 335 [some (vR 12 0), none, none, none, none, none] [] σ) (h : P_X12_worked_J194 x1 x2 x3 x4 R K Q σ) : E Y_X12_worked 2 0 0 (QI Q) ww 0 0 194 [some (vR 12 0), some (vI x1), some (vI x2), some (vI x3), some (vI x4), none] [] σ := by
  unfold P_X12_worked_J194 at h
  refine E_aload_n dX12_worked_194 rfl rfl ?_
  refine E_iload_n dX12_worked_195 rfl rfl ?_
  refine E_callV (Y' := Y_X12_tests) (as := [vI x2]) (st := []) dX12_worked_196 lk_RX12_225 m_X12_tests (by decide) (Nat.le_refl _) (Nat.le_refl _) rfl rfl (Nat.le_of_ble_eq_true rfl) (s_X12_tests h) (fun r0 B0 σ_5 h => ?_)
  obtain ⟨rfl, rfl, h⟩ := h
  refine E_aload_n dX12_worked_199 rfl rfl ?_
  refine E_getr (i := 0) dX12_worked_200 fl_RX12_60 rfl rfl (go_12_27 _ _) ?_
  refine E_iload_n dX12_worked_203 rfl rfl ?_
  refine E_iload dX12_worked_204 rfl ?_
  obtain ⟨hg0, hg1, h⟩ := h
  refine E_iast dX12_worked_206 sh_1327 hg0 hg1 ?_
  refine E_goto (tgt := 329) dX12_worked_207 (by decide) ?_
  refine E_iinc (ls' := [some (vR 12 0), some (vI x1), some (vI x2), some (vI (wi (x3 + 1))), some (vI x4), none]) dX12_worked_329 rfl (by decide) rfl rfl ?_
  refine E_goto (tgt := 14) dX12_worked_332 (by decide) ?_
  refine E_wk2 [some (vR 12 0), some (vI x1), some (vI x2), some (vI (wi (x3 + 1))), none, none] ⟨rfl, ⟨rfl, ⟨rfl, ⟨rfl, trivial⟩⟩⟩⟩ ?_
  exact hR _ _ _ h
def P_X12_worked_L268  (x1 : Int) (x3 : Int) (K : Int → Int → St → Prop) (Q : Int → St → Prop) : Nat → Int → Int → St → Prop
  | 0, _, _, _ => False
  | n + 1, x2, x5, σ => (if x2 ≤ 0 then K x2 x5 σ else 0 ≤ x2 ∧ x2 < 7 ∧ (if (σ 1334 0 x2) = 1 then (if x5 = 0 then (P_X12_worked_L268 x1 x3 K Q n) (wi (x2 + (-1))) 1 σ else (P_X12_worked_L268 x1 x3 K Q n) (wi (x2 + (-1))) 0 σ) else K x2 x5 σ))
set_option maxRecDepth 20000 in
set_option maxHeartbeats 2000000 in
theorem e_P_X12_worked_L268  {x1 : Int} {x3 : Int} {K : Int → Int → St → Prop} {Q : Int → St → Prop}  (hK : ∀ x2 x5 σ, K x2 x5 σ → E Y_X12_worked 2 0 0 (QI Q) ww 0 0 300 [some (vR 12 0), some (vI x1), some (vI x2), some (vI x3), none, some (vI x5)] [] σ) : ∀ (n : Nat) (x2 : Int) (x5 : Int) (σ : St), P_X12_worked_L268 x1 x3 K Q n x2 x5 σ → E Y_X12_worked 2 0 0 (QI Q) ww 0 0 268 [some (vR 12 0), some (vI x1), some (vI x2), some (vI x3), none, some (vI x5)] [] σ := by
  intro n
  induction n with
  | zero => intro x2 x5 σ h; exact h.elim
  | succ n hR =>
    intro x2 x5 σ h
    unfold P_X12_worked_L268 at h
    refine E_iload_n dX12_worked_268 rfl rfl ?_
    refine E_if_le (tgt := 300) dX12_worked_269 (by decide) (fun hc => ?_) (fun hc => ?_)
    · have h := Eq.mp (if_pos hc) h
      exact hK _ _ _ h
    · have h := Eq.mp (if_neg hc) h
      refine E_aload_n dX12_worked_272 rfl rfl ?_
      refine E_getr (i := 0) dX12_worked_273 fl_RX12_81 rfl rfl (go_12_34 _ _) ?_
      refine E_iload_n dX12_worked_276 rfl rfl ?_
      obtain ⟨hg0, hg1, h⟩ := h
      refine E_iald dX12_worked_277 sh_1334 hg0 hg1 ?_
      refine E_ic dX12_worked_278 rfl ?_
      refine E_icmp_ne (tgt := 300) dX12_worked_279 (by decide) (fun hc => ?_) (fun hc => ?_)
      · have h := Eq.mp (if_neg hc) h
        exact hK _ _ _ h
      · have h := Eq.mp (if_pos hc) h
        refine E_iload dX12_worked_282 rfl ?_
        refine E_if_ne (tgt := 291) dX12_worked_284 (by decide) (fun hc => ?_) (fun hc => ?_)
        · have h := Eq.mp (if_neg hc) h
          refine E_ic dX12_worked_291 rfl ?_
          refine E_istore (ls' := [some (vR 12 0), some (vI x1), some (vI x2), some (vI x3), none, some (vI 0)]) dX12_worked_292 (by decide) rfl ?_
          refine E_iinc (ls' := [some (vR 12 0), some (vI x1), some (vI (wi (x2 + (-1)))), some (vI x3), none, some (vI 0)]) dX12_worked_294 rfl (by decide) rfl rfl ?_
          refine E_goto (tgt := 268) dX12_worked_297 (by decide) ?_
          exact hR _ _ _ h
        · have h := Eq.mp (if_pos hc) h
          refine E_ic dX12_worked_287 rfl ?_
          refine E_goto (tgt := 292) dX12_worked_288 (by decide) ?_
          refine E_istore (ls' := [some (vR 12 0), some (vI x1), some (vI x2), some (vI x3), none, some (vI 1)]) dX12_worked_292 (by decide) rfl ?_
          refine E_iinc (ls' := [some (vR 12 0), some (vI x1), some (vI (wi (x2 + (-1)))), some (vI x3), none, some (vI 1)]) dX12_worked_294 rfl (by decide) rfl rfl ?_
          refine E_goto (tgt := 268) dX12_worked_297 (by decide) ?_
          exact hR _ _ _ h
def P_X12_worked_J328  (x1 : Int) (x2 : Int) (x3 : Int) (y0 : Int) (y1 : Int) (R : Int → Int → St → Prop) (K : St → Prop) (Q : Int → St → Prop) (σ : St) : Prop :=
  0 ≤ y1 ∧ y1 < 7 ∧ R x2 (wi (x3 + 1)) (up σ 1332 0 y1 y0)
set_option maxRecDepth 20000 in
set_option maxHeartbeats 2000000 in
theorem e_P_X12_worked_J328  {x1 : Int} {x2 : Int} {x3 : Int} {y0 : Int} {y1 : Int} {R : Int → Int → St → Prop} {K : St → Prop} {Q : Int → St → Prop} {σ : St}  (hR : ∀ x2 x3 σ, R x2 x3 σ → E Y_X12_worked 2 0 0 (QI Q) ww 0 0 14 [some (vR 12 0), some (vI x1), some (vI x2), some (vI x3), none, none] [] σ) (hK : ∀ σ, K σ → E Y_X12_worked 2 0 0 (QI Q) ww 0 0 335 [some (vR 12 0), none, none, none, none, none] [] σ) (h : P_X12_worked_J328 x1 x2 x3 y0 y1 R K Q σ) : E Y_X12_worked 2 0 0 (QI Q) ww 0 0 328 [some (vR 12 0), some (vI x1), some (vI x2), some (vI x3), none, none] [vI y0, vI y1, vR 1332 0] σ := by
  unfold P_X12_worked_J328 at h
  obtain ⟨hg0, hg1, h⟩ := h
  refine E_iast dX12_worked_328 sh_1332 hg0 hg1 ?_
  refine E_iinc (ls' := [some (vR 12 0), some (vI x1), some (vI x2), some (vI (wi (x3 + 1))), none, none]) dX12_worked_329 rfl (by decide) rfl rfl ?_
  refine E_goto (tgt := 14) dX12_worked_332 (by decide) ?_
  exact hR _ _ _ h
def P_X12_worked_J300  (x1 : Int) (x2 : Int) (x3 : Int) (x5 : Int) (R : Int → Int → St → Prop) (K : St → Prop) (Q : Int → St → Prop) (σ : St) : Prop :=
  0 ≤ x2 ∧ x2 < 7 ∧ (if (σ 1333 0 x2) = 0 then P_X12_worked_J328 x1 x2 x3 x5 x2 R K Q σ else 0 ≤ x2 ∧ x2 < 7 ∧ P_X12_worked_J328 x1 x2 x3 (wi ((σ 1332 0 x2) * x5)) x2 R K Q σ)
set_option maxRecDepth 20000 in
set_option maxHeartbeats 2000000 in
theorem e_P_X12_worked_J300  {x1 : Int} {x2 : Int} {x3 : Int} {x5 : Int} {R : Int → Int → St → Prop} {K : St → Prop} {Q : Int → St → Prop} {σ : St}  (hR : ∀ x2 x3 σ, R x2 x3 σ → E Y_X12_worked 2 0 0 (QI Q) ww 0 0 14 [some (vR 12 0), some (vI x1), some (vI x2), some (vI x3), none, none] [] σ) (hK : ∀ σ, K σ → E Y_X12_worked 2 0 0 (QI Q) ww 0 0 335 [some (vR 12 0), none, none, none, none, none] [] σ) (h : P_X12_worked_J300 x1 x2 x3 x5 R K Q σ) : E Y_X12_worked 2 0 0 (QI Q) ww 0 0 300 [some (vR 12 0), some (vI x1), some (vI x2), some (vI x3), none, some (vI x5)] [] σ := by
  unfold P_X12_worked_J300 at h
  refine E_aload_n dX12_worked_300 rfl rfl ?_
  refine E_getr (i := 0) dX12_worked_301 fl_RX12_75 rfl rfl (go_12_32 _ _) ?_
  refine E_iload_n dX12_worked_304 rfl rfl ?_
  refine E_aload_n dX12_worked_305 rfl rfl ?_
  refine E_getr (i := 0) dX12_worked_306 fl_RX12_78 rfl rfl (go_12_33 _ _) ?_
  refine E_iload_n dX12_worked_309 rfl rfl ?_
  obtain ⟨hg0, hg1, h⟩ := h
  refine E_iald dX12_worked_310 sh_1333 hg0 hg1 ?_
  refine E_if_ne (tgt := 319) dX12_worked_311 (by decide) (fun hc => ?_) (fun hc => ?_)
  · have h := Eq.mp (if_neg hc) h
    refine E_aload_n dX12_worked_319 rfl rfl ?_
    refine E_getr (i := 0) dX12_worked_320 fl_RX12_75 rfl rfl (go_12_32 _ _) ?_
    refine E_iload_n dX12_worked_323 rfl rfl ?_
    obtain ⟨hg0, hg1, h⟩ := h
    refine E_iald dX12_worked_324 sh_1332 hg0 hg1 ?_
    refine E_iload dX12_worked_325 rfl ?_
    refine E_imul dX12_worked_327 ?_
    refine E_wk2 [some (vR 12 0), some (vI x1), some (vI x2), some (vI x3), none, none] ⟨rfl, ⟨rfl, ⟨rfl, ⟨rfl, trivial⟩⟩⟩⟩ ?_
    exact e_P_X12_worked_J328 hR hK h
  · have h := Eq.mp (if_pos hc) h
    refine E_iload dX12_worked_314 rfl ?_
    refine E_goto (tgt := 328) dX12_worked_316 (by decide) ?_
    refine E_wk2 [some (vR 12 0), some (vI x1), some (vI x2), some (vI x3), none, none] ⟨rfl, ⟨rfl, ⟨rfl, ⟨rfl, trivial⟩⟩⟩⟩ ?_
    exact e_P_X12_worked_J328 hR hK h
def P_X12_worked_J268  (x1 : Int) (x2 : Int) (x3 : Int) (x5 : Int) (R : Int → Int → St → Prop) (K : St → Prop) (Q : Int → St → Prop) (σ : St) : Prop :=
  P_X12_worked_L268 x1 x3 (fun x2_6 x5_7 σ_8 => P_X12_worked_J300 x1 x2_6 x3 x5_7 R K Q σ_8) Q FU x2 x5 σ
set_option maxRecDepth 20000 in
set_option maxHeartbeats 2000000 in
theorem e_P_X12_worked_J268  {x1 : Int} {x2 : Int} {x3 : Int} {x5 : Int} {R : Int → Int → St → Prop} {K : St → Prop} {Q : Int → St → Prop} {σ : St}  (hR : ∀ x2 x3 σ, R x2 x3 σ → E Y_X12_worked 2 0 0 (QI Q) ww 0 0 14 [some (vR 12 0), some (vI x1), some (vI x2), some (vI x3), none, none] [] σ) (hK : ∀ σ, K σ → E Y_X12_worked 2 0 0 (QI Q) ww 0 0 335 [some (vR 12 0), none, none, none, none, none] [] σ) (h : P_X12_worked_J268 x1 x2 x3 x5 R K Q σ) : E Y_X12_worked 2 0 0 (QI Q) ww 0 0 268 [some (vR 12 0), some (vI x1), some (vI x2), some (vI x3), none, some (vI x5)] [] σ := by
  unfold P_X12_worked_J268 at h
  refine e_P_X12_worked_L268 ?_ _ _ _ _ h
  · intro x2_6 x5_7 σ_8 h
    exact e_P_X12_worked_J300 hR hK h
def P_X12_worked_J243  (x1 : Int) (x2 : Int) (x3 : Int) (x4 : Int) (y0 : Int) (R : Int → Int → St → Prop) (K : St → Prop) (Q : Int → St → Prop) (σ : St) : Prop :=
  (if x4 = 29 then P_X12_tests x2 σ (fun σ_9 => 0 ≤ x2 ∧ x2 < 7 ∧ P_X12_worked_J268 x1 (wi (x2 + (-1))) x3 (σ_9 1326 0 x2) R K Q σ_9) else P_X12_worked_J268 x1 x2 x3 y0 R K Q σ)
set_option maxRecDepth 20000 in
set_option maxHeartbeats 2000000 in
theorem e_P_X12_worked_J243  {x1 : Int} {x2 : Int} {x3 : Int} {x4 : Int} {y0 : Int} {R : Int → Int → St → Prop} {K : St → Prop} {Q : Int → St → Prop} {σ : St}  (hR : ∀ x2 x3 σ, R x2 x3 σ → E Y_X12_worked 2 0 0 (QI Q) ww 0 0 14 [some (vR 12 0), some (vI x1), some (vI x2), some (vI x3), none, none] [] σ) (hK : ∀ σ, K σ → E Y_X12_worked 2 0 0 (QI Q) ww 0 0 335 [some (vR 12 0), none, none, none, none, none] [] σ) (h : P_X12_worked_J243 x1 x2 x3 x4 y0 R K Q σ) : E Y_X12_worked 2 0 0 (QI Q) ww 0 0 243 [some (vR 12 0), some (vI x1), some (vI x2), some (vI x3), some (vI x4), none] [vI y0] σ := by
  unfold P_X12_worked_J243 at h
  refine E_istore (ls' := [some (vR 12 0), some (vI x1), some (vI x2), some (vI x3), some (vI x4), some (vI y0)]) dX12_worked_243 (by decide) rfl ?_
  refine E_iload dX12_worked_245 rfl ?_
  refine E_bp dX12_worked_247 rfl ?_
  refine E_icmp_ne (tgt := 268) dX12_worked_249 (by decide) (fun hc => ?_) (fun hc => ?_)
  · have h := Eq.mp (if_neg hc) h
    refine E_wk2 [some (vR 12 0), some (vI x1), some (vI x2), some (vI x3), none, some (vI y0)] ⟨rfl, ⟨rfl, ⟨rfl, ⟨rfl, ⟨rfl, trivial⟩⟩⟩⟩⟩ ?_
    exact e_P_X12_worked_J268 hR hK h
  · have h := Eq.mp (if_pos hc) h
    refine E_aload_n dX12_worked_252 rfl rfl ?_
    refine E_iload_n dX12_worked_253 rfl rfl ?_
    refine E_callV (Y' := Y_X12_tests) (as := [vI x2]) (st := []) dX12_worked_254 lk_RX12_225 m_X12_tests (by decide) (Nat.le_refl _) (Nat.le_refl _) rfl rfl (Nat.le_of_ble_eq_true rfl) (s_X12_tests h) (fun r0 B0 σ_9 h => ?_)
    obtain ⟨rfl, rfl, h⟩ := h
    refine E_aload_n dX12_worked_257 rfl rfl ?_
    refine E_getr (i := 0) dX12_worked_258 fl_RX12_57 rfl rfl (go_12_26 _ _) ?_
    refine E_iload_n dX12_worked_261 rfl rfl ?_
    obtain ⟨hg0, hg1, h⟩ := h
    refine E_iald dX12_worked_262 sh_1326 hg0 hg1 ?_
    refine E_istore (ls' := [some (vR 12 0), some (vI x1), some (vI x2), some (vI x3), some (vI x4), some (vI (σ_9 1326 0 x2))]) dX12_worked_263 (by decide) rfl ?_
    refine E_iinc (ls' := [some (vR 12 0), some (vI x1), some (vI (wi (x2 + (-1)))), some (vI x3), some (vI x4), some (vI (σ_9 1326 0 x2))]) dX12_worked_265 rfl (by decide) rfl rfl ?_
    refine E_wk2 [some (vR 12 0), some (vI x1), some (vI (wi (x2 + (-1)))), some (vI x3), none, some (vI (σ_9 1326 0 x2))] ⟨rfl, ⟨rfl, ⟨rfl, ⟨rfl, ⟨rfl, trivial⟩⟩⟩⟩⟩ ?_
    exact e_P_X12_worked_J268 hR hK h
def P_X12_worked_L14  (x1 : Int) (K : St → Prop) (Q : Int → St → Prop) : Nat → Int → Int → St → Prop
  | 0, _, _, _ => False
  | n + 1, x2, x3, σ => 0 ≤ x1 ∧ x1 < 2 ∧ (if (σ 1320 0 x1) ≤ x3 then K σ else 0 ≤ x3 ∧ x3 < 2000 ∧ (if (σ 1321 0 x3) = 28 then P_X12_worked_J46 x1 x2 x3 (σ 1321 0 x3) (P_X12_worked_L14 x1 K Q n) K Q σ else (if (σ 1321 0 x3) = 30 then P_X12_worked_J46 x1 x2 x3 (σ 1321 0 x3) (P_X12_worked_L14 x1 K Q n) K Q σ else (if (σ 1321 0 x3) = 20 then P_X12_worked_J89 x1 x2 x3 (σ 1321 0 x3) (P_X12_worked_L14 x1 K Q n) K Q σ else (if (σ 1321 0 x3) = 21 then P_X12_worked_J89 x1 x2 x3 (σ 1321 0 x3) (P_X12_worked_L14 x1 K Q n) K Q σ else (if (σ 1321 0 x3) = 22 then 0 ≤ x2 ∧ x2 < 7 ∧ (P_X12_worked_L14 x1 K Q n) x2 (wi (x3 + 1)) (up σ 1333 0 x2 (σ 1321 0 x3)) else (if (σ 1321 0 x3) = 24 then P_X12_worked_J137 x1 x2 x3 (σ 1321 0 x3) (P_X12_worked_L14 x1 K Q n) K Q σ else (if (σ 1321 0 x3) = 25 then P_X12_worked_J137 x1 x2 x3 (σ 1321 0 x3) (P_X12_worked_L14 x1 K Q n) K Q σ else (if (σ 1321 0 x3) = 26 then P_X12_worked_J194 x1 x2 x3 (σ 1321 0 x3) (P_X12_worked_L14 x1 K Q n) K Q σ else (if (σ 1321 0 x3) = 27 then P_X12_worked_J194 x1 x2 x3 (σ 1321 0 x3) (P_X12_worked_L14 x1 K Q n) K Q σ else (if (σ 1321 0 x3) < 100 then (if 20 ≤ (σ 1321 0 x3) then P_X12_worked_J243 x1 x2 x3 (σ 1321 0 x3) 0 (P_X12_worked_L14 x1 K Q n) K Q σ else 0 ≤ σ 1321 0 x3 ∧ σ 1321 0 x3 < 20 ∧ P_X12_worked_J243 x1 x2 x3 (σ 1321 0 x3) (σ 1335 0 (σ 1321 0 x3)) (P_X12_worked_L14 x1 K Q n) K Q σ) else P_X12_worked_J243 x1 x2 x3 (σ 1321 0 x3) (wi ((σ 1321 0 x3) - 100)) (P_X12_worked_L14 x1 K Q n) K Q σ)))))))))))
set_option maxRecDepth 20000 in
set_option maxHeartbeats 2000000 in
theorem e_P_X12_worked_L14  {x1 : Int} {K : St → Prop} {Q : Int → St → Prop}  (hK : ∀ σ, K σ → E Y_X12_worked 2 0 0 (QI Q) ww 0 0 335 [some (vR 12 0), none, none, none, none, none] [] σ) : ∀ (n : Nat) (x2 : Int) (x3 : Int) (σ : St), P_X12_worked_L14 x1 K Q n x2 x3 σ → E Y_X12_worked 2 0 0 (QI Q) ww 0 0 14 [some (vR 12 0), some (vI x1), some (vI x2), some (vI x3), none, none] [] σ := by
  intro n
  induction n with
  | zero => intro x2 x3 σ h; exact h.elim
  | succ n hR =>
    intro x2 x3 σ h
    unfold P_X12_worked_L14 at h
    refine E_iload_n dX12_worked_14 rfl rfl ?_
    refine E_aload_n dX12_worked_15 rfl rfl ?_
    refine E_getr (i := 0) dX12_worked_16 fl_RX12_44 rfl rfl (go_12_20 _ _) ?_
    refine E_iload_n dX12_worked_19 rfl rfl ?_
    obtain ⟨hg0, hg1, h⟩ := h
    refine E_iald dX12_worked_20 sh_1320 hg0 hg1 ?_
    refine E_icmp_ge (tgt := 335) dX12_worked_21 (by decide) (fun hc => ?_) (fun hc => ?_)
    · have h := Eq.mp (if_pos hc) h
      refine E_wk2 [some (vR 12 0), none, none, none, none, none] ⟨rfl, trivial⟩ ?_
      exact hK _ h
    · have h := Eq.mp (if_neg hc) h
      refine E_aload_n dX12_worked_24 rfl rfl ?_
      refine E_getr (i := 0) dX12_worked_25 fl_RX12_47 rfl rfl (go_12_21 _ _) ?_
      refine E_iload_n dX12_worked_28 rfl rfl ?_
      obtain ⟨hg0, hg1, h⟩ := h
      refine E_iald dX12_worked_29 sh_1321 hg0 hg1 ?_
      refine E_istore (ls' := [some (vR 12 0), some (vI x1), some (vI x2), some (vI x3), some (vI (σ 1321 0 x3)), none]) dX12_worked_30 (by decide) rfl ?_
      refine E_iload dX12_worked_32 rfl ?_
      refine E_bp dX12_worked_34 rfl ?_
      refine E_icmp_eq (tgt := 46) dX12_worked_36 (by decide) (fun hc => ?_) (fun hc => ?_)
      · have h := Eq.mp (if_pos hc) h
        exact e_P_X12_worked_J46 hR hK h
      · have h := Eq.mp (if_neg hc) h
        refine E_iload dX12_worked_39 rfl ?_
        refine E_bp dX12_worked_41 rfl ?_
        refine E_icmp_ne (tgt := 75) dX12_worked_43 (by decide) (fun hc => ?_) (fun hc => ?_)
        · have h := Eq.mp (if_neg hc) h
          refine E_iload dX12_worked_75 rfl ?_
          refine E_bp dX12_worked_77 rfl ?_
          refine E_icmp_eq (tgt := 89) dX12_worked_79 (by decide) (fun hc => ?_) (fun hc => ?_)
          · have h := Eq.mp (if_pos hc) h
            exact e_P_X12_worked_J89 hR hK h
          · have h := Eq.mp (if_neg hc) h
            refine E_iload dX12_worked_82 rfl ?_
            refine E_bp dX12_worked_84 rfl ?_
            refine E_icmp_ne (tgt := 105) dX12_worked_86 (by decide) (fun hc => ?_) (fun hc => ?_)
            · have h := Eq.mp (if_neg hc) h
              refine E_iload dX12_worked_105 rfl ?_
              refine E_bp dX12_worked_107 rfl ?_
              refine E_icmp_ne (tgt := 123) dX12_worked_109 (by decide) (fun hc => ?_) (fun hc => ?_)
              · have h := Eq.mp (if_neg hc) h
                refine E_iload dX12_worked_123 rfl ?_
                refine E_bp dX12_worked_125 rfl ?_
                refine E_icmp_eq (tgt := 137) dX12_worked_127 (by decide) (fun hc => ?_) (fun hc => ?_)
                · have h := Eq.mp (if_pos hc) h
                  exact e_P_X12_worked_J137 hR hK h
                · have h := Eq.mp (if_neg hc) h
                  refine E_iload dX12_worked_130 rfl ?_
                  refine E_bp dX12_worked_132 rfl ?_
                  refine E_icmp_ne (tgt := 180) dX12_worked_134 (by decide) (fun hc => ?_) (fun hc => ?_)
                  · have h := Eq.mp (if_neg hc) h
                    refine E_iload dX12_worked_180 rfl ?_
                    refine E_bp dX12_worked_182 rfl ?_
                    refine E_icmp_eq (tgt := 194) dX12_worked_184 (by decide) (fun hc => ?_) (fun hc => ?_)
                    · have h := Eq.mp (if_pos hc) h
                      exact e_P_X12_worked_J194 hR hK h
                    · have h := Eq.mp (if_neg hc) h
                      refine E_iload dX12_worked_187 rfl ?_
                      refine E_bp dX12_worked_189 rfl ?_
                      refine E_icmp_ne (tgt := 210) dX12_worked_191 (by decide) (fun hc => ?_) (fun hc => ?_)
                      · have h := Eq.mp (if_neg hc) h
                        refine E_iload dX12_worked_210 rfl ?_
                        refine E_bp dX12_worked_212 rfl ?_
                        refine E_icmp_lt (tgt := 225) dX12_worked_214 (by decide) (fun hc => ?_) (fun hc => ?_)
                        · have h := Eq.mp (if_pos hc) h
                          refine E_iload dX12_worked_225 rfl ?_
                          refine E_bp dX12_worked_227 rfl ?_
                          refine E_icmp_ge (tgt := 242) dX12_worked_229 (by decide) (fun hc => ?_) (fun hc => ?_)
                          · have h := Eq.mp (if_pos hc) h
                            refine E_ic dX12_worked_242 rfl ?_
                            exact e_P_X12_worked_J243 hR hK h
                          · have h := Eq.mp (if_neg hc) h
                            refine E_aload_n dX12_worked_232 rfl rfl ?_
                            refine E_getr (i := 0) dX12_worked_233 fl_RX12_84 rfl rfl (go_12_35 _ _) ?_
                            refine E_iload dX12_worked_236 rfl ?_
                            obtain ⟨hg0, hg1, h⟩ := h
                            refine E_iald dX12_worked_238 sh_1335 hg0 hg1 ?_
                            refine E_goto (tgt := 243) dX12_worked_239 (by decide) ?_
                            exact e_P_X12_worked_J243 hR hK h
                        · have h := Eq.mp (if_neg hc) h
                          refine E_iload dX12_worked_217 rfl ?_
                          refine E_bp dX12_worked_219 rfl ?_
                          refine E_isub dX12_worked_221 ?_
                          refine E_goto (tgt := 243) dX12_worked_222 (by decide) ?_
                          exact e_P_X12_worked_J243 hR hK h
                      · have h := Eq.mp (if_pos hc) h
                        exact e_P_X12_worked_J194 hR hK h
                  · have h := Eq.mp (if_pos hc) h
                    exact e_P_X12_worked_J137 hR hK h
              · have h := Eq.mp (if_pos hc) h
                refine E_aload_n dX12_worked_112 rfl rfl ?_
                refine E_getr (i := 0) dX12_worked_113 fl_RX12_78 rfl rfl (go_12_33 _ _) ?_
                refine E_iload_n dX12_worked_116 rfl rfl ?_
                refine E_iload dX12_worked_117 rfl ?_
                obtain ⟨hg0, hg1, h⟩ := h
                refine E_iast dX12_worked_119 sh_1333 hg0 hg1 ?_
                refine E_goto (tgt := 329) dX12_worked_120 (by decide) ?_
                refine E_iinc (ls' := [some (vR 12 0), some (vI x1), some (vI x2), some (vI (wi (x3 + 1))), some (vI (σ 1321 0 x3)), none]) dX12_worked_329 rfl (by decide) rfl rfl ?_
                refine E_goto (tgt := 14) dX12_worked_332 (by decide) ?_
                refine E_wk2 [some (vR 12 0), some (vI x1), some (vI x2), some (vI (wi (x3 + 1))), none, none] ⟨rfl, ⟨rfl, ⟨rfl, ⟨rfl, trivial⟩⟩⟩⟩ ?_
                exact hR _ _ _ h
            · have h := Eq.mp (if_pos hc) h
              exact e_P_X12_worked_J89 hR hK h
        · have h := Eq.mp (if_pos hc) h
          exact e_P_X12_worked_J46 hR hK h
def P_X12_worked  (x1 : Int) (σ : St) (Q : Int → St → Prop) : Prop :=
  P_X12_opens 0 σ (fun σ_1 => 0 ≤ x1 ∧ x1 < 2 ∧ P_X12_worked_L14 x1 (fun σ_10 => P_X12_tests 0 σ_10 (fun σ_11 => Q (σ_11 1326 0 0) σ_11)) Q FU 0 (σ_1 1319 0 x1) σ_1)
set_option maxRecDepth 20000 in
set_option maxHeartbeats 2000000 in
theorem s_X12_worked   {x1 : Int} {σ : St} {Q : Int → St → Prop} (h : P_X12_worked x1 σ Q) : Cn Y_X12_worked 2 0 0 ww σ [vR 12 0, vI x1] (QI Q) := by
  refine Cn_of [some (vR 12 0), some (vI x1), none, none, none, none] (by decide) (Nat.le_of_ble_eq_true rfl) rfl ?_
  unfold P_X12_worked at h
  refine E_ic dX12_worked_0 rfl ?_
  refine E_istore_n (ls' := [some (vR 12 0), some (vI x1), some (vI 0), none, none, none]) dX12_worked_1 rfl (by decide) rfl ?_
  refine E_aload_n dX12_worked_2 rfl rfl ?_
  refine E_ic dX12_worked_3 rfl ?_
  refine E_callV (Y' := Y_X12_opens) (as := [vI 0]) (st := []) dX12_worked_4 lk_RX12_222 m_X12_opens (by decide) (Nat.le_refl _) (Nat.le_refl _) rfl rfl (Nat.le_of_ble_eq_true rfl) (s_X12_opens h) (fun r0 B0 σ_1 h => ?_)
  obtain ⟨rfl, rfl, h⟩ := h
  refine E_aload_n dX12_worked_7 rfl rfl ?_
  refine E_getr (i := 0) dX12_worked_8 fl_RX12_41 rfl rfl (go_12_19 _ _) ?_
  refine E_iload_n dX12_worked_11 rfl rfl ?_
  obtain ⟨hg0, hg1, h⟩ := h
  refine E_iald dX12_worked_12 sh_1319 hg0 hg1 ?_
  refine E_istore_n (ls' := [some (vR 12 0), some (vI x1), some (vI 0), some (vI (σ_1 1319 0 x1)), none, none]) dX12_worked_13 rfl (by decide) rfl ?_
  refine e_P_X12_worked_L14 ?_ _ _ _ _ h
  · intro σ_10 h
    refine E_aload_n dX12_worked_335 rfl rfl ?_
    refine E_ic dX12_worked_336 rfl ?_
    refine E_callV (Y' := Y_X12_tests) (as := [vI 0]) (st := []) dX12_worked_337 lk_RX12_225 m_X12_tests (by decide) (Nat.le_refl _) (Nat.le_refl _) rfl rfl (Nat.le_of_ble_eq_true rfl) (s_X12_tests h) (fun r0 B0 σ_11 h => ?_)
    obtain ⟨rfl, rfl, h⟩ := h
    refine E_aload_n dX12_worked_340 rfl rfl ?_
    refine E_getr (i := 0) dX12_worked_341 fl_RX12_57 rfl rfl (go_12_26 _ _) ?_
    refine E_ic dX12_worked_344 rfl ?_
    refine E_iald dX12_worked_345 sh_1326 (by decide) (by decide) ?_
    exact E_iret dX12_worked_346 rfl ⟨_, rfl, rfl, h⟩
abbrev Y_X12_isKept : My := (yX12_isKept, cX12_isKept, 1, some .boolean)
theorem dX12_isKept_0 : decode cX12_isKept 0 = .ok (.aload_n 0, 1) := by decide +kernel
theorem dX12_isKept_1 : decode cX12_isKept 1 = .ok (.getfield 166, 3) := by decide +kernel
theorem dX12_isKept_4 : decode cX12_isKept 4 = .ok (.iconst 1, 1) := by decide +kernel
theorem dX12_isKept_5 : decode cX12_isKept 5 = .ok (.if_icmp .eq 5, 3) := by decide +kernel
theorem dX12_isKept_8 : decode cX12_isKept 8 = .ok (.iconst 1, 1) := by decide +kernel
theorem dX12_isKept_9 : decode cX12_isKept 9 = .ok (.ireturn, 1) := by decide +kernel
theorem dX12_isKept_10 : decode cX12_isKept 10 = .ok (.aload_n 0, 1) := by decide +kernel
theorem dX12_isKept_11 : decode cX12_isKept 11 = .ok (.getfield 159, 3) := by decide +kernel
theorem dX12_isKept_14 : decode cX12_isKept 14 = .ok (.ldc2_w 228, 3) := by decide +kernel
theorem dX12_isKept_17 : decode cX12_isKept 17 = .ok (.lcmp, 1) := by decide +kernel
theorem dX12_isKept_18 : decode cX12_isKept 18 = .ok (.ifCond .eq 223, 3) := by decide +kernel
theorem dX12_isKept_21 : decode cX12_isKept 21 = .ok (.aload_n 0, 1) := by decide +kernel
theorem dX12_isKept_22 : decode cX12_isKept 22 = .ok (.getfield 159, 3) := by decide +kernel
theorem dX12_isKept_25 : decode cX12_isKept 25 = .ok (.ldc2_w 230, 3) := by decide +kernel
theorem dX12_isKept_28 : decode cX12_isKept 28 = .ok (.lcmp, 1) := by decide +kernel
theorem dX12_isKept_29 : decode cX12_isKept 29 = .ok (.ifCond .eq 212, 3) := by decide +kernel
theorem dX12_isKept_32 : decode cX12_isKept 32 = .ok (.aload_n 0, 1) := by decide +kernel
theorem dX12_isKept_33 : decode cX12_isKept 33 = .ok (.getfield 159, 3) := by decide +kernel
theorem dX12_isKept_36 : decode cX12_isKept 36 = .ok (.ldc2_w 232, 3) := by decide +kernel
theorem dX12_isKept_39 : decode cX12_isKept 39 = .ok (.lcmp, 1) := by decide +kernel
theorem dX12_isKept_40 : decode cX12_isKept 40 = .ok (.ifCond .eq 201, 3) := by decide +kernel
theorem dX12_isKept_43 : decode cX12_isKept 43 = .ok (.aload_n 0, 1) := by decide +kernel
theorem dX12_isKept_44 : decode cX12_isKept 44 = .ok (.getfield 159, 3) := by decide +kernel
theorem dX12_isKept_47 : decode cX12_isKept 47 = .ok (.ldc2_w 234, 3) := by decide +kernel
theorem dX12_isKept_50 : decode cX12_isKept 50 = .ok (.lcmp, 1) := by decide +kernel
theorem dX12_isKept_51 : decode cX12_isKept 51 = .ok (.ifCond .eq 190, 3) := by decide +kernel
theorem dX12_isKept_54 : decode cX12_isKept 54 = .ok (.aload_n 0, 1) := by decide +kernel
theorem dX12_isKept_55 : decode cX12_isKept 55 = .ok (.getfield 159, 3) := by decide +kernel
theorem dX12_isKept_58 : decode cX12_isKept 58 = .ok (.ldc2_w 236, 3) := by decide +kernel
theorem dX12_isKept_61 : decode cX12_isKept 61 = .ok (.lcmp, 1) := by decide +kernel
theorem dX12_isKept_62 : decode cX12_isKept 62 = .ok (.ifCond .eq 179, 3) := by decide +kernel
theorem dX12_isKept_65 : decode cX12_isKept 65 = .ok (.aload_n 0, 1) := by decide +kernel
theorem dX12_isKept_66 : decode cX12_isKept 66 = .ok (.getfield 159, 3) := by decide +kernel
theorem dX12_isKept_69 : decode cX12_isKept 69 = .ok (.ldc2_w 238, 3) := by decide +kernel
theorem dX12_isKept_72 : decode cX12_isKept 72 = .ok (.lcmp, 1) := by decide +kernel
theorem dX12_isKept_73 : decode cX12_isKept 73 = .ok (.ifCond .eq 168, 3) := by decide +kernel
theorem dX12_isKept_76 : decode cX12_isKept 76 = .ok (.aload_n 0, 1) := by decide +kernel
theorem dX12_isKept_77 : decode cX12_isKept 77 = .ok (.getfield 159, 3) := by decide +kernel
theorem dX12_isKept_80 : decode cX12_isKept 80 = .ok (.ldc2_w 240, 3) := by decide +kernel
theorem dX12_isKept_83 : decode cX12_isKept 83 = .ok (.lcmp, 1) := by decide +kernel
theorem dX12_isKept_84 : decode cX12_isKept 84 = .ok (.ifCond .eq 157, 3) := by decide +kernel
theorem dX12_isKept_87 : decode cX12_isKept 87 = .ok (.aload_n 0, 1) := by decide +kernel
theorem dX12_isKept_88 : decode cX12_isKept 88 = .ok (.getfield 159, 3) := by decide +kernel
theorem dX12_isKept_91 : decode cX12_isKept 91 = .ok (.ldc2_w 242, 3) := by decide +kernel
theorem dX12_isKept_94 : decode cX12_isKept 94 = .ok (.lcmp, 1) := by decide +kernel
theorem dX12_isKept_95 : decode cX12_isKept 95 = .ok (.ifCond .eq 146, 3) := by decide +kernel
theorem dX12_isKept_98 : decode cX12_isKept 98 = .ok (.aload_n 0, 1) := by decide +kernel
theorem dX12_isKept_99 : decode cX12_isKept 99 = .ok (.getfield 159, 3) := by decide +kernel
theorem dX12_isKept_102 : decode cX12_isKept 102 = .ok (.ldc2_w 244, 3) := by decide +kernel
theorem dX12_isKept_105 : decode cX12_isKept 105 = .ok (.lcmp, 1) := by decide +kernel
theorem dX12_isKept_106 : decode cX12_isKept 106 = .ok (.ifCond .eq 135, 3) := by decide +kernel
theorem dX12_isKept_109 : decode cX12_isKept 109 = .ok (.aload_n 0, 1) := by decide +kernel
theorem dX12_isKept_110 : decode cX12_isKept 110 = .ok (.getfield 159, 3) := by decide +kernel
theorem dX12_isKept_113 : decode cX12_isKept 113 = .ok (.ldc2_w 246, 3) := by decide +kernel
theorem dX12_isKept_116 : decode cX12_isKept 116 = .ok (.lcmp, 1) := by decide +kernel
theorem dX12_isKept_117 : decode cX12_isKept 117 = .ok (.ifCond .eq 124, 3) := by decide +kernel
theorem dX12_isKept_120 : decode cX12_isKept 120 = .ok (.aload_n 0, 1) := by decide +kernel
theorem dX12_isKept_121 : decode cX12_isKept 121 = .ok (.getfield 159, 3) := by decide +kernel
theorem dX12_isKept_124 : decode cX12_isKept 124 = .ok (.ldc2_w 248, 3) := by decide +kernel
theorem dX12_isKept_127 : decode cX12_isKept 127 = .ok (.lcmp, 1) := by decide +kernel
theorem dX12_isKept_128 : decode cX12_isKept 128 = .ok (.ifCond .eq 113, 3) := by decide +kernel
theorem dX12_isKept_131 : decode cX12_isKept 131 = .ok (.aload_n 0, 1) := by decide +kernel
theorem dX12_isKept_132 : decode cX12_isKept 132 = .ok (.getfield 159, 3) := by decide +kernel
theorem dX12_isKept_135 : decode cX12_isKept 135 = .ok (.ldc2_w 250, 3) := by decide +kernel
theorem dX12_isKept_138 : decode cX12_isKept 138 = .ok (.lcmp, 1) := by decide +kernel
theorem dX12_isKept_139 : decode cX12_isKept 139 = .ok (.ifCond .eq 102, 3) := by decide +kernel
theorem dX12_isKept_142 : decode cX12_isKept 142 = .ok (.aload_n 0, 1) := by decide +kernel
theorem dX12_isKept_143 : decode cX12_isKept 143 = .ok (.getfield 159, 3) := by decide +kernel
theorem dX12_isKept_146 : decode cX12_isKept 146 = .ok (.ldc2_w 252, 3) := by decide +kernel
theorem dX12_isKept_149 : decode cX12_isKept 149 = .ok (.lcmp, 1) := by decide +kernel
theorem dX12_isKept_150 : decode cX12_isKept 150 = .ok (.ifCond .eq 91, 3) := by decide +kernel
theorem dX12_isKept_153 : decode cX12_isKept 153 = .ok (.aload_n 0, 1) := by decide +kernel
theorem dX12_isKept_154 : decode cX12_isKept 154 = .ok (.getfield 159, 3) := by decide +kernel
theorem dX12_isKept_157 : decode cX12_isKept 157 = .ok (.ldc2_w 254, 3) := by decide +kernel
theorem dX12_isKept_160 : decode cX12_isKept 160 = .ok (.lcmp, 1) := by decide +kernel
theorem dX12_isKept_161 : decode cX12_isKept 161 = .ok (.ifCond .eq 80, 3) := by decide +kernel
theorem dX12_isKept_164 : decode cX12_isKept 164 = .ok (.aload_n 0, 1) := by decide +kernel
theorem dX12_isKept_165 : decode cX12_isKept 165 = .ok (.getfield 159, 3) := by decide +kernel
theorem dX12_isKept_168 : decode cX12_isKept 168 = .ok (.ldc2_w 256, 3) := by decide +kernel
theorem dX12_isKept_171 : decode cX12_isKept 171 = .ok (.lcmp, 1) := by decide +kernel
theorem dX12_isKept_172 : decode cX12_isKept 172 = .ok (.ifCond .eq 69, 3) := by decide +kernel
theorem dX12_isKept_175 : decode cX12_isKept 175 = .ok (.aload_n 0, 1) := by decide +kernel
theorem dX12_isKept_176 : decode cX12_isKept 176 = .ok (.getfield 159, 3) := by decide +kernel
theorem dX12_isKept_179 : decode cX12_isKept 179 = .ok (.ldc2_w 258, 3) := by decide +kernel
theorem dX12_isKept_182 : decode cX12_isKept 182 = .ok (.lcmp, 1) := by decide +kernel
theorem dX12_isKept_183 : decode cX12_isKept 183 = .ok (.ifCond .eq 58, 3) := by decide +kernel
theorem dX12_isKept_186 : decode cX12_isKept 186 = .ok (.aload_n 0, 1) := by decide +kernel
theorem dX12_isKept_187 : decode cX12_isKept 187 = .ok (.getfield 159, 3) := by decide +kernel
theorem dX12_isKept_190 : decode cX12_isKept 190 = .ok (.ldc2_w 260, 3) := by decide +kernel
theorem dX12_isKept_193 : decode cX12_isKept 193 = .ok (.lcmp, 1) := by decide +kernel
theorem dX12_isKept_194 : decode cX12_isKept 194 = .ok (.ifCond .eq 47, 3) := by decide +kernel
theorem dX12_isKept_197 : decode cX12_isKept 197 = .ok (.aload_n 0, 1) := by decide +kernel
theorem dX12_isKept_198 : decode cX12_isKept 198 = .ok (.getfield 159, 3) := by decide +kernel
theorem dX12_isKept_201 : decode cX12_isKept 201 = .ok (.ldc2_w 262, 3) := by decide +kernel
theorem dX12_isKept_204 : decode cX12_isKept 204 = .ok (.lcmp, 1) := by decide +kernel
theorem dX12_isKept_205 : decode cX12_isKept 205 = .ok (.ifCond .eq 36, 3) := by decide +kernel
theorem dX12_isKept_208 : decode cX12_isKept 208 = .ok (.aload_n 0, 1) := by decide +kernel
theorem dX12_isKept_209 : decode cX12_isKept 209 = .ok (.getfield 159, 3) := by decide +kernel
theorem dX12_isKept_212 : decode cX12_isKept 212 = .ok (.ldc2_w 195, 3) := by decide +kernel
theorem dX12_isKept_215 : decode cX12_isKept 215 = .ok (.lcmp, 1) := by decide +kernel
theorem dX12_isKept_216 : decode cX12_isKept 216 = .ok (.ifCond .eq 25, 3) := by decide +kernel
theorem dX12_isKept_219 : decode cX12_isKept 219 = .ok (.aload_n 0, 1) := by decide +kernel
theorem dX12_isKept_220 : decode cX12_isKept 220 = .ok (.getfield 159, 3) := by decide +kernel
theorem dX12_isKept_223 : decode cX12_isKept 223 = .ok (.ldc2_w 215, 3) := by decide +kernel
theorem dX12_isKept_226 : decode cX12_isKept 226 = .ok (.lcmp, 1) := by decide +kernel
theorem dX12_isKept_227 : decode cX12_isKept 227 = .ok (.ifCond .eq 14, 3) := by decide +kernel
theorem dX12_isKept_230 : decode cX12_isKept 230 = .ok (.aload_n 0, 1) := by decide +kernel
theorem dX12_isKept_231 : decode cX12_isKept 231 = .ok (.getfield 159, 3) := by decide +kernel
theorem dX12_isKept_234 : decode cX12_isKept 234 = .ok (.ldc2_w 217, 3) := by decide +kernel
theorem dX12_isKept_237 : decode cX12_isKept 237 = .ok (.lcmp, 1) := by decide +kernel
theorem dX12_isKept_238 : decode cX12_isKept 238 = .ok (.ifCond .ne 7, 3) := by decide +kernel
theorem dX12_isKept_241 : decode cX12_isKept 241 = .ok (.iconst 1, 1) := by decide +kernel
theorem dX12_isKept_242 : decode cX12_isKept 242 = .ok (.goto 4, 3) := by decide +kernel
theorem dX12_isKept_245 : decode cX12_isKept 245 = .ok (.iconst 0, 1) := by decide +kernel
theorem dX12_isKept_246 : decode cX12_isKept 246 = .ok (.ireturn, 1) := by decide +kernel
theorem kl_RX12_228 : Cond.constantLong RX12 228 (1388945628) ∈ tG := inG (i := 1609) (by decide +kernel) (by decide +kernel)
theorem kl_RX12_230 : Cond.constantLong RX12 230 (47) ∈ tG := inG (i := 1630) (by decide +kernel) (by decide +kernel)
theorem kl_RX12_232 : Cond.constantLong RX12 232 (5146) ∈ tG := inG (i := 1631) (by decide +kernel) (by decide +kernel)
theorem kl_RX12_234 : Cond.constantLong RX12 234 (40431) ∈ tG := inG (i := 1632) (by decide +kernel) (by decide +kernel)
theorem kl_RX12_236 : Cond.constantLong RX12 236 (381245) ∈ tG := inG (i := 1633) (by decide +kernel) (by decide +kernel)
theorem kl_RX12_238 : Cond.constantLong RX12 238 (168755) ∈ tG := inG (i := 1634) (by decide +kernel) (by decide +kernel)
theorem kl_RX12_240 : Cond.constantLong RX12 240 (82901) ∈ tG := inG (i := 1635) (by decide +kernel) (by decide +kernel)
theorem kl_RX12_242 : Cond.constantLong RX12 242 (79828) ∈ tG := inG (i := 1636) (by decide +kernel) (by decide +kernel)
theorem kl_RX12_244 : Cond.constantLong RX12 244 (12322792) ∈ tG := inG (i := 1637) (by decide +kernel) (by decide +kernel)
theorem kl_RX12_246 : Cond.constantLong RX12 246 (43058) ∈ tG := inG (i := 1638) (by decide +kernel) (by decide +kernel)
theorem kl_RX12_248 : Cond.constantLong RX12 248 (378004) ∈ tG := inG (i := 1639) (by decide +kernel) (by decide +kernel)
theorem kl_RX12_250 : Cond.constantLong RX12 250 (14006) ∈ tG := inG (i := 1640) (by decide +kernel) (by decide +kernel)
theorem kl_RX12_252 : Cond.constantLong RX12 252 (1627639) ∈ tG := inG (i := 1641) (by decide +kernel) (by decide +kernel)
theorem kl_RX12_254 : Cond.constantLong RX12 254 (2968) ∈ tG := inG (i := 1642) (by decide +kernel) (by decide +kernel)
theorem kl_RX12_256 : Cond.constantLong RX12 256 (8740238) ∈ tG := inG (i := 1643) (by decide +kernel) (by decide +kernel)
theorem kl_RX12_258 : Cond.constantLong RX12 258 (10973) ∈ tG := inG (i := 1644) (by decide +kernel) (by decide +kernel)
theorem kl_RX12_260 : Cond.constantLong RX12 260 (335053202) ∈ tG := inG (i := 1645) (by decide +kernel) (by decide +kernel)
theorem kl_RX12_262 : Cond.constantLong RX12 262 (70481) ∈ tG := inG (i := 1646) (by decide +kernel) (by decide +kernel)
def P_X12_isKept_J241    (Q : Int → St → Prop) (σ : St) : Prop :=
  Q 1 σ
set_option maxRecDepth 20000 in
set_option maxHeartbeats 2000000 in
theorem e_P_X12_isKept_J241    {Q : Int → St → Prop} {σ : St}   (h : P_X12_isKept_J241  Q σ) : E Y_X12_isKept 0 0 0 (QI Q) ww 0 0 241 [none] [] σ := by
  unfold P_X12_isKept_J241 at h
  refine E_ic dX12_isKept_241 rfl ?_
  refine E_goto (tgt := 246) dX12_isKept_242 (by decide) ?_
  exact E_zret dX12_isKept_246 rfl (by decide) ⟨_, rfl, rfl, h⟩
def P_X12_isKept   (σ : St) (Q : Int → St → Prop) : Prop :=
  (if (σ 12 0 6) = 1 then (if (lC (σ 12 0 7) 1388945628) = 0 then P_X12_isKept_J241 Q σ else (if (lC (σ 12 0 7) 47) = 0 then P_X12_isKept_J241 Q σ else (if (lC (σ 12 0 7) 5146) = 0 then P_X12_isKept_J241 Q σ else (if (lC (σ 12 0 7) 40431) = 0 then P_X12_isKept_J241 Q σ else (if (lC (σ 12 0 7) 381245) = 0 then P_X12_isKept_J241 Q σ else (if (lC (σ 12 0 7) 168755) = 0 then P_X12_isKept_J241 Q σ else (if (lC (σ 12 0 7) 82901) = 0 then P_X12_isKept_J241 Q σ else (if (lC (σ 12 0 7) 79828) = 0 then P_X12_isKept_J241 Q σ else (if (lC (σ 12 0 7) 12322792) = 0 then P_X12_isKept_J241 Q σ else (if (lC (σ 12 0 7) 43058) = 0 then P_X12_isKept_J241 Q σ else (if (lC (σ 12 0 7) 378004) = 0 then P_X12_isKept_J241 Q σ else (if (lC (σ 12 0 7) 14006) = 0 then P_X12_isKept_J241 Q σ else (if (lC (σ 12 0 7) 1627639) = 0 then P_X12_isKept_J241 Q σ else (if (lC (σ 12 0 7) 2968) = 0 then P_X12_isKept_J241 Q σ else (if (lC (σ 12 0 7) 8740238) = 0 then P_X12_isKept_J241 Q σ else (if (lC (σ 12 0 7) 10973) = 0 then P_X12_isKept_J241 Q σ else (if (lC (σ 12 0 7) 335053202) = 0 then P_X12_isKept_J241 Q σ else (if (lC (σ 12 0 7) 70481) = 0 then P_X12_isKept_J241 Q σ else (if (lC (σ 12 0 7) 10631) = 0 then P_X12_isKept_J241 Q σ else (if (lC (σ 12 0 7) 1111) = 0 then P_X12_isKept_J241 Q σ else (if (lC (σ 12 0 7) 423) = 0 then P_X12_isKept_J241 Q σ else Q 0 σ))))))))))))))))))))) else Q 1 σ)
set_option maxRecDepth 20000 in
set_option maxHeartbeats 2000000 in
theorem s_X12_isKept    {σ : St} {Q : Int → St → Prop} (h : P_X12_isKept  σ Q) : Cn Y_X12_isKept 0 0 0 ww σ [vR 12 0] (QI Q) := by
  refine Cn_of [some (vR 12 0)] (by decide) (Nat.le_of_ble_eq_true rfl) rfl ?_
  unfold P_X12_isKept at h
  refine E_aload_n dX12_isKept_0 rfl rfl ?_
  refine E_geti (i := 0) dX12_isKept_1 fl_RX12_166 rfl ?_
  refine E_ic dX12_isKept_4 rfl ?_
  refine E_icmp_eq (tgt := 10) dX12_isKept_5 (by decide) (fun hc => ?_) (fun hc => ?_)
  · have h := Eq.mp (if_pos hc) h
    refine E_aload_n dX12_isKept_10 rfl rfl ?_
    refine E_getl (i := 0) dX12_isKept_11 fl_RX12_159 rfl ?_
    refine E_ldc2 (z := 1388945628) dX12_isKept_14 kl_RX12_228 (by decide) ?_
    refine E_lcmp dX12_isKept_17 ?_
    refine E_if_eq (tgt := 241) dX12_isKept_18 (by decide) (fun hc => ?_) (fun hc => ?_)
    · have h := Eq.mp (if_pos hc) h
      refine E_wk2 [none] trivial ?_
      exact e_P_X12_isKept_J241 h
    · have h := Eq.mp (if_neg hc) h
      refine E_aload_n dX12_isKept_21 rfl rfl ?_
      refine E_getl (i := 0) dX12_isKept_22 fl_RX12_159 rfl ?_
      refine E_ldc2 (z := 47) dX12_isKept_25 kl_RX12_230 (by decide) ?_
      refine E_lcmp dX12_isKept_28 ?_
      refine E_if_eq (tgt := 241) dX12_isKept_29 (by decide) (fun hc => ?_) (fun hc => ?_)
      · have h := Eq.mp (if_pos hc) h
        refine E_wk2 [none] trivial ?_
        exact e_P_X12_isKept_J241 h
      · have h := Eq.mp (if_neg hc) h
        refine E_aload_n dX12_isKept_32 rfl rfl ?_
        refine E_getl (i := 0) dX12_isKept_33 fl_RX12_159 rfl ?_
        refine E_ldc2 (z := 5146) dX12_isKept_36 kl_RX12_232 (by decide) ?_
        refine E_lcmp dX12_isKept_39 ?_
        refine E_if_eq (tgt := 241) dX12_isKept_40 (by decide) (fun hc => ?_) (fun hc => ?_)
        · have h := Eq.mp (if_pos hc) h
          refine E_wk2 [none] trivial ?_
          exact e_P_X12_isKept_J241 h
        · have h := Eq.mp (if_neg hc) h
          refine E_aload_n dX12_isKept_43 rfl rfl ?_
          refine E_getl (i := 0) dX12_isKept_44 fl_RX12_159 rfl ?_
          refine E_ldc2 (z := 40431) dX12_isKept_47 kl_RX12_234 (by decide) ?_
          refine E_lcmp dX12_isKept_50 ?_
          refine E_if_eq (tgt := 241) dX12_isKept_51 (by decide) (fun hc => ?_) (fun hc => ?_)
          · have h := Eq.mp (if_pos hc) h
            refine E_wk2 [none] trivial ?_
            exact e_P_X12_isKept_J241 h
          · have h := Eq.mp (if_neg hc) h
            refine E_aload_n dX12_isKept_54 rfl rfl ?_
            refine E_getl (i := 0) dX12_isKept_55 fl_RX12_159 rfl ?_
            refine E_ldc2 (z := 381245) dX12_isKept_58 kl_RX12_236 (by decide) ?_
            refine E_lcmp dX12_isKept_61 ?_
            refine E_if_eq (tgt := 241) dX12_isKept_62 (by decide) (fun hc => ?_) (fun hc => ?_)
            · have h := Eq.mp (if_pos hc) h
              refine E_wk2 [none] trivial ?_
              exact e_P_X12_isKept_J241 h
            · have h := Eq.mp (if_neg hc) h
              refine E_aload_n dX12_isKept_65 rfl rfl ?_
              refine E_getl (i := 0) dX12_isKept_66 fl_RX12_159 rfl ?_
              refine E_ldc2 (z := 168755) dX12_isKept_69 kl_RX12_238 (by decide) ?_
              refine E_lcmp dX12_isKept_72 ?_
              refine E_if_eq (tgt := 241) dX12_isKept_73 (by decide) (fun hc => ?_) (fun hc => ?_)
              · have h := Eq.mp (if_pos hc) h
                refine E_wk2 [none] trivial ?_
                exact e_P_X12_isKept_J241 h
              · have h := Eq.mp (if_neg hc) h
                refine E_aload_n dX12_isKept_76 rfl rfl ?_
                refine E_getl (i := 0) dX12_isKept_77 fl_RX12_159 rfl ?_
                refine E_ldc2 (z := 82901) dX12_isKept_80 kl_RX12_240 (by decide) ?_
                refine E_lcmp dX12_isKept_83 ?_
                refine E_if_eq (tgt := 241) dX12_isKept_84 (by decide) (fun hc => ?_) (fun hc => ?_)
                · have h := Eq.mp (if_pos hc) h
                  refine E_wk2 [none] trivial ?_
                  exact e_P_X12_isKept_J241 h
                · have h := Eq.mp (if_neg hc) h
                  refine E_aload_n dX12_isKept_87 rfl rfl ?_
                  refine E_getl (i := 0) dX12_isKept_88 fl_RX12_159 rfl ?_
                  refine E_ldc2 (z := 79828) dX12_isKept_91 kl_RX12_242 (by decide) ?_
                  refine E_lcmp dX12_isKept_94 ?_
                  refine E_if_eq (tgt := 241) dX12_isKept_95 (by decide) (fun hc => ?_) (fun hc => ?_)
                  · have h := Eq.mp (if_pos hc) h
                    refine E_wk2 [none] trivial ?_
                    exact e_P_X12_isKept_J241 h
                  · have h := Eq.mp (if_neg hc) h
                    refine E_aload_n dX12_isKept_98 rfl rfl ?_
                    refine E_getl (i := 0) dX12_isKept_99 fl_RX12_159 rfl ?_
                    refine E_ldc2 (z := 12322792) dX12_isKept_102 kl_RX12_244 (by decide) ?_
                    refine E_lcmp dX12_isKept_105 ?_
                    refine E_if_eq (tgt := 241) dX12_isKept_106 (by decide) (fun hc => ?_) (fun hc => ?_)
                    · have h := Eq.mp (if_pos hc) h
                      refine E_wk2 [none] trivial ?_
                      exact e_P_X12_isKept_J241 h
                    · have h := Eq.mp (if_neg hc) h
                      refine E_aload_n dX12_isKept_109 rfl rfl ?_
                      refine E_getl (i := 0) dX12_isKept_110 fl_RX12_159 rfl ?_
                      refine E_ldc2 (z := 43058) dX12_isKept_113 kl_RX12_246 (by decide) ?_
                      refine E_lcmp dX12_isKept_116 ?_
                      refine E_if_eq (tgt := 241) dX12_isKept_117 (by decide) (fun hc => ?_) (fun hc => ?_)
                      · have h := Eq.mp (if_pos hc) h
                        refine E_wk2 [none] trivial ?_
                        exact e_P_X12_isKept_J241 h
                      · have h := Eq.mp (if_neg hc) h
                        refine E_aload_n dX12_isKept_120 rfl rfl ?_
                        refine E_getl (i := 0) dX12_isKept_121 fl_RX12_159 rfl ?_
                        refine E_ldc2 (z := 378004) dX12_isKept_124 kl_RX12_248 (by decide) ?_
                        refine E_lcmp dX12_isKept_127 ?_
                        refine E_if_eq (tgt := 241) dX12_isKept_128 (by decide) (fun hc => ?_) (fun hc => ?_)
                        · have h := Eq.mp (if_pos hc) h
                          refine E_wk2 [none] trivial ?_
                          exact e_P_X12_isKept_J241 h
                        · have h := Eq.mp (if_neg hc) h
                          refine E_aload_n dX12_isKept_131 rfl rfl ?_
                          refine E_getl (i := 0) dX12_isKept_132 fl_RX12_159 rfl ?_
                          refine E_ldc2 (z := 14006) dX12_isKept_135 kl_RX12_250 (by decide) ?_
                          refine E_lcmp dX12_isKept_138 ?_
                          refine E_if_eq (tgt := 241) dX12_isKept_139 (by decide) (fun hc => ?_) (fun hc => ?_)
                          · have h := Eq.mp (if_pos hc) h
                            refine E_wk2 [none] trivial ?_
                            exact e_P_X12_isKept_J241 h
                          · have h := Eq.mp (if_neg hc) h
                            refine E_aload_n dX12_isKept_142 rfl rfl ?_
                            refine E_getl (i := 0) dX12_isKept_143 fl_RX12_159 rfl ?_
                            refine E_ldc2 (z := 1627639) dX12_isKept_146 kl_RX12_252 (by decide) ?_
                            refine E_lcmp dX12_isKept_149 ?_
                            refine E_if_eq (tgt := 241) dX12_isKept_150 (by decide) (fun hc => ?_) (fun hc => ?_)
                            · have h := Eq.mp (if_pos hc) h
                              refine E_wk2 [none] trivial ?_
                              exact e_P_X12_isKept_J241 h
                            · have h := Eq.mp (if_neg hc) h
                              refine E_aload_n dX12_isKept_153 rfl rfl ?_
                              refine E_getl (i := 0) dX12_isKept_154 fl_RX12_159 rfl ?_
                              refine E_ldc2 (z := 2968) dX12_isKept_157 kl_RX12_254 (by decide) ?_
                              refine E_lcmp dX12_isKept_160 ?_
                              refine E_if_eq (tgt := 241) dX12_isKept_161 (by decide) (fun hc => ?_) (fun hc => ?_)
                              · have h := Eq.mp (if_pos hc) h
                                refine E_wk2 [none] trivial ?_
                                exact e_P_X12_isKept_J241 h
                              · have h := Eq.mp (if_neg hc) h
                                refine E_aload_n dX12_isKept_164 rfl rfl ?_
                                refine E_getl (i := 0) dX12_isKept_165 fl_RX12_159 rfl ?_
                                refine E_ldc2 (z := 8740238) dX12_isKept_168 kl_RX12_256 (by decide) ?_
                                refine E_lcmp dX12_isKept_171 ?_
                                refine E_if_eq (tgt := 241) dX12_isKept_172 (by decide) (fun hc => ?_) (fun hc => ?_)
                                · have h := Eq.mp (if_pos hc) h
                                  refine E_wk2 [none] trivial ?_
                                  exact e_P_X12_isKept_J241 h
                                · have h := Eq.mp (if_neg hc) h
                                  refine E_aload_n dX12_isKept_175 rfl rfl ?_
                                  refine E_getl (i := 0) dX12_isKept_176 fl_RX12_159 rfl ?_
                                  refine E_ldc2 (z := 10973) dX12_isKept_179 kl_RX12_258 (by decide) ?_
                                  refine E_lcmp dX12_isKept_182 ?_
                                  refine E_if_eq (tgt := 241) dX12_isKept_183 (by decide) (fun hc => ?_) (fun hc => ?_)
                                  · have h := Eq.mp (if_pos hc) h
                                    refine E_wk2 [none] trivial ?_
                                    exact e_P_X12_isKept_J241 h
                                  · have h := Eq.mp (if_neg hc) h
                                    refine E_aload_n dX12_isKept_186 rfl rfl ?_
                                    refine E_getl (i := 0) dX12_isKept_187 fl_RX12_159 rfl ?_
                                    refine E_ldc2 (z := 335053202) dX12_isKept_190 kl_RX12_260 (by decide) ?_
                                    refine E_lcmp dX12_isKept_193 ?_
                                    refine E_if_eq (tgt := 241) dX12_isKept_194 (by decide) (fun hc => ?_) (fun hc => ?_)
                                    · have h := Eq.mp (if_pos hc) h
                                      refine E_wk2 [none] trivial ?_
                                      exact e_P_X12_isKept_J241 h
                                    · have h := Eq.mp (if_neg hc) h
                                      refine E_aload_n dX12_isKept_197 rfl rfl ?_
                                      refine E_getl (i := 0) dX12_isKept_198 fl_RX12_159 rfl ?_
                                      refine E_ldc2 (z := 70481) dX12_isKept_201 kl_RX12_262 (by decide) ?_
                                      refine E_lcmp dX12_isKept_204 ?_
                                      refine E_if_eq (tgt := 241) dX12_isKept_205 (by decide) (fun hc => ?_) (fun hc => ?_)
                                      · have h := Eq.mp (if_pos hc) h
                                        refine E_wk2 [none] trivial ?_
                                        exact e_P_X12_isKept_J241 h
                                      · have h := Eq.mp (if_neg hc) h
                                        refine E_aload_n dX12_isKept_208 rfl rfl ?_
                                        refine E_getl (i := 0) dX12_isKept_209 fl_RX12_159 rfl ?_
                                        refine E_ldc2 (z := 10631) dX12_isKept_212 kl_RX12_195 (by decide) ?_
                                        refine E_lcmp dX12_isKept_215 ?_
                                        refine E_if_eq (tgt := 241) dX12_isKept_216 (by decide) (fun hc => ?_) (fun hc => ?_)
                                        · have h := Eq.mp (if_pos hc) h
                                          refine E_wk2 [none] trivial ?_
                                          exact e_P_X12_isKept_J241 h
                                        · have h := Eq.mp (if_neg hc) h
                                          refine E_aload_n dX12_isKept_219 rfl rfl ?_
                                          refine E_getl (i := 0) dX12_isKept_220 fl_RX12_159 rfl ?_
                                          refine E_ldc2 (z := 1111) dX12_isKept_223 kl_RX12_215 (by decide) ?_
                                          refine E_lcmp dX12_isKept_226 ?_
                                          refine E_if_eq (tgt := 241) dX12_isKept_227 (by decide) (fun hc => ?_) (fun hc => ?_)
                                          · have h := Eq.mp (if_pos hc) h
                                            refine E_wk2 [none] trivial ?_
                                            exact e_P_X12_isKept_J241 h
                                          · have h := Eq.mp (if_neg hc) h
                                            refine E_aload_n dX12_isKept_230 rfl rfl ?_
                                            refine E_getl (i := 0) dX12_isKept_231 fl_RX12_159 rfl ?_
                                            refine E_ldc2 (z := 423) dX12_isKept_234 kl_RX12_217 (by decide) ?_
                                            refine E_lcmp dX12_isKept_237 ?_
                                            refine E_if_ne (tgt := 245) dX12_isKept_238 (by decide) (fun hc => ?_) (fun hc => ?_)
                                            · have h := Eq.mp (if_neg hc) h
                                              refine E_ic dX12_isKept_245 rfl ?_
                                              exact E_zret dX12_isKept_246 rfl (by decide) ⟨_, rfl, rfl, h⟩
                                            · have h := Eq.mp (if_pos hc) h
                                              refine E_wk2 [none] trivial ?_
                                              exact e_P_X12_isKept_J241 h
  · have h := Eq.mp (if_neg hc) h
    refine E_ic dX12_isKept_8 rfl ?_
    exact E_zret dX12_isKept_9 rfl (by decide) ⟨_, rfl, rfl, h⟩
