abbrev Y_X12_isWord : My := (yX12_isWord, cX12_isWord, 3, some .boolean)
theorem dX12_isWord_0 : decode cX12_isWord 0 = .ok (.aload_n 0, 1) := by decide +kernel
theorem dX12_isWord_1 : decode cX12_isWord 1 = .ok (.getfield 166, 3) := by decide +kernel
theorem dX12_isWord_4 : decode cX12_isWord 4 = .ok (.iconst 1, 1) := by decide +kernel
theorem dX12_isWord_5 : decode cX12_isWord 5 = .ok (.if_icmp .ne 16, 3) := by decide +kernel
theorem dX12_isWord_8 : decode cX12_isWord 8 = .ok (.aload_n 0, 1) := by decide +kernel
theorem dX12_isWord_9 : decode cX12_isWord 9 = .ok (.getfield 159, 3) := by decide +kernel
theorem dX12_isWord_12 : decode cX12_isWord 12 = .ok (.lload_n 1, 1) := by decide +kernel
theorem dX12_isWord_13 : decode cX12_isWord 13 = .ok (.lcmp, 1) := by decide +kernel
theorem dX12_isWord_14 : decode cX12_isWord 14 = .ok (.ifCond .ne 7, 3) := by decide +kernel
theorem dX12_isWord_17 : decode cX12_isWord 17 = .ok (.iconst 1, 1) := by decide +kernel
theorem dX12_isWord_18 : decode cX12_isWord 18 = .ok (.goto 4, 3) := by decide +kernel
theorem dX12_isWord_21 : decode cX12_isWord 21 = .ok (.iconst 0, 1) := by decide +kernel
theorem dX12_isWord_22 : decode cX12_isWord 22 = .ok (.ireturn, 1) := by decide +kernel
def P_X12_isWord_J21   (Q : Int → St → Prop) (σ : St) : Prop :=
  Q 0 σ
set_option maxRecDepth 20000 in
set_option maxHeartbeats 2000000 in
theorem e_P_X12_isWord_J21   {Q : Int → St → Prop} {σ : St}  (h : P_X12_isWord_J21  Q σ) : E Y_X12_isWord 0 0 0 (QI Q) ww 0 0 21 [none, none, none] [] σ := by
  unfold P_X12_isWord_J21 at h
  refine E_ic dX12_isWord_21 rfl ?_
  exact E_zret dX12_isWord_22 rfl (by decide) ⟨_, rfl, rfl, h⟩
def P_X12_isWord (x1 : Int) (σ : St) (Q : Int → St → Prop) : Prop :=
  (if (σ 12 0 6) = 1 then (if (lC (σ 12 0 7) x1) = 0 then Q 1 σ else P_X12_isWord_J21 Q σ) else P_X12_isWord_J21 Q σ)
set_option maxRecDepth 20000 in
set_option maxHeartbeats 2000000 in
theorem s_X12_isWord {x1 : Int} {σ : St} {Q : Int → St → Prop} (h : P_X12_isWord x1 σ Q) : Cn Y_X12_isWord 0 0 0 ww σ [vR 12 0, vL x1] (QI Q) := by
  refine Cn_of [some (vR 12 0), some (vL x1), none] (by decide) (Nat.le_of_ble_eq_true rfl) rfl ?_
  unfold P_X12_isWord at h
  refine E_aload_n dX12_isWord_0 rfl rfl ?_
  refine E_geti (i := 0) dX12_isWord_1 fl_RX12_166 rfl ?_
  refine E_ic dX12_isWord_4 rfl ?_
  refine E_icmp_ne (tgt := 21) dX12_isWord_5 (by decide) (fun hc => ?_) (fun hc => ?_)
  · have h := Eq.mp (if_neg hc) h
    refine E_wk2 [none, none, none] trivial ?_
    exact e_P_X12_isWord_J21 h
  · have h := Eq.mp (if_pos hc) h
    refine E_aload_n dX12_isWord_8 rfl rfl ?_
    refine E_getl (i := 0) dX12_isWord_9 fl_RX12_159 rfl ?_
    refine E_lload_n dX12_isWord_12 rfl rfl ?_
    refine E_lcmp dX12_isWord_13 ?_
    refine E_if_ne (tgt := 21) dX12_isWord_14 (by decide) (fun hc => ?_) (fun hc => ?_)
    · have h := Eq.mp (if_neg hc) h
      refine E_wk2 [none, none, none] trivial ?_
      exact e_P_X12_isWord_J21 h
    · have h := Eq.mp (if_pos hc) h
      refine E_ic dX12_isWord_17 rfl ?_
      refine E_goto (tgt := 22) dX12_isWord_18 (by decide) ?_
      exact E_zret dX12_isWord_22 rfl (by decide) ⟨_, rfl, rfl, h⟩
abbrev Y_X12_isSign : My := (yX12_isSign, cX12_isSign, 2, some .boolean)
theorem dX12_isSign_0 : decode cX12_isSign 0 = .ok (.aload_n 0, 1) := by decide +kernel
theorem dX12_isSign_1 : decode cX12_isSign 1 = .ok (.getfield 166, 3) := by decide +kernel
theorem dX12_isSign_4 : decode cX12_isSign 4 = .ok (.iconst 3, 1) := by decide +kernel
theorem dX12_isSign_5 : decode cX12_isSign 5 = .ok (.if_icmp .ne 20, 3) := by decide +kernel
theorem dX12_isSign_8 : decode cX12_isSign 8 = .ok (.aload_n 0, 1) := by decide +kernel
theorem dX12_isSign_9 : decode cX12_isSign 9 = .ok (.getfield 7, 3) := by decide +kernel
theorem dX12_isSign_12 : decode cX12_isSign 12 = .ok (.aload_n 0, 1) := by decide +kernel
theorem dX12_isSign_13 : decode cX12_isSign 13 = .ok (.getfield 156, 3) := by decide +kernel
theorem dX12_isSign_16 : decode cX12_isSign 16 = .ok (.iaload, 1) := by decide +kernel
theorem dX12_isSign_17 : decode cX12_isSign 17 = .ok (.iload_n 1, 1) := by decide +kernel
theorem dX12_isSign_18 : decode cX12_isSign 18 = .ok (.if_icmp .ne 7, 3) := by decide +kernel
theorem dX12_isSign_21 : decode cX12_isSign 21 = .ok (.iconst 1, 1) := by decide +kernel
theorem dX12_isSign_22 : decode cX12_isSign 22 = .ok (.goto 4, 3) := by decide +kernel
theorem dX12_isSign_25 : decode cX12_isSign 25 = .ok (.iconst 0, 1) := by decide +kernel
theorem dX12_isSign_26 : decode cX12_isSign 26 = .ok (.ireturn, 1) := by decide +kernel
def P_X12_isSign_J25   (Q : Int → St → Prop) (σ : St) : Prop :=
  Q 0 σ
set_option maxRecDepth 20000 in
set_option maxHeartbeats 2000000 in
theorem e_P_X12_isSign_J25   {Q : Int → St → Prop} {σ : St}  (h : P_X12_isSign_J25  Q σ) : E Y_X12_isSign 0 0 0 (QI Q) ww 0 0 25 [none, none] [] σ := by
  unfold P_X12_isSign_J25 at h
  refine E_ic dX12_isSign_25 rfl ?_
  exact E_zret dX12_isSign_26 rfl (by decide) ⟨_, rfl, rfl, h⟩
def P_X12_isSign (x1 : Int) (σ : St) (Q : Int → St → Prop) : Prop :=
  (if (σ 12 0 6) = 3 then 0 ≤ σ 12 0 5 ∧ σ 12 0 5 < 1000 ∧ (if (σ 1302 0 (σ 12 0 5)) = x1 then Q 1 σ else P_X12_isSign_J25 Q σ) else P_X12_isSign_J25 Q σ)
set_option maxRecDepth 20000 in
set_option maxHeartbeats 2000000 in
theorem s_X12_isSign {x1 : Int} {σ : St} {Q : Int → St → Prop} (h : P_X12_isSign x1 σ Q) : Cn Y_X12_isSign 0 0 0 ww σ [vR 12 0, vI x1] (QI Q) := by
  refine Cn_of [some (vR 12 0), some (vI x1)] (by decide) (Nat.le_of_ble_eq_true rfl) rfl ?_
  unfold P_X12_isSign at h
  refine E_aload_n dX12_isSign_0 rfl rfl ?_
  refine E_geti (i := 0) dX12_isSign_1 fl_RX12_166 rfl ?_
  refine E_ic dX12_isSign_4 rfl ?_
  refine E_icmp_ne (tgt := 25) dX12_isSign_5 (by decide) (fun hc => ?_) (fun hc => ?_)
  · have h := Eq.mp (if_neg hc) h
    refine E_wk2 [none, none] trivial ?_
    exact e_P_X12_isSign_J25 h
  · have h := Eq.mp (if_pos hc) h
    refine E_aload_n dX12_isSign_8 rfl rfl ?_
    refine E_getr (i := 0) dX12_isSign_9 fl_RX12_7 rfl rfl (go_12_2 _ _) ?_
    refine E_aload_n dX12_isSign_12 rfl rfl ?_
    refine E_geti (i := 0) dX12_isSign_13 fl_RX12_156 rfl ?_
    obtain ⟨hg0, hg1, h⟩ := h
    refine E_iald dX12_isSign_16 sh_1302 hg0 hg1 ?_
    refine E_iload_n dX12_isSign_17 rfl rfl ?_
    refine E_icmp_ne (tgt := 25) dX12_isSign_18 (by decide) (fun hc => ?_) (fun hc => ?_)
    · have h := Eq.mp (if_neg hc) h
      refine E_wk2 [none, none] trivial ?_
      exact e_P_X12_isSign_J25 h
    · have h := Eq.mp (if_pos hc) h
      refine E_ic dX12_isSign_21 rfl ?_
      refine E_goto (tgt := 26) dX12_isSign_22 (by decide) ?_
      exact E_zret dX12_isSign_26 rfl (by decide) ⟨_, rfl, rfl, h⟩
abbrev Y_X12_fails : My := (yX12_fails, cX12_fails, 2, some .boolean)
theorem dX12_fails_0 : decode cX12_fails 0 = .ok (.aload_n 0, 1) := by decide +kernel
theorem dX12_fails_1 : decode cX12_fails 1 = .ok (.iload_n 1, 1) := by decide +kernel
theorem dX12_fails_2 : decode cX12_fails 2 = .ok (.bipush 16, 2) := by decide +kernel
theorem dX12_fails_4 : decode cX12_fails 4 = .ok (.aload_n 0, 1) := by decide +kernel
theorem dX12_fails_5 : decode cX12_fails 5 = .ok (.getfield 156, 3) := by decide +kernel
theorem dX12_fails_8 : decode cX12_fails 8 = .ok (.imul, 1) := by decide +kernel
theorem dX12_fails_9 : decode cX12_fails 9 = .ok (.iadd, 1) := by decide +kernel
theorem dX12_fails_10 : decode cX12_fails 10 = .ok (.putfield 177, 3) := by decide +kernel
theorem dX12_fails_13 : decode cX12_fails 13 = .ok (.iconst 0, 1) := by decide +kernel
theorem dX12_fails_14 : decode cX12_fails 14 = .ok (.ireturn, 1) := by decide +kernel
theorem fl_RX12_177 : FL RX12 177 12 9 := ⟨inG (i := 1409) (by decide +kernel) (by decide +kernel), by decide, by decide⟩
def P_X12_fails (x1 : Int) (σ : St) (Q : Int → St → Prop) : Prop :=
  Q 0 (up σ 12 0 9 (wi (x1 + (wi (16 * (σ 12 0 5))))))
set_option maxRecDepth 20000 in
set_option maxHeartbeats 2000000 in
theorem s_X12_fails {x1 : Int} {σ : St} {Q : Int → St → Prop} (h : P_X12_fails x1 σ Q) : Cn Y_X12_fails 0 0 0 ww σ [vR 12 0, vI x1] (QI Q) := by
  refine Cn_of [some (vR 12 0), some (vI x1)] (by decide) (Nat.le_of_ble_eq_true rfl) rfl ?_
  unfold P_X12_fails at h
  refine E_aload_n dX12_fails_0 rfl rfl ?_
  refine E_iload_n dX12_fails_1 rfl rfl ?_
  refine E_bp dX12_fails_2 rfl ?_
  refine E_aload_n dX12_fails_4 rfl rfl ?_
  refine E_geti (i := 0) dX12_fails_5 fl_RX12_156 rfl ?_
  refine E_imul dX12_fails_8 ?_
  refine E_iadd dX12_fails_9 ?_
  refine E_puti dX12_fails_10 fl_RX12_177 rfl rfl rfl ?_
  refine E_ic dX12_fails_13 rfl ?_
  exact E_zret dX12_fails_14 rfl (by decide) ⟨_, rfl, rfl, h⟩
abbrev Y_X12_puts : My := (yX12_puts, cX12_puts, 2, none)
theorem dX12_puts_0 : decode cX12_puts 0 = .ok (.aload_n 0, 1) := by decide +kernel
theorem dX12_puts_1 : decode cX12_puts 1 = .ok (.getfield 47, 3) := by decide +kernel
theorem dX12_puts_4 : decode cX12_puts 4 = .ok (.aload_n 0, 1) := by decide +kernel
theorem dX12_puts_5 : decode cX12_puts 5 = .ok (.getfield 180, 3) := by decide +kernel
theorem dX12_puts_8 : decode cX12_puts 8 = .ok (.iload_n 1, 1) := by decide +kernel
theorem dX12_puts_9 : decode cX12_puts 9 = .ok (.iastore, 1) := by decide +kernel
theorem dX12_puts_10 : decode cX12_puts 10 = .ok (.aload_n 0, 1) := by decide +kernel
theorem dX12_puts_11 : decode cX12_puts 11 = .ok (.dup, 1) := by decide +kernel
theorem dX12_puts_12 : decode cX12_puts 12 = .ok (.getfield 180, 3) := by decide +kernel
theorem dX12_puts_15 : decode cX12_puts 15 = .ok (.iconst 1, 1) := by decide +kernel
theorem dX12_puts_16 : decode cX12_puts 16 = .ok (.iadd, 1) := by decide +kernel
theorem dX12_puts_17 : decode cX12_puts 17 = .ok (.putfield 180, 3) := by decide +kernel
theorem dX12_puts_20 : decode cX12_puts 20 = .ok (.return_, 1) := by decide +kernel
theorem fl_RX12_180 : FL RX12 180 12 22 := ⟨inG (i := 1422) (by decide +kernel) (by decide +kernel), by decide, by decide⟩
theorem fl_RX12_47 : FL RX12 47 12 21 := ⟨inG (i := 1421) (by decide +kernel) (by decide +kernel), by decide, by decide⟩
theorem go_12_21 (σ : St) (i : Nat) : go σ 12 i 21 = (1321, i) := rfl
theorem sh_1321 : shp 1321 = (0, 2000) := rfl
def P_X12_puts (x1 : Int) (σ : St) (Q : St → Prop) : Prop :=
  0 ≤ σ 12 0 22 ∧ σ 12 0 22 < 2000 ∧ Q (up (up σ 1321 0 (σ 12 0 22) x1) 12 0 22 (wi (((up σ 1321 0 (σ 12 0 22) x1) 12 0 22) + 1)))
set_option maxRecDepth 20000 in
set_option maxHeartbeats 2000000 in
theorem s_X12_puts {x1 : Int} {σ : St} {Q : St → Prop} (h : P_X12_puts x1 σ Q) : Cn Y_X12_puts 0 0 0 ww σ [vR 12 0, vI x1] (QV Q) := by
  refine Cn_of [some (vR 12 0), some (vI x1)] (by decide) (Nat.le_of_ble_eq_true rfl) rfl ?_
  unfold P_X12_puts at h
  refine E_aload_n dX12_puts_0 rfl rfl ?_
  refine E_getr (i := 0) dX12_puts_1 fl_RX12_47 rfl rfl (go_12_21 _ _) ?_
  refine E_aload_n dX12_puts_4 rfl rfl ?_
  refine E_geti (i := 0) dX12_puts_5 fl_RX12_180 rfl ?_
  refine E_iload_n dX12_puts_8 rfl rfl ?_
  obtain ⟨hg0, hg1, h⟩ := h
  refine E_iast dX12_puts_9 sh_1321 hg0 hg1 ?_
  refine E_aload_n dX12_puts_10 rfl rfl ?_
  refine E_dup dX12_puts_11 (fun _ q => by cases q) ?_
  refine E_geti (i := 0) dX12_puts_12 fl_RX12_180 rfl ?_
  refine E_ic dX12_puts_15 rfl ?_
  refine E_iadd dX12_puts_16 ?_
  refine E_puti dX12_puts_17 fl_RX12_180 rfl rfl rfl ?_
  exact E_vret dX12_puts_20 rfl ⟨rfl, rfl, h⟩
abbrev Y_X12_fact : My := (yX12_fact, cX12_fact, 1, some .int)
theorem dX12_fact_0 : decode cX12_fact 0 = .ok (.aload_n 0, 1) := by decide +kernel
theorem dX12_fact_1 : decode cX12_fact 1 = .ok (.getfield 166, 3) := by decide +kernel
theorem dX12_fact_4 : decode cX12_fact 4 = .ok (.iconst 1, 1) := by decide +kernel
theorem dX12_fact_5 : decode cX12_fact 5 = .ok (.if_icmp .eq 5, 3) := by decide +kernel
theorem dX12_fact_8 : decode cX12_fact 8 = .ok (.iconst 0, 1) := by decide +kernel
theorem dX12_fact_9 : decode cX12_fact 9 = .ok (.ireturn, 1) := by decide +kernel
theorem dX12_fact_10 : decode cX12_fact 10 = .ok (.aload_n 0, 1) := by decide +kernel
theorem dX12_fact_11 : decode cX12_fact 11 = .ok (.getfield 159, 3) := by decide +kernel
theorem dX12_fact_14 : decode cX12_fact 14 = .ok (.ldc2_w 183, 3) := by decide +kernel
theorem dX12_fact_17 : decode cX12_fact 17 = .ok (.lcmp, 1) := by decide +kernel
theorem dX12_fact_18 : decode cX12_fact 18 = .ok (.ifCond .ne 5, 3) := by decide +kernel
theorem dX12_fact_21 : decode cX12_fact 21 = .ok (.iconst 1, 1) := by decide +kernel
theorem dX12_fact_22 : decode cX12_fact 22 = .ok (.ireturn, 1) := by decide +kernel
theorem dX12_fact_23 : decode cX12_fact 23 = .ok (.aload_n 0, 1) := by decide +kernel
theorem dX12_fact_24 : decode cX12_fact 24 = .ok (.getfield 159, 3) := by decide +kernel
theorem dX12_fact_27 : decode cX12_fact 27 = .ok (.ldc2_w 185, 3) := by decide +kernel
theorem dX12_fact_30 : decode cX12_fact 30 = .ok (.lcmp, 1) := by decide +kernel
theorem dX12_fact_31 : decode cX12_fact 31 = .ok (.ifCond .ne 5, 3) := by decide +kernel
theorem dX12_fact_34 : decode cX12_fact 34 = .ok (.iconst 2, 1) := by decide +kernel
theorem dX12_fact_35 : decode cX12_fact 35 = .ok (.ireturn, 1) := by decide +kernel
theorem dX12_fact_36 : decode cX12_fact 36 = .ok (.aload_n 0, 1) := by decide +kernel
theorem dX12_fact_37 : decode cX12_fact 37 = .ok (.getfield 159, 3) := by decide +kernel
theorem dX12_fact_40 : decode cX12_fact 40 = .ok (.ldc2_w 187, 3) := by decide +kernel
theorem dX12_fact_43 : decode cX12_fact 43 = .ok (.lcmp, 1) := by decide +kernel
theorem dX12_fact_44 : decode cX12_fact 44 = .ok (.ifCond .ne 7, 3) := by decide +kernel
theorem dX12_fact_47 : decode cX12_fact 47 = .ok (.iconst 3, 1) := by decide +kernel
theorem dX12_fact_48 : decode cX12_fact 48 = .ok (.goto 19, 3) := by decide +kernel
theorem dX12_fact_51 : decode cX12_fact 51 = .ok (.aload_n 0, 1) := by decide +kernel
theorem dX12_fact_52 : decode cX12_fact 52 = .ok (.getfield 159, 3) := by decide +kernel
theorem dX12_fact_55 : decode cX12_fact 55 = .ok (.ldc2_w 189, 3) := by decide +kernel
theorem dX12_fact_58 : decode cX12_fact 58 = .ok (.lcmp, 1) := by decide +kernel
theorem dX12_fact_59 : decode cX12_fact 59 = .ok (.ifCond .ne 7, 3) := by decide +kernel
theorem dX12_fact_62 : decode cX12_fact 62 = .ok (.iconst 4, 1) := by decide +kernel
theorem dX12_fact_63 : decode cX12_fact 63 = .ok (.goto 4, 3) := by decide +kernel
theorem dX12_fact_66 : decode cX12_fact 66 = .ok (.iconst 0, 1) := by decide +kernel
theorem dX12_fact_67 : decode cX12_fact 67 = .ok (.ireturn, 1) := by decide +kernel
theorem kl_RX12_183 : Cond.constantLong RX12 183 (12403754) ∈ tG := inG (i := 1709) (by decide +kernel) (by decide +kernel)
theorem kl_RX12_185 : Cond.constantLong RX12 185 (370000) ∈ tG := inG (i := 1710) (by decide +kernel) (by decide +kernel)
theorem kl_RX12_187 : Cond.constantLong RX12 187 (16922) ∈ tG := inG (i := 1711) (by decide +kernel) (by decide +kernel)
theorem kl_RX12_189 : Cond.constantLong RX12 189 (80006) ∈ tG := inG (i := 1712) (by decide +kernel) (by decide +kernel)
def P_X12_fact  (σ : St) (Q : Int → St → Prop) : Prop :=
  (if (σ 12 0 6) = 1 then (if (lC (σ 12 0 7) 12403754) = 0 then Q 1 σ else (if (lC (σ 12 0 7) 370000) = 0 then Q 2 σ else (if (lC (σ 12 0 7) 16922) = 0 then Q 3 σ else (if (lC (σ 12 0 7) 80006) = 0 then Q 4 σ else Q 0 σ)))) else Q 0 σ)
set_option maxRecDepth 20000 in
set_option maxHeartbeats 2000000 in
theorem s_X12_fact  {σ : St} {Q : Int → St → Prop} (h : P_X12_fact  σ Q) : Cn Y_X12_fact 0 0 0 ww σ [vR 12 0] (QI Q) := by
  refine Cn_of [some (vR 12 0)] (by decide) (Nat.le_of_ble_eq_true rfl) rfl ?_
  unfold P_X12_fact at h
  refine E_aload_n dX12_fact_0 rfl rfl ?_
  refine E_geti (i := 0) dX12_fact_1 fl_RX12_166 rfl ?_
  refine E_ic dX12_fact_4 rfl ?_
  refine E_icmp_eq (tgt := 10) dX12_fact_5 (by decide) (fun hc => ?_) (fun hc => ?_)
  · have h := Eq.mp (if_pos hc) h
    refine E_aload_n dX12_fact_10 rfl rfl ?_
    refine E_getl (i := 0) dX12_fact_11 fl_RX12_159 rfl ?_
    refine E_ldc2 (z := 12403754) dX12_fact_14 kl_RX12_183 (by decide) ?_
    refine E_lcmp dX12_fact_17 ?_
    refine E_if_ne (tgt := 23) dX12_fact_18 (by decide) (fun hc => ?_) (fun hc => ?_)
    · have h := Eq.mp (if_neg hc) h
      refine E_aload_n dX12_fact_23 rfl rfl ?_
      refine E_getl (i := 0) dX12_fact_24 fl_RX12_159 rfl ?_
      refine E_ldc2 (z := 370000) dX12_fact_27 kl_RX12_185 (by decide) ?_
      refine E_lcmp dX12_fact_30 ?_
      refine E_if_ne (tgt := 36) dX12_fact_31 (by decide) (fun hc => ?_) (fun hc => ?_)
      · have h := Eq.mp (if_neg hc) h
        refine E_aload_n dX12_fact_36 rfl rfl ?_
        refine E_getl (i := 0) dX12_fact_37 fl_RX12_159 rfl ?_
        refine E_ldc2 (z := 16922) dX12_fact_40 kl_RX12_187 (by decide) ?_
        refine E_lcmp dX12_fact_43 ?_
        refine E_if_ne (tgt := 51) dX12_fact_44 (by decide) (fun hc => ?_) (fun hc => ?_)
        · have h := Eq.mp (if_neg hc) h
          refine E_aload_n dX12_fact_51 rfl rfl ?_
          refine E_getl (i := 0) dX12_fact_52 fl_RX12_159 rfl ?_
          refine E_ldc2 (z := 80006) dX12_fact_55 kl_RX12_189 (by decide) ?_
          refine E_lcmp dX12_fact_58 ?_
          refine E_if_ne (tgt := 66) dX12_fact_59 (by decide) (fun hc => ?_) (fun hc => ?_)
          · have h := Eq.mp (if_neg hc) h
            refine E_ic dX12_fact_66 rfl ?_
            exact E_iret dX12_fact_67 rfl ⟨_, rfl, rfl, h⟩
          · have h := Eq.mp (if_pos hc) h
            refine E_ic dX12_fact_62 rfl ?_
            refine E_goto (tgt := 67) dX12_fact_63 (by decide) ?_
            exact E_iret dX12_fact_67 rfl ⟨_, rfl, rfl, h⟩
        · have h := Eq.mp (if_pos hc) h
          refine E_ic dX12_fact_47 rfl ?_
          refine E_goto (tgt := 67) dX12_fact_48 (by decide) ?_
          exact E_iret dX12_fact_67 rfl ⟨_, rfl, rfl, h⟩
      · have h := Eq.mp (if_pos hc) h
        refine E_ic dX12_fact_34 rfl ?_
        exact E_iret dX12_fact_35 rfl ⟨_, rfl, rfl, h⟩
    · have h := Eq.mp (if_pos hc) h
      refine E_ic dX12_fact_21 rfl ?_
      exact E_iret dX12_fact_22 rfl ⟨_, rfl, rfl, h⟩
  · have h := Eq.mp (if_neg hc) h
    refine E_ic dX12_fact_8 rfl ?_
    exact E_iret dX12_fact_9 rfl ⟨_, rfl, rfl, h⟩
abbrev Y_X12_reads : My := (yX12_reads, cX12_reads, 6, some .boolean)
theorem dX12_reads_0 : decode cX12_reads 0 = .ok (.iconst 0, 1) := by decide +kernel
theorem dX12_reads_1 : decode cX12_reads 1 = .ok (.istore_n 1, 1) := by decide +kernel
theorem dX12_reads_2 : decode cX12_reads 2 = .ok (.iconst 1, 1) := by decide +kernel
theorem dX12_reads_3 : decode cX12_reads 3 = .ok (.istore_n 2, 1) := by decide +kernel
theorem dX12_reads_4 : decode cX12_reads 4 = .ok (.aload_n 0, 1) := by decide +kernel
theorem dX12_reads_5 : decode cX12_reads 5 = .ok (.getfield 53, 3) := by decide +kernel
theorem dX12_reads_8 : decode cX12_reads 8 = .ok (.iconst 0, 1) := by decide +kernel
theorem dX12_reads_9 : decode cX12_reads 9 = .ok (.iconst 0, 1) := by decide +kernel
theorem dX12_reads_10 : decode cX12_reads 10 = .ok (.bastore, 1) := by decide +kernel
theorem dX12_reads_11 : decode cX12_reads 11 = .ok (.iload_n 2, 1) := by decide +kernel
theorem dX12_reads_12 : decode cX12_reads 12 = .ok (.ifCond .eq 167, 3) := by decide +kernel
theorem dX12_reads_15 : decode cX12_reads 15 = .ok (.aload_n 0, 1) := by decide +kernel
theorem dX12_reads_16 : decode cX12_reads 16 = .ok (.invokevirtual 191, 3) := by decide +kernel
theorem dX12_reads_19 : decode cX12_reads 19 = .ok (.istore_n 3, 1) := by decide +kernel
theorem dX12_reads_20 : decode cX12_reads 20 = .ok (.aload_n 0, 1) := by decide +kernel
theorem dX12_reads_21 : decode cX12_reads 21 = .ok (.ldc2_w 195, 3) := by decide +kernel
theorem dX12_reads_24 : decode cX12_reads 24 = .ok (.invokevirtual 197, 3) := by decide +kernel
theorem dX12_reads_27 : decode cX12_reads 27 = .ok (.istore 4, 2) := by decide +kernel
theorem dX12_reads_29 : decode cX12_reads 29 = .ok (.aload_n 0, 1) := by decide +kernel
theorem dX12_reads_30 : decode cX12_reads 30 = .ok (.bipush 40, 2) := by decide +kernel
theorem dX12_reads_32 : decode cX12_reads 32 = .ok (.invokevirtual 201, 3) := by decide +kernel
theorem dX12_reads_35 : decode cX12_reads 35 = .ok (.istore 5, 2) := by decide +kernel
theorem dX12_reads_37 : decode cX12_reads 37 = .ok (.iload_n 3, 1) := by decide +kernel
theorem dX12_reads_38 : decode cX12_reads 38 = .ok (.ifCond .ne 27, 3) := by decide +kernel
theorem dX12_reads_41 : decode cX12_reads 41 = .ok (.iload 4, 2) := by decide +kernel
theorem dX12_reads_43 : decode cX12_reads 43 = .ok (.ifCond .ne 22, 3) := by decide +kernel
theorem dX12_reads_46 : decode cX12_reads 46 = .ok (.iload 5, 2) := by decide +kernel
theorem dX12_reads_48 : decode cX12_reads 48 = .ok (.ifCond .ne 17, 3) := by decide +kernel
theorem dX12_reads_51 : decode cX12_reads 51 = .ok (.aload_n 0, 1) := by decide +kernel
theorem dX12_reads_52 : decode cX12_reads 52 = .ok (.getfield 166, 3) := by decide +kernel
theorem dX12_reads_55 : decode cX12_reads 55 = .ok (.iconst 2, 1) := by decide +kernel
theorem dX12_reads_56 : decode cX12_reads 56 = .ok (.if_icmp .eq 9, 3) := by decide +kernel
theorem dX12_reads_59 : decode cX12_reads 59 = .ok (.aload_n 0, 1) := by decide +kernel
theorem dX12_reads_60 : decode cX12_reads 60 = .ok (.iconst 1, 1) := by decide +kernel
theorem dX12_reads_61 : decode cX12_reads 61 = .ok (.invokevirtual 205, 3) := by decide +kernel
theorem dX12_reads_64 : decode cX12_reads 64 = .ok (.ireturn, 1) := by decide +kernel
theorem dX12_reads_65 : decode cX12_reads 65 = .ok (.iload_n 1, 1) := by decide +kernel
theorem dX12_reads_66 : decode cX12_reads 66 = .ok (.iconst 5, 1) := by decide +kernel
theorem dX12_reads_67 : decode cX12_reads 67 = .ok (.if_icmp .ne 9, 3) := by decide +kernel
theorem dX12_reads_70 : decode cX12_reads 70 = .ok (.aload_n 0, 1) := by decide +kernel
theorem dX12_reads_71 : decode cX12_reads 71 = .ok (.iconst 5, 1) := by decide +kernel
theorem dX12_reads_72 : decode cX12_reads 72 = .ok (.invokevirtual 205, 3) := by decide +kernel
theorem dX12_reads_75 : decode cX12_reads 75 = .ok (.ireturn, 1) := by decide +kernel
theorem dX12_reads_76 : decode cX12_reads 76 = .ok (.iload 4, 2) := by decide +kernel
theorem dX12_reads_78 : decode cX12_reads 78 = .ok (.ifCond .ne 8, 3) := by decide +kernel
theorem dX12_reads_81 : decode cX12_reads 81 = .ok (.iload 5, 2) := by decide +kernel
theorem dX12_reads_83 : decode cX12_reads 83 = .ok (.ifCond .eq 48, 3) := by decide +kernel
theorem dX12_reads_86 : decode cX12_reads 86 = .ok (.aload_n 0, 1) := by decide +kernel
theorem dX12_reads_87 : decode cX12_reads 87 = .ok (.iload 4, 2) := by decide +kernel
theorem dX12_reads_89 : decode cX12_reads 89 = .ok (.ifCond .eq 8, 3) := by decide +kernel
theorem dX12_reads_92 : decode cX12_reads 92 = .ok (.bipush 30, 2) := by decide +kernel
theorem dX12_reads_94 : decode cX12_reads 94 = .ok (.goto 5, 3) := by decide +kernel
theorem dX12_reads_97 : decode cX12_reads 97 = .ok (.bipush 28, 2) := by decide +kernel
theorem dX12_reads_99 : decode cX12_reads 99 = .ok (.invokevirtual 208, 3) := by decide +kernel
theorem dX12_reads_102 : decode cX12_reads 102 = .ok (.iinc 1 1, 3) := by decide +kernel
theorem dX12_reads_105 : decode cX12_reads 105 = .ok (.aload_n 0, 1) := by decide +kernel
theorem dX12_reads_106 : decode cX12_reads 106 = .ok (.getfield 50, 3) := by decide +kernel
theorem dX12_reads_109 : decode cX12_reads 109 = .ok (.iload_n 1, 1) := by decide +kernel
theorem dX12_reads_110 : decode cX12_reads 110 = .ok (.iload 4, 2) := by decide +kernel
theorem dX12_reads_112 : decode cX12_reads 112 = .ok (.ifCond .eq 7, 3) := by decide +kernel
theorem dX12_reads_115 : decode cX12_reads 115 = .ok (.iconst 1, 1) := by decide +kernel
theorem dX12_reads_116 : decode cX12_reads 116 = .ok (.goto 4, 3) := by decide +kernel
theorem dX12_reads_119 : decode cX12_reads 119 = .ok (.iconst 2, 1) := by decide +kernel
theorem dX12_reads_120 : decode cX12_reads 120 = .ok (.iastore, 1) := by decide +kernel
theorem dX12_reads_121 : decode cX12_reads 121 = .ok (.aload_n 0, 1) := by decide +kernel
theorem dX12_reads_122 : decode cX12_reads 122 = .ok (.getfield 53, 3) := by decide +kernel
theorem dX12_reads_125 : decode cX12_reads 125 = .ok (.iload_n 1, 1) := by decide +kernel
theorem dX12_reads_126 : decode cX12_reads 126 = .ok (.iconst 0, 1) := by decide +kernel
theorem dX12_reads_127 : decode cX12_reads 127 = .ok (.bastore, 1) := by decide +kernel
theorem dX12_reads_128 : decode cX12_reads 128 = .ok (.goto 44, 3) := by decide +kernel
theorem dX12_reads_131 : decode cX12_reads 131 = .ok (.aload_n 0, 1) := by decide +kernel
theorem dX12_reads_132 : decode cX12_reads 132 = .ok (.iload_n 3, 1) := by decide +kernel
theorem dX12_reads_133 : decode cX12_reads 133 = .ok (.ifCond .le 7, 3) := by decide +kernel
theorem dX12_reads_136 : decode cX12_reads 136 = .ok (.iload_n 3, 1) := by decide +kernel
theorem dX12_reads_137 : decode cX12_reads 137 = .ok (.goto 10, 3) := by decide +kernel
theorem dX12_reads_140 : decode cX12_reads 140 = .ok (.bipush 100, 2) := by decide +kernel
theorem dX12_reads_142 : decode cX12_reads 142 = .ok (.aload_n 0, 1) := by decide +kernel
theorem dX12_reads_143 : decode cX12_reads 143 = .ok (.getfield 163, 3) := by decide +kernel
theorem dX12_reads_146 : decode cX12_reads 146 = .ok (.iadd, 1) := by decide +kernel
theorem dX12_reads_147 : decode cX12_reads 147 = .ok (.invokevirtual 208, 3) := by decide +kernel
theorem dX12_reads_150 : decode cX12_reads 150 = .ok (.iconst 0, 1) := by decide +kernel
theorem dX12_reads_151 : decode cX12_reads 151 = .ok (.istore_n 2, 1) := by decide +kernel
theorem dX12_reads_152 : decode cX12_reads 152 = .ok (.iload_n 1, 1) := by decide +kernel
theorem dX12_reads_153 : decode cX12_reads 153 = .ok (.ifCond .le 19, 3) := by decide +kernel
theorem dX12_reads_156 : decode cX12_reads 156 = .ok (.aload_n 0, 1) := by decide +kernel
theorem dX12_reads_157 : decode cX12_reads 157 = .ok (.getfield 50, 3) := by decide +kernel
theorem dX12_reads_160 : decode cX12_reads 160 = .ok (.iload_n 1, 1) := by decide +kernel
theorem dX12_reads_161 : decode cX12_reads 161 = .ok (.iaload, 1) := by decide +kernel
theorem dX12_reads_162 : decode cX12_reads 162 = .ok (.iconst 1, 1) := by decide +kernel
theorem dX12_reads_163 : decode cX12_reads 163 = .ok (.if_icmp .ne 9, 3) := by decide +kernel
theorem dX12_reads_166 : decode cX12_reads 166 = .ok (.iinc 1 (-1), 3) := by decide +kernel
theorem dX12_reads_169 : decode cX12_reads 169 = .ok (.goto (-17), 3) := by decide +kernel
theorem dX12_reads_172 : decode cX12_reads 172 = .ok (.aload_n 0, 1) := by decide +kernel
theorem dX12_reads_173 : decode cX12_reads 173 = .ok (.invokevirtual 212, 3) := by decide +kernel
theorem dX12_reads_176 : decode cX12_reads 176 = .ok (.goto (-165), 3) := by decide +kernel
theorem dX12_reads_179 : decode cX12_reads 179 = .ok (.aload_n 0, 1) := by decide +kernel
theorem dX12_reads_180 : decode cX12_reads 180 = .ok (.bipush 43, 2) := by decide +kernel
theorem dX12_reads_182 : decode cX12_reads 182 = .ok (.invokevirtual 201, 3) := by decide +kernel
theorem dX12_reads_185 : decode cX12_reads 185 = .ok (.ifCond .ne 21, 3) := by decide +kernel
theorem dX12_reads_188 : decode cX12_reads 188 = .ok (.aload_n 0, 1) := by decide +kernel
theorem dX12_reads_189 : decode cX12_reads 189 = .ok (.bipush 45, 2) := by decide +kernel
theorem dX12_reads_191 : decode cX12_reads 191 = .ok (.invokevirtual 201, 3) := by decide +kernel
theorem dX12_reads_194 : decode cX12_reads 194 = .ok (.ifCond .ne 12, 3) := by decide +kernel
theorem dX12_reads_197 : decode cX12_reads 197 = .ok (.aload_n 0, 1) := by decide +kernel
theorem dX12_reads_198 : decode cX12_reads 198 = .ok (.bipush 42, 2) := by decide +kernel
theorem dX12_reads_200 : decode cX12_reads 200 = .ok (.invokevirtual 201, 3) := by decide +kernel
theorem dX12_reads_203 : decode cX12_reads 203 = .ok (.ifCond .eq 42, 3) := by decide +kernel
theorem dX12_reads_206 : decode cX12_reads 206 = .ok (.aload_n 0, 1) := by decide +kernel
theorem dX12_reads_207 : decode cX12_reads 207 = .ok (.aload_n 0, 1) := by decide +kernel
theorem dX12_reads_208 : decode cX12_reads 208 = .ok (.bipush 43, 2) := by decide +kernel
theorem dX12_reads_210 : decode cX12_reads 210 = .ok (.invokevirtual 201, 3) := by decide +kernel
theorem dX12_reads_213 : decode cX12_reads 213 = .ok (.ifCond .eq 8, 3) := by decide +kernel
theorem dX12_reads_216 : decode cX12_reads 216 = .ok (.bipush 20, 2) := by decide +kernel
theorem dX12_reads_218 : decode cX12_reads 218 = .ok (.goto 19, 3) := by decide +kernel
theorem dX12_reads_221 : decode cX12_reads 221 = .ok (.aload_n 0, 1) := by decide +kernel
theorem dX12_reads_222 : decode cX12_reads 222 = .ok (.bipush 45, 2) := by decide +kernel
theorem dX12_reads_224 : decode cX12_reads 224 = .ok (.invokevirtual 201, 3) := by decide +kernel
theorem dX12_reads_227 : decode cX12_reads 227 = .ok (.ifCond .eq 8, 3) := by decide +kernel
theorem dX12_reads_230 : decode cX12_reads 230 = .ok (.bipush 21, 2) := by decide +kernel
theorem dX12_reads_232 : decode cX12_reads 232 = .ok (.goto 5, 3) := by decide +kernel
theorem dX12_reads_235 : decode cX12_reads 235 = .ok (.bipush 22, 2) := by decide +kernel
theorem dX12_reads_237 : decode cX12_reads 237 = .ok (.invokevirtual 208, 3) := by decide +kernel
theorem dX12_reads_240 : decode cX12_reads 240 = .ok (.iconst 1, 1) := by decide +kernel
theorem dX12_reads_241 : decode cX12_reads 241 = .ok (.istore_n 2, 1) := by decide +kernel
theorem dX12_reads_242 : decode cX12_reads 242 = .ok (.goto 182, 3) := by decide +kernel
theorem dX12_reads_245 : decode cX12_reads 245 = .ok (.aload_n 0, 1) := by decide +kernel
theorem dX12_reads_246 : decode cX12_reads 246 = .ok (.bipush 60, 2) := by decide +kernel
theorem dX12_reads_248 : decode cX12_reads 248 = .ok (.invokevirtual 201, 3) := by decide +kernel
theorem dX12_reads_251 : decode cX12_reads 251 = .ok (.ifCond .ne 12, 3) := by decide +kernel
theorem dX12_reads_254 : decode cX12_reads 254 = .ok (.aload_n 0, 1) := by decide +kernel
theorem dX12_reads_255 : decode cX12_reads 255 = .ok (.bipush 61, 2) := by decide +kernel
theorem dX12_reads_257 : decode cX12_reads 257 = .ok (.invokevirtual 201, 3) := by decide +kernel
theorem dX12_reads_260 : decode cX12_reads 260 = .ok (.ifCond .eq 44, 3) := by decide +kernel
theorem dX12_reads_263 : decode cX12_reads 263 = .ok (.aload_n 0, 1) := by decide +kernel
theorem dX12_reads_264 : decode cX12_reads 264 = .ok (.getfield 53, 3) := by decide +kernel
theorem dX12_reads_267 : decode cX12_reads 267 = .ok (.iload_n 1, 1) := by decide +kernel
theorem dX12_reads_268 : decode cX12_reads 268 = .ok (.baload, 1) := by decide +kernel
theorem dX12_reads_269 : decode cX12_reads 269 = .ok (.ifCond .ne 35, 3) := by decide +kernel
theorem dX12_reads_272 : decode cX12_reads 272 = .ok (.aload_n 0, 1) := by decide +kernel
theorem dX12_reads_273 : decode cX12_reads 273 = .ok (.aload_n 0, 1) := by decide +kernel
theorem dX12_reads_274 : decode cX12_reads 274 = .ok (.bipush 60, 2) := by decide +kernel
theorem dX12_reads_276 : decode cX12_reads 276 = .ok (.invokevirtual 201, 3) := by decide +kernel
theorem dX12_reads_279 : decode cX12_reads 279 = .ok (.ifCond .eq 8, 3) := by decide +kernel
theorem dX12_reads_282 : decode cX12_reads 282 = .ok (.bipush 24, 2) := by decide +kernel
theorem dX12_reads_284 : decode cX12_reads 284 = .ok (.goto 5, 3) := by decide +kernel
theorem dX12_reads_287 : decode cX12_reads 287 = .ok (.bipush 25, 2) := by decide +kernel
theorem dX12_reads_289 : decode cX12_reads 289 = .ok (.invokevirtual 208, 3) := by decide +kernel
theorem dX12_reads_292 : decode cX12_reads 292 = .ok (.aload_n 0, 1) := by decide +kernel
theorem dX12_reads_293 : decode cX12_reads 293 = .ok (.getfield 53, 3) := by decide +kernel
theorem dX12_reads_296 : decode cX12_reads 296 = .ok (.iload_n 1, 1) := by decide +kernel
theorem dX12_reads_297 : decode cX12_reads 297 = .ok (.iconst 1, 1) := by decide +kernel
theorem dX12_reads_298 : decode cX12_reads 298 = .ok (.bastore, 1) := by decide +kernel
theorem dX12_reads_299 : decode cX12_reads 299 = .ok (.iconst 1, 1) := by decide +kernel
theorem dX12_reads_300 : decode cX12_reads 300 = .ok (.istore_n 2, 1) := by decide +kernel
theorem dX12_reads_301 : decode cX12_reads 301 = .ok (.goto 123, 3) := by decide +kernel
theorem dX12_reads_304 : decode cX12_reads 304 = .ok (.aload_n 0, 1) := by decide +kernel
theorem dX12_reads_305 : decode cX12_reads 305 = .ok (.ldc2_w 215, 3) := by decide +kernel
theorem dX12_reads_308 : decode cX12_reads 308 = .ok (.invokevirtual 197, 3) := by decide +kernel
theorem dX12_reads_311 : decode cX12_reads 311 = .ok (.ifCond .ne 13, 3) := by decide +kernel
theorem dX12_reads_314 : decode cX12_reads 314 = .ok (.aload_n 0, 1) := by decide +kernel
theorem dX12_reads_315 : decode cX12_reads 315 = .ok (.ldc2_w 217, 3) := by decide +kernel
theorem dX12_reads_318 : decode cX12_reads 318 = .ok (.invokevirtual 197, 3) := by decide +kernel
theorem dX12_reads_321 : decode cX12_reads 321 = .ok (.ifCond .eq 36, 3) := by decide +kernel
theorem dX12_reads_324 : decode cX12_reads 324 = .ok (.aload_n 0, 1) := by decide +kernel
theorem dX12_reads_325 : decode cX12_reads 325 = .ok (.aload_n 0, 1) := by decide +kernel
theorem dX12_reads_326 : decode cX12_reads 326 = .ok (.ldc2_w 215, 3) := by decide +kernel
theorem dX12_reads_329 : decode cX12_reads 329 = .ok (.invokevirtual 197, 3) := by decide +kernel
theorem dX12_reads_332 : decode cX12_reads 332 = .ok (.ifCond .eq 8, 3) := by decide +kernel
theorem dX12_reads_335 : decode cX12_reads 335 = .ok (.bipush 26, 2) := by decide +kernel
theorem dX12_reads_337 : decode cX12_reads 337 = .ok (.goto 5, 3) := by decide +kernel
theorem dX12_reads_340 : decode cX12_reads 340 = .ok (.bipush 27, 2) := by decide +kernel
theorem dX12_reads_342 : decode cX12_reads 342 = .ok (.invokevirtual 208, 3) := by decide +kernel
theorem dX12_reads_345 : decode cX12_reads 345 = .ok (.aload_n 0, 1) := by decide +kernel
theorem dX12_reads_346 : decode cX12_reads 346 = .ok (.getfield 53, 3) := by decide +kernel
theorem dX12_reads_349 : decode cX12_reads 349 = .ok (.iload_n 1, 1) := by decide +kernel
theorem dX12_reads_350 : decode cX12_reads 350 = .ok (.iconst 0, 1) := by decide +kernel
theorem dX12_reads_351 : decode cX12_reads 351 = .ok (.bastore, 1) := by decide +kernel
theorem dX12_reads_352 : decode cX12_reads 352 = .ok (.iconst 1, 1) := by decide +kernel
theorem dX12_reads_353 : decode cX12_reads 353 = .ok (.istore_n 2, 1) := by decide +kernel
theorem dX12_reads_354 : decode cX12_reads 354 = .ok (.goto 70, 3) := by decide +kernel
theorem dX12_reads_357 : decode cX12_reads 357 = .ok (.aload_n 0, 1) := by decide +kernel
theorem dX12_reads_358 : decode cX12_reads 358 = .ok (.bipush 41, 2) := by decide +kernel
theorem dX12_reads_360 : decode cX12_reads 360 = .ok (.invokevirtual 201, 3) := by decide +kernel
theorem dX12_reads_363 : decode cX12_reads 363 = .ok (.ifCond .eq 36, 3) := by decide +kernel
theorem dX12_reads_366 : decode cX12_reads 366 = .ok (.iload_n 1, 1) := by decide +kernel
theorem dX12_reads_367 : decode cX12_reads 367 = .ok (.ifCond .le 32, 3) := by decide +kernel
theorem dX12_reads_370 : decode cX12_reads 370 = .ok (.aload_n 0, 1) := by decide +kernel
theorem dX12_reads_371 : decode cX12_reads 371 = .ok (.bipush 29, 2) := by decide +kernel
theorem dX12_reads_373 : decode cX12_reads 373 = .ok (.invokevirtual 208, 3) := by decide +kernel
theorem dX12_reads_376 : decode cX12_reads 376 = .ok (.iinc 1 (-1), 3) := by decide +kernel
theorem dX12_reads_379 : decode cX12_reads 379 = .ok (.iload_n 1, 1) := by decide +kernel
theorem dX12_reads_380 : decode cX12_reads 380 = .ok (.ifCond .le 44, 3) := by decide +kernel
theorem dX12_reads_383 : decode cX12_reads 383 = .ok (.aload_n 0, 1) := by decide +kernel
theorem dX12_reads_384 : decode cX12_reads 384 = .ok (.getfield 50, 3) := by decide +kernel
theorem dX12_reads_387 : decode cX12_reads 387 = .ok (.iload_n 1, 1) := by decide +kernel
theorem dX12_reads_388 : decode cX12_reads 388 = .ok (.iaload, 1) := by decide +kernel
theorem dX12_reads_389 : decode cX12_reads 389 = .ok (.iconst 1, 1) := by decide +kernel
theorem dX12_reads_390 : decode cX12_reads 390 = .ok (.if_icmp .ne 34, 3) := by decide +kernel
theorem dX12_reads_393 : decode cX12_reads 393 = .ok (.iinc 1 (-1), 3) := by decide +kernel
theorem dX12_reads_396 : decode cX12_reads 396 = .ok (.goto (-17), 3) := by decide +kernel
theorem dX12_reads_399 : decode cX12_reads 399 = .ok (.iload_n 1, 1) := by decide +kernel
theorem dX12_reads_400 : decode cX12_reads 400 = .ok (.ifCond .ne 18, 3) := by decide +kernel
theorem dX12_reads_403 : decode cX12_reads 403 = .ok (.aload_n 0, 1) := by decide +kernel
theorem dX12_reads_404 : decode cX12_reads 404 = .ok (.bipush 59, 2) := by decide +kernel
theorem dX12_reads_406 : decode cX12_reads 406 = .ok (.invokevirtual 201, 3) := by decide +kernel
theorem dX12_reads_409 : decode cX12_reads 409 = .ok (.ifCond .eq 9, 3) := by decide +kernel
theorem dX12_reads_412 : decode cX12_reads 412 = .ok (.aload_n 0, 1) := by decide +kernel
theorem dX12_reads_413 : decode cX12_reads 413 = .ok (.invokevirtual 212, 3) := by decide +kernel
theorem dX12_reads_416 : decode cX12_reads 416 = .ok (.iconst 1, 1) := by decide +kernel
theorem dX12_reads_417 : decode cX12_reads 417 = .ok (.ireturn, 1) := by decide +kernel
theorem dX12_reads_418 : decode cX12_reads 418 = .ok (.aload_n 0, 1) := by decide +kernel
theorem dX12_reads_419 : decode cX12_reads 419 = .ok (.iconst 1, 1) := by decide +kernel
theorem dX12_reads_420 : decode cX12_reads 420 = .ok (.invokevirtual 205, 3) := by decide +kernel
theorem dX12_reads_423 : decode cX12_reads 423 = .ok (.ireturn, 1) := by decide +kernel
theorem dX12_reads_424 : decode cX12_reads 424 = .ok (.aload_n 0, 1) := by decide +kernel
theorem dX12_reads_425 : decode cX12_reads 425 = .ok (.invokevirtual 212, 3) := by decide +kernel
theorem dX12_reads_428 : decode cX12_reads 428 = .ok (.goto (-417), 3) := by decide +kernel
theorem fl_RX12_50 : FL RX12 50 12 24 := ⟨inG (i := 1424) (by decide +kernel) (by decide +kernel), by decide, by decide⟩
theorem fl_RX12_53 : FL RX12 53 12 25 := ⟨inG (i := 1425) (by decide +kernel) (by decide +kernel), by decide, by decide⟩
theorem go_12_24 (σ : St) (i : Nat) : go σ 12 i 24 = (1324, i) := rfl
theorem go_12_25 (σ : St) (i : Nat) : go σ 12 i 25 = (1325, i) := rfl
theorem kl_RX12_195 : Cond.constantLong RX12 195 (10631) ∈ tG := inG (i := 1647) (by decide +kernel) (by decide +kernel)
theorem kl_RX12_215 : Cond.constantLong RX12 215 (1111) ∈ tG := inG (i := 1648) (by decide +kernel) (by decide +kernel)
theorem kl_RX12_217 : Cond.constantLong RX12 217 (423) ∈ tG := inG (i := 1649) (by decide +kernel) (by decide +kernel)
theorem lk_RX12_191 : Cond.methodLink RX12 191 yX12_fact ∈ tG := inG (i := 1705) (by decide +kernel) (by decide +kernel)
theorem lk_RX12_197 : Cond.methodLink RX12 197 yX12_isWord ∈ tG := inG (i := 1610) (by decide +kernel) (by decide +kernel)
theorem lk_RX12_201 : Cond.methodLink RX12 201 yX12_isSign ∈ tG := inG (i := 1677) (by decide +kernel) (by decide +kernel)
theorem lk_RX12_205 : Cond.methodLink RX12 205 yX12_fails ∈ tG := inG (i := 1618) (by decide +kernel) (by decide +kernel)
theorem lk_RX12_208 : Cond.methodLink RX12 208 yX12_puts ∈ tG := inG (i := 1713) (by decide +kernel) (by decide +kernel)
theorem lk_RX12_212 : Cond.methodLink RX12 212 yX12_nextToken ∈ tG := inG (i := 1599) (by decide +kernel) (by decide +kernel)
theorem m_X12_fact : MV Y_X12_fact 0 12 := ⟨⟨inG (i := 1708) (by decide +kernel) (by decide +kernel), inG (i := 110) (by decide +kernel) (by decide +kernel), by decide, by decide, by decide, by decide +kernel⟩, inG (i := 1707) (by decide +kernel) (by decide +kernel), inG (i := 54) (by decide +kernel) (by decide +kernel), by decide⟩
theorem m_X12_fails : MV Y_X12_fails 1 12 := ⟨⟨inG (i := 1621) (by decide +kernel) (by decide +kernel), inG (i := 110) (by decide +kernel) (by decide +kernel), by decide, by decide, by decide, by decide +kernel⟩, inG (i := 1620) (by decide +kernel) (by decide +kernel), inG (i := 38) (by decide +kernel) (by decide +kernel), by decide⟩
theorem m_X12_isSign : MV Y_X12_isSign 1 12 := ⟨⟨inG (i := 1680) (by decide +kernel) (by decide +kernel), inG (i := 110) (by decide +kernel) (by decide +kernel), by decide, by decide, by decide, by decide +kernel⟩, inG (i := 1679) (by decide +kernel) (by decide +kernel), inG (i := 47) (by decide +kernel) (by decide +kernel), by decide⟩
theorem m_X12_isWord : MV Y_X12_isWord 1 12 := ⟨⟨inG (i := 1613) (by decide +kernel) (by decide +kernel), inG (i := 110) (by decide +kernel) (by decide +kernel), by decide, by decide, by decide, by decide +kernel⟩, inG (i := 1612) (by decide +kernel) (by decide +kernel), inG (i := 36) (by decide +kernel) (by decide +kernel), by decide⟩
theorem m_X12_nextToken : MV Y_X12_nextToken 0 12 := ⟨⟨inG (i := 1602) (by decide +kernel) (by decide +kernel), inG (i := 110) (by decide +kernel) (by decide +kernel), by decide, by decide, by decide, by decide +kernel⟩, inG (i := 1601) (by decide +kernel) (by decide +kernel), inG (i := 34) (by decide +kernel) (by decide +kernel), by decide⟩
theorem m_X12_puts : MV Y_X12_puts 1 12 := ⟨⟨inG (i := 1716) (by decide +kernel) (by decide +kernel), inG (i := 110) (by decide +kernel) (by decide +kernel), by decide, by decide, by decide, by decide +kernel⟩, inG (i := 1715) (by decide +kernel) (by decide +kernel), inG (i := 55) (by decide +kernel) (by decide +kernel), by decide⟩
theorem sh_1324 : shp 1324 = (0, 7) := rfl
theorem sh_1325 : shp 1325 = (2, 7) := rfl
def P_X12_reads_J424 (x1 : Int) (x2 : Int) (R : Int → Int → St → Prop) (K0 : St → Prop) (K1 : St → Prop) (K2 : Int → St → Prop) (Q : Int → St → Prop) (σ : St) : Prop :=
  P_X12_nextToken σ (fun σ_8 => R x1 x2 σ_8)
set_option maxRecDepth 20000 in
set_option maxHeartbeats 2000000 in
theorem e_P_X12_reads_J424 {x1 : Int} {x2 : Int} {R : Int → Int → St → Prop} {K0 : St → Prop} {K1 : St → Prop} {K2 : Int → St → Prop} {Q : Int → St → Prop} {σ : St} (hR : ∀ x1 x2 σ, R x1 x2 σ → E Y_X12_reads 2 0 0 (QI Q) ww 0 0 11 [some (vR 12 0), some (vI x1), some (vI x2), none, none, none] [] σ) (hK0 : ∀ σ, K0 σ → E Y_X12_reads 2 0 0 (QI Q) ww 0 0 59 [some (vR 12 0), none, none, none, none, none] [] σ) (hK1 : ∀ σ, K1 σ → E Y_X12_reads 2 0 0 (QI Q) ww 0 0 70 [some (vR 12 0), none, none, none, none, none] [] σ) (hK2 : ∀ x1 σ, K2 x1 σ → E Y_X12_reads 2 0 0 (QI Q) ww 0 0 399 [some (vR 12 0), some (vI x1), none, none, none, none] [] σ) (h : P_X12_reads_J424 x1 x2 R K0 K1 K2 Q σ) : E Y_X12_reads 2 0 0 (QI Q) ww 0 0 424 [some (vR 12 0), some (vI x1), some (vI x2), none, none, none] [] σ := by
  unfold P_X12_reads_J424 at h
  refine E_aload_n dX12_reads_424 rfl rfl ?_
  refine E_callV (Y' := Y_X12_nextToken) (as := []) (st := []) dX12_reads_425 lk_RX12_212 m_X12_nextToken (by decide) (Nat.le_refl _) (Nat.le_refl _) rfl rfl (Nat.le_of_ble_eq_true rfl) (s_X12_nextToken h) (fun r0 B0 σ_8 h => ?_)
  obtain ⟨rfl, rfl, h⟩ := h
  refine E_goto (tgt := 11) dX12_reads_428 (by decide) ?_
  exact hR _ _ _ h
def P_X12_reads_J237 (x1 : Int) (y0 : Int) (R : Int → Int → St → Prop) (K0 : St → Prop) (K1 : St → Prop) (K2 : Int → St → Prop) (Q : Int → St → Prop) (σ : St) : Prop :=
  P_X12_puts y0 σ (fun σ_7 => P_X12_reads_J424 x1 1 R K0 K1 K2 Q σ_7)
set_option maxRecDepth 20000 in
set_option maxHeartbeats 2000000 in
theorem e_P_X12_reads_J237 {x1 : Int} {y0 : Int} {R : Int → Int → St → Prop} {K0 : St → Prop} {K1 : St → Prop} {K2 : Int → St → Prop} {Q : Int → St → Prop} {σ : St} (hR : ∀ x1 x2 σ, R x1 x2 σ → E Y_X12_reads 2 0 0 (QI Q) ww 0 0 11 [some (vR 12 0), some (vI x1), some (vI x2), none, none, none] [] σ) (hK0 : ∀ σ, K0 σ → E Y_X12_reads 2 0 0 (QI Q) ww 0 0 59 [some (vR 12 0), none, none, none, none, none] [] σ) (hK1 : ∀ σ, K1 σ → E Y_X12_reads 2 0 0 (QI Q) ww 0 0 70 [some (vR 12 0), none, none, none, none, none] [] σ) (hK2 : ∀ x1 σ, K2 x1 σ → E Y_X12_reads 2 0 0 (QI Q) ww 0 0 399 [some (vR 12 0), some (vI x1), none, none, none, none] [] σ) (h : P_X12_reads_J237 x1 y0 R K0 K1 K2 Q σ) : E Y_X12_reads 2 0 0 (QI Q) ww 0 0 237 [some (vR 12 0), some (vI x1), none, none, none, none] [vI y0, vR 12 0] σ := by
  unfold P_X12_reads_J237 at h
  refine E_callV (Y' := Y_X12_puts) (as := [vI y0]) (st := []) dX12_reads_237 lk_RX12_208 m_X12_puts (by decide) (Nat.le_refl _) (Nat.le_refl _) rfl rfl (Nat.le_of_ble_eq_true rfl) (s_X12_puts h) (fun r0 B0 σ_7 h => ?_)
  obtain ⟨rfl, rfl, h⟩ := h
  refine E_ic dX12_reads_240 rfl ?_
  refine E_istore_n (ls' := [some (vR 12 0), some (vI x1), some (vI 1), none, none, none]) dX12_reads_241 rfl (by decide) rfl ?_
  refine E_goto (tgt := 424) dX12_reads_242 (by decide) ?_
  exact e_P_X12_reads_J424 hR hK0 hK1 hK2 h
def P_X12_reads_J206 (x1 : Int) (R : Int → Int → St → Prop) (K0 : St → Prop) (K1 : St → Prop) (K2 : Int → St → Prop) (Q : Int → St → Prop) (σ : St) : Prop :=
  P_X12_isSign 43 σ (fun r_4 σ_3 => (if r_4 = 0 then P_X12_isSign 45 σ_3 (fun r_6 σ_5 => (if r_6 = 0 then P_X12_reads_J237 x1 22 R K0 K1 K2 Q σ_5 else P_X12_reads_J237 x1 21 R K0 K1 K2 Q σ_5)) else P_X12_reads_J237 x1 20 R K0 K1 K2 Q σ_3))
set_option maxRecDepth 20000 in
set_option maxHeartbeats 2000000 in
theorem e_P_X12_reads_J206 {x1 : Int} {R : Int → Int → St → Prop} {K0 : St → Prop} {K1 : St → Prop} {K2 : Int → St → Prop} {Q : Int → St → Prop} {σ : St} (hR : ∀ x1 x2 σ, R x1 x2 σ → E Y_X12_reads 2 0 0 (QI Q) ww 0 0 11 [some (vR 12 0), some (vI x1), some (vI x2), none, none, none] [] σ) (hK0 : ∀ σ, K0 σ → E Y_X12_reads 2 0 0 (QI Q) ww 0 0 59 [some (vR 12 0), none, none, none, none, none] [] σ) (hK1 : ∀ σ, K1 σ → E Y_X12_reads 2 0 0 (QI Q) ww 0 0 70 [some (vR 12 0), none, none, none, none, none] [] σ) (hK2 : ∀ x1 σ, K2 x1 σ → E Y_X12_reads 2 0 0 (QI Q) ww 0 0 399 [some (vR 12 0), some (vI x1), none, none, none, none] [] σ) (h : P_X12_reads_J206 x1 R K0 K1 K2 Q σ) : E Y_X12_reads 2 0 0 (QI Q) ww 0 0 206 [some (vR 12 0), some (vI x1), none, none, none, none] [] σ := by
  unfold P_X12_reads_J206 at h
  refine E_aload_n dX12_reads_206 rfl rfl ?_
  refine E_aload_n dX12_reads_207 rfl rfl ?_
  refine E_bp dX12_reads_208 rfl ?_
  refine E_callV (Y' := Y_X12_isSign) (as := [vI 43]) (st := [vR 12 0]) dX12_reads_210 lk_RX12_201 m_X12_isSign (by decide) (Nat.le_refl _) (Nat.le_refl _) rfl rfl (Nat.le_of_ble_eq_true rfl) (s_X12_isSign h) (fun r0 B0 σ_3 h => ?_)
  obtain ⟨r_4, rfl, rfl, h⟩ := h
  refine E_if_eq (tgt := 221) dX12_reads_213 (by decide) (fun hc => ?_) (fun hc => ?_)
  · have h := Eq.mp (if_pos hc) h
    refine E_aload_n dX12_reads_221 rfl rfl ?_
    refine E_bp dX12_reads_222 rfl ?_
    refine E_callV (Y' := Y_X12_isSign) (as := [vI 45]) (st := [vR 12 0]) dX12_reads_224 lk_RX12_201 m_X12_isSign (by decide) (Nat.le_refl _) (Nat.le_refl _) rfl rfl (Nat.le_of_ble_eq_true rfl) (s_X12_isSign h) (fun r0 B0 σ_5 h => ?_)
    obtain ⟨r_6, rfl, rfl, h⟩ := h
    refine E_if_eq (tgt := 235) dX12_reads_227 (by decide) (fun hc => ?_) (fun hc => ?_)
    · have h := Eq.mp (if_pos hc) h
      refine E_bp dX12_reads_235 rfl ?_
      exact e_P_X12_reads_J237 hR hK0 hK1 hK2 h
    · have h := Eq.mp (if_neg hc) h
      refine E_bp dX12_reads_230 rfl ?_
      refine E_goto (tgt := 237) dX12_reads_232 (by decide) ?_
      exact e_P_X12_reads_J237 hR hK0 hK1 hK2 h
  · have h := Eq.mp (if_neg hc) h
    refine E_bp dX12_reads_216 rfl ?_
    refine E_goto (tgt := 237) dX12_reads_218 (by decide) ?_
    exact e_P_X12_reads_J237 hR hK0 hK1 hK2 h
def P_X12_reads_J342 (x1 : Int) (y0 : Int) (R : Int → Int → St → Prop) (K0 : St → Prop) (K1 : St → Prop) (K2 : Int → St → Prop) (Q : Int → St → Prop) (σ : St) : Prop :=
  P_X12_puts y0 σ (fun σ_19 => 0 ≤ x1 ∧ x1 < 7 ∧ P_X12_reads_J424 x1 1 R K0 K1 K2 Q (up σ_19 1325 0 x1 0))
set_option maxRecDepth 20000 in
set_option maxHeartbeats 2000000 in
theorem e_P_X12_reads_J342 {x1 : Int} {y0 : Int} {R : Int → Int → St → Prop} {K0 : St → Prop} {K1 : St → Prop} {K2 : Int → St → Prop} {Q : Int → St → Prop} {σ : St} (hR : ∀ x1 x2 σ, R x1 x2 σ → E Y_X12_reads 2 0 0 (QI Q) ww 0 0 11 [some (vR 12 0), some (vI x1), some (vI x2), none, none, none] [] σ) (hK0 : ∀ σ, K0 σ → E Y_X12_reads 2 0 0 (QI Q) ww 0 0 59 [some (vR 12 0), none, none, none, none, none] [] σ) (hK1 : ∀ σ, K1 σ → E Y_X12_reads 2 0 0 (QI Q) ww 0 0 70 [some (vR 12 0), none, none, none, none, none] [] σ) (hK2 : ∀ x1 σ, K2 x1 σ → E Y_X12_reads 2 0 0 (QI Q) ww 0 0 399 [some (vR 12 0), some (vI x1), none, none, none, none] [] σ) (h : P_X12_reads_J342 x1 y0 R K0 K1 K2 Q σ) : E Y_X12_reads 2 0 0 (QI Q) ww 0 0 342 [some (vR 12 0), some (vI x1), none, none, none, none] [vI y0, vR 12 0] σ := by
  unfold P_X12_reads_J342 at h
  refine E_callV (Y' := Y_X12_puts) (as := [vI y0]) (st := []) dX12_reads_342 lk_RX12_208 m_X12_puts (by decide) (Nat.le_refl _) (Nat.le_refl _) rfl rfl (Nat.le_of_ble_eq_true rfl) (s_X12_puts h) (fun r0 B0 σ_19 h => ?_)
  obtain ⟨rfl, rfl, h⟩ := h
  refine E_aload_n dX12_reads_345 rfl rfl ?_
  refine E_getr (i := 0) dX12_reads_346 fl_RX12_53 rfl rfl (go_12_25 _ _) ?_
  refine E_iload_n dX12_reads_349 rfl rfl ?_
  refine E_ic dX12_reads_350 rfl ?_
  obtain ⟨hg0, hg1, h⟩ := h
  refine E_zast dX12_reads_351 sh_1325 hg0 hg1 (by decide) ?_
  refine E_ic dX12_reads_352 rfl ?_
  refine E_istore_n (ls' := [some (vR 12 0), some (vI x1), some (vI 1), none, none, none]) dX12_reads_353 rfl (by decide) rfl ?_
  refine E_goto (tgt := 424) dX12_reads_354 (by decide) ?_
  exact e_P_X12_reads_J424 hR hK0 hK1 hK2 h
def P_X12_reads_J324 (x1 : Int) (R : Int → Int → St → Prop) (K0 : St → Prop) (K1 : St → Prop) (K2 : Int → St → Prop) (Q : Int → St → Prop) (σ : St) : Prop :=
  P_X12_isWord 1111 σ (fun r_18 σ_17 => (if r_18 = 0 then P_X12_reads_J342 x1 27 R K0 K1 K2 Q σ_17 else P_X12_reads_J342 x1 26 R K0 K1 K2 Q σ_17))
set_option maxRecDepth 20000 in
set_option maxHeartbeats 2000000 in
theorem e_P_X12_reads_J324 {x1 : Int} {R : Int → Int → St → Prop} {K0 : St → Prop} {K1 : St → Prop} {K2 : Int → St → Prop} {Q : Int → St → Prop} {σ : St} (hR : ∀ x1 x2 σ, R x1 x2 σ → E Y_X12_reads 2 0 0 (QI Q) ww 0 0 11 [some (vR 12 0), some (vI x1), some (vI x2), none, none, none] [] σ) (hK0 : ∀ σ, K0 σ → E Y_X12_reads 2 0 0 (QI Q) ww 0 0 59 [some (vR 12 0), none, none, none, none, none] [] σ) (hK1 : ∀ σ, K1 σ → E Y_X12_reads 2 0 0 (QI Q) ww 0 0 70 [some (vR 12 0), none, none, none, none, none] [] σ) (hK2 : ∀ x1 σ, K2 x1 σ → E Y_X12_reads 2 0 0 (QI Q) ww 0 0 399 [some (vR 12 0), some (vI x1), none, none, none, none] [] σ) (h : P_X12_reads_J324 x1 R K0 K1 K2 Q σ) : E Y_X12_reads 2 0 0 (QI Q) ww 0 0 324 [some (vR 12 0), some (vI x1), none, none, none, none] [] σ := by
  unfold P_X12_reads_J324 at h
  refine E_aload_n dX12_reads_324 rfl rfl ?_
  refine E_aload_n dX12_reads_325 rfl rfl ?_
  refine E_ldc2 (z := 1111) dX12_reads_326 kl_RX12_215 (by decide) ?_
  refine E_callV (Y' := Y_X12_isWord) (as := [vL 1111]) (st := [vR 12 0]) dX12_reads_329 lk_RX12_197 m_X12_isWord (by decide) (Nat.le_refl _) (Nat.le_refl _) rfl rfl (Nat.le_of_ble_eq_true rfl) (s_X12_isWord h) (fun r0 B0 σ_17 h => ?_)
  obtain ⟨r_18, rfl, rfl, h⟩ := h
  refine E_if_eq (tgt := 340) dX12_reads_332 (by decide) (fun hc => ?_) (fun hc => ?_)
  · have h := Eq.mp (if_pos hc) h
    refine E_bp dX12_reads_340 rfl ?_
    exact e_P_X12_reads_J342 hR hK0 hK1 hK2 h
  · have h := Eq.mp (if_neg hc) h
    refine E_bp dX12_reads_335 rfl ?_
    refine E_goto (tgt := 342) dX12_reads_337 (by decide) ?_
    exact e_P_X12_reads_J342 hR hK0 hK1 hK2 h
def P_X12_reads_L379 (x2 : Int) (K : Int → St → Prop) (Q : Int → St → Prop) : Nat → Int → St → Prop
  | 0, _, _ => False
  | n + 1, x1, σ => (if x1 ≤ 0 then K x1 σ else 0 ≤ x1 ∧ x1 < 7 ∧ (if (σ 1324 0 x1) = 1 then (P_X12_reads_L379 x2 K Q n) (wi (x1 + (-1))) σ else K x1 σ))
set_option maxRecDepth 20000 in
set_option maxHeartbeats 2000000 in
theorem e_P_X12_reads_L379 {x2 : Int} {K : Int → St → Prop} {Q : Int → St → Prop} (hK : ∀ x1 σ, K x1 σ → E Y_X12_reads 2 0 0 (QI Q) ww 0 0 424 [some (vR 12 0), some (vI x1), some (vI x2), none, none, none] [] σ) : ∀ (n : Nat) (x1 : Int) (σ : St), P_X12_reads_L379 x2 K Q n x1 σ → E Y_X12_reads 2 0 0 (QI Q) ww 0 0 379 [some (vR 12 0), some (vI x1), some (vI x2), none, none, none] [] σ := by
  intro n
  induction n with
  | zero => intro x1 σ h; exact h.elim
  | succ n hR =>
    intro x1 σ h
    unfold P_X12_reads_L379 at h
    refine E_iload_n dX12_reads_379 rfl rfl ?_
    refine E_if_le (tgt := 424) dX12_reads_380 (by decide) (fun hc => ?_) (fun hc => ?_)
    · have h := Eq.mp (if_pos hc) h
      exact hK _ _ h
    · have h := Eq.mp (if_neg hc) h
      refine E_aload_n dX12_reads_383 rfl rfl ?_
      refine E_getr (i := 0) dX12_reads_384 fl_RX12_50 rfl rfl (go_12_24 _ _) ?_
      refine E_iload_n dX12_reads_387 rfl rfl ?_
      obtain ⟨hg0, hg1, h⟩ := h
      refine E_iald dX12_reads_388 sh_1324 hg0 hg1 ?_
      refine E_ic dX12_reads_389 rfl ?_
      refine E_icmp_ne (tgt := 424) dX12_reads_390 (by decide) (fun hc => ?_) (fun hc => ?_)
      · have h := Eq.mp (if_neg hc) h
        exact hK _ _ h
      · have h := Eq.mp (if_pos hc) h
        refine E_iinc (ls' := [some (vR 12 0), some (vI (wi (x1 + (-1)))), some (vI x2), none, none, none]) dX12_reads_393 rfl (by decide) rfl rfl ?_
        refine E_goto (tgt := 379) dX12_reads_396 (by decide) ?_
        exact hR _ _ h
def P_X12_reads_J304 (x1 : Int) (x2 : Int) (R : Int → Int → St → Prop) (K0 : St → Prop) (K1 : St → Prop) (K2 : Int → St → Prop) (Q : Int → St → Prop) (σ : St) : Prop :=
  P_X12_isWord 1111 σ (fun r_16 σ_15 => (if r_16 = 0 then P_X12_isWord 423 σ_15 (fun r_21 σ_20 => (if r_21 = 0 then P_X12_isSign 41 σ_20 (fun r_23 σ_22 => (if r_23 = 0 then K2 x1 σ_22 else (if x1 ≤ 0 then K2 x1 σ_22 else P_X12_puts 29 σ_22 (fun σ_24 => P_X12_reads_L379 x2 (fun x1_25 σ_26 => P_X12_reads_J424 x1_25 x2 R K0 K1 K2 Q σ_26) Q FU (wi (x1 + (-1))) σ_24)))) else P_X12_reads_J324 x1 R K0 K1 K2 Q σ_20)) else P_X12_reads_J324 x1 R K0 K1 K2 Q σ_15))
set_option maxRecDepth 20000 in
set_option maxHeartbeats 2000000 in
theorem e_P_X12_reads_J304 {x1 : Int} {x2 : Int} {R : Int → Int → St → Prop} {K0 : St → Prop} {K1 : St → Prop} {K2 : Int → St → Prop} {Q : Int → St → Prop} {σ : St} (hR : ∀ x1 x2 σ, R x1 x2 σ → E Y_X12_reads 2 0 0 (QI Q) ww 0 0 11 [some (vR 12 0), some (vI x1), some (vI x2), none, none, none] [] σ) (hK0 : ∀ σ, K0 σ → E Y_X12_reads 2 0 0 (QI Q) ww 0 0 59 [some (vR 12 0), none, none, none, none, none] [] σ) (hK1 : ∀ σ, K1 σ → E Y_X12_reads 2 0 0 (QI Q) ww 0 0 70 [some (vR 12 0), none, none, none, none, none] [] σ) (hK2 : ∀ x1 σ, K2 x1 σ → E Y_X12_reads 2 0 0 (QI Q) ww 0 0 399 [some (vR 12 0), some (vI x1), none, none, none, none] [] σ) (h : P_X12_reads_J304 x1 x2 R K0 K1 K2 Q σ) : E Y_X12_reads 2 0 0 (QI Q) ww 0 0 304 [some (vR 12 0), some (vI x1), some (vI x2), none, none, none] [] σ := by
  unfold P_X12_reads_J304 at h
  refine E_aload_n dX12_reads_304 rfl rfl ?_
  refine E_ldc2 (z := 1111) dX12_reads_305 kl_RX12_215 (by decide) ?_
  refine E_callV (Y' := Y_X12_isWord) (as := [vL 1111]) (st := []) dX12_reads_308 lk_RX12_197 m_X12_isWord (by decide) (Nat.le_refl _) (Nat.le_refl _) rfl rfl (Nat.le_of_ble_eq_true rfl) (s_X12_isWord h) (fun r0 B0 σ_15 h => ?_)
  obtain ⟨r_16, rfl, rfl, h⟩ := h
  refine E_if_ne (tgt := 324) dX12_reads_311 (by decide) (fun hc => ?_) (fun hc => ?_)
  · have h := Eq.mp (if_neg hc) h
    refine E_wk2 [some (vR 12 0), some (vI x1), none, none, none, none] ⟨rfl, ⟨rfl, trivial⟩⟩ ?_
    exact e_P_X12_reads_J324 hR hK0 hK1 hK2 h
  · have h := Eq.mp (if_pos hc) h
    refine E_aload_n dX12_reads_314 rfl rfl ?_
    refine E_ldc2 (z := 423) dX12_reads_315 kl_RX12_217 (by decide) ?_
    refine E_callV (Y' := Y_X12_isWord) (as := [vL 423]) (st := []) dX12_reads_318 lk_RX12_197 m_X12_isWord (by decide) (Nat.le_refl _) (Nat.le_refl _) rfl rfl (Nat.le_of_ble_eq_true rfl) (s_X12_isWord h) (fun r0 B0 σ_20 h => ?_)
    obtain ⟨r_21, rfl, rfl, h⟩ := h
    refine E_if_eq (tgt := 357) dX12_reads_321 (by decide) (fun hc => ?_) (fun hc => ?_)
    · have h := Eq.mp (if_pos hc) h
      refine E_aload_n dX12_reads_357 rfl rfl ?_
      refine E_bp dX12_reads_358 rfl ?_
      refine E_callV (Y' := Y_X12_isSign) (as := [vI 41]) (st := []) dX12_reads_360 lk_RX12_201 m_X12_isSign (by decide) (Nat.le_refl _) (Nat.le_refl _) rfl rfl (Nat.le_of_ble_eq_true rfl) (s_X12_isSign h) (fun r0 B0 σ_22 h => ?_)
      obtain ⟨r_23, rfl, rfl, h⟩ := h
      refine E_if_eq (tgt := 399) dX12_reads_363 (by decide) (fun hc => ?_) (fun hc => ?_)
      · have h := Eq.mp (if_pos hc) h
        refine E_wk2 [some (vR 12 0), some (vI x1), none, none, none, none] ⟨rfl, ⟨rfl, trivial⟩⟩ ?_
        exact hK2 _ _ h
      · have h := Eq.mp (if_neg hc) h
        refine E_iload_n dX12_reads_366 rfl rfl ?_
        refine E_if_le (tgt := 399) dX12_reads_367 (by decide) (fun hc => ?_) (fun hc => ?_)
        · have h := Eq.mp (if_pos hc) h
          refine E_wk2 [some (vR 12 0), some (vI x1), none, none, none, none] ⟨rfl, ⟨rfl, trivial⟩⟩ ?_
          exact hK2 _ _ h
        · have h := Eq.mp (if_neg hc) h
          refine E_aload_n dX12_reads_370 rfl rfl ?_
          refine E_bp dX12_reads_371 rfl ?_
          refine E_callV (Y' := Y_X12_puts) (as := [vI 29]) (st := []) dX12_reads_373 lk_RX12_208 m_X12_puts (by decide) (Nat.le_refl _) (Nat.le_refl _) rfl rfl (Nat.le_of_ble_eq_true rfl) (s_X12_puts h) (fun r0 B0 σ_24 h => ?_)
          obtain ⟨rfl, rfl, h⟩ := h
          refine E_iinc (ls' := [some (vR 12 0), some (vI (wi (x1 + (-1)))), some (vI x2), none, none, none]) dX12_reads_376 rfl (by decide) rfl rfl ?_
          refine e_P_X12_reads_L379 ?_ _ _ _ h
          · intro x1_25 σ_26 h
            exact e_P_X12_reads_J424 hR hK0 hK1 hK2 h
    · have h := Eq.mp (if_neg hc) h
      refine E_wk2 [some (vR 12 0), some (vI x1), none, none, none, none] ⟨rfl, ⟨rfl, trivial⟩⟩ ?_
      exact e_P_X12_reads_J324 hR hK0 hK1 hK2 h
def P_X12_reads_J289 (x1 : Int) (y0 : Int) (R : Int → Int → St → Prop) (K0 : St → Prop) (K1 : St → Prop) (K2 : Int → St → Prop) (Q : Int → St → Prop) (σ : St) : Prop :=
  P_X12_puts y0 σ (fun σ_29 => 0 ≤ x1 ∧ x1 < 7 ∧ P_X12_reads_J424 x1 1 R K0 K1 K2 Q (up σ_29 1325 0 x1 1))
set_option maxRecDepth 20000 in
set_option maxHeartbeats 2000000 in
theorem e_P_X12_reads_J289 {x1 : Int} {y0 : Int} {R : Int → Int → St → Prop} {K0 : St → Prop} {K1 : St → Prop} {K2 : Int → St → Prop} {Q : Int → St → Prop} {σ : St} (hR : ∀ x1 x2 σ, R x1 x2 σ → E Y_X12_reads 2 0 0 (QI Q) ww 0 0 11 [some (vR 12 0), some (vI x1), some (vI x2), none, none, none] [] σ) (hK0 : ∀ σ, K0 σ → E Y_X12_reads 2 0 0 (QI Q) ww 0 0 59 [some (vR 12 0), none, none, none, none, none] [] σ) (hK1 : ∀ σ, K1 σ → E Y_X12_reads 2 0 0 (QI Q) ww 0 0 70 [some (vR 12 0), none, none, none, none, none] [] σ) (hK2 : ∀ x1 σ, K2 x1 σ → E Y_X12_reads 2 0 0 (QI Q) ww 0 0 399 [some (vR 12 0), some (vI x1), none, none, none, none] [] σ) (h : P_X12_reads_J289 x1 y0 R K0 K1 K2 Q σ) : E Y_X12_reads 2 0 0 (QI Q) ww 0 0 289 [some (vR 12 0), some (vI x1), none, none, none, none] [vI y0, vR 12 0] σ := by
  unfold P_X12_reads_J289 at h
  refine E_callV (Y' := Y_X12_puts) (as := [vI y0]) (st := []) dX12_reads_289 lk_RX12_208 m_X12_puts (by decide) (Nat.le_refl _) (Nat.le_refl _) rfl rfl (Nat.le_of_ble_eq_true rfl) (s_X12_puts h) (fun r0 B0 σ_29 h => ?_)
  obtain ⟨rfl, rfl, h⟩ := h
  refine E_aload_n dX12_reads_292 rfl rfl ?_
  refine E_getr (i := 0) dX12_reads_293 fl_RX12_53 rfl rfl (go_12_25 _ _) ?_
  refine E_iload_n dX12_reads_296 rfl rfl ?_
  refine E_ic dX12_reads_297 rfl ?_
  obtain ⟨hg0, hg1, h⟩ := h
  refine E_zast dX12_reads_298 sh_1325 hg0 hg1 (by decide) ?_
  refine E_ic dX12_reads_299 rfl ?_
  refine E_istore_n (ls' := [some (vR 12 0), some (vI x1), some (vI 1), none, none, none]) dX12_reads_300 rfl (by decide) rfl ?_
  refine E_goto (tgt := 424) dX12_reads_301 (by decide) ?_
  exact e_P_X12_reads_J424 hR hK0 hK1 hK2 h
def P_X12_reads_J263 (x1 : Int) (x2 : Int) (R : Int → Int → St → Prop) (K0 : St → Prop) (K1 : St → Prop) (K2 : Int → St → Prop) (Q : Int → St → Prop) (σ : St) : Prop :=
  0 ≤ x1 ∧ x1 < 7 ∧ (if (σ 1325 0 x1) = 0 then P_X12_isSign 60 σ (fun r_28 σ_27 => (if r_28 = 0 then P_X12_reads_J289 x1 25 R K0 K1 K2 Q σ_27 else P_X12_reads_J289 x1 24 R K0 K1 K2 Q σ_27)) else P_X12_reads_J304 x1 x2 R K0 K1 K2 Q σ)
set_option maxRecDepth 20000 in
set_option maxHeartbeats 2000000 in
theorem e_P_X12_reads_J263 {x1 : Int} {x2 : Int} {R : Int → Int → St → Prop} {K0 : St → Prop} {K1 : St → Prop} {K2 : Int → St → Prop} {Q : Int → St → Prop} {σ : St} (hR : ∀ x1 x2 σ, R x1 x2 σ → E Y_X12_reads 2 0 0 (QI Q) ww 0 0 11 [some (vR 12 0), some (vI x1), some (vI x2), none, none, none] [] σ) (hK0 : ∀ σ, K0 σ → E Y_X12_reads 2 0 0 (QI Q) ww 0 0 59 [some (vR 12 0), none, none, none, none, none] [] σ) (hK1 : ∀ σ, K1 σ → E Y_X12_reads 2 0 0 (QI Q) ww 0 0 70 [some (vR 12 0), none, none, none, none, none] [] σ) (hK2 : ∀ x1 σ, K2 x1 σ → E Y_X12_reads 2 0 0 (QI Q) ww 0 0 399 [some (vR 12 0), some (vI x1), none, none, none, none] [] σ) (h : P_X12_reads_J263 x1 x2 R K0 K1 K2 Q σ) : E Y_X12_reads 2 0 0 (QI Q) ww 0 0 263 [some (vR 12 0), some (vI x1), some (vI x2), none, none, none] [] σ := by
  unfold P_X12_reads_J263 at h
  refine E_aload_n dX12_reads_263 rfl rfl ?_
  refine E_getr (i := 0) dX12_reads_264 fl_RX12_53 rfl rfl (go_12_25 _ _) ?_
  refine E_iload_n dX12_reads_267 rfl rfl ?_
  obtain ⟨hg0, hg1, h⟩ := h
  refine E_zald dX12_reads_268 sh_1325 hg0 hg1 ?_
  refine E_if_ne (tgt := 304) dX12_reads_269 (by decide) (fun hc => ?_) (fun hc => ?_)
  · have h := Eq.mp (if_neg hc) h
    exact e_P_X12_reads_J304 hR hK0 hK1 hK2 h
  · have h := Eq.mp (if_pos hc) h
    refine E_aload_n dX12_reads_272 rfl rfl ?_
    refine E_aload_n dX12_reads_273 rfl rfl ?_
    refine E_bp dX12_reads_274 rfl ?_
    refine E_callV (Y' := Y_X12_isSign) (as := [vI 60]) (st := [vR 12 0]) dX12_reads_276 lk_RX12_201 m_X12_isSign (by decide) (Nat.le_refl _) (Nat.le_refl _) rfl rfl (Nat.le_of_ble_eq_true rfl) (s_X12_isSign h) (fun r0 B0 σ_27 h => ?_)
    obtain ⟨r_28, rfl, rfl, h⟩ := h
    refine E_if_eq (tgt := 287) dX12_reads_279 (by decide) (fun hc => ?_) (fun hc => ?_)
    · have h := Eq.mp (if_pos hc) h
      refine E_bp dX12_reads_287 rfl ?_
      refine E_wk2 [some (vR 12 0), some (vI x1), none, none, none, none] ⟨rfl, ⟨rfl, trivial⟩⟩ ?_
      exact e_P_X12_reads_J289 hR hK0 hK1 hK2 h
    · have h := Eq.mp (if_neg hc) h
      refine E_bp dX12_reads_282 rfl ?_
      refine E_goto (tgt := 289) dX12_reads_284 (by decide) ?_
      refine E_wk2 [some (vR 12 0), some (vI x1), none, none, none, none] ⟨rfl, ⟨rfl, trivial⟩⟩ ?_
      exact e_P_X12_reads_J289 hR hK0 hK1 hK2 h
def P_X12_reads_J172 (x1 : Int) (x2 : Int) (R : Int → Int → St → Prop) (K0 : St → Prop) (K1 : St → Prop) (K2 : Int → St → Prop) (Q : Int → St → Prop) (σ : St) : Prop :=
  P_X12_nextToken σ (fun σ_39 => R x1 x2 σ_39)
set_option maxRecDepth 20000 in
set_option maxHeartbeats 2000000 in
theorem e_P_X12_reads_J172 {x1 : Int} {x2 : Int} {R : Int → Int → St → Prop} {K0 : St → Prop} {K1 : St → Prop} {K2 : Int → St → Prop} {Q : Int → St → Prop} {σ : St} (hR : ∀ x1 x2 σ, R x1 x2 σ → E Y_X12_reads 2 0 0 (QI Q) ww 0 0 11 [some (vR 12 0), some (vI x1), some (vI x2), none, none, none] [] σ) (hK0 : ∀ σ, K0 σ → E Y_X12_reads 2 0 0 (QI Q) ww 0 0 59 [some (vR 12 0), none, none, none, none, none] [] σ) (hK1 : ∀ σ, K1 σ → E Y_X12_reads 2 0 0 (QI Q) ww 0 0 70 [some (vR 12 0), none, none, none, none, none] [] σ) (hK2 : ∀ x1 σ, K2 x1 σ → E Y_X12_reads 2 0 0 (QI Q) ww 0 0 399 [some (vR 12 0), some (vI x1), none, none, none, none] [] σ) (h : P_X12_reads_J172 x1 x2 R K0 K1 K2 Q σ) : E Y_X12_reads 2 0 0 (QI Q) ww 0 0 172 [some (vR 12 0), some (vI x1), some (vI x2), none, none, none] [] σ := by
  unfold P_X12_reads_J172 at h
  refine E_aload_n dX12_reads_172 rfl rfl ?_
  refine E_callV (Y' := Y_X12_nextToken) (as := []) (st := []) dX12_reads_173 lk_RX12_212 m_X12_nextToken (by decide) (Nat.le_refl _) (Nat.le_refl _) rfl rfl (Nat.le_of_ble_eq_true rfl) (s_X12_nextToken h) (fun r0 B0 σ_39 h => ?_)
  obtain ⟨rfl, rfl, h⟩ := h
  refine E_goto (tgt := 11) dX12_reads_176 (by decide) ?_
  exact hR _ _ _ h
def P_X12_reads_J120 (x1 : Int) (x2 : Int) (y0 : Int) (y1 : Int) (R : Int → Int → St → Prop) (K0 : St → Prop) (K1 : St → Prop) (K2 : Int → St → Prop) (Q : Int → St → Prop) (σ : St) : Prop :=
  0 ≤ y1 ∧ y1 < 7 ∧ 0 ≤ x1 ∧ x1 < 7 ∧ P_X12_reads_J172 x1 x2 R K0 K1 K2 Q (up (up σ 1324 0 y1 y0) 1325 0 x1 0)
set_option maxRecDepth 20000 in
set_option maxHeartbeats 2000000 in
theorem e_P_X12_reads_J120 {x1 : Int} {x2 : Int} {y0 : Int} {y1 : Int} {R : Int → Int → St → Prop} {K0 : St → Prop} {K1 : St → Prop} {K2 : Int → St → Prop} {Q : Int → St → Prop} {σ : St} (hR : ∀ x1 x2 σ, R x1 x2 σ → E Y_X12_reads 2 0 0 (QI Q) ww 0 0 11 [some (vR 12 0), some (vI x1), some (vI x2), none, none, none] [] σ) (hK0 : ∀ σ, K0 σ → E Y_X12_reads 2 0 0 (QI Q) ww 0 0 59 [some (vR 12 0), none, none, none, none, none] [] σ) (hK1 : ∀ σ, K1 σ → E Y_X12_reads 2 0 0 (QI Q) ww 0 0 70 [some (vR 12 0), none, none, none, none, none] [] σ) (hK2 : ∀ x1 σ, K2 x1 σ → E Y_X12_reads 2 0 0 (QI Q) ww 0 0 399 [some (vR 12 0), some (vI x1), none, none, none, none] [] σ) (h : P_X12_reads_J120 x1 x2 y0 y1 R K0 K1 K2 Q σ) : E Y_X12_reads 2 0 0 (QI Q) ww 0 0 120 [some (vR 12 0), some (vI x1), some (vI x2), none, none, none] [vI y0, vI y1, vR 1324 0] σ := by
  unfold P_X12_reads_J120 at h
  obtain ⟨hg0, hg1, h⟩ := h
  refine E_iast dX12_reads_120 sh_1324 hg0 hg1 ?_
  refine E_aload_n dX12_reads_121 rfl rfl ?_
  refine E_getr (i := 0) dX12_reads_122 fl_RX12_53 rfl rfl (go_12_25 _ _) ?_
  refine E_iload_n dX12_reads_125 rfl rfl ?_
  refine E_ic dX12_reads_126 rfl ?_
  obtain ⟨hg0, hg1, h⟩ := h
  refine E_zast dX12_reads_127 sh_1325 hg0 hg1 (by decide) ?_
  refine E_goto (tgt := 172) dX12_reads_128 (by decide) ?_
  exact e_P_X12_reads_J172 hR hK0 hK1 hK2 h
def P_X12_reads_J99 (x1 : Int) (x2 : Int) (x4 : Int) (y0 : Int) (R : Int → Int → St → Prop) (K0 : St → Prop) (K1 : St → Prop) (K2 : Int → St → Prop) (Q : Int → St → Prop) (σ : St) : Prop :=
  P_X12_puts y0 σ (fun σ_38 => (if x4 = 0 then P_X12_reads_J120 (wi (x1 + 1)) x2 2 (wi (x1 + 1)) R K0 K1 K2 Q σ_38 else P_X12_reads_J120 (wi (x1 + 1)) x2 1 (wi (x1 + 1)) R K0 K1 K2 Q σ_38))
set_option maxRecDepth 20000 in
set_option maxHeartbeats 2000000 in
theorem e_P_X12_reads_J99 {x1 : Int} {x2 : Int} {x4 : Int} {y0 : Int} {R : Int → Int → St → Prop} {K0 : St → Prop} {K1 : St → Prop} {K2 : Int → St → Prop} {Q : Int → St → Prop} {σ : St} (hR : ∀ x1 x2 σ, R x1 x2 σ → E Y_X12_reads 2 0 0 (QI Q) ww 0 0 11 [some (vR 12 0), some (vI x1), some (vI x2), none, none, none] [] σ) (hK0 : ∀ σ, K0 σ → E Y_X12_reads 2 0 0 (QI Q) ww 0 0 59 [some (vR 12 0), none, none, none, none, none] [] σ) (hK1 : ∀ σ, K1 σ → E Y_X12_reads 2 0 0 (QI Q) ww 0 0 70 [some (vR 12 0), none, none, none, none, none] [] σ) (hK2 : ∀ x1 σ, K2 x1 σ → E Y_X12_reads 2 0 0 (QI Q) ww 0 0 399 [some (vR 12 0), some (vI x1), none, none, none, none] [] σ) (h : P_X12_reads_J99 x1 x2 x4 y0 R K0 K1 K2 Q σ) : E Y_X12_reads 2 0 0 (QI Q) ww 0 0 99 [some (vR 12 0), some (vI x1), some (vI x2), none, some (vI x4), none] [vI y0, vR 12 0] σ := by
  unfold P_X12_reads_J99 at h
  refine E_callV (Y' := Y_X12_puts) (as := [vI y0]) (st := []) dX12_reads_99 lk_RX12_208 m_X12_puts (by decide) (Nat.le_refl _) (Nat.le_refl _) rfl rfl (Nat.le_of_ble_eq_true rfl) (s_X12_puts h) (fun r0 B0 σ_38 h => ?_)
  obtain ⟨rfl, rfl, h⟩ := h
  refine E_iinc (ls' := [some (vR 12 0), some (vI (wi (x1 + 1))), some (vI x2), none, some (vI x4), none]) dX12_reads_102 rfl (by decide) rfl rfl ?_
  refine E_aload_n dX12_reads_105 rfl rfl ?_
  refine E_getr (i := 0) dX12_reads_106 fl_RX12_50 rfl rfl (go_12_24 _ _) ?_
  refine E_iload_n dX12_reads_109 rfl rfl ?_
  refine E_iload dX12_reads_110 rfl ?_
  refine E_if_eq (tgt := 119) dX12_reads_112 (by decide) (fun hc => ?_) (fun hc => ?_)
  · have h := Eq.mp (if_pos hc) h
    refine E_ic dX12_reads_119 rfl ?_
    refine E_wk2 [some (vR 12 0), some (vI (wi (x1 + 1))), some (vI x2), none, none, none] ⟨rfl, ⟨rfl, ⟨rfl, trivial⟩⟩⟩ ?_
    exact e_P_X12_reads_J120 hR hK0 hK1 hK2 h
  · have h := Eq.mp (if_neg hc) h
    refine E_ic dX12_reads_115 rfl ?_
    refine E_goto (tgt := 120) dX12_reads_116 (by decide) ?_
    refine E_wk2 [some (vR 12 0), some (vI (wi (x1 + 1))), some (vI x2), none, none, none] ⟨rfl, ⟨rfl, ⟨rfl, trivial⟩⟩⟩ ?_
    exact e_P_X12_reads_J120 hR hK0 hK1 hK2 h
def P_X12_reads_J86 (x1 : Int) (x2 : Int) (x4 : Int) (R : Int → Int → St → Prop) (K0 : St → Prop) (K1 : St → Prop) (K2 : Int → St → Prop) (Q : Int → St → Prop) (σ : St) : Prop :=
  (if x4 = 0 then P_X12_reads_J99 x1 x2 x4 28 R K0 K1 K2 Q σ else P_X12_reads_J99 x1 x2 x4 30 R K0 K1 K2 Q σ)
set_option maxRecDepth 20000 in
set_option maxHeartbeats 2000000 in
theorem e_P_X12_reads_J86 {x1 : Int} {x2 : Int} {x4 : Int} {R : Int → Int → St → Prop} {K0 : St → Prop} {K1 : St → Prop} {K2 : Int → St → Prop} {Q : Int → St → Prop} {σ : St} (hR : ∀ x1 x2 σ, R x1 x2 σ → E Y_X12_reads 2 0 0 (QI Q) ww 0 0 11 [some (vR 12 0), some (vI x1), some (vI x2), none, none, none] [] σ) (hK0 : ∀ σ, K0 σ → E Y_X12_reads 2 0 0 (QI Q) ww 0 0 59 [some (vR 12 0), none, none, none, none, none] [] σ) (hK1 : ∀ σ, K1 σ → E Y_X12_reads 2 0 0 (QI Q) ww 0 0 70 [some (vR 12 0), none, none, none, none, none] [] σ) (hK2 : ∀ x1 σ, K2 x1 σ → E Y_X12_reads 2 0 0 (QI Q) ww 0 0 399 [some (vR 12 0), some (vI x1), none, none, none, none] [] σ) (h : P_X12_reads_J86 x1 x2 x4 R K0 K1 K2 Q σ) : E Y_X12_reads 2 0 0 (QI Q) ww 0 0 86 [some (vR 12 0), some (vI x1), some (vI x2), none, some (vI x4), none] [] σ := by
  unfold P_X12_reads_J86 at h
  refine E_aload_n dX12_reads_86 rfl rfl ?_
  refine E_iload dX12_reads_87 rfl ?_
  refine E_if_eq (tgt := 97) dX12_reads_89 (by decide) (fun hc => ?_) (fun hc => ?_)
  · have h := Eq.mp (if_pos hc) h
    refine E_bp dX12_reads_97 rfl ?_
    exact e_P_X12_reads_J99 hR hK0 hK1 hK2 h
  · have h := Eq.mp (if_neg hc) h
    refine E_bp dX12_reads_92 rfl ?_
    refine E_goto (tgt := 99) dX12_reads_94 (by decide) ?_
    exact e_P_X12_reads_J99 hR hK0 hK1 hK2 h
def P_X12_reads_L152 (x2 : Int) (K : Int → St → Prop) (Q : Int → St → Prop) : Nat → Int → St → Prop
  | 0, _, _ => False
  | n + 1, x1, σ => (if x1 ≤ 0 then K x1 σ else 0 ≤ x1 ∧ x1 < 7 ∧ (if (σ 1324 0 x1) = 1 then (P_X12_reads_L152 x2 K Q n) (wi (x1 + (-1))) σ else K x1 σ))
set_option maxRecDepth 20000 in
set_option maxHeartbeats 2000000 in
theorem e_P_X12_reads_L152 {x2 : Int} {K : Int → St → Prop} {Q : Int → St → Prop} (hK : ∀ x1 σ, K x1 σ → E Y_X12_reads 2 0 0 (QI Q) ww 0 0 172 [some (vR 12 0), some (vI x1), some (vI x2), none, none, none] [] σ) : ∀ (n : Nat) (x1 : Int) (σ : St), P_X12_reads_L152 x2 K Q n x1 σ → E Y_X12_reads 2 0 0 (QI Q) ww 0 0 152 [some (vR 12 0), some (vI x1), some (vI x2), none, none, none] [] σ := by
  intro n
  induction n with
  | zero => intro x1 σ h; exact h.elim
  | succ n hR =>
    intro x1 σ h
    unfold P_X12_reads_L152 at h
    refine E_iload_n dX12_reads_152 rfl rfl ?_
    refine E_if_le (tgt := 172) dX12_reads_153 (by decide) (fun hc => ?_) (fun hc => ?_)
    · have h := Eq.mp (if_pos hc) h
      exact hK _ _ h
    · have h := Eq.mp (if_neg hc) h
      refine E_aload_n dX12_reads_156 rfl rfl ?_
      refine E_getr (i := 0) dX12_reads_157 fl_RX12_50 rfl rfl (go_12_24 _ _) ?_
      refine E_iload_n dX12_reads_160 rfl rfl ?_
      obtain ⟨hg0, hg1, h⟩ := h
      refine E_iald dX12_reads_161 sh_1324 hg0 hg1 ?_
      refine E_ic dX12_reads_162 rfl ?_
      refine E_icmp_ne (tgt := 172) dX12_reads_163 (by decide) (fun hc => ?_) (fun hc => ?_)
      · have h := Eq.mp (if_neg hc) h
        exact hK _ _ h
      · have h := Eq.mp (if_pos hc) h
        refine E_iinc (ls' := [some (vR 12 0), some (vI (wi (x1 + (-1)))), some (vI x2), none, none, none]) dX12_reads_166 rfl (by decide) rfl rfl ?_
        refine E_goto (tgt := 152) dX12_reads_169 (by decide) ?_
        exact hR _ _ h
def P_X12_reads_J147 (x1 : Int) (y0 : Int) (R : Int → Int → St → Prop) (K0 : St → Prop) (K1 : St → Prop) (K2 : Int → St → Prop) (Q : Int → St → Prop) (σ : St) : Prop :=
  P_X12_puts y0 σ (fun σ_40 => P_X12_reads_L152 0 (fun x1_41 σ_42 => P_X12_reads_J172 x1_41 0 R K0 K1 K2 Q σ_42) Q FU x1 σ_40)
set_option maxRecDepth 20000 in
set_option maxHeartbeats 2000000 in
theorem e_P_X12_reads_J147 {x1 : Int} {y0 : Int} {R : Int → Int → St → Prop} {K0 : St → Prop} {K1 : St → Prop} {K2 : Int → St → Prop} {Q : Int → St → Prop} {σ : St} (hR : ∀ x1 x2 σ, R x1 x2 σ → E Y_X12_reads 2 0 0 (QI Q) ww 0 0 11 [some (vR 12 0), some (vI x1), some (vI x2), none, none, none] [] σ) (hK0 : ∀ σ, K0 σ → E Y_X12_reads 2 0 0 (QI Q) ww 0 0 59 [some (vR 12 0), none, none, none, none, none] [] σ) (hK1 : ∀ σ, K1 σ → E Y_X12_reads 2 0 0 (QI Q) ww 0 0 70 [some (vR 12 0), none, none, none, none, none] [] σ) (hK2 : ∀ x1 σ, K2 x1 σ → E Y_X12_reads 2 0 0 (QI Q) ww 0 0 399 [some (vR 12 0), some (vI x1), none, none, none, none] [] σ) (h : P_X12_reads_J147 x1 y0 R K0 K1 K2 Q σ) : E Y_X12_reads 2 0 0 (QI Q) ww 0 0 147 [some (vR 12 0), some (vI x1), none, none, none, none] [vI y0, vR 12 0] σ := by
  unfold P_X12_reads_J147 at h
  refine E_callV (Y' := Y_X12_puts) (as := [vI y0]) (st := []) dX12_reads_147 lk_RX12_208 m_X12_puts (by decide) (Nat.le_refl _) (Nat.le_refl _) rfl rfl (Nat.le_of_ble_eq_true rfl) (s_X12_puts h) (fun r0 B0 σ_40 h => ?_)
  obtain ⟨rfl, rfl, h⟩ := h
  refine E_ic dX12_reads_150 rfl ?_
  refine E_istore_n (ls' := [some (vR 12 0), some (vI x1), some (vI 0), none, none, none]) dX12_reads_151 rfl (by decide) rfl ?_
  refine e_P_X12_reads_L152 ?_ _ _ _ h
  · intro x1_41 σ_42 h
    exact e_P_X12_reads_J172 hR hK0 hK1 hK2 h
def P_X12_reads_J65 (x1 : Int) (x2 : Int) (x3 : Int) (x4 : Int) (x5 : Int) (R : Int → Int → St → Prop) (K0 : St → Prop) (K1 : St → Prop) (K2 : Int → St → Prop) (Q : Int → St → Prop) (σ : St) : Prop :=
  (if x1 = 5 then K1 σ else (if x4 = 0 then (if x5 = 0 then (if x3 ≤ 0 then P_X12_reads_J147 x1 (wi (100 + (σ 12 0 8))) R K0 K1 K2 Q σ else P_X12_reads_J147 x1 x3 R K0 K1 K2 Q σ) else P_X12_reads_J86 x1 x2 x4 R K0 K1 K2 Q σ) else P_X12_reads_J86 x1 x2 x4 R K0 K1 K2 Q σ))
set_option maxRecDepth 20000 in
set_option maxHeartbeats 2000000 in
theorem e_P_X12_reads_J65 {x1 : Int} {x2 : Int} {x3 : Int} {x4 : Int} {x5 : Int} {R : Int → Int → St → Prop} {K0 : St → Prop} {K1 : St → Prop} {K2 : Int → St → Prop} {Q : Int → St → Prop} {σ : St} (hR : ∀ x1 x2 σ, R x1 x2 σ → E Y_X12_reads 2 0 0 (QI Q) ww 0 0 11 [some (vR 12 0), some (vI x1), some (vI x2), none, none, none] [] σ) (hK0 : ∀ σ, K0 σ → E Y_X12_reads 2 0 0 (QI Q) ww 0 0 59 [some (vR 12 0), none, none, none, none, none] [] σ) (hK1 : ∀ σ, K1 σ → E Y_X12_reads 2 0 0 (QI Q) ww 0 0 70 [some (vR 12 0), none, none, none, none, none] [] σ) (hK2 : ∀ x1 σ, K2 x1 σ → E Y_X12_reads 2 0 0 (QI Q) ww 0 0 399 [some (vR 12 0), some (vI x1), none, none, none, none] [] σ) (h : P_X12_reads_J65 x1 x2 x3 x4 x5 R K0 K1 K2 Q σ) : E Y_X12_reads 2 0 0 (QI Q) ww 0 0 65 [some (vR 12 0), some (vI x1), some (vI x2), some (vI x3), some (vI x4), some (vI x5)] [] σ := by
  unfold P_X12_reads_J65 at h
  refine E_iload_n dX12_reads_65 rfl rfl ?_
  refine E_ic dX12_reads_66 rfl ?_
  refine E_icmp_ne (tgt := 76) dX12_reads_67 (by decide) (fun hc => ?_) (fun hc => ?_)
  · have h := Eq.mp (if_neg hc) h
    refine E_iload dX12_reads_76 rfl ?_
    refine E_if_ne (tgt := 86) dX12_reads_78 (by decide) (fun hc => ?_) (fun hc => ?_)
    · have h := Eq.mp (if_neg hc) h
      refine E_wk2 [some (vR 12 0), some (vI x1), some (vI x2), none, some (vI x4), none] ⟨rfl, ⟨rfl, ⟨rfl, ⟨rfl, trivial⟩⟩⟩⟩ ?_
      exact e_P_X12_reads_J86 hR hK0 hK1 hK2 h
    · have h := Eq.mp (if_pos hc) h
      refine E_iload dX12_reads_81 rfl ?_
      refine E_if_eq (tgt := 131) dX12_reads_83 (by decide) (fun hc => ?_) (fun hc => ?_)
      · have h := Eq.mp (if_pos hc) h
        refine E_aload_n dX12_reads_131 rfl rfl ?_
        refine E_iload_n dX12_reads_132 rfl rfl ?_
        refine E_if_le (tgt := 140) dX12_reads_133 (by decide) (fun hc => ?_) (fun hc => ?_)
        · have h := Eq.mp (if_pos hc) h
          refine E_bp dX12_reads_140 rfl ?_
          refine E_aload_n dX12_reads_142 rfl rfl ?_
          refine E_geti (i := 0) dX12_reads_143 fl_RX12_163 rfl ?_
          refine E_iadd dX12_reads_146 ?_
          refine E_wk2 [some (vR 12 0), some (vI x1), none, none, none, none] ⟨rfl, ⟨rfl, trivial⟩⟩ ?_
          exact e_P_X12_reads_J147 hR hK0 hK1 hK2 h
        · have h := Eq.mp (if_neg hc) h
          refine E_iload_n dX12_reads_136 rfl rfl ?_
          refine E_goto (tgt := 147) dX12_reads_137 (by decide) ?_
          refine E_wk2 [some (vR 12 0), some (vI x1), none, none, none, none] ⟨rfl, ⟨rfl, trivial⟩⟩ ?_
          exact e_P_X12_reads_J147 hR hK0 hK1 hK2 h
      · have h := Eq.mp (if_neg hc) h
        refine E_wk2 [some (vR 12 0), some (vI x1), some (vI x2), none, some (vI x4), none] ⟨rfl, ⟨rfl, ⟨rfl, ⟨rfl, trivial⟩⟩⟩⟩ ?_
        exact e_P_X12_reads_J86 hR hK0 hK1 hK2 h
  · have h := Eq.mp (if_pos hc) h
    refine E_wk2 [some (vR 12 0), none, none, none, none, none] ⟨rfl, trivial⟩ ?_
    exact hK1 _ h
def P_X12_reads_L11  (K0 : St → Prop) (K1 : St → Prop) (K2 : Int → St → Prop) (Q : Int → St → Prop) : Nat → Int → Int → St → Prop
  | 0, _, _, _ => False
  | n + 1, x1, x2, σ => (if x2 = 0 then P_X12_isSign 43 σ (fun r_2 σ_1 => (if r_2 = 0 then P_X12_isSign 45 σ_1 (fun r_10 σ_9 => (if r_10 = 0 then P_X12_isSign 42 σ_9 (fun r_12 σ_11 => (if r_12 = 0 then P_X12_isSign 60 σ_11 (fun r_14 σ_13 => (if r_14 = 0 then P_X12_isSign 61 σ_13 (fun r_31 σ_30 => (if r_31 = 0 then P_X12_reads_J304 x1 x2 (P_X12_reads_L11 K0 K1 K2 Q n) K0 K1 K2 Q σ_30 else P_X12_reads_J263 x1 x2 (P_X12_reads_L11 K0 K1 K2 Q n) K0 K1 K2 Q σ_30)) else P_X12_reads_J263 x1 x2 (P_X12_reads_L11 K0 K1 K2 Q n) K0 K1 K2 Q σ_13)) else P_X12_reads_J206 x1 (P_X12_reads_L11 K0 K1 K2 Q n) K0 K1 K2 Q σ_11)) else P_X12_reads_J206 x1 (P_X12_reads_L11 K0 K1 K2 Q n) K0 K1 K2 Q σ_9)) else P_X12_reads_J206 x1 (P_X12_reads_L11 K0 K1 K2 Q n) K0 K1 K2 Q σ_1)) else P_X12_fact σ (fun r_33 σ_32 => P_X12_isWord 10631 σ_32 (fun r_35 σ_34 => P_X12_isSign 40 σ_34 (fun r_37 σ_36 => (if r_33 = 0 then (if r_35 = 0 then (if r_37 = 0 then (if (σ_36 12 0 6) = 2 then P_X12_reads_J65 x1 x2 r_33 r_35 r_37 (P_X12_reads_L11 K0 K1 K2 Q n) K0 K1 K2 Q σ_36 else K0 σ_36) else P_X12_reads_J65 x1 x2 r_33 r_35 r_37 (P_X12_reads_L11 K0 K1 K2 Q n) K0 K1 K2 Q σ_36) else P_X12_reads_J65 x1 x2 r_33 r_35 r_37 (P_X12_reads_L11 K0 K1 K2 Q n) K0 K1 K2 Q σ_36) else P_X12_reads_J65 x1 x2 r_33 r_35 r_37 (P_X12_reads_L11 K0 K1 K2 Q n) K0 K1 K2 Q σ_36)))))
set_option maxRecDepth 20000 in
set_option maxHeartbeats 2000000 in
theorem e_P_X12_reads_L11  {K0 : St → Prop} {K1 : St → Prop} {K2 : Int → St → Prop} {Q : Int → St → Prop} (hK0 : ∀ σ, K0 σ → E Y_X12_reads 2 0 0 (QI Q) ww 0 0 59 [some (vR 12 0), none, none, none, none, none] [] σ) (hK1 : ∀ σ, K1 σ → E Y_X12_reads 2 0 0 (QI Q) ww 0 0 70 [some (vR 12 0), none, none, none, none, none] [] σ) (hK2 : ∀ x1 σ, K2 x1 σ → E Y_X12_reads 2 0 0 (QI Q) ww 0 0 399 [some (vR 12 0), some (vI x1), none, none, none, none] [] σ) : ∀ (n : Nat) (x1 : Int) (x2 : Int) (σ : St), P_X12_reads_L11 K0 K1 K2 Q n x1 x2 σ → E Y_X12_reads 2 0 0 (QI Q) ww 0 0 11 [some (vR 12 0), some (vI x1), some (vI x2), none, none, none] [] σ := by
  intro n
  induction n with
  | zero => intro x1 x2 σ h; exact h.elim
  | succ n hR =>
    intro x1 x2 σ h
    unfold P_X12_reads_L11 at h
    refine E_iload_n dX12_reads_11 rfl rfl ?_
    refine E_if_eq (tgt := 179) dX12_reads_12 (by decide) (fun hc => ?_) (fun hc => ?_)
    · have h := Eq.mp (if_pos hc) h
      refine E_aload_n dX12_reads_179 rfl rfl ?_
      refine E_bp dX12_reads_180 rfl ?_
      refine E_callV (Y' := Y_X12_isSign) (as := [vI 43]) (st := []) dX12_reads_182 lk_RX12_201 m_X12_isSign (by decide) (Nat.le_refl _) (Nat.le_refl _) rfl rfl (Nat.le_of_ble_eq_true rfl) (s_X12_isSign h) (fun r0 B0 σ_1 h => ?_)
      obtain ⟨r_2, rfl, rfl, h⟩ := h
      refine E_if_ne (tgt := 206) dX12_reads_185 (by decide) (fun hc => ?_) (fun hc => ?_)
      · have h := Eq.mp (if_neg hc) h
        refine E_wk2 [some (vR 12 0), some (vI x1), none, none, none, none] ⟨rfl, ⟨rfl, trivial⟩⟩ ?_
        exact e_P_X12_reads_J206 hR hK0 hK1 hK2 h
      · have h := Eq.mp (if_pos hc) h
        refine E_aload_n dX12_reads_188 rfl rfl ?_
        refine E_bp dX12_reads_189 rfl ?_
        refine E_callV (Y' := Y_X12_isSign) (as := [vI 45]) (st := []) dX12_reads_191 lk_RX12_201 m_X12_isSign (by decide) (Nat.le_refl _) (Nat.le_refl _) rfl rfl (Nat.le_of_ble_eq_true rfl) (s_X12_isSign h) (fun r0 B0 σ_9 h => ?_)
        obtain ⟨r_10, rfl, rfl, h⟩ := h
        refine E_if_ne (tgt := 206) dX12_reads_194 (by decide) (fun hc => ?_) (fun hc => ?_)
        · have h := Eq.mp (if_neg hc) h
          refine E_wk2 [some (vR 12 0), some (vI x1), none, none, none, none] ⟨rfl, ⟨rfl, trivial⟩⟩ ?_
          exact e_P_X12_reads_J206 hR hK0 hK1 hK2 h
        · have h := Eq.mp (if_pos hc) h
          refine E_aload_n dX12_reads_197 rfl rfl ?_
          refine E_bp dX12_reads_198 rfl ?_
          refine E_callV (Y' := Y_X12_isSign) (as := [vI 42]) (st := []) dX12_reads_200 lk_RX12_201 m_X12_isSign (by decide) (Nat.le_refl _) (Nat.le_refl _) rfl rfl (Nat.le_of_ble_eq_true rfl) (s_X12_isSign h) (fun r0 B0 σ_11 h => ?_)
          obtain ⟨r_12, rfl, rfl, h⟩ := h
          refine E_if_eq (tgt := 245) dX12_reads_203 (by decide) (fun hc => ?_) (fun hc => ?_)
          · have h := Eq.mp (if_pos hc) h
            refine E_aload_n dX12_reads_245 rfl rfl ?_
            refine E_bp dX12_reads_246 rfl ?_
            refine E_callV (Y' := Y_X12_isSign) (as := [vI 60]) (st := []) dX12_reads_248 lk_RX12_201 m_X12_isSign (by decide) (Nat.le_refl _) (Nat.le_refl _) rfl rfl (Nat.le_of_ble_eq_true rfl) (s_X12_isSign h) (fun r0 B0 σ_13 h => ?_)
            obtain ⟨r_14, rfl, rfl, h⟩ := h
            refine E_if_ne (tgt := 263) dX12_reads_251 (by decide) (fun hc => ?_) (fun hc => ?_)
            · have h := Eq.mp (if_neg hc) h
              exact e_P_X12_reads_J263 hR hK0 hK1 hK2 h
            · have h := Eq.mp (if_pos hc) h
              refine E_aload_n dX12_reads_254 rfl rfl ?_
              refine E_bp dX12_reads_255 rfl ?_
              refine E_callV (Y' := Y_X12_isSign) (as := [vI 61]) (st := []) dX12_reads_257 lk_RX12_201 m_X12_isSign (by decide) (Nat.le_refl _) (Nat.le_refl _) rfl rfl (Nat.le_of_ble_eq_true rfl) (s_X12_isSign h) (fun r0 B0 σ_30 h => ?_)
              obtain ⟨r_31, rfl, rfl, h⟩ := h
              refine E_if_eq (tgt := 304) dX12_reads_260 (by decide) (fun hc => ?_) (fun hc => ?_)
              · have h := Eq.mp (if_pos hc) h
                exact e_P_X12_reads_J304 hR hK0 hK1 hK2 h
              · have h := Eq.mp (if_neg hc) h
                exact e_P_X12_reads_J263 hR hK0 hK1 hK2 h
          · have h := Eq.mp (if_neg hc) h
            refine E_wk2 [some (vR 12 0), some (vI x1), none, none, none, none] ⟨rfl, ⟨rfl, trivial⟩⟩ ?_
            exact e_P_X12_reads_J206 hR hK0 hK1 hK2 h
    · have h := Eq.mp (if_neg hc) h
      refine E_aload_n dX12_reads_15 rfl rfl ?_
      refine E_callV (Y' := Y_X12_fact) (as := []) (st := []) dX12_reads_16 lk_RX12_191 m_X12_fact (by decide) (Nat.le_refl _) (Nat.le_refl _) rfl rfl (Nat.le_of_ble_eq_true rfl) (s_X12_fact h) (fun r0 B0 σ_32 h => ?_)
      obtain ⟨r_33, rfl, rfl, h⟩ := h
      refine E_istore_n (ls' := [some (vR 12 0), some (vI x1), some (vI x2), some (vI r_33), none, none]) dX12_reads_19 rfl (by decide) rfl ?_
      refine E_aload_n dX12_reads_20 rfl rfl ?_
      refine E_ldc2 (z := 10631) dX12_reads_21 kl_RX12_195 (by decide) ?_
      refine E_callV (Y' := Y_X12_isWord) (as := [vL 10631]) (st := []) dX12_reads_24 lk_RX12_197 m_X12_isWord (by decide) (Nat.le_refl _) (Nat.le_refl _) rfl rfl (Nat.le_of_ble_eq_true rfl) (s_X12_isWord h) (fun r0 B0 σ_34 h => ?_)
      obtain ⟨r_35, rfl, rfl, h⟩ := h
      refine E_istore (ls' := [some (vR 12 0), some (vI x1), some (vI x2), some (vI r_33), some (vI r_35), none]) dX12_reads_27 (by decide) rfl ?_
      refine E_aload_n dX12_reads_29 rfl rfl ?_
      refine E_bp dX12_reads_30 rfl ?_
      refine E_callV (Y' := Y_X12_isSign) (as := [vI 40]) (st := []) dX12_reads_32 lk_RX12_201 m_X12_isSign (by decide) (Nat.le_refl _) (Nat.le_refl _) rfl rfl (Nat.le_of_ble_eq_true rfl) (s_X12_isSign h) (fun r0 B0 σ_36 h => ?_)
      obtain ⟨r_37, rfl, rfl, h⟩ := h
      refine E_istore (ls' := [some (vR 12 0), some (vI x1), some (vI x2), some (vI r_33), some (vI r_35), some (vI r_37)]) dX12_reads_35 (by decide) rfl ?_
      refine E_iload_n dX12_reads_37 rfl rfl ?_
      refine E_if_ne (tgt := 65) dX12_reads_38 (by decide) (fun hc => ?_) (fun hc => ?_)
      · have h := Eq.mp (if_neg hc) h
        exact e_P_X12_reads_J65 hR hK0 hK1 hK2 h
      · have h := Eq.mp (if_pos hc) h
        refine E_iload dX12_reads_41 rfl ?_
        refine E_if_ne (tgt := 65) dX12_reads_43 (by decide) (fun hc => ?_) (fun hc => ?_)
        · have h := Eq.mp (if_neg hc) h
          exact e_P_X12_reads_J65 hR hK0 hK1 hK2 h
        · have h := Eq.mp (if_pos hc) h
          refine E_iload dX12_reads_46 rfl ?_
          refine E_if_ne (tgt := 65) dX12_reads_48 (by decide) (fun hc => ?_) (fun hc => ?_)
          · have h := Eq.mp (if_neg hc) h
            exact e_P_X12_reads_J65 hR hK0 hK1 hK2 h
          · have h := Eq.mp (if_pos hc) h
            refine E_aload_n dX12_reads_51 rfl rfl ?_
            refine E_geti (i := 0) dX12_reads_52 fl_RX12_166 rfl ?_
            refine E_ic dX12_reads_55 rfl ?_
            refine E_icmp_eq (tgt := 65) dX12_reads_56 (by decide) (fun hc => ?_) (fun hc => ?_)
            · have h := Eq.mp (if_pos hc) h
              exact e_P_X12_reads_J65 hR hK0 hK1 hK2 h
            · have h := Eq.mp (if_neg hc) h
              refine E_wk2 [some (vR 12 0), none, none, none, none, none] ⟨rfl, trivial⟩ ?_
              exact hK0 _ h
def P_X12_reads_J418   (Q : Int → St → Prop) (σ : St) : Prop :=
  P_X12_fails 1 σ (fun r_52 σ_51 => (r_52 = 0 ∨ r_52 = 1) ∧ Q r_52 σ_51)
set_option maxRecDepth 20000 in
set_option maxHeartbeats 2000000 in
theorem e_P_X12_reads_J418   {Q : Int → St → Prop} {σ : St}  (h : P_X12_reads_J418  Q σ) : E Y_X12_reads 2 0 0 (QI Q) ww 0 0 418 [some (vR 12 0), none, none, none, none, none] [] σ := by
  unfold P_X12_reads_J418 at h
  refine E_aload_n dX12_reads_418 rfl rfl ?_
  refine E_ic dX12_reads_419 rfl ?_
  refine E_callV (Y' := Y_X12_fails) (as := [vI 1]) (st := []) dX12_reads_420 lk_RX12_205 m_X12_fails (by decide) (Nat.le_refl _) (Nat.le_refl _) rfl rfl (Nat.le_of_ble_eq_true rfl) (s_X12_fails h) (fun r0 B0 σ_51 h => ?_)
  obtain ⟨r_52, rfl, rfl, h⟩ := h
  obtain ⟨hg0, h⟩ := h
  exact E_zret dX12_reads_423 rfl hg0 ⟨_, rfl, rfl, h⟩
def P_X12_reads_J399 (x1 : Int)  (Q : Int → St → Prop) (σ : St) : Prop :=
  (if x1 = 0 then P_X12_isSign 59 σ (fun r_54 σ_53 => (if r_54 = 0 then P_X12_reads_J418 Q σ_53 else P_X12_nextToken σ_53 (fun σ_55 => Q 1 σ_55))) else P_X12_reads_J418 Q σ)
set_option maxRecDepth 20000 in
set_option maxHeartbeats 2000000 in
theorem e_P_X12_reads_J399 {x1 : Int}  {Q : Int → St → Prop} {σ : St}  (h : P_X12_reads_J399 x1 Q σ) : E Y_X12_reads 2 0 0 (QI Q) ww 0 0 399 [some (vR 12 0), some (vI x1), none, none, none, none] [] σ := by
  unfold P_X12_reads_J399 at h
  refine E_iload_n dX12_reads_399 rfl rfl ?_
  refine E_if_ne (tgt := 418) dX12_reads_400 (by decide) (fun hc => ?_) (fun hc => ?_)
  · have h := Eq.mp (if_neg hc) h
    refine E_wk2 [some (vR 12 0), none, none, none, none, none] ⟨rfl, trivial⟩ ?_
    exact e_P_X12_reads_J418 h
  · have h := Eq.mp (if_pos hc) h
    refine E_aload_n dX12_reads_403 rfl rfl ?_
    refine E_bp dX12_reads_404 rfl ?_
    refine E_callV (Y' := Y_X12_isSign) (as := [vI 59]) (st := []) dX12_reads_406 lk_RX12_201 m_X12_isSign (by decide) (Nat.le_refl _) (Nat.le_refl _) rfl rfl (Nat.le_of_ble_eq_true rfl) (s_X12_isSign h) (fun r0 B0 σ_53 h => ?_)
    obtain ⟨r_54, rfl, rfl, h⟩ := h
    refine E_if_eq (tgt := 418) dX12_reads_409 (by decide) (fun hc => ?_) (fun hc => ?_)
    · have h := Eq.mp (if_pos hc) h
      refine E_wk2 [some (vR 12 0), none, none, none, none, none] ⟨rfl, trivial⟩ ?_
      exact e_P_X12_reads_J418 h
    · have h := Eq.mp (if_neg hc) h
      refine E_aload_n dX12_reads_412 rfl rfl ?_
      refine E_callV (Y' := Y_X12_nextToken) (as := []) (st := []) dX12_reads_413 lk_RX12_212 m_X12_nextToken (by decide) (Nat.le_refl _) (Nat.le_refl _) rfl rfl (Nat.le_of_ble_eq_true rfl) (s_X12_nextToken h) (fun r0 B0 σ_55 h => ?_)
      obtain ⟨rfl, rfl, h⟩ := h
      refine E_ic dX12_reads_416 rfl ?_
      exact E_zret dX12_reads_417 rfl (by decide) ⟨_, rfl, rfl, h⟩
def P_X12_reads  (σ : St) (Q : Int → St → Prop) : Prop :=
  P_X12_reads_L11 (fun σ_43 => P_X12_fails 1 σ_43 (fun r_45 σ_44 => (r_45 = 0 ∨ r_45 = 1) ∧ Q r_45 σ_44)) (fun σ_46 => P_X12_fails 5 σ_46 (fun r_48 σ_47 => (r_48 = 0 ∨ r_48 = 1) ∧ Q r_48 σ_47)) (fun x1_49 σ_50 => P_X12_reads_J399 x1_49 Q σ_50) Q FU 0 1 (up σ 1325 0 0 0)
set_option maxRecDepth 20000 in
set_option maxHeartbeats 2000000 in
theorem s_X12_reads  {σ : St} {Q : Int → St → Prop} (h : P_X12_reads  σ Q) : Cn Y_X12_reads 2 0 0 ww σ [vR 12 0] (QI Q) := by
  refine Cn_of [some (vR 12 0), none, none, none, none, none] (by decide) (Nat.le_of_ble_eq_true rfl) rfl ?_
  unfold P_X12_reads at h
  refine E_ic dX12_reads_0 rfl ?_
  refine E_istore_n (ls' := [some (vR 12 0), some (vI 0), none, none, none, none]) dX12_reads_1 rfl (by decide) rfl ?_
  refine E_ic dX12_reads_2 rfl ?_
  refine E_istore_n (ls' := [some (vR 12 0), some (vI 0), some (vI 1), none, none, none]) dX12_reads_3 rfl (by decide) rfl ?_
  refine E_aload_n dX12_reads_4 rfl rfl ?_
  refine E_getr (i := 0) dX12_reads_5 fl_RX12_53 rfl rfl (go_12_25 _ _) ?_
  refine E_ic dX12_reads_8 rfl ?_
  refine E_ic dX12_reads_9 rfl ?_
  refine E_zast dX12_reads_10 sh_1325 (by decide) (by decide) (by decide) ?_
  refine e_P_X12_reads_L11 ?_ ?_ ?_ _ _ _ _ h
  · intro σ_43 h
    refine E_aload_n dX12_reads_59 rfl rfl ?_
    refine E_ic dX12_reads_60 rfl ?_
    refine E_callV (Y' := Y_X12_fails) (as := [vI 1]) (st := []) dX12_reads_61 lk_RX12_205 m_X12_fails (by decide) (Nat.le_refl _) (Nat.le_refl _) rfl rfl (Nat.le_of_ble_eq_true rfl) (s_X12_fails h) (fun r0 B0 σ_44 h => ?_)
    obtain ⟨r_45, rfl, rfl, h⟩ := h
    obtain ⟨hg0, h⟩ := h
    exact E_zret dX12_reads_64 rfl hg0 ⟨_, rfl, rfl, h⟩
  · intro σ_46 h
    refine E_aload_n dX12_reads_70 rfl rfl ?_
    refine E_ic dX12_reads_71 rfl ?_
    refine E_callV (Y' := Y_X12_fails) (as := [vI 5]) (st := []) dX12_reads_72 lk_RX12_205 m_X12_fails (by decide) (Nat.le_refl _) (Nat.le_refl _) rfl rfl (Nat.le_of_ble_eq_true rfl) (s_X12_fails h) (fun r0 B0 σ_47 h => ?_)
    obtain ⟨r_48, rfl, rfl, h⟩ := h
    obtain ⟨hg0, h⟩ := h
    exact E_zret dX12_reads_75 rfl hg0 ⟨_, rfl, rfl, h⟩
  · intro x1_49 σ_50 h
    exact e_P_X12_reads_J399 h
abbrev Y_X12_opens : My := (yX12_opens, cX12_opens, 2, none)
theorem dX12_opens_0 : decode cX12_opens 0 = .ok (.aload_n 0, 1) := by decide +kernel
theorem dX12_opens_1 : decode cX12_opens 1 = .ok (.getfield 60, 3) := by decide +kernel
theorem dX12_opens_4 : decode cX12_opens 4 = .ok (.iload_n 1, 1) := by decide +kernel
theorem dX12_opens_5 : decode cX12_opens 5 = .ok (.iconst 0, 1) := by decide +kernel
theorem dX12_opens_6 : decode cX12_opens 6 = .ok (.iastore, 1) := by decide +kernel
theorem dX12_opens_7 : decode cX12_opens 7 = .ok (.aload_n 0, 1) := by decide +kernel
theorem dX12_opens_8 : decode cX12_opens 8 = .ok (.getfield 66, 3) := by decide +kernel
theorem dX12_opens_11 : decode cX12_opens 11 = .ok (.iload_n 1, 1) := by decide +kernel
theorem dX12_opens_12 : decode cX12_opens 12 = .ok (.iconst 0, 1) := by decide +kernel
theorem dX12_opens_13 : decode cX12_opens 13 = .ok (.iastore, 1) := by decide +kernel
theorem dX12_opens_14 : decode cX12_opens 14 = .ok (.aload_n 0, 1) := by decide +kernel
theorem dX12_opens_15 : decode cX12_opens 15 = .ok (.getfield 69, 3) := by decide +kernel
theorem dX12_opens_18 : decode cX12_opens 18 = .ok (.iload_n 1, 1) := by decide +kernel
theorem dX12_opens_19 : decode cX12_opens 19 = .ok (.iconst 0, 1) := by decide +kernel
theorem dX12_opens_20 : decode cX12_opens 20 = .ok (.iastore, 1) := by decide +kernel
theorem dX12_opens_21 : decode cX12_opens 21 = .ok (.aload_n 0, 1) := by decide +kernel
theorem dX12_opens_22 : decode cX12_opens 22 = .ok (.getfield 72, 3) := by decide +kernel
theorem dX12_opens_25 : decode cX12_opens 25 = .ok (.iload_n 1, 1) := by decide +kernel
theorem dX12_opens_26 : decode cX12_opens 26 = .ok (.bipush 20, 2) := by decide +kernel
theorem dX12_opens_28 : decode cX12_opens 28 = .ok (.iastore, 1) := by decide +kernel
theorem dX12_opens_29 : decode cX12_opens 29 = .ok (.aload_n 0, 1) := by decide +kernel
theorem dX12_opens_30 : decode cX12_opens 30 = .ok (.getfield 78, 3) := by decide +kernel
theorem dX12_opens_33 : decode cX12_opens 33 = .ok (.iload_n 1, 1) := by decide +kernel
theorem dX12_opens_34 : decode cX12_opens 34 = .ok (.iconst 0, 1) := by decide +kernel
theorem dX12_opens_35 : decode cX12_opens 35 = .ok (.iastore, 1) := by decide +kernel
theorem dX12_opens_36 : decode cX12_opens 36 = .ok (.return_, 1) := by decide +kernel
theorem fl_RX12_60 : FL RX12 60 12 27 := ⟨inG (i := 1427) (by decide +kernel) (by decide +kernel), by decide, by decide⟩
theorem fl_RX12_66 : FL RX12 66 12 29 := ⟨inG (i := 1429) (by decide +kernel) (by decide +kernel), by decide, by decide⟩
theorem fl_RX12_69 : FL RX12 69 12 30 := ⟨inG (i := 1430) (by decide +kernel) (by decide +kernel), by decide, by decide⟩
theorem fl_RX12_72 : FL RX12 72 12 31 := ⟨inG (i := 1431) (by decide +kernel) (by decide +kernel), by decide, by decide⟩
theorem fl_RX12_78 : FL RX12 78 12 33 := ⟨inG (i := 1433) (by decide +kernel) (by decide +kernel), by decide, by decide⟩
theorem go_12_27 (σ : St) (i : Nat) : go σ 12 i 27 = (1327, i) := rfl
theorem go_12_29 (σ : St) (i : Nat) : go σ 12 i 29 = (1329, i) := rfl
theorem go_12_30 (σ : St) (i : Nat) : go σ 12 i 30 = (1330, i) := rfl
theorem go_12_31 (σ : St) (i : Nat) : go σ 12 i 31 = (1331, i) := rfl
theorem go_12_33 (σ : St) (i : Nat) : go σ 12 i 33 = (1333, i) := rfl
theorem sh_1327 : shp 1327 = (0, 7) := rfl
theorem sh_1329 : shp 1329 = (0, 7) := rfl
theorem sh_1330 : shp 1330 = (0, 7) := rfl
theorem sh_1331 : shp 1331 = (0, 7) := rfl
theorem sh_1333 : shp 1333 = (0, 7) := rfl
def P_X12_opens (x1 : Int) (σ : St) (Q : St → Prop) : Prop :=
  0 ≤ x1 ∧ x1 < 7 ∧ 0 ≤ x1 ∧ x1 < 7 ∧ 0 ≤ x1 ∧ x1 < 7 ∧ 0 ≤ x1 ∧ x1 < 7 ∧ 0 ≤ x1 ∧ x1 < 7 ∧ Q (up (up (up (up (up σ 1327 0 x1 0) 1329 0 x1 0) 1330 0 x1 0) 1331 0 x1 20) 1333 0 x1 0)
set_option maxRecDepth 20000 in
set_option maxHeartbeats 2000000 in
theorem s_X12_opens {x1 : Int} {σ : St} {Q : St → Prop} (h : P_X12_opens x1 σ Q) : Cn Y_X12_opens 0 0 0 ww σ [vR 12 0, vI x1] (QV Q) := by
  refine Cn_of [some (vR 12 0), some (vI x1)] (by decide) (Nat.le_of_ble_eq_true rfl) rfl ?_
  unfold P_X12_opens at h
  refine E_aload_n dX12_opens_0 rfl rfl ?_
  refine E_getr (i := 0) dX12_opens_1 fl_RX12_60 rfl rfl (go_12_27 _ _) ?_
  refine E_iload_n dX12_opens_4 rfl rfl ?_
  refine E_ic dX12_opens_5 rfl ?_
  obtain ⟨hg0, hg1, h⟩ := h
  refine E_iast dX12_opens_6 sh_1327 hg0 hg1 ?_
  refine E_aload_n dX12_opens_7 rfl rfl ?_
  refine E_getr (i := 0) dX12_opens_8 fl_RX12_66 rfl rfl (go_12_29 _ _) ?_
  refine E_iload_n dX12_opens_11 rfl rfl ?_
  refine E_ic dX12_opens_12 rfl ?_
  obtain ⟨hg0, hg1, h⟩ := h
  refine E_iast dX12_opens_13 sh_1329 hg0 hg1 ?_
  refine E_aload_n dX12_opens_14 rfl rfl ?_
  refine E_getr (i := 0) dX12_opens_15 fl_RX12_69 rfl rfl (go_12_30 _ _) ?_
  refine E_iload_n dX12_opens_18 rfl rfl ?_
  refine E_ic dX12_opens_19 rfl ?_
  obtain ⟨hg0, hg1, h⟩ := h
  refine E_iast dX12_opens_20 sh_1330 hg0 hg1 ?_
  refine E_aload_n dX12_opens_21 rfl rfl ?_
  refine E_getr (i := 0) dX12_opens_22 fl_RX12_72 rfl rfl (go_12_31 _ _) ?_
  refine E_iload_n dX12_opens_25 rfl rfl ?_
  refine E_bp dX12_opens_26 rfl ?_
  obtain ⟨hg0, hg1, h⟩ := h
  refine E_iast dX12_opens_28 sh_1331 hg0 hg1 ?_
  refine E_aload_n dX12_opens_29 rfl rfl ?_
  refine E_getr (i := 0) dX12_opens_30 fl_RX12_78 rfl rfl (go_12_33 _ _) ?_
  refine E_iload_n dX12_opens_33 rfl rfl ?_
  refine E_ic dX12_opens_34 rfl ?_
  obtain ⟨hg0, hg1, h⟩ := h
  refine E_iast dX12_opens_35 sh_1333 hg0 hg1 ?_
  exact E_vret dX12_opens_36 rfl ⟨rfl, rfl, h⟩
abbrev Y_X12_sums : My := (yX12_sums, cX12_sums, 2, none)
theorem dX12_sums_0 : decode cX12_sums 0 = .ok (.aload_n 0, 1) := by decide +kernel
theorem dX12_sums_1 : decode cX12_sums 1 = .ok (.getfield 69, 3) := by decide +kernel
theorem dX12_sums_4 : decode cX12_sums 4 = .ok (.iload_n 1, 1) := by decide +kernel
theorem dX12_sums_5 : decode cX12_sums 5 = .ok (.aload_n 0, 1) := by decide +kernel
theorem dX12_sums_6 : decode cX12_sums 6 = .ok (.getfield 72, 3) := by decide +kernel
theorem dX12_sums_9 : decode cX12_sums 9 = .ok (.iload_n 1, 1) := by decide +kernel
theorem dX12_sums_10 : decode cX12_sums 10 = .ok (.iaload, 1) := by decide +kernel
theorem dX12_sums_11 : decode cX12_sums 11 = .ok (.bipush 21, 2) := by decide +kernel
theorem dX12_sums_13 : decode cX12_sums 13 = .ok (.if_icmp .ne 19, 3) := by decide +kernel
theorem dX12_sums_16 : decode cX12_sums 16 = .ok (.aload_n 0, 1) := by decide +kernel
theorem dX12_sums_17 : decode cX12_sums 17 = .ok (.getfield 69, 3) := by decide +kernel
theorem dX12_sums_20 : decode cX12_sums 20 = .ok (.iload_n 1, 1) := by decide +kernel
theorem dX12_sums_21 : decode cX12_sums 21 = .ok (.iaload, 1) := by decide +kernel
theorem dX12_sums_22 : decode cX12_sums 22 = .ok (.aload_n 0, 1) := by decide +kernel
theorem dX12_sums_23 : decode cX12_sums 23 = .ok (.getfield 75, 3) := by decide +kernel
theorem dX12_sums_26 : decode cX12_sums 26 = .ok (.iload_n 1, 1) := by decide +kernel
theorem dX12_sums_27 : decode cX12_sums 27 = .ok (.iaload, 1) := by decide +kernel
theorem dX12_sums_28 : decode cX12_sums 28 = .ok (.isub, 1) := by decide +kernel
theorem dX12_sums_29 : decode cX12_sums 29 = .ok (.goto 16, 3) := by decide +kernel
theorem dX12_sums_32 : decode cX12_sums 32 = .ok (.aload_n 0, 1) := by decide +kernel
theorem dX12_sums_33 : decode cX12_sums 33 = .ok (.getfield 69, 3) := by decide +kernel
theorem dX12_sums_36 : decode cX12_sums 36 = .ok (.iload_n 1, 1) := by decide +kernel
theorem dX12_sums_37 : decode cX12_sums 37 = .ok (.iaload, 1) := by decide +kernel
theorem dX12_sums_38 : decode cX12_sums 38 = .ok (.aload_n 0, 1) := by decide +kernel
theorem dX12_sums_39 : decode cX12_sums 39 = .ok (.getfield 75, 3) := by decide +kernel
theorem dX12_sums_42 : decode cX12_sums 42 = .ok (.iload_n 1, 1) := by decide +kernel
theorem dX12_sums_43 : decode cX12_sums 43 = .ok (.iaload, 1) := by decide +kernel
theorem dX12_sums_44 : decode cX12_sums 44 = .ok (.iadd, 1) := by decide +kernel
theorem dX12_sums_45 : decode cX12_sums 45 = .ok (.iastore, 1) := by decide +kernel
theorem dX12_sums_46 : decode cX12_sums 46 = .ok (.aload_n 0, 1) := by decide +kernel
theorem dX12_sums_47 : decode cX12_sums 47 = .ok (.getfield 78, 3) := by decide +kernel
theorem dX12_sums_50 : decode cX12_sums 50 = .ok (.iload_n 1, 1) := by decide +kernel
theorem dX12_sums_51 : decode cX12_sums 51 = .ok (.iconst 0, 1) := by decide +kernel
theorem dX12_sums_52 : decode cX12_sums 52 = .ok (.iastore, 1) := by decide +kernel
theorem dX12_sums_53 : decode cX12_sums 53 = .ok (.return_, 1) := by decide +kernel
theorem fl_RX12_75 : FL RX12 75 12 32 := ⟨inG (i := 1432) (by decide +kernel) (by decide +kernel), by decide, by decide⟩
theorem go_12_32 (σ : St) (i : Nat) : go σ 12 i 32 = (1332, i) := rfl
theorem sh_1332 : shp 1332 = (0, 7) := rfl
def P_X12_sums_J45 (x1 : Int) (y0 : Int) (y1 : Int)  (Q : St → Prop) (σ : St) : Prop :=
  0 ≤ y1 ∧ y1 < 7 ∧ 0 ≤ x1 ∧ x1 < 7 ∧ Q (up (up σ 1330 0 y1 y0) 1333 0 x1 0)
set_option maxRecDepth 20000 in
set_option maxHeartbeats 2000000 in
theorem e_P_X12_sums_J45 {x1 : Int} {y0 : Int} {y1 : Int}  {Q : St → Prop} {σ : St}  (h : P_X12_sums_J45 x1 y0 y1 Q σ) : E Y_X12_sums 0 0 0 (QV Q) ww 0 0 45 [some (vR 12 0), some (vI x1)] [vI y0, vI y1, vR 1330 0] σ := by
  unfold P_X12_sums_J45 at h
  obtain ⟨hg0, hg1, h⟩ := h
  refine E_iast dX12_sums_45 sh_1330 hg0 hg1 ?_
  refine E_aload_n dX12_sums_46 rfl rfl ?_
  refine E_getr (i := 0) dX12_sums_47 fl_RX12_78 rfl rfl (go_12_33 _ _) ?_
  refine E_iload_n dX12_sums_50 rfl rfl ?_
  refine E_ic dX12_sums_51 rfl ?_
  obtain ⟨hg0, hg1, h⟩ := h
  refine E_iast dX12_sums_52 sh_1333 hg0 hg1 ?_
  exact E_vret dX12_sums_53 rfl ⟨rfl, rfl, h⟩
def P_X12_sums (x1 : Int) (σ : St) (Q : St → Prop) : Prop :=
  0 ≤ x1 ∧ x1 < 7 ∧ (if (σ 1331 0 x1) = 21 then 0 ≤ x1 ∧ x1 < 7 ∧ 0 ≤ x1 ∧ x1 < 7 ∧ P_X12_sums_J45 x1 (wi ((σ 1330 0 x1) - (σ 1332 0 x1))) x1 Q σ else 0 ≤ x1 ∧ x1 < 7 ∧ 0 ≤ x1 ∧ x1 < 7 ∧ P_X12_sums_J45 x1 (wi ((σ 1330 0 x1) + (σ 1332 0 x1))) x1 Q σ)
set_option maxRecDepth 20000 in
set_option maxHeartbeats 2000000 in
theorem s_X12_sums {x1 : Int} {σ : St} {Q : St → Prop} (h : P_X12_sums x1 σ Q) : Cn Y_X12_sums 0 0 0 ww σ [vR 12 0, vI x1] (QV Q) := by
  refine Cn_of [some (vR 12 0), some (vI x1)] (by decide) (Nat.le_of_ble_eq_true rfl) rfl ?_
  unfold P_X12_sums at h
  refine E_aload_n dX12_sums_0 rfl rfl ?_
  refine E_getr (i := 0) dX12_sums_1 fl_RX12_69 rfl rfl (go_12_30 _ _) ?_
  refine E_iload_n dX12_sums_4 rfl rfl ?_
  refine E_aload_n dX12_sums_5 rfl rfl ?_
  refine E_getr (i := 0) dX12_sums_6 fl_RX12_72 rfl rfl (go_12_31 _ _) ?_
  refine E_iload_n dX12_sums_9 rfl rfl ?_
  obtain ⟨hg0, hg1, h⟩ := h
  refine E_iald dX12_sums_10 sh_1331 hg0 hg1 ?_
  refine E_bp dX12_sums_11 rfl ?_
  refine E_icmp_ne (tgt := 32) dX12_sums_13 (by decide) (fun hc => ?_) (fun hc => ?_)
  · have h := Eq.mp (if_neg hc) h
    refine E_aload_n dX12_sums_32 rfl rfl ?_
    refine E_getr (i := 0) dX12_sums_33 fl_RX12_69 rfl rfl (go_12_30 _ _) ?_
    refine E_iload_n dX12_sums_36 rfl rfl ?_
    obtain ⟨hg0, hg1, h⟩ := h
    refine E_iald dX12_sums_37 sh_1330 hg0 hg1 ?_
    refine E_aload_n dX12_sums_38 rfl rfl ?_
    refine E_getr (i := 0) dX12_sums_39 fl_RX12_75 rfl rfl (go_12_32 _ _) ?_
    refine E_iload_n dX12_sums_42 rfl rfl ?_
    obtain ⟨hg0, hg1, h⟩ := h
    refine E_iald dX12_sums_43 sh_1332 hg0 hg1 ?_
    refine E_iadd dX12_sums_44 ?_
    exact e_P_X12_sums_J45 h
  · have h := Eq.mp (if_pos hc) h
    refine E_aload_n dX12_sums_16 rfl rfl ?_
    refine E_getr (i := 0) dX12_sums_17 fl_RX12_69 rfl rfl (go_12_30 _ _) ?_
    refine E_iload_n dX12_sums_20 rfl rfl ?_
    obtain ⟨hg0, hg1, h⟩ := h
    refine E_iald dX12_sums_21 sh_1330 hg0 hg1 ?_
    refine E_aload_n dX12_sums_22 rfl rfl ?_
    refine E_getr (i := 0) dX12_sums_23 fl_RX12_75 rfl rfl (go_12_32 _ _) ?_
    refine E_iload_n dX12_sums_26 rfl rfl ?_
    obtain ⟨hg0, hg1, h⟩ := h
    refine E_iald dX12_sums_27 sh_1332 hg0 hg1 ?_
    refine E_isub dX12_sums_28 ?_
    refine E_goto (tgt := 45) dX12_sums_29 (by decide) ?_
    exact e_P_X12_sums_J45 h
abbrev Y_X12_tests : My := (yX12_tests, cX12_tests, 3, none)
theorem dX12_tests_0 : decode cX12_tests 0 = .ok (.aload_n 0, 1) := by decide +kernel
theorem dX12_tests_1 : decode cX12_tests 1 = .ok (.iload_n 1, 1) := by decide +kernel
theorem dX12_tests_2 : decode cX12_tests 2 = .ok (.invokevirtual 219, 3) := by decide +kernel
theorem dX12_tests_5 : decode cX12_tests 5 = .ok (.aload_n 0, 1) := by decide +kernel
theorem dX12_tests_6 : decode cX12_tests 6 = .ok (.getfield 69, 3) := by decide +kernel
theorem dX12_tests_9 : decode cX12_tests 9 = .ok (.iload_n 1, 1) := by decide +kernel
theorem dX12_tests_10 : decode cX12_tests 10 = .ok (.iaload, 1) := by decide +kernel
theorem dX12_tests_11 : decode cX12_tests 11 = .ok (.istore_n 2, 1) := by decide +kernel
theorem dX12_tests_12 : decode cX12_tests 12 = .ok (.aload_n 0, 1) := by decide +kernel
theorem dX12_tests_13 : decode cX12_tests 13 = .ok (.getfield 66, 3) := by decide +kernel
theorem dX12_tests_16 : decode cX12_tests 16 = .ok (.iload_n 1, 1) := by decide +kernel
theorem dX12_tests_17 : decode cX12_tests 17 = .ok (.iaload, 1) := by decide +kernel
theorem dX12_tests_18 : decode cX12_tests 18 = .ok (.bipush 24, 2) := by decide +kernel
theorem dX12_tests_20 : decode cX12_tests 20 = .ok (.if_icmp .ne 24, 3) := by decide +kernel
theorem dX12_tests_23 : decode cX12_tests 23 = .ok (.aload_n 0, 1) := by decide +kernel
theorem dX12_tests_24 : decode cX12_tests 24 = .ok (.getfield 63, 3) := by decide +kernel
theorem dX12_tests_27 : decode cX12_tests 27 = .ok (.iload_n 1, 1) := by decide +kernel
theorem dX12_tests_28 : decode cX12_tests 28 = .ok (.iaload, 1) := by decide +kernel
theorem dX12_tests_29 : decode cX12_tests 29 = .ok (.aload_n 0, 1) := by decide +kernel
theorem dX12_tests_30 : decode cX12_tests 30 = .ok (.getfield 69, 3) := by decide +kernel
theorem dX12_tests_33 : decode cX12_tests 33 = .ok (.iload_n 1, 1) := by decide +kernel
theorem dX12_tests_34 : decode cX12_tests 34 = .ok (.iaload, 1) := by decide +kernel
theorem dX12_tests_35 : decode cX12_tests 35 = .ok (.if_icmp .ge 7, 3) := by decide +kernel
theorem dX12_tests_38 : decode cX12_tests 38 = .ok (.iconst 1, 1) := by decide +kernel
theorem dX12_tests_39 : decode cX12_tests 39 = .ok (.goto 4, 3) := by decide +kernel
theorem dX12_tests_42 : decode cX12_tests 42 = .ok (.iconst 0, 1) := by decide +kernel
theorem dX12_tests_43 : decode cX12_tests 43 = .ok (.istore_n 2, 1) := by decide +kernel
theorem dX12_tests_44 : decode cX12_tests 44 = .ok (.aload_n 0, 1) := by decide +kernel
theorem dX12_tests_45 : decode cX12_tests 45 = .ok (.getfield 66, 3) := by decide +kernel
theorem dX12_tests_48 : decode cX12_tests 48 = .ok (.iload_n 1, 1) := by decide +kernel
theorem dX12_tests_49 : decode cX12_tests 49 = .ok (.iaload, 1) := by decide +kernel
theorem dX12_tests_50 : decode cX12_tests 50 = .ok (.bipush 25, 2) := by decide +kernel
theorem dX12_tests_52 : decode cX12_tests 52 = .ok (.if_icmp .ne 24, 3) := by decide +kernel
theorem dX12_tests_55 : decode cX12_tests 55 = .ok (.aload_n 0, 1) := by decide +kernel
theorem dX12_tests_56 : decode cX12_tests 56 = .ok (.getfield 63, 3) := by decide +kernel
theorem dX12_tests_59 : decode cX12_tests 59 = .ok (.iload_n 1, 1) := by decide +kernel
theorem dX12_tests_60 : decode cX12_tests 60 = .ok (.iaload, 1) := by decide +kernel
theorem dX12_tests_61 : decode cX12_tests 61 = .ok (.aload_n 0, 1) := by decide +kernel
theorem dX12_tests_62 : decode cX12_tests 62 = .ok (.getfield 69, 3) := by decide +kernel
theorem dX12_tests_65 : decode cX12_tests 65 = .ok (.iload_n 1, 1) := by decide +kernel
theorem dX12_tests_66 : decode cX12_tests 66 = .ok (.iaload, 1) := by decide +kernel
theorem dX12_tests_67 : decode cX12_tests 67 = .ok (.if_icmp .ne 7, 3) := by decide +kernel
theorem dX12_tests_70 : decode cX12_tests 70 = .ok (.iconst 1, 1) := by decide +kernel
theorem dX12_tests_71 : decode cX12_tests 71 = .ok (.goto 4, 3) := by decide +kernel
theorem dX12_tests_74 : decode cX12_tests 74 = .ok (.iconst 0, 1) := by decide +kernel
theorem dX12_tests_75 : decode cX12_tests 75 = .ok (.istore_n 2, 1) := by decide +kernel
theorem dX12_tests_76 : decode cX12_tests 76 = .ok (.aload_n 0, 1) := by decide +kernel
theorem dX12_tests_77 : decode cX12_tests 77 = .ok (.getfield 60, 3) := by decide +kernel
theorem dX12_tests_80 : decode cX12_tests 80 = .ok (.iload_n 1, 1) := by decide +kernel
theorem dX12_tests_81 : decode cX12_tests 81 = .ok (.iaload, 1) := by decide +kernel
theorem dX12_tests_82 : decode cX12_tests 82 = .ok (.bipush 26, 2) := by decide +kernel
theorem dX12_tests_84 : decode cX12_tests 84 = .ok (.if_icmp .ne 22, 3) := by decide +kernel
theorem dX12_tests_87 : decode cX12_tests 87 = .ok (.aload_n 0, 1) := by decide +kernel
theorem dX12_tests_88 : decode cX12_tests 88 = .ok (.getfield 57, 3) := by decide +kernel
theorem dX12_tests_91 : decode cX12_tests 91 = .ok (.iload_n 1, 1) := by decide +kernel
theorem dX12_tests_92 : decode cX12_tests 92 = .ok (.iaload, 1) := by decide +kernel
theorem dX12_tests_93 : decode cX12_tests 93 = .ok (.ifCond .eq 11, 3) := by decide +kernel
theorem dX12_tests_96 : decode cX12_tests 96 = .ok (.iload_n 2, 1) := by decide +kernel
theorem dX12_tests_97 : decode cX12_tests 97 = .ok (.ifCond .eq 7, 3) := by decide +kernel
theorem dX12_tests_100 : decode cX12_tests 100 = .ok (.iconst 1, 1) := by decide +kernel
theorem dX12_tests_101 : decode cX12_tests 101 = .ok (.goto 4, 3) := by decide +kernel
theorem dX12_tests_104 : decode cX12_tests 104 = .ok (.iconst 0, 1) := by decide +kernel
theorem dX12_tests_105 : decode cX12_tests 105 = .ok (.istore_n 2, 1) := by decide +kernel
theorem dX12_tests_106 : decode cX12_tests 106 = .ok (.aload_n 0, 1) := by decide +kernel
theorem dX12_tests_107 : decode cX12_tests 107 = .ok (.getfield 60, 3) := by decide +kernel
theorem dX12_tests_110 : decode cX12_tests 110 = .ok (.iload_n 1, 1) := by decide +kernel
theorem dX12_tests_111 : decode cX12_tests 111 = .ok (.iaload, 1) := by decide +kernel
theorem dX12_tests_112 : decode cX12_tests 112 = .ok (.bipush 27, 2) := by decide +kernel
theorem dX12_tests_114 : decode cX12_tests 114 = .ok (.if_icmp .ne 22, 3) := by decide +kernel
theorem dX12_tests_117 : decode cX12_tests 117 = .ok (.aload_n 0, 1) := by decide +kernel
theorem dX12_tests_118 : decode cX12_tests 118 = .ok (.getfield 57, 3) := by decide +kernel
theorem dX12_tests_121 : decode cX12_tests 121 = .ok (.iload_n 1, 1) := by decide +kernel
theorem dX12_tests_122 : decode cX12_tests 122 = .ok (.iaload, 1) := by decide +kernel
theorem dX12_tests_123 : decode cX12_tests 123 = .ok (.ifCond .ne 7, 3) := by decide +kernel
theorem dX12_tests_126 : decode cX12_tests 126 = .ok (.iload_n 2, 1) := by decide +kernel
theorem dX12_tests_127 : decode cX12_tests 127 = .ok (.ifCond .eq 7, 3) := by decide +kernel
theorem dX12_tests_130 : decode cX12_tests 130 = .ok (.iconst 1, 1) := by decide +kernel
theorem dX12_tests_131 : decode cX12_tests 131 = .ok (.goto 4, 3) := by decide +kernel
theorem dX12_tests_134 : decode cX12_tests 134 = .ok (.iconst 0, 1) := by decide +kernel
theorem dX12_tests_135 : decode cX12_tests 135 = .ok (.istore_n 2, 1) := by decide +kernel
theorem dX12_tests_136 : decode cX12_tests 136 = .ok (.aload_n 0, 1) := by decide +kernel
theorem dX12_tests_137 : decode cX12_tests 137 = .ok (.getfield 57, 3) := by decide +kernel
theorem dX12_tests_140 : decode cX12_tests 140 = .ok (.iload_n 1, 1) := by decide +kernel
theorem dX12_tests_141 : decode cX12_tests 141 = .ok (.iload_n 2, 1) := by decide +kernel
theorem dX12_tests_142 : decode cX12_tests 142 = .ok (.iastore, 1) := by decide +kernel
theorem dX12_tests_143 : decode cX12_tests 143 = .ok (.aload_n 0, 1) := by decide +kernel
theorem dX12_tests_144 : decode cX12_tests 144 = .ok (.getfield 66, 3) := by decide +kernel
theorem dX12_tests_147 : decode cX12_tests 147 = .ok (.iload_n 1, 1) := by decide +kernel
theorem dX12_tests_148 : decode cX12_tests 148 = .ok (.iconst 0, 1) := by decide +kernel
theorem dX12_tests_149 : decode cX12_tests 149 = .ok (.iastore, 1) := by decide +kernel
theorem dX12_tests_150 : decode cX12_tests 150 = .ok (.aload_n 0, 1) := by decide +kernel
theorem dX12_tests_151 : decode cX12_tests 151 = .ok (.getfield 69, 3) := by decide +kernel
theorem dX12_tests_154 : decode cX12_tests 154 = .ok (.iload_n 1, 1) := by decide +kernel
theorem dX12_tests_155 : decode cX12_tests 155 = .ok (.iconst 0, 1) := by decide +kernel
theorem dX12_tests_156 : decode cX12_tests 156 = .ok (.iastore, 1) := by decide +kernel
theorem dX12_tests_157 : decode cX12_tests 157 = .ok (.aload_n 0, 1) := by decide +kernel
theorem dX12_tests_158 : decode cX12_tests 158 = .ok (.getfield 72, 3) := by decide +kernel
theorem dX12_tests_161 : decode cX12_tests 161 = .ok (.iload_n 1, 1) := by decide +kernel
theorem dX12_tests_162 : decode cX12_tests 162 = .ok (.bipush 20, 2) := by decide +kernel
theorem dX12_tests_164 : decode cX12_tests 164 = .ok (.iastore, 1) := by decide +kernel
theorem dX12_tests_165 : decode cX12_tests 165 = .ok (.return_, 1) := by decide +kernel
theorem fl_RX12_57 : FL RX12 57 12 26 := ⟨inG (i := 1426) (by decide +kernel) (by decide +kernel), by decide, by decide⟩
theorem fl_RX12_63 : FL RX12 63 12 28 := ⟨inG (i := 1428) (by decide +kernel) (by decide +kernel), by decide, by decide⟩
theorem go_12_26 (σ : St) (i : Nat) : go σ 12 i 26 = (1326, i) := rfl
theorem go_12_28 (σ : St) (i : Nat) : go σ 12 i 28 = (1328, i) := rfl
theorem lk_RX12_219 : Cond.methodLink RX12 219 yX12_sums ∈ tG := inG (i := 1857) (by decide +kernel) (by decide +kernel)
theorem m_X12_sums : MV Y_X12_sums 1 12 := ⟨⟨inG (i := 1860) (by decide +kernel) (by decide +kernel), inG (i := 110) (by decide +kernel) (by decide +kernel), by decide, by decide, by decide, by decide +kernel⟩, inG (i := 1859) (by decide +kernel) (by decide +kernel), inG (i := 80) (by decide +kernel) (by decide +kernel), by decide⟩
theorem sh_1326 : shp 1326 = (0, 7) := rfl
theorem sh_1328 : shp 1328 = (0, 7) := rfl
def P_X12_tests_J136 (x1 : Int) (x2 : Int)  (Q : St → Prop) (σ : St) : Prop :=
  0 ≤ x1 ∧ x1 < 7 ∧ 0 ≤ x1 ∧ x1 < 7 ∧ 0 ≤ x1 ∧ x1 < 7 ∧ 0 ≤ x1 ∧ x1 < 7 ∧ Q (up (up (up (up σ 1326 0 x1 x2) 1329 0 x1 0) 1330 0 x1 0) 1331 0 x1 20)
set_option maxRecDepth 20000 in
set_option maxHeartbeats 2000000 in
theorem e_P_X12_tests_J136 {x1 : Int} {x2 : Int}  {Q : St → Prop} {σ : St}  (h : P_X12_tests_J136 x1 x2 Q σ) : E Y_X12_tests 1 0 0 (QV Q) ww 0 0 136 [some (vR 12 0), some (vI x1), some (vI x2)] [] σ := by
  unfold P_X12_tests_J136 at h
  refine E_aload_n dX12_tests_136 rfl rfl ?_
  refine E_getr (i := 0) dX12_tests_137 fl_RX12_57 rfl rfl (go_12_26 _ _) ?_
  refine E_iload_n dX12_tests_140 rfl rfl ?_
  refine E_iload_n dX12_tests_141 rfl rfl ?_
  obtain ⟨hg0, hg1, h⟩ := h
  refine E_iast dX12_tests_142 sh_1326 hg0 hg1 ?_
  refine E_aload_n dX12_tests_143 rfl rfl ?_
  refine E_getr (i := 0) dX12_tests_144 fl_RX12_66 rfl rfl (go_12_29 _ _) ?_
  refine E_iload_n dX12_tests_147 rfl rfl ?_
  refine E_ic dX12_tests_148 rfl ?_
  obtain ⟨hg0, hg1, h⟩ := h
  refine E_iast dX12_tests_149 sh_1329 hg0 hg1 ?_
  refine E_aload_n dX12_tests_150 rfl rfl ?_
  refine E_getr (i := 0) dX12_tests_151 fl_RX12_69 rfl rfl (go_12_30 _ _) ?_
  refine E_iload_n dX12_tests_154 rfl rfl ?_
  refine E_ic dX12_tests_155 rfl ?_
  obtain ⟨hg0, hg1, h⟩ := h
  refine E_iast dX12_tests_156 sh_1330 hg0 hg1 ?_
  refine E_aload_n dX12_tests_157 rfl rfl ?_
  refine E_getr (i := 0) dX12_tests_158 fl_RX12_72 rfl rfl (go_12_31 _ _) ?_
  refine E_iload_n dX12_tests_161 rfl rfl ?_
  refine E_bp dX12_tests_162 rfl ?_
  obtain ⟨hg0, hg1, h⟩ := h
  refine E_iast dX12_tests_164 sh_1331 hg0 hg1 ?_
  exact E_vret dX12_tests_165 rfl ⟨rfl, rfl, h⟩
def P_X12_tests_J135 (x1 : Int) (y0 : Int)  (Q : St → Prop) (σ : St) : Prop :=
  P_X12_tests_J136 x1 y0 Q σ
set_option maxRecDepth 20000 in
set_option maxHeartbeats 2000000 in
theorem e_P_X12_tests_J135 {x1 : Int} {y0 : Int}  {Q : St → Prop} {σ : St}  (h : P_X12_tests_J135 x1 y0 Q σ) : E Y_X12_tests 1 0 0 (QV Q) ww 0 0 135 [some (vR 12 0), some (vI x1), none] [vI y0] σ := by
  unfold P_X12_tests_J135 at h
  refine E_istore_n (ls' := [some (vR 12 0), some (vI x1), some (vI y0)]) dX12_tests_135 rfl (by decide) rfl ?_
  exact e_P_X12_tests_J136 h
def P_X12_tests_J130 (x1 : Int)  (Q : St → Prop) (σ : St) : Prop :=
  P_X12_tests_J135 x1 1 Q σ
set_option maxRecDepth 20000 in
set_option maxHeartbeats 2000000 in
theorem e_P_X12_tests_J130 {x1 : Int}  {Q : St → Prop} {σ : St}  (h : P_X12_tests_J130 x1 Q σ) : E Y_X12_tests 1 0 0 (QV Q) ww 0 0 130 [some (vR 12 0), some (vI x1), none] [] σ := by
  unfold P_X12_tests_J130 at h
  refine E_ic dX12_tests_130 rfl ?_
  refine E_goto (tgt := 135) dX12_tests_131 (by decide) ?_
  exact e_P_X12_tests_J135 h
def P_X12_tests_J106 (x1 : Int) (x2 : Int)  (Q : St → Prop) (σ : St) : Prop :=
  0 ≤ x1 ∧ x1 < 7 ∧ (if (σ 1327 0 x1) = 27 then 0 ≤ x1 ∧ x1 < 7 ∧ (if (σ 1326 0 x1) = 0 then (if x2 = 0 then P_X12_tests_J135 x1 0 Q σ else P_X12_tests_J130 x1 Q σ) else P_X12_tests_J130 x1 Q σ) else P_X12_tests_J136 x1 x2 Q σ)
set_option maxRecDepth 20000 in
set_option maxHeartbeats 2000000 in
theorem e_P_X12_tests_J106 {x1 : Int} {x2 : Int}  {Q : St → Prop} {σ : St}  (h : P_X12_tests_J106 x1 x2 Q σ) : E Y_X12_tests 1 0 0 (QV Q) ww 0 0 106 [some (vR 12 0), some (vI x1), some (vI x2)] [] σ := by
  unfold P_X12_tests_J106 at h
  refine E_aload_n dX12_tests_106 rfl rfl ?_
  refine E_getr (i := 0) dX12_tests_107 fl_RX12_60 rfl rfl (go_12_27 _ _) ?_
  refine E_iload_n dX12_tests_110 rfl rfl ?_
  obtain ⟨hg0, hg1, h⟩ := h
  refine E_iald dX12_tests_111 sh_1327 hg0 hg1 ?_
  refine E_bp dX12_tests_112 rfl ?_
  refine E_icmp_ne (tgt := 136) dX12_tests_114 (by decide) (fun hc => ?_) (fun hc => ?_)
  · have h := Eq.mp (if_neg hc) h
    exact e_P_X12_tests_J136 h
  · have h := Eq.mp (if_pos hc) h
    refine E_aload_n dX12_tests_117 rfl rfl ?_
    refine E_getr (i := 0) dX12_tests_118 fl_RX12_57 rfl rfl (go_12_26 _ _) ?_
    refine E_iload_n dX12_tests_121 rfl rfl ?_
    obtain ⟨hg0, hg1, h⟩ := h
    refine E_iald dX12_tests_122 sh_1326 hg0 hg1 ?_
    refine E_if_ne (tgt := 130) dX12_tests_123 (by decide) (fun hc => ?_) (fun hc => ?_)
    · have h := Eq.mp (if_neg hc) h
      refine E_wk2 [some (vR 12 0), some (vI x1), none] ⟨rfl, ⟨rfl, trivial⟩⟩ ?_
      exact e_P_X12_tests_J130 h
    · have h := Eq.mp (if_pos hc) h
      refine E_iload_n dX12_tests_126 rfl rfl ?_
      refine E_if_eq (tgt := 134) dX12_tests_127 (by decide) (fun hc => ?_) (fun hc => ?_)
      · have h := Eq.mp (if_pos hc) h
        refine E_ic dX12_tests_134 rfl ?_
        refine E_wk2 [some (vR 12 0), some (vI x1), none] ⟨rfl, ⟨rfl, trivial⟩⟩ ?_
        exact e_P_X12_tests_J135 h
      · have h := Eq.mp (if_neg hc) h
        refine E_wk2 [some (vR 12 0), some (vI x1), none] ⟨rfl, ⟨rfl, trivial⟩⟩ ?_
        exact e_P_X12_tests_J130 h
def P_X12_tests_J105 (x1 : Int) (y0 : Int)  (Q : St → Prop) (σ : St) : Prop :=
  P_X12_tests_J106 x1 y0 Q σ
set_option maxRecDepth 20000 in
set_option maxHeartbeats 2000000 in
theorem e_P_X12_tests_J105 {x1 : Int} {y0 : Int}  {Q : St → Prop} {σ : St}  (h : P_X12_tests_J105 x1 y0 Q σ) : E Y_X12_tests 1 0 0 (QV Q) ww 0 0 105 [some (vR 12 0), some (vI x1), none] [vI y0] σ := by
  unfold P_X12_tests_J105 at h
  refine E_istore_n (ls' := [some (vR 12 0), some (vI x1), some (vI y0)]) dX12_tests_105 rfl (by decide) rfl ?_
  exact e_P_X12_tests_J106 h
def P_X12_tests_J104 (x1 : Int)  (Q : St → Prop) (σ : St) : Prop :=
  P_X12_tests_J105 x1 0 Q σ
set_option maxRecDepth 20000 in
set_option maxHeartbeats 2000000 in
theorem e_P_X12_tests_J104 {x1 : Int}  {Q : St → Prop} {σ : St}  (h : P_X12_tests_J104 x1 Q σ) : E Y_X12_tests 1 0 0 (QV Q) ww 0 0 104 [some (vR 12 0), some (vI x1), none] [] σ := by
  unfold P_X12_tests_J104 at h
  refine E_ic dX12_tests_104 rfl ?_
  exact e_P_X12_tests_J105 h
def P_X12_tests_J76 (x1 : Int) (x2 : Int)  (Q : St → Prop) (σ : St) : Prop :=
  0 ≤ x1 ∧ x1 < 7 ∧ (if (σ 1327 0 x1) = 26 then 0 ≤ x1 ∧ x1 < 7 ∧ (if (σ 1326 0 x1) = 0 then P_X12_tests_J104 x1 Q σ else (if x2 = 0 then P_X12_tests_J104 x1 Q σ else P_X12_tests_J105 x1 1 Q σ)) else P_X12_tests_J106 x1 x2 Q σ)
set_option maxRecDepth 20000 in
set_option maxHeartbeats 2000000 in
theorem e_P_X12_tests_J76 {x1 : Int} {x2 : Int}  {Q : St → Prop} {σ : St}  (h : P_X12_tests_J76 x1 x2 Q σ) : E Y_X12_tests 1 0 0 (QV Q) ww 0 0 76 [some (vR 12 0), some (vI x1), some (vI x2)] [] σ := by
  unfold P_X12_tests_J76 at h
  refine E_aload_n dX12_tests_76 rfl rfl ?_
  refine E_getr (i := 0) dX12_tests_77 fl_RX12_60 rfl rfl (go_12_27 _ _) ?_
  refine E_iload_n dX12_tests_80 rfl rfl ?_
  obtain ⟨hg0, hg1, h⟩ := h
  refine E_iald dX12_tests_81 sh_1327 hg0 hg1 ?_
  refine E_bp dX12_tests_82 rfl ?_
  refine E_icmp_ne (tgt := 106) dX12_tests_84 (by decide) (fun hc => ?_) (fun hc => ?_)
  · have h := Eq.mp (if_neg hc) h
    exact e_P_X12_tests_J106 h
  · have h := Eq.mp (if_pos hc) h
    refine E_aload_n dX12_tests_87 rfl rfl ?_
    refine E_getr (i := 0) dX12_tests_88 fl_RX12_57 rfl rfl (go_12_26 _ _) ?_
    refine E_iload_n dX12_tests_91 rfl rfl ?_
    obtain ⟨hg0, hg1, h⟩ := h
    refine E_iald dX12_tests_92 sh_1326 hg0 hg1 ?_
    refine E_if_eq (tgt := 104) dX12_tests_93 (by decide) (fun hc => ?_) (fun hc => ?_)
    · have h := Eq.mp (if_pos hc) h
      refine E_wk2 [some (vR 12 0), some (vI x1), none] ⟨rfl, ⟨rfl, trivial⟩⟩ ?_
      exact e_P_X12_tests_J104 h
    · have h := Eq.mp (if_neg hc) h
      refine E_iload_n dX12_tests_96 rfl rfl ?_
      refine E_if_eq (tgt := 104) dX12_tests_97 (by decide) (fun hc => ?_) (fun hc => ?_)
      · have h := Eq.mp (if_pos hc) h
        refine E_wk2 [some (vR 12 0), some (vI x1), none] ⟨rfl, ⟨rfl, trivial⟩⟩ ?_
        exact e_P_X12_tests_J104 h
      · have h := Eq.mp (if_neg hc) h
        refine E_ic dX12_tests_100 rfl ?_
        refine E_goto (tgt := 105) dX12_tests_101 (by decide) ?_
        refine E_wk2 [some (vR 12 0), some (vI x1), none] ⟨rfl, ⟨rfl, trivial⟩⟩ ?_
        exact e_P_X12_tests_J105 h
def P_X12_tests_J75 (x1 : Int) (y0 : Int)  (Q : St → Prop) (σ : St) : Prop :=
  P_X12_tests_J76 x1 y0 Q σ
set_option maxRecDepth 20000 in
set_option maxHeartbeats 2000000 in
theorem e_P_X12_tests_J75 {x1 : Int} {y0 : Int}  {Q : St → Prop} {σ : St}  (h : P_X12_tests_J75 x1 y0 Q σ) : E Y_X12_tests 1 0 0 (QV Q) ww 0 0 75 [some (vR 12 0), some (vI x1), none] [vI y0] σ := by
  unfold P_X12_tests_J75 at h
  refine E_istore_n (ls' := [some (vR 12 0), some (vI x1), some (vI y0)]) dX12_tests_75 rfl (by decide) rfl ?_
  exact e_P_X12_tests_J76 h
def P_X12_tests_J44 (x1 : Int) (x2 : Int)  (Q : St → Prop) (σ : St) : Prop :=
  0 ≤ x1 ∧ x1 < 7 ∧ (if (σ 1329 0 x1) = 25 then 0 ≤ x1 ∧ x1 < 7 ∧ 0 ≤ x1 ∧ x1 < 7 ∧ (if (σ 1328 0 x1) = (σ 1330 0 x1) then P_X12_tests_J75 x1 1 Q σ else P_X12_tests_J75 x1 0 Q σ) else P_X12_tests_J76 x1 x2 Q σ)
set_option maxRecDepth 20000 in
set_option maxHeartbeats 2000000 in
theorem e_P_X12_tests_J44 {x1 : Int} {x2 : Int}  {Q : St → Prop} {σ : St}  (h : P_X12_tests_J44 x1 x2 Q σ) : E Y_X12_tests 1 0 0 (QV Q) ww 0 0 44 [some (vR 12 0), some (vI x1), some (vI x2)] [] σ := by
  unfold P_X12_tests_J44 at h
  refine E_aload_n dX12_tests_44 rfl rfl ?_
  refine E_getr (i := 0) dX12_tests_45 fl_RX12_66 rfl rfl (go_12_29 _ _) ?_
  refine E_iload_n dX12_tests_48 rfl rfl ?_
  obtain ⟨hg0, hg1, h⟩ := h
  refine E_iald dX12_tests_49 sh_1329 hg0 hg1 ?_
  refine E_bp dX12_tests_50 rfl ?_
  refine E_icmp_ne (tgt := 76) dX12_tests_52 (by decide) (fun hc => ?_) (fun hc => ?_)
  · have h := Eq.mp (if_neg hc) h
    exact e_P_X12_tests_J76 h
  · have h := Eq.mp (if_pos hc) h
    refine E_aload_n dX12_tests_55 rfl rfl ?_
    refine E_getr (i := 0) dX12_tests_56 fl_RX12_63 rfl rfl (go_12_28 _ _) ?_
    refine E_iload_n dX12_tests_59 rfl rfl ?_
    obtain ⟨hg0, hg1, h⟩ := h
    refine E_iald dX12_tests_60 sh_1328 hg0 hg1 ?_
    refine E_aload_n dX12_tests_61 rfl rfl ?_
    refine E_getr (i := 0) dX12_tests_62 fl_RX12_69 rfl rfl (go_12_30 _ _) ?_
    refine E_iload_n dX12_tests_65 rfl rfl ?_
    obtain ⟨hg0, hg1, h⟩ := h
    refine E_iald dX12_tests_66 sh_1330 hg0 hg1 ?_
    refine E_icmp_ne (tgt := 74) dX12_tests_67 (by decide) (fun hc => ?_) (fun hc => ?_)
    · have h := Eq.mp (if_neg hc) h
      refine E_ic dX12_tests_74 rfl ?_
      refine E_wk2 [some (vR 12 0), some (vI x1), none] ⟨rfl, ⟨rfl, trivial⟩⟩ ?_
      exact e_P_X12_tests_J75 h
    · have h := Eq.mp (if_pos hc) h
      refine E_ic dX12_tests_70 rfl ?_
      refine E_goto (tgt := 75) dX12_tests_71 (by decide) ?_
      refine E_wk2 [some (vR 12 0), some (vI x1), none] ⟨rfl, ⟨rfl, trivial⟩⟩ ?_
      exact e_P_X12_tests_J75 h
def P_X12_tests_J43 (x1 : Int) (y0 : Int)  (Q : St → Prop) (σ : St) : Prop :=
  P_X12_tests_J44 x1 y0 Q σ
set_option maxRecDepth 20000 in
set_option maxHeartbeats 2000000 in
theorem e_P_X12_tests_J43 {x1 : Int} {y0 : Int}  {Q : St → Prop} {σ : St}  (h : P_X12_tests_J43 x1 y0 Q σ) : E Y_X12_tests 1 0 0 (QV Q) ww 0 0 43 [some (vR 12 0), some (vI x1), none] [vI y0] σ := by
  unfold P_X12_tests_J43 at h
  refine E_istore_n (ls' := [some (vR 12 0), some (vI x1), some (vI y0)]) dX12_tests_43 rfl (by decide) rfl ?_
  exact e_P_X12_tests_J44 h
def P_X12_tests (x1 : Int) (σ : St) (Q : St → Prop) : Prop :=
  P_X12_sums x1 σ (fun σ_1 => 0 ≤ x1 ∧ x1 < 7 ∧ 0 ≤ x1 ∧ x1 < 7 ∧ (if (σ_1 1329 0 x1) = 24 then 0 ≤ x1 ∧ x1 < 7 ∧ 0 ≤ x1 ∧ x1 < 7 ∧ (if (σ_1 1330 0 x1) ≤ (σ_1 1328 0 x1) then P_X12_tests_J43 x1 0 Q σ_1 else P_X12_tests_J43 x1 1 Q σ_1) else P_X12_tests_J44 x1 (σ_1 1330 0 x1) Q σ_1))
set_option maxRecDepth 20000 in
set_option maxHeartbeats 2000000 in
theorem s_X12_tests {x1 : Int} {σ : St} {Q : St → Prop} (h : P_X12_tests x1 σ Q) : Cn Y_X12_tests 1 0 0 ww σ [vR 12 0, vI x1] (QV Q) := by
  refine Cn_of [some (vR 12 0), some (vI x1), none] (by decide) (Nat.le_of_ble_eq_true rfl) rfl ?_
  unfold P_X12_tests at h
  refine E_aload_n dX12_tests_0 rfl rfl ?_
  refine E_iload_n dX12_tests_1 rfl rfl ?_
  refine E_callV (Y' := Y_X12_sums) (as := [vI x1]) (st := []) dX12_tests_2 lk_RX12_219 m_X12_sums (by decide) (Nat.le_refl _) (Nat.le_refl _) rfl rfl (Nat.le_of_ble_eq_true rfl) (s_X12_sums h) (fun r0 B0 σ_1 h => ?_)
  obtain ⟨rfl, rfl, h⟩ := h
  refine E_aload_n dX12_tests_5 rfl rfl ?_
  refine E_getr (i := 0) dX12_tests_6 fl_RX12_69 rfl rfl (go_12_30 _ _) ?_
  refine E_iload_n dX12_tests_9 rfl rfl ?_
  obtain ⟨hg0, hg1, h⟩ := h
  refine E_iald dX12_tests_10 sh_1330 hg0 hg1 ?_
  refine E_istore_n (ls' := [some (vR 12 0), some (vI x1), some (vI (σ_1 1330 0 x1))]) dX12_tests_11 rfl (by decide) rfl ?_
  refine E_aload_n dX12_tests_12 rfl rfl ?_
  refine E_getr (i := 0) dX12_tests_13 fl_RX12_66 rfl rfl (go_12_29 _ _) ?_
  refine E_iload_n dX12_tests_16 rfl rfl ?_
  obtain ⟨hg0, hg1, h⟩ := h
  refine E_iald dX12_tests_17 sh_1329 hg0 hg1 ?_
  refine E_bp dX12_tests_18 rfl ?_
  refine E_icmp_ne (tgt := 44) dX12_tests_20 (by decide) (fun hc => ?_) (fun hc => ?_)
  · have h := Eq.mp (if_neg hc) h
    exact e_P_X12_tests_J44 h
  · have h := Eq.mp (if_pos hc) h
    refine E_aload_n dX12_tests_23 rfl rfl ?_
    refine E_getr (i := 0) dX12_tests_24 fl_RX12_63 rfl rfl (go_12_28 _ _) ?_
    refine E_iload_n dX12_tests_27 rfl rfl ?_
    obtain ⟨hg0, hg1, h⟩ := h
    refine E_iald dX12_tests_28 sh_1328 hg0 hg1 ?_
    refine E_aload_n dX12_tests_29 rfl rfl ?_
    refine E_getr (i := 0) dX12_tests_30 fl_RX12_69 rfl rfl (go_12_30 _ _) ?_
    refine E_iload_n dX12_tests_33 rfl rfl ?_
    obtain ⟨hg0, hg1, h⟩ := h
    refine E_iald dX12_tests_34 sh_1330 hg0 hg1 ?_
    refine E_icmp_ge (tgt := 42) dX12_tests_35 (by decide) (fun hc => ?_) (fun hc => ?_)
    · have h := Eq.mp (if_pos hc) h
      refine E_ic dX12_tests_42 rfl ?_
      refine E_wk2 [some (vR 12 0), some (vI x1), none] ⟨rfl, ⟨rfl, trivial⟩⟩ ?_
      exact e_P_X12_tests_J43 h
    · have h := Eq.mp (if_neg hc) h
      refine E_ic dX12_tests_38 rfl ?_
      refine E_goto (tgt := 43) dX12_tests_39 (by decide) ?_
      refine E_wk2 [some (vR 12 0), some (vI x1), none] ⟨rfl, ⟨rfl, trivial⟩⟩ ?_
      exact e_P_X12_tests_J43 h
