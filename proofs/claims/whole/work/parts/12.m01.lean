abbrev Y_X7_note : My := (yX7_note, cX7_note, 4, some .boolean)
theorem dX7_note_0 : decode cX7_note 0 = .ok (.aload_n 0, 1) := by decide +kernel
theorem dX7_note_1 : decode cX7_note 1 = .ok (.getfield 22, 3) := by decide +kernel
theorem dX7_note_4 : decode cX7_note 4 = .ok (.bipush 8, 2) := by decide +kernel
theorem dX7_note_6 : decode cX7_note 6 = .ok (.if_icmp .lt 5, 3) := by decide +kernel
theorem dX7_note_9 : decode cX7_note 9 = .ok (.iconst 0, 1) := by decide +kernel
theorem dX7_note_10 : decode cX7_note 10 = .ok (.ireturn, 1) := by decide +kernel
theorem dX7_note_11 : decode cX7_note 11 = .ok (.aload_n 0, 1) := by decide +kernel
theorem dX7_note_12 : decode cX7_note 12 = .ok (.getfield 9, 3) := by decide +kernel
theorem dX7_note_15 : decode cX7_note 15 = .ok (.aload_n 0, 1) := by decide +kernel
theorem dX7_note_16 : decode cX7_note 16 = .ok (.getfield 22, 3) := by decide +kernel
theorem dX7_note_19 : decode cX7_note 19 = .ok (.iload_n 1, 1) := by decide +kernel
theorem dX7_note_20 : decode cX7_note 20 = .ok (.iastore, 1) := by decide +kernel
theorem dX7_note_21 : decode cX7_note 21 = .ok (.aload_n 0, 1) := by decide +kernel
theorem dX7_note_22 : decode cX7_note 22 = .ok (.getfield 15, 3) := by decide +kernel
theorem dX7_note_25 : decode cX7_note 25 = .ok (.aload_n 0, 1) := by decide +kernel
theorem dX7_note_26 : decode cX7_note 26 = .ok (.getfield 22, 3) := by decide +kernel
theorem dX7_note_29 : decode cX7_note 29 = .ok (.iload_n 2, 1) := by decide +kernel
theorem dX7_note_30 : decode cX7_note 30 = .ok (.iastore, 1) := by decide +kernel
theorem dX7_note_31 : decode cX7_note 31 = .ok (.aload_n 0, 1) := by decide +kernel
theorem dX7_note_32 : decode cX7_note 32 = .ok (.getfield 18, 3) := by decide +kernel
theorem dX7_note_35 : decode cX7_note 35 = .ok (.aload_n 0, 1) := by decide +kernel
theorem dX7_note_36 : decode cX7_note 36 = .ok (.getfield 22, 3) := by decide +kernel
theorem dX7_note_39 : decode cX7_note 39 = .ok (.iload_n 3, 1) := by decide +kernel
theorem dX7_note_40 : decode cX7_note 40 = .ok (.bastore, 1) := by decide +kernel
theorem dX7_note_41 : decode cX7_note 41 = .ok (.aload_n 0, 1) := by decide +kernel
theorem dX7_note_42 : decode cX7_note 42 = .ok (.dup, 1) := by decide +kernel
theorem dX7_note_43 : decode cX7_note 43 = .ok (.getfield 22, 3) := by decide +kernel
theorem dX7_note_46 : decode cX7_note 46 = .ok (.iconst 1, 1) := by decide +kernel
theorem dX7_note_47 : decode cX7_note 47 = .ok (.iadd, 1) := by decide +kernel
theorem dX7_note_48 : decode cX7_note 48 = .ok (.putfield 22, 3) := by decide +kernel
theorem dX7_note_51 : decode cX7_note 51 = .ok (.iconst 1, 1) := by decide +kernel
theorem dX7_note_52 : decode cX7_note 52 = .ok (.ireturn, 1) := by decide +kernel
theorem fl_RX7_15 : FL RX7 15 7 1 := ⟨inG (i := 383) (by decide +kernel) (by decide +kernel), by decide, by decide⟩
theorem fl_RX7_18 : FL RX7 18 7 2 := ⟨inG (i := 384) (by decide +kernel) (by decide +kernel), by decide, by decide⟩
theorem fl_RX7_22 : FL RX7 22 7 3 := ⟨inG (i := 385) (by decide +kernel) (by decide +kernel), by decide, by decide⟩
theorem fl_RX7_9 : FL RX7 9 7 0 := ⟨inG (i := 382) (by decide +kernel) (by decide +kernel), by decide, by decide⟩
theorem go_7_0 (σ : St) (i : Nat) : go σ 7 i 0 = (800, i) := rfl
theorem go_7_1 (σ : St) (i : Nat) : go σ 7 i 1 = (801, i) := rfl
theorem go_7_2 (σ : St) (i : Nat) : go σ 7 i 2 = (802, i) := rfl
theorem sh_800 : shp 800 = (0, 8) := rfl
theorem sh_801 : shp 801 = (0, 8) := rfl
theorem sh_802 : shp 802 = (2, 8) := rfl
def P_X7_note  (o0 : Nat) (x1 : Int) (x2 : Int) (x3 : Int) (σ : St) (Q : Int → St → Prop) : Prop :=
  (if (σ 7 o0 3) < 8 then 0 ≤ σ 7 o0 3 ∧ σ 7 o0 3 < 8 ∧ 0 ≤ (up σ 800 o0 (σ 7 o0 3) x1) 7 o0 3 ∧ (up σ 800 o0 (σ 7 o0 3) x1) 7 o0 3 < 8 ∧ 0 ≤ (up (up σ 800 o0 (σ 7 o0 3) x1) 801 o0 ((up σ 800 o0 (σ 7 o0 3) x1) 7 o0 3) x2) 7 o0 3 ∧ (up (up σ 800 o0 (σ 7 o0 3) x1) 801 o0 ((up σ 800 o0 (σ 7 o0 3) x1) 7 o0 3) x2) 7 o0 3 < 8 ∧ (x3 = 0 ∨ x3 = 1) ∧ Q 1 (up (up (up (up σ 800 o0 (σ 7 o0 3) x1) 801 o0 ((up σ 800 o0 (σ 7 o0 3) x1) 7 o0 3) x2) 802 o0 ((up (up σ 800 o0 (σ 7 o0 3) x1) 801 o0 ((up σ 800 o0 (σ 7 o0 3) x1) 7 o0 3) x2) 7 o0 3) x3) 7 o0 3 (wi (((up (up (up σ 800 o0 (σ 7 o0 3) x1) 801 o0 ((up σ 800 o0 (σ 7 o0 3) x1) 7 o0 3) x2) 802 o0 ((up (up σ 800 o0 (σ 7 o0 3) x1) 801 o0 ((up σ 800 o0 (σ 7 o0 3) x1) 7 o0 3) x2) 7 o0 3) x3) 7 o0 3) + 1))) else Q 0 σ)
set_option maxRecDepth 20000 in
set_option maxHeartbeats 2000000 in
theorem s_X7_note   {o0 : Nat} {x1 : Int} {x2 : Int} {x3 : Int} {σ : St} {Q : Int → St → Prop} (h : P_X7_note o0 x1 x2 x3 σ Q) : Cn Y_X7_note 0 0 0 ww σ [vR 7 o0, vI x1, vI x2, vI x3] (QI Q) := by
  refine Cn_of [some (vR 7 o0), some (vI x1), some (vI x2), some (vI x3)] (by decide) (Nat.le_of_ble_eq_true rfl) rfl ?_
  unfold P_X7_note at h
  refine E_aload_n dX7_note_0 rfl rfl ?_
  refine E_geti (i := o0) dX7_note_1 fl_RX7_22 rfl ?_
  refine E_bp dX7_note_4 rfl ?_
  refine E_icmp_lt (tgt := 11) dX7_note_6 (by decide) (fun hc => ?_) (fun hc => ?_)
  · have h := Eq.mp (if_pos hc) h
    refine E_aload_n dX7_note_11 rfl rfl ?_
    refine E_getr (i := o0) dX7_note_12 fl_RX7_9 rfl rfl (go_7_0 _ _) ?_
    refine E_aload_n dX7_note_15 rfl rfl ?_
    refine E_geti (i := o0) dX7_note_16 fl_RX7_22 rfl ?_
    refine E_iload_n dX7_note_19 rfl rfl ?_
    obtain ⟨hg0, hg1, h⟩ := h
    refine E_iast dX7_note_20 sh_800 hg0 hg1 ?_
    refine E_aload_n dX7_note_21 rfl rfl ?_
    refine E_getr (i := o0) dX7_note_22 fl_RX7_15 rfl rfl (go_7_1 _ _) ?_
    refine E_aload_n dX7_note_25 rfl rfl ?_
    refine E_geti (i := o0) dX7_note_26 fl_RX7_22 rfl ?_
    refine E_iload_n dX7_note_29 rfl rfl ?_
    obtain ⟨hg0, hg1, h⟩ := h
    refine E_iast dX7_note_30 sh_801 hg0 hg1 ?_
    refine E_aload_n dX7_note_31 rfl rfl ?_
    refine E_getr (i := o0) dX7_note_32 fl_RX7_18 rfl rfl (go_7_2 _ _) ?_
    refine E_aload_n dX7_note_35 rfl rfl ?_
    refine E_geti (i := o0) dX7_note_36 fl_RX7_22 rfl ?_
    refine E_iload_n dX7_note_39 rfl rfl ?_
    obtain ⟨hg0, hg1, hg2, h⟩ := h
    refine E_zast dX7_note_40 sh_802 hg0 hg1 hg2 ?_
    refine E_aload_n dX7_note_41 rfl rfl ?_
    refine E_dup dX7_note_42 (fun _ q => by cases q) ?_
    refine E_geti (i := o0) dX7_note_43 fl_RX7_22 rfl ?_
    refine E_ic dX7_note_46 rfl ?_
    refine E_iadd dX7_note_47 ?_
    refine E_puti dX7_note_48 fl_RX7_22 rfl rfl rfl ?_
    refine E_ic dX7_note_51 rfl ?_
    exact E_zret dX7_note_52 rfl (by decide) ⟨_, rfl, rfl, h⟩
  · have h := Eq.mp (if_neg hc) h
    refine E_ic dX7_note_9 rfl ?_
    exact E_zret dX7_note_10 rfl (by decide) ⟨_, rfl, rfl, h⟩
abbrev Y_X7_take : My := (yX7_take, cX7_take, 3, none)
theorem dX7_take_0 : decode cX7_take 0 = .ok (.aload_n 0, 1) := by decide +kernel
theorem dX7_take_1 : decode cX7_take 1 = .ok (.aload_n 1, 1) := by decide +kernel
theorem dX7_take_2 : decode cX7_take 2 = .ok (.getfield 22, 3) := by decide +kernel
theorem dX7_take_5 : decode cX7_take 5 = .ok (.putfield 22, 3) := by decide +kernel
theorem dX7_take_8 : decode cX7_take 8 = .ok (.iconst 0, 1) := by decide +kernel
theorem dX7_take_9 : decode cX7_take 9 = .ok (.istore_n 2, 1) := by decide +kernel
theorem dX7_take_10 : decode cX7_take 10 = .ok (.iload_n 2, 1) := by decide +kernel
theorem dX7_take_11 : decode cX7_take 11 = .ok (.aload_n 0, 1) := by decide +kernel
theorem dX7_take_12 : decode cX7_take 12 = .ok (.getfield 22, 3) := by decide +kernel
theorem dX7_take_15 : decode cX7_take 15 = .ok (.if_icmp .ge 45, 3) := by decide +kernel
theorem dX7_take_18 : decode cX7_take 18 = .ok (.aload_n 0, 1) := by decide +kernel
theorem dX7_take_19 : decode cX7_take 19 = .ok (.getfield 9, 3) := by decide +kernel
theorem dX7_take_22 : decode cX7_take 22 = .ok (.iload_n 2, 1) := by decide +kernel
theorem dX7_take_23 : decode cX7_take 23 = .ok (.aload_n 1, 1) := by decide +kernel
theorem dX7_take_24 : decode cX7_take 24 = .ok (.getfield 9, 3) := by decide +kernel
theorem dX7_take_27 : decode cX7_take 27 = .ok (.iload_n 2, 1) := by decide +kernel
theorem dX7_take_28 : decode cX7_take 28 = .ok (.iaload, 1) := by decide +kernel
theorem dX7_take_29 : decode cX7_take 29 = .ok (.iastore, 1) := by decide +kernel
theorem dX7_take_30 : decode cX7_take 30 = .ok (.aload_n 0, 1) := by decide +kernel
theorem dX7_take_31 : decode cX7_take 31 = .ok (.getfield 15, 3) := by decide +kernel
theorem dX7_take_34 : decode cX7_take 34 = .ok (.iload_n 2, 1) := by decide +kernel
theorem dX7_take_35 : decode cX7_take 35 = .ok (.aload_n 1, 1) := by decide +kernel
theorem dX7_take_36 : decode cX7_take 36 = .ok (.getfield 15, 3) := by decide +kernel
theorem dX7_take_39 : decode cX7_take 39 = .ok (.iload_n 2, 1) := by decide +kernel
theorem dX7_take_40 : decode cX7_take 40 = .ok (.iaload, 1) := by decide +kernel
theorem dX7_take_41 : decode cX7_take 41 = .ok (.iastore, 1) := by decide +kernel
theorem dX7_take_42 : decode cX7_take 42 = .ok (.aload_n 0, 1) := by decide +kernel
theorem dX7_take_43 : decode cX7_take 43 = .ok (.getfield 18, 3) := by decide +kernel
theorem dX7_take_46 : decode cX7_take 46 = .ok (.iload_n 2, 1) := by decide +kernel
theorem dX7_take_47 : decode cX7_take 47 = .ok (.aload_n 1, 1) := by decide +kernel
theorem dX7_take_48 : decode cX7_take 48 = .ok (.getfield 18, 3) := by decide +kernel
theorem dX7_take_51 : decode cX7_take 51 = .ok (.iload_n 2, 1) := by decide +kernel
theorem dX7_take_52 : decode cX7_take 52 = .ok (.baload, 1) := by decide +kernel
theorem dX7_take_53 : decode cX7_take 53 = .ok (.bastore, 1) := by decide +kernel
theorem dX7_take_54 : decode cX7_take 54 = .ok (.iinc 2 1, 3) := by decide +kernel
theorem dX7_take_57 : decode cX7_take 57 = .ok (.goto (-47), 3) := by decide +kernel
theorem dX7_take_60 : decode cX7_take 60 = .ok (.return_, 1) := by decide +kernel
def P_X7_take_L10  (o0 : Nat) (o1 : Nat)  (Q : St → Prop) : Nat → Int → St → Prop
  | 0, _, _ => False
  | n + 1, x2, σ => (if (σ 7 o0 3) ≤ x2 then Q σ else 0 ≤ x2 ∧ x2 < 8 ∧ 0 ≤ x2 ∧ x2 < 8 ∧ 0 ≤ x2 ∧ x2 < 8 ∧ 0 ≤ x2 ∧ x2 < 8 ∧ 0 ≤ x2 ∧ x2 < 8 ∧ 0 ≤ x2 ∧ x2 < 8 ∧ (((up (up σ 800 o0 x2 (σ 800 o1 x2)) 801 o0 x2 ((up σ 800 o0 x2 (σ 800 o1 x2)) 801 o1 x2)) 802 o1 x2) = 0 ∨ ((up (up σ 800 o0 x2 (σ 800 o1 x2)) 801 o0 x2 ((up σ 800 o0 x2 (σ 800 o1 x2)) 801 o1 x2)) 802 o1 x2) = 1) ∧ (P_X7_take_L10 o0 o1 Q n) (wi (x2 + 1)) (up (up (up σ 800 o0 x2 (σ 800 o1 x2)) 801 o0 x2 ((up σ 800 o0 x2 (σ 800 o1 x2)) 801 o1 x2)) 802 o0 x2 ((up (up σ 800 o0 x2 (σ 800 o1 x2)) 801 o0 x2 ((up σ 800 o0 x2 (σ 800 o1 x2)) 801 o1 x2)) 802 o1 x2)))
set_option maxRecDepth 20000 in
set_option maxHeartbeats 2000000 in
theorem e_P_X7_take_L10  {o0 : Nat} {o1 : Nat}  {Q : St → Prop}   : ∀ (n : Nat) (x2 : Int) (σ : St), P_X7_take_L10 o0 o1 Q n x2 σ → E Y_X7_take 0 0 0 (QV Q) ww 0 0 10 [some (vR 7 o0), some (vR 7 o1), some (vI x2)] [] σ := by
  intro n
  induction n with
  | zero => intro x2 σ h; exact h.elim
  | succ n hR =>
    intro x2 σ h
    unfold P_X7_take_L10 at h
    refine E_iload_n dX7_take_10 rfl rfl ?_
    refine E_aload_n dX7_take_11 rfl rfl ?_
    refine E_geti (i := o0) dX7_take_12 fl_RX7_22 rfl ?_
    refine E_icmp_ge (tgt := 60) dX7_take_15 (by decide) (fun hc => ?_) (fun hc => ?_)
    · have h := Eq.mp (if_pos hc) h
      exact E_vret dX7_take_60 rfl ⟨rfl, rfl, h⟩
    · have h := Eq.mp (if_neg hc) h
      refine E_aload_n dX7_take_18 rfl rfl ?_
      refine E_getr (i := o0) dX7_take_19 fl_RX7_9 rfl rfl (go_7_0 _ _) ?_
      refine E_iload_n dX7_take_22 rfl rfl ?_
      refine E_aload_n dX7_take_23 rfl rfl ?_
      refine E_getr (i := o1) dX7_take_24 fl_RX7_9 rfl rfl (go_7_0 _ _) ?_
      refine E_iload_n dX7_take_27 rfl rfl ?_
      obtain ⟨hg0, hg1, h⟩ := h
      refine E_iald dX7_take_28 sh_800 hg0 hg1 ?_
      obtain ⟨hg0, hg1, h⟩ := h
      refine E_iast dX7_take_29 sh_800 hg0 hg1 ?_
      refine E_aload_n dX7_take_30 rfl rfl ?_
      refine E_getr (i := o0) dX7_take_31 fl_RX7_15 rfl rfl (go_7_1 _ _) ?_
      refine E_iload_n dX7_take_34 rfl rfl ?_
      refine E_aload_n dX7_take_35 rfl rfl ?_
      refine E_getr (i := o1) dX7_take_36 fl_RX7_15 rfl rfl (go_7_1 _ _) ?_
      refine E_iload_n dX7_take_39 rfl rfl ?_
      obtain ⟨hg0, hg1, h⟩ := h
      refine E_iald dX7_take_40 sh_801 hg0 hg1 ?_
      obtain ⟨hg0, hg1, h⟩ := h
      refine E_iast dX7_take_41 sh_801 hg0 hg1 ?_
      refine E_aload_n dX7_take_42 rfl rfl ?_
      refine E_getr (i := o0) dX7_take_43 fl_RX7_18 rfl rfl (go_7_2 _ _) ?_
      refine E_iload_n dX7_take_46 rfl rfl ?_
      refine E_aload_n dX7_take_47 rfl rfl ?_
      refine E_getr (i := o1) dX7_take_48 fl_RX7_18 rfl rfl (go_7_2 _ _) ?_
      refine E_iload_n dX7_take_51 rfl rfl ?_
      obtain ⟨hg0, hg1, h⟩ := h
      refine E_zald dX7_take_52 sh_802 hg0 hg1 ?_
      obtain ⟨hg0, hg1, hg2, h⟩ := h
      refine E_zast dX7_take_53 sh_802 hg0 hg1 hg2 ?_
      refine E_iinc (ls' := [some (vR 7 o0), some (vR 7 o1), some (vI (wi (x2 + 1)))]) dX7_take_54 rfl (by decide) rfl rfl ?_
      refine E_goto (tgt := 10) dX7_take_57 (by decide) ?_
      exact hR _ _ h
def P_X7_take  (o0 : Nat) (o1 : Nat) (σ : St) (Q : St → Prop) : Prop :=
  P_X7_take_L10 o0 o1 Q FU 0 (up σ 7 o0 3 (σ 7 o1 3))
set_option maxRecDepth 20000 in
set_option maxHeartbeats 2000000 in
theorem s_X7_take   {o0 : Nat} {o1 : Nat} {σ : St} {Q : St → Prop} (h : P_X7_take o0 o1 σ Q) : Cn Y_X7_take 0 0 0 ww σ [vR 7 o0, vR 7 o1] (QV Q) := by
  refine Cn_of [some (vR 7 o0), some (vR 7 o1), none] (by decide) (Nat.le_of_ble_eq_true rfl) rfl ?_
  unfold P_X7_take at h
  refine E_aload_n dX7_take_0 rfl rfl ?_
  refine E_aload_n dX7_take_1 rfl rfl ?_
  refine E_geti (i := o1) dX7_take_2 fl_RX7_22 rfl ?_
  refine E_puti dX7_take_5 fl_RX7_22 rfl rfl rfl ?_
  refine E_ic dX7_take_8 rfl ?_
  refine E_istore_n (ls' := [some (vR 7 o0), some (vR 7 o1), some (vI 0)]) dX7_take_9 rfl (by decide) rfl ?_
  refine e_P_X7_take_L10  _ _ _ h
abbrev Y_X8_clear : My := (yX8_clear, cX8_clear, 1, none)
theorem dX8_clear_0 : decode cX8_clear 0 = .ok (.aload_n 0, 1) := by decide +kernel
theorem dX8_clear_1 : decode cX8_clear 1 = .ok (.iconst 0, 1) := by decide +kernel
theorem dX8_clear_2 : decode cX8_clear 2 = .ok (.putfield 47, 3) := by decide +kernel
theorem dX8_clear_5 : decode cX8_clear 5 = .ok (.aload_n 0, 1) := by decide +kernel
theorem dX8_clear_6 : decode cX8_clear 6 = .ok (.iconst 0, 1) := by decide +kernel
theorem dX8_clear_7 : decode cX8_clear 7 = .ok (.putfield 51, 3) := by decide +kernel
theorem dX8_clear_10 : decode cX8_clear 10 = .ok (.aload_n 0, 1) := by decide +kernel
theorem dX8_clear_11 : decode cX8_clear 11 = .ok (.iconst 0, 1) := by decide +kernel
theorem dX8_clear_12 : decode cX8_clear 12 = .ok (.putfield 54, 3) := by decide +kernel
theorem dX8_clear_15 : decode cX8_clear 15 = .ok (.aload_n 0, 1) := by decide +kernel
theorem dX8_clear_16 : decode cX8_clear 16 = .ok (.iconst 2, 1) := by decide +kernel
theorem dX8_clear_17 : decode cX8_clear 17 = .ok (.putfield 57, 3) := by decide +kernel
theorem dX8_clear_20 : decode cX8_clear 20 = .ok (.aload_n 0, 1) := by decide +kernel
theorem dX8_clear_21 : decode cX8_clear 21 = .ok (.getfield 43, 3) := by decide +kernel
theorem dX8_clear_24 : decode cX8_clear 24 = .ok (.iconst 0, 1) := by decide +kernel
theorem dX8_clear_25 : decode cX8_clear 25 = .ok (.putfield 60, 3) := by decide +kernel
theorem dX8_clear_28 : decode cX8_clear 28 = .ok (.return_, 1) := by decide +kernel
theorem fl_RX8_43 : FL RX8 43 8 9 := ⟨inG (i := 210) (by decide +kernel) (by decide +kernel), by decide, by decide⟩
theorem fl_RX8_47 : FL RX8 47 8 10 := ⟨inG (i := 212) (by decide +kernel) (by decide +kernel), by decide, by decide⟩
theorem fl_RX8_51 : FL RX8 51 8 11 := ⟨inG (i := 218) (by decide +kernel) (by decide +kernel), by decide, by decide⟩
theorem fl_RX8_54 : FL RX8 54 8 12 := ⟨inG (i := 225) (by decide +kernel) (by decide +kernel), by decide, by decide⟩
theorem fl_RX8_57 : FL RX8 57 8 13 := ⟨inG (i := 227) (by decide +kernel) (by decide +kernel), by decide, by decide⟩
theorem fl_RX8_60 : FL RX8 60 2 3 := ⟨inG (i := 180) (by decide +kernel) (by decide +kernel), by decide, by decide⟩
theorem go_8_9 (σ : St) (i : Nat) : go σ 8 i 9 = (2, i) := rfl
def P_X8_clear  (o0 : Nat) (σ : St) (Q : St → Prop) : Prop :=
  Q (up (up (up (up (up σ 8 o0 10 0) 8 o0 11 0) 8 o0 12 0) 8 o0 13 2) 2 o0 3 0)
set_option maxRecDepth 20000 in
set_option maxHeartbeats 2000000 in
theorem s_X8_clear   {o0 : Nat} {σ : St} {Q : St → Prop} (h : P_X8_clear o0 σ Q) : Cn Y_X8_clear 0 0 0 ww σ [vR 8 o0] (QV Q) := by
  refine Cn_of [some (vR 8 o0)] (by decide) (Nat.le_of_ble_eq_true rfl) rfl ?_
  unfold P_X8_clear at h
  refine E_aload_n dX8_clear_0 rfl rfl ?_
  refine E_ic dX8_clear_1 rfl ?_
  refine E_puti dX8_clear_2 fl_RX8_47 rfl rfl rfl ?_
  refine E_aload_n dX8_clear_5 rfl rfl ?_
  refine E_ic dX8_clear_6 rfl ?_
  refine E_puti dX8_clear_7 fl_RX8_51 rfl rfl rfl ?_
  refine E_aload_n dX8_clear_10 rfl rfl ?_
  refine E_ic dX8_clear_11 rfl ?_
  refine E_puti dX8_clear_12 fl_RX8_54 rfl rfl rfl ?_
  refine E_aload_n dX8_clear_15 rfl rfl ?_
  refine E_ic dX8_clear_16 rfl ?_
  refine E_puti dX8_clear_17 fl_RX8_57 rfl rfl rfl ?_
  refine E_aload_n dX8_clear_20 rfl rfl ?_
  refine E_getr (i := o0) dX8_clear_21 fl_RX8_43 rfl rfl (go_8_9 _ _) ?_
  refine E_ic dX8_clear_24 rfl ?_
  refine E_puti dX8_clear_25 fl_RX8_60 rfl rfl rfl ?_
  exact E_vret dX8_clear_28 rfl ⟨rfl, rfl, h⟩
abbrev Y_X8_take : My := (yX8_take, cX8_take, 2, none)
theorem dX8_take_0 : decode cX8_take 0 = .ok (.aload_n 0, 1) := by decide +kernel
theorem dX8_take_1 : decode cX8_take 1 = .ok (.aload_n 1, 1) := by decide +kernel
theorem dX8_take_2 : decode cX8_take 2 = .ok (.getfield 47, 3) := by decide +kernel
theorem dX8_take_5 : decode cX8_take 5 = .ok (.putfield 47, 3) := by decide +kernel
theorem dX8_take_8 : decode cX8_take 8 = .ok (.aload_n 0, 1) := by decide +kernel
theorem dX8_take_9 : decode cX8_take 9 = .ok (.aload_n 1, 1) := by decide +kernel
theorem dX8_take_10 : decode cX8_take 10 = .ok (.getfield 51, 3) := by decide +kernel
theorem dX8_take_13 : decode cX8_take 13 = .ok (.putfield 51, 3) := by decide +kernel
theorem dX8_take_16 : decode cX8_take 16 = .ok (.aload_n 0, 1) := by decide +kernel
theorem dX8_take_17 : decode cX8_take 17 = .ok (.aload_n 1, 1) := by decide +kernel
theorem dX8_take_18 : decode cX8_take 18 = .ok (.getfield 54, 3) := by decide +kernel
theorem dX8_take_21 : decode cX8_take 21 = .ok (.putfield 54, 3) := by decide +kernel
theorem dX8_take_24 : decode cX8_take 24 = .ok (.aload_n 0, 1) := by decide +kernel
theorem dX8_take_25 : decode cX8_take 25 = .ok (.aload_n 1, 1) := by decide +kernel
theorem dX8_take_26 : decode cX8_take 26 = .ok (.getfield 57, 3) := by decide +kernel
theorem dX8_take_29 : decode cX8_take 29 = .ok (.putfield 57, 3) := by decide +kernel
theorem dX8_take_32 : decode cX8_take 32 = .ok (.aload_n 0, 1) := by decide +kernel
theorem dX8_take_33 : decode cX8_take 33 = .ok (.getfield 43, 3) := by decide +kernel
theorem dX8_take_36 : decode cX8_take 36 = .ok (.aload_n 1, 1) := by decide +kernel
theorem dX8_take_37 : decode cX8_take 37 = .ok (.getfield 43, 3) := by decide +kernel
theorem dX8_take_40 : decode cX8_take 40 = .ok (.invokevirtual 63, 3) := by decide +kernel
theorem dX8_take_43 : decode cX8_take 43 = .ok (.aload_n 1, 1) := by decide +kernel
theorem dX8_take_44 : decode cX8_take 44 = .ok (.getfield 9, 3) := by decide +kernel
theorem dX8_take_47 : decode cX8_take 47 = .ok (.iconst 0, 1) := by decide +kernel
theorem dX8_take_48 : decode cX8_take 48 = .ok (.aload_n 0, 1) := by decide +kernel
theorem dX8_take_49 : decode cX8_take 49 = .ok (.getfield 9, 3) := by decide +kernel
theorem dX8_take_52 : decode cX8_take 52 = .ok (.iconst 0, 1) := by decide +kernel
theorem dX8_take_53 : decode cX8_take 53 = .ok (.bipush 6, 2) := by decide +kernel
theorem dX8_take_55 : decode cX8_take 55 = .ok (.invokestatic 67, 3) := by decide +kernel
theorem dX8_take_58 : decode cX8_take 58 = .ok (.aload_n 1, 1) := by decide +kernel
theorem dX8_take_59 : decode cX8_take 59 = .ok (.getfield 15, 3) := by decide +kernel
theorem dX8_take_62 : decode cX8_take 62 = .ok (.iconst 0, 1) := by decide +kernel
theorem dX8_take_63 : decode cX8_take 63 = .ok (.aload_n 0, 1) := by decide +kernel
theorem dX8_take_64 : decode cX8_take 64 = .ok (.getfield 15, 3) := by decide +kernel
theorem dX8_take_67 : decode cX8_take 67 = .ok (.iconst 0, 1) := by decide +kernel
theorem dX8_take_68 : decode cX8_take 68 = .ok (.bipush 6, 2) := by decide +kernel
theorem dX8_take_70 : decode cX8_take 70 = .ok (.invokestatic 67, 3) := by decide +kernel
theorem dX8_take_73 : decode cX8_take 73 = .ok (.aload_n 1, 1) := by decide +kernel
theorem dX8_take_74 : decode cX8_take 74 = .ok (.getfield 18, 3) := by decide +kernel
theorem dX8_take_77 : decode cX8_take 77 = .ok (.iconst 0, 1) := by decide +kernel
theorem dX8_take_78 : decode cX8_take 78 = .ok (.aload_n 0, 1) := by decide +kernel
theorem dX8_take_79 : decode cX8_take 79 = .ok (.getfield 18, 3) := by decide +kernel
theorem dX8_take_82 : decode cX8_take 82 = .ok (.iconst 0, 1) := by decide +kernel
theorem dX8_take_83 : decode cX8_take 83 = .ok (.bipush 6, 2) := by decide +kernel
theorem dX8_take_85 : decode cX8_take 85 = .ok (.invokestatic 67, 3) := by decide +kernel
theorem dX8_take_88 : decode cX8_take 88 = .ok (.aload_n 1, 1) := by decide +kernel
theorem dX8_take_89 : decode cX8_take 89 = .ok (.getfield 22, 3) := by decide +kernel
theorem dX8_take_92 : decode cX8_take 92 = .ok (.iconst 0, 1) := by decide +kernel
theorem dX8_take_93 : decode cX8_take 93 = .ok (.aload_n 0, 1) := by decide +kernel
theorem dX8_take_94 : decode cX8_take 94 = .ok (.getfield 22, 3) := by decide +kernel
theorem dX8_take_97 : decode cX8_take 97 = .ok (.iconst 0, 1) := by decide +kernel
theorem dX8_take_98 : decode cX8_take 98 = .ok (.bipush 6, 2) := by decide +kernel
theorem dX8_take_100 : decode cX8_take 100 = .ok (.invokestatic 67, 3) := by decide +kernel
theorem dX8_take_103 : decode cX8_take 103 = .ok (.aload_n 1, 1) := by decide +kernel
theorem dX8_take_104 : decode cX8_take 104 = .ok (.getfield 25, 3) := by decide +kernel
theorem dX8_take_107 : decode cX8_take 107 = .ok (.iconst 0, 1) := by decide +kernel
theorem dX8_take_108 : decode cX8_take 108 = .ok (.aload_n 0, 1) := by decide +kernel
theorem dX8_take_109 : decode cX8_take 109 = .ok (.getfield 25, 3) := by decide +kernel
theorem dX8_take_112 : decode cX8_take 112 = .ok (.iconst 0, 1) := by decide +kernel
theorem dX8_take_113 : decode cX8_take 113 = .ok (.bipush 6, 2) := by decide +kernel
theorem dX8_take_115 : decode cX8_take 115 = .ok (.invokestatic 67, 3) := by decide +kernel
theorem dX8_take_118 : decode cX8_take 118 = .ok (.aload_n 1, 1) := by decide +kernel
theorem dX8_take_119 : decode cX8_take 119 = .ok (.getfield 28, 3) := by decide +kernel
theorem dX8_take_122 : decode cX8_take 122 = .ok (.iconst 0, 1) := by decide +kernel
theorem dX8_take_123 : decode cX8_take 123 = .ok (.aload_n 0, 1) := by decide +kernel
theorem dX8_take_124 : decode cX8_take 124 = .ok (.getfield 28, 3) := by decide +kernel
theorem dX8_take_127 : decode cX8_take 127 = .ok (.iconst 0, 1) := by decide +kernel
theorem dX8_take_128 : decode cX8_take 128 = .ok (.bipush 6, 2) := by decide +kernel
theorem dX8_take_130 : decode cX8_take 130 = .ok (.invokestatic 67, 3) := by decide +kernel
theorem dX8_take_133 : decode cX8_take 133 = .ok (.aload_n 1, 1) := by decide +kernel
theorem dX8_take_134 : decode cX8_take 134 = .ok (.getfield 31, 3) := by decide +kernel
theorem dX8_take_137 : decode cX8_take 137 = .ok (.iconst 0, 1) := by decide +kernel
theorem dX8_take_138 : decode cX8_take 138 = .ok (.aload_n 0, 1) := by decide +kernel
theorem dX8_take_139 : decode cX8_take 139 = .ok (.getfield 31, 3) := by decide +kernel
theorem dX8_take_142 : decode cX8_take 142 = .ok (.iconst 0, 1) := by decide +kernel
theorem dX8_take_143 : decode cX8_take 143 = .ok (.bipush 6, 2) := by decide +kernel
theorem dX8_take_145 : decode cX8_take 145 = .ok (.invokestatic 67, 3) := by decide +kernel
theorem dX8_take_148 : decode cX8_take 148 = .ok (.aload_n 1, 1) := by decide +kernel
theorem dX8_take_149 : decode cX8_take 149 = .ok (.getfield 34, 3) := by decide +kernel
theorem dX8_take_152 : decode cX8_take 152 = .ok (.iconst 0, 1) := by decide +kernel
theorem dX8_take_153 : decode cX8_take 153 = .ok (.aload_n 0, 1) := by decide +kernel
theorem dX8_take_154 : decode cX8_take 154 = .ok (.getfield 34, 3) := by decide +kernel
theorem dX8_take_157 : decode cX8_take 157 = .ok (.iconst 0, 1) := by decide +kernel
theorem dX8_take_158 : decode cX8_take 158 = .ok (.bipush 6, 2) := by decide +kernel
theorem dX8_take_160 : decode cX8_take 160 = .ok (.invokestatic 67, 3) := by decide +kernel
theorem dX8_take_163 : decode cX8_take 163 = .ok (.aload_n 1, 1) := by decide +kernel
theorem dX8_take_164 : decode cX8_take 164 = .ok (.getfield 37, 3) := by decide +kernel
theorem dX8_take_167 : decode cX8_take 167 = .ok (.iconst 0, 1) := by decide +kernel
theorem dX8_take_168 : decode cX8_take 168 = .ok (.aload_n 0, 1) := by decide +kernel
theorem dX8_take_169 : decode cX8_take 169 = .ok (.getfield 37, 3) := by decide +kernel
theorem dX8_take_172 : decode cX8_take 172 = .ok (.iconst 0, 1) := by decide +kernel
theorem dX8_take_173 : decode cX8_take 173 = .ok (.bipush 12, 2) := by decide +kernel
theorem dX8_take_175 : decode cX8_take 175 = .ok (.invokestatic 67, 3) := by decide +kernel
theorem dX8_take_178 : decode cX8_take 178 = .ok (.return_, 1) := by decide +kernel
theorem fl_RX8_15 : FL RX8 15 8 1 := ⟨inG (i := 192) (by decide +kernel) (by decide +kernel), by decide, by decide⟩
theorem fl_RX8_18 : FL RX8 18 8 2 := ⟨inG (i := 194) (by decide +kernel) (by decide +kernel), by decide, by decide⟩
theorem fl_RX8_22 : FL RX8 22 8 3 := ⟨inG (i := 196) (by decide +kernel) (by decide +kernel), by decide, by decide⟩
theorem fl_RX8_25 : FL RX8 25 8 4 := ⟨inG (i := 198) (by decide +kernel) (by decide +kernel), by decide, by decide⟩
theorem fl_RX8_28 : FL RX8 28 8 5 := ⟨inG (i := 200) (by decide +kernel) (by decide +kernel), by decide, by decide⟩
theorem fl_RX8_31 : FL RX8 31 8 6 := ⟨inG (i := 202) (by decide +kernel) (by decide +kernel), by decide, by decide⟩
theorem fl_RX8_34 : FL RX8 34 8 7 := ⟨inG (i := 207) (by decide +kernel) (by decide +kernel), by decide, by decide⟩
theorem fl_RX8_37 : FL RX8 37 8 8 := ⟨inG (i := 209) (by decide +kernel) (by decide +kernel), by decide, by decide⟩
theorem fl_RX8_9 : FL RX8 9 8 0 := ⟨inG (i := 190) (by decide +kernel) (by decide +kernel), by decide, by decide⟩
theorem go_8_0 (σ : St) (i : Nat) : go σ 8 i 0 = (900, i) := rfl
theorem go_8_1 (σ : St) (i : Nat) : go σ 8 i 1 = (901, i) := rfl
theorem go_8_2 (σ : St) (i : Nat) : go σ 8 i 2 = (902, i) := rfl
theorem go_8_4 (σ : St) (i : Nat) : go σ 8 i 4 = (904, i) := rfl
theorem go_8_5 (σ : St) (i : Nat) : go σ 8 i 5 = (905, i) := rfl
theorem go_8_7 (σ : St) (i : Nat) : go σ 8 i 7 = (907, i) := rfl
theorem go_8_8 (σ : St) (i : Nat) : go σ 8 i 8 = (908, i) := rfl
theorem lk_RX8_63 : Cond.methodLink RX8 63 yX2_take ∈ tG := inG (i := 840) (by decide +kernel) (by decide +kernel)
theorem lk_RX8_67 : Cond.methodLink RX8 67 arraycopyName ∈ tG := inG (i := 847) (by decide +kernel) (by decide +kernel)
theorem m_X2_take : MV Y_X2_take 1 2 := ⟨⟨inG (i := 843) (by decide +kernel) (by decide +kernel), inG (i := 101) (by decide +kernel) (by decide +kernel), by decide, by decide, by decide, by decide +kernel⟩, inG (i := 841) (by decide +kernel) (by decide +kernel), inG (i := 842) (by decide +kernel) (by decide +kernel), by decide⟩
theorem sh_900 : shp 900 = (0, 6) := rfl
theorem sh_901 : shp 901 = (0, 6) := rfl
theorem sh_902 : shp 902 = (1, 6) := rfl
theorem sh_904 : shp 904 = (0, 6) := rfl
theorem sh_905 : shp 905 = (0, 6) := rfl
theorem sh_907 : shp 907 = (1, 6) := rfl
theorem sh_908 : shp 908 = (0, 12) := rfl
def P_X8_take  (o0 : Nat) (o1 : Nat) (σ : St) (Q : St → Prop) : Prop :=
  P_X2_take o0 o1 (up (up (up (up σ 8 o0 10 (σ 8 o1 10)) 8 o0 11 ((up σ 8 o0 10 (σ 8 o1 10)) 8 o1 11)) 8 o0 12 ((up (up σ 8 o0 10 (σ 8 o1 10)) 8 o0 11 ((up σ 8 o0 10 (σ 8 o1 10)) 8 o1 11)) 8 o1 12)) 8 o0 13 ((up (up (up σ 8 o0 10 (σ 8 o1 10)) 8 o0 11 ((up σ 8 o0 10 (σ 8 o1 10)) 8 o1 11)) 8 o0 12 ((up (up σ 8 o0 10 (σ 8 o1 10)) 8 o0 11 ((up σ 8 o0 10 (σ 8 o1 10)) 8 o1 11)) 8 o1 12)) 8 o1 13)) (fun σ_1 => Q (cp (cp (cp (cp (cp (cp (cp (cp (cp σ_1 900 o1 0 900 o0 0 6) 901 o1 0 901 o0 0 6) 902 o1 0 902 o0 0 6) 903 o1 0 903 o0 0 6) 904 o1 0 904 o0 0 6) 905 o1 0 905 o0 0 6) 906 o1 0 906 o0 0 6) 907 o1 0 907 o0 0 6) 908 o1 0 908 o0 0 12))
set_option maxRecDepth 20000 in
set_option maxHeartbeats 2000000 in
theorem s_X8_take   {o0 : Nat} {o1 : Nat} {σ : St} {Q : St → Prop} (h : P_X8_take o0 o1 σ Q) : Cn Y_X8_take 2 0 0 ww σ [vR 8 o0, vR 8 o1] (QV Q) := by
  refine Cn_of [some (vR 8 o0), some (vR 8 o1)] (by decide) (Nat.le_of_ble_eq_true rfl) rfl ?_
  unfold P_X8_take at h
  refine E_aload_n dX8_take_0 rfl rfl ?_
  refine E_aload_n dX8_take_1 rfl rfl ?_
  refine E_geti (i := o1) dX8_take_2 fl_RX8_47 rfl ?_
  refine E_puti dX8_take_5 fl_RX8_47 rfl rfl rfl ?_
  refine E_aload_n dX8_take_8 rfl rfl ?_
  refine E_aload_n dX8_take_9 rfl rfl ?_
  refine E_geti (i := o1) dX8_take_10 fl_RX8_51 rfl ?_
  refine E_puti dX8_take_13 fl_RX8_51 rfl rfl rfl ?_
  refine E_aload_n dX8_take_16 rfl rfl ?_
  refine E_aload_n dX8_take_17 rfl rfl ?_
  refine E_geti (i := o1) dX8_take_18 fl_RX8_54 rfl ?_
  refine E_puti dX8_take_21 fl_RX8_54 rfl rfl rfl ?_
  refine E_aload_n dX8_take_24 rfl rfl ?_
  refine E_aload_n dX8_take_25 rfl rfl ?_
  refine E_geti (i := o1) dX8_take_26 fl_RX8_57 rfl ?_
  refine E_puti dX8_take_29 fl_RX8_57 rfl rfl rfl ?_
  refine E_aload_n dX8_take_32 rfl rfl ?_
  refine E_getr (i := o0) dX8_take_33 fl_RX8_43 rfl rfl (go_8_9 _ _) ?_
  refine E_aload_n dX8_take_36 rfl rfl ?_
  refine E_getr (i := o1) dX8_take_37 fl_RX8_43 rfl rfl (go_8_9 _ _) ?_
  refine E_callV (Y' := Y_X2_take) (as := [vR 2 o1]) (st := []) dX8_take_40 lk_RX8_63 m_X2_take (by decide) (Nat.le_refl _) (Nat.le_refl _) rfl rfl (Nat.le_of_ble_eq_true rfl) (s_X2_take h) (fun r0 B0 σ_1 h => ?_)
  obtain ⟨rfl, rfl, h⟩ := h
  refine E_aload_n dX8_take_43 rfl rfl ?_
  refine E_getr (i := o1) dX8_take_44 fl_RX8_9 rfl rfl (go_8_0 _ _) ?_
  refine E_ic dX8_take_47 rfl ?_
  refine E_aload_n dX8_take_48 rfl rfl ?_
  refine E_getr (i := o0) dX8_take_49 fl_RX8_9 rfl rfl (go_8_0 _ _) ?_
  refine E_ic dX8_take_52 rfl ?_
  refine E_bp dX8_take_53 rfl ?_
  refine E_acpi dX8_take_55 lk_RX8_67 (by decide) (Nat.le_of_ble_eq_true rfl) sh_900 sh_900 (by decide) (by decide) (by decide) (by decide) (by decide) ?_
  refine E_aload_n dX8_take_58 rfl rfl ?_
  refine E_getr (i := o1) dX8_take_59 fl_RX8_15 rfl rfl (go_8_1 _ _) ?_
  refine E_ic dX8_take_62 rfl ?_
  refine E_aload_n dX8_take_63 rfl rfl ?_
  refine E_getr (i := o0) dX8_take_64 fl_RX8_15 rfl rfl (go_8_1 _ _) ?_
  refine E_ic dX8_take_67 rfl ?_
  refine E_bp dX8_take_68 rfl ?_
  refine E_acpi dX8_take_70 lk_RX8_67 (by decide) (Nat.le_of_ble_eq_true rfl) sh_901 sh_901 (by decide) (by decide) (by decide) (by decide) (by decide) ?_
  refine E_aload_n dX8_take_73 rfl rfl ?_
  refine E_getr (i := o1) dX8_take_74 fl_RX8_18 rfl rfl (go_8_2 _ _) ?_
  refine E_ic dX8_take_77 rfl ?_
  refine E_aload_n dX8_take_78 rfl rfl ?_
  refine E_getr (i := o0) dX8_take_79 fl_RX8_18 rfl rfl (go_8_2 _ _) ?_
  refine E_ic dX8_take_82 rfl ?_
  refine E_bp dX8_take_83 rfl ?_
  refine E_acpl dX8_take_85 lk_RX8_67 (by decide) (Nat.le_of_ble_eq_true rfl) sh_902 sh_902 (by decide) (by decide) (by decide) (by decide) (by decide) ?_
  refine E_aload_n dX8_take_88 rfl rfl ?_
  refine E_getr (i := o1) dX8_take_89 fl_RX8_22 rfl rfl (go_8_3 _ _) ?_
  refine E_ic dX8_take_92 rfl ?_
  refine E_aload_n dX8_take_93 rfl rfl ?_
  refine E_getr (i := o0) dX8_take_94 fl_RX8_22 rfl rfl (go_8_3 _ _) ?_
  refine E_ic dX8_take_97 rfl ?_
  refine E_bp dX8_take_98 rfl ?_
  refine E_acpi dX8_take_100 lk_RX8_67 (by decide) (Nat.le_of_ble_eq_true rfl) sh_903 sh_903 (by decide) (by decide) (by decide) (by decide) (by decide) ?_
  refine E_aload_n dX8_take_103 rfl rfl ?_
  refine E_getr (i := o1) dX8_take_104 fl_RX8_25 rfl rfl (go_8_4 _ _) ?_
  refine E_ic dX8_take_107 rfl ?_
  refine E_aload_n dX8_take_108 rfl rfl ?_
  refine E_getr (i := o0) dX8_take_109 fl_RX8_25 rfl rfl (go_8_4 _ _) ?_
  refine E_ic dX8_take_112 rfl ?_
  refine E_bp dX8_take_113 rfl ?_
  refine E_acpi dX8_take_115 lk_RX8_67 (by decide) (Nat.le_of_ble_eq_true rfl) sh_904 sh_904 (by decide) (by decide) (by decide) (by decide) (by decide) ?_
  refine E_aload_n dX8_take_118 rfl rfl ?_
  refine E_getr (i := o1) dX8_take_119 fl_RX8_28 rfl rfl (go_8_5 _ _) ?_
  refine E_ic dX8_take_122 rfl ?_
  refine E_aload_n dX8_take_123 rfl rfl ?_
  refine E_getr (i := o0) dX8_take_124 fl_RX8_28 rfl rfl (go_8_5 _ _) ?_
  refine E_ic dX8_take_127 rfl ?_
  refine E_bp dX8_take_128 rfl ?_
  refine E_acpi dX8_take_130 lk_RX8_67 (by decide) (Nat.le_of_ble_eq_true rfl) sh_905 sh_905 (by decide) (by decide) (by decide) (by decide) (by decide) ?_
  refine E_aload_n dX8_take_133 rfl rfl ?_
  refine E_getr (i := o1) dX8_take_134 fl_RX8_31 rfl rfl (go_8_6 _ _) ?_
  refine E_ic dX8_take_137 rfl ?_
  refine E_aload_n dX8_take_138 rfl rfl ?_
  refine E_getr (i := o0) dX8_take_139 fl_RX8_31 rfl rfl (go_8_6 _ _) ?_
  refine E_ic dX8_take_142 rfl ?_
  refine E_bp dX8_take_143 rfl ?_
  refine E_acpi dX8_take_145 lk_RX8_67 (by decide) (Nat.le_of_ble_eq_true rfl) sh_906 sh_906 (by decide) (by decide) (by decide) (by decide) (by decide) ?_
  refine E_aload_n dX8_take_148 rfl rfl ?_
  refine E_getr (i := o1) dX8_take_149 fl_RX8_34 rfl rfl (go_8_7 _ _) ?_
  refine E_ic dX8_take_152 rfl ?_
  refine E_aload_n dX8_take_153 rfl rfl ?_
  refine E_getr (i := o0) dX8_take_154 fl_RX8_34 rfl rfl (go_8_7 _ _) ?_
  refine E_ic dX8_take_157 rfl ?_
  refine E_bp dX8_take_158 rfl ?_
  refine E_acpl dX8_take_160 lk_RX8_67 (by decide) (Nat.le_of_ble_eq_true rfl) sh_907 sh_907 (by decide) (by decide) (by decide) (by decide) (by decide) ?_
  refine E_aload_n dX8_take_163 rfl rfl ?_
  refine E_getr (i := o1) dX8_take_164 fl_RX8_37 rfl rfl (go_8_8 _ _) ?_
  refine E_ic dX8_take_167 rfl ?_
  refine E_aload_n dX8_take_168 rfl rfl ?_
  refine E_getr (i := o0) dX8_take_169 fl_RX8_37 rfl rfl (go_8_8 _ _) ?_
  refine E_ic dX8_take_172 rfl ?_
  refine E_bp dX8_take_173 rfl ?_
  refine E_acpi dX8_take_175 lk_RX8_67 (by decide) (Nat.le_of_ble_eq_true rfl) sh_908 sh_908 (by decide) (by decide) (by decide) (by decide) (by decide) ?_
  exact E_vret dX8_take_178 rfl ⟨rfl, rfl, h⟩
abbrev Y_X8_putOnRail : My := (yX8_putOnRail, cX8_putOnRail, 3, none)
theorem dX8_putOnRail_0 : decode cX8_putOnRail 0 = .ok (.iload_n 1, 1) := by decide +kernel
theorem dX8_putOnRail_1 : decode cX8_putOnRail 1 = .ok (.istore_n 2, 1) := by decide +kernel
theorem dX8_putOnRail_2 : decode cX8_putOnRail 2 = .ok (.iload_n 2, 1) := by decide +kernel
theorem dX8_putOnRail_3 : decode cX8_putOnRail 3 = .ok (.ifCond .le 45, 3) := by decide +kernel
theorem dX8_putOnRail_6 : decode cX8_putOnRail 6 = .ok (.aload_n 0, 1) := by decide +kernel
theorem dX8_putOnRail_7 : decode cX8_putOnRail 7 = .ok (.getfield 9, 3) := by decide +kernel
theorem dX8_putOnRail_10 : decode cX8_putOnRail 10 = .ok (.aload_n 0, 1) := by decide +kernel
theorem dX8_putOnRail_11 : decode cX8_putOnRail 11 = .ok (.getfield 22, 3) := by decide +kernel
theorem dX8_putOnRail_14 : decode cX8_putOnRail 14 = .ok (.iload_n 2, 1) := by decide +kernel
theorem dX8_putOnRail_15 : decode cX8_putOnRail 15 = .ok (.iconst 1, 1) := by decide +kernel
theorem dX8_putOnRail_16 : decode cX8_putOnRail 16 = .ok (.isub, 1) := by decide +kernel
theorem dX8_putOnRail_17 : decode cX8_putOnRail 17 = .ok (.iaload, 1) := by decide +kernel
theorem dX8_putOnRail_18 : decode cX8_putOnRail 18 = .ok (.iaload, 1) := by decide +kernel
theorem dX8_putOnRail_19 : decode cX8_putOnRail 19 = .ok (.aload_n 0, 1) := by decide +kernel
theorem dX8_putOnRail_20 : decode cX8_putOnRail 20 = .ok (.getfield 9, 3) := by decide +kernel
theorem dX8_putOnRail_23 : decode cX8_putOnRail 23 = .ok (.iload_n 1, 1) := by decide +kernel
theorem dX8_putOnRail_24 : decode cX8_putOnRail 24 = .ok (.iaload, 1) := by decide +kernel
theorem dX8_putOnRail_25 : decode cX8_putOnRail 25 = .ok (.if_icmp .le 23, 3) := by decide +kernel
theorem dX8_putOnRail_28 : decode cX8_putOnRail 28 = .ok (.aload_n 0, 1) := by decide +kernel
theorem dX8_putOnRail_29 : decode cX8_putOnRail 29 = .ok (.getfield 22, 3) := by decide +kernel
theorem dX8_putOnRail_32 : decode cX8_putOnRail 32 = .ok (.iload_n 2, 1) := by decide +kernel
theorem dX8_putOnRail_33 : decode cX8_putOnRail 33 = .ok (.aload_n 0, 1) := by decide +kernel
theorem dX8_putOnRail_34 : decode cX8_putOnRail 34 = .ok (.getfield 22, 3) := by decide +kernel
theorem dX8_putOnRail_37 : decode cX8_putOnRail 37 = .ok (.iload_n 2, 1) := by decide +kernel
theorem dX8_putOnRail_38 : decode cX8_putOnRail 38 = .ok (.iconst 1, 1) := by decide +kernel
theorem dX8_putOnRail_39 : decode cX8_putOnRail 39 = .ok (.isub, 1) := by decide +kernel
theorem dX8_putOnRail_40 : decode cX8_putOnRail 40 = .ok (.iaload, 1) := by decide +kernel
theorem dX8_putOnRail_41 : decode cX8_putOnRail 41 = .ok (.iastore, 1) := by decide +kernel
theorem dX8_putOnRail_42 : decode cX8_putOnRail 42 = .ok (.iinc 2 (-1), 3) := by decide +kernel
theorem dX8_putOnRail_45 : decode cX8_putOnRail 45 = .ok (.goto (-43), 3) := by decide +kernel
theorem dX8_putOnRail_48 : decode cX8_putOnRail 48 = .ok (.aload_n 0, 1) := by decide +kernel
theorem dX8_putOnRail_49 : decode cX8_putOnRail 49 = .ok (.getfield 22, 3) := by decide +kernel
theorem dX8_putOnRail_52 : decode cX8_putOnRail 52 = .ok (.iload_n 2, 1) := by decide +kernel
theorem dX8_putOnRail_53 : decode cX8_putOnRail 53 = .ok (.iload_n 1, 1) := by decide +kernel
theorem dX8_putOnRail_54 : decode cX8_putOnRail 54 = .ok (.iastore, 1) := by decide +kernel
theorem dX8_putOnRail_55 : decode cX8_putOnRail 55 = .ok (.return_, 1) := by decide +kernel
def P_X8_putOnRail_J48  (o0 : Nat) (x1 : Int) (x2 : Int) (R : Int → St → Prop) (Q : St → Prop) (σ : St) : Prop :=
  0 ≤ x2 ∧ x2 < 6 ∧ Q (up σ 903 o0 x2 x1)
set_option maxRecDepth 20000 in
set_option maxHeartbeats 2000000 in
theorem e_P_X8_putOnRail_J48  {o0 : Nat} {x1 : Int} {x2 : Int} {R : Int → St → Prop} {Q : St → Prop} {σ : St}  (hR : ∀ x2 σ, R x2 σ → E Y_X8_putOnRail 0 0 0 (QV Q) ww 0 0 2 [some (vR 8 o0), some (vI x1), some (vI x2)] [] σ) (h : P_X8_putOnRail_J48 o0 x1 x2 R Q σ) : E Y_X8_putOnRail 0 0 0 (QV Q) ww 0 0 48 [some (vR 8 o0), some (vI x1), some (vI x2)] [] σ := by
  unfold P_X8_putOnRail_J48 at h
  refine E_aload_n dX8_putOnRail_48 rfl rfl ?_
  refine E_getr (i := o0) dX8_putOnRail_49 fl_RX8_22 rfl rfl (go_8_3 _ _) ?_
  refine E_iload_n dX8_putOnRail_52 rfl rfl ?_
  refine E_iload_n dX8_putOnRail_53 rfl rfl ?_
  obtain ⟨hg0, hg1, h⟩ := h
  refine E_iast dX8_putOnRail_54 sh_903 hg0 hg1 ?_
  exact E_vret dX8_putOnRail_55 rfl ⟨rfl, rfl, h⟩
def P_X8_putOnRail_L2  (o0 : Nat) (x1 : Int)  (Q : St → Prop) : Nat → Int → St → Prop
  | 0, _, _ => False
  | n + 1, x2, σ => (if x2 ≤ 0 then P_X8_putOnRail_J48 o0 x1 x2 (P_X8_putOnRail_L2 o0 x1 Q n) Q σ else 0 ≤ wi (x2 - 1) ∧ wi (x2 - 1) < 6 ∧ 0 ≤ σ 903 o0 (wi (x2 - 1)) ∧ σ 903 o0 (wi (x2 - 1)) < 6 ∧ 0 ≤ x1 ∧ x1 < 6 ∧ (if (σ 900 o0 (σ 903 o0 (wi (x2 - 1)))) ≤ (σ 900 o0 x1) then P_X8_putOnRail_J48 o0 x1 x2 (P_X8_putOnRail_L2 o0 x1 Q n) Q σ else 0 ≤ wi (x2 - 1) ∧ wi (x2 - 1) < 6 ∧ 0 ≤ x2 ∧ x2 < 6 ∧ (P_X8_putOnRail_L2 o0 x1 Q n) (wi (x2 + (-1))) (up σ 903 o0 x2 (σ 903 o0 (wi (x2 - 1))))))
set_option maxRecDepth 20000 in
set_option maxHeartbeats 2000000 in
theorem e_P_X8_putOnRail_L2  {o0 : Nat} {x1 : Int}  {Q : St → Prop}   : ∀ (n : Nat) (x2 : Int) (σ : St), P_X8_putOnRail_L2 o0 x1 Q n x2 σ → E Y_X8_putOnRail 0 0 0 (QV Q) ww 0 0 2 [some (vR 8 o0), some (vI x1), some (vI x2)] [] σ := by
  intro n
  induction n with
  | zero => intro x2 σ h; exact h.elim
  | succ n hR =>
    intro x2 σ h
    unfold P_X8_putOnRail_L2 at h
    refine E_iload_n dX8_putOnRail_2 rfl rfl ?_
    refine E_if_le (tgt := 48) dX8_putOnRail_3 (by decide) (fun hc => ?_) (fun hc => ?_)
    · have h := Eq.mp (if_pos hc) h
      exact e_P_X8_putOnRail_J48 hR h
    · have h := Eq.mp (if_neg hc) h
      refine E_aload_n dX8_putOnRail_6 rfl rfl ?_
      refine E_getr (i := o0) dX8_putOnRail_7 fl_RX8_9 rfl rfl (go_8_0 _ _) ?_
      refine E_aload_n dX8_putOnRail_10 rfl rfl ?_
      refine E_getr (i := o0) dX8_putOnRail_11 fl_RX8_22 rfl rfl (go_8_3 _ _) ?_
      refine E_iload_n dX8_putOnRail_14 rfl rfl ?_
      refine E_ic dX8_putOnRail_15 rfl ?_
      refine E_isub dX8_putOnRail_16 ?_
      obtain ⟨hg0, hg1, h⟩ := h
      refine E_iald dX8_putOnRail_17 sh_903 hg0 hg1 ?_
      obtain ⟨hg0, hg1, h⟩ := h
      refine E_iald dX8_putOnRail_18 sh_900 hg0 hg1 ?_
      refine E_aload_n dX8_putOnRail_19 rfl rfl ?_
      refine E_getr (i := o0) dX8_putOnRail_20 fl_RX8_9 rfl rfl (go_8_0 _ _) ?_
      refine E_iload_n dX8_putOnRail_23 rfl rfl ?_
      obtain ⟨hg0, hg1, h⟩ := h
      refine E_iald dX8_putOnRail_24 sh_900 hg0 hg1 ?_
      refine E_icmp_le (tgt := 48) dX8_putOnRail_25 (by decide) (fun hc => ?_) (fun hc => ?_)
      · have h := Eq.mp (if_pos hc) h
        exact e_P_X8_putOnRail_J48 hR h
      · have h := Eq.mp (if_neg hc) h
        refine E_aload_n dX8_putOnRail_28 rfl rfl ?_
        refine E_getr (i := o0) dX8_putOnRail_29 fl_RX8_22 rfl rfl (go_8_3 _ _) ?_
        refine E_iload_n dX8_putOnRail_32 rfl rfl ?_
        refine E_aload_n dX8_putOnRail_33 rfl rfl ?_
        refine E_getr (i := o0) dX8_putOnRail_34 fl_RX8_22 rfl rfl (go_8_3 _ _) ?_
        refine E_iload_n dX8_putOnRail_37 rfl rfl ?_
        refine E_ic dX8_putOnRail_38 rfl ?_
        refine E_isub dX8_putOnRail_39 ?_
        obtain ⟨hg0, hg1, h⟩ := h
        refine E_iald dX8_putOnRail_40 sh_903 hg0 hg1 ?_
        obtain ⟨hg0, hg1, h⟩ := h
        refine E_iast dX8_putOnRail_41 sh_903 hg0 hg1 ?_
        refine E_iinc (ls' := [some (vR 8 o0), some (vI x1), some (vI (wi (x2 + (-1))))]) dX8_putOnRail_42 rfl (by decide) rfl rfl ?_
        refine E_goto (tgt := 2) dX8_putOnRail_45 (by decide) ?_
        exact hR _ _ h
def P_X8_putOnRail  (o0 : Nat) (x1 : Int) (σ : St) (Q : St → Prop) : Prop :=
  P_X8_putOnRail_L2 o0 x1 Q FU x1 σ
set_option maxRecDepth 20000 in
set_option maxHeartbeats 2000000 in
theorem s_X8_putOnRail   {o0 : Nat} {x1 : Int} {σ : St} {Q : St → Prop} (h : P_X8_putOnRail o0 x1 σ Q) : Cn Y_X8_putOnRail 0 0 0 ww σ [vR 8 o0, vI x1] (QV Q) := by
  refine Cn_of [some (vR 8 o0), some (vI x1), none] (by decide) (Nat.le_of_ble_eq_true rfl) rfl ?_
  unfold P_X8_putOnRail at h
  refine E_iload_n dX8_putOnRail_0 rfl rfl ?_
  refine E_istore_n (ls' := [some (vR 8 o0), some (vI x1), some (vI x1)]) dX8_putOnRail_1 rfl (by decide) rfl ?_
  refine e_P_X8_putOnRail_L2  _ _ _ h
abbrev Y_X8_addBall : My := (yX8_addBall, cX8_addBall, 6, none)
theorem dX8_addBall_0 : decode cX8_addBall 0 = .ok (.aload_n 0, 1) := by decide +kernel
theorem dX8_addBall_1 : decode cX8_addBall 1 = .ok (.getfield 51, 3) := by decide +kernel
theorem dX8_addBall_4 : decode cX8_addBall 4 = .ok (.bipush 6, 2) := by decide +kernel
theorem dX8_addBall_6 : decode cX8_addBall 6 = .ok (.if_icmp .ge 55, 3) := by decide +kernel
theorem dX8_addBall_9 : decode cX8_addBall 9 = .ok (.aload_n 0, 1) := by decide +kernel
theorem dX8_addBall_10 : decode cX8_addBall 10 = .ok (.getfield 34, 3) := by decide +kernel
theorem dX8_addBall_13 : decode cX8_addBall 13 = .ok (.aload_n 0, 1) := by decide +kernel
theorem dX8_addBall_14 : decode cX8_addBall 14 = .ok (.getfield 51, 3) := by decide +kernel
theorem dX8_addBall_17 : decode cX8_addBall 17 = .ok (.lload_n 1, 1) := by decide +kernel
theorem dX8_addBall_18 : decode cX8_addBall 18 = .ok (.lastore, 1) := by decide +kernel
theorem dX8_addBall_19 : decode cX8_addBall 19 = .ok (.aload_n 0, 1) := by decide +kernel
theorem dX8_addBall_20 : decode cX8_addBall 20 = .ok (.getfield 25, 3) := by decide +kernel
theorem dX8_addBall_23 : decode cX8_addBall 23 = .ok (.aload_n 0, 1) := by decide +kernel
theorem dX8_addBall_24 : decode cX8_addBall 24 = .ok (.getfield 51, 3) := by decide +kernel
theorem dX8_addBall_27 : decode cX8_addBall 27 = .ok (.iload_n 3, 1) := by decide +kernel
theorem dX8_addBall_28 : decode cX8_addBall 28 = .ok (.iastore, 1) := by decide +kernel
theorem dX8_addBall_29 : decode cX8_addBall 29 = .ok (.aload_n 0, 1) := by decide +kernel
theorem dX8_addBall_30 : decode cX8_addBall 30 = .ok (.getfield 28, 3) := by decide +kernel
theorem dX8_addBall_33 : decode cX8_addBall 33 = .ok (.aload_n 0, 1) := by decide +kernel
theorem dX8_addBall_34 : decode cX8_addBall 34 = .ok (.getfield 51, 3) := by decide +kernel
theorem dX8_addBall_37 : decode cX8_addBall 37 = .ok (.iload 4, 2) := by decide +kernel
theorem dX8_addBall_39 : decode cX8_addBall 39 = .ok (.iastore, 1) := by decide +kernel
theorem dX8_addBall_40 : decode cX8_addBall 40 = .ok (.aload_n 0, 1) := by decide +kernel
theorem dX8_addBall_41 : decode cX8_addBall 41 = .ok (.getfield 31, 3) := by decide +kernel
theorem dX8_addBall_44 : decode cX8_addBall 44 = .ok (.aload_n 0, 1) := by decide +kernel
theorem dX8_addBall_45 : decode cX8_addBall 45 = .ok (.getfield 51, 3) := by decide +kernel
theorem dX8_addBall_48 : decode cX8_addBall 48 = .ok (.iload 5, 2) := by decide +kernel
theorem dX8_addBall_50 : decode cX8_addBall 50 = .ok (.iastore, 1) := by decide +kernel
theorem dX8_addBall_51 : decode cX8_addBall 51 = .ok (.aload_n 0, 1) := by decide +kernel
theorem dX8_addBall_52 : decode cX8_addBall 52 = .ok (.dup, 1) := by decide +kernel
theorem dX8_addBall_53 : decode cX8_addBall 53 = .ok (.getfield 51, 3) := by decide +kernel
theorem dX8_addBall_56 : decode cX8_addBall 56 = .ok (.iconst 1, 1) := by decide +kernel
theorem dX8_addBall_57 : decode cX8_addBall 57 = .ok (.iadd, 1) := by decide +kernel
theorem dX8_addBall_58 : decode cX8_addBall 58 = .ok (.putfield 51, 3) := by decide +kernel
theorem dX8_addBall_61 : decode cX8_addBall 61 = .ok (.return_, 1) := by decide +kernel
def P_X8_addBall  (o0 : Nat) (x1 : Int) (x3 : Int) (x4 : Int) (x5 : Int) (σ : St) (Q : St → Prop) : Prop :=
  (if 6 ≤ (σ 8 o0 11) then Q σ else 0 ≤ σ 8 o0 11 ∧ σ 8 o0 11 < 6 ∧ 0 ≤ (up σ 907 o0 (σ 8 o0 11) x1) 8 o0 11 ∧ (up σ 907 o0 (σ 8 o0 11) x1) 8 o0 11 < 6 ∧ 0 ≤ (up (up σ 907 o0 (σ 8 o0 11) x1) 904 o0 ((up σ 907 o0 (σ 8 o0 11) x1) 8 o0 11) x3) 8 o0 11 ∧ (up (up σ 907 o0 (σ 8 o0 11) x1) 904 o0 ((up σ 907 o0 (σ 8 o0 11) x1) 8 o0 11) x3) 8 o0 11 < 6 ∧ 0 ≤ (up (up (up σ 907 o0 (σ 8 o0 11) x1) 904 o0 ((up σ 907 o0 (σ 8 o0 11) x1) 8 o0 11) x3) 905 o0 ((up (up σ 907 o0 (σ 8 o0 11) x1) 904 o0 ((up σ 907 o0 (σ 8 o0 11) x1) 8 o0 11) x3) 8 o0 11) x4) 8 o0 11 ∧ (up (up (up σ 907 o0 (σ 8 o0 11) x1) 904 o0 ((up σ 907 o0 (σ 8 o0 11) x1) 8 o0 11) x3) 905 o0 ((up (up σ 907 o0 (σ 8 o0 11) x1) 904 o0 ((up σ 907 o0 (σ 8 o0 11) x1) 8 o0 11) x3) 8 o0 11) x4) 8 o0 11 < 6 ∧ Q (up (up (up (up (up σ 907 o0 (σ 8 o0 11) x1) 904 o0 ((up σ 907 o0 (σ 8 o0 11) x1) 8 o0 11) x3) 905 o0 ((up (up σ 907 o0 (σ 8 o0 11) x1) 904 o0 ((up σ 907 o0 (σ 8 o0 11) x1) 8 o0 11) x3) 8 o0 11) x4) 906 o0 ((up (up (up σ 907 o0 (σ 8 o0 11) x1) 904 o0 ((up σ 907 o0 (σ 8 o0 11) x1) 8 o0 11) x3) 905 o0 ((up (up σ 907 o0 (σ 8 o0 11) x1) 904 o0 ((up σ 907 o0 (σ 8 o0 11) x1) 8 o0 11) x3) 8 o0 11) x4) 8 o0 11) x5) 8 o0 11 (wi (((up (up (up (up σ 907 o0 (σ 8 o0 11) x1) 904 o0 ((up σ 907 o0 (σ 8 o0 11) x1) 8 o0 11) x3) 905 o0 ((up (up σ 907 o0 (σ 8 o0 11) x1) 904 o0 ((up σ 907 o0 (σ 8 o0 11) x1) 8 o0 11) x3) 8 o0 11) x4) 906 o0 ((up (up (up σ 907 o0 (σ 8 o0 11) x1) 904 o0 ((up σ 907 o0 (σ 8 o0 11) x1) 8 o0 11) x3) 905 o0 ((up (up σ 907 o0 (σ 8 o0 11) x1) 904 o0 ((up σ 907 o0 (σ 8 o0 11) x1) 8 o0 11) x3) 8 o0 11) x4) 8 o0 11) x5) 8 o0 11) + 1))))
set_option maxRecDepth 20000 in
set_option maxHeartbeats 2000000 in
theorem s_X8_addBall   {o0 : Nat} {x1 : Int} {x3 : Int} {x4 : Int} {x5 : Int} {σ : St} {Q : St → Prop} (h : P_X8_addBall o0 x1 x3 x4 x5 σ Q) : Cn Y_X8_addBall 0 0 0 ww σ [vR 8 o0, vL x1, vI x3, vI x4, vI x5] (QV Q) := by
  refine Cn_of [some (vR 8 o0), some (vL x1), none, some (vI x3), some (vI x4), some (vI x5)] (by decide) (Nat.le_of_ble_eq_true rfl) rfl ?_
  unfold P_X8_addBall at h
  refine E_aload_n dX8_addBall_0 rfl rfl ?_
  refine E_geti (i := o0) dX8_addBall_1 fl_RX8_51 rfl ?_
  refine E_bp dX8_addBall_4 rfl ?_
  refine E_icmp_ge (tgt := 61) dX8_addBall_6 (by decide) (fun hc => ?_) (fun hc => ?_)
  · have h := Eq.mp (if_pos hc) h
    exact E_vret dX8_addBall_61 rfl ⟨rfl, rfl, h⟩
  · have h := Eq.mp (if_neg hc) h
    refine E_aload_n dX8_addBall_9 rfl rfl ?_
    refine E_getr (i := o0) dX8_addBall_10 fl_RX8_34 rfl rfl (go_8_7 _ _) ?_
    refine E_aload_n dX8_addBall_13 rfl rfl ?_
    refine E_geti (i := o0) dX8_addBall_14 fl_RX8_51 rfl ?_
    refine E_lload_n dX8_addBall_17 rfl rfl ?_
    obtain ⟨hg0, hg1, h⟩ := h
    refine E_last dX8_addBall_18 sh_907 hg0 hg1 ?_
    refine E_aload_n dX8_addBall_19 rfl rfl ?_
    refine E_getr (i := o0) dX8_addBall_20 fl_RX8_25 rfl rfl (go_8_4 _ _) ?_
    refine E_aload_n dX8_addBall_23 rfl rfl ?_
    refine E_geti (i := o0) dX8_addBall_24 fl_RX8_51 rfl ?_
    refine E_iload_n dX8_addBall_27 rfl rfl ?_
    obtain ⟨hg0, hg1, h⟩ := h
    refine E_iast dX8_addBall_28 sh_904 hg0 hg1 ?_
    refine E_aload_n dX8_addBall_29 rfl rfl ?_
    refine E_getr (i := o0) dX8_addBall_30 fl_RX8_28 rfl rfl (go_8_5 _ _) ?_
    refine E_aload_n dX8_addBall_33 rfl rfl ?_
    refine E_geti (i := o0) dX8_addBall_34 fl_RX8_51 rfl ?_
    refine E_iload dX8_addBall_37 rfl ?_
    obtain ⟨hg0, hg1, h⟩ := h
    refine E_iast dX8_addBall_39 sh_905 hg0 hg1 ?_
    refine E_aload_n dX8_addBall_40 rfl rfl ?_
    refine E_getr (i := o0) dX8_addBall_41 fl_RX8_31 rfl rfl (go_8_6 _ _) ?_
    refine E_aload_n dX8_addBall_44 rfl rfl ?_
    refine E_geti (i := o0) dX8_addBall_45 fl_RX8_51 rfl ?_
    refine E_iload dX8_addBall_48 rfl ?_
    obtain ⟨hg0, hg1, h⟩ := h
    refine E_iast dX8_addBall_50 sh_906 hg0 hg1 ?_
    refine E_aload_n dX8_addBall_51 rfl rfl ?_
    refine E_dup dX8_addBall_52 (fun _ q => by cases q) ?_
    refine E_geti (i := o0) dX8_addBall_53 fl_RX8_51 rfl ?_
    refine E_ic dX8_addBall_56 rfl ?_
    refine E_iadd dX8_addBall_57 ?_
    refine E_puti dX8_addBall_58 fl_RX8_51 rfl rfl rfl ?_
    exact E_vret dX8_addBall_61 rfl ⟨rfl, rfl, h⟩
abbrev Y_X8_addDamp : My := (yX8_addDamp, cX8_addDamp, 2, none)
theorem dX8_addDamp_0 : decode cX8_addDamp 0 = .ok (.aload_n 0, 1) := by decide +kernel
theorem dX8_addDamp_1 : decode cX8_addDamp 1 = .ok (.getfield 54, 3) := by decide +kernel
theorem dX8_addDamp_4 : decode cX8_addDamp 4 = .ok (.bipush 12, 2) := by decide +kernel
theorem dX8_addDamp_6 : decode cX8_addDamp 6 = .ok (.if_icmp .ge 23, 3) := by decide +kernel
theorem dX8_addDamp_9 : decode cX8_addDamp 9 = .ok (.aload_n 0, 1) := by decide +kernel
theorem dX8_addDamp_10 : decode cX8_addDamp 10 = .ok (.getfield 37, 3) := by decide +kernel
theorem dX8_addDamp_13 : decode cX8_addDamp 13 = .ok (.aload_n 0, 1) := by decide +kernel
theorem dX8_addDamp_14 : decode cX8_addDamp 14 = .ok (.getfield 54, 3) := by decide +kernel
theorem dX8_addDamp_17 : decode cX8_addDamp 17 = .ok (.iload_n 1, 1) := by decide +kernel
theorem dX8_addDamp_18 : decode cX8_addDamp 18 = .ok (.iastore, 1) := by decide +kernel
theorem dX8_addDamp_19 : decode cX8_addDamp 19 = .ok (.aload_n 0, 1) := by decide +kernel
theorem dX8_addDamp_20 : decode cX8_addDamp 20 = .ok (.dup, 1) := by decide +kernel
theorem dX8_addDamp_21 : decode cX8_addDamp 21 = .ok (.getfield 54, 3) := by decide +kernel
theorem dX8_addDamp_24 : decode cX8_addDamp 24 = .ok (.iconst 1, 1) := by decide +kernel
theorem dX8_addDamp_25 : decode cX8_addDamp 25 = .ok (.iadd, 1) := by decide +kernel
theorem dX8_addDamp_26 : decode cX8_addDamp 26 = .ok (.putfield 54, 3) := by decide +kernel
theorem dX8_addDamp_29 : decode cX8_addDamp 29 = .ok (.return_, 1) := by decide +kernel
def P_X8_addDamp  (o0 : Nat) (x1 : Int) (σ : St) (Q : St → Prop) : Prop :=
  (if 12 ≤ (σ 8 o0 12) then Q σ else 0 ≤ σ 8 o0 12 ∧ σ 8 o0 12 < 12 ∧ Q (up (up σ 908 o0 (σ 8 o0 12) x1) 8 o0 12 (wi (((up σ 908 o0 (σ 8 o0 12) x1) 8 o0 12) + 1))))
set_option maxRecDepth 20000 in
set_option maxHeartbeats 2000000 in
theorem s_X8_addDamp   {o0 : Nat} {x1 : Int} {σ : St} {Q : St → Prop} (h : P_X8_addDamp o0 x1 σ Q) : Cn Y_X8_addDamp 0 0 0 ww σ [vR 8 o0, vI x1] (QV Q) := by
  refine Cn_of [some (vR 8 o0), some (vI x1)] (by decide) (Nat.le_of_ble_eq_true rfl) rfl ?_
  unfold P_X8_addDamp at h
  refine E_aload_n dX8_addDamp_0 rfl rfl ?_
  refine E_geti (i := o0) dX8_addDamp_1 fl_RX8_54 rfl ?_
  refine E_bp dX8_addDamp_4 rfl ?_
  refine E_icmp_ge (tgt := 29) dX8_addDamp_6 (by decide) (fun hc => ?_) (fun hc => ?_)
  · have h := Eq.mp (if_pos hc) h
    exact E_vret dX8_addDamp_29 rfl ⟨rfl, rfl, h⟩
  · have h := Eq.mp (if_neg hc) h
    refine E_aload_n dX8_addDamp_9 rfl rfl ?_
    refine E_getr (i := o0) dX8_addDamp_10 fl_RX8_37 rfl rfl (go_8_8 _ _) ?_
    refine E_aload_n dX8_addDamp_13 rfl rfl ?_
    refine E_geti (i := o0) dX8_addDamp_14 fl_RX8_54 rfl ?_
    refine E_iload_n dX8_addDamp_17 rfl rfl ?_
    obtain ⟨hg0, hg1, h⟩ := h
    refine E_iast dX8_addDamp_18 sh_908 hg0 hg1 ?_
    refine E_aload_n dX8_addDamp_19 rfl rfl ?_
    refine E_dup dX8_addDamp_20 (fun _ q => by cases q) ?_
    refine E_geti (i := o0) dX8_addDamp_21 fl_RX8_54 rfl ?_
    refine E_ic dX8_addDamp_24 rfl ?_
    refine E_iadd dX8_addDamp_25 ?_
    refine E_puti dX8_addDamp_26 fl_RX8_54 rfl rfl rfl ?_
    exact E_vret dX8_addDamp_29 rfl ⟨rfl, rfl, h⟩
abbrev Y_X8_hasCounter : My := (yX8_hasCounter, cX8_hasCounter, 2, some .boolean)
theorem dX8_hasCounter_0 : decode cX8_hasCounter 0 = .ok (.iload_n 1, 1) := by decide +kernel
theorem dX8_hasCounter_1 : decode cX8_hasCounter 1 = .ok (.ifCond .lt 15, 3) := by decide +kernel
theorem dX8_hasCounter_4 : decode cX8_hasCounter 4 = .ok (.iload_n 1, 1) := by decide +kernel
theorem dX8_hasCounter_5 : decode cX8_hasCounter 5 = .ok (.aload_n 0, 1) := by decide +kernel
theorem dX8_hasCounter_6 : decode cX8_hasCounter 6 = .ok (.getfield 47, 3) := by decide +kernel
theorem dX8_hasCounter_9 : decode cX8_hasCounter 9 = .ok (.if_icmp .ge 7, 3) := by decide +kernel
theorem dX8_hasCounter_12 : decode cX8_hasCounter 12 = .ok (.iconst 1, 1) := by decide +kernel
theorem dX8_hasCounter_13 : decode cX8_hasCounter 13 = .ok (.goto 4, 3) := by decide +kernel
theorem dX8_hasCounter_16 : decode cX8_hasCounter 16 = .ok (.iconst 0, 1) := by decide +kernel
theorem dX8_hasCounter_17 : decode cX8_hasCounter 17 = .ok (.ireturn, 1) := by decide +kernel
def P_X8_hasCounter_J16    (Q : Int → St → Prop) (σ : St) : Prop :=
  Q 0 σ
set_option maxRecDepth 20000 in
set_option maxHeartbeats 2000000 in
theorem e_P_X8_hasCounter_J16    {Q : Int → St → Prop} {σ : St}   (h : P_X8_hasCounter_J16  Q σ) : E Y_X8_hasCounter 0 0 0 (QI Q) ww 0 0 16 [none, none] [] σ := by
  unfold P_X8_hasCounter_J16 at h
  refine E_ic dX8_hasCounter_16 rfl ?_
  exact E_zret dX8_hasCounter_17 rfl (by decide) ⟨_, rfl, rfl, h⟩
def P_X8_hasCounter  (o0 : Nat) (x1 : Int) (σ : St) (Q : Int → St → Prop) : Prop :=
  (if x1 < 0 then P_X8_hasCounter_J16 Q σ else (if (σ 8 o0 10) ≤ x1 then P_X8_hasCounter_J16 Q σ else Q 1 σ))
set_option maxRecDepth 20000 in
set_option maxHeartbeats 2000000 in
theorem s_X8_hasCounter   {o0 : Nat} {x1 : Int} {σ : St} {Q : Int → St → Prop} (h : P_X8_hasCounter o0 x1 σ Q) : Cn Y_X8_hasCounter 0 0 0 ww σ [vR 8 o0, vI x1] (QI Q) := by
  refine Cn_of [some (vR 8 o0), some (vI x1)] (by decide) (Nat.le_of_ble_eq_true rfl) rfl ?_
  unfold P_X8_hasCounter at h
  refine E_iload_n dX8_hasCounter_0 rfl rfl ?_
  refine E_if_lt (tgt := 16) dX8_hasCounter_1 (by decide) (fun hc => ?_) (fun hc => ?_)
  · have h := Eq.mp (if_pos hc) h
    refine E_wk2 [none, none] trivial ?_
    exact e_P_X8_hasCounter_J16 h
  · have h := Eq.mp (if_neg hc) h
    refine E_iload_n dX8_hasCounter_4 rfl rfl ?_
    refine E_aload_n dX8_hasCounter_5 rfl rfl ?_
    refine E_geti (i := o0) dX8_hasCounter_6 fl_RX8_47 rfl ?_
    refine E_icmp_ge (tgt := 16) dX8_hasCounter_9 (by decide) (fun hc => ?_) (fun hc => ?_)
    · have h := Eq.mp (if_pos hc) h
      refine E_wk2 [none, none] trivial ?_
      exact e_P_X8_hasCounter_J16 h
    · have h := Eq.mp (if_neg hc) h
      refine E_ic dX8_hasCounter_12 rfl ?_
      refine E_goto (tgt := 17) dX8_hasCounter_13 (by decide) ?_
      exact E_zret dX8_hasCounter_17 rfl (by decide) ⟨_, rfl, rfl, h⟩
abbrev Y_X8_hasBall : My := (yX8_hasBall, cX8_hasBall, 2, some .boolean)
theorem dX8_hasBall_0 : decode cX8_hasBall 0 = .ok (.iload_n 1, 1) := by decide +kernel
theorem dX8_hasBall_1 : decode cX8_hasBall 1 = .ok (.ifCond .lt 15, 3) := by decide +kernel
theorem dX8_hasBall_4 : decode cX8_hasBall 4 = .ok (.iload_n 1, 1) := by decide +kernel
theorem dX8_hasBall_5 : decode cX8_hasBall 5 = .ok (.aload_n 0, 1) := by decide +kernel
theorem dX8_hasBall_6 : decode cX8_hasBall 6 = .ok (.getfield 51, 3) := by decide +kernel
theorem dX8_hasBall_9 : decode cX8_hasBall 9 = .ok (.if_icmp .ge 7, 3) := by decide +kernel
theorem dX8_hasBall_12 : decode cX8_hasBall 12 = .ok (.iconst 1, 1) := by decide +kernel
theorem dX8_hasBall_13 : decode cX8_hasBall 13 = .ok (.goto 4, 3) := by decide +kernel
theorem dX8_hasBall_16 : decode cX8_hasBall 16 = .ok (.iconst 0, 1) := by decide +kernel
theorem dX8_hasBall_17 : decode cX8_hasBall 17 = .ok (.ireturn, 1) := by decide +kernel
def P_X8_hasBall_J16    (Q : Int → St → Prop) (σ : St) : Prop :=
  Q 0 σ
set_option maxRecDepth 20000 in
set_option maxHeartbeats 2000000 in
theorem e_P_X8_hasBall_J16    {Q : Int → St → Prop} {σ : St}   (h : P_X8_hasBall_J16  Q σ) : E Y_X8_hasBall 0 0 0 (QI Q) ww 0 0 16 [none, none] [] σ := by
  unfold P_X8_hasBall_J16 at h
  refine E_ic dX8_hasBall_16 rfl ?_
  exact E_zret dX8_hasBall_17 rfl (by decide) ⟨_, rfl, rfl, h⟩
def P_X8_hasBall  (o0 : Nat) (x1 : Int) (σ : St) (Q : Int → St → Prop) : Prop :=
  (if x1 < 0 then P_X8_hasBall_J16 Q σ else (if (σ 8 o0 11) ≤ x1 then P_X8_hasBall_J16 Q σ else Q 1 σ))
set_option maxRecDepth 20000 in
set_option maxHeartbeats 2000000 in
theorem s_X8_hasBall   {o0 : Nat} {x1 : Int} {σ : St} {Q : Int → St → Prop} (h : P_X8_hasBall o0 x1 σ Q) : Cn Y_X8_hasBall 0 0 0 ww σ [vR 8 o0, vI x1] (QI Q) := by
  refine Cn_of [some (vR 8 o0), some (vI x1)] (by decide) (Nat.le_of_ble_eq_true rfl) rfl ?_
  unfold P_X8_hasBall at h
  refine E_iload_n dX8_hasBall_0 rfl rfl ?_
  refine E_if_lt (tgt := 16) dX8_hasBall_1 (by decide) (fun hc => ?_) (fun hc => ?_)
  · have h := Eq.mp (if_pos hc) h
    refine E_wk2 [none, none] trivial ?_
    exact e_P_X8_hasBall_J16 h
  · have h := Eq.mp (if_neg hc) h
    refine E_iload_n dX8_hasBall_4 rfl rfl ?_
    refine E_aload_n dX8_hasBall_5 rfl rfl ?_
    refine E_geti (i := o0) dX8_hasBall_6 fl_RX8_51 rfl ?_
    refine E_icmp_ge (tgt := 16) dX8_hasBall_9 (by decide) (fun hc => ?_) (fun hc => ?_)
    · have h := Eq.mp (if_pos hc) h
      refine E_wk2 [none, none] trivial ?_
      exact e_P_X8_hasBall_J16 h
    · have h := Eq.mp (if_neg hc) h
      refine E_ic dX8_hasBall_12 rfl ?_
      refine E_goto (tgt := 17) dX8_hasBall_13 (by decide) ?_
      exact E_zret dX8_hasBall_17 rfl (by decide) ⟨_, rfl, rfl, h⟩
abbrev Y_X8_isPlaceTold : My := (yX8_isPlaceTold, cX8_isPlaceTold, 3, some .boolean)
theorem dX8_isPlaceTold_0 : decode cX8_isPlaceTold 0 = .ok (.iconst 0, 1) := by decide +kernel
theorem dX8_isPlaceTold_1 : decode cX8_isPlaceTold 1 = .ok (.istore_n 2, 1) := by decide +kernel
theorem dX8_isPlaceTold_2 : decode cX8_isPlaceTold 2 = .ok (.iload_n 2, 1) := by decide +kernel
theorem dX8_isPlaceTold_3 : decode cX8_isPlaceTold 3 = .ok (.aload_n 0, 1) := by decide +kernel
theorem dX8_isPlaceTold_4 : decode cX8_isPlaceTold 4 = .ok (.getfield 47, 3) := by decide +kernel
theorem dX8_isPlaceTold_7 : decode cX8_isPlaceTold 7 = .ok (.if_icmp .ge 21, 3) := by decide +kernel
theorem dX8_isPlaceTold_10 : decode cX8_isPlaceTold 10 = .ok (.aload_n 0, 1) := by decide +kernel
theorem dX8_isPlaceTold_11 : decode cX8_isPlaceTold 11 = .ok (.getfield 9, 3) := by decide +kernel
theorem dX8_isPlaceTold_14 : decode cX8_isPlaceTold 14 = .ok (.iload_n 2, 1) := by decide +kernel
theorem dX8_isPlaceTold_15 : decode cX8_isPlaceTold 15 = .ok (.iaload, 1) := by decide +kernel
theorem dX8_isPlaceTold_16 : decode cX8_isPlaceTold 16 = .ok (.iload_n 1, 1) := by decide +kernel
theorem dX8_isPlaceTold_17 : decode cX8_isPlaceTold 17 = .ok (.if_icmp .ne 5, 3) := by decide +kernel
theorem dX8_isPlaceTold_20 : decode cX8_isPlaceTold 20 = .ok (.iconst 1, 1) := by decide +kernel
theorem dX8_isPlaceTold_21 : decode cX8_isPlaceTold 21 = .ok (.ireturn, 1) := by decide +kernel
theorem dX8_isPlaceTold_22 : decode cX8_isPlaceTold 22 = .ok (.iinc 2 1, 3) := by decide +kernel
theorem dX8_isPlaceTold_25 : decode cX8_isPlaceTold 25 = .ok (.goto (-23), 3) := by decide +kernel
theorem dX8_isPlaceTold_28 : decode cX8_isPlaceTold 28 = .ok (.iconst 0, 1) := by decide +kernel
theorem dX8_isPlaceTold_29 : decode cX8_isPlaceTold 29 = .ok (.ireturn, 1) := by decide +kernel
def P_X8_isPlaceTold_L2  (o0 : Nat) (x1 : Int)  (Q : Int → St → Prop) : Nat → Int → St → Prop
  | 0, _, _ => False
  | n + 1, x2, σ => (if (σ 8 o0 10) ≤ x2 then Q 0 σ else 0 ≤ x2 ∧ x2 < 6 ∧ (if (σ 900 o0 x2) = x1 then Q 1 σ else (P_X8_isPlaceTold_L2 o0 x1 Q n) (wi (x2 + 1)) σ))
set_option maxRecDepth 20000 in
set_option maxHeartbeats 2000000 in
theorem e_P_X8_isPlaceTold_L2  {o0 : Nat} {x1 : Int}  {Q : Int → St → Prop}   : ∀ (n : Nat) (x2 : Int) (σ : St), P_X8_isPlaceTold_L2 o0 x1 Q n x2 σ → E Y_X8_isPlaceTold 0 0 0 (QI Q) ww 0 0 2 [some (vR 8 o0), some (vI x1), some (vI x2)] [] σ := by
  intro n
  induction n with
  | zero => intro x2 σ h; exact h.elim
  | succ n hR =>
    intro x2 σ h
    unfold P_X8_isPlaceTold_L2 at h
    refine E_iload_n dX8_isPlaceTold_2 rfl rfl ?_
    refine E_aload_n dX8_isPlaceTold_3 rfl rfl ?_
    refine E_geti (i := o0) dX8_isPlaceTold_4 fl_RX8_47 rfl ?_
    refine E_icmp_ge (tgt := 28) dX8_isPlaceTold_7 (by decide) (fun hc => ?_) (fun hc => ?_)
    · have h := Eq.mp (if_pos hc) h
      refine E_ic dX8_isPlaceTold_28 rfl ?_
      exact E_zret dX8_isPlaceTold_29 rfl (by decide) ⟨_, rfl, rfl, h⟩
    · have h := Eq.mp (if_neg hc) h
      refine E_aload_n dX8_isPlaceTold_10 rfl rfl ?_
      refine E_getr (i := o0) dX8_isPlaceTold_11 fl_RX8_9 rfl rfl (go_8_0 _ _) ?_
      refine E_iload_n dX8_isPlaceTold_14 rfl rfl ?_
      obtain ⟨hg0, hg1, h⟩ := h
      refine E_iald dX8_isPlaceTold_15 sh_900 hg0 hg1 ?_
      refine E_iload_n dX8_isPlaceTold_16 rfl rfl ?_
      refine E_icmp_ne (tgt := 22) dX8_isPlaceTold_17 (by decide) (fun hc => ?_) (fun hc => ?_)
      · have h := Eq.mp (if_neg hc) h
        refine E_iinc (ls' := [some (vR 8 o0), some (vI x1), some (vI (wi (x2 + 1)))]) dX8_isPlaceTold_22 rfl (by decide) rfl rfl ?_
        refine E_goto (tgt := 2) dX8_isPlaceTold_25 (by decide) ?_
        exact hR _ _ h
      · have h := Eq.mp (if_pos hc) h
        refine E_ic dX8_isPlaceTold_20 rfl ?_
        exact E_zret dX8_isPlaceTold_21 rfl (by decide) ⟨_, rfl, rfl, h⟩
def P_X8_isPlaceTold  (o0 : Nat) (x1 : Int) (σ : St) (Q : Int → St → Prop) : Prop :=
  P_X8_isPlaceTold_L2 o0 x1 Q FU 0 σ
set_option maxRecDepth 20000 in
set_option maxHeartbeats 2000000 in
theorem s_X8_isPlaceTold   {o0 : Nat} {x1 : Int} {σ : St} {Q : Int → St → Prop} (h : P_X8_isPlaceTold o0 x1 σ Q) : Cn Y_X8_isPlaceTold 0 0 0 ww σ [vR 8 o0, vI x1] (QI Q) := by
  refine Cn_of [some (vR 8 o0), some (vI x1), none] (by decide) (Nat.le_of_ble_eq_true rfl) rfl ?_
  unfold P_X8_isPlaceTold at h
  refine E_ic dX8_isPlaceTold_0 rfl ?_
  refine E_istore_n (ls' := [some (vR 8 o0), some (vI x1), some (vI 0)]) dX8_isPlaceTold_1 rfl (by decide) rfl ?_
  refine e_P_X8_isPlaceTold_L2  _ _ _ h
abbrev Y_X8_dampOn : My := (yX8_dampOn, cX8_dampOn, 2, some .int)
theorem dX8_dampOn_0 : decode cX8_dampOn 0 = .ok (.aload_n 0, 1) := by decide +kernel
theorem dX8_dampOn_1 : decode cX8_dampOn 1 = .ok (.getfield 54, 3) := by decide +kernel
theorem dX8_dampOn_4 : decode cX8_dampOn 4 = .ok (.ifCond .le 21, 3) := by decide +kernel
theorem dX8_dampOn_7 : decode cX8_dampOn 7 = .ok (.iload_n 1, 1) := by decide +kernel
theorem dX8_dampOn_8 : decode cX8_dampOn 8 = .ok (.ifCond .lt 17, 3) := by decide +kernel
theorem dX8_dampOn_11 : decode cX8_dampOn 11 = .ok (.aload_n 0, 1) := by decide +kernel
theorem dX8_dampOn_12 : decode cX8_dampOn 12 = .ok (.getfield 37, 3) := by decide +kernel
theorem dX8_dampOn_15 : decode cX8_dampOn 15 = .ok (.iload_n 1, 1) := by decide +kernel
theorem dX8_dampOn_16 : decode cX8_dampOn 16 = .ok (.aload_n 0, 1) := by decide +kernel
theorem dX8_dampOn_17 : decode cX8_dampOn 17 = .ok (.getfield 54, 3) := by decide +kernel
theorem dX8_dampOn_20 : decode cX8_dampOn 20 = .ok (.irem, 1) := by decide +kernel
theorem dX8_dampOn_21 : decode cX8_dampOn 21 = .ok (.iaload, 1) := by decide +kernel
theorem dX8_dampOn_22 : decode cX8_dampOn 22 = .ok (.goto 4, 3) := by decide +kernel
theorem dX8_dampOn_25 : decode cX8_dampOn 25 = .ok (.iconst 0, 1) := by decide +kernel
theorem dX8_dampOn_26 : decode cX8_dampOn 26 = .ok (.ireturn, 1) := by decide +kernel
def P_X8_dampOn_J25    (Q : Int → St → Prop) (σ : St) : Prop :=
  Q 0 σ
set_option maxRecDepth 20000 in
set_option maxHeartbeats 2000000 in
theorem e_P_X8_dampOn_J25    {Q : Int → St → Prop} {σ : St}   (h : P_X8_dampOn_J25  Q σ) : E Y_X8_dampOn 0 0 0 (QI Q) ww 0 0 25 [none, none] [] σ := by
  unfold P_X8_dampOn_J25 at h
  refine E_ic dX8_dampOn_25 rfl ?_
  exact E_iret dX8_dampOn_26 rfl ⟨_, rfl, rfl, h⟩
def P_X8_dampOn  (o0 : Nat) (x1 : Int) (σ : St) (Q : Int → St → Prop) : Prop :=
  (if (σ 8 o0 12) ≤ 0 then P_X8_dampOn_J25 Q σ else (if x1 < 0 then P_X8_dampOn_J25 Q σ else ¬ (σ 8 o0 12) = 0 ∧ 0 ≤ x1.tmod (σ 8 o0 12) ∧ x1.tmod (σ 8 o0 12) < 12 ∧ Q (σ 908 o0 (x1.tmod (σ 8 o0 12))) σ))
set_option maxRecDepth 20000 in
set_option maxHeartbeats 2000000 in
theorem s_X8_dampOn   {o0 : Nat} {x1 : Int} {σ : St} {Q : Int → St → Prop} (h : P_X8_dampOn o0 x1 σ Q) : Cn Y_X8_dampOn 0 0 0 ww σ [vR 8 o0, vI x1] (QI Q) := by
  refine Cn_of [some (vR 8 o0), some (vI x1)] (by decide) (Nat.le_of_ble_eq_true rfl) rfl ?_
  unfold P_X8_dampOn at h
  refine E_aload_n dX8_dampOn_0 rfl rfl ?_
  refine E_geti (i := o0) dX8_dampOn_1 fl_RX8_54 rfl ?_
  refine E_if_le (tgt := 25) dX8_dampOn_4 (by decide) (fun hc => ?_) (fun hc => ?_)
  · have h := Eq.mp (if_pos hc) h
    refine E_wk2 [none, none] trivial ?_
    exact e_P_X8_dampOn_J25 h
  · have h := Eq.mp (if_neg hc) h
    refine E_iload_n dX8_dampOn_7 rfl rfl ?_
    refine E_if_lt (tgt := 25) dX8_dampOn_8 (by decide) (fun hc => ?_) (fun hc => ?_)
    · have h := Eq.mp (if_pos hc) h
      refine E_wk2 [none, none] trivial ?_
      exact e_P_X8_dampOn_J25 h
    · have h := Eq.mp (if_neg hc) h
      refine E_aload_n dX8_dampOn_11 rfl rfl ?_
      refine E_getr (i := o0) dX8_dampOn_12 fl_RX8_37 rfl rfl (go_8_8 _ _) ?_
      refine E_iload_n dX8_dampOn_15 rfl rfl ?_
      refine E_aload_n dX8_dampOn_16 rfl rfl ?_
      refine E_geti (i := o0) dX8_dampOn_17 fl_RX8_54 rfl ?_
      obtain ⟨hg0, h⟩ := h
      refine E_irem dX8_dampOn_20 hg0 ?_
      obtain ⟨hg0, hg1, h⟩ := h
      refine E_iald dX8_dampOn_21 sh_908 hg0 hg1 ?_
      refine E_goto (tgt := 26) dX8_dampOn_22 (by decide) ?_
      exact E_iret dX8_dampOn_26 rfl ⟨_, rfl, rfl, h⟩
abbrev Y_X8_fall : My := (yX8_fall, cX8_fall, 4, some .int)
theorem dX8_fall_0 : decode cX8_fall 0 = .ok (.iconst 0, 1) := by decide +kernel
theorem dX8_fall_1 : decode cX8_fall 1 = .ok (.istore_n 3, 1) := by decide +kernel
theorem dX8_fall_2 : decode cX8_fall 2 = .ok (.iload_n 3, 1) := by decide +kernel
theorem dX8_fall_3 : decode cX8_fall 3 = .ok (.aload_n 0, 1) := by decide +kernel
theorem dX8_fall_4 : decode cX8_fall 4 = .ok (.getfield 47, 3) := by decide +kernel
theorem dX8_fall_7 : decode cX8_fall 7 = .ok (.if_icmp .ge 28, 3) := by decide +kernel
theorem dX8_fall_10 : decode cX8_fall 10 = .ok (.aload_n 2, 1) := by decide +kernel
theorem dX8_fall_11 : decode cX8_fall 11 = .ok (.aload_n 0, 1) := by decide +kernel
theorem dX8_fall_12 : decode cX8_fall 12 = .ok (.getfield 22, 3) := by decide +kernel
theorem dX8_fall_15 : decode cX8_fall 15 = .ok (.iload_n 3, 1) := by decide +kernel
theorem dX8_fall_16 : decode cX8_fall 16 = .ok (.iaload, 1) := by decide +kernel
theorem dX8_fall_17 : decode cX8_fall 17 = .ok (.iaload, 1) := by decide +kernel
theorem dX8_fall_18 : decode cX8_fall 18 = .ok (.iload_n 1, 1) := by decide +kernel
theorem dX8_fall_19 : decode cX8_fall 19 = .ok (.if_icmp .lt 10, 3) := by decide +kernel
theorem dX8_fall_22 : decode cX8_fall 22 = .ok (.aload_n 0, 1) := by decide +kernel
theorem dX8_fall_23 : decode cX8_fall 23 = .ok (.getfield 22, 3) := by decide +kernel
theorem dX8_fall_26 : decode cX8_fall 26 = .ok (.iload_n 3, 1) := by decide +kernel
theorem dX8_fall_27 : decode cX8_fall 27 = .ok (.iaload, 1) := by decide +kernel
theorem dX8_fall_28 : decode cX8_fall 28 = .ok (.ireturn, 1) := by decide +kernel
theorem dX8_fall_29 : decode cX8_fall 29 = .ok (.iinc 3 1, 3) := by decide +kernel
theorem dX8_fall_32 : decode cX8_fall 32 = .ok (.goto (-30), 3) := by decide +kernel
theorem dX8_fall_35 : decode cX8_fall 35 = .ok (.bipush 6, 2) := by decide +kernel
theorem dX8_fall_37 : decode cX8_fall 37 = .ok (.ireturn, 1) := by decide +kernel
def P_X8_fall_L2  (o0 : Nat) (x1 : Int) (t2 : Nat) (o2 : Nat)  (Q : Int → St → Prop) : Nat → Int → St → Prop
  | 0, _, _ => False
  | n + 1, x3, σ => (if (σ 8 o0 10) ≤ x3 then Q 6 σ else 0 ≤ x3 ∧ x3 < 6 ∧ (shp t2).1 = 0 ∧ 0 ≤ σ 903 o0 x3 ∧ σ 903 o0 x3 < ((shp t2).2 : Int) ∧ (if (σ t2 o2 (σ 903 o0 x3)) < x1 then (P_X8_fall_L2 o0 x1 t2 o2 Q n) (wi (x3 + 1)) σ else 0 ≤ x3 ∧ x3 < 6 ∧ Q (σ 903 o0 x3) σ))
set_option maxRecDepth 20000 in
set_option maxHeartbeats 2000000 in
theorem e_P_X8_fall_L2  {o0 : Nat} {x1 : Int} {t2 : Nat} {o2 : Nat}  {Q : Int → St → Prop}   : ∀ (n : Nat) (x3 : Int) (σ : St), P_X8_fall_L2 o0 x1 t2 o2 Q n x3 σ → E Y_X8_fall 0 0 0 (QI Q) ww 0 0 2 [some (vR 8 o0), some (vI x1), some (vR t2 o2), some (vI x3)] [] σ := by
  intro n
  induction n with
  | zero => intro x3 σ h; exact h.elim
  | succ n hR =>
    intro x3 σ h
    unfold P_X8_fall_L2 at h
    refine E_iload_n dX8_fall_2 rfl rfl ?_
    refine E_aload_n dX8_fall_3 rfl rfl ?_
    refine E_geti (i := o0) dX8_fall_4 fl_RX8_47 rfl ?_
    refine E_icmp_ge (tgt := 35) dX8_fall_7 (by decide) (fun hc => ?_) (fun hc => ?_)
    · have h := Eq.mp (if_pos hc) h
      refine E_bp dX8_fall_35 rfl ?_
      exact E_iret dX8_fall_37 rfl ⟨_, rfl, rfl, h⟩
    · have h := Eq.mp (if_neg hc) h
      refine E_aload_n dX8_fall_10 rfl rfl ?_
      refine E_aload_n dX8_fall_11 rfl rfl ?_
      refine E_getr (i := o0) dX8_fall_12 fl_RX8_22 rfl rfl (go_8_3 _ _) ?_
      refine E_iload_n dX8_fall_15 rfl rfl ?_
      obtain ⟨hg0, hg1, h⟩ := h
      refine E_iald dX8_fall_16 sh_903 hg0 hg1 ?_
      obtain ⟨hg0, hg1, hg2, h⟩ := h
      refine E_iald dX8_fall_17 (Prod.ext hg0 rfl) hg1 hg2 ?_
      refine E_iload_n dX8_fall_18 rfl rfl ?_
      refine E_icmp_lt (tgt := 29) dX8_fall_19 (by decide) (fun hc => ?_) (fun hc => ?_)
      · have h := Eq.mp (if_pos hc) h
        refine E_iinc (ls' := [some (vR 8 o0), some (vI x1), some (vR t2 o2), some (vI (wi (x3 + 1)))]) dX8_fall_29 rfl (by decide) rfl rfl ?_
        refine E_goto (tgt := 2) dX8_fall_32 (by decide) ?_
        exact hR _ _ h
      · have h := Eq.mp (if_neg hc) h
        refine E_aload_n dX8_fall_22 rfl rfl ?_
        refine E_getr (i := o0) dX8_fall_23 fl_RX8_22 rfl rfl (go_8_3 _ _) ?_
        refine E_iload_n dX8_fall_26 rfl rfl ?_
        obtain ⟨hg0, hg1, h⟩ := h
        refine E_iald dX8_fall_27 sh_903 hg0 hg1 ?_
        exact E_iret dX8_fall_28 rfl ⟨_, rfl, rfl, h⟩
def P_X8_fall  (o0 : Nat) (x1 : Int) (t2 : Nat) (o2 : Nat) (σ : St) (Q : Int → St → Prop) : Prop :=
  P_X8_fall_L2 o0 x1 t2 o2 Q FU 0 σ
set_option maxRecDepth 20000 in
set_option maxHeartbeats 2000000 in
theorem s_X8_fall   {o0 : Nat} {x1 : Int} {t2 : Nat} {o2 : Nat} {σ : St} {Q : Int → St → Prop} (h : P_X8_fall o0 x1 t2 o2 σ Q) : Cn Y_X8_fall 0 0 0 ww σ [vR 8 o0, vI x1, vR t2 o2] (QI Q) := by
  refine Cn_of [some (vR 8 o0), some (vI x1), some (vR t2 o2), none] (by decide) (Nat.le_of_ble_eq_true rfl) rfl ?_
  unfold P_X8_fall at h
  refine E_ic dX8_fall_0 rfl ?_
  refine E_istore_n (ls' := [some (vR 8 o0), some (vI x1), some (vR t2 o2), some (vI 0)]) dX8_fall_1 rfl (by decide) rfl ?_
  refine e_P_X8_fall_L2  _ _ _ h
abbrev Y_X8_beatsTo : My := (yX8_beatsTo, cX8_beatsTo, 4, some .int)
theorem dX8_beatsTo_0 : decode cX8_beatsTo 0 = .ok (.iconst 1, 1) := by decide +kernel
theorem dX8_beatsTo_1 : decode cX8_beatsTo 1 = .ok (.istore_n 3, 1) := by decide +kernel
theorem dX8_beatsTo_2 : decode cX8_beatsTo 2 = .ok (.aload_n 0, 1) := by decide +kernel
theorem dX8_beatsTo_3 : decode cX8_beatsTo 3 = .ok (.iload_n 2, 1) := by decide +kernel
theorem dX8_beatsTo_4 : decode cX8_beatsTo 4 = .ok (.invokevirtual 83, 3) := by decide +kernel
theorem dX8_beatsTo_7 : decode cX8_beatsTo 7 = .ok (.ifCond .eq 13, 3) := by decide +kernel
theorem dX8_beatsTo_10 : decode cX8_beatsTo 10 = .ok (.aload_n 0, 1) := by decide +kernel
theorem dX8_beatsTo_11 : decode cX8_beatsTo 11 = .ok (.getfield 9, 3) := by decide +kernel
theorem dX8_beatsTo_14 : decode cX8_beatsTo 14 = .ok (.iload_n 2, 1) := by decide +kernel
theorem dX8_beatsTo_15 : decode cX8_beatsTo 15 = .ok (.iaload, 1) := by decide +kernel
theorem dX8_beatsTo_16 : decode cX8_beatsTo 16 = .ok (.istore_n 3, 1) := by decide +kernel
theorem dX8_beatsTo_17 : decode cX8_beatsTo 17 = .ok (.goto 29, 3) := by decide +kernel
theorem dX8_beatsTo_20 : decode cX8_beatsTo 20 = .ok (.aload_n 0, 1) := by decide +kernel
theorem dX8_beatsTo_21 : decode cX8_beatsTo 21 = .ok (.getfield 47, 3) := by decide +kernel
theorem dX8_beatsTo_24 : decode cX8_beatsTo 24 = .ok (.ifCond .le 22, 3) := by decide +kernel
theorem dX8_beatsTo_27 : decode cX8_beatsTo 27 = .ok (.aload_n 0, 1) := by decide +kernel
theorem dX8_beatsTo_28 : decode cX8_beatsTo 28 = .ok (.getfield 9, 3) := by decide +kernel
theorem dX8_beatsTo_31 : decode cX8_beatsTo 31 = .ok (.aload_n 0, 1) := by decide +kernel
theorem dX8_beatsTo_32 : decode cX8_beatsTo 32 = .ok (.getfield 22, 3) := by decide +kernel
theorem dX8_beatsTo_35 : decode cX8_beatsTo 35 = .ok (.aload_n 0, 1) := by decide +kernel
theorem dX8_beatsTo_36 : decode cX8_beatsTo 36 = .ok (.getfield 47, 3) := by decide +kernel
theorem dX8_beatsTo_39 : decode cX8_beatsTo 39 = .ok (.iconst 1, 1) := by decide +kernel
theorem dX8_beatsTo_40 : decode cX8_beatsTo 40 = .ok (.isub, 1) := by decide +kernel
theorem dX8_beatsTo_41 : decode cX8_beatsTo 41 = .ok (.iaload, 1) := by decide +kernel
theorem dX8_beatsTo_42 : decode cX8_beatsTo 42 = .ok (.iaload, 1) := by decide +kernel
theorem dX8_beatsTo_43 : decode cX8_beatsTo 43 = .ok (.iconst 1, 1) := by decide +kernel
theorem dX8_beatsTo_44 : decode cX8_beatsTo 44 = .ok (.iadd, 1) := by decide +kernel
theorem dX8_beatsTo_45 : decode cX8_beatsTo 45 = .ok (.istore_n 3, 1) := by decide +kernel
theorem dX8_beatsTo_46 : decode cX8_beatsTo 46 = .ok (.aload_n 0, 1) := by decide +kernel
theorem dX8_beatsTo_47 : decode cX8_beatsTo 47 = .ok (.getfield 25, 3) := by decide +kernel
theorem dX8_beatsTo_50 : decode cX8_beatsTo 50 = .ok (.iload_n 1, 1) := by decide +kernel
theorem dX8_beatsTo_51 : decode cX8_beatsTo 51 = .ok (.iaload, 1) := by decide +kernel
theorem dX8_beatsTo_52 : decode cX8_beatsTo 52 = .ok (.iconst 3, 1) := by decide +kernel
theorem dX8_beatsTo_53 : decode cX8_beatsTo 53 = .ok (.if_icmp .ne 9, 3) := by decide +kernel
theorem dX8_beatsTo_56 : decode cX8_beatsTo 56 = .ok (.iconst 2, 1) := by decide +kernel
theorem dX8_beatsTo_57 : decode cX8_beatsTo 57 = .ok (.iload_n 3, 1) := by decide +kernel
theorem dX8_beatsTo_58 : decode cX8_beatsTo 58 = .ok (.imul, 1) := by decide +kernel
theorem dX8_beatsTo_59 : decode cX8_beatsTo 59 = .ok (.goto 4, 3) := by decide +kernel
theorem dX8_beatsTo_62 : decode cX8_beatsTo 62 = .ok (.iload_n 3, 1) := by decide +kernel
theorem dX8_beatsTo_63 : decode cX8_beatsTo 63 = .ok (.ireturn, 1) := by decide +kernel
theorem lk_RX8_83 : Cond.methodLink RX8 83 yX8_hasCounter ∈ tG := inG (i := 930) (by decide +kernel) (by decide +kernel)
theorem m_X8_hasCounter : MV Y_X8_hasCounter 1 8 := ⟨⟨inG (i := 890) (by decide +kernel) (by decide +kernel), inG (i := 100) (by decide +kernel) (by decide +kernel), by decide, by decide, by decide, by decide +kernel⟩, inG (i := 888) (by decide +kernel) (by decide +kernel), inG (i := 889) (by decide +kernel) (by decide +kernel), by decide⟩
def P_X8_beatsTo_J46  (o0 : Nat) (x1 : Int) (x3 : Int)  (Q : Int → St → Prop) (σ : St) : Prop :=
  0 ≤ x1 ∧ x1 < 6 ∧ (if (σ 904 o0 x1) = 3 then Q (wi (2 * x3)) σ else Q x3 σ)
set_option maxRecDepth 20000 in
set_option maxHeartbeats 2000000 in
theorem e_P_X8_beatsTo_J46  {o0 : Nat} {x1 : Int} {x3 : Int}  {Q : Int → St → Prop} {σ : St}   (h : P_X8_beatsTo_J46 o0 x1 x3 Q σ) : E Y_X8_beatsTo 1 0 0 (QI Q) ww 0 0 46 [some (vR 8 o0), some (vI x1), none, some (vI x3)] [] σ := by
  unfold P_X8_beatsTo_J46 at h
  refine E_aload_n dX8_beatsTo_46 rfl rfl ?_
  refine E_getr (i := o0) dX8_beatsTo_47 fl_RX8_25 rfl rfl (go_8_4 _ _) ?_
  refine E_iload_n dX8_beatsTo_50 rfl rfl ?_
  obtain ⟨hg0, hg1, h⟩ := h
  refine E_iald dX8_beatsTo_51 sh_904 hg0 hg1 ?_
  refine E_ic dX8_beatsTo_52 rfl ?_
  refine E_icmp_ne (tgt := 62) dX8_beatsTo_53 (by decide) (fun hc => ?_) (fun hc => ?_)
  · have h := Eq.mp (if_neg hc) h
    refine E_iload_n dX8_beatsTo_62 rfl rfl ?_
    exact E_iret dX8_beatsTo_63 rfl ⟨_, rfl, rfl, h⟩
  · have h := Eq.mp (if_pos hc) h
    refine E_ic dX8_beatsTo_56 rfl ?_
    refine E_iload_n dX8_beatsTo_57 rfl rfl ?_
    refine E_imul dX8_beatsTo_58 ?_
    refine E_goto (tgt := 63) dX8_beatsTo_59 (by decide) ?_
    exact E_iret dX8_beatsTo_63 rfl ⟨_, rfl, rfl, h⟩
def P_X8_beatsTo  (o0 : Nat) (x1 : Int) (x2 : Int) (σ : St) (Q : Int → St → Prop) : Prop :=
  P_X8_hasCounter o0 x2 σ (fun r_2 σ_1 => (if r_2 = 0 then (if (σ_1 8 o0 10) ≤ 0 then P_X8_beatsTo_J46 o0 x1 1 Q σ_1 else 0 ≤ wi ((σ_1 8 o0 10) - 1) ∧ wi ((σ_1 8 o0 10) - 1) < 6 ∧ 0 ≤ σ_1 903 o0 (wi ((σ_1 8 o0 10) - 1)) ∧ σ_1 903 o0 (wi ((σ_1 8 o0 10) - 1)) < 6 ∧ P_X8_beatsTo_J46 o0 x1 (wi ((σ_1 900 o0 (σ_1 903 o0 (wi ((σ_1 8 o0 10) - 1)))) + 1)) Q σ_1) else 0 ≤ x2 ∧ x2 < 6 ∧ P_X8_beatsTo_J46 o0 x1 (σ_1 900 o0 x2) Q σ_1))
set_option maxRecDepth 20000 in
set_option maxHeartbeats 2000000 in
theorem s_X8_beatsTo   {o0 : Nat} {x1 : Int} {x2 : Int} {σ : St} {Q : Int → St → Prop} (h : P_X8_beatsTo o0 x1 x2 σ Q) : Cn Y_X8_beatsTo 1 0 0 ww σ [vR 8 o0, vI x1, vI x2] (QI Q) := by
  refine Cn_of [some (vR 8 o0), some (vI x1), some (vI x2), none] (by decide) (Nat.le_of_ble_eq_true rfl) rfl ?_
  unfold P_X8_beatsTo at h
  refine E_ic dX8_beatsTo_0 rfl ?_
  refine E_istore_n (ls' := [some (vR 8 o0), some (vI x1), some (vI x2), some (vI 1)]) dX8_beatsTo_1 rfl (by decide) rfl ?_
  refine E_aload_n dX8_beatsTo_2 rfl rfl ?_
  refine E_iload_n dX8_beatsTo_3 rfl rfl ?_
  refine E_callV (Y' := Y_X8_hasCounter) (as := [vI x2]) (st := []) dX8_beatsTo_4 lk_RX8_83 m_X8_hasCounter (by decide) (Nat.le_refl _) (Nat.le_refl _) rfl rfl (Nat.le_of_ble_eq_true rfl) (s_X8_hasCounter h) (fun r0 B0 σ_1 h => ?_)
  obtain ⟨r_2, rfl, rfl, h⟩ := h
  refine E_if_eq (tgt := 20) dX8_beatsTo_7 (by decide) (fun hc => ?_) (fun hc => ?_)
  · have h := Eq.mp (if_pos hc) h
    refine E_aload_n dX8_beatsTo_20 rfl rfl ?_
    refine E_geti (i := o0) dX8_beatsTo_21 fl_RX8_47 rfl ?_
    refine E_if_le (tgt := 46) dX8_beatsTo_24 (by decide) (fun hc => ?_) (fun hc => ?_)
    · have h := Eq.mp (if_pos hc) h
      refine E_wk2 [some (vR 8 o0), some (vI x1), none, some (vI 1)] ⟨rfl, ⟨rfl, ⟨rfl, trivial⟩⟩⟩ ?_
      exact e_P_X8_beatsTo_J46 h
    · have h := Eq.mp (if_neg hc) h
      refine E_aload_n dX8_beatsTo_27 rfl rfl ?_
      refine E_getr (i := o0) dX8_beatsTo_28 fl_RX8_9 rfl rfl (go_8_0 _ _) ?_
      refine E_aload_n dX8_beatsTo_31 rfl rfl ?_
      refine E_getr (i := o0) dX8_beatsTo_32 fl_RX8_22 rfl rfl (go_8_3 _ _) ?_
      refine E_aload_n dX8_beatsTo_35 rfl rfl ?_
      refine E_geti (i := o0) dX8_beatsTo_36 fl_RX8_47 rfl ?_
      refine E_ic dX8_beatsTo_39 rfl ?_
      refine E_isub dX8_beatsTo_40 ?_
      obtain ⟨hg0, hg1, h⟩ := h
      refine E_iald dX8_beatsTo_41 sh_903 hg0 hg1 ?_
      obtain ⟨hg0, hg1, h⟩ := h
      refine E_iald dX8_beatsTo_42 sh_900 hg0 hg1 ?_
      refine E_ic dX8_beatsTo_43 rfl ?_
      refine E_iadd dX8_beatsTo_44 ?_
      refine E_istore_n (ls' := [some (vR 8 o0), some (vI x1), some (vI x2), some (vI (wi ((σ_1 900 o0 (σ_1 903 o0 (wi ((σ_1 8 o0 10) - 1)))) + 1)))]) dX8_beatsTo_45 rfl (by decide) rfl ?_
      refine E_wk2 [some (vR 8 o0), some (vI x1), none, some (vI (wi ((σ_1 900 o0 (σ_1 903 o0 (wi ((σ_1 8 o0 10) - 1)))) + 1)))] ⟨rfl, ⟨rfl, ⟨rfl, trivial⟩⟩⟩ ?_
      exact e_P_X8_beatsTo_J46 h
  · have h := Eq.mp (if_neg hc) h
    refine E_aload_n dX8_beatsTo_10 rfl rfl ?_
    refine E_getr (i := o0) dX8_beatsTo_11 fl_RX8_9 rfl rfl (go_8_0 _ _) ?_
    refine E_iload_n dX8_beatsTo_14 rfl rfl ?_
    obtain ⟨hg0, hg1, h⟩ := h
    refine E_iald dX8_beatsTo_15 sh_900 hg0 hg1 ?_
    refine E_istore_n (ls' := [some (vR 8 o0), some (vI x1), some (vI x2), some (vI (σ_1 900 o0 x2))]) dX8_beatsTo_16 rfl (by decide) rfl ?_
    refine E_goto (tgt := 46) dX8_beatsTo_17 (by decide) ?_
    refine E_wk2 [some (vR 8 o0), some (vI x1), none, some (vI (σ_1 900 o0 x2))] ⟨rfl, ⟨rfl, ⟨rfl, trivial⟩⟩⟩ ?_
    exact e_P_X8_beatsTo_J46 h
abbrev Y_X9_open : My := (yX9_open, cX9_open, 2, none)
theorem dX9_open_0 : decode cX9_open 0 = .ok (.aload_n 0, 1) := by decide +kernel
theorem dX9_open_1 : decode cX9_open 1 = .ok (.iconst 0, 1) := by decide +kernel
theorem dX9_open_2 : decode cX9_open 2 = .ok (.putfield 33, 3) := by decide +kernel
theorem dX9_open_5 : decode cX9_open 5 = .ok (.aload_n 0, 1) := by decide +kernel
theorem dX9_open_6 : decode cX9_open 6 = .ok (.iconst 0, 1) := by decide +kernel
theorem dX9_open_7 : decode cX9_open 7 = .ok (.putfield 37, 3) := by decide +kernel
theorem dX9_open_10 : decode cX9_open 10 = .ok (.aload_n 0, 1) := by decide +kernel
theorem dX9_open_11 : decode cX9_open 11 = .ok (.iconst 0, 1) := by decide +kernel
theorem dX9_open_12 : decode cX9_open 12 = .ok (.putfield 40, 3) := by decide +kernel
theorem dX9_open_15 : decode cX9_open 15 = .ok (.aload_n 0, 1) := by decide +kernel
theorem dX9_open_16 : decode cX9_open 16 = .ok (.iconst 0, 1) := by decide +kernel
theorem dX9_open_17 : decode cX9_open 17 = .ok (.putfield 43, 3) := by decide +kernel
theorem dX9_open_20 : decode cX9_open 20 = .ok (.aload_n 0, 1) := by decide +kernel
theorem dX9_open_21 : decode cX9_open 21 = .ok (.iconst 0, 1) := by decide +kernel
theorem dX9_open_22 : decode cX9_open 22 = .ok (.putfield 46, 3) := by decide +kernel
theorem dX9_open_25 : decode cX9_open 25 = .ok (.iconst 0, 1) := by decide +kernel
theorem dX9_open_26 : decode cX9_open 26 = .ok (.istore_n 1, 1) := by decide +kernel
theorem dX9_open_27 : decode cX9_open 27 = .ok (.iload_n 1, 1) := by decide +kernel
theorem dX9_open_28 : decode cX9_open 28 = .ok (.aload_n 0, 1) := by decide +kernel
theorem dX9_open_29 : decode cX9_open 29 = .ok (.getfield 49, 3) := by decide +kernel
theorem dX9_open_32 : decode cX9_open 32 = .ok (.getfield 53, 3) := by decide +kernel
theorem dX9_open_35 : decode cX9_open 35 = .ok (.if_icmp .ge 24, 3) := by decide +kernel
theorem dX9_open_38 : decode cX9_open 38 = .ok (.aload_n 0, 1) := by decide +kernel
theorem dX9_open_39 : decode cX9_open 39 = .ok (.getfield 9, 3) := by decide +kernel
theorem dX9_open_42 : decode cX9_open 42 = .ok (.iload_n 1, 1) := by decide +kernel
theorem dX9_open_43 : decode cX9_open 43 = .ok (.aload_n 0, 1) := by decide +kernel
theorem dX9_open_44 : decode cX9_open 44 = .ok (.getfield 49, 3) := by decide +kernel
theorem dX9_open_47 : decode cX9_open 47 = .ok (.getfield 58, 3) := by decide +kernel
theorem dX9_open_50 : decode cX9_open 50 = .ok (.iload_n 1, 1) := by decide +kernel
theorem dX9_open_51 : decode cX9_open 51 = .ok (.iaload, 1) := by decide +kernel
theorem dX9_open_52 : decode cX9_open 52 = .ok (.iastore, 1) := by decide +kernel
theorem dX9_open_53 : decode cX9_open 53 = .ok (.iinc 1 1, 3) := by decide +kernel
theorem dX9_open_56 : decode cX9_open 56 = .ok (.goto (-29), 3) := by decide +kernel
theorem dX9_open_59 : decode cX9_open 59 = .ok (.iconst 0, 1) := by decide +kernel
theorem dX9_open_60 : decode cX9_open 60 = .ok (.istore_n 1, 1) := by decide +kernel
theorem dX9_open_61 : decode cX9_open 61 = .ok (.iload_n 1, 1) := by decide +kernel
theorem dX9_open_62 : decode cX9_open 62 = .ok (.aload_n 0, 1) := by decide +kernel
theorem dX9_open_63 : decode cX9_open 63 = .ok (.getfield 49, 3) := by decide +kernel
theorem dX9_open_66 : decode cX9_open 66 = .ok (.getfield 59, 3) := by decide +kernel
theorem dX9_open_69 : decode cX9_open 69 = .ok (.if_icmp .ge 60, 3) := by decide +kernel
theorem dX9_open_72 : decode cX9_open 72 = .ok (.aload_n 0, 1) := by decide +kernel
theorem dX9_open_73 : decode cX9_open 73 = .ok (.getfield 15, 3) := by decide +kernel
theorem dX9_open_76 : decode cX9_open 76 = .ok (.iload_n 1, 1) := by decide +kernel
theorem dX9_open_77 : decode cX9_open 77 = .ok (.aload_n 0, 1) := by decide +kernel
theorem dX9_open_78 : decode cX9_open 78 = .ok (.getfield 49, 3) := by decide +kernel
theorem dX9_open_81 : decode cX9_open 81 = .ok (.getfield 62, 3) := by decide +kernel
theorem dX9_open_84 : decode cX9_open 84 = .ok (.iload_n 1, 1) := by decide +kernel
theorem dX9_open_85 : decode cX9_open 85 = .ok (.iaload, 1) := by decide +kernel
theorem dX9_open_86 : decode cX9_open 86 = .ok (.iastore, 1) := by decide +kernel
theorem dX9_open_87 : decode cX9_open 87 = .ok (.aload_n 0, 1) := by decide +kernel
theorem dX9_open_88 : decode cX9_open 88 = .ok (.getfield 18, 3) := by decide +kernel
theorem dX9_open_91 : decode cX9_open 91 = .ok (.iload_n 1, 1) := by decide +kernel
theorem dX9_open_92 : decode cX9_open 92 = .ok (.aload_n 0, 1) := by decide +kernel
theorem dX9_open_93 : decode cX9_open 93 = .ok (.getfield 49, 3) := by decide +kernel
theorem dX9_open_96 : decode cX9_open 96 = .ok (.getfield 63, 3) := by decide +kernel
theorem dX9_open_99 : decode cX9_open 99 = .ok (.iload_n 1, 1) := by decide +kernel
theorem dX9_open_100 : decode cX9_open 100 = .ok (.iaload, 1) := by decide +kernel
theorem dX9_open_101 : decode cX9_open 101 = .ok (.iastore, 1) := by decide +kernel
theorem dX9_open_102 : decode cX9_open 102 = .ok (.aload_n 0, 1) := by decide +kernel
theorem dX9_open_103 : decode cX9_open 103 = .ok (.getfield 21, 3) := by decide +kernel
theorem dX9_open_106 : decode cX9_open 106 = .ok (.iload_n 1, 1) := by decide +kernel
theorem dX9_open_107 : decode cX9_open 107 = .ok (.iconst 0, 1) := by decide +kernel
theorem dX9_open_108 : decode cX9_open 108 = .ok (.iastore, 1) := by decide +kernel
theorem dX9_open_109 : decode cX9_open 109 = .ok (.aload_n 0, 1) := by decide +kernel
theorem dX9_open_110 : decode cX9_open 110 = .ok (.getfield 24, 3) := by decide +kernel
theorem dX9_open_113 : decode cX9_open 113 = .ok (.iload_n 1, 1) := by decide +kernel
theorem dX9_open_114 : decode cX9_open 114 = .ok (.iconst 0, 1) := by decide +kernel
theorem dX9_open_115 : decode cX9_open 115 = .ok (.iastore, 1) := by decide +kernel
theorem dX9_open_116 : decode cX9_open 116 = .ok (.aload_n 0, 1) := by decide +kernel
theorem dX9_open_117 : decode cX9_open 117 = .ok (.getfield 27, 3) := by decide +kernel
theorem dX9_open_120 : decode cX9_open 120 = .ok (.iload_n 1, 1) := by decide +kernel
theorem dX9_open_121 : decode cX9_open 121 = .ok (.iconst 0, 1) := by decide +kernel
theorem dX9_open_122 : decode cX9_open 122 = .ok (.iastore, 1) := by decide +kernel
theorem dX9_open_123 : decode cX9_open 123 = .ok (.iinc 1 1, 3) := by decide +kernel
theorem dX9_open_126 : decode cX9_open 126 = .ok (.goto (-65), 3) := by decide +kernel
theorem dX9_open_129 : decode cX9_open 129 = .ok (.return_, 1) := by decide +kernel
theorem fl_RX9_15 : FL RX9 15 9 2 := ⟨inG (i := 308) (by decide +kernel) (by decide +kernel), by decide, by decide⟩
theorem fl_RX9_18 : FL RX9 18 9 3 := ⟨inG (i := 312) (by decide +kernel) (by decide +kernel), by decide, by decide⟩
theorem fl_RX9_21 : FL RX9 21 9 4 := ⟨inG (i := 314) (by decide +kernel) (by decide +kernel), by decide, by decide⟩
theorem fl_RX9_24 : FL RX9 24 9 5 := ⟨inG (i := 316) (by decide +kernel) (by decide +kernel), by decide, by decide⟩
theorem fl_RX9_27 : FL RX9 27 9 6 := ⟨inG (i := 317) (by decide +kernel) (by decide +kernel), by decide, by decide⟩
theorem fl_RX9_33 : FL RX9 33 9 8 := ⟨inG (i := 322) (by decide +kernel) (by decide +kernel), by decide, by decide⟩
theorem fl_RX9_37 : FL RX9 37 9 9 := ⟨inG (i := 324) (by decide +kernel) (by decide +kernel), by decide, by decide⟩
theorem fl_RX9_40 : FL RX9 40 9 10 := ⟨inG (i := 325) (by decide +kernel) (by decide +kernel), by decide, by decide⟩
theorem fl_RX9_43 : FL RX9 43 9 11 := ⟨inG (i := 328) (by decide +kernel) (by decide +kernel), by decide, by decide⟩
theorem fl_RX9_46 : FL RX9 46 9 12 := ⟨inG (i := 330) (by decide +kernel) (by decide +kernel), by decide, by decide⟩
theorem fl_RX9_49 : FL RX9 49 9 0 := ⟨inG (i := 303) (by decide +kernel) (by decide +kernel), by decide, by decide⟩
theorem fl_RX9_53 : FL RX9 53 8 10 := ⟨inG (i := 213) (by decide +kernel) (by decide +kernel), by decide, by decide⟩
theorem fl_RX9_58 : FL RX9 58 8 1 := ⟨inG (i := 193) (by decide +kernel) (by decide +kernel), by decide, by decide⟩
theorem fl_RX9_59 : FL RX9 59 8 11 := ⟨inG (i := 219) (by decide +kernel) (by decide +kernel), by decide, by decide⟩
theorem fl_RX9_62 : FL RX9 62 8 5 := ⟨inG (i := 201) (by decide +kernel) (by decide +kernel), by decide, by decide⟩
theorem fl_RX9_63 : FL RX9 63 8 6 := ⟨inG (i := 203) (by decide +kernel) (by decide +kernel), by decide, by decide⟩
theorem fl_RX9_9 : FL RX9 9 9 1 := ⟨inG (i := 304) (by decide +kernel) (by decide +kernel), by decide, by decide⟩
theorem go_9_0 (σ : St) (i : Nat) : go σ 9 i 0 = (8, 0) := rfl
theorem go_9_1 (σ : St) (i : Nat) : go σ 9 i 1 = (1001, i) := rfl
theorem go_9_3 (σ : St) (i : Nat) : go σ 9 i 3 = (1003, i) := rfl
theorem go_9_4 (σ : St) (i : Nat) : go σ 9 i 4 = (1004, i) := rfl
theorem go_9_5 (σ : St) (i : Nat) : go σ 9 i 5 = (1005, i) := rfl
theorem go_9_6 (σ : St) (i : Nat) : go σ 9 i 6 = (1006, i) := rfl
theorem sh_1001 : shp 1001 = (0, 6) := rfl
theorem sh_1003 : shp 1003 = (0, 6) := rfl
theorem sh_1004 : shp 1004 = (0, 6) := rfl
theorem sh_1005 : shp 1005 = (0, 6) := rfl
theorem sh_1006 : shp 1006 = (0, 6) := rfl
def P_X9_open_L27  (o0 : Nat) (K : St → Prop) (Q : St → Prop) : Nat → Int → St → Prop
  | 0, _, _ => False
  | n + 1, x1, σ => (if (σ 8 0 10) ≤ x1 then K σ else 0 ≤ x1 ∧ x1 < 6 ∧ 0 ≤ x1 ∧ x1 < 6 ∧ (P_X9_open_L27 o0 K Q n) (wi (x1 + 1)) (up σ 1001 o0 x1 (σ 901 0 x1)))
set_option maxRecDepth 20000 in
set_option maxHeartbeats 2000000 in
theorem e_P_X9_open_L27  {o0 : Nat} {K : St → Prop} {Q : St → Prop}  (hK : ∀ σ, K σ → E Y_X9_open 0 0 0 (QV Q) ww 0 0 59 [some (vR 9 o0), none] [] σ) : ∀ (n : Nat) (x1 : Int) (σ : St), P_X9_open_L27 o0 K Q n x1 σ → E Y_X9_open 0 0 0 (QV Q) ww 0 0 27 [some (vR 9 o0), some (vI x1)] [] σ := by
  intro n
  induction n with
  | zero => intro x1 σ h; exact h.elim
  | succ n hR =>
    intro x1 σ h
    unfold P_X9_open_L27 at h
    refine E_iload_n dX9_open_27 rfl rfl ?_
    refine E_aload_n dX9_open_28 rfl rfl ?_
    refine E_getr (i := o0) dX9_open_29 fl_RX9_49 rfl rfl (go_9_0 _ _) ?_
    refine E_geti (i := 0) dX9_open_32 fl_RX9_53 rfl ?_
    refine E_icmp_ge (tgt := 59) dX9_open_35 (by decide) (fun hc => ?_) (fun hc => ?_)
    · have h := Eq.mp (if_pos hc) h
      refine E_wk2 [some (vR 9 o0), none] ⟨rfl, trivial⟩ ?_
      exact hK _ h
    · have h := Eq.mp (if_neg hc) h
      refine E_aload_n dX9_open_38 rfl rfl ?_
      refine E_getr (i := o0) dX9_open_39 fl_RX9_9 rfl rfl (go_9_1 _ _) ?_
      refine E_iload_n dX9_open_42 rfl rfl ?_
      refine E_aload_n dX9_open_43 rfl rfl ?_
      refine E_getr (i := o0) dX9_open_44 fl_RX9_49 rfl rfl (go_9_0 _ _) ?_
      refine E_getr (i := 0) dX9_open_47 fl_RX9_58 rfl rfl (go_8_1 _ _) ?_
      refine E_iload_n dX9_open_50 rfl rfl ?_
      obtain ⟨hg0, hg1, h⟩ := h
      refine E_iald dX9_open_51 sh_901 hg0 hg1 ?_
      obtain ⟨hg0, hg1, h⟩ := h
      refine E_iast dX9_open_52 sh_1001 hg0 hg1 ?_
      refine E_iinc (ls' := [some (vR 9 o0), some (vI (wi (x1 + 1)))]) dX9_open_53 rfl (by decide) rfl rfl ?_
      refine E_goto (tgt := 27) dX9_open_56 (by decide) ?_
      exact hR _ _ h
def P_X9_open_L61  (o0 : Nat)  (Q : St → Prop) : Nat → Int → St → Prop
  | 0, _, _ => False
  | n + 1, x1, σ => (if (σ 8 0 11) ≤ x1 then Q σ else 0 ≤ x1 ∧ x1 < 6 ∧ 0 ≤ x1 ∧ x1 < 6 ∧ 0 ≤ x1 ∧ x1 < 6 ∧ 0 ≤ x1 ∧ x1 < 6 ∧ 0 ≤ x1 ∧ x1 < 6 ∧ 0 ≤ x1 ∧ x1 < 6 ∧ 0 ≤ x1 ∧ x1 < 6 ∧ (P_X9_open_L61 o0 Q n) (wi (x1 + 1)) (up (up (up (up (up σ 1002 o0 x1 (σ 905 0 x1)) 1003 o0 x1 ((up σ 1002 o0 x1 (σ 905 0 x1)) 906 0 x1)) 1004 o0 x1 0) 1005 o0 x1 0) 1006 o0 x1 0))
set_option maxRecDepth 20000 in
set_option maxHeartbeats 2000000 in
theorem e_P_X9_open_L61  {o0 : Nat}  {Q : St → Prop}   : ∀ (n : Nat) (x1 : Int) (σ : St), P_X9_open_L61 o0 Q n x1 σ → E Y_X9_open 0 0 0 (QV Q) ww 0 0 61 [some (vR 9 o0), some (vI x1)] [] σ := by
  intro n
  induction n with
  | zero => intro x1 σ h; exact h.elim
  | succ n hR =>
    intro x1 σ h
    unfold P_X9_open_L61 at h
    refine E_iload_n dX9_open_61 rfl rfl ?_
    refine E_aload_n dX9_open_62 rfl rfl ?_
    refine E_getr (i := o0) dX9_open_63 fl_RX9_49 rfl rfl (go_9_0 _ _) ?_
    refine E_geti (i := 0) dX9_open_66 fl_RX9_59 rfl ?_
    refine E_icmp_ge (tgt := 129) dX9_open_69 (by decide) (fun hc => ?_) (fun hc => ?_)
    · have h := Eq.mp (if_pos hc) h
      exact E_vret dX9_open_129 rfl ⟨rfl, rfl, h⟩
    · have h := Eq.mp (if_neg hc) h
      refine E_aload_n dX9_open_72 rfl rfl ?_
      refine E_getr (i := o0) dX9_open_73 fl_RX9_15 rfl rfl (go_9_2 _ _) ?_
      refine E_iload_n dX9_open_76 rfl rfl ?_
      refine E_aload_n dX9_open_77 rfl rfl ?_
      refine E_getr (i := o0) dX9_open_78 fl_RX9_49 rfl rfl (go_9_0 _ _) ?_
      refine E_getr (i := 0) dX9_open_81 fl_RX9_62 rfl rfl (go_8_5 _ _) ?_
      refine E_iload_n dX9_open_84 rfl rfl ?_
      obtain ⟨hg0, hg1, h⟩ := h
      refine E_iald dX9_open_85 sh_905 hg0 hg1 ?_
      obtain ⟨hg0, hg1, h⟩ := h
      refine E_iast dX9_open_86 sh_1002 hg0 hg1 ?_
      refine E_aload_n dX9_open_87 rfl rfl ?_
      refine E_getr (i := o0) dX9_open_88 fl_RX9_18 rfl rfl (go_9_3 _ _) ?_
      refine E_iload_n dX9_open_91 rfl rfl ?_
      refine E_aload_n dX9_open_92 rfl rfl ?_
      refine E_getr (i := o0) dX9_open_93 fl_RX9_49 rfl rfl (go_9_0 _ _) ?_
      refine E_getr (i := 0) dX9_open_96 fl_RX9_63 rfl rfl (go_8_6 _ _) ?_
      refine E_iload_n dX9_open_99 rfl rfl ?_
      obtain ⟨hg0, hg1, h⟩ := h
      refine E_iald dX9_open_100 sh_906 hg0 hg1 ?_
      obtain ⟨hg0, hg1, h⟩ := h
      refine E_iast dX9_open_101 sh_1003 hg0 hg1 ?_
      refine E_aload_n dX9_open_102 rfl rfl ?_
      refine E_getr (i := o0) dX9_open_103 fl_RX9_21 rfl rfl (go_9_4 _ _) ?_
      refine E_iload_n dX9_open_106 rfl rfl ?_
      refine E_ic dX9_open_107 rfl ?_
      obtain ⟨hg0, hg1, h⟩ := h
      refine E_iast dX9_open_108 sh_1004 hg0 hg1 ?_
      refine E_aload_n dX9_open_109 rfl rfl ?_
      refine E_getr (i := o0) dX9_open_110 fl_RX9_24 rfl rfl (go_9_5 _ _) ?_
      refine E_iload_n dX9_open_113 rfl rfl ?_
      refine E_ic dX9_open_114 rfl ?_
      obtain ⟨hg0, hg1, h⟩ := h
      refine E_iast dX9_open_115 sh_1005 hg0 hg1 ?_
      refine E_aload_n dX9_open_116 rfl rfl ?_
      refine E_getr (i := o0) dX9_open_117 fl_RX9_27 rfl rfl (go_9_6 _ _) ?_
      refine E_iload_n dX9_open_120 rfl rfl ?_
      refine E_ic dX9_open_121 rfl ?_
      obtain ⟨hg0, hg1, h⟩ := h
      refine E_iast dX9_open_122 sh_1006 hg0 hg1 ?_
      refine E_iinc (ls' := [some (vR 9 o0), some (vI (wi (x1 + 1)))]) dX9_open_123 rfl (by decide) rfl rfl ?_
      refine E_goto (tgt := 61) dX9_open_126 (by decide) ?_
      exact hR _ _ h
def P_X9_open  (o0 : Nat) (σ : St) (Q : St → Prop) : Prop :=
  P_X9_open_L27 o0 (fun σ_1 => P_X9_open_L61 o0 Q FU 0 σ_1) Q FU 0 (up (up (up (up (up σ 9 o0 8 0) 9 o0 9 0) 9 o0 10 0) 9 o0 11 0) 9 o0 12 0)
set_option maxRecDepth 20000 in
set_option maxHeartbeats 2000000 in
theorem s_X9_open   {o0 : Nat} {σ : St} {Q : St → Prop} (h : P_X9_open o0 σ Q) : Cn Y_X9_open 0 0 0 ww σ [vR 9 o0] (QV Q) := by
  refine Cn_of [some (vR 9 o0), none] (by decide) (Nat.le_of_ble_eq_true rfl) rfl ?_
  unfold P_X9_open at h
  refine E_aload_n dX9_open_0 rfl rfl ?_
  refine E_ic dX9_open_1 rfl ?_
  refine E_puti dX9_open_2 fl_RX9_33 rfl rfl rfl ?_
  refine E_aload_n dX9_open_5 rfl rfl ?_
  refine E_ic dX9_open_6 rfl ?_
  refine E_puti dX9_open_7 fl_RX9_37 rfl rfl rfl ?_
  refine E_aload_n dX9_open_10 rfl rfl ?_
  refine E_ic dX9_open_11 rfl ?_
  refine E_puti dX9_open_12 fl_RX9_40 rfl rfl rfl ?_
  refine E_aload_n dX9_open_15 rfl rfl ?_
  refine E_ic dX9_open_16 rfl ?_
  refine E_puti dX9_open_17 fl_RX9_43 rfl rfl rfl ?_
  refine E_aload_n dX9_open_20 rfl rfl ?_
  refine E_ic dX9_open_21 rfl ?_
  refine E_puti dX9_open_22 fl_RX9_46 rfl rfl rfl ?_
  refine E_ic dX9_open_25 rfl ?_
  refine E_istore_n (ls' := [some (vR 9 o0), some (vI 0)]) dX9_open_26 rfl (by decide) rfl ?_
  refine e_P_X9_open_L27 ?_ _ _ _ h
  · intro σ_1 h
    refine E_ic dX9_open_59 rfl ?_
    refine E_istore_n (ls' := [some (vR 9 o0), some (vI 0)]) dX9_open_60 rfl (by decide) rfl ?_
    refine e_P_X9_open_L61  _ _ _ h
