abbrev Y_X1_sortSizesByHome : My := (yX1_sortSizesByHome, cX1_sortSizesByHome, 3, none)
theorem dX1_sortSizesByHome_0 : decode cX1_sortSizesByHome 0 = .ok (.iconst 0, 1) := by decide +kernel
theorem dX1_sortSizesByHome_1 : decode cX1_sortSizesByHome 1 = .ok (.istore_n 1, 1) := by decide +kernel
theorem dX1_sortSizesByHome_2 : decode cX1_sortSizesByHome 2 = .ok (.iload_n 1, 1) := by decide +kernel
theorem dX1_sortSizesByHome_3 : decode cX1_sortSizesByHome 3 = .ok (.aload_n 0, 1) := by decide +kernel
theorem dX1_sortSizesByHome_4 : decode cX1_sortSizesByHome 4 = .ok (.getfield 29, 3) := by decide +kernel
theorem dX1_sortSizesByHome_7 : decode cX1_sortSizesByHome 7 = .ok (.getfield 80, 3) := by decide +kernel
theorem dX1_sortSizesByHome_10 : decode cX1_sortSizesByHome 10 = .ok (.if_icmp .ge 32, 3) := by decide +kernel
theorem dX1_sortSizesByHome_13 : decode cX1_sortSizesByHome 13 = .ok (.iconst 0, 1) := by decide +kernel
theorem dX1_sortSizesByHome_14 : decode cX1_sortSizesByHome 14 = .ok (.istore_n 2, 1) := by decide +kernel
theorem dX1_sortSizesByHome_15 : decode cX1_sortSizesByHome 15 = .ok (.iload_n 2, 1) := by decide +kernel
theorem dX1_sortSizesByHome_16 : decode cX1_sortSizesByHome 16 = .ok (.bipush 60, 2) := by decide +kernel
theorem dX1_sortSizesByHome_18 : decode cX1_sortSizesByHome 18 = .ok (.if_icmp .gt 18, 3) := by decide +kernel
theorem dX1_sortSizesByHome_21 : decode cX1_sortSizesByHome 21 = .ok (.aload_n 0, 1) := by decide +kernel
theorem dX1_sortSizesByHome_22 : decode cX1_sortSizesByHome 22 = .ok (.getfield 26, 3) := by decide +kernel
theorem dX1_sortSizesByHome_25 : decode cX1_sortSizesByHome 25 = .ok (.iload_n 1, 1) := by decide +kernel
theorem dX1_sortSizesByHome_26 : decode cX1_sortSizesByHome 26 = .ok (.aaload, 1) := by decide +kernel
theorem dX1_sortSizesByHome_27 : decode cX1_sortSizesByHome 27 = .ok (.iload_n 2, 1) := by decide +kernel
theorem dX1_sortSizesByHome_28 : decode cX1_sortSizesByHome 28 = .ok (.iconst 0, 1) := by decide +kernel
theorem dX1_sortSizesByHome_29 : decode cX1_sortSizesByHome 29 = .ok (.iastore, 1) := by decide +kernel
theorem dX1_sortSizesByHome_30 : decode cX1_sortSizesByHome 30 = .ok (.iinc 2 1, 3) := by decide +kernel
theorem dX1_sortSizesByHome_33 : decode cX1_sortSizesByHome 33 = .ok (.goto (-18), 3) := by decide +kernel
theorem dX1_sortSizesByHome_36 : decode cX1_sortSizesByHome 36 = .ok (.iinc 1 1, 3) := by decide +kernel
theorem dX1_sortSizesByHome_39 : decode cX1_sortSizesByHome 39 = .ok (.goto (-37), 3) := by decide +kernel
theorem dX1_sortSizesByHome_42 : decode cX1_sortSizesByHome 42 = .ok (.iconst 0, 1) := by decide +kernel
theorem dX1_sortSizesByHome_43 : decode cX1_sortSizesByHome 43 = .ok (.istore_n 1, 1) := by decide +kernel
theorem dX1_sortSizesByHome_44 : decode cX1_sortSizesByHome 44 = .ok (.iload_n 1, 1) := by decide +kernel
theorem dX1_sortSizesByHome_45 : decode cX1_sortSizesByHome 45 = .ok (.aload_n 0, 1) := by decide +kernel
theorem dX1_sortSizesByHome_46 : decode cX1_sortSizesByHome 46 = .ok (.getfield 29, 3) := by decide +kernel
theorem dX1_sortSizesByHome_49 : decode cX1_sortSizesByHome 49 = .ok (.getfield 48, 3) := by decide +kernel
theorem dX1_sortSizesByHome_52 : decode cX1_sortSizesByHome 52 = .ok (.if_icmp .ge 37, 3) := by decide +kernel
theorem dX1_sortSizesByHome_55 : decode cX1_sortSizesByHome 55 = .ok (.aload_n 0, 1) := by decide +kernel
theorem dX1_sortSizesByHome_56 : decode cX1_sortSizesByHome 56 = .ok (.getfield 26, 3) := by decide +kernel
theorem dX1_sortSizesByHome_59 : decode cX1_sortSizesByHome 59 = .ok (.aload_n 0, 1) := by decide +kernel
theorem dX1_sortSizesByHome_60 : decode cX1_sortSizesByHome 60 = .ok (.getfield 29, 3) := by decide +kernel
theorem dX1_sortSizesByHome_63 : decode cX1_sortSizesByHome 63 = .ok (.getfield 67, 3) := by decide +kernel
theorem dX1_sortSizesByHome_66 : decode cX1_sortSizesByHome 66 = .ok (.iload_n 1, 1) := by decide +kernel
theorem dX1_sortSizesByHome_67 : decode cX1_sortSizesByHome 67 = .ok (.iaload, 1) := by decide +kernel
theorem dX1_sortSizesByHome_68 : decode cX1_sortSizesByHome 68 = .ok (.aaload, 1) := by decide +kernel
theorem dX1_sortSizesByHome_69 : decode cX1_sortSizesByHome 69 = .ok (.aload_n 0, 1) := by decide +kernel
theorem dX1_sortSizesByHome_70 : decode cX1_sortSizesByHome 70 = .ok (.getfield 33, 3) := by decide +kernel
theorem dX1_sortSizesByHome_73 : decode cX1_sortSizesByHome 73 = .ok (.getfield 56, 3) := by decide +kernel
theorem dX1_sortSizesByHome_76 : decode cX1_sortSizesByHome 76 = .ok (.iload_n 1, 1) := by decide +kernel
theorem dX1_sortSizesByHome_77 : decode cX1_sortSizesByHome 77 = .ok (.iaload, 1) := by decide +kernel
theorem dX1_sortSizesByHome_78 : decode cX1_sortSizesByHome 78 = .ok (.dup2, 1) := by decide +kernel
theorem dX1_sortSizesByHome_79 : decode cX1_sortSizesByHome 79 = .ok (.iaload, 1) := by decide +kernel
theorem dX1_sortSizesByHome_80 : decode cX1_sortSizesByHome 80 = .ok (.iconst 1, 1) := by decide +kernel
theorem dX1_sortSizesByHome_81 : decode cX1_sortSizesByHome 81 = .ok (.iadd, 1) := by decide +kernel
theorem dX1_sortSizesByHome_82 : decode cX1_sortSizesByHome 82 = .ok (.iastore, 1) := by decide +kernel
theorem dX1_sortSizesByHome_83 : decode cX1_sortSizesByHome 83 = .ok (.iinc 1 1, 3) := by decide +kernel
theorem dX1_sortSizesByHome_86 : decode cX1_sortSizesByHome 86 = .ok (.goto (-42), 3) := by decide +kernel
theorem dX1_sortSizesByHome_89 : decode cX1_sortSizesByHome 89 = .ok (.return_, 1) := by decide +kernel
theorem fl_RX1_26 : FL RX1 26 1 6 := ⟨inG (i := 433) (by decide +kernel) (by decide +kernel), by decide, by decide⟩
theorem fl_RX1_29 : FL RX1 29 1 0 := ⟨inG (i := 426) (by decide +kernel) (by decide +kernel), by decide, by decide⟩
theorem fl_RX1_33 : FL RX1 33 1 1 := ⟨inG (i := 427) (by decide +kernel) (by decide +kernel), by decide, by decide⟩
theorem fl_RX1_48 : FL RX1 48 8 11 := ⟨inG (i := 221) (by decide +kernel) (by decide +kernel), by decide, by decide⟩
theorem fl_RX1_56 : FL RX1 56 9 2 := ⟨inG (i := 310) (by decide +kernel) (by decide +kernel), by decide, by decide⟩
theorem fl_RX1_67 : FL RX1 67 8 6 := ⟨inG (i := 205) (by decide +kernel) (by decide +kernel), by decide, by decide⟩
theorem fl_RX1_80 : FL RX1 80 8 10 := ⟨inG (i := 216) (by decide +kernel) (by decide +kernel), by decide, by decide⟩
theorem go_1_0 (σ : St) (i : Nat) : go σ 1 i 0 = (8, 0) := rfl
theorem go_1_1 (σ : St) (i : Nat) : go σ 1 i 1 = (9, 0) := rfl
theorem go_1_6 (σ : St) (i : Nat) : go σ 1 i 6 = (206, i) := rfl
theorem go_8_6 (σ : St) (i : Nat) : go σ 8 i 6 = (906, i) := rfl
theorem go_9_2 (σ : St) (i : Nat) : go σ 9 i 2 = (1002, i) := rfl
theorem sh_1002 : shp 1002 = (0, 6) := rfl
theorem sh_206 : shp 206 = (6, 6) := rfl
theorem sh_256 : shp 256 = (0, 61) := rfl
theorem sh_906 : shp 906 = (0, 6) := rfl
def P_X1_sortSizesByHome_L15 (x1 : Int) (K : St → Prop) (Q : St → Prop) : Nat → Int → St → Prop
  | 0, _, _ => False
  | n + 1, x2, σ => (if 60 < x2 then K σ else 0 ≤ x1 ∧ x1 < 6 ∧ 0 ≤ x2 ∧ x2 < 61 ∧ (P_X1_sortSizesByHome_L15 x1 K Q n) (wi (x2 + 1)) (up σ 256 x1.toNat x2 0))
set_option maxRecDepth 20000 in
set_option maxHeartbeats 2000000 in
theorem e_P_X1_sortSizesByHome_L15 {x1 : Int} {K : St → Prop} {Q : St → Prop} (hK : ∀ σ, K σ → E Y_X1_sortSizesByHome 0 0 0 (QV Q) ww 0 0 36 [some (vR 1 0), some (vI x1), none] [] σ) : ∀ (n : Nat) (x2 : Int) (σ : St), P_X1_sortSizesByHome_L15 x1 K Q n x2 σ → E Y_X1_sortSizesByHome 0 0 0 (QV Q) ww 0 0 15 [some (vR 1 0), some (vI x1), some (vI x2)] [] σ := by
  intro n
  induction n with
  | zero => intro x2 σ h; exact h.elim
  | succ n hR =>
    intro x2 σ h
    unfold P_X1_sortSizesByHome_L15 at h
    refine E_iload_n dX1_sortSizesByHome_15 rfl rfl ?_
    refine E_bp dX1_sortSizesByHome_16 rfl ?_
    refine E_icmp_gt (tgt := 36) dX1_sortSizesByHome_18 (by decide) (fun hc => ?_) (fun hc => ?_)
    · have h := Eq.mp (if_pos hc) h
      refine E_wk2 [some (vR 1 0), some (vI x1), none] ⟨rfl, ⟨rfl, trivial⟩⟩ ?_
      exact hK _ h
    · have h := Eq.mp (if_neg hc) h
      refine E_aload_n dX1_sortSizesByHome_21 rfl rfl ?_
      refine E_getr (i := 0) dX1_sortSizesByHome_22 fl_RX1_26 rfl rfl (go_1_6 _ _) ?_
      refine E_iload_n dX1_sortSizesByHome_25 rfl rfl ?_
      obtain ⟨hg0, hg1, h⟩ := h
      refine E_aald dX1_sortSizesByHome_26 sh_206 (by decide) (by decide) hg0 hg1 rfl rfl ?_
      refine E_iload_n dX1_sortSizesByHome_27 rfl rfl ?_
      refine E_ic dX1_sortSizesByHome_28 rfl ?_
      obtain ⟨hg0, hg1, h⟩ := h
      refine E_iast dX1_sortSizesByHome_29 sh_256 hg0 hg1 ?_
      refine E_iinc (ls' := [some (vR 1 0), some (vI x1), some (vI (wi (x2 + 1)))]) dX1_sortSizesByHome_30 rfl (by decide) rfl rfl ?_
      refine E_goto (tgt := 15) dX1_sortSizesByHome_33 (by decide) ?_
      exact hR _ _ h
def P_X1_sortSizesByHome_L2  (K : St → Prop) (Q : St → Prop) : Nat → Int → St → Prop
  | 0, _, _ => False
  | n + 1, x1, σ => (if (σ 8 0 10) ≤ x1 then K σ else P_X1_sortSizesByHome_L15 x1 (fun σ_1 => (P_X1_sortSizesByHome_L2 K Q n) (wi (x1 + 1)) σ_1) Q FU 0 σ)
set_option maxRecDepth 20000 in
set_option maxHeartbeats 2000000 in
theorem e_P_X1_sortSizesByHome_L2  {K : St → Prop} {Q : St → Prop} (hK : ∀ σ, K σ → E Y_X1_sortSizesByHome 0 0 0 (QV Q) ww 0 0 42 [some (vR 1 0), none, none] [] σ) : ∀ (n : Nat) (x1 : Int) (σ : St), P_X1_sortSizesByHome_L2 K Q n x1 σ → E Y_X1_sortSizesByHome 0 0 0 (QV Q) ww 0 0 2 [some (vR 1 0), some (vI x1), none] [] σ := by
  intro n
  induction n with
  | zero => intro x1 σ h; exact h.elim
  | succ n hR =>
    intro x1 σ h
    unfold P_X1_sortSizesByHome_L2 at h
    refine E_iload_n dX1_sortSizesByHome_2 rfl rfl ?_
    refine E_aload_n dX1_sortSizesByHome_3 rfl rfl ?_
    refine E_getr (i := 0) dX1_sortSizesByHome_4 fl_RX1_29 rfl rfl (go_1_0 _ _) ?_
    refine E_geti (i := 0) dX1_sortSizesByHome_7 fl_RX1_80 rfl ?_
    refine E_icmp_ge (tgt := 42) dX1_sortSizesByHome_10 (by decide) (fun hc => ?_) (fun hc => ?_)
    · have h := Eq.mp (if_pos hc) h
      refine E_wk2 [some (vR 1 0), none, none] ⟨rfl, trivial⟩ ?_
      exact hK _ h
    · have h := Eq.mp (if_neg hc) h
      refine E_ic dX1_sortSizesByHome_13 rfl ?_
      refine E_istore_n (ls' := [some (vR 1 0), some (vI x1), some (vI 0)]) dX1_sortSizesByHome_14 rfl (by decide) rfl ?_
      refine e_P_X1_sortSizesByHome_L15 ?_ _ _ _ h
      · intro σ_1 h
        refine E_iinc (ls' := [some (vR 1 0), some (vI (wi (x1 + 1))), none]) dX1_sortSizesByHome_36 rfl (by decide) rfl rfl ?_
        refine E_goto (tgt := 2) dX1_sortSizesByHome_39 (by decide) ?_
        exact hR _ _ h
def P_X1_sortSizesByHome_L44   (Q : St → Prop) : Nat → Int → St → Prop
  | 0, _, _ => False
  | n + 1, x1, σ => (if (σ 8 0 11) ≤ x1 then Q σ else 0 ≤ x1 ∧ x1 < 6 ∧ 0 ≤ σ 906 0 x1 ∧ σ 906 0 x1 < 6 ∧ 0 ≤ x1 ∧ x1 < 6 ∧ 0 ≤ σ 1002 0 x1 ∧ σ 1002 0 x1 < 61 ∧ 0 ≤ σ 1002 0 x1 ∧ σ 1002 0 x1 < 61 ∧ (P_X1_sortSizesByHome_L44 Q n) (wi (x1 + 1)) (up σ 256 ((σ 906 0 x1).toNat) (σ 1002 0 x1) (wi ((σ 256 ((σ 906 0 x1).toNat) (σ 1002 0 x1)) + 1))))
set_option maxRecDepth 20000 in
set_option maxHeartbeats 2000000 in
theorem e_P_X1_sortSizesByHome_L44   {Q : St → Prop}  : ∀ (n : Nat) (x1 : Int) (σ : St), P_X1_sortSizesByHome_L44 Q n x1 σ → E Y_X1_sortSizesByHome 0 0 0 (QV Q) ww 0 0 44 [some (vR 1 0), some (vI x1), none] [] σ := by
  intro n
  induction n with
  | zero => intro x1 σ h; exact h.elim
  | succ n hR =>
    intro x1 σ h
    unfold P_X1_sortSizesByHome_L44 at h
    refine E_iload_n dX1_sortSizesByHome_44 rfl rfl ?_
    refine E_aload_n dX1_sortSizesByHome_45 rfl rfl ?_
    refine E_getr (i := 0) dX1_sortSizesByHome_46 fl_RX1_29 rfl rfl (go_1_0 _ _) ?_
    refine E_geti (i := 0) dX1_sortSizesByHome_49 fl_RX1_48 rfl ?_
    refine E_icmp_ge (tgt := 89) dX1_sortSizesByHome_52 (by decide) (fun hc => ?_) (fun hc => ?_)
    · have h := Eq.mp (if_pos hc) h
      exact E_vret dX1_sortSizesByHome_89 rfl ⟨rfl, rfl, h⟩
    · have h := Eq.mp (if_neg hc) h
      refine E_aload_n dX1_sortSizesByHome_55 rfl rfl ?_
      refine E_getr (i := 0) dX1_sortSizesByHome_56 fl_RX1_26 rfl rfl (go_1_6 _ _) ?_
      refine E_aload_n dX1_sortSizesByHome_59 rfl rfl ?_
      refine E_getr (i := 0) dX1_sortSizesByHome_60 fl_RX1_29 rfl rfl (go_1_0 _ _) ?_
      refine E_getr (i := 0) dX1_sortSizesByHome_63 fl_RX1_67 rfl rfl (go_8_6 _ _) ?_
      refine E_iload_n dX1_sortSizesByHome_66 rfl rfl ?_
      obtain ⟨hg0, hg1, h⟩ := h
      refine E_iald dX1_sortSizesByHome_67 sh_906 hg0 hg1 ?_
      obtain ⟨hg0, hg1, h⟩ := h
      refine E_aald dX1_sortSizesByHome_68 sh_206 (by decide) (by decide) hg0 hg1 rfl rfl ?_
      refine E_aload_n dX1_sortSizesByHome_69 rfl rfl ?_
      refine E_getr (i := 0) dX1_sortSizesByHome_70 fl_RX1_33 rfl rfl (go_1_1 _ _) ?_
      refine E_getr (i := 0) dX1_sortSizesByHome_73 fl_RX1_56 rfl rfl (go_9_2 _ _) ?_
      refine E_iload_n dX1_sortSizesByHome_76 rfl rfl ?_
      obtain ⟨hg0, hg1, h⟩ := h
      refine E_iald dX1_sortSizesByHome_77 sh_1002 hg0 hg1 ?_
      refine E_dup2 dX1_sortSizesByHome_78 (fun _ q => by cases q) (fun _ q => by cases q) ?_
      obtain ⟨hg0, hg1, h⟩ := h
      refine E_iald dX1_sortSizesByHome_79 sh_256 hg0 hg1 ?_
      refine E_ic dX1_sortSizesByHome_80 rfl ?_
      refine E_iadd dX1_sortSizesByHome_81 ?_
      obtain ⟨hg0, hg1, h⟩ := h
      refine E_iast dX1_sortSizesByHome_82 sh_256 hg0 hg1 ?_
      refine E_iinc (ls' := [some (vR 1 0), some (vI (wi (x1 + 1))), none]) dX1_sortSizesByHome_83 rfl (by decide) rfl rfl ?_
      refine E_goto (tgt := 44) dX1_sortSizesByHome_86 (by decide) ?_
      exact hR _ _ h
def P_X1_sortSizesByHome  (σ : St) (Q : St → Prop) : Prop :=
  P_X1_sortSizesByHome_L2 (fun σ_2 => P_X1_sortSizesByHome_L44 Q FU 0 σ_2) Q FU 0 σ
set_option maxRecDepth 20000 in
set_option maxHeartbeats 2000000 in
theorem s_X1_sortSizesByHome  {σ : St} {Q : St → Prop} (h : P_X1_sortSizesByHome  σ Q) : Cn Y_X1_sortSizesByHome 0 0 0 ww σ [vR 1 0] (QV Q) := by
  refine Cn_of [some (vR 1 0), none, none] (by decide) (Nat.le_of_ble_eq_true rfl) rfl ?_
  unfold P_X1_sortSizesByHome at h
  refine E_ic dX1_sortSizesByHome_0 rfl ?_
  refine E_istore_n (ls' := [some (vR 1 0), some (vI 0), none]) dX1_sortSizesByHome_1 rfl (by decide) rfl ?_
  refine e_P_X1_sortSizesByHome_L2 ?_ _ _ _ h
  · intro σ_2 h
    refine E_ic dX1_sortSizesByHome_42 rfl ?_
    refine E_istore_n (ls' := [some (vR 1 0), some (vI 0), none]) dX1_sortSizesByHome_43 rfl (by decide) rfl ?_
    refine e_P_X1_sortSizesByHome_L44  _ _ _ h
abbrev Y_X1_choose : My := (yX1_choose, cX1_choose, 9, none)
theorem dX1_choose_0 : decode cX1_choose 0 = .ok (.aload_n 0, 1) := by decide +kernel
theorem dX1_choose_1 : decode cX1_choose 1 = .ok (.getfield 26, 3) := by decide +kernel
theorem dX1_choose_4 : decode cX1_choose 4 = .ok (.aload_n 0, 1) := by decide +kernel
theorem dX1_choose_5 : decode cX1_choose 5 = .ok (.getfield 29, 3) := by decide +kernel
theorem dX1_choose_8 : decode cX1_choose 8 = .ok (.getfield 90, 3) := by decide +kernel
theorem dX1_choose_11 : decode cX1_choose 11 = .ok (.iload_n 1, 1) := by decide +kernel
theorem dX1_choose_12 : decode cX1_choose 12 = .ok (.iaload, 1) := by decide +kernel
theorem dX1_choose_13 : decode cX1_choose 13 = .ok (.aaload, 1) := by decide +kernel
theorem dX1_choose_14 : decode cX1_choose 14 = .ok (.astore_n 3, 1) := by decide +kernel
theorem dX1_choose_15 : decode cX1_choose 15 = .ok (.aload_n 0, 1) := by decide +kernel
theorem dX1_choose_16 : decode cX1_choose 16 = .ok (.getfield 20, 3) := by decide +kernel
theorem dX1_choose_19 : decode cX1_choose 19 = .ok (.iload_n 1, 1) := by decide +kernel
theorem dX1_choose_20 : decode cX1_choose 20 = .ok (.iconst 1, 1) := by decide +kernel
theorem dX1_choose_21 : decode cX1_choose 21 = .ok (.iadd, 1) := by decide +kernel
theorem dX1_choose_22 : decode cX1_choose 22 = .ok (.aaload, 1) := by decide +kernel
theorem dX1_choose_23 : decode cX1_choose 23 = .ok (.iload_n 2, 1) := by decide +kernel
theorem dX1_choose_24 : decode cX1_choose 24 = .ok (.iaload, 1) := by decide +kernel
theorem dX1_choose_25 : decode cX1_choose 25 = .ok (.istore 4, 2) := by decide +kernel
theorem dX1_choose_27 : decode cX1_choose 27 = .ok (.iconst 0, 1) := by decide +kernel
theorem dX1_choose_28 : decode cX1_choose 28 = .ok (.istore 5, 2) := by decide +kernel
theorem dX1_choose_30 : decode cX1_choose 30 = .ok (.iconst 0, 1) := by decide +kernel
theorem dX1_choose_31 : decode cX1_choose 31 = .ok (.istore 6, 2) := by decide +kernel
theorem dX1_choose_33 : decode cX1_choose 33 = .ok (.iload_n 2, 1) := by decide +kernel
theorem dX1_choose_34 : decode cX1_choose 34 = .ok (.iconst 1, 1) := by decide +kernel
theorem dX1_choose_35 : decode cX1_choose 35 = .ok (.iadd, 1) := by decide +kernel
theorem dX1_choose_36 : decode cX1_choose 36 = .ok (.istore 7, 2) := by decide +kernel
theorem dX1_choose_38 : decode cX1_choose 38 = .ok (.iload 7, 2) := by decide +kernel
theorem dX1_choose_40 : decode cX1_choose 40 = .ok (.bipush 60, 2) := by decide +kernel
theorem dX1_choose_42 : decode cX1_choose 42 = .ok (.if_icmp .gt 49, 3) := by decide +kernel
theorem dX1_choose_45 : decode cX1_choose 45 = .ok (.iload 6, 2) := by decide +kernel
theorem dX1_choose_47 : decode cX1_choose 47 = .ok (.aload_n 3, 1) := by decide +kernel
theorem dX1_choose_48 : decode cX1_choose 48 = .ok (.iload 7, 2) := by decide +kernel
theorem dX1_choose_50 : decode cX1_choose 50 = .ok (.iaload, 1) := by decide +kernel
theorem dX1_choose_51 : decode cX1_choose 51 = .ok (.iadd, 1) := by decide +kernel
theorem dX1_choose_52 : decode cX1_choose 52 = .ok (.istore 6, 2) := by decide +kernel
theorem dX1_choose_54 : decode cX1_choose 54 = .ok (.iload 6, 2) := by decide +kernel
theorem dX1_choose_56 : decode cX1_choose 56 = .ok (.aload_n 0, 1) := by decide +kernel
theorem dX1_choose_57 : decode cX1_choose 57 = .ok (.getfield 20, 3) := by decide +kernel
theorem dX1_choose_60 : decode cX1_choose 60 = .ok (.iload_n 1, 1) := by decide +kernel
theorem dX1_choose_61 : decode cX1_choose 61 = .ok (.iconst 1, 1) := by decide +kernel
theorem dX1_choose_62 : decode cX1_choose 62 = .ok (.iadd, 1) := by decide +kernel
theorem dX1_choose_63 : decode cX1_choose 63 = .ok (.aaload, 1) := by decide +kernel
theorem dX1_choose_64 : decode cX1_choose 64 = .ok (.iload 7, 2) := by decide +kernel
theorem dX1_choose_66 : decode cX1_choose 66 = .ok (.iaload, 1) := by decide +kernel
theorem dX1_choose_67 : decode cX1_choose 67 = .ok (.iadd, 1) := by decide +kernel
theorem dX1_choose_68 : decode cX1_choose 68 = .ok (.istore 8, 2) := by decide +kernel
theorem dX1_choose_70 : decode cX1_choose 70 = .ok (.iload 8, 2) := by decide +kernel
theorem dX1_choose_72 : decode cX1_choose 72 = .ok (.iload 4, 2) := by decide +kernel
theorem dX1_choose_74 : decode cX1_choose 74 = .ok (.if_icmp .le 11, 3) := by decide +kernel
theorem dX1_choose_77 : decode cX1_choose 77 = .ok (.iload 8, 2) := by decide +kernel
theorem dX1_choose_79 : decode cX1_choose 79 = .ok (.istore 4, 2) := by decide +kernel
theorem dX1_choose_81 : decode cX1_choose 81 = .ok (.iload 7, 2) := by decide +kernel
theorem dX1_choose_83 : decode cX1_choose 83 = .ok (.istore 5, 2) := by decide +kernel
theorem dX1_choose_85 : decode cX1_choose 85 = .ok (.iinc 7 1, 3) := by decide +kernel
theorem dX1_choose_88 : decode cX1_choose 88 = .ok (.goto (-50), 3) := by decide +kernel
theorem dX1_choose_91 : decode cX1_choose 91 = .ok (.aload_n 0, 1) := by decide +kernel
theorem dX1_choose_92 : decode cX1_choose 92 = .ok (.getfield 20, 3) := by decide +kernel
theorem dX1_choose_95 : decode cX1_choose 95 = .ok (.iload_n 1, 1) := by decide +kernel
theorem dX1_choose_96 : decode cX1_choose 96 = .ok (.aaload, 1) := by decide +kernel
theorem dX1_choose_97 : decode cX1_choose 97 = .ok (.iload_n 2, 1) := by decide +kernel
theorem dX1_choose_98 : decode cX1_choose 98 = .ok (.iload 4, 2) := by decide +kernel
theorem dX1_choose_100 : decode cX1_choose 100 = .ok (.iastore, 1) := by decide +kernel
theorem dX1_choose_101 : decode cX1_choose 101 = .ok (.aload_n 0, 1) := by decide +kernel
theorem dX1_choose_102 : decode cX1_choose 102 = .ok (.getfield 23, 3) := by decide +kernel
theorem dX1_choose_105 : decode cX1_choose 105 = .ok (.iload_n 1, 1) := by decide +kernel
theorem dX1_choose_106 : decode cX1_choose 106 = .ok (.aaload, 1) := by decide +kernel
theorem dX1_choose_107 : decode cX1_choose 107 = .ok (.iload_n 2, 1) := by decide +kernel
theorem dX1_choose_108 : decode cX1_choose 108 = .ok (.iload 5, 2) := by decide +kernel
theorem dX1_choose_110 : decode cX1_choose 110 = .ok (.iastore, 1) := by decide +kernel
theorem dX1_choose_111 : decode cX1_choose 111 = .ok (.return_, 1) := by decide +kernel
theorem fl_RX1_20 : FL RX1 20 1 4 := ⟨inG (i := 431) (by decide +kernel) (by decide +kernel), by decide, by decide⟩
theorem fl_RX1_23 : FL RX1 23 1 5 := ⟨inG (i := 432) (by decide +kernel) (by decide +kernel), by decide, by decide⟩
theorem fl_RX1_90 : FL RX1 90 8 3 := ⟨inG (i := 197) (by decide +kernel) (by decide +kernel), by decide, by decide⟩
theorem go_1_4 (σ : St) (i : Nat) : go σ 1 i 4 = (204, i) := rfl
theorem go_1_5 (σ : St) (i : Nat) : go σ 1 i 5 = (205, i) := rfl
theorem go_8_3 (σ : St) (i : Nat) : go σ 8 i 3 = (903, i) := rfl
theorem sh_204 : shp 204 = (6, 7) := rfl
theorem sh_205 : shp 205 = (6, 6) := rfl
theorem sh_254 : shp 254 = (0, 61) := rfl
theorem sh_255 : shp 255 = (0, 61) := rfl
theorem sh_903 : shp 903 = (0, 6) := rfl
def P_X1_choose_L38 (x1 : Int) (x2 : Int) (o3 : Nat) (K : Int → Int → St → Prop) (Q : St → Prop) : Nat → Int → Int → Int → Int → St → Prop
  | 0, _, _, _, _, _ => False
  | n + 1, x4, x5, x6, x7, σ => (if 60 < x7 then K x4 x5 σ else 0 ≤ x7 ∧ x7 < 61 ∧ 0 ≤ wi (x1 + 1) ∧ wi (x1 + 1) < 7 ∧ 0 ≤ x7 ∧ x7 < 61 ∧ (if (wi ((wi (x6 + (σ 256 o3 x7))) + (σ 254 ((wi (x1 + 1)).toNat) x7))) ≤ x4 then (P_X1_choose_L38 x1 x2 o3 K Q n) x4 x5 (wi (x6 + (σ 256 o3 x7))) (wi (x7 + 1)) σ else (P_X1_choose_L38 x1 x2 o3 K Q n) (wi ((wi (x6 + (σ 256 o3 x7))) + (σ 254 ((wi (x1 + 1)).toNat) x7))) x7 (wi (x6 + (σ 256 o3 x7))) (wi (x7 + 1)) σ))
set_option maxRecDepth 20000 in
set_option maxHeartbeats 2000000 in
theorem e_P_X1_choose_L38 {x1 : Int} {x2 : Int} {o3 : Nat} {K : Int → Int → St → Prop} {Q : St → Prop} (hK : ∀ x4 x5 σ, K x4 x5 σ → E Y_X1_choose 0 0 0 (QV Q) ww 0 0 91 [some (vR 1 0), some (vI x1), some (vI x2), none, some (vI x4), some (vI x5), none, none, none] [] σ) : ∀ (n : Nat) (x4 : Int) (x5 : Int) (x6 : Int) (x7 : Int) (σ : St), P_X1_choose_L38 x1 x2 o3 K Q n x4 x5 x6 x7 σ → E Y_X1_choose 0 0 0 (QV Q) ww 0 0 38 [some (vR 1 0), some (vI x1), some (vI x2), some (vR 256 o3), some (vI x4), some (vI x5), some (vI x6), some (vI x7), none] [] σ := by
  intro n
  induction n with
  | zero => intro x4 x5 x6 x7 σ h; exact h.elim
  | succ n hR =>
    intro x4 x5 x6 x7 σ h
    unfold P_X1_choose_L38 at h
    refine E_iload dX1_choose_38 rfl ?_
    refine E_bp dX1_choose_40 rfl ?_
    refine E_icmp_gt (tgt := 91) dX1_choose_42 (by decide) (fun hc => ?_) (fun hc => ?_)
    · have h := Eq.mp (if_pos hc) h
      refine E_wk2 [some (vR 1 0), some (vI x1), some (vI x2), none, some (vI x4), some (vI x5), none, none, none] ⟨rfl, ⟨rfl, ⟨rfl, ⟨rfl, ⟨rfl, trivial⟩⟩⟩⟩⟩ ?_
      exact hK _ _ _ h
    · have h := Eq.mp (if_neg hc) h
      refine E_iload dX1_choose_45 rfl ?_
      refine E_aload_n dX1_choose_47 rfl rfl ?_
      refine E_iload dX1_choose_48 rfl ?_
      obtain ⟨hg0, hg1, h⟩ := h
      refine E_iald dX1_choose_50 sh_256 hg0 hg1 ?_
      refine E_iadd dX1_choose_51 ?_
      refine E_istore (ls' := [some (vR 1 0), some (vI x1), some (vI x2), some (vR 256 o3), some (vI x4), some (vI x5), some (vI (wi (x6 + (σ 256 o3 x7)))), some (vI x7), none]) dX1_choose_52 (by decide) rfl ?_
      refine E_iload dX1_choose_54 rfl ?_
      refine E_aload_n dX1_choose_56 rfl rfl ?_
      refine E_getr (i := 0) dX1_choose_57 fl_RX1_20 rfl rfl (go_1_4 _ _) ?_
      refine E_iload_n dX1_choose_60 rfl rfl ?_
      refine E_ic dX1_choose_61 rfl ?_
      refine E_iadd dX1_choose_62 ?_
      obtain ⟨hg0, hg1, h⟩ := h
      refine E_aald dX1_choose_63 sh_204 (by decide) (by decide) hg0 hg1 rfl rfl ?_
      refine E_iload dX1_choose_64 rfl ?_
      obtain ⟨hg0, hg1, h⟩ := h
      refine E_iald dX1_choose_66 sh_254 hg0 hg1 ?_
      refine E_iadd dX1_choose_67 ?_
      refine E_istore (ls' := [some (vR 1 0), some (vI x1), some (vI x2), some (vR 256 o3), some (vI x4), some (vI x5), some (vI (wi (x6 + (σ 256 o3 x7)))), some (vI x7), some (vI (wi ((wi (x6 + (σ 256 o3 x7))) + (σ 254 ((wi (x1 + 1)).toNat) x7))))]) dX1_choose_68 (by decide) rfl ?_
      refine E_iload dX1_choose_70 rfl ?_
      refine E_iload dX1_choose_72 rfl ?_
      refine E_icmp_le (tgt := 85) dX1_choose_74 (by decide) (fun hc => ?_) (fun hc => ?_)
      · have h := Eq.mp (if_pos hc) h
        refine E_iinc (ls' := [some (vR 1 0), some (vI x1), some (vI x2), some (vR 256 o3), some (vI x4), some (vI x5), some (vI (wi (x6 + (σ 256 o3 x7)))), some (vI (wi (x7 + 1))), some (vI (wi ((wi (x6 + (σ 256 o3 x7))) + (σ 254 ((wi (x1 + 1)).toNat) x7))))]) dX1_choose_85 rfl (by decide) rfl rfl ?_
        refine E_goto (tgt := 38) dX1_choose_88 (by decide) ?_
        refine E_wk2 [some (vR 1 0), some (vI x1), some (vI x2), some (vR 256 o3), some (vI x4), some (vI x5), some (vI (wi (x6 + (σ 256 o3 x7)))), some (vI (wi (x7 + 1))), none] ⟨rfl, ⟨rfl, ⟨rfl, ⟨rfl, ⟨rfl, ⟨rfl, ⟨rfl, ⟨rfl, trivial⟩⟩⟩⟩⟩⟩⟩⟩ ?_
        exact hR _ _ _ _ _ h
      · have h := Eq.mp (if_neg hc) h
        refine E_iload dX1_choose_77 rfl ?_
        refine E_istore (ls' := [some (vR 1 0), some (vI x1), some (vI x2), some (vR 256 o3), some (vI (wi ((wi (x6 + (σ 256 o3 x7))) + (σ 254 ((wi (x1 + 1)).toNat) x7)))), some (vI x5), some (vI (wi (x6 + (σ 256 o3 x7)))), some (vI x7), some (vI (wi ((wi (x6 + (σ 256 o3 x7))) + (σ 254 ((wi (x1 + 1)).toNat) x7))))]) dX1_choose_79 (by decide) rfl ?_
        refine E_iload dX1_choose_81 rfl ?_
        refine E_istore (ls' := [some (vR 1 0), some (vI x1), some (vI x2), some (vR 256 o3), some (vI (wi ((wi (x6 + (σ 256 o3 x7))) + (σ 254 ((wi (x1 + 1)).toNat) x7)))), some (vI x7), some (vI (wi (x6 + (σ 256 o3 x7)))), some (vI x7), some (vI (wi ((wi (x6 + (σ 256 o3 x7))) + (σ 254 ((wi (x1 + 1)).toNat) x7))))]) dX1_choose_83 (by decide) rfl ?_
        refine E_iinc (ls' := [some (vR 1 0), some (vI x1), some (vI x2), some (vR 256 o3), some (vI (wi ((wi (x6 + (σ 256 o3 x7))) + (σ 254 ((wi (x1 + 1)).toNat) x7)))), some (vI x7), some (vI (wi (x6 + (σ 256 o3 x7)))), some (vI (wi (x7 + 1))), some (vI (wi ((wi (x6 + (σ 256 o3 x7))) + (σ 254 ((wi (x1 + 1)).toNat) x7))))]) dX1_choose_85 rfl (by decide) rfl rfl ?_
        refine E_goto (tgt := 38) dX1_choose_88 (by decide) ?_
        refine E_wk2 [some (vR 1 0), some (vI x1), some (vI x2), some (vR 256 o3), some (vI (wi ((wi (x6 + (σ 256 o3 x7))) + (σ 254 ((wi (x1 + 1)).toNat) x7)))), some (vI x7), some (vI (wi (x6 + (σ 256 o3 x7)))), some (vI (wi (x7 + 1))), none] ⟨rfl, ⟨rfl, ⟨rfl, ⟨rfl, ⟨rfl, ⟨rfl, ⟨rfl, ⟨rfl, trivial⟩⟩⟩⟩⟩⟩⟩⟩ ?_
        exact hR _ _ _ _ _ h
def P_X1_choose (x1 : Int) (x2 : Int) (σ : St) (Q : St → Prop) : Prop :=
  0 ≤ x1 ∧ x1 < 6 ∧ 0 ≤ σ 903 0 x1 ∧ σ 903 0 x1 < 6 ∧ 0 ≤ wi (x1 + 1) ∧ wi (x1 + 1) < 7 ∧ 0 ≤ x2 ∧ x2 < 61 ∧ P_X1_choose_L38 x1 x2 ((σ 903 0 x1).toNat) (fun x4_1 x5_2 σ_3 => 0 ≤ x1 ∧ x1 < 7 ∧ 0 ≤ x2 ∧ x2 < 61 ∧ 0 ≤ x1 ∧ x1 < 6 ∧ 0 ≤ x2 ∧ x2 < 61 ∧ Q (up (up σ_3 254 x1.toNat x2 x4_1) 255 x1.toNat x2 x5_2)) Q FU (σ 254 ((wi (x1 + 1)).toNat) x2) 0 0 (wi (x2 + 1)) σ
set_option maxRecDepth 20000 in
set_option maxHeartbeats 2000000 in
theorem s_X1_choose {x1 : Int} {x2 : Int} {σ : St} {Q : St → Prop} (h : P_X1_choose x1 x2 σ Q) : Cn Y_X1_choose 0 0 0 ww σ [vR 1 0, vI x1, vI x2] (QV Q) := by
  refine Cn_of [some (vR 1 0), some (vI x1), some (vI x2), none, none, none, none, none, none] (by decide) (Nat.le_of_ble_eq_true rfl) rfl ?_
  unfold P_X1_choose at h
  refine E_aload_n dX1_choose_0 rfl rfl ?_
  refine E_getr (i := 0) dX1_choose_1 fl_RX1_26 rfl rfl (go_1_6 _ _) ?_
  refine E_aload_n dX1_choose_4 rfl rfl ?_
  refine E_getr (i := 0) dX1_choose_5 fl_RX1_29 rfl rfl (go_1_0 _ _) ?_
  refine E_getr (i := 0) dX1_choose_8 fl_RX1_90 rfl rfl (go_8_3 _ _) ?_
  refine E_iload_n dX1_choose_11 rfl rfl ?_
  obtain ⟨hg0, hg1, h⟩ := h
  refine E_iald dX1_choose_12 sh_903 hg0 hg1 ?_
  obtain ⟨hg0, hg1, h⟩ := h
  refine E_aald dX1_choose_13 sh_206 (by decide) (by decide) hg0 hg1 rfl rfl ?_
  refine E_astore_n (ls' := [some (vR 1 0), some (vI x1), some (vI x2), some (vR 256 ((σ 903 0 x1).toNat)), none, none, none, none, none]) dX1_choose_14 rfl (by decide) rfl ?_
  refine E_aload_n dX1_choose_15 rfl rfl ?_
  refine E_getr (i := 0) dX1_choose_16 fl_RX1_20 rfl rfl (go_1_4 _ _) ?_
  refine E_iload_n dX1_choose_19 rfl rfl ?_
  refine E_ic dX1_choose_20 rfl ?_
  refine E_iadd dX1_choose_21 ?_
  obtain ⟨hg0, hg1, h⟩ := h
  refine E_aald dX1_choose_22 sh_204 (by decide) (by decide) hg0 hg1 rfl rfl ?_
  refine E_iload_n dX1_choose_23 rfl rfl ?_
  obtain ⟨hg0, hg1, h⟩ := h
  refine E_iald dX1_choose_24 sh_254 hg0 hg1 ?_
  refine E_istore (ls' := [some (vR 1 0), some (vI x1), some (vI x2), some (vR 256 ((σ 903 0 x1).toNat)), some (vI (σ 254 ((wi (x1 + 1)).toNat) x2)), none, none, none, none]) dX1_choose_25 (by decide) rfl ?_
  refine E_ic dX1_choose_27 rfl ?_
  refine E_istore (ls' := [some (vR 1 0), some (vI x1), some (vI x2), some (vR 256 ((σ 903 0 x1).toNat)), some (vI (σ 254 ((wi (x1 + 1)).toNat) x2)), some (vI 0), none, none, none]) dX1_choose_28 (by decide) rfl ?_
  refine E_ic dX1_choose_30 rfl ?_
  refine E_istore (ls' := [some (vR 1 0), some (vI x1), some (vI x2), some (vR 256 ((σ 903 0 x1).toNat)), some (vI (σ 254 ((wi (x1 + 1)).toNat) x2)), some (vI 0), some (vI 0), none, none]) dX1_choose_31 (by decide) rfl ?_
  refine E_iload_n dX1_choose_33 rfl rfl ?_
  refine E_ic dX1_choose_34 rfl ?_
  refine E_iadd dX1_choose_35 ?_
  refine E_istore (ls' := [some (vR 1 0), some (vI x1), some (vI x2), some (vR 256 ((σ 903 0 x1).toNat)), some (vI (σ 254 ((wi (x1 + 1)).toNat) x2)), some (vI 0), some (vI 0), some (vI (wi (x2 + 1))), none]) dX1_choose_36 (by decide) rfl ?_
  refine e_P_X1_choose_L38 ?_ _ _ _ _ _ _ h
  · intro x4_1 x5_2 σ_3 h
    refine E_aload_n dX1_choose_91 rfl rfl ?_
    refine E_getr (i := 0) dX1_choose_92 fl_RX1_20 rfl rfl (go_1_4 _ _) ?_
    refine E_iload_n dX1_choose_95 rfl rfl ?_
    obtain ⟨hg0, hg1, h⟩ := h
    refine E_aald dX1_choose_96 sh_204 (by decide) (by decide) hg0 hg1 rfl rfl ?_
    refine E_iload_n dX1_choose_97 rfl rfl ?_
    refine E_iload dX1_choose_98 rfl ?_
    obtain ⟨hg0, hg1, h⟩ := h
    refine E_iast dX1_choose_100 sh_254 hg0 hg1 ?_
    refine E_aload_n dX1_choose_101 rfl rfl ?_
    refine E_getr (i := 0) dX1_choose_102 fl_RX1_23 rfl rfl (go_1_5 _ _) ?_
    refine E_iload_n dX1_choose_105 rfl rfl ?_
    obtain ⟨hg0, hg1, h⟩ := h
    refine E_aald dX1_choose_106 sh_205 (by decide) (by decide) hg0 hg1 rfl rfl ?_
    refine E_iload_n dX1_choose_107 rfl rfl ?_
    refine E_iload dX1_choose_108 rfl ?_
    obtain ⟨hg0, hg1, h⟩ := h
    refine E_iast dX1_choose_110 sh_255 hg0 hg1 ?_
    exact E_vret dX1_choose_111 rfl ⟨rfl, rfl, h⟩
abbrev Y_X2_add : My := (yX2_add, cX2_add, 3, none)
theorem dX2_add_0 : decode cX2_add 0 = .ok (.aload_n 0, 1) := by decide +kernel
theorem dX2_add_1 : decode cX2_add 1 = .ok (.getfield 21, 3) := by decide +kernel
theorem dX2_add_4 : decode cX2_add 4 = .ok (.sipush 1000, 3) := by decide +kernel
theorem dX2_add_7 : decode cX2_add 7 = .ok (.if_icmp .ge 33, 3) := by decide +kernel
theorem dX2_add_10 : decode cX2_add 10 = .ok (.aload_n 0, 1) := by decide +kernel
theorem dX2_add_11 : decode cX2_add 11 = .ok (.getfield 9, 3) := by decide +kernel
theorem dX2_add_14 : decode cX2_add 14 = .ok (.aload_n 0, 1) := by decide +kernel
theorem dX2_add_15 : decode cX2_add 15 = .ok (.getfield 21, 3) := by decide +kernel
theorem dX2_add_18 : decode cX2_add 18 = .ok (.iload_n 1, 1) := by decide +kernel
theorem dX2_add_19 : decode cX2_add 19 = .ok (.iastore, 1) := by decide +kernel
theorem dX2_add_20 : decode cX2_add 20 = .ok (.aload_n 0, 1) := by decide +kernel
theorem dX2_add_21 : decode cX2_add 21 = .ok (.getfield 15, 3) := by decide +kernel
theorem dX2_add_24 : decode cX2_add 24 = .ok (.aload_n 0, 1) := by decide +kernel
theorem dX2_add_25 : decode cX2_add 25 = .ok (.getfield 21, 3) := by decide +kernel
theorem dX2_add_28 : decode cX2_add 28 = .ok (.iload_n 2, 1) := by decide +kernel
theorem dX2_add_29 : decode cX2_add 29 = .ok (.iastore, 1) := by decide +kernel
theorem dX2_add_30 : decode cX2_add 30 = .ok (.aload_n 0, 1) := by decide +kernel
theorem dX2_add_31 : decode cX2_add 31 = .ok (.dup, 1) := by decide +kernel
theorem dX2_add_32 : decode cX2_add 32 = .ok (.getfield 21, 3) := by decide +kernel
theorem dX2_add_35 : decode cX2_add 35 = .ok (.iconst 1, 1) := by decide +kernel
theorem dX2_add_36 : decode cX2_add 36 = .ok (.iadd, 1) := by decide +kernel
theorem dX2_add_37 : decode cX2_add 37 = .ok (.putfield 21, 3) := by decide +kernel
theorem dX2_add_40 : decode cX2_add 40 = .ok (.return_, 1) := by decide +kernel
theorem fl_RX2_15 : FL RX2 15 2 1 := ⟨inG (i := 177) (by decide +kernel) (by decide +kernel), by decide, by decide⟩
theorem fl_RX2_21 : FL RX2 21 2 3 := ⟨inG (i := 179) (by decide +kernel) (by decide +kernel), by decide, by decide⟩
theorem fl_RX2_9 : FL RX2 9 2 0 := ⟨inG (i := 176) (by decide +kernel) (by decide +kernel), by decide, by decide⟩
theorem go_2_0 (σ : St) (i : Nat) : go σ 2 i 0 = (300, i) := rfl
theorem go_2_1 (σ : St) (i : Nat) : go σ 2 i 1 = (301, i) := rfl
theorem sh_300 : shp 300 = (0, 1000) := rfl
theorem sh_301 : shp 301 = (0, 1000) := rfl
def P_X2_add (o0 : Nat) (x1 : Int) (x2 : Int) (σ : St) (Q : St → Prop) : Prop :=
  (if 1000 ≤ (σ 2 o0 3) then Q σ else 0 ≤ σ 2 o0 3 ∧ σ 2 o0 3 < 1000 ∧ 0 ≤ (up σ 300 o0 (σ 2 o0 3) x1) 2 o0 3 ∧ (up σ 300 o0 (σ 2 o0 3) x1) 2 o0 3 < 1000 ∧ Q (up (up (up σ 300 o0 (σ 2 o0 3) x1) 301 o0 ((up σ 300 o0 (σ 2 o0 3) x1) 2 o0 3) x2) 2 o0 3 (wi (((up (up σ 300 o0 (σ 2 o0 3) x1) 301 o0 ((up σ 300 o0 (σ 2 o0 3) x1) 2 o0 3) x2) 2 o0 3) + 1))))
set_option maxRecDepth 20000 in
set_option maxHeartbeats 2000000 in
theorem s_X2_add {o0 : Nat} {x1 : Int} {x2 : Int} {σ : St} {Q : St → Prop} (h : P_X2_add o0 x1 x2 σ Q) : Cn Y_X2_add 0 0 0 ww σ [vR 2 o0, vI x1, vI x2] (QV Q) := by
  refine Cn_of [some (vR 2 o0), some (vI x1), some (vI x2)] (by decide) (Nat.le_of_ble_eq_true rfl) rfl ?_
  unfold P_X2_add at h
  refine E_aload_n dX2_add_0 rfl rfl ?_
  refine E_geti (i := o0) dX2_add_1 fl_RX2_21 rfl ?_
  refine E_sp dX2_add_4 rfl ?_
  refine E_icmp_ge (tgt := 40) dX2_add_7 (by decide) (fun hc => ?_) (fun hc => ?_)
  · have h := Eq.mp (if_pos hc) h
    exact E_vret dX2_add_40 rfl ⟨rfl, rfl, h⟩
  · have h := Eq.mp (if_neg hc) h
    refine E_aload_n dX2_add_10 rfl rfl ?_
    refine E_getr (i := o0) dX2_add_11 fl_RX2_9 rfl rfl (go_2_0 _ _) ?_
    refine E_aload_n dX2_add_14 rfl rfl ?_
    refine E_geti (i := o0) dX2_add_15 fl_RX2_21 rfl ?_
    refine E_iload_n dX2_add_18 rfl rfl ?_
    obtain ⟨hg0, hg1, h⟩ := h
    refine E_iast dX2_add_19 sh_300 hg0 hg1 ?_
    refine E_aload_n dX2_add_20 rfl rfl ?_
    refine E_getr (i := o0) dX2_add_21 fl_RX2_15 rfl rfl (go_2_1 _ _) ?_
    refine E_aload_n dX2_add_24 rfl rfl ?_
    refine E_geti (i := o0) dX2_add_25 fl_RX2_21 rfl ?_
    refine E_iload_n dX2_add_28 rfl rfl ?_
    obtain ⟨hg0, hg1, h⟩ := h
    refine E_iast dX2_add_29 sh_301 hg0 hg1 ?_
    refine E_aload_n dX2_add_30 rfl rfl ?_
    refine E_dup dX2_add_31 (fun _ q => by cases q) ?_
    refine E_geti (i := o0) dX2_add_32 fl_RX2_21 rfl ?_
    refine E_ic dX2_add_35 rfl ?_
    refine E_iadd dX2_add_36 ?_
    refine E_puti dX2_add_37 fl_RX2_21 rfl rfl rfl ?_
    exact E_vret dX2_add_40 rfl ⟨rfl, rfl, h⟩
abbrev Y_X2_take : My := (yX2_take, cX2_take, 2, none)
theorem dX2_take_0 : decode cX2_take 0 = .ok (.aload_n 0, 1) := by decide +kernel
theorem dX2_take_1 : decode cX2_take 1 = .ok (.aload_n 1, 1) := by decide +kernel
theorem dX2_take_2 : decode cX2_take 2 = .ok (.getfield 21, 3) := by decide +kernel
theorem dX2_take_5 : decode cX2_take 5 = .ok (.putfield 21, 3) := by decide +kernel
theorem dX2_take_8 : decode cX2_take 8 = .ok (.aload_n 1, 1) := by decide +kernel
theorem dX2_take_9 : decode cX2_take 9 = .ok (.getfield 9, 3) := by decide +kernel
theorem dX2_take_12 : decode cX2_take 12 = .ok (.iconst 0, 1) := by decide +kernel
theorem dX2_take_13 : decode cX2_take 13 = .ok (.aload_n 0, 1) := by decide +kernel
theorem dX2_take_14 : decode cX2_take 14 = .ok (.getfield 9, 3) := by decide +kernel
theorem dX2_take_17 : decode cX2_take 17 = .ok (.iconst 0, 1) := by decide +kernel
theorem dX2_take_18 : decode cX2_take 18 = .ok (.aload_n 0, 1) := by decide +kernel
theorem dX2_take_19 : decode cX2_take 19 = .ok (.getfield 21, 3) := by decide +kernel
theorem dX2_take_22 : decode cX2_take 22 = .ok (.invokestatic 25, 3) := by decide +kernel
theorem dX2_take_25 : decode cX2_take 25 = .ok (.aload_n 1, 1) := by decide +kernel
theorem dX2_take_26 : decode cX2_take 26 = .ok (.getfield 15, 3) := by decide +kernel
theorem dX2_take_29 : decode cX2_take 29 = .ok (.iconst 0, 1) := by decide +kernel
theorem dX2_take_30 : decode cX2_take 30 = .ok (.aload_n 0, 1) := by decide +kernel
theorem dX2_take_31 : decode cX2_take 31 = .ok (.getfield 15, 3) := by decide +kernel
theorem dX2_take_34 : decode cX2_take 34 = .ok (.iconst 0, 1) := by decide +kernel
theorem dX2_take_35 : decode cX2_take 35 = .ok (.aload_n 0, 1) := by decide +kernel
theorem dX2_take_36 : decode cX2_take 36 = .ok (.getfield 21, 3) := by decide +kernel
theorem dX2_take_39 : decode cX2_take 39 = .ok (.invokestatic 25, 3) := by decide +kernel
theorem dX2_take_42 : decode cX2_take 42 = .ok (.return_, 1) := by decide +kernel
theorem lk_RX2_25 : Cond.methodLink RX2 25 arraycopyName ∈ tG := inG (i := 844) (by decide +kernel) (by decide +kernel)
def P_X2_take (o0 : Nat) (o1 : Nat) (σ : St) (Q : St → Prop) : Prop :=
  0 ≤ (up σ 2 o0 3 (σ 2 o1 3)) 2 o0 3 ∧ 0 + ((up σ 2 o0 3 (σ 2 o1 3)) 2 o0 3) ≤ 1000 ∧ 0 + ((up σ 2 o0 3 (σ 2 o1 3)) 2 o0 3) ≤ 1000 ∧ 0 ≤ (cp (up σ 2 o0 3 (σ 2 o1 3)) 300 o1 0 300 o0 0 ((up σ 2 o0 3 (σ 2 o1 3)) 2 o0 3)) 2 o0 3 ∧ 0 + ((cp (up σ 2 o0 3 (σ 2 o1 3)) 300 o1 0 300 o0 0 ((up σ 2 o0 3 (σ 2 o1 3)) 2 o0 3)) 2 o0 3) ≤ 1000 ∧ 0 + ((cp (up σ 2 o0 3 (σ 2 o1 3)) 300 o1 0 300 o0 0 ((up σ 2 o0 3 (σ 2 o1 3)) 2 o0 3)) 2 o0 3) ≤ 1000 ∧ Q (cp (cp (up σ 2 o0 3 (σ 2 o1 3)) 300 o1 0 300 o0 0 ((up σ 2 o0 3 (σ 2 o1 3)) 2 o0 3)) 301 o1 0 301 o0 0 ((cp (up σ 2 o0 3 (σ 2 o1 3)) 300 o1 0 300 o0 0 ((up σ 2 o0 3 (σ 2 o1 3)) 2 o0 3)) 2 o0 3))
set_option maxRecDepth 20000 in
set_option maxHeartbeats 2000000 in
theorem s_X2_take {o0 : Nat} {o1 : Nat} {σ : St} {Q : St → Prop} (h : P_X2_take o0 o1 σ Q) : Cn Y_X2_take 1 0 0 ww σ [vR 2 o0, vR 2 o1] (QV Q) := by
  refine Cn_of [some (vR 2 o0), some (vR 2 o1)] (by decide) (Nat.le_of_ble_eq_true rfl) rfl ?_
  unfold P_X2_take at h
  refine E_aload_n dX2_take_0 rfl rfl ?_
  refine E_aload_n dX2_take_1 rfl rfl ?_
  refine E_geti (i := o1) dX2_take_2 fl_RX2_21 rfl ?_
  refine E_puti dX2_take_5 fl_RX2_21 rfl rfl rfl ?_
  refine E_aload_n dX2_take_8 rfl rfl ?_
  refine E_getr (i := o1) dX2_take_9 fl_RX2_9 rfl rfl (go_2_0 _ _) ?_
  refine E_ic dX2_take_12 rfl ?_
  refine E_aload_n dX2_take_13 rfl rfl ?_
  refine E_getr (i := o0) dX2_take_14 fl_RX2_9 rfl rfl (go_2_0 _ _) ?_
  refine E_ic dX2_take_17 rfl ?_
  refine E_aload_n dX2_take_18 rfl rfl ?_
  refine E_geti (i := o0) dX2_take_19 fl_RX2_21 rfl ?_
  obtain ⟨hg0, hg1, hg2, h⟩ := h
  refine E_acpi dX2_take_22 lk_RX2_25 (by decide) (Nat.le_of_ble_eq_true rfl) sh_300 sh_300 (by decide) (by decide) hg0 hg1 hg2 ?_
  refine E_aload_n dX2_take_25 rfl rfl ?_
  refine E_getr (i := o1) dX2_take_26 fl_RX2_15 rfl rfl (go_2_1 _ _) ?_
  refine E_ic dX2_take_29 rfl ?_
  refine E_aload_n dX2_take_30 rfl rfl ?_
  refine E_getr (i := o0) dX2_take_31 fl_RX2_15 rfl rfl (go_2_1 _ _) ?_
  refine E_ic dX2_take_34 rfl ?_
  refine E_aload_n dX2_take_35 rfl rfl ?_
  refine E_geti (i := o0) dX2_take_36 fl_RX2_21 rfl ?_
  obtain ⟨hg0, hg1, hg2, h⟩ := h
  refine E_acpi dX2_take_39 lk_RX2_25 (by decide) (Nat.le_of_ble_eq_true rfl) sh_301 sh_301 (by decide) (by decide) hg0 hg1 hg2 ?_
  exact E_vret dX2_take_42 rfl ⟨rfl, rfl, h⟩
abbrev Y_X2_fact : My := (yX2_fact, cX2_fact, 6, some .int)
theorem dX2_fact_0 : decode cX2_fact 0 = .ok (.aload_n 0, 1) := by decide +kernel
theorem dX2_fact_1 : decode cX2_fact 1 = .ok (.getfield 9, 3) := by decide +kernel
theorem dX2_fact_4 : decode cX2_fact 4 = .ok (.iload_n 1, 1) := by decide +kernel
theorem dX2_fact_5 : decode cX2_fact 5 = .ok (.iaload, 1) := by decide +kernel
theorem dX2_fact_6 : decode cX2_fact 6 = .ok (.tableswitch 40 1 4 #[30, 32, 34, 37], 30) := by decide +kernel
theorem dX2_fact_36 : decode cX2_fact 36 = .ok (.iload_n 2, 1) := by decide +kernel
theorem dX2_fact_37 : decode cX2_fact 37 = .ok (.ireturn, 1) := by decide +kernel
theorem dX2_fact_38 : decode cX2_fact 38 = .ok (.iload_n 3, 1) := by decide +kernel
theorem dX2_fact_39 : decode cX2_fact 39 = .ok (.ireturn, 1) := by decide +kernel
theorem dX2_fact_40 : decode cX2_fact 40 = .ok (.iload 4, 2) := by decide +kernel
theorem dX2_fact_42 : decode cX2_fact 42 = .ok (.ireturn, 1) := by decide +kernel
theorem dX2_fact_43 : decode cX2_fact 43 = .ok (.iload 5, 2) := by decide +kernel
theorem dX2_fact_45 : decode cX2_fact 45 = .ok (.ireturn, 1) := by decide +kernel
theorem dX2_fact_46 : decode cX2_fact 46 = .ok (.aload_n 0, 1) := by decide +kernel
theorem dX2_fact_47 : decode cX2_fact 47 = .ok (.getfield 15, 3) := by decide +kernel
theorem dX2_fact_50 : decode cX2_fact 50 = .ok (.iload_n 1, 1) := by decide +kernel
theorem dX2_fact_51 : decode cX2_fact 51 = .ok (.iaload, 1) := by decide +kernel
theorem dX2_fact_52 : decode cX2_fact 52 = .ok (.ireturn, 1) := by decide +kernel
def P_X2_fact (o0 : Nat) (x1 : Int) (x2 : Int) (x3 : Int) (x4 : Int) (x5 : Int) (σ : St) (Q : Int → St → Prop) : Prop :=
  0 ≤ x1 ∧ x1 < 1000 ∧ (if (σ 300 o0 x1) = 1 then Q x2 σ else if (σ 300 o0 x1) = 2 then Q x3 σ else if (σ 300 o0 x1) = 3 then Q x4 σ else if (σ 300 o0 x1) = 4 then Q x5 σ else 0 ≤ x1 ∧ x1 < 1000 ∧ Q (σ 301 o0 x1) σ)
set_option maxRecDepth 20000 in
set_option maxHeartbeats 2000000 in
theorem s_X2_fact {o0 : Nat} {x1 : Int} {x2 : Int} {x3 : Int} {x4 : Int} {x5 : Int} {σ : St} {Q : Int → St → Prop} (h : P_X2_fact o0 x1 x2 x3 x4 x5 σ Q) : Cn Y_X2_fact 0 0 0 ww σ [vR 2 o0, vI x1, vI x2, vI x3, vI x4, vI x5] (QI Q) := by
  refine Cn_of [some (vR 2 o0), some (vI x1), some (vI x2), some (vI x3), some (vI x4), some (vI x5)] (by decide) (Nat.le_of_ble_eq_true rfl) rfl ?_
  unfold P_X2_fact at h
  refine E_aload_n dX2_fact_0 rfl rfl ?_
  refine E_getr (i := o0) dX2_fact_1 fl_RX2_9 rfl rfl (go_2_0 _ _) ?_
  refine E_iload_n dX2_fact_4 rfl rfl ?_
  obtain ⟨hg0, hg1, h⟩ := h
  refine E_iald dX2_fact_5 sh_300 hg0 hg1 ?_
  by_cases hc : (σ 300 o0 x1) = 1
  · have h := Eq.mp (if_pos hc) h
    refine E_tableIn (off := 30) (tgt := 36) dX2_fact_6 (by omega) (by omega) (by rw [hc]; rfl) (by decide) ?_
    refine E_iload_n dX2_fact_36 rfl rfl ?_
    exact E_iret dX2_fact_37 rfl ⟨_, rfl, rfl, h⟩
  have h := Eq.mp (if_neg hc) h
  have hc0 := hc
  clear hc
  by_cases hc : (σ 300 o0 x1) = 2
  · have h := Eq.mp (if_pos hc) h
    refine E_tableIn (off := 32) (tgt := 38) dX2_fact_6 (by omega) (by omega) (by rw [hc]; rfl) (by decide) ?_
    refine E_iload_n dX2_fact_38 rfl rfl ?_
    exact E_iret dX2_fact_39 rfl ⟨_, rfl, rfl, h⟩
  have h := Eq.mp (if_neg hc) h
  have hc1 := hc
  clear hc
  by_cases hc : (σ 300 o0 x1) = 3
  · have h := Eq.mp (if_pos hc) h
    refine E_tableIn (off := 34) (tgt := 40) dX2_fact_6 (by omega) (by omega) (by rw [hc]; rfl) (by decide) ?_
    refine E_iload dX2_fact_40 rfl ?_
    exact E_iret dX2_fact_42 rfl ⟨_, rfl, rfl, h⟩
  have h := Eq.mp (if_neg hc) h
  have hc2 := hc
  clear hc
  by_cases hc : (σ 300 o0 x1) = 4
  · have h := Eq.mp (if_pos hc) h
    refine E_tableIn (off := 37) (tgt := 43) dX2_fact_6 (by omega) (by omega) (by rw [hc]; rfl) (by decide) ?_
    refine E_iload dX2_fact_43 rfl ?_
    exact E_iret dX2_fact_45 rfl ⟨_, rfl, rfl, h⟩
  have h := Eq.mp (if_neg hc) h
  have hc3 := hc
  clear hc
  refine E_tableOut (tgt := 46) dX2_fact_6 (by omega) (by decide) ?_
  refine E_aload_n dX2_fact_46 rfl rfl ?_
  refine E_getr (i := o0) dX2_fact_47 fl_RX2_15 rfl rfl (go_2_1 _ _) ?_
  refine E_iload_n dX2_fact_50 rfl rfl ?_
  obtain ⟨hg0, hg1, h⟩ := h
  refine E_iald dX2_fact_51 sh_301 hg0 hg1 ?_
  exact E_iret dX2_fact_52 rfl ⟨_, rfl, rfl, h⟩
abbrev Y_X2_joined : My := (yX2_joined, cX2_joined, 3, some .int)
theorem dX2_joined_0 : decode cX2_joined 0 = .ok (.iload_n 0, 1) := by decide +kernel
theorem dX2_joined_1 : decode cX2_joined 1 = .ok (.tableswitch 97 6 11 #[39, 53, 67, 78, 89, 93], 39) := by decide +kernel
theorem dX2_joined_40 : decode cX2_joined 40 = .ok (.iload_n 1, 1) := by decide +kernel
theorem dX2_joined_41 : decode cX2_joined 41 = .ok (.ifCond .eq 11, 3) := by decide +kernel
theorem dX2_joined_44 : decode cX2_joined 44 = .ok (.iload_n 2, 1) := by decide +kernel
theorem dX2_joined_45 : decode cX2_joined 45 = .ok (.ifCond .eq 7, 3) := by decide +kernel
theorem dX2_joined_48 : decode cX2_joined 48 = .ok (.iconst 1, 1) := by decide +kernel
theorem dX2_joined_49 : decode cX2_joined 49 = .ok (.goto 4, 3) := by decide +kernel
theorem dX2_joined_52 : decode cX2_joined 52 = .ok (.iconst 0, 1) := by decide +kernel
theorem dX2_joined_53 : decode cX2_joined 53 = .ok (.ireturn, 1) := by decide +kernel
theorem dX2_joined_54 : decode cX2_joined 54 = .ok (.iload_n 1, 1) := by decide +kernel
theorem dX2_joined_55 : decode cX2_joined 55 = .ok (.ifCond .ne 7, 3) := by decide +kernel
theorem dX2_joined_58 : decode cX2_joined 58 = .ok (.iload_n 2, 1) := by decide +kernel
theorem dX2_joined_59 : decode cX2_joined 59 = .ok (.ifCond .eq 7, 3) := by decide +kernel
theorem dX2_joined_62 : decode cX2_joined 62 = .ok (.iconst 1, 1) := by decide +kernel
theorem dX2_joined_63 : decode cX2_joined 63 = .ok (.goto 4, 3) := by decide +kernel
theorem dX2_joined_66 : decode cX2_joined 66 = .ok (.iconst 0, 1) := by decide +kernel
theorem dX2_joined_67 : decode cX2_joined 67 = .ok (.ireturn, 1) := by decide +kernel
theorem dX2_joined_68 : decode cX2_joined 68 = .ok (.iload_n 1, 1) := by decide +kernel
theorem dX2_joined_69 : decode cX2_joined 69 = .ok (.iload_n 2, 1) := by decide +kernel
theorem dX2_joined_70 : decode cX2_joined 70 = .ok (.if_icmp .ge 7, 3) := by decide +kernel
theorem dX2_joined_73 : decode cX2_joined 73 = .ok (.iconst 1, 1) := by decide +kernel
theorem dX2_joined_74 : decode cX2_joined 74 = .ok (.goto 4, 3) := by decide +kernel
theorem dX2_joined_77 : decode cX2_joined 77 = .ok (.iconst 0, 1) := by decide +kernel
theorem dX2_joined_78 : decode cX2_joined 78 = .ok (.ireturn, 1) := by decide +kernel
theorem dX2_joined_79 : decode cX2_joined 79 = .ok (.iload_n 1, 1) := by decide +kernel
theorem dX2_joined_80 : decode cX2_joined 80 = .ok (.iload_n 2, 1) := by decide +kernel
theorem dX2_joined_81 : decode cX2_joined 81 = .ok (.if_icmp .ne 7, 3) := by decide +kernel
theorem dX2_joined_84 : decode cX2_joined 84 = .ok (.iconst 1, 1) := by decide +kernel
theorem dX2_joined_85 : decode cX2_joined 85 = .ok (.goto 4, 3) := by decide +kernel
theorem dX2_joined_88 : decode cX2_joined 88 = .ok (.iconst 0, 1) := by decide +kernel
theorem dX2_joined_89 : decode cX2_joined 89 = .ok (.ireturn, 1) := by decide +kernel
theorem dX2_joined_90 : decode cX2_joined 90 = .ok (.iload_n 1, 1) := by decide +kernel
theorem dX2_joined_91 : decode cX2_joined 91 = .ok (.iload_n 2, 1) := by decide +kernel
theorem dX2_joined_92 : decode cX2_joined 92 = .ok (.iadd, 1) := by decide +kernel
theorem dX2_joined_93 : decode cX2_joined 93 = .ok (.ireturn, 1) := by decide +kernel
theorem dX2_joined_94 : decode cX2_joined 94 = .ok (.iload_n 1, 1) := by decide +kernel
theorem dX2_joined_95 : decode cX2_joined 95 = .ok (.iload_n 2, 1) := by decide +kernel
theorem dX2_joined_96 : decode cX2_joined 96 = .ok (.isub, 1) := by decide +kernel
theorem dX2_joined_97 : decode cX2_joined 97 = .ok (.ireturn, 1) := by decide +kernel
theorem dX2_joined_98 : decode cX2_joined 98 = .ok (.iload_n 1, 1) := by decide +kernel
theorem dX2_joined_99 : decode cX2_joined 99 = .ok (.iload_n 2, 1) := by decide +kernel
theorem dX2_joined_100 : decode cX2_joined 100 = .ok (.imul, 1) := by decide +kernel
theorem dX2_joined_101 : decode cX2_joined 101 = .ok (.ireturn, 1) := by decide +kernel
def P_X2_joined_J52   (Q : Int → St → Prop) (σ : St) : Prop :=
  Q 0 σ
set_option maxRecDepth 20000 in
set_option maxHeartbeats 2000000 in
theorem e_P_X2_joined_J52   {Q : Int → St → Prop} {σ : St}  (h : P_X2_joined_J52  Q σ) : E Y_X2_joined 0 0 0 (QI Q) ww 0 0 52 [none, none, none] [] σ := by
  unfold P_X2_joined_J52 at h
  refine E_ic dX2_joined_52 rfl ?_
  exact E_iret dX2_joined_53 rfl ⟨_, rfl, rfl, h⟩
def P_X2_joined_J62   (Q : Int → St → Prop) (σ : St) : Prop :=
  Q 1 σ
set_option maxRecDepth 20000 in
set_option maxHeartbeats 2000000 in
theorem e_P_X2_joined_J62   {Q : Int → St → Prop} {σ : St}  (h : P_X2_joined_J62  Q σ) : E Y_X2_joined 0 0 0 (QI Q) ww 0 0 62 [none, none, none] [] σ := by
  unfold P_X2_joined_J62 at h
  refine E_ic dX2_joined_62 rfl ?_
  refine E_goto (tgt := 67) dX2_joined_63 (by decide) ?_
  exact E_iret dX2_joined_67 rfl ⟨_, rfl, rfl, h⟩
def P_X2_joined (x0 : Int) (x1 : Int) (x2 : Int) (σ : St) (Q : Int → St → Prop) : Prop :=
  (if x0 = 6 then (if x1 = 0 then P_X2_joined_J52 Q σ else (if x2 = 0 then P_X2_joined_J52 Q σ else Q 1 σ)) else if x0 = 7 then (if x1 = 0 then (if x2 = 0 then Q 0 σ else P_X2_joined_J62 Q σ) else P_X2_joined_J62 Q σ) else if x0 = 8 then (if x2 ≤ x1 then Q 0 σ else Q 1 σ) else if x0 = 9 then (if x1 = x2 then Q 1 σ else Q 0 σ) else if x0 = 10 then Q (wi (x1 + x2)) σ else if x0 = 11 then Q (wi (x1 - x2)) σ else Q (wi (x1 * x2)) σ)
set_option maxRecDepth 20000 in
set_option maxHeartbeats 2000000 in
theorem s_X2_joined {x0 : Int} {x1 : Int} {x2 : Int} {σ : St} {Q : Int → St → Prop} (h : P_X2_joined x0 x1 x2 σ Q) : Cn Y_X2_joined 0 0 0 ww σ [vI x0, vI x1, vI x2] (QI Q) := by
  refine Cn_of [some (vI x0), some (vI x1), some (vI x2)] (by decide) (Nat.le_of_ble_eq_true rfl) rfl ?_
  unfold P_X2_joined at h
  refine E_iload_n dX2_joined_0 rfl rfl ?_
  by_cases hc : x0 = 6
  · have h := Eq.mp (if_pos hc) h
    refine E_tableIn (off := 39) (tgt := 40) dX2_joined_1 (by omega) (by omega) (by rw [hc]; rfl) (by decide) ?_
    refine E_iload_n dX2_joined_40 rfl rfl ?_
    refine E_if_eq (tgt := 52) dX2_joined_41 (by decide) (fun hc => ?_) (fun hc => ?_)
    · have h := Eq.mp (if_pos hc) h
      refine E_wk2 [none, none, none] trivial ?_
      exact e_P_X2_joined_J52 h
    · have h := Eq.mp (if_neg hc) h
      refine E_iload_n dX2_joined_44 rfl rfl ?_
      refine E_if_eq (tgt := 52) dX2_joined_45 (by decide) (fun hc => ?_) (fun hc => ?_)
      · have h := Eq.mp (if_pos hc) h
        refine E_wk2 [none, none, none] trivial ?_
        exact e_P_X2_joined_J52 h
      · have h := Eq.mp (if_neg hc) h
        refine E_ic dX2_joined_48 rfl ?_
        refine E_goto (tgt := 53) dX2_joined_49 (by decide) ?_
        exact E_iret dX2_joined_53 rfl ⟨_, rfl, rfl, h⟩
  have h := Eq.mp (if_neg hc) h
  have hc0 := hc
  clear hc
  by_cases hc : x0 = 7
  · have h := Eq.mp (if_pos hc) h
    refine E_tableIn (off := 53) (tgt := 54) dX2_joined_1 (by omega) (by omega) (by rw [hc]; rfl) (by decide) ?_
    refine E_iload_n dX2_joined_54 rfl rfl ?_
    refine E_if_ne (tgt := 62) dX2_joined_55 (by decide) (fun hc => ?_) (fun hc => ?_)
    · have h := Eq.mp (if_neg hc) h
      refine E_wk2 [none, none, none] trivial ?_
      exact e_P_X2_joined_J62 h
    · have h := Eq.mp (if_pos hc) h
      refine E_iload_n dX2_joined_58 rfl rfl ?_
      refine E_if_eq (tgt := 66) dX2_joined_59 (by decide) (fun hc => ?_) (fun hc => ?_)
      · have h := Eq.mp (if_pos hc) h
        refine E_ic dX2_joined_66 rfl ?_
        exact E_iret dX2_joined_67 rfl ⟨_, rfl, rfl, h⟩
      · have h := Eq.mp (if_neg hc) h
        refine E_wk2 [none, none, none] trivial ?_
        exact e_P_X2_joined_J62 h
  have h := Eq.mp (if_neg hc) h
  have hc1 := hc
  clear hc
  by_cases hc : x0 = 8
  · have h := Eq.mp (if_pos hc) h
    refine E_tableIn (off := 67) (tgt := 68) dX2_joined_1 (by omega) (by omega) (by rw [hc]; rfl) (by decide) ?_
    refine E_iload_n dX2_joined_68 rfl rfl ?_
    refine E_iload_n dX2_joined_69 rfl rfl ?_
    refine E_icmp_ge (tgt := 77) dX2_joined_70 (by decide) (fun hc => ?_) (fun hc => ?_)
    · have h := Eq.mp (if_pos hc) h
      refine E_ic dX2_joined_77 rfl ?_
      exact E_iret dX2_joined_78 rfl ⟨_, rfl, rfl, h⟩
    · have h := Eq.mp (if_neg hc) h
      refine E_ic dX2_joined_73 rfl ?_
      refine E_goto (tgt := 78) dX2_joined_74 (by decide) ?_
      exact E_iret dX2_joined_78 rfl ⟨_, rfl, rfl, h⟩
  have h := Eq.mp (if_neg hc) h
  have hc2 := hc
  clear hc
  by_cases hc : x0 = 9
  · have h := Eq.mp (if_pos hc) h
    refine E_tableIn (off := 78) (tgt := 79) dX2_joined_1 (by omega) (by omega) (by rw [hc]; rfl) (by decide) ?_
    refine E_iload_n dX2_joined_79 rfl rfl ?_
    refine E_iload_n dX2_joined_80 rfl rfl ?_
    refine E_icmp_ne (tgt := 88) dX2_joined_81 (by decide) (fun hc => ?_) (fun hc => ?_)
    · have h := Eq.mp (if_neg hc) h
      refine E_ic dX2_joined_88 rfl ?_
      exact E_iret dX2_joined_89 rfl ⟨_, rfl, rfl, h⟩
    · have h := Eq.mp (if_pos hc) h
      refine E_ic dX2_joined_84 rfl ?_
      refine E_goto (tgt := 89) dX2_joined_85 (by decide) ?_
      exact E_iret dX2_joined_89 rfl ⟨_, rfl, rfl, h⟩
  have h := Eq.mp (if_neg hc) h
  have hc3 := hc
  clear hc
  by_cases hc : x0 = 10
  · have h := Eq.mp (if_pos hc) h
    refine E_tableIn (off := 89) (tgt := 90) dX2_joined_1 (by omega) (by omega) (by rw [hc]; rfl) (by decide) ?_
    refine E_iload_n dX2_joined_90 rfl rfl ?_
    refine E_iload_n dX2_joined_91 rfl rfl ?_
    refine E_iadd dX2_joined_92 ?_
    exact E_iret dX2_joined_93 rfl ⟨_, rfl, rfl, h⟩
  have h := Eq.mp (if_neg hc) h
  have hc4 := hc
  clear hc
  by_cases hc : x0 = 11
  · have h := Eq.mp (if_pos hc) h
    refine E_tableIn (off := 93) (tgt := 94) dX2_joined_1 (by omega) (by omega) (by rw [hc]; rfl) (by decide) ?_
    refine E_iload_n dX2_joined_94 rfl rfl ?_
    refine E_iload_n dX2_joined_95 rfl rfl ?_
    refine E_isub dX2_joined_96 ?_
    exact E_iret dX2_joined_97 rfl ⟨_, rfl, rfl, h⟩
  have h := Eq.mp (if_neg hc) h
  have hc5 := hc
  clear hc
  refine E_tableOut (tgt := 98) dX2_joined_1 (by omega) (by decide) ?_
  refine E_iload_n dX2_joined_98 rfl rfl ?_
  refine E_iload_n dX2_joined_99 rfl rfl ?_
  refine E_imul dX2_joined_100 ?_
  exact E_iret dX2_joined_101 rfl ⟨_, rfl, rfl, h⟩
abbrev Y_X3_add : My := (yX3_add, cX3_add, 4, none)
theorem dX3_add_0 : decode cX3_add 0 = .ok (.aload_n 0, 1) := by decide +kernel
theorem dX3_add_1 : decode cX3_add 1 = .ok (.getfield 21, 3) := by decide +kernel
theorem dX3_add_4 : decode cX3_add 4 = .ok (.bipush 40, 2) := by decide +kernel
theorem dX3_add_6 : decode cX3_add 6 = .ok (.if_icmp .ge 43, 3) := by decide +kernel
theorem dX3_add_9 : decode cX3_add 9 = .ok (.aload_n 0, 1) := by decide +kernel
theorem dX3_add_10 : decode cX3_add 10 = .ok (.getfield 9, 3) := by decide +kernel
theorem dX3_add_13 : decode cX3_add 13 = .ok (.aload_n 0, 1) := by decide +kernel
theorem dX3_add_14 : decode cX3_add 14 = .ok (.getfield 21, 3) := by decide +kernel
theorem dX3_add_17 : decode cX3_add 17 = .ok (.iload_n 1, 1) := by decide +kernel
theorem dX3_add_18 : decode cX3_add 18 = .ok (.iastore, 1) := by decide +kernel
theorem dX3_add_19 : decode cX3_add 19 = .ok (.aload_n 0, 1) := by decide +kernel
theorem dX3_add_20 : decode cX3_add 20 = .ok (.getfield 15, 3) := by decide +kernel
theorem dX3_add_23 : decode cX3_add 23 = .ok (.aload_n 0, 1) := by decide +kernel
theorem dX3_add_24 : decode cX3_add 24 = .ok (.getfield 21, 3) := by decide +kernel
theorem dX3_add_27 : decode cX3_add 27 = .ok (.iload_n 2, 1) := by decide +kernel
theorem dX3_add_28 : decode cX3_add 28 = .ok (.iastore, 1) := by decide +kernel
theorem dX3_add_29 : decode cX3_add 29 = .ok (.aload_n 0, 1) := by decide +kernel
theorem dX3_add_30 : decode cX3_add 30 = .ok (.getfield 18, 3) := by decide +kernel
theorem dX3_add_33 : decode cX3_add 33 = .ok (.aload_n 0, 1) := by decide +kernel
theorem dX3_add_34 : decode cX3_add 34 = .ok (.getfield 21, 3) := by decide +kernel
theorem dX3_add_37 : decode cX3_add 37 = .ok (.iload_n 3, 1) := by decide +kernel
theorem dX3_add_38 : decode cX3_add 38 = .ok (.iastore, 1) := by decide +kernel
theorem dX3_add_39 : decode cX3_add 39 = .ok (.aload_n 0, 1) := by decide +kernel
theorem dX3_add_40 : decode cX3_add 40 = .ok (.dup, 1) := by decide +kernel
theorem dX3_add_41 : decode cX3_add 41 = .ok (.getfield 21, 3) := by decide +kernel
theorem dX3_add_44 : decode cX3_add 44 = .ok (.iconst 1, 1) := by decide +kernel
theorem dX3_add_45 : decode cX3_add 45 = .ok (.iadd, 1) := by decide +kernel
theorem dX3_add_46 : decode cX3_add 46 = .ok (.putfield 21, 3) := by decide +kernel
theorem dX3_add_49 : decode cX3_add 49 = .ok (.return_, 1) := by decide +kernel
theorem fl_RX3_15 : FL RX3 15 3 1 := ⟨inG (i := 267) (by decide +kernel) (by decide +kernel), by decide, by decide⟩
theorem fl_RX3_18 : FL RX3 18 3 2 := ⟨inG (i := 268) (by decide +kernel) (by decide +kernel), by decide, by decide⟩
theorem fl_RX3_21 : FL RX3 21 3 3 := ⟨inG (i := 269) (by decide +kernel) (by decide +kernel), by decide, by decide⟩
theorem fl_RX3_9 : FL RX3 9 3 0 := ⟨inG (i := 266) (by decide +kernel) (by decide +kernel), by decide, by decide⟩
theorem go_3_0 (σ : St) (i : Nat) : go σ 3 i 0 = (400, i) := rfl
theorem go_3_1 (σ : St) (i : Nat) : go σ 3 i 1 = (401, i) := rfl
theorem go_3_2 (σ : St) (i : Nat) : go σ 3 i 2 = (402, i) := rfl
theorem sh_400 : shp 400 = (0, 40) := rfl
theorem sh_401 : shp 401 = (0, 40) := rfl
theorem sh_402 : shp 402 = (0, 40) := rfl
def P_X3_add (o0 : Nat) (x1 : Int) (x2 : Int) (x3 : Int) (σ : St) (Q : St → Prop) : Prop :=
  (if 40 ≤ (σ 3 o0 3) then Q σ else 0 ≤ σ 3 o0 3 ∧ σ 3 o0 3 < 40 ∧ 0 ≤ (up σ 400 o0 (σ 3 o0 3) x1) 3 o0 3 ∧ (up σ 400 o0 (σ 3 o0 3) x1) 3 o0 3 < 40 ∧ 0 ≤ (up (up σ 400 o0 (σ 3 o0 3) x1) 401 o0 ((up σ 400 o0 (σ 3 o0 3) x1) 3 o0 3) x2) 3 o0 3 ∧ (up (up σ 400 o0 (σ 3 o0 3) x1) 401 o0 ((up σ 400 o0 (σ 3 o0 3) x1) 3 o0 3) x2) 3 o0 3 < 40 ∧ Q (up (up (up (up σ 400 o0 (σ 3 o0 3) x1) 401 o0 ((up σ 400 o0 (σ 3 o0 3) x1) 3 o0 3) x2) 402 o0 ((up (up σ 400 o0 (σ 3 o0 3) x1) 401 o0 ((up σ 400 o0 (σ 3 o0 3) x1) 3 o0 3) x2) 3 o0 3) x3) 3 o0 3 (wi (((up (up (up σ 400 o0 (σ 3 o0 3) x1) 401 o0 ((up σ 400 o0 (σ 3 o0 3) x1) 3 o0 3) x2) 402 o0 ((up (up σ 400 o0 (σ 3 o0 3) x1) 401 o0 ((up σ 400 o0 (σ 3 o0 3) x1) 3 o0 3) x2) 3 o0 3) x3) 3 o0 3) + 1))))
set_option maxRecDepth 20000 in
set_option maxHeartbeats 2000000 in
theorem s_X3_add {o0 : Nat} {x1 : Int} {x2 : Int} {x3 : Int} {σ : St} {Q : St → Prop} (h : P_X3_add o0 x1 x2 x3 σ Q) : Cn Y_X3_add 0 0 0 ww σ [vR 3 o0, vI x1, vI x2, vI x3] (QV Q) := by
  refine Cn_of [some (vR 3 o0), some (vI x1), some (vI x2), some (vI x3)] (by decide) (Nat.le_of_ble_eq_true rfl) rfl ?_
  unfold P_X3_add at h
  refine E_aload_n dX3_add_0 rfl rfl ?_
  refine E_geti (i := o0) dX3_add_1 fl_RX3_21 rfl ?_
  refine E_bp dX3_add_4 rfl ?_
  refine E_icmp_ge (tgt := 49) dX3_add_6 (by decide) (fun hc => ?_) (fun hc => ?_)
  · have h := Eq.mp (if_pos hc) h
    exact E_vret dX3_add_49 rfl ⟨rfl, rfl, h⟩
  · have h := Eq.mp (if_neg hc) h
    refine E_aload_n dX3_add_9 rfl rfl ?_
    refine E_getr (i := o0) dX3_add_10 fl_RX3_9 rfl rfl (go_3_0 _ _) ?_
    refine E_aload_n dX3_add_13 rfl rfl ?_
    refine E_geti (i := o0) dX3_add_14 fl_RX3_21 rfl ?_
    refine E_iload_n dX3_add_17 rfl rfl ?_
    obtain ⟨hg0, hg1, h⟩ := h
    refine E_iast dX3_add_18 sh_400 hg0 hg1 ?_
    refine E_aload_n dX3_add_19 rfl rfl ?_
    refine E_getr (i := o0) dX3_add_20 fl_RX3_15 rfl rfl (go_3_1 _ _) ?_
    refine E_aload_n dX3_add_23 rfl rfl ?_
    refine E_geti (i := o0) dX3_add_24 fl_RX3_21 rfl ?_
    refine E_iload_n dX3_add_27 rfl rfl ?_
    obtain ⟨hg0, hg1, h⟩ := h
    refine E_iast dX3_add_28 sh_401 hg0 hg1 ?_
    refine E_aload_n dX3_add_29 rfl rfl ?_
    refine E_getr (i := o0) dX3_add_30 fl_RX3_18 rfl rfl (go_3_2 _ _) ?_
    refine E_aload_n dX3_add_33 rfl rfl ?_
    refine E_geti (i := o0) dX3_add_34 fl_RX3_21 rfl ?_
    refine E_iload_n dX3_add_37 rfl rfl ?_
    obtain ⟨hg0, hg1, h⟩ := h
    refine E_iast dX3_add_38 sh_402 hg0 hg1 ?_
    refine E_aload_n dX3_add_39 rfl rfl ?_
    refine E_dup dX3_add_40 (fun _ q => by cases q) ?_
    refine E_geti (i := o0) dX3_add_41 fl_RX3_21 rfl ?_
    refine E_ic dX3_add_44 rfl ?_
    refine E_iadd dX3_add_45 ?_
    refine E_puti dX3_add_46 fl_RX3_21 rfl rfl rfl ?_
    exact E_vret dX3_add_49 rfl ⟨rfl, rfl, h⟩
abbrev Y_X3_take : My := (yX3_take, cX3_take, 2, none)
theorem dX3_take_0 : decode cX3_take 0 = .ok (.aload_n 0, 1) := by decide +kernel
theorem dX3_take_1 : decode cX3_take 1 = .ok (.aload_n 1, 1) := by decide +kernel
theorem dX3_take_2 : decode cX3_take 2 = .ok (.getfield 21, 3) := by decide +kernel
theorem dX3_take_5 : decode cX3_take 5 = .ok (.putfield 21, 3) := by decide +kernel
theorem dX3_take_8 : decode cX3_take 8 = .ok (.aload_n 1, 1) := by decide +kernel
theorem dX3_take_9 : decode cX3_take 9 = .ok (.getfield 9, 3) := by decide +kernel
theorem dX3_take_12 : decode cX3_take 12 = .ok (.iconst 0, 1) := by decide +kernel
theorem dX3_take_13 : decode cX3_take 13 = .ok (.aload_n 0, 1) := by decide +kernel
theorem dX3_take_14 : decode cX3_take 14 = .ok (.getfield 9, 3) := by decide +kernel
theorem dX3_take_17 : decode cX3_take 17 = .ok (.iconst 0, 1) := by decide +kernel
theorem dX3_take_18 : decode cX3_take 18 = .ok (.aload_n 0, 1) := by decide +kernel
theorem dX3_take_19 : decode cX3_take 19 = .ok (.getfield 21, 3) := by decide +kernel
theorem dX3_take_22 : decode cX3_take 22 = .ok (.invokestatic 25, 3) := by decide +kernel
theorem dX3_take_25 : decode cX3_take 25 = .ok (.aload_n 1, 1) := by decide +kernel
theorem dX3_take_26 : decode cX3_take 26 = .ok (.getfield 15, 3) := by decide +kernel
theorem dX3_take_29 : decode cX3_take 29 = .ok (.iconst 0, 1) := by decide +kernel
theorem dX3_take_30 : decode cX3_take 30 = .ok (.aload_n 0, 1) := by decide +kernel
theorem dX3_take_31 : decode cX3_take 31 = .ok (.getfield 15, 3) := by decide +kernel
theorem dX3_take_34 : decode cX3_take 34 = .ok (.iconst 0, 1) := by decide +kernel
theorem dX3_take_35 : decode cX3_take 35 = .ok (.aload_n 0, 1) := by decide +kernel
theorem dX3_take_36 : decode cX3_take 36 = .ok (.getfield 21, 3) := by decide +kernel
theorem dX3_take_39 : decode cX3_take 39 = .ok (.invokestatic 25, 3) := by decide +kernel
theorem dX3_take_42 : decode cX3_take 42 = .ok (.aload_n 1, 1) := by decide +kernel
theorem dX3_take_43 : decode cX3_take 43 = .ok (.getfield 18, 3) := by decide +kernel
theorem dX3_take_46 : decode cX3_take 46 = .ok (.iconst 0, 1) := by decide +kernel
theorem dX3_take_47 : decode cX3_take 47 = .ok (.aload_n 0, 1) := by decide +kernel
theorem dX3_take_48 : decode cX3_take 48 = .ok (.getfield 18, 3) := by decide +kernel
theorem dX3_take_51 : decode cX3_take 51 = .ok (.iconst 0, 1) := by decide +kernel
theorem dX3_take_52 : decode cX3_take 52 = .ok (.aload_n 0, 1) := by decide +kernel
theorem dX3_take_53 : decode cX3_take 53 = .ok (.getfield 21, 3) := by decide +kernel
theorem dX3_take_56 : decode cX3_take 56 = .ok (.invokestatic 25, 3) := by decide +kernel
theorem dX3_take_59 : decode cX3_take 59 = .ok (.return_, 1) := by decide +kernel
theorem lk_RX3_25 : Cond.methodLink RX3 25 arraycopyName ∈ tG := inG (i := 882) (by decide +kernel) (by decide +kernel)
def P_X3_take (o0 : Nat) (o1 : Nat) (σ : St) (Q : St → Prop) : Prop :=
  0 ≤ (up σ 3 o0 3 (σ 3 o1 3)) 3 o0 3 ∧ 0 + ((up σ 3 o0 3 (σ 3 o1 3)) 3 o0 3) ≤ 40 ∧ 0 + ((up σ 3 o0 3 (σ 3 o1 3)) 3 o0 3) ≤ 40 ∧ 0 ≤ (cp (up σ 3 o0 3 (σ 3 o1 3)) 400 o1 0 400 o0 0 ((up σ 3 o0 3 (σ 3 o1 3)) 3 o0 3)) 3 o0 3 ∧ 0 + ((cp (up σ 3 o0 3 (σ 3 o1 3)) 400 o1 0 400 o0 0 ((up σ 3 o0 3 (σ 3 o1 3)) 3 o0 3)) 3 o0 3) ≤ 40 ∧ 0 + ((cp (up σ 3 o0 3 (σ 3 o1 3)) 400 o1 0 400 o0 0 ((up σ 3 o0 3 (σ 3 o1 3)) 3 o0 3)) 3 o0 3) ≤ 40 ∧ 0 ≤ (cp (cp (up σ 3 o0 3 (σ 3 o1 3)) 400 o1 0 400 o0 0 ((up σ 3 o0 3 (σ 3 o1 3)) 3 o0 3)) 401 o1 0 401 o0 0 ((cp (up σ 3 o0 3 (σ 3 o1 3)) 400 o1 0 400 o0 0 ((up σ 3 o0 3 (σ 3 o1 3)) 3 o0 3)) 3 o0 3)) 3 o0 3 ∧ 0 + ((cp (cp (up σ 3 o0 3 (σ 3 o1 3)) 400 o1 0 400 o0 0 ((up σ 3 o0 3 (σ 3 o1 3)) 3 o0 3)) 401 o1 0 401 o0 0 ((cp (up σ 3 o0 3 (σ 3 o1 3)) 400 o1 0 400 o0 0 ((up σ 3 o0 3 (σ 3 o1 3)) 3 o0 3)) 3 o0 3)) 3 o0 3) ≤ 40 ∧ 0 + ((cp (cp (up σ 3 o0 3 (σ 3 o1 3)) 400 o1 0 400 o0 0 ((up σ 3 o0 3 (σ 3 o1 3)) 3 o0 3)) 401 o1 0 401 o0 0 ((cp (up σ 3 o0 3 (σ 3 o1 3)) 400 o1 0 400 o0 0 ((up σ 3 o0 3 (σ 3 o1 3)) 3 o0 3)) 3 o0 3)) 3 o0 3) ≤ 40 ∧ Q (cp (cp (cp (up σ 3 o0 3 (σ 3 o1 3)) 400 o1 0 400 o0 0 ((up σ 3 o0 3 (σ 3 o1 3)) 3 o0 3)) 401 o1 0 401 o0 0 ((cp (up σ 3 o0 3 (σ 3 o1 3)) 400 o1 0 400 o0 0 ((up σ 3 o0 3 (σ 3 o1 3)) 3 o0 3)) 3 o0 3)) 402 o1 0 402 o0 0 ((cp (cp (up σ 3 o0 3 (σ 3 o1 3)) 400 o1 0 400 o0 0 ((up σ 3 o0 3 (σ 3 o1 3)) 3 o0 3)) 401 o1 0 401 o0 0 ((cp (up σ 3 o0 3 (σ 3 o1 3)) 400 o1 0 400 o0 0 ((up σ 3 o0 3 (σ 3 o1 3)) 3 o0 3)) 3 o0 3)) 3 o0 3))
set_option maxRecDepth 20000 in
set_option maxHeartbeats 2000000 in
theorem s_X3_take {o0 : Nat} {o1 : Nat} {σ : St} {Q : St → Prop} (h : P_X3_take o0 o1 σ Q) : Cn Y_X3_take 1 0 0 ww σ [vR 3 o0, vR 3 o1] (QV Q) := by
  refine Cn_of [some (vR 3 o0), some (vR 3 o1)] (by decide) (Nat.le_of_ble_eq_true rfl) rfl ?_
  unfold P_X3_take at h
  refine E_aload_n dX3_take_0 rfl rfl ?_
  refine E_aload_n dX3_take_1 rfl rfl ?_
  refine E_geti (i := o1) dX3_take_2 fl_RX3_21 rfl ?_
  refine E_puti dX3_take_5 fl_RX3_21 rfl rfl rfl ?_
  refine E_aload_n dX3_take_8 rfl rfl ?_
  refine E_getr (i := o1) dX3_take_9 fl_RX3_9 rfl rfl (go_3_0 _ _) ?_
  refine E_ic dX3_take_12 rfl ?_
  refine E_aload_n dX3_take_13 rfl rfl ?_
  refine E_getr (i := o0) dX3_take_14 fl_RX3_9 rfl rfl (go_3_0 _ _) ?_
  refine E_ic dX3_take_17 rfl ?_
  refine E_aload_n dX3_take_18 rfl rfl ?_
  refine E_geti (i := o0) dX3_take_19 fl_RX3_21 rfl ?_
  obtain ⟨hg0, hg1, hg2, h⟩ := h
  refine E_acpi dX3_take_22 lk_RX3_25 (by decide) (Nat.le_of_ble_eq_true rfl) sh_400 sh_400 (by decide) (by decide) hg0 hg1 hg2 ?_
  refine E_aload_n dX3_take_25 rfl rfl ?_
  refine E_getr (i := o1) dX3_take_26 fl_RX3_15 rfl rfl (go_3_1 _ _) ?_
  refine E_ic dX3_take_29 rfl ?_
  refine E_aload_n dX3_take_30 rfl rfl ?_
  refine E_getr (i := o0) dX3_take_31 fl_RX3_15 rfl rfl (go_3_1 _ _) ?_
  refine E_ic dX3_take_34 rfl ?_
  refine E_aload_n dX3_take_35 rfl rfl ?_
  refine E_geti (i := o0) dX3_take_36 fl_RX3_21 rfl ?_
  obtain ⟨hg0, hg1, hg2, h⟩ := h
  refine E_acpi dX3_take_39 lk_RX3_25 (by decide) (Nat.le_of_ble_eq_true rfl) sh_401 sh_401 (by decide) (by decide) hg0 hg1 hg2 ?_
  refine E_aload_n dX3_take_42 rfl rfl ?_
  refine E_getr (i := o1) dX3_take_43 fl_RX3_18 rfl rfl (go_3_2 _ _) ?_
  refine E_ic dX3_take_46 rfl ?_
  refine E_aload_n dX3_take_47 rfl rfl ?_
  refine E_getr (i := o0) dX3_take_48 fl_RX3_18 rfl rfl (go_3_2 _ _) ?_
  refine E_ic dX3_take_51 rfl ?_
  refine E_aload_n dX3_take_52 rfl rfl ?_
  refine E_geti (i := o0) dX3_take_53 fl_RX3_21 rfl ?_
  obtain ⟨hg0, hg1, hg2, h⟩ := h
  refine E_acpi dX3_take_56 lk_RX3_25 (by decide) (Nat.le_of_ble_eq_true rfl) sh_402 sh_402 (by decide) (by decide) hg0 hg1 hg2 ?_
  exact E_vret dX3_take_59 rfl ⟨rfl, rfl, h⟩
abbrev Y_X7_note : My := (yX7_note, cX7_note, 4, some .boolean)
theorem dX7_note_0 : decode cX7_note 0 = .ok (.aload_n 0, 1) := by decide +kernel
theorem dX7_note_1 : decode cX7_note 1 = .ok (.getfield 22, 3) := by decide +kernel
theorem dX7_note_4 : decode cX7_note 4 = .ok (.bipush 8, 2) := by decide +kernel
theorem dX7_note_6 : decode cX7_note 6 = .ok (.if_icmp .lt 5, 3) := by decide +kernel
theorem dX7_note_9 : decode cX7_note 9 = .ok (.iconst 0, 1) := by decide +kernel
theorem dX7_note_10 : decode cX7_note 10 = .ok (.ireturn, 1) := by decide +kernel
theorem dX7_note_11 : decode cX7_note 11 = .ok (.aload_n 0, 1) := by decide +kernel
theorem dX7_note_12 : decode cX7_note 12 = .ok (.getfield 9, 3) := by decide +kernel
theorem dX7_note_15 : decode cX7_note 15 = .ok (.aload_n 0, 1) := by decide +kernel
theorem dX7_note_16 : decode cX7_note 16 = .ok (.getfield 22, 3) := by decide +kernel
theorem dX7_note_19 : decode cX7_note 19 = .ok (.iload_n 1, 1) := by decide +kernel
theorem dX7_note_20 : decode cX7_note 20 = .ok (.iastore, 1) := by decide +kernel
theorem dX7_note_21 : decode cX7_note 21 = .ok (.aload_n 0, 1) := by decide +kernel
theorem dX7_note_22 : decode cX7_note 22 = .ok (.getfield 15, 3) := by decide +kernel
theorem dX7_note_25 : decode cX7_note 25 = .ok (.aload_n 0, 1) := by decide +kernel
theorem dX7_note_26 : decode cX7_note 26 = .ok (.getfield 22, 3) := by decide +kernel
theorem dX7_note_29 : decode cX7_note 29 = .ok (.iload_n 2, 1) := by decide +kernel
theorem dX7_note_30 : decode cX7_note 30 = .ok (.iastore, 1) := by decide +kernel
theorem dX7_note_31 : decode cX7_note 31 = .ok (.aload_n 0, 1) := by decide +kernel
theorem dX7_note_32 : decode cX7_note 32 = .ok (.getfield 18, 3) := by decide +kernel
theorem dX7_note_35 : decode cX7_note 35 = .ok (.aload_n 0, 1) := by decide +kernel
theorem dX7_note_36 : decode cX7_note 36 = .ok (.getfield 22, 3) := by decide +kernel
theorem dX7_note_39 : decode cX7_note 39 = .ok (.iload_n 3, 1) := by decide +kernel
theorem dX7_note_40 : decode cX7_note 40 = .ok (.bastore, 1) := by decide +kernel
theorem dX7_note_41 : decode cX7_note 41 = .ok (.aload_n 0, 1) := by decide +kernel
theorem dX7_note_42 : decode cX7_note 42 = .ok (.dup, 1) := by decide +kernel
theorem dX7_note_43 : decode cX7_note 43 = .ok (.getfield 22, 3) := by decide +kernel
theorem dX7_note_46 : decode cX7_note 46 = .ok (.iconst 1, 1) := by decide +kernel
theorem dX7_note_47 : decode cX7_note 47 = .ok (.iadd, 1) := by decide +kernel
theorem dX7_note_48 : decode cX7_note 48 = .ok (.putfield 22, 3) := by decide +kernel
theorem dX7_note_51 : decode cX7_note 51 = .ok (.iconst 1, 1) := by decide +kernel
theorem dX7_note_52 : decode cX7_note 52 = .ok (.ireturn, 1) := by decide +kernel
theorem fl_RX7_15 : FL RX7 15 7 1 := ⟨inG (i := 383) (by decide +kernel) (by decide +kernel), by decide, by decide⟩
theorem fl_RX7_18 : FL RX7 18 7 2 := ⟨inG (i := 384) (by decide +kernel) (by decide +kernel), by decide, by decide⟩
theorem fl_RX7_22 : FL RX7 22 7 3 := ⟨inG (i := 385) (by decide +kernel) (by decide +kernel), by decide, by decide⟩
theorem fl_RX7_9 : FL RX7 9 7 0 := ⟨inG (i := 382) (by decide +kernel) (by decide +kernel), by decide, by decide⟩
theorem go_7_0 (σ : St) (i : Nat) : go σ 7 i 0 = (800, i) := rfl
theorem go_7_1 (σ : St) (i : Nat) : go σ 7 i 1 = (801, i) := rfl
theorem go_7_2 (σ : St) (i : Nat) : go σ 7 i 2 = (802, i) := rfl
theorem sh_800 : shp 800 = (0, 8) := rfl
theorem sh_801 : shp 801 = (0, 8) := rfl
theorem sh_802 : shp 802 = (2, 8) := rfl
def P_X7_note (o0 : Nat) (x1 : Int) (x2 : Int) (x3 : Int) (σ : St) (Q : Int → St → Prop) : Prop :=
  (if (σ 7 o0 3) < 8 then 0 ≤ σ 7 o0 3 ∧ σ 7 o0 3 < 8 ∧ 0 ≤ (up σ 800 o0 (σ 7 o0 3) x1) 7 o0 3 ∧ (up σ 800 o0 (σ 7 o0 3) x1) 7 o0 3 < 8 ∧ 0 ≤ (up (up σ 800 o0 (σ 7 o0 3) x1) 801 o0 ((up σ 800 o0 (σ 7 o0 3) x1) 7 o0 3) x2) 7 o0 3 ∧ (up (up σ 800 o0 (σ 7 o0 3) x1) 801 o0 ((up σ 800 o0 (σ 7 o0 3) x1) 7 o0 3) x2) 7 o0 3 < 8 ∧ (x3 = 0 ∨ x3 = 1) ∧ Q 1 (up (up (up (up σ 800 o0 (σ 7 o0 3) x1) 801 o0 ((up σ 800 o0 (σ 7 o0 3) x1) 7 o0 3) x2) 802 o0 ((up (up σ 800 o0 (σ 7 o0 3) x1) 801 o0 ((up σ 800 o0 (σ 7 o0 3) x1) 7 o0 3) x2) 7 o0 3) x3) 7 o0 3 (wi (((up (up (up σ 800 o0 (σ 7 o0 3) x1) 801 o0 ((up σ 800 o0 (σ 7 o0 3) x1) 7 o0 3) x2) 802 o0 ((up (up σ 800 o0 (σ 7 o0 3) x1) 801 o0 ((up σ 800 o0 (σ 7 o0 3) x1) 7 o0 3) x2) 7 o0 3) x3) 7 o0 3) + 1))) else Q 0 σ)
set_option maxRecDepth 20000 in
set_option maxHeartbeats 2000000 in
theorem s_X7_note {o0 : Nat} {x1 : Int} {x2 : Int} {x3 : Int} {σ : St} {Q : Int → St → Prop} (h : P_X7_note o0 x1 x2 x3 σ Q) : Cn Y_X7_note 0 0 0 ww σ [vR 7 o0, vI x1, vI x2, vI x3] (QI Q) := by
  refine Cn_of [some (vR 7 o0), some (vI x1), some (vI x2), some (vI x3)] (by decide) (Nat.le_of_ble_eq_true rfl) rfl ?_
  unfold P_X7_note at h
  refine E_aload_n dX7_note_0 rfl rfl ?_
  refine E_geti (i := o0) dX7_note_1 fl_RX7_22 rfl ?_
  refine E_bp dX7_note_4 rfl ?_
  refine E_icmp_lt (tgt := 11) dX7_note_6 (by decide) (fun hc => ?_) (fun hc => ?_)
  · have h := Eq.mp (if_pos hc) h
    refine E_aload_n dX7_note_11 rfl rfl ?_
    refine E_getr (i := o0) dX7_note_12 fl_RX7_9 rfl rfl (go_7_0 _ _) ?_
    refine E_aload_n dX7_note_15 rfl rfl ?_
    refine E_geti (i := o0) dX7_note_16 fl_RX7_22 rfl ?_
    refine E_iload_n dX7_note_19 rfl rfl ?_
    obtain ⟨hg0, hg1, h⟩ := h
    refine E_iast dX7_note_20 sh_800 hg0 hg1 ?_
    refine E_aload_n dX7_note_21 rfl rfl ?_
    refine E_getr (i := o0) dX7_note_22 fl_RX7_15 rfl rfl (go_7_1 _ _) ?_
    refine E_aload_n dX7_note_25 rfl rfl ?_
    refine E_geti (i := o0) dX7_note_26 fl_RX7_22 rfl ?_
    refine E_iload_n dX7_note_29 rfl rfl ?_
    obtain ⟨hg0, hg1, h⟩ := h
    refine E_iast dX7_note_30 sh_801 hg0 hg1 ?_
    refine E_aload_n dX7_note_31 rfl rfl ?_
    refine E_getr (i := o0) dX7_note_32 fl_RX7_18 rfl rfl (go_7_2 _ _) ?_
    refine E_aload_n dX7_note_35 rfl rfl ?_
    refine E_geti (i := o0) dX7_note_36 fl_RX7_22 rfl ?_
    refine E_iload_n dX7_note_39 rfl rfl ?_
    obtain ⟨hg0, hg1, hg2, h⟩ := h
    refine E_zast dX7_note_40 sh_802 hg0 hg1 hg2 ?_
    refine E_aload_n dX7_note_41 rfl rfl ?_
    refine E_dup dX7_note_42 (fun _ q => by cases q) ?_
    refine E_geti (i := o0) dX7_note_43 fl_RX7_22 rfl ?_
    refine E_ic dX7_note_46 rfl ?_
    refine E_iadd dX7_note_47 ?_
    refine E_puti dX7_note_48 fl_RX7_22 rfl rfl rfl ?_
    refine E_ic dX7_note_51 rfl ?_
    exact E_zret dX7_note_52 rfl (by decide) ⟨_, rfl, rfl, h⟩
  · have h := Eq.mp (if_neg hc) h
    refine E_ic dX7_note_9 rfl ?_
    exact E_zret dX7_note_10 rfl (by decide) ⟨_, rfl, rfl, h⟩
abbrev Y_X7_take : My := (yX7_take, cX7_take, 3, none)
theorem dX7_take_0 : decode cX7_take 0 = .ok (.aload_n 0, 1) := by decide +kernel
theorem dX7_take_1 : decode cX7_take 1 = .ok (.aload_n 1, 1) := by decide +kernel
theorem dX7_take_2 : decode cX7_take 2 = .ok (.getfield 22, 3) := by decide +kernel
theorem dX7_take_5 : decode cX7_take 5 = .ok (.putfield 22, 3) := by decide +kernel
theorem dX7_take_8 : decode cX7_take 8 = .ok (.iconst 0, 1) := by decide +kernel
theorem dX7_take_9 : decode cX7_take 9 = .ok (.istore_n 2, 1) := by decide +kernel
theorem dX7_take_10 : decode cX7_take 10 = .ok (.iload_n 2, 1) := by decide +kernel
theorem dX7_take_11 : decode cX7_take 11 = .ok (.aload_n 0, 1) := by decide +kernel
theorem dX7_take_12 : decode cX7_take 12 = .ok (.getfield 22, 3) := by decide +kernel
theorem dX7_take_15 : decode cX7_take 15 = .ok (.if_icmp .ge 45, 3) := by decide +kernel
theorem dX7_take_18 : decode cX7_take 18 = .ok (.aload_n 0, 1) := by decide +kernel
theorem dX7_take_19 : decode cX7_take 19 = .ok (.getfield 9, 3) := by decide +kernel
theorem dX7_take_22 : decode cX7_take 22 = .ok (.iload_n 2, 1) := by decide +kernel
theorem dX7_take_23 : decode cX7_take 23 = .ok (.aload_n 1, 1) := by decide +kernel
theorem dX7_take_24 : decode cX7_take 24 = .ok (.getfield 9, 3) := by decide +kernel
theorem dX7_take_27 : decode cX7_take 27 = .ok (.iload_n 2, 1) := by decide +kernel
theorem dX7_take_28 : decode cX7_take 28 = .ok (.iaload, 1) := by decide +kernel
theorem dX7_take_29 : decode cX7_take 29 = .ok (.iastore, 1) := by decide +kernel
theorem dX7_take_30 : decode cX7_take 30 = .ok (.aload_n 0, 1) := by decide +kernel
theorem dX7_take_31 : decode cX7_take 31 = .ok (.getfield 15, 3) := by decide +kernel
theorem dX7_take_34 : decode cX7_take 34 = .ok (.iload_n 2, 1) := by decide +kernel
theorem dX7_take_35 : decode cX7_take 35 = .ok (.aload_n 1, 1) := by decide +kernel
theorem dX7_take_36 : decode cX7_take 36 = .ok (.getfield 15, 3) := by decide +kernel
theorem dX7_take_39 : decode cX7_take 39 = .ok (.iload_n 2, 1) := by decide +kernel
theorem dX7_take_40 : decode cX7_take 40 = .ok (.iaload, 1) := by decide +kernel
theorem dX7_take_41 : decode cX7_take 41 = .ok (.iastore, 1) := by decide +kernel
theorem dX7_take_42 : decode cX7_take 42 = .ok (.aload_n 0, 1) := by decide +kernel
theorem dX7_take_43 : decode cX7_take 43 = .ok (.getfield 18, 3) := by decide +kernel
theorem dX7_take_46 : decode cX7_take 46 = .ok (.iload_n 2, 1) := by decide +kernel
theorem dX7_take_47 : decode cX7_take 47 = .ok (.aload_n 1, 1) := by decide +kernel
theorem dX7_take_48 : decode cX7_take 48 = .ok (.getfield 18, 3) := by decide +kernel
theorem dX7_take_51 : decode cX7_take 51 = .ok (.iload_n 2, 1) := by decide +kernel
theorem dX7_take_52 : decode cX7_take 52 = .ok (.baload, 1) := by decide +kernel
theorem dX7_take_53 : decode cX7_take 53 = .ok (.bastore, 1) := by decide +kernel
theorem dX7_take_54 : decode cX7_take 54 = .ok (.iinc 2 1, 3) := by decide +kernel
theorem dX7_take_57 : decode cX7_take 57 = .ok (.goto (-47), 3) := by decide +kernel
theorem dX7_take_60 : decode cX7_take 60 = .ok (.return_, 1) := by decide +kernel
def P_X7_take_L10 (o0 : Nat) (o1 : Nat)  (Q : St → Prop) : Nat → Int → St → Prop
  | 0, _, _ => False
  | n + 1, x2, σ => (if (σ 7 o0 3) ≤ x2 then Q σ else 0 ≤ x2 ∧ x2 < 8 ∧ 0 ≤ x2 ∧ x2 < 8 ∧ 0 ≤ x2 ∧ x2 < 8 ∧ 0 ≤ x2 ∧ x2 < 8 ∧ 0 ≤ x2 ∧ x2 < 8 ∧ 0 ≤ x2 ∧ x2 < 8 ∧ (((up (up σ 800 o0 x2 (σ 800 o1 x2)) 801 o0 x2 ((up σ 800 o0 x2 (σ 800 o1 x2)) 801 o1 x2)) 802 o1 x2) = 0 ∨ ((up (up σ 800 o0 x2 (σ 800 o1 x2)) 801 o0 x2 ((up σ 800 o0 x2 (σ 800 o1 x2)) 801 o1 x2)) 802 o1 x2) = 1) ∧ (P_X7_take_L10 o0 o1 Q n) (wi (x2 + 1)) (up (up (up σ 800 o0 x2 (σ 800 o1 x2)) 801 o0 x2 ((up σ 800 o0 x2 (σ 800 o1 x2)) 801 o1 x2)) 802 o0 x2 ((up (up σ 800 o0 x2 (σ 800 o1 x2)) 801 o0 x2 ((up σ 800 o0 x2 (σ 800 o1 x2)) 801 o1 x2)) 802 o1 x2)))
set_option maxRecDepth 20000 in
set_option maxHeartbeats 2000000 in
theorem e_P_X7_take_L10 {o0 : Nat} {o1 : Nat}  {Q : St → Prop}  : ∀ (n : Nat) (x2 : Int) (σ : St), P_X7_take_L10 o0 o1 Q n x2 σ → E Y_X7_take 0 0 0 (QV Q) ww 0 0 10 [some (vR 7 o0), some (vR 7 o1), some (vI x2)] [] σ := by
  intro n
  induction n with
  | zero => intro x2 σ h; exact h.elim
  | succ n hR =>
    intro x2 σ h
    unfold P_X7_take_L10 at h
    refine E_iload_n dX7_take_10 rfl rfl ?_
    refine E_aload_n dX7_take_11 rfl rfl ?_
    refine E_geti (i := o0) dX7_take_12 fl_RX7_22 rfl ?_
    refine E_icmp_ge (tgt := 60) dX7_take_15 (by decide) (fun hc => ?_) (fun hc => ?_)
    · have h := Eq.mp (if_pos hc) h
      exact E_vret dX7_take_60 rfl ⟨rfl, rfl, h⟩
    · have h := Eq.mp (if_neg hc) h
      refine E_aload_n dX7_take_18 rfl rfl ?_
      refine E_getr (i := o0) dX7_take_19 fl_RX7_9 rfl rfl (go_7_0 _ _) ?_
      refine E_iload_n dX7_take_22 rfl rfl ?_
      refine E_aload_n dX7_take_23 rfl rfl ?_
      refine E_getr (i := o1) dX7_take_24 fl_RX7_9 rfl rfl (go_7_0 _ _) ?_
      refine E_iload_n dX7_take_27 rfl rfl ?_
      obtain ⟨hg0, hg1, h⟩ := h
      refine E_iald dX7_take_28 sh_800 hg0 hg1 ?_
      obtain ⟨hg0, hg1, h⟩ := h
      refine E_iast dX7_take_29 sh_800 hg0 hg1 ?_
      refine E_aload_n dX7_take_30 rfl rfl ?_
      refine E_getr (i := o0) dX7_take_31 fl_RX7_15 rfl rfl (go_7_1 _ _) ?_
      refine E_iload_n dX7_take_34 rfl rfl ?_
      refine E_aload_n dX7_take_35 rfl rfl ?_
      refine E_getr (i := o1) dX7_take_36 fl_RX7_15 rfl rfl (go_7_1 _ _) ?_
      refine E_iload_n dX7_take_39 rfl rfl ?_
      obtain ⟨hg0, hg1, h⟩ := h
      refine E_iald dX7_take_40 sh_801 hg0 hg1 ?_
      obtain ⟨hg0, hg1, h⟩ := h
      refine E_iast dX7_take_41 sh_801 hg0 hg1 ?_
      refine E_aload_n dX7_take_42 rfl rfl ?_
      refine E_getr (i := o0) dX7_take_43 fl_RX7_18 rfl rfl (go_7_2 _ _) ?_
      refine E_iload_n dX7_take_46 rfl rfl ?_
      refine E_aload_n dX7_take_47 rfl rfl ?_
      refine E_getr (i := o1) dX7_take_48 fl_RX7_18 rfl rfl (go_7_2 _ _) ?_
      refine E_iload_n dX7_take_51 rfl rfl ?_
      obtain ⟨hg0, hg1, h⟩ := h
      refine E_zald dX7_take_52 sh_802 hg0 hg1 ?_
      obtain ⟨hg0, hg1, hg2, h⟩ := h
      refine E_zast dX7_take_53 sh_802 hg0 hg1 hg2 ?_
      refine E_iinc (ls' := [some (vR 7 o0), some (vR 7 o1), some (vI (wi (x2 + 1)))]) dX7_take_54 rfl (by decide) rfl rfl ?_
      refine E_goto (tgt := 10) dX7_take_57 (by decide) ?_
      exact hR _ _ h
def P_X7_take (o0 : Nat) (o1 : Nat) (σ : St) (Q : St → Prop) : Prop :=
  P_X7_take_L10 o0 o1 Q FU 0 (up σ 7 o0 3 (σ 7 o1 3))
set_option maxRecDepth 20000 in
set_option maxHeartbeats 2000000 in
theorem s_X7_take {o0 : Nat} {o1 : Nat} {σ : St} {Q : St → Prop} (h : P_X7_take o0 o1 σ Q) : Cn Y_X7_take 0 0 0 ww σ [vR 7 o0, vR 7 o1] (QV Q) := by
  refine Cn_of [some (vR 7 o0), some (vR 7 o1), none] (by decide) (Nat.le_of_ble_eq_true rfl) rfl ?_
  unfold P_X7_take at h
  refine E_aload_n dX7_take_0 rfl rfl ?_
  refine E_aload_n dX7_take_1 rfl rfl ?_
  refine E_geti (i := o1) dX7_take_2 fl_RX7_22 rfl ?_
  refine E_puti dX7_take_5 fl_RX7_22 rfl rfl rfl ?_
  refine E_ic dX7_take_8 rfl ?_
  refine E_istore_n (ls' := [some (vR 7 o0), some (vR 7 o1), some (vI 0)]) dX7_take_9 rfl (by decide) rfl ?_
  refine e_P_X7_take_L10  _ _ _ h
abbrev Y_X8_clear : My := (yX8_clear, cX8_clear, 1, none)
theorem dX8_clear_0 : decode cX8_clear 0 = .ok (.aload_n 0, 1) := by decide +kernel
theorem dX8_clear_1 : decode cX8_clear 1 = .ok (.iconst 0, 1) := by decide +kernel
theorem dX8_clear_2 : decode cX8_clear 2 = .ok (.putfield 47, 3) := by decide +kernel
theorem dX8_clear_5 : decode cX8_clear 5 = .ok (.aload_n 0, 1) := by decide +kernel
theorem dX8_clear_6 : decode cX8_clear 6 = .ok (.iconst 0, 1) := by decide +kernel
theorem dX8_clear_7 : decode cX8_clear 7 = .ok (.putfield 51, 3) := by decide +kernel
theorem dX8_clear_10 : decode cX8_clear 10 = .ok (.aload_n 0, 1) := by decide +kernel
theorem dX8_clear_11 : decode cX8_clear 11 = .ok (.iconst 0, 1) := by decide +kernel
theorem dX8_clear_12 : decode cX8_clear 12 = .ok (.putfield 54, 3) := by decide +kernel
theorem dX8_clear_15 : decode cX8_clear 15 = .ok (.aload_n 0, 1) := by decide +kernel
theorem dX8_clear_16 : decode cX8_clear 16 = .ok (.iconst 2, 1) := by decide +kernel
theorem dX8_clear_17 : decode cX8_clear 17 = .ok (.putfield 57, 3) := by decide +kernel
theorem dX8_clear_20 : decode cX8_clear 20 = .ok (.aload_n 0, 1) := by decide +kernel
theorem dX8_clear_21 : decode cX8_clear 21 = .ok (.getfield 43, 3) := by decide +kernel
theorem dX8_clear_24 : decode cX8_clear 24 = .ok (.iconst 0, 1) := by decide +kernel
theorem dX8_clear_25 : decode cX8_clear 25 = .ok (.putfield 60, 3) := by decide +kernel
theorem dX8_clear_28 : decode cX8_clear 28 = .ok (.return_, 1) := by decide +kernel
theorem fl_RX8_43 : FL RX8 43 8 9 := ⟨inG (i := 210) (by decide +kernel) (by decide +kernel), by decide, by decide⟩
theorem fl_RX8_47 : FL RX8 47 8 10 := ⟨inG (i := 212) (by decide +kernel) (by decide +kernel), by decide, by decide⟩
theorem fl_RX8_51 : FL RX8 51 8 11 := ⟨inG (i := 218) (by decide +kernel) (by decide +kernel), by decide, by decide⟩
theorem fl_RX8_54 : FL RX8 54 8 12 := ⟨inG (i := 225) (by decide +kernel) (by decide +kernel), by decide, by decide⟩
theorem fl_RX8_57 : FL RX8 57 8 13 := ⟨inG (i := 227) (by decide +kernel) (by decide +kernel), by decide, by decide⟩
theorem fl_RX8_60 : FL RX8 60 2 3 := ⟨inG (i := 180) (by decide +kernel) (by decide +kernel), by decide, by decide⟩
theorem go_8_9 (σ : St) (i : Nat) : go σ 8 i 9 = (2, i) := rfl
def P_X8_clear (o0 : Nat) (σ : St) (Q : St → Prop) : Prop :=
  Q (up (up (up (up (up σ 8 o0 10 0) 8 o0 11 0) 8 o0 12 0) 8 o0 13 2) 2 o0 3 0)
set_option maxRecDepth 20000 in
set_option maxHeartbeats 2000000 in
theorem s_X8_clear {o0 : Nat} {σ : St} {Q : St → Prop} (h : P_X8_clear o0 σ Q) : Cn Y_X8_clear 0 0 0 ww σ [vR 8 o0] (QV Q) := by
  refine Cn_of [some (vR 8 o0)] (by decide) (Nat.le_of_ble_eq_true rfl) rfl ?_
  unfold P_X8_clear at h
  refine E_aload_n dX8_clear_0 rfl rfl ?_
  refine E_ic dX8_clear_1 rfl ?_
  refine E_puti dX8_clear_2 fl_RX8_47 rfl rfl rfl ?_
  refine E_aload_n dX8_clear_5 rfl rfl ?_
  refine E_ic dX8_clear_6 rfl ?_
  refine E_puti dX8_clear_7 fl_RX8_51 rfl rfl rfl ?_
  refine E_aload_n dX8_clear_10 rfl rfl ?_
  refine E_ic dX8_clear_11 rfl ?_
  refine E_puti dX8_clear_12 fl_RX8_54 rfl rfl rfl ?_
  refine E_aload_n dX8_clear_15 rfl rfl ?_
  refine E_ic dX8_clear_16 rfl ?_
  refine E_puti dX8_clear_17 fl_RX8_57 rfl rfl rfl ?_
  refine E_aload_n dX8_clear_20 rfl rfl ?_
  refine E_getr (i := o0) dX8_clear_21 fl_RX8_43 rfl rfl (go_8_9 _ _) ?_
  refine E_ic dX8_clear_24 rfl ?_
  refine E_puti dX8_clear_25 fl_RX8_60 rfl rfl rfl ?_
  exact E_vret dX8_clear_28 rfl ⟨rfl, rfl, h⟩
abbrev Y_X8_take : My := (yX8_take, cX8_take, 2, none)
theorem dX8_take_0 : decode cX8_take 0 = .ok (.aload_n 0, 1) := by decide +kernel
theorem dX8_take_1 : decode cX8_take 1 = .ok (.aload_n 1, 1) := by decide +kernel
theorem dX8_take_2 : decode cX8_take 2 = .ok (.getfield 47, 3) := by decide +kernel
theorem dX8_take_5 : decode cX8_take 5 = .ok (.putfield 47, 3) := by decide +kernel
theorem dX8_take_8 : decode cX8_take 8 = .ok (.aload_n 0, 1) := by decide +kernel
theorem dX8_take_9 : decode cX8_take 9 = .ok (.aload_n 1, 1) := by decide +kernel
theorem dX8_take_10 : decode cX8_take 10 = .ok (.getfield 51, 3) := by decide +kernel
theorem dX8_take_13 : decode cX8_take 13 = .ok (.putfield 51, 3) := by decide +kernel
theorem dX8_take_16 : decode cX8_take 16 = .ok (.aload_n 0, 1) := by decide +kernel
theorem dX8_take_17 : decode cX8_take 17 = .ok (.aload_n 1, 1) := by decide +kernel
theorem dX8_take_18 : decode cX8_take 18 = .ok (.getfield 54, 3) := by decide +kernel
theorem dX8_take_21 : decode cX8_take 21 = .ok (.putfield 54, 3) := by decide +kernel
theorem dX8_take_24 : decode cX8_take 24 = .ok (.aload_n 0, 1) := by decide +kernel
theorem dX8_take_25 : decode cX8_take 25 = .ok (.aload_n 1, 1) := by decide +kernel
theorem dX8_take_26 : decode cX8_take 26 = .ok (.getfield 57, 3) := by decide +kernel
theorem dX8_take_29 : decode cX8_take 29 = .ok (.putfield 57, 3) := by decide +kernel
theorem dX8_take_32 : decode cX8_take 32 = .ok (.aload_n 0, 1) := by decide +kernel
theorem dX8_take_33 : decode cX8_take 33 = .ok (.getfield 43, 3) := by decide +kernel
theorem dX8_take_36 : decode cX8_take 36 = .ok (.aload_n 1, 1) := by decide +kernel
theorem dX8_take_37 : decode cX8_take 37 = .ok (.getfield 43, 3) := by decide +kernel
theorem dX8_take_40 : decode cX8_take 40 = .ok (.invokevirtual 63, 3) := by decide +kernel
theorem dX8_take_43 : decode cX8_take 43 = .ok (.aload_n 1, 1) := by decide +kernel
theorem dX8_take_44 : decode cX8_take 44 = .ok (.getfield 9, 3) := by decide +kernel
theorem dX8_take_47 : decode cX8_take 47 = .ok (.iconst 0, 1) := by decide +kernel
theorem dX8_take_48 : decode cX8_take 48 = .ok (.aload_n 0, 1) := by decide +kernel
theorem dX8_take_49 : decode cX8_take 49 = .ok (.getfield 9, 3) := by decide +kernel
theorem dX8_take_52 : decode cX8_take 52 = .ok (.iconst 0, 1) := by decide +kernel
theorem dX8_take_53 : decode cX8_take 53 = .ok (.bipush 6, 2) := by decide +kernel
theorem dX8_take_55 : decode cX8_take 55 = .ok (.invokestatic 67, 3) := by decide +kernel
theorem dX8_take_58 : decode cX8_take 58 = .ok (.aload_n 1, 1) := by decide +kernel
theorem dX8_take_59 : decode cX8_take 59 = .ok (.getfield 15, 3) := by decide +kernel
theorem dX8_take_62 : decode cX8_take 62 = .ok (.iconst 0, 1) := by decide +kernel
theorem dX8_take_63 : decode cX8_take 63 = .ok (.aload_n 0, 1) := by decide +kernel
theorem dX8_take_64 : decode cX8_take 64 = .ok (.getfield 15, 3) := by decide +kernel
theorem dX8_take_67 : decode cX8_take 67 = .ok (.iconst 0, 1) := by decide +kernel
theorem dX8_take_68 : decode cX8_take 68 = .ok (.bipush 6, 2) := by decide +kernel
theorem dX8_take_70 : decode cX8_take 70 = .ok (.invokestatic 67, 3) := by decide +kernel
theorem dX8_take_73 : decode cX8_take 73 = .ok (.aload_n 1, 1) := by decide +kernel
theorem dX8_take_74 : decode cX8_take 74 = .ok (.getfield 18, 3) := by decide +kernel
theorem dX8_take_77 : decode cX8_take 77 = .ok (.iconst 0, 1) := by decide +kernel
theorem dX8_take_78 : decode cX8_take 78 = .ok (.aload_n 0, 1) := by decide +kernel
theorem dX8_take_79 : decode cX8_take 79 = .ok (.getfield 18, 3) := by decide +kernel
theorem dX8_take_82 : decode cX8_take 82 = .ok (.iconst 0, 1) := by decide +kernel
theorem dX8_take_83 : decode cX8_take 83 = .ok (.bipush 6, 2) := by decide +kernel
theorem dX8_take_85 : decode cX8_take 85 = .ok (.invokestatic 67, 3) := by decide +kernel
theorem dX8_take_88 : decode cX8_take 88 = .ok (.aload_n 1, 1) := by decide +kernel
theorem dX8_take_89 : decode cX8_take 89 = .ok (.getfield 22, 3) := by decide +kernel
theorem dX8_take_92 : decode cX8_take 92 = .ok (.iconst 0, 1) := by decide +kernel
theorem dX8_take_93 : decode cX8_take 93 = .ok (.aload_n 0, 1) := by decide +kernel
theorem dX8_take_94 : decode cX8_take 94 = .ok (.getfield 22, 3) := by decide +kernel
theorem dX8_take_97 : decode cX8_take 97 = .ok (.iconst 0, 1) := by decide +kernel
theorem dX8_take_98 : decode cX8_take 98 = .ok (.bipush 6, 2) := by decide +kernel
theorem dX8_take_100 : decode cX8_take 100 = .ok (.invokestatic 67, 3) := by decide +kernel
theorem dX8_take_103 : decode cX8_take 103 = .ok (.aload_n 1, 1) := by decide +kernel
theorem dX8_take_104 : decode cX8_take 104 = .ok (.getfield 25, 3) := by decide +kernel
theorem dX8_take_107 : decode cX8_take 107 = .ok (.iconst 0, 1) := by decide +kernel
theorem dX8_take_108 : decode cX8_take 108 = .ok (.aload_n 0, 1) := by decide +kernel
theorem dX8_take_109 : decode cX8_take 109 = .ok (.getfield 25, 3) := by decide +kernel
theorem dX8_take_112 : decode cX8_take 112 = .ok (.iconst 0, 1) := by decide +kernel
theorem dX8_take_113 : decode cX8_take 113 = .ok (.bipush 6, 2) := by decide +kernel
theorem dX8_take_115 : decode cX8_take 115 = .ok (.invokestatic 67, 3) := by decide +kernel
theorem dX8_take_118 : decode cX8_take 118 = .ok (.aload_n 1, 1) := by decide +kernel
theorem dX8_take_119 : decode cX8_take 119 = .ok (.getfield 28, 3) := by decide +kernel
theorem dX8_take_122 : decode cX8_take 122 = .ok (.iconst 0, 1) := by decide +kernel
theorem dX8_take_123 : decode cX8_take 123 = .ok (.aload_n 0, 1) := by decide +kernel
theorem dX8_take_124 : decode cX8_take 124 = .ok (.getfield 28, 3) := by decide +kernel
theorem dX8_take_127 : decode cX8_take 127 = .ok (.iconst 0, 1) := by decide +kernel
theorem dX8_take_128 : decode cX8_take 128 = .ok (.bipush 6, 2) := by decide +kernel
theorem dX8_take_130 : decode cX8_take 130 = .ok (.invokestatic 67, 3) := by decide +kernel
theorem dX8_take_133 : decode cX8_take 133 = .ok (.aload_n 1, 1) := by decide +kernel
theorem dX8_take_134 : decode cX8_take 134 = .ok (.getfield 31, 3) := by decide +kernel
theorem dX8_take_137 : decode cX8_take 137 = .ok (.iconst 0, 1) := by decide +kernel
theorem dX8_take_138 : decode cX8_take 138 = .ok (.aload_n 0, 1) := by decide +kernel
theorem dX8_take_139 : decode cX8_take 139 = .ok (.getfield 31, 3) := by decide +kernel
theorem dX8_take_142 : decode cX8_take 142 = .ok (.iconst 0, 1) := by decide +kernel
theorem dX8_take_143 : decode cX8_take 143 = .ok (.bipush 6, 2) := by decide +kernel
theorem dX8_take_145 : decode cX8_take 145 = .ok (.invokestatic 67, 3) := by decide +kernel
theorem dX8_take_148 : decode cX8_take 148 = .ok (.aload_n 1, 1) := by decide +kernel
theorem dX8_take_149 : decode cX8_take 149 = .ok (.getfield 34, 3) := by decide +kernel
theorem dX8_take_152 : decode cX8_take 152 = .ok (.iconst 0, 1) := by decide +kernel
theorem dX8_take_153 : decode cX8_take 153 = .ok (.aload_n 0, 1) := by decide +kernel
theorem dX8_take_154 : decode cX8_take 154 = .ok (.getfield 34, 3) := by decide +kernel
theorem dX8_take_157 : decode cX8_take 157 = .ok (.iconst 0, 1) := by decide +kernel
theorem dX8_take_158 : decode cX8_take 158 = .ok (.bipush 6, 2) := by decide +kernel
theorem dX8_take_160 : decode cX8_take 160 = .ok (.invokestatic 67, 3) := by decide +kernel
theorem dX8_take_163 : decode cX8_take 163 = .ok (.aload_n 1, 1) := by decide +kernel
theorem dX8_take_164 : decode cX8_take 164 = .ok (.getfield 37, 3) := by decide +kernel
theorem dX8_take_167 : decode cX8_take 167 = .ok (.iconst 0, 1) := by decide +kernel
theorem dX8_take_168 : decode cX8_take 168 = .ok (.aload_n 0, 1) := by decide +kernel
theorem dX8_take_169 : decode cX8_take 169 = .ok (.getfield 37, 3) := by decide +kernel
theorem dX8_take_172 : decode cX8_take 172 = .ok (.iconst 0, 1) := by decide +kernel
theorem dX8_take_173 : decode cX8_take 173 = .ok (.bipush 12, 2) := by decide +kernel
theorem dX8_take_175 : decode cX8_take 175 = .ok (.invokestatic 67, 3) := by decide +kernel
theorem dX8_take_178 : decode cX8_take 178 = .ok (.return_, 1) := by decide +kernel
theorem fl_RX8_15 : FL RX8 15 8 1 := ⟨inG (i := 192) (by decide +kernel) (by decide +kernel), by decide, by decide⟩
theorem fl_RX8_18 : FL RX8 18 8 2 := ⟨inG (i := 194) (by decide +kernel) (by decide +kernel), by decide, by decide⟩
theorem fl_RX8_22 : FL RX8 22 8 3 := ⟨inG (i := 196) (by decide +kernel) (by decide +kernel), by decide, by decide⟩
theorem fl_RX8_25 : FL RX8 25 8 4 := ⟨inG (i := 198) (by decide +kernel) (by decide +kernel), by decide, by decide⟩
theorem fl_RX8_28 : FL RX8 28 8 5 := ⟨inG (i := 200) (by decide +kernel) (by decide +kernel), by decide, by decide⟩
theorem fl_RX8_31 : FL RX8 31 8 6 := ⟨inG (i := 202) (by decide +kernel) (by decide +kernel), by decide, by decide⟩
theorem fl_RX8_34 : FL RX8 34 8 7 := ⟨inG (i := 207) (by decide +kernel) (by decide +kernel), by decide, by decide⟩
theorem fl_RX8_37 : FL RX8 37 8 8 := ⟨inG (i := 209) (by decide +kernel) (by decide +kernel), by decide, by decide⟩
theorem fl_RX8_9 : FL RX8 9 8 0 := ⟨inG (i := 190) (by decide +kernel) (by decide +kernel), by decide, by decide⟩
theorem go_8_0 (σ : St) (i : Nat) : go σ 8 i 0 = (900, i) := rfl
theorem go_8_1 (σ : St) (i : Nat) : go σ 8 i 1 = (901, i) := rfl
theorem go_8_2 (σ : St) (i : Nat) : go σ 8 i 2 = (902, i) := rfl
theorem go_8_4 (σ : St) (i : Nat) : go σ 8 i 4 = (904, i) := rfl
theorem go_8_5 (σ : St) (i : Nat) : go σ 8 i 5 = (905, i) := rfl
theorem go_8_7 (σ : St) (i : Nat) : go σ 8 i 7 = (907, i) := rfl
theorem go_8_8 (σ : St) (i : Nat) : go σ 8 i 8 = (908, i) := rfl
theorem lk_RX8_63 : Cond.methodLink RX8 63 yX2_take ∈ tG := inG (i := 840) (by decide +kernel) (by decide +kernel)
theorem lk_RX8_67 : Cond.methodLink RX8 67 arraycopyName ∈ tG := inG (i := 847) (by decide +kernel) (by decide +kernel)
theorem m_X2_take : MV Y_X2_take 1 2 := ⟨⟨inG (i := 843) (by decide +kernel) (by decide +kernel), inG (i := 101) (by decide +kernel) (by decide +kernel), by decide, by decide, by decide, by decide +kernel⟩, inG (i := 841) (by decide +kernel) (by decide +kernel), inG (i := 842) (by decide +kernel) (by decide +kernel), by decide⟩
theorem sh_900 : shp 900 = (0, 6) := rfl
theorem sh_901 : shp 901 = (0, 6) := rfl
theorem sh_902 : shp 902 = (1, 6) := rfl
theorem sh_904 : shp 904 = (0, 6) := rfl
theorem sh_905 : shp 905 = (0, 6) := rfl
theorem sh_907 : shp 907 = (1, 6) := rfl
theorem sh_908 : shp 908 = (0, 12) := rfl
def P_X8_take (o0 : Nat) (o1 : Nat) (σ : St) (Q : St → Prop) : Prop :=
  P_X2_take o0 o1 (up (up (up (up σ 8 o0 10 (σ 8 o1 10)) 8 o0 11 ((up σ 8 o0 10 (σ 8 o1 10)) 8 o1 11)) 8 o0 12 ((up (up σ 8 o0 10 (σ 8 o1 10)) 8 o0 11 ((up σ 8 o0 10 (σ 8 o1 10)) 8 o1 11)) 8 o1 12)) 8 o0 13 ((up (up (up σ 8 o0 10 (σ 8 o1 10)) 8 o0 11 ((up σ 8 o0 10 (σ 8 o1 10)) 8 o1 11)) 8 o0 12 ((up (up σ 8 o0 10 (σ 8 o1 10)) 8 o0 11 ((up σ 8 o0 10 (σ 8 o1 10)) 8 o1 11)) 8 o1 12)) 8 o1 13)) (fun σ_1 => Q (cp (cp (cp (cp (cp (cp (cp (cp (cp σ_1 900 o1 0 900 o0 0 6) 901 o1 0 901 o0 0 6) 902 o1 0 902 o0 0 6) 903 o1 0 903 o0 0 6) 904 o1 0 904 o0 0 6) 905 o1 0 905 o0 0 6) 906 o1 0 906 o0 0 6) 907 o1 0 907 o0 0 6) 908 o1 0 908 o0 0 12))
set_option maxRecDepth 20000 in
set_option maxHeartbeats 2000000 in
theorem s_X8_take {o0 : Nat} {o1 : Nat} {σ : St} {Q : St → Prop} (h : P_X8_take o0 o1 σ Q) : Cn Y_X8_take 2 0 0 ww σ [vR 8 o0, vR 8 o1] (QV Q) := by
  refine Cn_of [some (vR 8 o0), some (vR 8 o1)] (by decide) (Nat.le_of_ble_eq_true rfl) rfl ?_
  unfold P_X8_take at h
  refine E_aload_n dX8_take_0 rfl rfl ?_
  refine E_aload_n dX8_take_1 rfl rfl ?_
  refine E_geti (i := o1) dX8_take_2 fl_RX8_47 rfl ?_
  refine E_puti dX8_take_5 fl_RX8_47 rfl rfl rfl ?_
  refine E_aload_n dX8_take_8 rfl rfl ?_
  refine E_aload_n dX8_take_9 rfl rfl ?_
  refine E_geti (i := o1) dX8_take_10 fl_RX8_51 rfl ?_
  refine E_puti dX8_take_13 fl_RX8_51 rfl rfl rfl ?_
  refine E_aload_n dX8_take_16 rfl rfl ?_
  refine E_aload_n dX8_take_17 rfl rfl ?_
  refine E_geti (i := o1) dX8_take_18 fl_RX8_54 rfl ?_
  refine E_puti dX8_take_21 fl_RX8_54 rfl rfl rfl ?_
  refine E_aload_n dX8_take_24 rfl rfl ?_
  refine E_aload_n dX8_take_25 rfl rfl ?_
  refine E_geti (i := o1) dX8_take_26 fl_RX8_57 rfl ?_
  refine E_puti dX8_take_29 fl_RX8_57 rfl rfl rfl ?_
  refine E_aload_n dX8_take_32 rfl rfl ?_
  refine E_getr (i := o0) dX8_take_33 fl_RX8_43 rfl rfl (go_8_9 _ _) ?_
  refine E_aload_n dX8_take_36 rfl rfl ?_
  refine E_getr (i := o1) dX8_take_37 fl_RX8_43 rfl rfl (go_8_9 _ _) ?_
  refine E_callV (Y' := Y_X2_take) (as := [vR 2 o1]) (st := []) dX8_take_40 lk_RX8_63 m_X2_take (by decide) (Nat.le_refl _) (Nat.le_refl _) rfl rfl (Nat.le_of_ble_eq_true rfl) (s_X2_take h) (fun r0 B0 σ_1 h => ?_)
  obtain ⟨rfl, rfl, h⟩ := h
  refine E_aload_n dX8_take_43 rfl rfl ?_
  refine E_getr (i := o1) dX8_take_44 fl_RX8_9 rfl rfl (go_8_0 _ _) ?_
  refine E_ic dX8_take_47 rfl ?_
  refine E_aload_n dX8_take_48 rfl rfl ?_
  refine E_getr (i := o0) dX8_take_49 fl_RX8_9 rfl rfl (go_8_0 _ _) ?_
  refine E_ic dX8_take_52 rfl ?_
  refine E_bp dX8_take_53 rfl ?_
  refine E_acpi dX8_take_55 lk_RX8_67 (by decide) (Nat.le_of_ble_eq_true rfl) sh_900 sh_900 (by decide) (by decide) (by decide) (by decide) (by decide) ?_
  refine E_aload_n dX8_take_58 rfl rfl ?_
  refine E_getr (i := o1) dX8_take_59 fl_RX8_15 rfl rfl (go_8_1 _ _) ?_
  refine E_ic dX8_take_62 rfl ?_
  refine E_aload_n dX8_take_63 rfl rfl ?_
  refine E_getr (i := o0) dX8_take_64 fl_RX8_15 rfl rfl (go_8_1 _ _) ?_
  refine E_ic dX8_take_67 rfl ?_
  refine E_bp dX8_take_68 rfl ?_
  refine E_acpi dX8_take_70 lk_RX8_67 (by decide) (Nat.le_of_ble_eq_true rfl) sh_901 sh_901 (by decide) (by decide) (by decide) (by decide) (by decide) ?_
  refine E_aload_n dX8_take_73 rfl rfl ?_
  refine E_getr (i := o1) dX8_take_74 fl_RX8_18 rfl rfl (go_8_2 _ _) ?_
  refine E_ic dX8_take_77 rfl ?_
  refine E_aload_n dX8_take_78 rfl rfl ?_
  refine E_getr (i := o0) dX8_take_79 fl_RX8_18 rfl rfl (go_8_2 _ _) ?_
  refine E_ic dX8_take_82 rfl ?_
  refine E_bp dX8_take_83 rfl ?_
  refine E_acpl dX8_take_85 lk_RX8_67 (by decide) (Nat.le_of_ble_eq_true rfl) sh_902 sh_902 (by decide) (by decide) (by decide) (by decide) (by decide) ?_
  refine E_aload_n dX8_take_88 rfl rfl ?_
  refine E_getr (i := o1) dX8_take_89 fl_RX8_22 rfl rfl (go_8_3 _ _) ?_
  refine E_ic dX8_take_92 rfl ?_
  refine E_aload_n dX8_take_93 rfl rfl ?_
  refine E_getr (i := o0) dX8_take_94 fl_RX8_22 rfl rfl (go_8_3 _ _) ?_
  refine E_ic dX8_take_97 rfl ?_
  refine E_bp dX8_take_98 rfl ?_
  refine E_acpi dX8_take_100 lk_RX8_67 (by decide) (Nat.le_of_ble_eq_true rfl) sh_903 sh_903 (by decide) (by decide) (by decide) (by decide) (by decide) ?_
  refine E_aload_n dX8_take_103 rfl rfl ?_
  refine E_getr (i := o1) dX8_take_104 fl_RX8_25 rfl rfl (go_8_4 _ _) ?_
  refine E_ic dX8_take_107 rfl ?_
  refine E_aload_n dX8_take_108 rfl rfl ?_
  refine E_getr (i := o0) dX8_take_109 fl_RX8_25 rfl rfl (go_8_4 _ _) ?_
  refine E_ic dX8_take_112 rfl ?_
  refine E_bp dX8_take_113 rfl ?_
  refine E_acpi dX8_take_115 lk_RX8_67 (by decide) (Nat.le_of_ble_eq_true rfl) sh_904 sh_904 (by decide) (by decide) (by decide) (by decide) (by decide) ?_
  refine E_aload_n dX8_take_118 rfl rfl ?_
  refine E_getr (i := o1) dX8_take_119 fl_RX8_28 rfl rfl (go_8_5 _ _) ?_
  refine E_ic dX8_take_122 rfl ?_
  refine E_aload_n dX8_take_123 rfl rfl ?_
  refine E_getr (i := o0) dX8_take_124 fl_RX8_28 rfl rfl (go_8_5 _ _) ?_
  refine E_ic dX8_take_127 rfl ?_
  refine E_bp dX8_take_128 rfl ?_
  refine E_acpi dX8_take_130 lk_RX8_67 (by decide) (Nat.le_of_ble_eq_true rfl) sh_905 sh_905 (by decide) (by decide) (by decide) (by decide) (by decide) ?_
  refine E_aload_n dX8_take_133 rfl rfl ?_
  refine E_getr (i := o1) dX8_take_134 fl_RX8_31 rfl rfl (go_8_6 _ _) ?_
  refine E_ic dX8_take_137 rfl ?_
  refine E_aload_n dX8_take_138 rfl rfl ?_
  refine E_getr (i := o0) dX8_take_139 fl_RX8_31 rfl rfl (go_8_6 _ _) ?_
  refine E_ic dX8_take_142 rfl ?_
  refine E_bp dX8_take_143 rfl ?_
  refine E_acpi dX8_take_145 lk_RX8_67 (by decide) (Nat.le_of_ble_eq_true rfl) sh_906 sh_906 (by decide) (by decide) (by decide) (by decide) (by decide) ?_
  refine E_aload_n dX8_take_148 rfl rfl ?_
  refine E_getr (i := o1) dX8_take_149 fl_RX8_34 rfl rfl (go_8_7 _ _) ?_
  refine E_ic dX8_take_152 rfl ?_
  refine E_aload_n dX8_take_153 rfl rfl ?_
  refine E_getr (i := o0) dX8_take_154 fl_RX8_34 rfl rfl (go_8_7 _ _) ?_
  refine E_ic dX8_take_157 rfl ?_
  refine E_bp dX8_take_158 rfl ?_
  refine E_acpl dX8_take_160 lk_RX8_67 (by decide) (Nat.le_of_ble_eq_true rfl) sh_907 sh_907 (by decide) (by decide) (by decide) (by decide) (by decide) ?_
  refine E_aload_n dX8_take_163 rfl rfl ?_
  refine E_getr (i := o1) dX8_take_164 fl_RX8_37 rfl rfl (go_8_8 _ _) ?_
  refine E_ic dX8_take_167 rfl ?_
  refine E_aload_n dX8_take_168 rfl rfl ?_
  refine E_getr (i := o0) dX8_take_169 fl_RX8_37 rfl rfl (go_8_8 _ _) ?_
  refine E_ic dX8_take_172 rfl ?_
  refine E_bp dX8_take_173 rfl ?_
  refine E_acpi dX8_take_175 lk_RX8_67 (by decide) (Nat.le_of_ble_eq_true rfl) sh_908 sh_908 (by decide) (by decide) (by decide) (by decide) (by decide) ?_
  exact E_vret dX8_take_178 rfl ⟨rfl, rfl, h⟩
