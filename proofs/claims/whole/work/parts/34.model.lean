def w6 : Wd := (wwN.filter (fun q => !(q.1 == 60)), fun t i j => if t = 60 then false else ww.2 t i j)
def QV6 (Q : St → Prop) : Option AV → Wd → St → Prop := fun r B σ => r = none ∧ B = w6 ∧ Q σ
set_option maxRecDepth 20000 in
set_option maxHeartbeats 2000000 in
theorem e6_P_X12_fresh0_L2   {K : St → Prop} {Q : St → Prop}  (hK : ∀ σ, K σ → E Y_X12_fresh0 0 0 0 (QV6 Q) w6 0 0 21 [some (vR 12 0), none] [] σ) : ∀ (n : Nat) (x1 : Int) (σ : St), P_X12_fresh0_L2 K Q n x1 σ → E Y_X12_fresh0 0 0 0 (QV6 Q) w6 0 0 2 [some (vR 12 0), some (vI x1)] [] σ := by
  intro n
  induction n with
  | zero => intro x1 σ h; exact h.elim
  | succ n hR =>
    intro x1 σ h
    unfold P_X12_fresh0_L2 at h
    refine E_iload_n dX12_fresh0_2 rfl rfl ?_
    refine E_bp dX12_fresh0_3 rfl ?_
    refine E_icmp_ge (tgt := 21) dX12_fresh0_5 (by decide) (fun hc => ?_) (fun hc => ?_)
    · have h := Eq.mp (if_pos hc) h
      refine E_wk2 [some (vR 12 0), none] ⟨rfl, trivial⟩ ?_
      exact hK _ h
    · have h := Eq.mp (if_neg hc) h
      refine E_aload_n dX12_fresh0_8 rfl rfl ?_
      refine E_getr (i := 0) dX12_fresh0_9 fl_RX12_111 rfl rfl (go_12_46 _ _) ?_
      refine E_iload_n dX12_fresh0_12 rfl rfl ?_
      refine E_ic dX12_fresh0_13 rfl ?_
      obtain ⟨hg0, hg1, h⟩ := h
      refine E_iast dX12_fresh0_14 sh_1346 hg0 hg1 ?_
      refine E_iinc (ls' := [some (vR 12 0), some (vI (wi (x1 + 1)))]) dX12_fresh0_15 rfl (by decide) rfl rfl ?_
      refine E_goto (tgt := 2) dX12_fresh0_18 (by decide) ?_
      exact hR _ _ h
set_option maxRecDepth 20000 in
set_option maxHeartbeats 2000000 in
theorem e6_P_X12_fresh0_L23   {K : St → Prop} {Q : St → Prop}  (hK : ∀ σ, K σ → E Y_X12_fresh0 0 0 0 (QV6 Q) w6 0 0 54 [some (vR 12 0), none] [] σ) : ∀ (n : Nat) (x1 : Int) (σ : St), P_X12_fresh0_L23 K Q n x1 σ → E Y_X12_fresh0 0 0 0 (QV6 Q) w6 0 0 23 [some (vR 12 0), some (vI x1)] [] σ := by
  intro n
  induction n with
  | zero => intro x1 σ h; exact h.elim
  | succ n hR =>
    intro x1 σ h
    unfold P_X12_fresh0_L23 at h
    refine E_iload_n dX12_fresh0_23 rfl rfl ?_
    refine E_aload_n dX12_fresh0_24 rfl rfl ?_
    refine E_getr (i := 0) dX12_fresh0_25 fl_RX12_13 rfl rfl (go_12_10 _ _) ?_
    refine E_ic dX12_fresh0_28 rfl ?_
    refine E_iald dX12_fresh0_29 sh_1310 (by decide) (by decide) ?_
    refine E_icmp_ge (tgt := 54) dX12_fresh0_30 (by decide) (fun hc => ?_) (fun hc => ?_)
    · have h := Eq.mp (if_pos hc) h
      refine E_wk2 [some (vR 12 0), none] ⟨rfl, trivial⟩ ?_
      exact hK _ h
    · have h := Eq.mp (if_neg hc) h
      refine E_aload_n dX12_fresh0_33 rfl rfl ?_
      refine E_getr (i := 0) dX12_fresh0_34 fl_RX12_111 rfl rfl (go_12_46 _ _) ?_
      refine E_bp dX12_fresh0_37 rfl ?_
      refine E_iload_n dX12_fresh0_39 rfl rfl ?_
      refine E_iadd dX12_fresh0_40 ?_
      refine E_aload_n dX12_fresh0_41 rfl rfl ?_
      refine E_getr (i := 0) dX12_fresh0_42 fl_RX12_26 rfl rfl (go_12_14 _ _) ?_
      refine E_iload_n dX12_fresh0_45 rfl rfl ?_
      obtain ⟨hg0, hg1, h⟩ := h
      refine E_iald dX12_fresh0_46 sh_1314 hg0 hg1 ?_
      obtain ⟨hg0, hg1, h⟩ := h
      refine E_iast dX12_fresh0_47 sh_1346 hg0 hg1 ?_
      refine E_iinc (ls' := [some (vR 12 0), some (vI (wi (x1 + 1)))]) dX12_fresh0_48 rfl (by decide) rfl rfl ?_
      refine E_goto (tgt := 23) dX12_fresh0_51 (by decide) ?_
      exact hR _ _ h
set_option maxRecDepth 20000 in
set_option maxHeartbeats 2000000 in
theorem e6_P_X12_fresh0_L56    {Q : St → Prop}   : ∀ (n : Nat) (x1 : Int) (σ : St), P_X12_fresh0_L56 Q n x1 σ → E Y_X12_fresh0 0 0 0 (QV6 Q) w6 0 0 56 [some (vR 12 0), some (vI x1)] [] σ := by
  intro n
  induction n with
  | zero => intro x1 σ h; exact h.elim
  | succ n hR =>
    intro x1 σ h
    unfold P_X12_fresh0_L56 at h
    refine E_iload_n dX12_fresh0_56 rfl rfl ?_
    refine E_aload_n dX12_fresh0_57 rfl rfl ?_
    refine E_getr (i := 0) dX12_fresh0_58 fl_RX12_13 rfl rfl (go_12_10 _ _) ?_
    refine E_ic dX12_fresh0_61 rfl ?_
    refine E_iald dX12_fresh0_62 sh_1310 (by decide) (by decide) ?_
    refine E_icmp_ge (tgt := 102) dX12_fresh0_63 (by decide) (fun hc => ?_) (fun hc => ?_)
    · have h := Eq.mp (if_pos hc) h
      exact E_vret dX12_fresh0_102 rfl ⟨rfl, rfl, h⟩
    · have h := Eq.mp (if_neg hc) h
      refine E_aload_n dX12_fresh0_66 rfl rfl ?_
      refine E_getr (i := 0) dX12_fresh0_67 fl_RX12_111 rfl rfl (go_12_46 _ _) ?_
      refine E_bp dX12_fresh0_70 rfl ?_
      refine E_iload_n dX12_fresh0_72 rfl rfl ?_
      refine E_iadd dX12_fresh0_73 ?_
      refine E_aload_n dX12_fresh0_74 rfl rfl ?_
      refine E_getr (i := 0) dX12_fresh0_75 fl_RX12_32 rfl rfl (go_12_16 _ _) ?_
      refine E_iload_n dX12_fresh0_78 rfl rfl ?_
      obtain ⟨hg0, hg1, h⟩ := h
      refine E_iald dX12_fresh0_79 sh_1316 hg0 hg1 ?_
      obtain ⟨hg0, hg1, h⟩ := h
      refine E_iast dX12_fresh0_80 sh_1346 hg0 hg1 ?_
      refine E_aload_n dX12_fresh0_81 rfl rfl ?_
      refine E_getr (i := 0) dX12_fresh0_82 fl_RX12_111 rfl rfl (go_12_46 _ _) ?_
      refine E_bp dX12_fresh0_85 rfl ?_
      refine E_iload_n dX12_fresh0_87 rfl rfl ?_
      refine E_iadd dX12_fresh0_88 ?_
      refine E_aload_n dX12_fresh0_89 rfl rfl ?_
      refine E_getr (i := 0) dX12_fresh0_90 fl_RX12_35 rfl rfl (go_12_17 _ _) ?_
      refine E_iload_n dX12_fresh0_93 rfl rfl ?_
      obtain ⟨hg0, hg1, h⟩ := h
      refine E_iald dX12_fresh0_94 sh_1317 hg0 hg1 ?_
      obtain ⟨hg0, hg1, h⟩ := h
      refine E_iast dX12_fresh0_95 sh_1346 hg0 hg1 ?_
      refine E_iinc (ls' := [some (vR 12 0), some (vI (wi (x1 + 1)))]) dX12_fresh0_96 rfl (by decide) rfl rfl ?_
      refine E_goto (tgt := 56) dX12_fresh0_99 (by decide) ?_
      exact hR _ _ h
set_option maxRecDepth 20000 in
set_option maxHeartbeats 2000000 in
theorem s6_X12_fresh0    {σ : St} {Q : St → Prop} (h : P_X12_fresh0  σ Q) : Cn Y_X12_fresh0 0 0 0 w6 σ [vR 12 0] (QV6 Q) := by
  refine Cn_of [some (vR 12 0), none] (by decide) (Nat.le_of_ble_eq_true rfl) rfl ?_
  unfold P_X12_fresh0 at h
  refine E_ic dX12_fresh0_0 rfl ?_
  refine E_istore_n (ls' := [some (vR 12 0), some (vI 0)]) dX12_fresh0_1 rfl (by decide) rfl ?_
  refine e6_P_X12_fresh0_L2 ?_ _ _ _ h
  · intro σ_1 h
    refine E_ic dX12_fresh0_21 rfl ?_
    refine E_istore_n (ls' := [some (vR 12 0), some (vI 0)]) dX12_fresh0_22 rfl (by decide) rfl ?_
    refine e6_P_X12_fresh0_L23 ?_ _ _ _ h
    · intro σ_2 h
      refine E_ic dX12_fresh0_54 rfl ?_
      refine E_istore_n (ls' := [some (vR 12 0), some (vI 0)]) dX12_fresh0_55 rfl (by decide) rfl ?_
      refine e6_P_X12_fresh0_L56  _ _ _ h
def wE : Wd := ([], fun _ _ _ => false)
def wB1 : Wd := wN_X11 (ad1 wE 11 0) 0
def wB2 : Wd := ad1 wB1 12 0
def wB3 : Wd := wN_X12 wB2 0
theorem BdN_X12 {B : Wd} {i : Nat} (h : BdW B) : BdW (wN_X12 B 0) := by
  have h := BdW_ad1 (t := 1302) (i := 0) h
  have h := BdW_rf1 (t := 12) (i := 0) (j := 2) h (by decide +kernel)
  have h := BdW_ad1 (t := 1310) (i := 0) h
  have h := BdW_rf1 (t := 12) (i := 0) (j := 10) h (by decide +kernel)
  have h := BdW_ad1 (t := 1311) (i := 0) h
  have h := BdW_rf1 (t := 12) (i := 0) (j := 11) h (by decide +kernel)
  have h := BdW_ad1 (t := 1312) (i := 0) h
  have h := BdW_rf1 (t := 12) (i := 0) (j := 12) h (by decide +kernel)
  have h := BdW_ad1 (t := 1313) (i := 0) h
  have h := BdW_rf1 (t := 12) (i := 0) (j := 13) h (by decide +kernel)
  have h := BdW_ad1 (t := 1314) (i := 0) h
  have h := BdW_rf1 (t := 12) (i := 0) (j := 14) h (by decide +kernel)
  have h := BdW_ad1 (t := 1315) (i := 0) h
  have h := BdW_rf1 (t := 12) (i := 0) (j := 15) h (by decide +kernel)
  have h := BdW_ad1 (t := 1316) (i := 0) h
  have h := BdW_rf1 (t := 12) (i := 0) (j := 16) h (by decide +kernel)
  have h := BdW_ad1 (t := 1317) (i := 0) h
  have h := BdW_rf1 (t := 12) (i := 0) (j := 17) h (by decide +kernel)
  have h := BdW_ad1 (t := 1318) (i := 0) h
  have h := BdW_rf1 (t := 12) (i := 0) (j := 18) h (by decide +kernel)
  have h := BdW_ad1 (t := 1319) (i := 0) h
  have h := BdW_rf1 (t := 12) (i := 0) (j := 19) h (by decide +kernel)
  have h := BdW_ad1 (t := 1320) (i := 0) h
  have h := BdW_rf1 (t := 12) (i := 0) (j := 20) h (by decide +kernel)
  have h := BdW_ad1 (t := 1321) (i := 0) h
  have h := BdW_rf1 (t := 12) (i := 0) (j := 21) h (by decide +kernel)
  have h := BdW_ad1 (t := 1324) (i := 0) h
  have h := BdW_rf1 (t := 12) (i := 0) (j := 24) h (by decide +kernel)
  have h := BdW_ad1 (t := 1325) (i := 0) h
  have h := BdW_rf1 (t := 12) (i := 0) (j := 25) h (by decide +kernel)
  have h := BdW_ad1 (t := 1326) (i := 0) h
  have h := BdW_rf1 (t := 12) (i := 0) (j := 26) h (by decide +kernel)
  have h := BdW_ad1 (t := 1327) (i := 0) h
  have h := BdW_rf1 (t := 12) (i := 0) (j := 27) h (by decide +kernel)
  have h := BdW_ad1 (t := 1328) (i := 0) h
  have h := BdW_rf1 (t := 12) (i := 0) (j := 28) h (by decide +kernel)
  have h := BdW_ad1 (t := 1329) (i := 0) h
  have h := BdW_rf1 (t := 12) (i := 0) (j := 29) h (by decide +kernel)
  have h := BdW_ad1 (t := 1330) (i := 0) h
  have h := BdW_rf1 (t := 12) (i := 0) (j := 30) h (by decide +kernel)
  have h := BdW_ad1 (t := 1331) (i := 0) h
  have h := BdW_rf1 (t := 12) (i := 0) (j := 31) h (by decide +kernel)
  have h := BdW_ad1 (t := 1332) (i := 0) h
  have h := BdW_rf1 (t := 12) (i := 0) (j := 32) h (by decide +kernel)
  have h := BdW_ad1 (t := 1333) (i := 0) h
  have h := BdW_rf1 (t := 12) (i := 0) (j := 33) h (by decide +kernel)
  have h := BdW_ad1 (t := 1334) (i := 0) h
  have h := BdW_rf1 (t := 12) (i := 0) (j := 34) h (by decide +kernel)
  have h := BdW_ad1 (t := 1335) (i := 0) h
  have h := BdW_rf1 (t := 12) (i := 0) (j := 35) h (by decide +kernel)
  have h := BdW_ad1 (t := 1338) (i := 0) h
  have h := BdW_rf1 (t := 12) (i := 0) (j := 38) h (by decide +kernel)
  have h := BdW_ad1 (t := 1339) (i := 0) h
  have h := BdW_rf1 (t := 12) (i := 0) (j := 39) h (by decide +kernel)
  have h := BdW_ad1 (t := 1340) (i := 0) h
  have h := BdW_rf1 (t := 12) (i := 0) (j := 40) h (by decide +kernel)
  have h := BdW_ad1 (t := 1341) (i := 0) h
  have h := BdW_rf1 (t := 12) (i := 0) (j := 41) h (by decide +kernel)
  have h := BdW_ad1 (t := 1342) (i := 0) h
  have h := BdW_rf1 (t := 12) (i := 0) (j := 42) h (by decide +kernel)
  have h := BdW_ad1 (t := 1343) (i := 0) h
  have h := BdW_rf1 (t := 12) (i := 0) (j := 43) h (by decide +kernel)
  have h := BdW_ad1 (t := 1344) (i := 0) h
  have h := BdW_rf1 (t := 12) (i := 0) (j := 44) h (by decide +kernel)
  have h := BdW_ad1 (t := 1345) (i := 0) h
  have h := BdW_rf1 (t := 12) (i := 0) (j := 45) h (by decide +kernel)
  have h := BdW_ad1 (t := 1346) (i := 0) h
  have h := BdW_rf1 (t := 12) (i := 0) (j := 46) h (by decide +kernel)
  have h := BdW_ad1 (t := 1347) (i := 0) h
  have h := BdW_rf1 (t := 12) (i := 0) (j := 47) h (by decide +kernel)
  have h := BdW_ad1 (t := 1348) (i := 0) h
  have h := BdW_rf1 (t := 12) (i := 0) (j := 48) h (by decide +kernel)
  have h := BdW_ad1 (t := 1349) (i := 0) h
  have h := BdW_rf1 (t := 12) (i := 0) (j := 49) h (by decide +kernel)
  have h := BdW_ad1 (t := 1350) (i := 0) h
  have h := BdW_rf1 (t := 12) (i := 0) (j := 50) h (by decide +kernel)
  have h := BdW_ad1 (t := 1351) (i := 0) h
  have h := BdW_rf1 (t := 12) (i := 0) (j := 51) h (by decide +kernel)
  have h := BdW_ad1 (t := 1353) (i := 0) h
  have h := BdW_rf1 (t := 12) (i := 0) (j := 53) h (by decide +kernel)
  have h := BdW_ad1 (t := 1355) (i := 0) h
  have h := BdW_rf1 (t := 12) (i := 0) (j := 55) h (by decide +kernel)
  have h := BdW_ad1 (t := 1357) (i := 0) h
  have h := BdW_rf1 (t := 12) (i := 0) (j := 57) h (by decide +kernel)
  exact h
theorem BdE : BdW wE := fun _ _ _ h => by cases h
theorem Bd3 : BdW wB3 := BdN_X12 (i := 0) (BdW_ad1 (BdN_X11 (i := 0) (BdW_ad1 BdE)))
theorem FrE (L : List (Nat × Nat)) : FrL wE L := fun q _ => ⟨fun h => (by cases h), fun _ => rfl⟩
theorem Fr11 : FrL (ad1 wE 11 0) (LN_X11 0) := FrL_ad1 (FrE _) (by decide +kernel)
theorem Fr12 : FrL wB2 (LN_X12 0) := FrL_ad1 (FrW_X11 (i := 0) (FrL_ad1 (FrE _) (by decide +kernel)) (by decide +kernel)) (by decide +kernel)
theorem Fr12a : Fre wB1 12 0 := (FrW_X11 (L := [(12, 0)]) (i := 0) (FrL_ad1 (FrE _) (by decide +kernel)) (by decide +kernel)).hd
theorem pm_1 : ∀ q ∈ w6.1, q ∈ wB3.1 := by decide +kernel
theorem pm_2 : ∀ q ∈ wB3.1, q ∈ w6.1 := by decide +kernel
theorem pm_3 : w6.1.Nodup := by decide +kernel
theorem pm_4 : (wB3.1.all (fun q => (List.range (bnd q.1)).all (fun j => !rfp q.1 j || wB3.2 q.1 q.2 j))) = true := by decide +kernel
theorem rfp_bnd {t j : Nat} (h : rfp t j = true) (h2 : ww.2 t 0 j = true) : j < bnd t := by
  unfold rfp at h
  unfold bnd
  by_cases ht : t < 13
  · rw [if_pos ht] at h ⊢
    rcases Nat.lt_or_ge j (nf t) with q | q
    · exact q
    · exfalso
      have hs : skk t j = 9 := by
        unfold skk
        rw [List.getD_eq_getElem?_getD, List.getElem?_eq_none ?_]
        · rfl
        · have hlen : ∀ t, t < 13 → (skL.getD t []).length = nf t := by decide +kernel
          rw [hlen t ht]
          exact q
      rw [hs] at h
      cases h
  · rw [if_neg ht]
    have h3 : (if t < 13 then true else decide (j < (shp t).2)) = true := h2
    rw [if_neg ht] at h3
    exact of_decide_eq_true h3
theorem pm_5 : ∀ q ∈ wB3.1, ∀ j, rfp q.1 j = true → w6.2 q.1 q.2 j = wB3.2 q.1 q.2 j := by
  intro q hq j hj
  have e6 : w6.2 q.1 q.2 j = ww.2 q.1 0 j := by
    refine (if_neg (fun e => ?_))
    rw [e] at hj
    cases hj
  rw [e6]
  by_cases hb : j < bnd q.1
  · have h1 := List.all_eq_true.mp (List.all_eq_true.mp pm_4 q hq) j (List.mem_range.mpr hb)
    rw [hj] at h1
    rw [show wB3.2 q.1 q.2 j = true from h1]
    unfold bnd at hb
    show (if q.1 < 13 then true else decide (j < (shp q.1).2)) = true
    split
    · rfl
    · rename_i ht
      rw [if_neg ht] at hb
      exact decide_eq_true hb
  · have h1 : wB3.2 q.1 q.2 j = false := by
      cases h : wB3.2 q.1 q.2 j
      · rfl
      · exact absurd (Bd3 _ _ _ h) hb
    rw [h1]
    cases h : ww.2 q.1 0 j
    · rfl
    · exact absurd (rfp_bnd hj h) hb
set_option maxRecDepth 20000 in
set_option maxHeartbeats 4000000 in
theorem s_X12_init {σ : St} {Q : St → Prop} (hO : ∀ j : Nat, σ 12 0 j = 0) (hZ : ZeL σ (LN_X12 0)) (h : P_X12_fresh0 (up σ 1310 0 2 2) Q) : Cn Y_X12_init 1 42 5749 wB2 σ [vR 12 0] (QV6 Q) := by
  have hF := Fr12
  refine Cn_of [some (vR 12 0)] (by decide) (Nat.le_of_ble_eq_true rfl) rfl ?_
  unfold LN_X12 at hF hZ
  skip
  refine E_aload_n dX12_init_0 rfl rfl ?_
  refine E_oini dX12_init_1 lo_RX12_1 (by decide) (Nat.le_of_ble_eq_true rfl) ?_
  refine E_aload_n dX12_init_4 rfl rfl ?_
  refine E_sp dX12_init_5 rfl ?_
  refine E_newI (t := 1302) (i := 0) (ty := .int) dX12_init_8 rfl sh_1302 rfl (by decide) (by decide) (fun _ => rfl) (by decide) (by decide) rfl aw_int hF.hd.1 hF.hd.2 hZ.hd (by decide) (by decide) ?_
  have hF := FrL_ad1 (t := 1302) (i := 0) hF.tl (by decide +kernel)
  have hZ := hZ.tl
  refine E_putr dX12_init_10 fl_RX12_7 rfl rfl rfl rfl rfl rfl ?_
  have hF := FrL_rf1 (t := 12) (i := 0) (j := 2) hF (by decide +kernel)
  refine E_aload_n dX12_init_13 rfl rfl ?_
  refine E_bp dX12_init_14 rfl ?_
  refine E_newI (t := 1310) (i := 0) (ty := .int) dX12_init_16 rfl sh_1310 rfl (by decide) (by decide) (fun _ => rfl) (by decide) (by decide) rfl aw_int hF.hd.1 hF.hd.2 hZ.hd (by decide) (by decide) ?_
  have hF := FrL_ad1 (t := 1310) (i := 0) hF.tl (by decide +kernel)
  have hZ := hZ.tl
  refine E_putr dX12_init_18 fl_RX12_13 rfl rfl rfl rfl rfl rfl ?_
  have hF := FrL_rf1 (t := 12) (i := 0) (j := 10) hF (by decide +kernel)
  refine E_aload_n dX12_init_21 rfl rfl ?_
  refine E_bp dX12_init_22 rfl ?_
  refine E_newL (t := 1311) (i := 0) dX12_init_24 sh_1311 rfl (by decide) aw_long hF.hd.1 hF.hd.2 hZ.hd (by decide) (by decide) ?_
  have hF := FrL_ad1 (t := 1311) (i := 0) hF.tl (by decide +kernel)
  have hZ := hZ.tl
  refine E_putr dX12_init_26 fl_RX12_16 rfl rfl rfl rfl rfl rfl ?_
  have hF := FrL_rf1 (t := 12) (i := 0) (j := 11) hF (by decide +kernel)
  refine E_aload_n dX12_init_29 rfl rfl ?_
  refine E_bp dX12_init_30 rfl ?_
  refine E_newL (t := 1312) (i := 0) dX12_init_32 sh_1312 rfl (by decide) aw_long hF.hd.1 hF.hd.2 hZ.hd (by decide) (by decide) ?_
  have hF := FrL_ad1 (t := 1312) (i := 0) hF.tl (by decide +kernel)
  have hZ := hZ.tl
  refine E_putr dX12_init_34 fl_RX12_20 rfl rfl rfl rfl rfl rfl ?_
  have hF := FrL_rf1 (t := 12) (i := 0) (j := 12) hF (by decide +kernel)
  refine E_aload_n dX12_init_37 rfl rfl ?_
  refine E_bp dX12_init_38 rfl ?_
  refine E_newI (t := 1313) (i := 0) (ty := .int) dX12_init_40 rfl sh_1313 rfl (by decide) (by decide) (fun _ => rfl) (by decide) (by decide) rfl aw_int hF.hd.1 hF.hd.2 hZ.hd (by decide) (by decide) ?_
  have hF := FrL_ad1 (t := 1313) (i := 0) hF.tl (by decide +kernel)
  have hZ := hZ.tl
  refine E_putr dX12_init_42 fl_RX12_23 rfl rfl rfl rfl rfl rfl ?_
  have hF := FrL_rf1 (t := 12) (i := 0) (j := 13) hF (by decide +kernel)
  refine E_aload_n dX12_init_45 rfl rfl ?_
  refine E_bp dX12_init_46 rfl ?_
  refine E_newI (t := 1314) (i := 0) (ty := .int) dX12_init_48 rfl sh_1314 rfl (by decide) (by decide) (fun _ => rfl) (by decide) (by decide) rfl aw_int hF.hd.1 hF.hd.2 hZ.hd (by decide) (by decide) ?_
  have hF := FrL_ad1 (t := 1314) (i := 0) hF.tl (by decide +kernel)
  have hZ := hZ.tl
  refine E_putr dX12_init_50 fl_RX12_26 rfl rfl rfl rfl rfl rfl ?_
  have hF := FrL_rf1 (t := 12) (i := 0) (j := 14) hF (by decide +kernel)
  refine E_aload_n dX12_init_53 rfl rfl ?_
  refine E_bp dX12_init_54 rfl ?_
  refine E_newI (t := 1315) (i := 0) (ty := .int) dX12_init_56 rfl sh_1315 rfl (by decide) (by decide) (fun _ => rfl) (by decide) (by decide) rfl aw_int hF.hd.1 hF.hd.2 hZ.hd (by decide) (by decide) ?_
  have hF := FrL_ad1 (t := 1315) (i := 0) hF.tl (by decide +kernel)
  have hZ := hZ.tl
  refine E_putr dX12_init_58 fl_RX12_29 rfl rfl rfl rfl rfl rfl ?_
  have hF := FrL_rf1 (t := 12) (i := 0) (j := 15) hF (by decide +kernel)
  refine E_aload_n dX12_init_61 rfl rfl ?_
  refine E_bp dX12_init_62 rfl ?_
  refine E_newI (t := 1316) (i := 0) (ty := .int) dX12_init_64 rfl sh_1316 rfl (by decide) (by decide) (fun _ => rfl) (by decide) (by decide) rfl aw_int hF.hd.1 hF.hd.2 hZ.hd (by decide) (by decide) ?_
  have hF := FrL_ad1 (t := 1316) (i := 0) hF.tl (by decide +kernel)
  have hZ := hZ.tl
  refine E_putr dX12_init_66 fl_RX12_32 rfl rfl rfl rfl rfl rfl ?_
  have hF := FrL_rf1 (t := 12) (i := 0) (j := 16) hF (by decide +kernel)
  refine E_aload_n dX12_init_69 rfl rfl ?_
  refine E_bp dX12_init_70 rfl ?_
  refine E_newI (t := 1317) (i := 0) (ty := .int) dX12_init_72 rfl sh_1317 rfl (by decide) (by decide) (fun _ => rfl) (by decide) (by decide) rfl aw_int hF.hd.1 hF.hd.2 hZ.hd (by decide) (by decide) ?_
  have hF := FrL_ad1 (t := 1317) (i := 0) hF.tl (by decide +kernel)
  have hZ := hZ.tl
  refine E_putr dX12_init_74 fl_RX12_35 rfl rfl rfl rfl rfl rfl ?_
  have hF := FrL_rf1 (t := 12) (i := 0) (j := 17) hF (by decide +kernel)
  refine E_aload_n dX12_init_77 rfl rfl ?_
  refine E_bp dX12_init_78 rfl ?_
  refine E_newI (t := 1318) (i := 0) (ty := .int) dX12_init_80 rfl sh_1318 rfl (by decide) (by decide) (fun _ => rfl) (by decide) (by decide) rfl aw_int hF.hd.1 hF.hd.2 hZ.hd (by decide) (by decide) ?_
  have hF := FrL_ad1 (t := 1318) (i := 0) hF.tl (by decide +kernel)
  have hZ := hZ.tl
  refine E_putr dX12_init_82 fl_RX12_38 rfl rfl rfl rfl rfl rfl ?_
  have hF := FrL_rf1 (t := 12) (i := 0) (j := 18) hF (by decide +kernel)
  refine E_aload_n dX12_init_85 rfl rfl ?_
  refine E_ic dX12_init_86 rfl ?_
  refine E_newI (t := 1319) (i := 0) (ty := .int) dX12_init_87 rfl sh_1319 rfl (by decide) (by decide) (fun _ => rfl) (by decide) (by decide) rfl aw_int hF.hd.1 hF.hd.2 hZ.hd (by decide) (by decide) ?_
  have hF := FrL_ad1 (t := 1319) (i := 0) hF.tl (by decide +kernel)
  have hZ := hZ.tl
  refine E_putr dX12_init_89 fl_RX12_41 rfl rfl rfl rfl rfl rfl ?_
  have hF := FrL_rf1 (t := 12) (i := 0) (j := 19) hF (by decide +kernel)
  refine E_aload_n dX12_init_92 rfl rfl ?_
  refine E_ic dX12_init_93 rfl ?_
  refine E_newI (t := 1320) (i := 0) (ty := .int) dX12_init_94 rfl sh_1320 rfl (by decide) (by decide) (fun _ => rfl) (by decide) (by decide) rfl aw_int hF.hd.1 hF.hd.2 hZ.hd (by decide) (by decide) ?_
  have hF := FrL_ad1 (t := 1320) (i := 0) hF.tl (by decide +kernel)
  have hZ := hZ.tl
  refine E_putr dX12_init_96 fl_RX12_44 rfl rfl rfl rfl rfl rfl ?_
  have hF := FrL_rf1 (t := 12) (i := 0) (j := 20) hF (by decide +kernel)
  refine E_aload_n dX12_init_99 rfl rfl ?_
  refine E_sp dX12_init_100 rfl ?_
  refine E_newI (t := 1321) (i := 0) (ty := .int) dX12_init_103 rfl sh_1321 rfl (by decide) (by decide) (fun _ => rfl) (by decide) (by decide) rfl aw_int hF.hd.1 hF.hd.2 hZ.hd (by decide) (by decide) ?_
  have hF := FrL_ad1 (t := 1321) (i := 0) hF.tl (by decide +kernel)
  have hZ := hZ.tl
  refine E_putr dX12_init_105 fl_RX12_47 rfl rfl rfl rfl rfl rfl ?_
  have hF := FrL_rf1 (t := 12) (i := 0) (j := 21) hF (by decide +kernel)
  refine E_aload_n dX12_init_108 rfl rfl ?_
  refine E_bp dX12_init_109 rfl ?_
  refine E_newI (t := 1324) (i := 0) (ty := .int) dX12_init_111 rfl sh_1324 rfl (by decide) (by decide) (fun _ => rfl) (by decide) (by decide) rfl aw_int hF.hd.1 hF.hd.2 hZ.hd (by decide) (by decide) ?_
  have hF := FrL_ad1 (t := 1324) (i := 0) hF.tl (by decide +kernel)
  have hZ := hZ.tl
  refine E_putr dX12_init_113 fl_RX12_50 rfl rfl rfl rfl rfl rfl ?_
  have hF := FrL_rf1 (t := 12) (i := 0) (j := 24) hF (by decide +kernel)
  refine E_aload_n dX12_init_116 rfl rfl ?_
  refine E_bp dX12_init_117 rfl ?_
  refine E_newI (t := 1325) (i := 0) (ty := .boolean) dX12_init_119 rfl sh_1325 rfl (by decide) (by decide) (fun _ => rfl) (by decide) (by decide) rfl aw_boolean hF.hd.1 hF.hd.2 hZ.hd (by decide) (by decide) ?_
  have hF := FrL_ad1 (t := 1325) (i := 0) hF.tl (by decide +kernel)
  have hZ := hZ.tl
  refine E_putr dX12_init_121 fl_RX12_53 rfl rfl rfl rfl rfl rfl ?_
  have hF := FrL_rf1 (t := 12) (i := 0) (j := 25) hF (by decide +kernel)
  refine E_aload_n dX12_init_124 rfl rfl ?_
  refine E_bp dX12_init_125 rfl ?_
  refine E_newI (t := 1326) (i := 0) (ty := .int) dX12_init_127 rfl sh_1326 rfl (by decide) (by decide) (fun _ => rfl) (by decide) (by decide) rfl aw_int hF.hd.1 hF.hd.2 hZ.hd (by decide) (by decide) ?_
  have hF := FrL_ad1 (t := 1326) (i := 0) hF.tl (by decide +kernel)
  have hZ := hZ.tl
  refine E_putr dX12_init_129 fl_RX12_57 rfl rfl rfl rfl rfl rfl ?_
  have hF := FrL_rf1 (t := 12) (i := 0) (j := 26) hF (by decide +kernel)
  refine E_aload_n dX12_init_132 rfl rfl ?_
  refine E_bp dX12_init_133 rfl ?_
  refine E_newI (t := 1327) (i := 0) (ty := .int) dX12_init_135 rfl sh_1327 rfl (by decide) (by decide) (fun _ => rfl) (by decide) (by decide) rfl aw_int hF.hd.1 hF.hd.2 hZ.hd (by decide) (by decide) ?_
  have hF := FrL_ad1 (t := 1327) (i := 0) hF.tl (by decide +kernel)
  have hZ := hZ.tl
  refine E_putr dX12_init_137 fl_RX12_60 rfl rfl rfl rfl rfl rfl ?_
  have hF := FrL_rf1 (t := 12) (i := 0) (j := 27) hF (by decide +kernel)
  refine E_aload_n dX12_init_140 rfl rfl ?_
  refine E_bp dX12_init_141 rfl ?_
  refine E_newI (t := 1328) (i := 0) (ty := .int) dX12_init_143 rfl sh_1328 rfl (by decide) (by decide) (fun _ => rfl) (by decide) (by decide) rfl aw_int hF.hd.1 hF.hd.2 hZ.hd (by decide) (by decide) ?_
  have hF := FrL_ad1 (t := 1328) (i := 0) hF.tl (by decide +kernel)
  have hZ := hZ.tl
  refine E_putr dX12_init_145 fl_RX12_63 rfl rfl rfl rfl rfl rfl ?_
  have hF := FrL_rf1 (t := 12) (i := 0) (j := 28) hF (by decide +kernel)
  refine E_aload_n dX12_init_148 rfl rfl ?_
  refine E_bp dX12_init_149 rfl ?_
  refine E_newI (t := 1329) (i := 0) (ty := .int) dX12_init_151 rfl sh_1329 rfl (by decide) (by decide) (fun _ => rfl) (by decide) (by decide) rfl aw_int hF.hd.1 hF.hd.2 hZ.hd (by decide) (by decide) ?_
  have hF := FrL_ad1 (t := 1329) (i := 0) hF.tl (by decide +kernel)
  have hZ := hZ.tl
  refine E_putr dX12_init_153 fl_RX12_66 rfl rfl rfl rfl rfl rfl ?_
  have hF := FrL_rf1 (t := 12) (i := 0) (j := 29) hF (by decide +kernel)
  refine E_aload_n dX12_init_156 rfl rfl ?_
  refine E_bp dX12_init_157 rfl ?_
  refine E_newI (t := 1330) (i := 0) (ty := .int) dX12_init_159 rfl sh_1330 rfl (by decide) (by decide) (fun _ => rfl) (by decide) (by decide) rfl aw_int hF.hd.1 hF.hd.2 hZ.hd (by decide) (by decide) ?_
  have hF := FrL_ad1 (t := 1330) (i := 0) hF.tl (by decide +kernel)
  have hZ := hZ.tl
  refine E_putr dX12_init_161 fl_RX12_69 rfl rfl rfl rfl rfl rfl ?_
  have hF := FrL_rf1 (t := 12) (i := 0) (j := 30) hF (by decide +kernel)
  refine E_aload_n dX12_init_164 rfl rfl ?_
  refine E_bp dX12_init_165 rfl ?_
  refine E_newI (t := 1331) (i := 0) (ty := .int) dX12_init_167 rfl sh_1331 rfl (by decide) (by decide) (fun _ => rfl) (by decide) (by decide) rfl aw_int hF.hd.1 hF.hd.2 hZ.hd (by decide) (by decide) ?_
  have hF := FrL_ad1 (t := 1331) (i := 0) hF.tl (by decide +kernel)
  have hZ := hZ.tl
  refine E_putr dX12_init_169 fl_RX12_72 rfl rfl rfl rfl rfl rfl ?_
  have hF := FrL_rf1 (t := 12) (i := 0) (j := 31) hF (by decide +kernel)
  refine E_aload_n dX12_init_172 rfl rfl ?_
  refine E_bp dX12_init_173 rfl ?_
  refine E_newI (t := 1332) (i := 0) (ty := .int) dX12_init_175 rfl sh_1332 rfl (by decide) (by decide) (fun _ => rfl) (by decide) (by decide) rfl aw_int hF.hd.1 hF.hd.2 hZ.hd (by decide) (by decide) ?_
  have hF := FrL_ad1 (t := 1332) (i := 0) hF.tl (by decide +kernel)
  have hZ := hZ.tl
  refine E_putr dX12_init_177 fl_RX12_75 rfl rfl rfl rfl rfl rfl ?_
  have hF := FrL_rf1 (t := 12) (i := 0) (j := 32) hF (by decide +kernel)
  refine E_aload_n dX12_init_180 rfl rfl ?_
  refine E_bp dX12_init_181 rfl ?_
  refine E_newI (t := 1333) (i := 0) (ty := .int) dX12_init_183 rfl sh_1333 rfl (by decide) (by decide) (fun _ => rfl) (by decide) (by decide) rfl aw_int hF.hd.1 hF.hd.2 hZ.hd (by decide) (by decide) ?_
  have hF := FrL_ad1 (t := 1333) (i := 0) hF.tl (by decide +kernel)
  have hZ := hZ.tl
  refine E_putr dX12_init_185 fl_RX12_78 rfl rfl rfl rfl rfl rfl ?_
  have hF := FrL_rf1 (t := 12) (i := 0) (j := 33) hF (by decide +kernel)
  refine E_aload_n dX12_init_188 rfl rfl ?_
  refine E_bp dX12_init_189 rfl ?_
  refine E_newI (t := 1334) (i := 0) (ty := .int) dX12_init_191 rfl sh_1334 rfl (by decide) (by decide) (fun _ => rfl) (by decide) (by decide) rfl aw_int hF.hd.1 hF.hd.2 hZ.hd (by decide) (by decide) ?_
  have hF := FrL_ad1 (t := 1334) (i := 0) hF.tl (by decide +kernel)
  have hZ := hZ.tl
  refine E_putr dX12_init_193 fl_RX12_81 rfl rfl rfl rfl rfl rfl ?_
  have hF := FrL_rf1 (t := 12) (i := 0) (j := 34) hF (by decide +kernel)
  refine E_aload_n dX12_init_196 rfl rfl ?_
  refine E_bp dX12_init_197 rfl ?_
  refine E_newI (t := 1335) (i := 0) (ty := .int) dX12_init_199 rfl sh_1335 rfl (by decide) (by decide) (fun _ => rfl) (by decide) (by decide) rfl aw_int hF.hd.1 hF.hd.2 hZ.hd (by decide) (by decide) ?_
  have hF := FrL_ad1 (t := 1335) (i := 0) hF.tl (by decide +kernel)
  have hZ := hZ.tl
  refine E_putr dX12_init_201 fl_RX12_84 rfl rfl rfl rfl rfl rfl ?_
  have hF := FrL_rf1 (t := 12) (i := 0) (j := 35) hF (by decide +kernel)
  refine E_aload_n dX12_init_204 rfl rfl ?_
  refine E_bp dX12_init_205 rfl ?_
  refine E_newI (t := 1338) (i := 0) (ty := .int) dX12_init_207 rfl sh_1338 rfl (by decide) (by decide) (fun _ => rfl) (by decide) (by decide) rfl aw_int hF.hd.1 hF.hd.2 hZ.hd (by decide) (by decide) ?_
  have hF := FrL_ad1 (t := 1338) (i := 0) hF.tl (by decide +kernel)
  have hZ := hZ.tl
  refine E_putr dX12_init_209 fl_RX12_87 rfl rfl rfl rfl rfl rfl ?_
  have hF := FrL_rf1 (t := 12) (i := 0) (j := 38) hF (by decide +kernel)
  refine E_aload_n dX12_init_212 rfl rfl ?_
  refine E_sp dX12_init_213 rfl ?_
  refine E_newI (t := 1339) (i := 0) (ty := .int) dX12_init_216 rfl sh_1339 rfl (by decide) (by decide) (fun _ => rfl) (by decide) (by decide) rfl aw_int hF.hd.1 hF.hd.2 hZ.hd (by decide) (by decide) ?_
  have hF := FrL_ad1 (t := 1339) (i := 0) hF.tl (by decide +kernel)
  have hZ := hZ.tl
  refine E_putr dX12_init_218 fl_RX12_90 rfl rfl rfl rfl rfl rfl ?_
  have hF := FrL_rf1 (t := 12) (i := 0) (j := 39) hF (by decide +kernel)
  refine E_aload_n dX12_init_221 rfl rfl ?_
  refine E_sp dX12_init_222 rfl ?_
  refine E_newI (t := 1340) (i := 0) (ty := .int) dX12_init_225 rfl sh_1340 rfl (by decide) (by decide) (fun _ => rfl) (by decide) (by decide) rfl aw_int hF.hd.1 hF.hd.2 hZ.hd (by decide) (by decide) ?_
  have hF := FrL_ad1 (t := 1340) (i := 0) hF.tl (by decide +kernel)
  have hZ := hZ.tl
  refine E_putr dX12_init_227 fl_RX12_93 rfl rfl rfl rfl rfl rfl ?_
  have hF := FrL_rf1 (t := 12) (i := 0) (j := 40) hF (by decide +kernel)
  refine E_aload_n dX12_init_230 rfl rfl ?_
  refine E_sp dX12_init_231 rfl ?_
  refine E_newI (t := 1341) (i := 0) (ty := .int) dX12_init_234 rfl sh_1341 rfl (by decide) (by decide) (fun _ => rfl) (by decide) (by decide) rfl aw_int hF.hd.1 hF.hd.2 hZ.hd (by decide) (by decide) ?_
  have hF := FrL_ad1 (t := 1341) (i := 0) hF.tl (by decide +kernel)
  have hZ := hZ.tl
  refine E_putr dX12_init_236 fl_RX12_96 rfl rfl rfl rfl rfl rfl ?_
  have hF := FrL_rf1 (t := 12) (i := 0) (j := 41) hF (by decide +kernel)
  refine E_aload_n dX12_init_239 rfl rfl ?_
  refine E_ic dX12_init_240 rfl ?_
  refine E_newI (t := 1342) (i := 0) (ty := .int) dX12_init_241 rfl sh_1342 rfl (by decide) (by decide) (fun _ => rfl) (by decide) (by decide) rfl aw_int hF.hd.1 hF.hd.2 hZ.hd (by decide) (by decide) ?_
  have hF := FrL_ad1 (t := 1342) (i := 0) hF.tl (by decide +kernel)
  have hZ := hZ.tl
  refine E_putr dX12_init_243 fl_RX12_99 rfl rfl rfl rfl rfl rfl ?_
  have hF := FrL_rf1 (t := 12) (i := 0) (j := 42) hF (by decide +kernel)
  refine E_aload_n dX12_init_246 rfl rfl ?_
  refine E_bp dX12_init_247 rfl ?_
  refine E_newI (t := 1343) (i := 0) (ty := .int) dX12_init_249 rfl sh_1343 rfl (by decide) (by decide) (fun _ => rfl) (by decide) (by decide) rfl aw_int hF.hd.1 hF.hd.2 hZ.hd (by decide) (by decide) ?_
  have hF := FrL_ad1 (t := 1343) (i := 0) hF.tl (by decide +kernel)
  have hZ := hZ.tl
  refine E_putr dX12_init_251 fl_RX12_102 rfl rfl rfl rfl rfl rfl ?_
  have hF := FrL_rf1 (t := 12) (i := 0) (j := 43) hF (by decide +kernel)
  refine E_aload_n dX12_init_254 rfl rfl ?_
  refine E_bp dX12_init_255 rfl ?_
  refine E_newI (t := 1344) (i := 0) (ty := .int) dX12_init_257 rfl sh_1344 rfl (by decide) (by decide) (fun _ => rfl) (by decide) (by decide) rfl aw_int hF.hd.1 hF.hd.2 hZ.hd (by decide) (by decide) ?_
  have hF := FrL_ad1 (t := 1344) (i := 0) hF.tl (by decide +kernel)
  have hZ := hZ.tl
  refine E_putr dX12_init_259 fl_RX12_105 rfl rfl rfl rfl rfl rfl ?_
  have hF := FrL_rf1 (t := 12) (i := 0) (j := 44) hF (by decide +kernel)
  refine E_aload_n dX12_init_262 rfl rfl ?_
  refine E_bp dX12_init_263 rfl ?_
  refine E_newI (t := 1345) (i := 0) (ty := .boolean) dX12_init_265 rfl sh_1345 rfl (by decide) (by decide) (fun _ => rfl) (by decide) (by decide) rfl aw_boolean hF.hd.1 hF.hd.2 hZ.hd (by decide) (by decide) ?_
  have hF := FrL_ad1 (t := 1345) (i := 0) hF.tl (by decide +kernel)
  have hZ := hZ.tl
  refine E_putr dX12_init_267 fl_RX12_108 rfl rfl rfl rfl rfl rfl ?_
  have hF := FrL_rf1 (t := 12) (i := 0) (j := 45) hF (by decide +kernel)
  refine E_aload_n dX12_init_270 rfl rfl ?_
  refine E_bp dX12_init_271 rfl ?_
  refine E_newI (t := 1346) (i := 0) (ty := .int) dX12_init_273 rfl sh_1346 rfl (by decide) (by decide) (fun _ => rfl) (by decide) (by decide) rfl aw_int hF.hd.1 hF.hd.2 hZ.hd (by decide) (by decide) ?_
  have hF := FrL_ad1 (t := 1346) (i := 0) hF.tl (by decide +kernel)
  have hZ := hZ.tl
  refine E_putr dX12_init_275 fl_RX12_111 rfl rfl rfl rfl rfl rfl ?_
  have hF := FrL_rf1 (t := 12) (i := 0) (j := 46) hF (by decide +kernel)
  refine E_aload_n dX12_init_278 rfl rfl ?_
  refine E_bp dX12_init_279 rfl ?_
  refine E_newI (t := 1347) (i := 0) (ty := .int) dX12_init_281 rfl sh_1347 rfl (by decide) (by decide) (fun _ => rfl) (by decide) (by decide) rfl aw_int hF.hd.1 hF.hd.2 hZ.hd (by decide) (by decide) ?_
  have hF := FrL_ad1 (t := 1347) (i := 0) hF.tl (by decide +kernel)
  have hZ := hZ.tl
  refine E_putr dX12_init_283 fl_RX12_114 rfl rfl rfl rfl rfl rfl ?_
  have hF := FrL_rf1 (t := 12) (i := 0) (j := 47) hF (by decide +kernel)
  refine E_aload_n dX12_init_286 rfl rfl ?_
  refine E_bp dX12_init_287 rfl ?_
  refine E_newI (t := 1348) (i := 0) (ty := .int) dX12_init_289 rfl sh_1348 rfl (by decide) (by decide) (fun _ => rfl) (by decide) (by decide) rfl aw_int hF.hd.1 hF.hd.2 hZ.hd (by decide) (by decide) ?_
  have hF := FrL_ad1 (t := 1348) (i := 0) hF.tl (by decide +kernel)
  have hZ := hZ.tl
  refine E_putr dX12_init_291 fl_RX12_117 rfl rfl rfl rfl rfl rfl ?_
  have hF := FrL_rf1 (t := 12) (i := 0) (j := 48) hF (by decide +kernel)
  refine E_aload_n dX12_init_294 rfl rfl ?_
  refine E_sp dX12_init_295 rfl ?_
  refine E_newI (t := 1349) (i := 0) (ty := .int) dX12_init_298 rfl sh_1349 rfl (by decide) (by decide) (fun _ => rfl) (by decide) (by decide) rfl aw_int hF.hd.1 hF.hd.2 hZ.hd (by decide) (by decide) ?_
  have hF := FrL_ad1 (t := 1349) (i := 0) hF.tl (by decide +kernel)
  have hZ := hZ.tl
  refine E_putr dX12_init_300 fl_RX12_120 rfl rfl rfl rfl rfl rfl ?_
  have hF := FrL_rf1 (t := 12) (i := 0) (j := 49) hF (by decide +kernel)
  refine E_aload_n dX12_init_303 rfl rfl ?_
  refine E_sp dX12_init_304 rfl ?_
  refine E_newI (t := 1350) (i := 0) (ty := .int) dX12_init_307 rfl sh_1350 rfl (by decide) (by decide) (fun _ => rfl) (by decide) (by decide) rfl aw_int hF.hd.1 hF.hd.2 hZ.hd (by decide) (by decide) ?_
  have hF := FrL_ad1 (t := 1350) (i := 0) hF.tl (by decide +kernel)
  have hZ := hZ.tl
  refine E_putr dX12_init_309 fl_RX12_123 rfl rfl rfl rfl rfl rfl ?_
  have hF := FrL_rf1 (t := 12) (i := 0) (j := 50) hF (by decide +kernel)
  refine E_aload_n dX12_init_312 rfl rfl ?_
  refine E_ic dX12_init_313 rfl ?_
  refine E_newI (t := 1351) (i := 0) (ty := .boolean) dX12_init_314 rfl sh_1351 rfl (by decide) (by decide) (fun _ => rfl) (by decide) (by decide) rfl aw_boolean hF.hd.1 hF.hd.2 hZ.hd (by decide) (by decide) ?_
  have hF := FrL_ad1 (t := 1351) (i := 0) hF.tl (by decide +kernel)
  have hZ := hZ.tl
  refine E_putr dX12_init_316 fl_RX12_126 rfl rfl rfl rfl rfl rfl ?_
  have hF := FrL_rf1 (t := 12) (i := 0) (j := 51) hF (by decide +kernel)
  refine E_aload_n dX12_init_319 rfl rfl ?_
  refine E_bp dX12_init_320 rfl ?_
  refine E_newI (t := 1353) (i := 0) (ty := .int) dX12_init_322 rfl sh_1353 rfl (by decide) (by decide) (fun _ => rfl) (by decide) (by decide) rfl aw_int hF.hd.1 hF.hd.2 hZ.hd (by decide) (by decide) ?_
  have hF := FrL_ad1 (t := 1353) (i := 0) hF.tl (by decide +kernel)
  have hZ := hZ.tl
  refine E_putr dX12_init_324 fl_RX12_129 rfl rfl rfl rfl rfl rfl ?_
  have hF := FrL_rf1 (t := 12) (i := 0) (j := 53) hF (by decide +kernel)
  refine E_aload_n dX12_init_327 rfl rfl ?_
  refine E_sp dX12_init_328 rfl ?_
  refine E_newI (t := 1355) (i := 0) (ty := .int) dX12_init_331 rfl sh_1355 rfl (by decide) (by decide) (fun _ => rfl) (by decide) (by decide) rfl aw_int hF.hd.1 hF.hd.2 hZ.hd (by decide) (by decide) ?_
  have hF := FrL_ad1 (t := 1355) (i := 0) hF.tl (by decide +kernel)
  have hZ := hZ.tl
  refine E_putr dX12_init_333 fl_RX12_132 rfl rfl rfl rfl rfl rfl ?_
  have hF := FrL_rf1 (t := 12) (i := 0) (j := 55) hF (by decide +kernel)
  refine E_aload_n dX12_init_336 rfl rfl ?_
  refine E_sp dX12_init_337 rfl ?_
  refine E_newI (t := 1357) (i := 0) (ty := .int) dX12_init_340 rfl sh_1357 rfl (by decide) (by decide) (fun _ => rfl) (by decide) (by decide) rfl aw_int hF.hd.1 hF.hd.2 hZ.hd (by decide) (by decide) ?_
  have hF := FrL_ad1 (t := 1357) (i := 0) hF.tl (by decide +kernel)
  have hZ := hZ.tl
  refine E_putr dX12_init_342 fl_RX12_135 rfl rfl rfl rfl rfl rfl ?_
  have hF := FrL_rf1 (t := 12) (i := 0) (j := 57) hF (by decide +kernel)
  refine E_aload_n dX12_init_345 rfl rfl ?_
  refine E_getr (i := 0) (t' := 1310) (i' := 0) dX12_init_346 fl_RX12_13 rfl rfl rfl ?_
  refine E_ic dX12_init_349 rfl ?_
  refine E_ic dX12_init_350 rfl ?_
  refine E_iast dX12_init_351 sh_1310 (by decide) (by decide) ?_
  refine E_aload_n dX12_init_352 rfl rfl ?_
  refine E_perm (B' := w6) pm_1 pm_2 pm_3 pm_5 ?_
  refine E_callV (Y' := Y_X12_fresh0) (as := []) (st := []) dX12_init_353 lk_RX12_138 m_X12_fresh0 (by decide) (by decide) (by decide) rfl rfl (Nat.le_of_ble_eq_true rfl) (s6_X12_fresh0 h) (fun r0 B0 σ1 h => ?_)
  obtain ⟨rfl, rfl, h⟩ := h
  exact E_vret dX12_init_356 rfl ⟨rfl, rfl, h⟩
