theorem lo_RX2_3 : Cond.methodLink RX2 3 Lib.objectInit ∈ tG := inG (i := 175) (by decide +kernel) (by decide +kernel)
theorem aw_int : Cond.arrayClass .int ∈ tG := inG (i := 162) (by decide +kernel) (by decide +kernel)
theorem lo_RX3_3 : Cond.methodLink RX3 3 Lib.objectInit ∈ tG := inG (i := 265) (by decide +kernel) (by decide +kernel)
theorem lo_RX7_3 : Cond.methodLink RX7 3 Lib.objectInit ∈ tG := inG (i := 381) (by decide +kernel) (by decide +kernel)
theorem aw_boolean : Cond.arrayClass .boolean ∈ tG := inG (i := 396) (by decide +kernel) (by decide +kernel)
theorem lo_RX9_3 : Cond.methodLink RX9 3 Lib.objectInit ∈ tG := inG (i := 302) (by decide +kernel) (by decide +kernel)
theorem lo_RX10_3 : Cond.methodLink RX10 3 Lib.objectInit ∈ tG := inG (i := 136) (by decide +kernel) (by decide +kernel)
theorem aw_char : Cond.arrayClass .char ∈ tG := inG (i := 161) (by decide +kernel) (by decide +kernel)
theorem aw_long : Cond.arrayClass .long ∈ tG := inG (i := 163) (by decide +kernel) (by decide +kernel)
theorem lo_RX8_3 : Cond.methodLink RX8 3 Lib.objectInit ∈ tG := inG (i := 169) (by decide +kernel) (by decide +kernel)
theorem ck_RX8_40 : Cond.classLink RX8 40 "CashBalls$Law" ∈ tG := inG (i := 170) (by decide +kernel) (by decide +kernel)
theorem iw_X2 : Cond.instantiable (Rt 2) (nf 2) ∈ tG := inG (i := 171) (by decide +kernel) (by decide +kernel)
theorem nw_X2 : Cond.initialized (Rt 2) ∈ tG := inG (i := 101) (by decide +kernel) (by decide +kernel)
theorem lk_RX8_42 : Cond.methodLink RX8 42 yX2_init ∈ tG := inG (i := 172) (by decide +kernel) (by decide +kernel)
theorem lo_RX6_3 : Cond.methodLink RX6 3 Lib.objectInit ∈ tG := inG (i := 286) (by decide +kernel) (by decide +kernel)
theorem lo_RX0_3 : Cond.methodLink RX0 3 Lib.objectInit ∈ tG := inG (i := 404) (by decide +kernel) (by decide +kernel)
theorem ck_RX0_9 : Cond.classLink RX0 9 "[[I" ∈ tG := inG (i := 405) (by decide +kernel) (by decide +kernel)
theorem lo_RX1_3 : Cond.methodLink RX1 3 Lib.objectInit ∈ tG := inG (i := 424) (by decide +kernel) (by decide +kernel)
theorem ck_RX1_18 : Cond.classLink RX1 18 "[[I" ∈ tG := inG (i := 425) (by decide +kernel) (by decide +kernel)
theorem lo_RX4_1 : Cond.methodLink RX4 1 Lib.objectInit ∈ tG := inG (i := 453) (by decide +kernel) (by decide +kernel)
theorem ck_RX4_7 : Cond.classLink RX4 7 "CashBalls$Lines" ∈ tG := inG (i := 454) (by decide +kernel) (by decide +kernel)
theorem iw_X3 : Cond.instantiable (Rt 3) (nf 3) ∈ tG := inG (i := 261) (by decide +kernel) (by decide +kernel)
theorem nw_X3 : Cond.initialized (Rt 3) ∈ tG := inG (i := 102) (by decide +kernel) (by decide +kernel)
theorem lk_RX4_9 : Cond.methodLink RX4 9 yX3_init ∈ tG := inG (i := 455) (by decide +kernel) (by decide +kernel)
theorem ck_RX4_16 : Cond.classLink RX4 16 "CashBalls$Seen" ∈ tG := inG (i := 456) (by decide +kernel) (by decide +kernel)
theorem iw_X7 : Cond.instantiable (Rt 7) (nf 7) ∈ tG := inG (i := 377) (by decide +kernel) (by decide +kernel)
theorem nw_X7 : Cond.initialized (Rt 7) ∈ tG := inG (i := 106) (by decide +kernel) (by decide +kernel)
theorem lk_RX4_18 : Cond.methodLink RX4 18 yX7_init ∈ tG := inG (i := 457) (by decide +kernel) (by decide +kernel)
theorem ck_RX4_27 : Cond.classLink RX4 27 "CashBalls$State" ∈ tG := inG (i := 458) (by decide +kernel) (by decide +kernel)
theorem iw_X9 : Cond.instantiable (Rt 9) (nf 9) ∈ tG := inG (i := 298) (by decide +kernel) (by decide +kernel)
theorem nw_X9 : Cond.initialized (Rt 9) ∈ tG := inG (i := 104) (by decide +kernel) (by decide +kernel)
theorem lk_RX4_29 : Cond.methodLink RX4 29 yX9_init ∈ tG := inG (i := 459) (by decide +kernel) (by decide +kernel)
theorem lo_RX5_3 : Cond.methodLink RX5 3 Lib.objectInit ∈ tG := inG (i := 364) (by decide +kernel) (by decide +kernel)
theorem ck_RX5_9 : Cond.classLink RX5 9 "CashBalls$State" ∈ tG := inG (i := 365) (by decide +kernel) (by decide +kernel)
theorem lk_RX5_21 : Cond.methodLink RX5 21 yX9_init ∈ tG := inG (i := 367) (by decide +kernel) (by decide +kernel)
theorem lo_RX11_1 : Cond.methodLink RX11 1 Lib.objectInit ∈ tG := inG (i := 128) (by decide +kernel) (by decide +kernel)
theorem ck_RX11_7 : Cond.classLink RX11 7 "CashBalls$Tape" ∈ tG := inG (i := 131) (by decide +kernel) (by decide +kernel)
theorem iw_X10 : Cond.instantiable (Rt 10) (nf 10) ∈ tG := inG (i := 132) (by decide +kernel) (by decide +kernel)
theorem nw_X10 : Cond.initialized (Rt 10) ∈ tG := inG (i := 99) (by decide +kernel) (by decide +kernel)
theorem lk_RX11_9 : Cond.methodLink RX11 9 yX10_init ∈ tG := inG (i := 133) (by decide +kernel) (by decide +kernel)
theorem ck_RX11_16 : Cond.classLink RX11 16 "CashBalls$Shop" ∈ tG := inG (i := 164) (by decide +kernel) (by decide +kernel)
theorem iw_X8 : Cond.instantiable (Rt 8) (nf 8) ∈ tG := inG (i := 165) (by decide +kernel) (by decide +kernel)
theorem nw_X8 : Cond.initialized (Rt 8) ∈ tG := inG (i := 100) (by decide +kernel) (by decide +kernel)
theorem lk_RX11_18 : Cond.methodLink RX11 18 yX8_init ∈ tG := inG (i := 166) (by decide +kernel) (by decide +kernel)
theorem ck_RX11_26 : Cond.classLink RX11 26 "CashBalls$Lines" ∈ tG := inG (i := 260) (by decide +kernel) (by decide +kernel)
theorem lk_RX11_28 : Cond.methodLink RX11 28 yX3_init ∈ tG := inG (i := 262) (by decide +kernel) (by decide +kernel)
theorem ck_RX11_36 : Cond.classLink RX11 36 "CashBalls$Reade\x72" ∈ tG := inG (i := 281) (by decide +kernel) (by decide +kernel)
theorem iw_X6 : Cond.instantiable (Rt 6) (nf 6) ∈ tG := inG (i := 282) (by decide +kernel) (by decide +kernel)
theorem nw_X6 : Cond.initialized (Rt 6) ∈ tG := inG (i := 103) (by decide +kernel) (by decide +kernel)
theorem lk_RX11_38 : Cond.methodLink RX11 38 yX6_init ∈ tG := inG (i := 283) (by decide +kernel) (by decide +kernel)
theorem ck_RX11_45 : Cond.classLink RX11 45 "CashBalls$State" ∈ tG := inG (i := 297) (by decide +kernel) (by decide +kernel)
theorem lk_RX11_47 : Cond.methodLink RX11 47 yX9_init ∈ tG := inG (i := 299) (by decide +kernel) (by decide +kernel)
theorem ck_RX11_57 : Cond.classLink RX11 57 "CashBalls$Past" ∈ tG := inG (i := 359) (by decide +kernel) (by decide +kernel)
theorem iw_X5 : Cond.instantiable (Rt 5) (nf 5) ∈ tG := inG (i := 360) (by decide +kernel) (by decide +kernel)
theorem nw_X5 : Cond.initialized (Rt 5) ∈ tG := inG (i := 105) (by decide +kernel) (by decide +kernel)
theorem lk_RX11_59 : Cond.methodLink RX11 59 yX5_init ∈ tG := inG (i := 361) (by decide +kernel) (by decide +kernel)
theorem ck_RX11_64 : Cond.classLink RX11 64 "CashBalls$Seen" ∈ tG := inG (i := 376) (by decide +kernel) (by decide +kernel)
theorem lk_RX11_66 : Cond.methodLink RX11 66 yX7_init ∈ tG := inG (i := 378) (by decide +kernel) (by decide +kernel)
theorem ck_RX11_71 : Cond.classLink RX11 71 "CashBalls$Mark" ∈ tG := inG (i := 397) (by decide +kernel) (by decide +kernel)
theorem ck_RX11_77 : Cond.classLink RX11 77 "CashBalls$Foresight" ∈ tG := inG (i := 399) (by decide +kernel) (by decide +kernel)
theorem iw_X0 : Cond.instantiable (Rt 0) (nf 0) ∈ tG := inG (i := 400) (by decide +kernel) (by decide +kernel)
theorem nw_X0 : Cond.initialized (Rt 0) ∈ tG := inG (i := 107) (by decide +kernel) (by decide +kernel)
theorem lk_RX11_79 : Cond.methodLink RX11 79 yX0_init ∈ tG := inG (i := 401) (by decide +kernel) (by decide +kernel)
theorem ck_RX11_86 : Cond.classLink RX11 86 "CashBalls$Gaps" ∈ tG := inG (i := 419) (by decide +kernel) (by decide +kernel)
theorem iw_X1 : Cond.instantiable (Rt 1) (nf 1) ∈ tG := inG (i := 420) (by decide +kernel) (by decide +kernel)
theorem nw_X1 : Cond.initialized (Rt 1) ∈ tG := inG (i := 108) (by decide +kernel) (by decide +kernel)
theorem lk_RX11_88 : Cond.methodLink RX11 88 yX1_init ∈ tG := inG (i := 421) (by decide +kernel) (by decide +kernel)
theorem iw_X4 : Cond.instantiable (Rt 4) (nf 4) ∈ tG := inG (i := 449) (by decide +kernel) (by decide +kernel)
theorem nw_X4 : Cond.initialized (Rt 4) ∈ tG := inG (i := 109) (by decide +kernel) (by decide +kernel)
theorem lk_RX11_93 : Cond.methodLink RX11 93 yX4_init ∈ tG := inG (i := 450) (by decide +kernel) (by decide +kernel)
theorem lo_RX12_1 : Cond.methodLink RX12 1 Lib.objectInit ∈ tG := inG (i := 1395) (by decide +kernel) (by decide +kernel)
theorem sh_1347 : shp 1347 = (0, 46) := rfl
theorem sh_1348 : shp 1348 = (0, 46) := rfl
theorem sh_1349 : shp 1349 = (0, 184) := rfl
abbrev Y_X2_init : My := (yX2_init, cX2_init, 1, none)
theorem dX2_init_0 : decode cX2_init 0 = .ok (.aload_n 0, 1) := by decide +kernel
theorem dX2_init_1 : decode cX2_init 1 = .ok (.invokespecial 3, 3) := by decide +kernel
theorem dX2_init_4 : decode cX2_init 4 = .ok (.aload_n 0, 1) := by decide +kernel
theorem dX2_init_5 : decode cX2_init 5 = .ok (.sipush 1000, 3) := by decide +kernel
theorem dX2_init_8 : decode cX2_init 8 = .ok (.newarray .int, 2) := by decide +kernel
theorem dX2_init_10 : decode cX2_init 10 = .ok (.putfield 9, 3) := by decide +kernel
theorem dX2_init_13 : decode cX2_init 13 = .ok (.aload_n 0, 1) := by decide +kernel
theorem dX2_init_14 : decode cX2_init 14 = .ok (.sipush 1000, 3) := by decide +kernel
theorem dX2_init_17 : decode cX2_init 17 = .ok (.newarray .int, 2) := by decide +kernel
theorem dX2_init_19 : decode cX2_init 19 = .ok (.putfield 15, 3) := by decide +kernel
theorem dX2_init_22 : decode cX2_init 22 = .ok (.aload_n 0, 1) := by decide +kernel
theorem dX2_init_23 : decode cX2_init 23 = .ok (.bipush 64, 2) := by decide +kernel
theorem dX2_init_25 : decode cX2_init 25 = .ok (.newarray .int, 2) := by decide +kernel
theorem dX2_init_27 : decode cX2_init 27 = .ok (.putfield 18, 3) := by decide +kernel
theorem dX2_init_30 : decode cX2_init 30 = .ok (.aload_n 0, 1) := by decide +kernel
theorem dX2_init_31 : decode cX2_init 31 = .ok (.iconst 0, 1) := by decide +kernel
theorem dX2_init_32 : decode cX2_init 32 = .ok (.putfield 21, 3) := by decide +kernel
theorem dX2_init_35 : decode cX2_init 35 = .ok (.return_, 1) := by decide +kernel
theorem mi_X2_init : MW Y_X2_init 0 := ⟨inG (i := 174) (by decide +kernel) (by decide +kernel), inG (i := 101) (by decide +kernel) (by decide +kernel), by decide, by decide, by decide, by decide +kernel⟩
theorem ii_X2_init : Cond.instanceMethod yX2_init ∈ tG := inG (i := 173) (by decide +kernel) (by decide +kernel)
def LN_X2 (i : Nat) : List (Nat × Nat) := (300, i) :: ((301, i) :: ((302, i) :: []))
def wN_X2 (B : Wd) (i : Nat) : Wd := (rf1 (ad1 (rf1 (ad1 (rf1 (ad1 B 300 i) 2 i 0) 301 i) 2 i 1) 302 i) 2 i 2)
def CW_X2 (L : List (Nat × Nat)) (i : Nat) : Bool := (nn L 300 i) && (nn L 2 i) && (nn L 301 i) && (nn L 302 i)
theorem FrW_X2 {B : Wd} {L : List (Nat × Nat)} {i : Nat} (hF : FrL B L) (h : CW_X2 L i = true) : FrL (wN_X2 B i) L := by
  unfold CW_X2 at h
  simp only [Bool.and_eq_true] at h
  obtain ⟨⟨⟨c0, c1⟩, c2⟩, c3⟩ := h
  have hF := FrL_ad1 (t := 300) (i := i) hF c0
  have hF := FrL_rf1 (t := 2) (i := i) (j := 0) hF c1
  have hF := FrL_ad1 (t := 301) (i := i) hF c2
  have hF := FrL_rf1 (t := 2) (i := i) (j := 1) hF c1
  have hF := FrL_ad1 (t := 302) (i := i) hF c3
  have hF := FrL_rf1 (t := 2) (i := i) (j := 2) hF c1
  exact hF
theorem BdN_X2 {B : Wd} {i : Nat} (h : BdW B) : BdW (wN_X2 B i) := by
  have h := BdW_ad1 (t := 300) (i := i) h
  have h := BdW_rf1 (t := 2) (i := i) (j := 0) h (by decide +kernel)
  have h := BdW_ad1 (t := 301) (i := i) h
  have h := BdW_rf1 (t := 2) (i := i) (j := 1) h (by decide +kernel)
  have h := BdW_ad1 (t := 302) (i := i) h
  have h := BdW_rf1 (t := 2) (i := i) (j := 2) h (by decide +kernel)
  exact h
set_option maxRecDepth 20000 in
set_option maxHeartbeats 4000000 in
theorem s_X2_init {B : Wd} {i : Nat} {σ : St} (hF : FrL B (LN_X2 i)) (hO : ∀ j : Nat, σ 2 i j = 0) (hZ : ZeL σ (LN_X2 i)) : Cn Y_X2_init 1 3 2064 B σ [vR 2 i] (fun r B' σ' => r = none ∧ B' = wN_X2 B i ∧ σ' = σ) := by
  refine Cn_of [some (vR 2 i)] (by decide) (Nat.le_of_ble_eq_true rfl) rfl ?_
  unfold LN_X2 at hF hZ
  skip
  refine E_aload_n dX2_init_0 rfl rfl ?_
  refine E_oini dX2_init_1 lo_RX2_3 (by decide) (Nat.le_of_ble_eq_true rfl) ?_
  refine E_aload_n dX2_init_4 rfl rfl ?_
  refine E_sp dX2_init_5 rfl ?_
  refine E_newI (t := 300) (i := i) (ty := .int) dX2_init_8 rfl sh_300 rfl (by decide) (by decide) (fun _ => rfl) (by decide) (by decide) rfl aw_int hF.hd.1 hF.hd.2 hZ.hd (by decide) (by decide) ?_
  have hF := FrL_ad1 (t := 300) (i := i) hF.tl rfl
  have hZ := hZ.tl
  refine E_putr dX2_init_10 fl_RX2_9 rfl rfl rfl rfl rfl rfl ?_
  have hF := FrL_rf1 (t := 2) (i := i) (j := 0) hF rfl
  refine E_aload_n dX2_init_13 rfl rfl ?_
  refine E_sp dX2_init_14 rfl ?_
  refine E_newI (t := 301) (i := i) (ty := .int) dX2_init_17 rfl sh_301 rfl (by decide) (by decide) (fun _ => rfl) (by decide) (by decide) rfl aw_int hF.hd.1 hF.hd.2 hZ.hd (by decide) (by decide) ?_
  have hF := FrL_ad1 (t := 301) (i := i) hF.tl rfl
  have hZ := hZ.tl
  refine E_putr dX2_init_19 fl_RX2_15 rfl rfl rfl rfl rfl rfl ?_
  have hF := FrL_rf1 (t := 2) (i := i) (j := 1) hF rfl
  refine E_aload_n dX2_init_22 rfl rfl ?_
  refine E_bp dX2_init_23 rfl ?_
  refine E_newI (t := 302) (i := i) (ty := .int) dX2_init_25 rfl sh_302 rfl (by decide) (by decide) (fun _ => rfl) (by decide) (by decide) rfl aw_int hF.hd.1 hF.hd.2 hZ.hd (by decide) (by decide) ?_
  have hF := FrL_ad1 (t := 302) (i := i) hF.tl rfl
  have hZ := hZ.tl
  refine E_putr dX2_init_27 fl_RX2_18 rfl rfl rfl rfl rfl rfl ?_
  have hF := FrL_rf1 (t := 2) (i := i) (j := 2) hF rfl
  refine E_aload_n dX2_init_30 rfl rfl ?_
  refine E_ic dX2_init_31 rfl ?_
  refine E_puti0 dX2_init_32 fl_RX2_21 rfl rfl rfl (hO 3) ?_
  exact E_vret dX2_init_35 rfl ⟨rfl, rfl, rfl⟩
abbrev Y_X3_init : My := (yX3_init, cX3_init, 1, none)
theorem dX3_init_0 : decode cX3_init 0 = .ok (.aload_n 0, 1) := by decide +kernel
theorem dX3_init_1 : decode cX3_init 1 = .ok (.invokespecial 3, 3) := by decide +kernel
theorem dX3_init_4 : decode cX3_init 4 = .ok (.aload_n 0, 1) := by decide +kernel
theorem dX3_init_5 : decode cX3_init 5 = .ok (.bipush 40, 2) := by decide +kernel
theorem dX3_init_7 : decode cX3_init 7 = .ok (.newarray .int, 2) := by decide +kernel
theorem dX3_init_9 : decode cX3_init 9 = .ok (.putfield 9, 3) := by decide +kernel
theorem dX3_init_12 : decode cX3_init 12 = .ok (.aload_n 0, 1) := by decide +kernel
theorem dX3_init_13 : decode cX3_init 13 = .ok (.bipush 40, 2) := by decide +kernel
theorem dX3_init_15 : decode cX3_init 15 = .ok (.newarray .int, 2) := by decide +kernel
theorem dX3_init_17 : decode cX3_init 17 = .ok (.putfield 15, 3) := by decide +kernel
theorem dX3_init_20 : decode cX3_init 20 = .ok (.aload_n 0, 1) := by decide +kernel
theorem dX3_init_21 : decode cX3_init 21 = .ok (.bipush 40, 2) := by decide +kernel
theorem dX3_init_23 : decode cX3_init 23 = .ok (.newarray .int, 2) := by decide +kernel
theorem dX3_init_25 : decode cX3_init 25 = .ok (.putfield 18, 3) := by decide +kernel
theorem dX3_init_28 : decode cX3_init 28 = .ok (.aload_n 0, 1) := by decide +kernel
theorem dX3_init_29 : decode cX3_init 29 = .ok (.iconst 0, 1) := by decide +kernel
theorem dX3_init_30 : decode cX3_init 30 = .ok (.putfield 21, 3) := by decide +kernel
theorem dX3_init_33 : decode cX3_init 33 = .ok (.return_, 1) := by decide +kernel
theorem mi_X3_init : MW Y_X3_init 0 := ⟨inG (i := 264) (by decide +kernel) (by decide +kernel), inG (i := 102) (by decide +kernel) (by decide +kernel), by decide, by decide, by decide, by decide +kernel⟩
theorem ii_X3_init : Cond.instanceMethod yX3_init ∈ tG := inG (i := 263) (by decide +kernel) (by decide +kernel)
def LN_X3 (i : Nat) : List (Nat × Nat) := (400, i) :: ((401, i) :: ((402, i) :: []))
def wN_X3 (B : Wd) (i : Nat) : Wd := (rf1 (ad1 (rf1 (ad1 (rf1 (ad1 B 400 i) 3 i 0) 401 i) 3 i 1) 402 i) 3 i 2)
def CW_X3 (L : List (Nat × Nat)) (i : Nat) : Bool := (nn L 400 i) && (nn L 3 i) && (nn L 401 i) && (nn L 402 i)
theorem FrW_X3 {B : Wd} {L : List (Nat × Nat)} {i : Nat} (hF : FrL B L) (h : CW_X3 L i = true) : FrL (wN_X3 B i) L := by
  unfold CW_X3 at h
  simp only [Bool.and_eq_true] at h
  obtain ⟨⟨⟨c0, c1⟩, c2⟩, c3⟩ := h
  have hF := FrL_ad1 (t := 400) (i := i) hF c0
  have hF := FrL_rf1 (t := 3) (i := i) (j := 0) hF c1
  have hF := FrL_ad1 (t := 401) (i := i) hF c2
  have hF := FrL_rf1 (t := 3) (i := i) (j := 1) hF c1
  have hF := FrL_ad1 (t := 402) (i := i) hF c3
  have hF := FrL_rf1 (t := 3) (i := i) (j := 2) hF c1
  exact hF
theorem BdN_X3 {B : Wd} {i : Nat} (h : BdW B) : BdW (wN_X3 B i) := by
  have h := BdW_ad1 (t := 400) (i := i) h
  have h := BdW_rf1 (t := 3) (i := i) (j := 0) h (by decide +kernel)
  have h := BdW_ad1 (t := 401) (i := i) h
  have h := BdW_rf1 (t := 3) (i := i) (j := 1) h (by decide +kernel)
  have h := BdW_ad1 (t := 402) (i := i) h
  have h := BdW_rf1 (t := 3) (i := i) (j := 2) h (by decide +kernel)
  exact h
set_option maxRecDepth 20000 in
set_option maxHeartbeats 4000000 in
theorem s_X3_init {B : Wd} {i : Nat} {σ : St} (hF : FrL B (LN_X3 i)) (hO : ∀ j : Nat, σ 3 i j = 0) (hZ : ZeL σ (LN_X3 i)) : Cn Y_X3_init 1 3 120 B σ [vR 3 i] (fun r B' σ' => r = none ∧ B' = wN_X3 B i ∧ σ' = σ) := by
  refine Cn_of [some (vR 3 i)] (by decide) (Nat.le_of_ble_eq_true rfl) rfl ?_
  unfold LN_X3 at hF hZ
  skip
  refine E_aload_n dX3_init_0 rfl rfl ?_
  refine E_oini dX3_init_1 lo_RX3_3 (by decide) (Nat.le_of_ble_eq_true rfl) ?_
  refine E_aload_n dX3_init_4 rfl rfl ?_
  refine E_bp dX3_init_5 rfl ?_
  refine E_newI (t := 400) (i := i) (ty := .int) dX3_init_7 rfl sh_400 rfl (by decide) (by decide) (fun _ => rfl) (by decide) (by decide) rfl aw_int hF.hd.1 hF.hd.2 hZ.hd (by decide) (by decide) ?_
  have hF := FrL_ad1 (t := 400) (i := i) hF.tl rfl
  have hZ := hZ.tl
  refine E_putr dX3_init_9 fl_RX3_9 rfl rfl rfl rfl rfl rfl ?_
  have hF := FrL_rf1 (t := 3) (i := i) (j := 0) hF rfl
  refine E_aload_n dX3_init_12 rfl rfl ?_
  refine E_bp dX3_init_13 rfl ?_
  refine E_newI (t := 401) (i := i) (ty := .int) dX3_init_15 rfl sh_401 rfl (by decide) (by decide) (fun _ => rfl) (by decide) (by decide) rfl aw_int hF.hd.1 hF.hd.2 hZ.hd (by decide) (by decide) ?_
  have hF := FrL_ad1 (t := 401) (i := i) hF.tl rfl
  have hZ := hZ.tl
  refine E_putr dX3_init_17 fl_RX3_15 rfl rfl rfl rfl rfl rfl ?_
  have hF := FrL_rf1 (t := 3) (i := i) (j := 1) hF rfl
  refine E_aload_n dX3_init_20 rfl rfl ?_
  refine E_bp dX3_init_21 rfl ?_
  refine E_newI (t := 402) (i := i) (ty := .int) dX3_init_23 rfl sh_402 rfl (by decide) (by decide) (fun _ => rfl) (by decide) (by decide) rfl aw_int hF.hd.1 hF.hd.2 hZ.hd (by decide) (by decide) ?_
  have hF := FrL_ad1 (t := 402) (i := i) hF.tl rfl
  have hZ := hZ.tl
  refine E_putr dX3_init_25 fl_RX3_18 rfl rfl rfl rfl rfl rfl ?_
  have hF := FrL_rf1 (t := 3) (i := i) (j := 2) hF rfl
  refine E_aload_n dX3_init_28 rfl rfl ?_
  refine E_ic dX3_init_29 rfl ?_
  refine E_puti0 dX3_init_30 fl_RX3_21 rfl rfl rfl (hO 3) ?_
  exact E_vret dX3_init_33 rfl ⟨rfl, rfl, rfl⟩
abbrev Y_X7_init : My := (yX7_init, cX7_init, 1, none)
theorem dX7_init_0 : decode cX7_init 0 = .ok (.aload_n 0, 1) := by decide +kernel
theorem dX7_init_1 : decode cX7_init 1 = .ok (.invokespecial 3, 3) := by decide +kernel
theorem dX7_init_4 : decode cX7_init 4 = .ok (.aload_n 0, 1) := by decide +kernel
theorem dX7_init_5 : decode cX7_init 5 = .ok (.bipush 8, 2) := by decide +kernel
theorem dX7_init_7 : decode cX7_init 7 = .ok (.newarray .int, 2) := by decide +kernel
theorem dX7_init_9 : decode cX7_init 9 = .ok (.putfield 9, 3) := by decide +kernel
theorem dX7_init_12 : decode cX7_init 12 = .ok (.aload_n 0, 1) := by decide +kernel
theorem dX7_init_13 : decode cX7_init 13 = .ok (.bipush 8, 2) := by decide +kernel
theorem dX7_init_15 : decode cX7_init 15 = .ok (.newarray .int, 2) := by decide +kernel
theorem dX7_init_17 : decode cX7_init 17 = .ok (.putfield 15, 3) := by decide +kernel
theorem dX7_init_20 : decode cX7_init 20 = .ok (.aload_n 0, 1) := by decide +kernel
theorem dX7_init_21 : decode cX7_init 21 = .ok (.bipush 8, 2) := by decide +kernel
theorem dX7_init_23 : decode cX7_init 23 = .ok (.newarray .boolean, 2) := by decide +kernel
theorem dX7_init_25 : decode cX7_init 25 = .ok (.putfield 18, 3) := by decide +kernel
theorem dX7_init_28 : decode cX7_init 28 = .ok (.aload_n 0, 1) := by decide +kernel
theorem dX7_init_29 : decode cX7_init 29 = .ok (.iconst 0, 1) := by decide +kernel
theorem dX7_init_30 : decode cX7_init 30 = .ok (.putfield 22, 3) := by decide +kernel
theorem dX7_init_33 : decode cX7_init 33 = .ok (.return_, 1) := by decide +kernel
theorem mi_X7_init : MW Y_X7_init 0 := ⟨inG (i := 380) (by decide +kernel) (by decide +kernel), inG (i := 106) (by decide +kernel) (by decide +kernel), by decide, by decide, by decide, by decide +kernel⟩
theorem ii_X7_init : Cond.instanceMethod yX7_init ∈ tG := inG (i := 379) (by decide +kernel) (by decide +kernel)
def LN_X7 (i : Nat) : List (Nat × Nat) := (800, i) :: ((801, i) :: ((802, i) :: []))
def wN_X7 (B : Wd) (i : Nat) : Wd := (rf1 (ad1 (rf1 (ad1 (rf1 (ad1 B 800 i) 7 i 0) 801 i) 7 i 1) 802 i) 7 i 2)
def CW_X7 (L : List (Nat × Nat)) (i : Nat) : Bool := (nn L 800 i) && (nn L 7 i) && (nn L 801 i) && (nn L 802 i)
theorem FrW_X7 {B : Wd} {L : List (Nat × Nat)} {i : Nat} (hF : FrL B L) (h : CW_X7 L i = true) : FrL (wN_X7 B i) L := by
  unfold CW_X7 at h
  simp only [Bool.and_eq_true] at h
  obtain ⟨⟨⟨c0, c1⟩, c2⟩, c3⟩ := h
  have hF := FrL_ad1 (t := 800) (i := i) hF c0
  have hF := FrL_rf1 (t := 7) (i := i) (j := 0) hF c1
  have hF := FrL_ad1 (t := 801) (i := i) hF c2
  have hF := FrL_rf1 (t := 7) (i := i) (j := 1) hF c1
  have hF := FrL_ad1 (t := 802) (i := i) hF c3
  have hF := FrL_rf1 (t := 7) (i := i) (j := 2) hF c1
  exact hF
theorem BdN_X7 {B : Wd} {i : Nat} (h : BdW B) : BdW (wN_X7 B i) := by
  have h := BdW_ad1 (t := 800) (i := i) h
  have h := BdW_rf1 (t := 7) (i := i) (j := 0) h (by decide +kernel)
  have h := BdW_ad1 (t := 801) (i := i) h
  have h := BdW_rf1 (t := 7) (i := i) (j := 1) h (by decide +kernel)
  have h := BdW_ad1 (t := 802) (i := i) h
  have h := BdW_rf1 (t := 7) (i := i) (j := 2) h (by decide +kernel)
  exact h
set_option maxRecDepth 20000 in
set_option maxHeartbeats 4000000 in
theorem s_X7_init {B : Wd} {i : Nat} {σ : St} (hF : FrL B (LN_X7 i)) (hO : ∀ j : Nat, σ 7 i j = 0) (hZ : ZeL σ (LN_X7 i)) : Cn Y_X7_init 1 3 24 B σ [vR 7 i] (fun r B' σ' => r = none ∧ B' = wN_X7 B i ∧ σ' = σ) := by
  refine Cn_of [some (vR 7 i)] (by decide) (Nat.le_of_ble_eq_true rfl) rfl ?_
  unfold LN_X7 at hF hZ
  skip
  refine E_aload_n dX7_init_0 rfl rfl ?_
  refine E_oini dX7_init_1 lo_RX7_3 (by decide) (Nat.le_of_ble_eq_true rfl) ?_
  refine E_aload_n dX7_init_4 rfl rfl ?_
  refine E_bp dX7_init_5 rfl ?_
  refine E_newI (t := 800) (i := i) (ty := .int) dX7_init_7 rfl sh_800 rfl (by decide) (by decide) (fun _ => rfl) (by decide) (by decide) rfl aw_int hF.hd.1 hF.hd.2 hZ.hd (by decide) (by decide) ?_
  have hF := FrL_ad1 (t := 800) (i := i) hF.tl rfl
  have hZ := hZ.tl
  refine E_putr dX7_init_9 fl_RX7_9 rfl rfl rfl rfl rfl rfl ?_
  have hF := FrL_rf1 (t := 7) (i := i) (j := 0) hF rfl
  refine E_aload_n dX7_init_12 rfl rfl ?_
  refine E_bp dX7_init_13 rfl ?_
  refine E_newI (t := 801) (i := i) (ty := .int) dX7_init_15 rfl sh_801 rfl (by decide) (by decide) (fun _ => rfl) (by decide) (by decide) rfl aw_int hF.hd.1 hF.hd.2 hZ.hd (by decide) (by decide) ?_
  have hF := FrL_ad1 (t := 801) (i := i) hF.tl rfl
  have hZ := hZ.tl
  refine E_putr dX7_init_17 fl_RX7_15 rfl rfl rfl rfl rfl rfl ?_
  have hF := FrL_rf1 (t := 7) (i := i) (j := 1) hF rfl
  refine E_aload_n dX7_init_20 rfl rfl ?_
  refine E_bp dX7_init_21 rfl ?_
  refine E_newI (t := 802) (i := i) (ty := .boolean) dX7_init_23 rfl sh_802 rfl (by decide) (by decide) (fun _ => rfl) (by decide) (by decide) rfl aw_boolean hF.hd.1 hF.hd.2 hZ.hd (by decide) (by decide) ?_
  have hF := FrL_ad1 (t := 802) (i := i) hF.tl rfl
  have hZ := hZ.tl
  refine E_putr dX7_init_25 fl_RX7_18 rfl rfl rfl rfl rfl rfl ?_
  have hF := FrL_rf1 (t := 7) (i := i) (j := 2) hF rfl
  refine E_aload_n dX7_init_28 rfl rfl ?_
  refine E_ic dX7_init_29 rfl ?_
  refine E_puti0 dX7_init_30 fl_RX7_22 rfl rfl rfl (hO 3) ?_
  exact E_vret dX7_init_33 rfl ⟨rfl, rfl, rfl⟩
abbrev Y_X9_init : My := (yX9_init, cX9_init, 2, none)
theorem dX9_init_0 : decode cX9_init 0 = .ok (.aload_n 0, 1) := by decide +kernel
theorem dX9_init_1 : decode cX9_init 1 = .ok (.invokespecial 3, 3) := by decide +kernel
theorem dX9_init_4 : decode cX9_init 4 = .ok (.aload_n 0, 1) := by decide +kernel
theorem dX9_init_5 : decode cX9_init 5 = .ok (.bipush 6, 2) := by decide +kernel
theorem dX9_init_7 : decode cX9_init 7 = .ok (.newarray .int, 2) := by decide +kernel
theorem dX9_init_9 : decode cX9_init 9 = .ok (.putfield 9, 3) := by decide +kernel
theorem dX9_init_12 : decode cX9_init 12 = .ok (.aload_n 0, 1) := by decide +kernel
theorem dX9_init_13 : decode cX9_init 13 = .ok (.bipush 6, 2) := by decide +kernel
theorem dX9_init_15 : decode cX9_init 15 = .ok (.newarray .int, 2) := by decide +kernel
theorem dX9_init_17 : decode cX9_init 17 = .ok (.putfield 15, 3) := by decide +kernel
theorem dX9_init_20 : decode cX9_init 20 = .ok (.aload_n 0, 1) := by decide +kernel
theorem dX9_init_21 : decode cX9_init 21 = .ok (.bipush 6, 2) := by decide +kernel
theorem dX9_init_23 : decode cX9_init 23 = .ok (.newarray .int, 2) := by decide +kernel
theorem dX9_init_25 : decode cX9_init 25 = .ok (.putfield 18, 3) := by decide +kernel
theorem dX9_init_28 : decode cX9_init 28 = .ok (.aload_n 0, 1) := by decide +kernel
theorem dX9_init_29 : decode cX9_init 29 = .ok (.bipush 6, 2) := by decide +kernel
theorem dX9_init_31 : decode cX9_init 31 = .ok (.newarray .int, 2) := by decide +kernel
theorem dX9_init_33 : decode cX9_init 33 = .ok (.putfield 21, 3) := by decide +kernel
theorem dX9_init_36 : decode cX9_init 36 = .ok (.aload_n 0, 1) := by decide +kernel
theorem dX9_init_37 : decode cX9_init 37 = .ok (.bipush 6, 2) := by decide +kernel
theorem dX9_init_39 : decode cX9_init 39 = .ok (.newarray .int, 2) := by decide +kernel
theorem dX9_init_41 : decode cX9_init 41 = .ok (.putfield 24, 3) := by decide +kernel
theorem dX9_init_44 : decode cX9_init 44 = .ok (.aload_n 0, 1) := by decide +kernel
theorem dX9_init_45 : decode cX9_init 45 = .ok (.bipush 6, 2) := by decide +kernel
theorem dX9_init_47 : decode cX9_init 47 = .ok (.newarray .int, 2) := by decide +kernel
theorem dX9_init_49 : decode cX9_init 49 = .ok (.putfield 27, 3) := by decide +kernel
theorem dX9_init_52 : decode cX9_init 52 = .ok (.aload_n 0, 1) := by decide +kernel
theorem dX9_init_53 : decode cX9_init 53 = .ok (.bipush 6, 2) := by decide +kernel
theorem dX9_init_55 : decode cX9_init 55 = .ok (.newarray .int, 2) := by decide +kernel
theorem dX9_init_57 : decode cX9_init 57 = .ok (.putfield 30, 3) := by decide +kernel
theorem dX9_init_60 : decode cX9_init 60 = .ok (.aload_n 0, 1) := by decide +kernel
theorem dX9_init_61 : decode cX9_init 61 = .ok (.iconst 0, 1) := by decide +kernel
theorem dX9_init_62 : decode cX9_init 62 = .ok (.putfield 33, 3) := by decide +kernel
theorem dX9_init_65 : decode cX9_init 65 = .ok (.aload_n 0, 1) := by decide +kernel
theorem dX9_init_66 : decode cX9_init 66 = .ok (.iconst 0, 1) := by decide +kernel
theorem dX9_init_67 : decode cX9_init 67 = .ok (.putfield 37, 3) := by decide +kernel
theorem dX9_init_70 : decode cX9_init 70 = .ok (.aload_n 0, 1) := by decide +kernel
theorem dX9_init_71 : decode cX9_init 71 = .ok (.iconst 0, 1) := by decide +kernel
theorem dX9_init_72 : decode cX9_init 72 = .ok (.putfield 40, 3) := by decide +kernel
theorem dX9_init_75 : decode cX9_init 75 = .ok (.aload_n 0, 1) := by decide +kernel
theorem dX9_init_76 : decode cX9_init 76 = .ok (.iconst 0, 1) := by decide +kernel
theorem dX9_init_77 : decode cX9_init 77 = .ok (.putfield 43, 3) := by decide +kernel
theorem dX9_init_80 : decode cX9_init 80 = .ok (.aload_n 0, 1) := by decide +kernel
theorem dX9_init_81 : decode cX9_init 81 = .ok (.iconst 0, 1) := by decide +kernel
theorem dX9_init_82 : decode cX9_init 82 = .ok (.putfield 46, 3) := by decide +kernel
theorem dX9_init_85 : decode cX9_init 85 = .ok (.aload_n 0, 1) := by decide +kernel
theorem dX9_init_86 : decode cX9_init 86 = .ok (.aload_n 1, 1) := by decide +kernel
theorem dX9_init_87 : decode cX9_init 87 = .ok (.putfield 49, 3) := by decide +kernel
theorem dX9_init_90 : decode cX9_init 90 = .ok (.return_, 1) := by decide +kernel
theorem mi_X9_init : MW Y_X9_init 1 := ⟨inG (i := 301) (by decide +kernel) (by decide +kernel), inG (i := 104) (by decide +kernel) (by decide +kernel), by decide, by decide, by decide, by decide +kernel⟩
theorem ii_X9_init : Cond.instanceMethod yX9_init ∈ tG := inG (i := 300) (by decide +kernel) (by decide +kernel)
def LN_X9 (i : Nat) : List (Nat × Nat) := (1001, i) :: ((1002, i) :: ((1003, i) :: ((1004, i) :: ((1005, i) :: ((1006, i) :: ((1007, i) :: []))))))
def wN_X9 (B : Wd) (i : Nat) : Wd := (rf1 (rf1 (ad1 (rf1 (ad1 (rf1 (ad1 (rf1 (ad1 (rf1 (ad1 (rf1 (ad1 (rf1 (ad1 B 1001 i) 9 i 1) 1002 i) 9 i 2) 1003 i) 9 i 3) 1004 i) 9 i 4) 1005 i) 9 i 5) 1006 i) 9 i 6) 1007 i) 9 i 7) 9 i 0)
def CW_X9 (L : List (Nat × Nat)) (i : Nat) : Bool := (nn L 1001 i) && (nn L 9 i) && (nn L 1002 i) && (nn L 1003 i) && (nn L 1004 i) && (nn L 1005 i) && (nn L 1006 i) && (nn L 1007 i)
theorem FrW_X9 {B : Wd} {L : List (Nat × Nat)} {i : Nat} (hF : FrL B L) (h : CW_X9 L i = true) : FrL (wN_X9 B i) L := by
  unfold CW_X9 at h
  simp only [Bool.and_eq_true] at h
  obtain ⟨⟨⟨⟨⟨⟨⟨c0, c1⟩, c2⟩, c3⟩, c4⟩, c5⟩, c6⟩, c7⟩ := h
  have hF := FrL_ad1 (t := 1001) (i := i) hF c0
  have hF := FrL_rf1 (t := 9) (i := i) (j := 1) hF c1
  have hF := FrL_ad1 (t := 1002) (i := i) hF c2
  have hF := FrL_rf1 (t := 9) (i := i) (j := 2) hF c1
  have hF := FrL_ad1 (t := 1003) (i := i) hF c3
  have hF := FrL_rf1 (t := 9) (i := i) (j := 3) hF c1
  have hF := FrL_ad1 (t := 1004) (i := i) hF c4
  have hF := FrL_rf1 (t := 9) (i := i) (j := 4) hF c1
  have hF := FrL_ad1 (t := 1005) (i := i) hF c5
  have hF := FrL_rf1 (t := 9) (i := i) (j := 5) hF c1
  have hF := FrL_ad1 (t := 1006) (i := i) hF c6
  have hF := FrL_rf1 (t := 9) (i := i) (j := 6) hF c1
  have hF := FrL_ad1 (t := 1007) (i := i) hF c7
  have hF := FrL_rf1 (t := 9) (i := i) (j := 7) hF c1
  have hF := FrL_rf1 (t := 9) (i := i) (j := 0) hF c1
  exact hF
theorem BdN_X9 {B : Wd} {i : Nat} (h : BdW B) : BdW (wN_X9 B i) := by
  have h := BdW_ad1 (t := 1001) (i := i) h
  have h := BdW_rf1 (t := 9) (i := i) (j := 1) h (by decide +kernel)
  have h := BdW_ad1 (t := 1002) (i := i) h
  have h := BdW_rf1 (t := 9) (i := i) (j := 2) h (by decide +kernel)
  have h := BdW_ad1 (t := 1003) (i := i) h
  have h := BdW_rf1 (t := 9) (i := i) (j := 3) h (by decide +kernel)
  have h := BdW_ad1 (t := 1004) (i := i) h
  have h := BdW_rf1 (t := 9) (i := i) (j := 4) h (by decide +kernel)
  have h := BdW_ad1 (t := 1005) (i := i) h
  have h := BdW_rf1 (t := 9) (i := i) (j := 5) h (by decide +kernel)
  have h := BdW_ad1 (t := 1006) (i := i) h
  have h := BdW_rf1 (t := 9) (i := i) (j := 6) h (by decide +kernel)
  have h := BdW_ad1 (t := 1007) (i := i) h
  have h := BdW_rf1 (t := 9) (i := i) (j := 7) h (by decide +kernel)
  have h := BdW_rf1 (t := 9) (i := i) (j := 0) h (by decide +kernel)
  exact h
set_option maxRecDepth 20000 in
set_option maxHeartbeats 4000000 in
theorem s_X9_init {B : Wd} {i : Nat} {σ : St} (hF : FrL B (LN_X9 i)) (hO : ∀ j : Nat, σ 9 i j = 0) (hZ : ZeL σ (LN_X9 i)) : Cn Y_X9_init 1 7 42 B σ [vR 9 i, vR 8 0] (fun r B' σ' => r = none ∧ B' = wN_X9 B i ∧ σ' = σ) := by
  refine Cn_of [some (vR 9 i), some (vR 8 0)] (by decide) (Nat.le_of_ble_eq_true rfl) rfl ?_
  unfold LN_X9 at hF hZ
  skip
  refine E_aload_n dX9_init_0 rfl rfl ?_
  refine E_oini dX9_init_1 lo_RX9_3 (by decide) (Nat.le_of_ble_eq_true rfl) ?_
  refine E_aload_n dX9_init_4 rfl rfl ?_
  refine E_bp dX9_init_5 rfl ?_
  refine E_newI (t := 1001) (i := i) (ty := .int) dX9_init_7 rfl sh_1001 rfl (by decide) (by decide) (fun _ => rfl) (by decide) (by decide) rfl aw_int hF.hd.1 hF.hd.2 hZ.hd (by decide) (by decide) ?_
  have hF := FrL_ad1 (t := 1001) (i := i) hF.tl rfl
  have hZ := hZ.tl
  refine E_putr dX9_init_9 fl_RX9_9 rfl rfl rfl rfl rfl rfl ?_
  have hF := FrL_rf1 (t := 9) (i := i) (j := 1) hF rfl
  refine E_aload_n dX9_init_12 rfl rfl ?_
  refine E_bp dX9_init_13 rfl ?_
  refine E_newI (t := 1002) (i := i) (ty := .int) dX9_init_15 rfl sh_1002 rfl (by decide) (by decide) (fun _ => rfl) (by decide) (by decide) rfl aw_int hF.hd.1 hF.hd.2 hZ.hd (by decide) (by decide) ?_
  have hF := FrL_ad1 (t := 1002) (i := i) hF.tl rfl
  have hZ := hZ.tl
  refine E_putr dX9_init_17 fl_RX9_15 rfl rfl rfl rfl rfl rfl ?_
  have hF := FrL_rf1 (t := 9) (i := i) (j := 2) hF rfl
  refine E_aload_n dX9_init_20 rfl rfl ?_
  refine E_bp dX9_init_21 rfl ?_
  refine E_newI (t := 1003) (i := i) (ty := .int) dX9_init_23 rfl sh_1003 rfl (by decide) (by decide) (fun _ => rfl) (by decide) (by decide) rfl aw_int hF.hd.1 hF.hd.2 hZ.hd (by decide) (by decide) ?_
  have hF := FrL_ad1 (t := 1003) (i := i) hF.tl rfl
  have hZ := hZ.tl
  refine E_putr dX9_init_25 fl_RX9_18 rfl rfl rfl rfl rfl rfl ?_
  have hF := FrL_rf1 (t := 9) (i := i) (j := 3) hF rfl
  refine E_aload_n dX9_init_28 rfl rfl ?_
  refine E_bp dX9_init_29 rfl ?_
  refine E_newI (t := 1004) (i := i) (ty := .int) dX9_init_31 rfl sh_1004 rfl (by decide) (by decide) (fun _ => rfl) (by decide) (by decide) rfl aw_int hF.hd.1 hF.hd.2 hZ.hd (by decide) (by decide) ?_
  have hF := FrL_ad1 (t := 1004) (i := i) hF.tl rfl
  have hZ := hZ.tl
  refine E_putr dX9_init_33 fl_RX9_21 rfl rfl rfl rfl rfl rfl ?_
  have hF := FrL_rf1 (t := 9) (i := i) (j := 4) hF rfl
  refine E_aload_n dX9_init_36 rfl rfl ?_
  refine E_bp dX9_init_37 rfl ?_
  refine E_newI (t := 1005) (i := i) (ty := .int) dX9_init_39 rfl sh_1005 rfl (by decide) (by decide) (fun _ => rfl) (by decide) (by decide) rfl aw_int hF.hd.1 hF.hd.2 hZ.hd (by decide) (by decide) ?_
  have hF := FrL_ad1 (t := 1005) (i := i) hF.tl rfl
  have hZ := hZ.tl
  refine E_putr dX9_init_41 fl_RX9_24 rfl rfl rfl rfl rfl rfl ?_
  have hF := FrL_rf1 (t := 9) (i := i) (j := 5) hF rfl
  refine E_aload_n dX9_init_44 rfl rfl ?_
  refine E_bp dX9_init_45 rfl ?_
  refine E_newI (t := 1006) (i := i) (ty := .int) dX9_init_47 rfl sh_1006 rfl (by decide) (by decide) (fun _ => rfl) (by decide) (by decide) rfl aw_int hF.hd.1 hF.hd.2 hZ.hd (by decide) (by decide) ?_
  have hF := FrL_ad1 (t := 1006) (i := i) hF.tl rfl
  have hZ := hZ.tl
  refine E_putr dX9_init_49 fl_RX9_27 rfl rfl rfl rfl rfl rfl ?_
  have hF := FrL_rf1 (t := 9) (i := i) (j := 6) hF rfl
  refine E_aload_n dX9_init_52 rfl rfl ?_
  refine E_bp dX9_init_53 rfl ?_
  refine E_newI (t := 1007) (i := i) (ty := .int) dX9_init_55 rfl sh_1007 rfl (by decide) (by decide) (fun _ => rfl) (by decide) (by decide) rfl aw_int hF.hd.1 hF.hd.2 hZ.hd (by decide) (by decide) ?_
  have hF := FrL_ad1 (t := 1007) (i := i) hF.tl rfl
  have hZ := hZ.tl
  refine E_putr dX9_init_57 fl_RX9_30 rfl rfl rfl rfl rfl rfl ?_
  have hF := FrL_rf1 (t := 9) (i := i) (j := 7) hF rfl
  refine E_aload_n dX9_init_60 rfl rfl ?_
  refine E_ic dX9_init_61 rfl ?_
  refine E_puti0 dX9_init_62 fl_RX9_33 rfl rfl rfl (hO 8) ?_
  refine E_aload_n dX9_init_65 rfl rfl ?_
  refine E_ic dX9_init_66 rfl ?_
  refine E_puti0 dX9_init_67 fl_RX9_37 rfl rfl rfl (hO 9) ?_
  refine E_aload_n dX9_init_70 rfl rfl ?_
  refine E_ic dX9_init_71 rfl ?_
  refine E_puti0 dX9_init_72 fl_RX9_40 rfl rfl rfl (hO 10) ?_
  refine E_aload_n dX9_init_75 rfl rfl ?_
  refine E_ic dX9_init_76 rfl ?_
  refine E_puti0 dX9_init_77 fl_RX9_43 rfl rfl rfl (hO 11) ?_
  refine E_aload_n dX9_init_80 rfl rfl ?_
  refine E_ic dX9_init_81 rfl ?_
  refine E_puti0 dX9_init_82 fl_RX9_46 rfl rfl rfl (hO 12) ?_
  refine E_aload_n dX9_init_85 rfl rfl ?_
  refine E_aload_n dX9_init_86 rfl rfl ?_
  refine E_putr dX9_init_87 fl_RX9_49 rfl rfl rfl rfl rfl rfl ?_
  have hF := FrL_rf1 (t := 9) (i := i) (j := 0) hF rfl
  exact E_vret dX9_init_90 rfl ⟨rfl, rfl, rfl⟩
abbrev Y_X10_init : My := (yX10_init, cX10_init, 1, none)
theorem dX10_init_0 : decode cX10_init 0 = .ok (.aload_n 0, 1) := by decide +kernel
theorem dX10_init_1 : decode cX10_init 1 = .ok (.invokespecial 3, 3) := by decide +kernel
theorem dX10_init_4 : decode cX10_init 4 = .ok (.aload_n 0, 1) := by decide +kernel
theorem dX10_init_5 : decode cX10_init 5 = .ok (.sipush 1000, 3) := by decide +kernel
theorem dX10_init_8 : decode cX10_init 8 = .ok (.newarray .char, 2) := by decide +kernel
theorem dX10_init_10 : decode cX10_init 10 = .ok (.putfield 9, 3) := by decide +kernel
theorem dX10_init_13 : decode cX10_init 13 = .ok (.aload_n 0, 1) := by decide +kernel
theorem dX10_init_14 : decode cX10_init 14 = .ok (.sipush 1001, 3) := by decide +kernel
theorem dX10_init_17 : decode cX10_init 17 = .ok (.newarray .int, 2) := by decide +kernel
theorem dX10_init_19 : decode cX10_init 19 = .ok (.putfield 15, 3) := by decide +kernel
theorem dX10_init_22 : decode cX10_init 22 = .ok (.aload_n 0, 1) := by decide +kernel
theorem dX10_init_23 : decode cX10_init 23 = .ok (.sipush 1001, 3) := by decide +kernel
theorem dX10_init_26 : decode cX10_init 26 = .ok (.newarray .int, 2) := by decide +kernel
theorem dX10_init_28 : decode cX10_init 28 = .ok (.putfield 19, 3) := by decide +kernel
theorem dX10_init_31 : decode cX10_init 31 = .ok (.aload_n 0, 1) := by decide +kernel
theorem dX10_init_32 : decode cX10_init 32 = .ok (.sipush 1001, 3) := by decide +kernel
theorem dX10_init_35 : decode cX10_init 35 = .ok (.newarray .long, 2) := by decide +kernel
theorem dX10_init_37 : decode cX10_init 37 = .ok (.putfield 22, 3) := by decide +kernel
theorem dX10_init_40 : decode cX10_init 40 = .ok (.aload_n 0, 1) := by decide +kernel
theorem dX10_init_41 : decode cX10_init 41 = .ok (.iconst 0, 1) := by decide +kernel
theorem dX10_init_42 : decode cX10_init 42 = .ok (.putfield 26, 3) := by decide +kernel
theorem dX10_init_45 : decode cX10_init 45 = .ok (.aload_n 0, 1) := by decide +kernel
theorem dX10_init_46 : decode cX10_init 46 = .ok (.iconst 0, 1) := by decide +kernel
theorem dX10_init_47 : decode cX10_init 47 = .ok (.putfield 30, 3) := by decide +kernel
theorem dX10_init_50 : decode cX10_init 50 = .ok (.aload_n 0, 1) := by decide +kernel
theorem dX10_init_51 : decode cX10_init 51 = .ok (.iconst 0, 1) := by decide +kernel
theorem dX10_init_52 : decode cX10_init 52 = .ok (.putfield 33, 3) := by decide +kernel
theorem dX10_init_55 : decode cX10_init 55 = .ok (.return_, 1) := by decide +kernel
theorem mi_X10_init : MW Y_X10_init 0 := ⟨inG (i := 135) (by decide +kernel) (by decide +kernel), inG (i := 99) (by decide +kernel) (by decide +kernel), by decide, by decide, by decide, by decide +kernel⟩
theorem ii_X10_init : Cond.instanceMethod yX10_init ∈ tG := inG (i := 134) (by decide +kernel) (by decide +kernel)
def LN_X10 (_ : Nat) : List (Nat × Nat) := (1100, 0) :: ((1101, 0) :: ((1102, 0) :: ((1103, 0) :: [])))
def wN_X10 (B : Wd) (_ : Nat) : Wd := (rf1 (ad1 (rf1 (ad1 (rf1 (ad1 (rf1 (ad1 B 1100 0) 10 0 0) 1101 0) 10 0 1) 1102 0) 10 0 2) 1103 0) 10 0 3)
def CW_X10 (L : List (Nat × Nat)) (_ : Nat) : Bool := (nn L 1100 0) && (nn L 10 0) && (nn L 1101 0) && (nn L 1102 0) && (nn L 1103 0)
theorem FrW_X10 {B : Wd} {L : List (Nat × Nat)} {i : Nat} (hF : FrL B L) (h : CW_X10 L 0 = true) : FrL (wN_X10 B 0) L := by
  unfold CW_X10 at h
  simp only [Bool.and_eq_true] at h
  obtain ⟨⟨⟨⟨c0, c1⟩, c2⟩, c3⟩, c4⟩ := h
  have hF := FrL_ad1 (t := 1100) (i := 0) hF c0
  have hF := FrL_rf1 (t := 10) (i := 0) (j := 0) hF c1
  have hF := FrL_ad1 (t := 1101) (i := 0) hF c2
  have hF := FrL_rf1 (t := 10) (i := 0) (j := 1) hF c1
  have hF := FrL_ad1 (t := 1102) (i := 0) hF c3
  have hF := FrL_rf1 (t := 10) (i := 0) (j := 2) hF c1
  have hF := FrL_ad1 (t := 1103) (i := 0) hF c4
  have hF := FrL_rf1 (t := 10) (i := 0) (j := 3) hF c1
  exact hF
theorem BdN_X10 {B : Wd} {i : Nat} (h : BdW B) : BdW (wN_X10 B 0) := by
  have h := BdW_ad1 (t := 1100) (i := 0) h
  have h := BdW_rf1 (t := 10) (i := 0) (j := 0) h (by decide +kernel)
  have h := BdW_ad1 (t := 1101) (i := 0) h
  have h := BdW_rf1 (t := 10) (i := 0) (j := 1) h (by decide +kernel)
  have h := BdW_ad1 (t := 1102) (i := 0) h
  have h := BdW_rf1 (t := 10) (i := 0) (j := 2) h (by decide +kernel)
  have h := BdW_ad1 (t := 1103) (i := 0) h
  have h := BdW_rf1 (t := 10) (i := 0) (j := 3) h (by decide +kernel)
  exact h
set_option maxRecDepth 20000 in
set_option maxHeartbeats 4000000 in
theorem s_X10_init {B : Wd} {i : Nat} {σ : St} (hF : FrL B (LN_X10 0)) (hO : ∀ j : Nat, σ 10 0 j = 0) (hZ : ZeL σ (LN_X10 0)) : Cn Y_X10_init 1 4 4003 B σ [vR 10 0] (fun r B' σ' => r = none ∧ B' = wN_X10 B 0 ∧ σ' = σ) := by
  refine Cn_of [some (vR 10 0)] (by decide) (Nat.le_of_ble_eq_true rfl) rfl ?_
  unfold LN_X10 at hF hZ
  skip
  refine E_aload_n dX10_init_0 rfl rfl ?_
  refine E_oini dX10_init_1 lo_RX10_3 (by decide) (Nat.le_of_ble_eq_true rfl) ?_
  refine E_aload_n dX10_init_4 rfl rfl ?_
  refine E_sp dX10_init_5 rfl ?_
  refine E_newI (t := 1100) (i := 0) (ty := .char) dX10_init_8 rfl sh_1100 rfl (by decide) (by decide) (fun _ => rfl) (by decide) (by decide) rfl aw_char hF.hd.1 hF.hd.2 hZ.hd (by decide) (by decide) ?_
  have hF := FrL_ad1 (t := 1100) (i := 0) hF.tl (by decide +kernel)
  have hZ := hZ.tl
  refine E_putr dX10_init_10 fl_RX10_9 rfl rfl rfl rfl rfl rfl ?_
  have hF := FrL_rf1 (t := 10) (i := 0) (j := 0) hF (by decide +kernel)
  refine E_aload_n dX10_init_13 rfl rfl ?_
  refine E_sp dX10_init_14 rfl ?_
  refine E_newI (t := 1101) (i := 0) (ty := .int) dX10_init_17 rfl sh_1101 rfl (by decide) (by decide) (fun _ => rfl) (by decide) (by decide) rfl aw_int hF.hd.1 hF.hd.2 hZ.hd (by decide) (by decide) ?_
  have hF := FrL_ad1 (t := 1101) (i := 0) hF.tl (by decide +kernel)
  have hZ := hZ.tl
  refine E_putr dX10_init_19 fl_RX10_15 rfl rfl rfl rfl rfl rfl ?_
  have hF := FrL_rf1 (t := 10) (i := 0) (j := 1) hF (by decide +kernel)
  refine E_aload_n dX10_init_22 rfl rfl ?_
  refine E_sp dX10_init_23 rfl ?_
  refine E_newI (t := 1102) (i := 0) (ty := .int) dX10_init_26 rfl sh_1102 rfl (by decide) (by decide) (fun _ => rfl) (by decide) (by decide) rfl aw_int hF.hd.1 hF.hd.2 hZ.hd (by decide) (by decide) ?_
  have hF := FrL_ad1 (t := 1102) (i := 0) hF.tl (by decide +kernel)
  have hZ := hZ.tl
  refine E_putr dX10_init_28 fl_RX10_19 rfl rfl rfl rfl rfl rfl ?_
  have hF := FrL_rf1 (t := 10) (i := 0) (j := 2) hF (by decide +kernel)
  refine E_aload_n dX10_init_31 rfl rfl ?_
  refine E_sp dX10_init_32 rfl ?_
  refine E_newL (t := 1103) (i := 0) dX10_init_35 sh_1103 rfl (by decide) aw_long hF.hd.1 hF.hd.2 hZ.hd (by decide) (by decide) ?_
  have hF := FrL_ad1 (t := 1103) (i := 0) hF.tl (by decide +kernel)
  have hZ := hZ.tl
  refine E_putr dX10_init_37 fl_RX10_22 rfl rfl rfl rfl rfl rfl ?_
  have hF := FrL_rf1 (t := 10) (i := 0) (j := 3) hF (by decide +kernel)
  refine E_aload_n dX10_init_40 rfl rfl ?_
  refine E_ic dX10_init_41 rfl ?_
  refine E_puti0 dX10_init_42 fl_RX10_26 rfl rfl rfl (hO 4) ?_
  refine E_aload_n dX10_init_45 rfl rfl ?_
  refine E_ic dX10_init_46 rfl ?_
  refine E_puti0 dX10_init_47 fl_RX10_30 rfl rfl rfl (hO 5) ?_
  refine E_aload_n dX10_init_50 rfl rfl ?_
  refine E_ic dX10_init_51 rfl ?_
  refine E_puti0 dX10_init_52 fl_RX10_33 rfl rfl rfl (hO 6) ?_
  exact E_vret dX10_init_55 rfl ⟨rfl, rfl, rfl⟩
abbrev Y_X8_init : My := (yX8_init, cX8_init, 1, none)
theorem dX8_init_0 : decode cX8_init 0 = .ok (.aload_n 0, 1) := by decide +kernel
theorem dX8_init_1 : decode cX8_init 1 = .ok (.invokespecial 3, 3) := by decide +kernel
theorem dX8_init_4 : decode cX8_init 4 = .ok (.aload_n 0, 1) := by decide +kernel
theorem dX8_init_5 : decode cX8_init 5 = .ok (.bipush 6, 2) := by decide +kernel
theorem dX8_init_7 : decode cX8_init 7 = .ok (.newarray .int, 2) := by decide +kernel
theorem dX8_init_9 : decode cX8_init 9 = .ok (.putfield 9, 3) := by decide +kernel
theorem dX8_init_12 : decode cX8_init 12 = .ok (.aload_n 0, 1) := by decide +kernel
theorem dX8_init_13 : decode cX8_init 13 = .ok (.bipush 6, 2) := by decide +kernel
theorem dX8_init_15 : decode cX8_init 15 = .ok (.newarray .int, 2) := by decide +kernel
theorem dX8_init_17 : decode cX8_init 17 = .ok (.putfield 15, 3) := by decide +kernel
theorem dX8_init_20 : decode cX8_init 20 = .ok (.aload_n 0, 1) := by decide +kernel
theorem dX8_init_21 : decode cX8_init 21 = .ok (.bipush 6, 2) := by decide +kernel
theorem dX8_init_23 : decode cX8_init 23 = .ok (.newarray .long, 2) := by decide +kernel
theorem dX8_init_25 : decode cX8_init 25 = .ok (.putfield 18, 3) := by decide +kernel
theorem dX8_init_28 : decode cX8_init 28 = .ok (.aload_n 0, 1) := by decide +kernel
theorem dX8_init_29 : decode cX8_init 29 = .ok (.bipush 6, 2) := by decide +kernel
theorem dX8_init_31 : decode cX8_init 31 = .ok (.newarray .int, 2) := by decide +kernel
theorem dX8_init_33 : decode cX8_init 33 = .ok (.putfield 22, 3) := by decide +kernel
theorem dX8_init_36 : decode cX8_init 36 = .ok (.aload_n 0, 1) := by decide +kernel
theorem dX8_init_37 : decode cX8_init 37 = .ok (.bipush 6, 2) := by decide +kernel
theorem dX8_init_39 : decode cX8_init 39 = .ok (.newarray .int, 2) := by decide +kernel
theorem dX8_init_41 : decode cX8_init 41 = .ok (.putfield 25, 3) := by decide +kernel
theorem dX8_init_44 : decode cX8_init 44 = .ok (.aload_n 0, 1) := by decide +kernel
theorem dX8_init_45 : decode cX8_init 45 = .ok (.bipush 6, 2) := by decide +kernel
theorem dX8_init_47 : decode cX8_init 47 = .ok (.newarray .int, 2) := by decide +kernel
theorem dX8_init_49 : decode cX8_init 49 = .ok (.putfield 28, 3) := by decide +kernel
theorem dX8_init_52 : decode cX8_init 52 = .ok (.aload_n 0, 1) := by decide +kernel
theorem dX8_init_53 : decode cX8_init 53 = .ok (.bipush 6, 2) := by decide +kernel
theorem dX8_init_55 : decode cX8_init 55 = .ok (.newarray .int, 2) := by decide +kernel
theorem dX8_init_57 : decode cX8_init 57 = .ok (.putfield 31, 3) := by decide +kernel
theorem dX8_init_60 : decode cX8_init 60 = .ok (.aload_n 0, 1) := by decide +kernel
theorem dX8_init_61 : decode cX8_init 61 = .ok (.bipush 6, 2) := by decide +kernel
theorem dX8_init_63 : decode cX8_init 63 = .ok (.newarray .long, 2) := by decide +kernel
theorem dX8_init_65 : decode cX8_init 65 = .ok (.putfield 34, 3) := by decide +kernel
theorem dX8_init_68 : decode cX8_init 68 = .ok (.aload_n 0, 1) := by decide +kernel
theorem dX8_init_69 : decode cX8_init 69 = .ok (.bipush 12, 2) := by decide +kernel
theorem dX8_init_71 : decode cX8_init 71 = .ok (.newarray .int, 2) := by decide +kernel
theorem dX8_init_73 : decode cX8_init 73 = .ok (.putfield 37, 3) := by decide +kernel
theorem dX8_init_76 : decode cX8_init 76 = .ok (.aload_n 0, 1) := by decide +kernel
theorem dX8_init_77 : decode cX8_init 77 = .ok (.new 40, 3) := by decide +kernel
theorem dX8_init_80 : decode cX8_init 80 = .ok (.dup, 1) := by decide +kernel
theorem dX8_init_81 : decode cX8_init 81 = .ok (.invokespecial 42, 3) := by decide +kernel
theorem dX8_init_84 : decode cX8_init 84 = .ok (.putfield 43, 3) := by decide +kernel
theorem dX8_init_87 : decode cX8_init 87 = .ok (.aload_n 0, 1) := by decide +kernel
theorem dX8_init_88 : decode cX8_init 88 = .ok (.iconst 0, 1) := by decide +kernel
theorem dX8_init_89 : decode cX8_init 89 = .ok (.putfield 47, 3) := by decide +kernel
theorem dX8_init_92 : decode cX8_init 92 = .ok (.aload_n 0, 1) := by decide +kernel
theorem dX8_init_93 : decode cX8_init 93 = .ok (.iconst 0, 1) := by decide +kernel
theorem dX8_init_94 : decode cX8_init 94 = .ok (.putfield 51, 3) := by decide +kernel
theorem dX8_init_97 : decode cX8_init 97 = .ok (.aload_n 0, 1) := by decide +kernel
theorem dX8_init_98 : decode cX8_init 98 = .ok (.iconst 0, 1) := by decide +kernel
theorem dX8_init_99 : decode cX8_init 99 = .ok (.putfield 54, 3) := by decide +kernel
theorem dX8_init_102 : decode cX8_init 102 = .ok (.aload_n 0, 1) := by decide +kernel
theorem dX8_init_103 : decode cX8_init 103 = .ok (.iconst 2, 1) := by decide +kernel
theorem dX8_init_104 : decode cX8_init 104 = .ok (.putfield 57, 3) := by decide +kernel
theorem dX8_init_107 : decode cX8_init 107 = .ok (.return_, 1) := by decide +kernel
theorem mi_X8_init : MW Y_X8_init 0 := ⟨inG (i := 168) (by decide +kernel) (by decide +kernel), inG (i := 100) (by decide +kernel) (by decide +kernel), by decide, by decide, by decide, by decide +kernel⟩
theorem ii_X8_init : Cond.instanceMethod yX8_init ∈ tG := inG (i := 167) (by decide +kernel) (by decide +kernel)
def LN_X8 (i : Nat) : List (Nat × Nat) := (900, i) :: ((901, i) :: ((902, i) :: ((903, i) :: ((904, i) :: ((905, i) :: ((906, i) :: ((907, i) :: ((908, i) :: ((2, i) :: (LN_X2 i ++ []))))))))))
def wN_X8 (B : Wd) (i : Nat) : Wd := (rf1 (wN_X2 (ad1 (rf1 (ad1 (rf1 (ad1 (rf1 (ad1 (rf1 (ad1 (rf1 (ad1 (rf1 (ad1 (rf1 (ad1 (rf1 (ad1 (rf1 (ad1 B 900 i) 8 i 0) 901 i) 8 i 1) 902 i) 8 i 2) 903 i) 8 i 3) 904 i) 8 i 4) 905 i) 8 i 5) 906 i) 8 i 6) 907 i) 8 i 7) 908 i) 8 i 8) 2 i) i) 8 i 9)
def CW_X8 (L : List (Nat × Nat)) (i : Nat) : Bool := (nn L 900 i) && (nn L 8 i) && (nn L 901 i) && (nn L 902 i) && (nn L 903 i) && (nn L 904 i) && (nn L 905 i) && (nn L 906 i) && (nn L 907 i) && (nn L 908 i) && (nn L 2 i) && (CW_X2 L i)
theorem FrW_X8 {B : Wd} {L : List (Nat × Nat)} {i : Nat} (hF : FrL B L) (h : CW_X8 L i = true) : FrL (wN_X8 B i) L := by
  unfold CW_X8 at h
  simp only [Bool.and_eq_true] at h
  obtain ⟨⟨⟨⟨⟨⟨⟨⟨⟨⟨⟨c0, c1⟩, c2⟩, c3⟩, c4⟩, c5⟩, c6⟩, c7⟩, c8⟩, c9⟩, c10⟩, c11⟩ := h
  have hF := FrL_ad1 (t := 900) (i := i) hF c0
  have hF := FrL_rf1 (t := 8) (i := i) (j := 0) hF c1
  have hF := FrL_ad1 (t := 901) (i := i) hF c2
  have hF := FrL_rf1 (t := 8) (i := i) (j := 1) hF c1
  have hF := FrL_ad1 (t := 902) (i := i) hF c3
  have hF := FrL_rf1 (t := 8) (i := i) (j := 2) hF c1
  have hF := FrL_ad1 (t := 903) (i := i) hF c4
  have hF := FrL_rf1 (t := 8) (i := i) (j := 3) hF c1
  have hF := FrL_ad1 (t := 904) (i := i) hF c5
  have hF := FrL_rf1 (t := 8) (i := i) (j := 4) hF c1
  have hF := FrL_ad1 (t := 905) (i := i) hF c6
  have hF := FrL_rf1 (t := 8) (i := i) (j := 5) hF c1
  have hF := FrL_ad1 (t := 906) (i := i) hF c7
  have hF := FrL_rf1 (t := 8) (i := i) (j := 6) hF c1
  have hF := FrL_ad1 (t := 907) (i := i) hF c8
  have hF := FrL_rf1 (t := 8) (i := i) (j := 7) hF c1
  have hF := FrL_ad1 (t := 908) (i := i) hF c9
  have hF := FrL_rf1 (t := 8) (i := i) (j := 8) hF c1
  have hF := FrL_ad1 (t := 2) (i := i) hF c10
  have hF := FrW_X2 (i := i) hF c11
  have hF := FrL_rf1 (t := 8) (i := i) (j := 9) hF c1
  exact hF
theorem BdN_X8 {B : Wd} {i : Nat} (h : BdW B) : BdW (wN_X8 B i) := by
  have h := BdW_ad1 (t := 900) (i := i) h
  have h := BdW_rf1 (t := 8) (i := i) (j := 0) h (by decide +kernel)
  have h := BdW_ad1 (t := 901) (i := i) h
  have h := BdW_rf1 (t := 8) (i := i) (j := 1) h (by decide +kernel)
  have h := BdW_ad1 (t := 902) (i := i) h
  have h := BdW_rf1 (t := 8) (i := i) (j := 2) h (by decide +kernel)
  have h := BdW_ad1 (t := 903) (i := i) h
  have h := BdW_rf1 (t := 8) (i := i) (j := 3) h (by decide +kernel)
  have h := BdW_ad1 (t := 904) (i := i) h
  have h := BdW_rf1 (t := 8) (i := i) (j := 4) h (by decide +kernel)
  have h := BdW_ad1 (t := 905) (i := i) h
  have h := BdW_rf1 (t := 8) (i := i) (j := 5) h (by decide +kernel)
  have h := BdW_ad1 (t := 906) (i := i) h
  have h := BdW_rf1 (t := 8) (i := i) (j := 6) h (by decide +kernel)
  have h := BdW_ad1 (t := 907) (i := i) h
  have h := BdW_rf1 (t := 8) (i := i) (j := 7) h (by decide +kernel)
  have h := BdW_ad1 (t := 908) (i := i) h
  have h := BdW_rf1 (t := 8) (i := i) (j := 8) h (by decide +kernel)
  have h := BdW_ad1 (t := 2) (i := i) h
  have h := BdN_X2 (i := i) h
  have h := BdW_rf1 (t := 8) (i := i) (j := 9) h (by decide +kernel)
  exact h
set_option maxRecDepth 20000 in
set_option maxHeartbeats 4000000 in
theorem s_X8_init {B : Wd} {i : Nat} {σ : St} (hF : FrL B (LN_X8 i)) (hO : ∀ j : Nat, σ 8 i j = 0) (hZ : ZeL σ (LN_X8 i)) : Cn Y_X8_init 2 13 2128 B σ [vR 8 i] (fun r B' σ' => r = none ∧ B' = wN_X8 B i ∧ σ' = (up σ 8 i 13 2)) := by
  refine Cn_of [some (vR 8 i)] (by decide) (Nat.le_of_ble_eq_true rfl) rfl ?_
  unfold LN_X8 at hF hZ
  skip
  refine E_aload_n dX8_init_0 rfl rfl ?_
  refine E_oini dX8_init_1 lo_RX8_3 (by decide) (Nat.le_of_ble_eq_true rfl) ?_
  refine E_aload_n dX8_init_4 rfl rfl ?_
  refine E_bp dX8_init_5 rfl ?_
  refine E_newI (t := 900) (i := i) (ty := .int) dX8_init_7 rfl sh_900 rfl (by decide) (by decide) (fun _ => rfl) (by decide) (by decide) rfl aw_int hF.hd.1 hF.hd.2 hZ.hd (by decide) (by decide) ?_
  have hF := FrL_ad1 (t := 900) (i := i) hF.tl rfl
  have hZ := hZ.tl
  refine E_putr dX8_init_9 fl_RX8_9 rfl rfl rfl rfl rfl rfl ?_
  have hF := FrL_rf1 (t := 8) (i := i) (j := 0) hF rfl
  refine E_aload_n dX8_init_12 rfl rfl ?_
  refine E_bp dX8_init_13 rfl ?_
  refine E_newI (t := 901) (i := i) (ty := .int) dX8_init_15 rfl sh_901 rfl (by decide) (by decide) (fun _ => rfl) (by decide) (by decide) rfl aw_int hF.hd.1 hF.hd.2 hZ.hd (by decide) (by decide) ?_
  have hF := FrL_ad1 (t := 901) (i := i) hF.tl rfl
  have hZ := hZ.tl
  refine E_putr dX8_init_17 fl_RX8_15 rfl rfl rfl rfl rfl rfl ?_
  have hF := FrL_rf1 (t := 8) (i := i) (j := 1) hF rfl
  refine E_aload_n dX8_init_20 rfl rfl ?_
  refine E_bp dX8_init_21 rfl ?_
  refine E_newL (t := 902) (i := i) dX8_init_23 sh_902 rfl (by decide) aw_long hF.hd.1 hF.hd.2 hZ.hd (by decide) (by decide) ?_
  have hF := FrL_ad1 (t := 902) (i := i) hF.tl rfl
  have hZ := hZ.tl
  refine E_putr dX8_init_25 fl_RX8_18 rfl rfl rfl rfl rfl rfl ?_
  have hF := FrL_rf1 (t := 8) (i := i) (j := 2) hF rfl
  refine E_aload_n dX8_init_28 rfl rfl ?_
  refine E_bp dX8_init_29 rfl ?_
  refine E_newI (t := 903) (i := i) (ty := .int) dX8_init_31 rfl sh_903 rfl (by decide) (by decide) (fun _ => rfl) (by decide) (by decide) rfl aw_int hF.hd.1 hF.hd.2 hZ.hd (by decide) (by decide) ?_
  have hF := FrL_ad1 (t := 903) (i := i) hF.tl rfl
  have hZ := hZ.tl
  refine E_putr dX8_init_33 fl_RX8_22 rfl rfl rfl rfl rfl rfl ?_
  have hF := FrL_rf1 (t := 8) (i := i) (j := 3) hF rfl
  refine E_aload_n dX8_init_36 rfl rfl ?_
  refine E_bp dX8_init_37 rfl ?_
  refine E_newI (t := 904) (i := i) (ty := .int) dX8_init_39 rfl sh_904 rfl (by decide) (by decide) (fun _ => rfl) (by decide) (by decide) rfl aw_int hF.hd.1 hF.hd.2 hZ.hd (by decide) (by decide) ?_
  have hF := FrL_ad1 (t := 904) (i := i) hF.tl rfl
  have hZ := hZ.tl
  refine E_putr dX8_init_41 fl_RX8_25 rfl rfl rfl rfl rfl rfl ?_
  have hF := FrL_rf1 (t := 8) (i := i) (j := 4) hF rfl
  refine E_aload_n dX8_init_44 rfl rfl ?_
  refine E_bp dX8_init_45 rfl ?_
  refine E_newI (t := 905) (i := i) (ty := .int) dX8_init_47 rfl sh_905 rfl (by decide) (by decide) (fun _ => rfl) (by decide) (by decide) rfl aw_int hF.hd.1 hF.hd.2 hZ.hd (by decide) (by decide) ?_
  have hF := FrL_ad1 (t := 905) (i := i) hF.tl rfl
  have hZ := hZ.tl
  refine E_putr dX8_init_49 fl_RX8_28 rfl rfl rfl rfl rfl rfl ?_
  have hF := FrL_rf1 (t := 8) (i := i) (j := 5) hF rfl
  refine E_aload_n dX8_init_52 rfl rfl ?_
  refine E_bp dX8_init_53 rfl ?_
  refine E_newI (t := 906) (i := i) (ty := .int) dX8_init_55 rfl sh_906 rfl (by decide) (by decide) (fun _ => rfl) (by decide) (by decide) rfl aw_int hF.hd.1 hF.hd.2 hZ.hd (by decide) (by decide) ?_
  have hF := FrL_ad1 (t := 906) (i := i) hF.tl rfl
  have hZ := hZ.tl
  refine E_putr dX8_init_57 fl_RX8_31 rfl rfl rfl rfl rfl rfl ?_
  have hF := FrL_rf1 (t := 8) (i := i) (j := 6) hF rfl
  refine E_aload_n dX8_init_60 rfl rfl ?_
  refine E_bp dX8_init_61 rfl ?_
  refine E_newL (t := 907) (i := i) dX8_init_63 sh_907 rfl (by decide) aw_long hF.hd.1 hF.hd.2 hZ.hd (by decide) (by decide) ?_
  have hF := FrL_ad1 (t := 907) (i := i) hF.tl rfl
  have hZ := hZ.tl
  refine E_putr dX8_init_65 fl_RX8_34 rfl rfl rfl rfl rfl rfl ?_
  have hF := FrL_rf1 (t := 8) (i := i) (j := 7) hF rfl
  refine E_aload_n dX8_init_68 rfl rfl ?_
  refine E_bp dX8_init_69 rfl ?_
  refine E_newI (t := 908) (i := i) (ty := .int) dX8_init_71 rfl sh_908 rfl (by decide) (by decide) (fun _ => rfl) (by decide) (by decide) rfl aw_int hF.hd.1 hF.hd.2 hZ.hd (by decide) (by decide) ?_
  have hF := FrL_ad1 (t := 908) (i := i) hF.tl rfl
  have hZ := hZ.tl
  refine E_putr dX8_init_73 fl_RX8_37 rfl rfl rfl rfl rfl rfl ?_
  have hF := FrL_rf1 (t := 8) (i := i) (j := 8) hF rfl
  refine E_aload_n dX8_init_76 rfl rfl ?_
  refine E_new (t := 2) (i := i) dX8_init_77 (by decide) ck_RX8_40 iw_X2 nw_X2 hF.hd.1 hF.hd.2 hZ.hd (by decide) (by decide) ?_
  have hF := FrL_ad1 (t := 2) (i := i) hF.tl rfl
  have hO2 := hZ.hd
  have hZ := hZ.tl
  refine E_dup dX8_init_80 (fun _ q => by cases q) ?_
  refine E_callI (Y' := Y_X2_init) (as := []) (st := [vR 2 i, vR 8 i]) dX8_init_81 lk_RX8_42 mi_X2_init ii_X2_init rfl rfl (by decide) (by decide) (by decide) rfl rfl (Nat.le_of_ble_eq_true rfl) (s_X2_init (i := i) hF.app.1 hO2 hZ.app.1) (fun r0 B0 σ0 h => ?_)
  obtain ⟨rfl, rfl, rfl⟩ := h
  have hF := FrW_X2 (i := i) hF.app.2 rfl
  have hZ := hZ.app.2
  refine E_putr dX8_init_84 fl_RX8_43 rfl rfl rfl rfl rfl rfl ?_
  have hF := FrL_rf1 (t := 8) (i := i) (j := 9) hF rfl
  refine E_aload_n dX8_init_87 rfl rfl ?_
  refine E_ic dX8_init_88 rfl ?_
  refine E_puti0 dX8_init_89 fl_RX8_47 rfl rfl rfl (hO 10) ?_
  refine E_aload_n dX8_init_92 rfl rfl ?_
  refine E_ic dX8_init_93 rfl ?_
  refine E_puti0 dX8_init_94 fl_RX8_51 rfl rfl rfl (hO 11) ?_
  refine E_aload_n dX8_init_97 rfl rfl ?_
  refine E_ic dX8_init_98 rfl ?_
  refine E_puti0 dX8_init_99 fl_RX8_54 rfl rfl rfl (hO 12) ?_
  refine E_aload_n dX8_init_102 rfl rfl ?_
  refine E_ic dX8_init_103 rfl ?_
  refine E_puti dX8_init_104 fl_RX8_57 rfl rfl rfl ?_
  exact E_vret dX8_init_107 rfl ⟨rfl, rfl, rfl⟩
abbrev Y_X6_init : My := (yX6_init, cX6_init, 2, none)
theorem dX6_init_0 : decode cX6_init 0 = .ok (.aload_n 0, 1) := by decide +kernel
theorem dX6_init_1 : decode cX6_init 1 = .ok (.invokespecial 3, 3) := by decide +kernel
theorem dX6_init_4 : decode cX6_init 4 = .ok (.aload_n 0, 1) := by decide +kernel
theorem dX6_init_5 : decode cX6_init 5 = .ok (.iconst 0, 1) := by decide +kernel
theorem dX6_init_6 : decode cX6_init 6 = .ok (.putfield 9, 3) := by decide +kernel
theorem dX6_init_9 : decode cX6_init 9 = .ok (.aload_n 0, 1) := by decide +kernel
theorem dX6_init_10 : decode cX6_init 10 = .ok (.iconst 0, 1) := by decide +kernel
theorem dX6_init_11 : decode cX6_init 11 = .ok (.putfield 15, 3) := by decide +kernel
theorem dX6_init_14 : decode cX6_init 14 = .ok (.aload_n 0, 1) := by decide +kernel
theorem dX6_init_15 : decode cX6_init 15 = .ok (.aload_n 1, 1) := by decide +kernel
theorem dX6_init_16 : decode cX6_init 16 = .ok (.putfield 18, 3) := by decide +kernel
theorem dX6_init_19 : decode cX6_init 19 = .ok (.return_, 1) := by decide +kernel
theorem mi_X6_init : MW Y_X6_init 1 := ⟨inG (i := 285) (by decide +kernel) (by decide +kernel), inG (i := 103) (by decide +kernel) (by decide +kernel), by decide, by decide, by decide, by decide +kernel⟩
theorem ii_X6_init : Cond.instanceMethod yX6_init ∈ tG := inG (i := 284) (by decide +kernel) (by decide +kernel)
def LN_X6 (_ : Nat) : List (Nat × Nat) := []
def wN_X6 (B : Wd) (_ : Nat) : Wd := (rf1 B 6 0 0)
def CW_X6 (L : List (Nat × Nat)) (_ : Nat) : Bool := (nn L 6 0)
theorem FrW_X6 {B : Wd} {L : List (Nat × Nat)} {i : Nat} (hF : FrL B L) (h : CW_X6 L 0 = true) : FrL (wN_X6 B 0) L := by
  unfold CW_X6 at h
  have c0 := h
  have hF := FrL_rf1 (t := 6) (i := 0) (j := 0) hF c0
  exact hF
theorem BdN_X6 {B : Wd} {i : Nat} (h : BdW B) : BdW (wN_X6 B 0) := by
  have h := BdW_rf1 (t := 6) (i := 0) (j := 0) h (by decide +kernel)
  exact h
set_option maxRecDepth 20000 in
set_option maxHeartbeats 4000000 in
theorem s_X6_init {B : Wd} {i : Nat} {σ : St} (hF : FrL B (LN_X6 0)) (hO : ∀ j : Nat, σ 6 0 j = 0) (hZ : ZeL σ (LN_X6 0)) : Cn Y_X6_init 1 0 0 B σ [vR 6 0, vR 10 0] (fun r B' σ' => r = none ∧ B' = wN_X6 B 0 ∧ σ' = σ) := by
  refine Cn_of [some (vR 6 0), some (vR 10 0)] (by decide) (Nat.le_of_ble_eq_true rfl) rfl ?_
  unfold LN_X6 at hF hZ
  skip
  refine E_aload_n dX6_init_0 rfl rfl ?_
  refine E_oini dX6_init_1 lo_RX6_3 (by decide) (Nat.le_of_ble_eq_true rfl) ?_
  refine E_aload_n dX6_init_4 rfl rfl ?_
  refine E_ic dX6_init_5 rfl ?_
  refine E_putz0 dX6_init_6 fl_RX6_9 rfl rfl rfl (hO 1) ?_
  refine E_aload_n dX6_init_9 rfl rfl ?_
  refine E_ic dX6_init_10 rfl ?_
  refine E_putz0 dX6_init_11 fl_RX6_15 rfl rfl rfl (hO 2) ?_
  refine E_aload_n dX6_init_14 rfl rfl ?_
  refine E_aload_n dX6_init_15 rfl rfl ?_
  refine E_putr dX6_init_16 fl_RX6_18 rfl rfl rfl rfl rfl rfl ?_
  have hF := FrL_rf1 (t := 6) (i := 0) (j := 0) hF (by decide +kernel)
  exact E_vret dX6_init_19 rfl ⟨rfl, rfl, rfl⟩
abbrev Y_X0_init : My := (yX0_init, cX0_init, 3, none)
theorem dX0_init_0 : decode cX0_init 0 = .ok (.aload_n 0, 1) := by decide +kernel
theorem dX0_init_1 : decode cX0_init 1 = .ok (.invokespecial 3, 3) := by decide +kernel
theorem dX0_init_4 : decode cX0_init 4 = .ok (.aload_n 0, 1) := by decide +kernel
theorem dX0_init_5 : decode cX0_init 5 = .ok (.bipush 6, 2) := by decide +kernel
theorem dX0_init_7 : decode cX0_init 7 = .ok (.bipush 61, 2) := by decide +kernel
theorem dX0_init_9 : decode cX0_init 9 = .ok (.multianewarray 9 2, 4) := by decide +kernel
theorem dX0_init_13 : decode cX0_init 13 = .ok (.putfield 11, 3) := by decide +kernel
theorem dX0_init_16 : decode cX0_init 16 = .ok (.aload_n 0, 1) := by decide +kernel
theorem dX0_init_17 : decode cX0_init 17 = .ok (.aload_n 1, 1) := by decide +kernel
theorem dX0_init_18 : decode cX0_init 18 = .ok (.putfield 16, 3) := by decide +kernel
theorem dX0_init_21 : decode cX0_init 21 = .ok (.aload_n 0, 1) := by decide +kernel
theorem dX0_init_22 : decode cX0_init 22 = .ok (.aload_n 2, 1) := by decide +kernel
theorem dX0_init_23 : decode cX0_init 23 = .ok (.putfield 20, 3) := by decide +kernel
theorem dX0_init_26 : decode cX0_init 26 = .ok (.return_, 1) := by decide +kernel
theorem mi_X0_init : MW Y_X0_init 2 := ⟨inG (i := 403) (by decide +kernel) (by decide +kernel), inG (i := 107) (by decide +kernel) (by decide +kernel), by decide, by decide, by decide, by decide +kernel⟩
theorem ii_X0_init : Cond.instanceMethod yX0_init ∈ tG := inG (i := 402) (by decide +kernel) (by decide +kernel)
def LN_X0 (_ : Nat) : List (Nat × Nat) := ((102, 0) :: rowsG 102 6) ++ []
def wN_X0 (B : Wd) (_ : Nat) : Wd := (rf1 (rf1 (rf1 (adm B 102 6) 0 0 2) 0 0 0) 0 0 1)
def CW_X0 (L : List (Nat × Nat)) (_ : Nat) : Bool := (nn L 102 0) && ((rowsG 102 6).all (fun r => nn L r.1 r.2)) && (nn L 0 0)
theorem FrW_X0 {B : Wd} {L : List (Nat × Nat)} {i : Nat} (hF : FrL B L) (h : CW_X0 L 0 = true) : FrL (wN_X0 B 0) L := by
  unfold CW_X0 at h
  simp only [Bool.and_eq_true] at h
  obtain ⟨⟨c0, c1⟩, c2⟩ := h
  have hF := FrL_adm (t := 102) (N := 6) hF c0 c1
  have hF := FrL_rf1 (t := 0) (i := 0) (j := 2) hF c2
  have hF := FrL_rf1 (t := 0) (i := 0) (j := 0) hF c2
  have hF := FrL_rf1 (t := 0) (i := 0) (j := 1) hF c2
  exact hF
theorem BdN_X0 {B : Wd} {i : Nat} (h : BdW B) : BdW (wN_X0 B 0) := by
  have h := BdW_adm (t := 102) (N := 6) h (by decide +kernel)
  have h := BdW_rf1 (t := 0) (i := 0) (j := 2) h (by decide +kernel)
  have h := BdW_rf1 (t := 0) (i := 0) (j := 0) h (by decide +kernel)
  have h := BdW_rf1 (t := 0) (i := 0) (j := 1) h (by decide +kernel)
  exact h
set_option maxRecDepth 20000 in
set_option maxHeartbeats 4000000 in
theorem s_X0_init {B : Wd} {i : Nat} {σ : St} (hF : FrL B (LN_X0 0)) (hO : ∀ j : Nat, σ 0 0 j = 0) (hZ : ZeL σ (LN_X0 0)) : Cn Y_X0_init 1 7 372 B σ [vR 0 0, vR 8 0, vR 9 0] (fun r B' σ' => r = none ∧ B' = wN_X0 B 0 ∧ σ' = σ) := by
  refine Cn_of [some (vR 0 0), some (vR 8 0), some (vR 9 0)] (by decide) (Nat.le_of_ble_eq_true rfl) rfl ?_
  unfold LN_X0 at hF hZ
  skip
  refine E_aload_n dX0_init_0 rfl rfl ?_
  refine E_oini dX0_init_1 lo_RX0_3 (by decide) (Nat.le_of_ble_eq_true rfl) ?_
  refine E_aload_n dX0_init_4 rfl rfl ?_
  refine E_bp dX0_init_5 rfl ?_
  refine E_bp dX0_init_7 rfl ?_
  have hG := FrL.app (L := (102, 0) :: rowsG 102 6) hF
  have hY := ZeL.app (L := rowsG 102 6) hZ.tl
  refine E_multi (t := 102) dX0_init_9 sh_102 sh_152 rfl rfl (by decide) (by decide) ck_RX0_9 (fun _ => rfl) hG.1 hY.1 (by decide) (by decide) ?_
  have hF := FrL_adm (t := 102) (N := 6) hG.2 (by decide +kernel) (by decide +kernel)
  have hZ := hY.2
  refine E_putr dX0_init_13 fl_RX0_11 rfl rfl rfl rfl rfl rfl ?_
  have hF := FrL_rf1 (t := 0) (i := 0) (j := 2) hF (by decide +kernel)
  refine E_aload_n dX0_init_16 rfl rfl ?_
  refine E_aload_n dX0_init_17 rfl rfl ?_
  refine E_putr dX0_init_18 fl_RX0_16 rfl rfl rfl rfl rfl rfl ?_
  have hF := FrL_rf1 (t := 0) (i := 0) (j := 0) hF (by decide +kernel)
  refine E_aload_n dX0_init_21 rfl rfl ?_
  refine E_aload_n dX0_init_22 rfl rfl ?_
  refine E_putr dX0_init_23 fl_RX0_20 rfl rfl rfl rfl rfl rfl ?_
  have hF := FrL_rf1 (t := 0) (i := 0) (j := 1) hF (by decide +kernel)
  exact E_vret dX0_init_26 rfl ⟨rfl, rfl, rfl⟩
abbrev Y_X1_init : My := (yX1_init, cX1_init, 3, none)
theorem dX1_init_0 : decode cX1_init 0 = .ok (.aload_n 0, 1) := by decide +kernel
theorem dX1_init_1 : decode cX1_init 1 = .ok (.invokespecial 3, 3) := by decide +kernel
theorem dX1_init_4 : decode cX1_init 4 = .ok (.aload_n 0, 1) := by decide +kernel
theorem dX1_init_5 : decode cX1_init 5 = .ok (.bipush 6, 2) := by decide +kernel
theorem dX1_init_7 : decode cX1_init 7 = .ok (.newarray .int, 2) := by decide +kernel
theorem dX1_init_9 : decode cX1_init 9 = .ok (.putfield 9, 3) := by decide +kernel
theorem dX1_init_12 : decode cX1_init 12 = .ok (.aload_n 0, 1) := by decide +kernel
theorem dX1_init_13 : decode cX1_init 13 = .ok (.bipush 6, 2) := by decide +kernel
theorem dX1_init_15 : decode cX1_init 15 = .ok (.newarray .int, 2) := by decide +kernel
theorem dX1_init_17 : decode cX1_init 17 = .ok (.putfield 15, 3) := by decide +kernel
theorem dX1_init_20 : decode cX1_init 20 = .ok (.aload_n 0, 1) := by decide +kernel
theorem dX1_init_21 : decode cX1_init 21 = .ok (.bipush 7, 2) := by decide +kernel
theorem dX1_init_23 : decode cX1_init 23 = .ok (.bipush 61, 2) := by decide +kernel
theorem dX1_init_25 : decode cX1_init 25 = .ok (.multianewarray 18 2, 4) := by decide +kernel
theorem dX1_init_29 : decode cX1_init 29 = .ok (.putfield 20, 3) := by decide +kernel
theorem dX1_init_32 : decode cX1_init 32 = .ok (.aload_n 0, 1) := by decide +kernel
theorem dX1_init_33 : decode cX1_init 33 = .ok (.bipush 6, 2) := by decide +kernel
theorem dX1_init_35 : decode cX1_init 35 = .ok (.bipush 61, 2) := by decide +kernel
theorem dX1_init_37 : decode cX1_init 37 = .ok (.multianewarray 18 2, 4) := by decide +kernel
theorem dX1_init_41 : decode cX1_init 41 = .ok (.putfield 23, 3) := by decide +kernel
theorem dX1_init_44 : decode cX1_init 44 = .ok (.aload_n 0, 1) := by decide +kernel
theorem dX1_init_45 : decode cX1_init 45 = .ok (.bipush 6, 2) := by decide +kernel
theorem dX1_init_47 : decode cX1_init 47 = .ok (.bipush 61, 2) := by decide +kernel
theorem dX1_init_49 : decode cX1_init 49 = .ok (.multianewarray 18 2, 4) := by decide +kernel
theorem dX1_init_53 : decode cX1_init 53 = .ok (.putfield 26, 3) := by decide +kernel
theorem dX1_init_56 : decode cX1_init 56 = .ok (.aload_n 0, 1) := by decide +kernel
theorem dX1_init_57 : decode cX1_init 57 = .ok (.aload_n 1, 1) := by decide +kernel
theorem dX1_init_58 : decode cX1_init 58 = .ok (.putfield 29, 3) := by decide +kernel
theorem dX1_init_61 : decode cX1_init 61 = .ok (.aload_n 0, 1) := by decide +kernel
theorem dX1_init_62 : decode cX1_init 62 = .ok (.aload_n 2, 1) := by decide +kernel
theorem dX1_init_63 : decode cX1_init 63 = .ok (.putfield 33, 3) := by decide +kernel
theorem dX1_init_66 : decode cX1_init 66 = .ok (.return_, 1) := by decide +kernel
theorem mi_X1_init : MW Y_X1_init 2 := ⟨inG (i := 423) (by decide +kernel) (by decide +kernel), inG (i := 108) (by decide +kernel) (by decide +kernel), by decide, by decide, by decide, by decide +kernel⟩
theorem ii_X1_init : Cond.instanceMethod yX1_init ∈ tG := inG (i := 422) (by decide +kernel) (by decide +kernel)
def LN_X1 (_ : Nat) : List (Nat × Nat) := (202, 0) :: ((203, 0) :: (((204, 0) :: rowsG 204 7) ++ (((205, 0) :: rowsG 205 6) ++ (((206, 0) :: rowsG 206 6) ++ []))))
def wN_X1 (B : Wd) (_ : Nat) : Wd := (rf1 (rf1 (rf1 (adm (rf1 (adm (rf1 (adm (rf1 (ad1 (rf1 (ad1 B 202 0) 1 0 2) 203 0) 1 0 3) 204 7) 1 0 4) 205 6) 1 0 5) 206 6) 1 0 6) 1 0 0) 1 0 1)
def CW_X1 (L : List (Nat × Nat)) (_ : Nat) : Bool := (nn L 202 0) && (nn L 1 0) && (nn L 203 0) && (nn L 204 0) && ((rowsG 204 7).all (fun r => nn L r.1 r.2)) && (nn L 205 0) && ((rowsG 205 6).all (fun r => nn L r.1 r.2)) && (nn L 206 0) && ((rowsG 206 6).all (fun r => nn L r.1 r.2))
theorem FrW_X1 {B : Wd} {L : List (Nat × Nat)} {i : Nat} (hF : FrL B L) (h : CW_X1 L 0 = true) : FrL (wN_X1 B 0) L := by
  unfold CW_X1 at h
  simp only [Bool.and_eq_true] at h
  obtain ⟨⟨⟨⟨⟨⟨⟨⟨c0, c1⟩, c2⟩, c3⟩, c4⟩, c5⟩, c6⟩, c7⟩, c8⟩ := h
  have hF := FrL_ad1 (t := 202) (i := 0) hF c0
  have hF := FrL_rf1 (t := 1) (i := 0) (j := 2) hF c1
  have hF := FrL_ad1 (t := 203) (i := 0) hF c2
  have hF := FrL_rf1 (t := 1) (i := 0) (j := 3) hF c1
  have hF := FrL_adm (t := 204) (N := 7) hF c3 c4
  have hF := FrL_rf1 (t := 1) (i := 0) (j := 4) hF c1
  have hF := FrL_adm (t := 205) (N := 6) hF c5 c6
  have hF := FrL_rf1 (t := 1) (i := 0) (j := 5) hF c1
  have hF := FrL_adm (t := 206) (N := 6) hF c7 c8
  have hF := FrL_rf1 (t := 1) (i := 0) (j := 6) hF c1
  have hF := FrL_rf1 (t := 1) (i := 0) (j := 0) hF c1
  have hF := FrL_rf1 (t := 1) (i := 0) (j := 1) hF c1
  exact hF
theorem BdN_X1 {B : Wd} {i : Nat} (h : BdW B) : BdW (wN_X1 B 0) := by
  have h := BdW_ad1 (t := 202) (i := 0) h
  have h := BdW_rf1 (t := 1) (i := 0) (j := 2) h (by decide +kernel)
  have h := BdW_ad1 (t := 203) (i := 0) h
  have h := BdW_rf1 (t := 1) (i := 0) (j := 3) h (by decide +kernel)
  have h := BdW_adm (t := 204) (N := 7) h (by decide +kernel)
  have h := BdW_rf1 (t := 1) (i := 0) (j := 4) h (by decide +kernel)
  have h := BdW_adm (t := 205) (N := 6) h (by decide +kernel)
  have h := BdW_rf1 (t := 1) (i := 0) (j := 5) h (by decide +kernel)
  have h := BdW_adm (t := 206) (N := 6) h (by decide +kernel)
  have h := BdW_rf1 (t := 1) (i := 0) (j := 6) h (by decide +kernel)
  have h := BdW_rf1 (t := 1) (i := 0) (j := 0) h (by decide +kernel)
  have h := BdW_rf1 (t := 1) (i := 0) (j := 1) h (by decide +kernel)
  exact h
set_option maxRecDepth 20000 in
set_option maxHeartbeats 4000000 in
theorem s_X1_init {B : Wd} {i : Nat} {σ : St} (hF : FrL B (LN_X1 0)) (hO : ∀ j : Nat, σ 1 0 j = 0) (hZ : ZeL σ (LN_X1 0)) : Cn Y_X1_init 1 24 1190 B σ [vR 1 0, vR 8 0, vR 9 0] (fun r B' σ' => r = none ∧ B' = wN_X1 B 0 ∧ σ' = σ) := by
  refine Cn_of [some (vR 1 0), some (vR 8 0), some (vR 9 0)] (by decide) (Nat.le_of_ble_eq_true rfl) rfl ?_
  unfold LN_X1 at hF hZ
  skip
  refine E_aload_n dX1_init_0 rfl rfl ?_
  refine E_oini dX1_init_1 lo_RX1_3 (by decide) (Nat.le_of_ble_eq_true rfl) ?_
  refine E_aload_n dX1_init_4 rfl rfl ?_
  refine E_bp dX1_init_5 rfl ?_
  refine E_newI (t := 202) (i := 0) (ty := .int) dX1_init_7 rfl sh_202 rfl (by decide) (by decide) (fun _ => rfl) (by decide) (by decide) rfl aw_int hF.hd.1 hF.hd.2 hZ.hd (by decide) (by decide) ?_
  have hF := FrL_ad1 (t := 202) (i := 0) hF.tl (by decide +kernel)
  have hZ := hZ.tl
  refine E_putr dX1_init_9 fl_RX1_9 rfl rfl rfl rfl rfl rfl ?_
  have hF := FrL_rf1 (t := 1) (i := 0) (j := 2) hF (by decide +kernel)
  refine E_aload_n dX1_init_12 rfl rfl ?_
  refine E_bp dX1_init_13 rfl ?_
  refine E_newI (t := 203) (i := 0) (ty := .int) dX1_init_15 rfl sh_203 rfl (by decide) (by decide) (fun _ => rfl) (by decide) (by decide) rfl aw_int hF.hd.1 hF.hd.2 hZ.hd (by decide) (by decide) ?_
  have hF := FrL_ad1 (t := 203) (i := 0) hF.tl (by decide +kernel)
  have hZ := hZ.tl
  refine E_putr dX1_init_17 fl_RX1_15 rfl rfl rfl rfl rfl rfl ?_
  have hF := FrL_rf1 (t := 1) (i := 0) (j := 3) hF (by decide +kernel)
  refine E_aload_n dX1_init_20 rfl rfl ?_
  refine E_bp dX1_init_21 rfl ?_
  refine E_bp dX1_init_23 rfl ?_
  have hG := FrL.app (L := (204, 0) :: rowsG 204 7) hF
  have hY := ZeL.app (L := rowsG 204 7) hZ.tl
  refine E_multi (t := 204) dX1_init_25 sh_204 sh_254 rfl rfl (by decide) (by decide) ck_RX1_18 (fun _ => rfl) hG.1 hY.1 (by decide) (by decide) ?_
  have hF := FrL_adm (t := 204) (N := 7) hG.2 (by decide +kernel) (by decide +kernel)
  have hZ := hY.2
  refine E_putr dX1_init_29 fl_RX1_20 rfl rfl rfl rfl rfl rfl ?_
  have hF := FrL_rf1 (t := 1) (i := 0) (j := 4) hF (by decide +kernel)
  refine E_aload_n dX1_init_32 rfl rfl ?_
  refine E_bp dX1_init_33 rfl ?_
  refine E_bp dX1_init_35 rfl ?_
  have hG := FrL.app (L := (205, 0) :: rowsG 205 6) hF
  have hY := ZeL.app (L := rowsG 205 6) hZ.tl
  refine E_multi (t := 205) dX1_init_37 sh_205 sh_255 rfl rfl (by decide) (by decide) ck_RX1_18 (fun _ => rfl) hG.1 hY.1 (by decide) (by decide) ?_
  have hF := FrL_adm (t := 205) (N := 6) hG.2 (by decide +kernel) (by decide +kernel)
  have hZ := hY.2
  refine E_putr dX1_init_41 fl_RX1_23 rfl rfl rfl rfl rfl rfl ?_
  have hF := FrL_rf1 (t := 1) (i := 0) (j := 5) hF (by decide +kernel)
  refine E_aload_n dX1_init_44 rfl rfl ?_
  refine E_bp dX1_init_45 rfl ?_
  refine E_bp dX1_init_47 rfl ?_
  have hG := FrL.app (L := (206, 0) :: rowsG 206 6) hF
  have hY := ZeL.app (L := rowsG 206 6) hZ.tl
  refine E_multi (t := 206) dX1_init_49 sh_206 sh_256 rfl rfl (by decide) (by decide) ck_RX1_18 (fun _ => rfl) hG.1 hY.1 (by decide) (by decide) ?_
  have hF := FrL_adm (t := 206) (N := 6) hG.2 (by decide +kernel) (by decide +kernel)
  have hZ := hY.2
  refine E_putr dX1_init_53 fl_RX1_26 rfl rfl rfl rfl rfl rfl ?_
  have hF := FrL_rf1 (t := 1) (i := 0) (j := 6) hF (by decide +kernel)
  refine E_aload_n dX1_init_56 rfl rfl ?_
  refine E_aload_n dX1_init_57 rfl rfl ?_
  refine E_putr dX1_init_58 fl_RX1_29 rfl rfl rfl rfl rfl rfl ?_
  have hF := FrL_rf1 (t := 1) (i := 0) (j := 0) hF (by decide +kernel)
  refine E_aload_n dX1_init_61 rfl rfl ?_
  refine E_aload_n dX1_init_62 rfl rfl ?_
  refine E_putr dX1_init_63 fl_RX1_33 rfl rfl rfl rfl rfl rfl ?_
  have hF := FrL_rf1 (t := 1) (i := 0) (j := 1) hF (by decide +kernel)
  exact E_vret dX1_init_66 rfl ⟨rfl, rfl, rfl⟩
abbrev Y_X4_init : My := (yX4_init, cX4_init, 2, none)
theorem dX4_init_0 : decode cX4_init 0 = .ok (.aload_n 0, 1) := by decide +kernel
theorem dX4_init_1 : decode cX4_init 1 = .ok (.invokespecial 1, 3) := by decide +kernel
theorem dX4_init_4 : decode cX4_init 4 = .ok (.aload_n 0, 1) := by decide +kernel
theorem dX4_init_5 : decode cX4_init 5 = .ok (.new 7, 3) := by decide +kernel
theorem dX4_init_8 : decode cX4_init 8 = .ok (.dup, 1) := by decide +kernel
theorem dX4_init_9 : decode cX4_init 9 = .ok (.invokespecial 9, 3) := by decide +kernel
theorem dX4_init_12 : decode cX4_init 12 = .ok (.putfield 10, 3) := by decide +kernel
theorem dX4_init_15 : decode cX4_init 15 = .ok (.aload_n 0, 1) := by decide +kernel
theorem dX4_init_16 : decode cX4_init 16 = .ok (.new 16, 3) := by decide +kernel
theorem dX4_init_19 : decode cX4_init 19 = .ok (.dup, 1) := by decide +kernel
theorem dX4_init_20 : decode cX4_init 20 = .ok (.invokespecial 18, 3) := by decide +kernel
theorem dX4_init_23 : decode cX4_init 23 = .ok (.putfield 19, 3) := by decide +kernel
theorem dX4_init_26 : decode cX4_init 26 = .ok (.aload_n 0, 1) := by decide +kernel
theorem dX4_init_27 : decode cX4_init 27 = .ok (.iconst 0, 1) := by decide +kernel
theorem dX4_init_28 : decode cX4_init 28 = .ok (.putfield 23, 3) := by decide +kernel
theorem dX4_init_31 : decode cX4_init 31 = .ok (.aload_n 0, 1) := by decide +kernel
theorem dX4_init_32 : decode cX4_init 32 = .ok (.new 27, 3) := by decide +kernel
theorem dX4_init_35 : decode cX4_init 35 = .ok (.dup, 1) := by decide +kernel
theorem dX4_init_36 : decode cX4_init 36 = .ok (.aload_n 1, 1) := by decide +kernel
theorem dX4_init_37 : decode cX4_init 37 = .ok (.invokespecial 29, 3) := by decide +kernel
theorem dX4_init_40 : decode cX4_init 40 = .ok (.putfield 32, 3) := by decide +kernel
theorem dX4_init_43 : decode cX4_init 43 = .ok (.return_, 1) := by decide +kernel
theorem mi_X4_init : MW Y_X4_init 1 := ⟨inG (i := 452) (by decide +kernel) (by decide +kernel), inG (i := 109) (by decide +kernel) (by decide +kernel), by decide, by decide, by decide, by decide +kernel⟩
theorem ii_X4_init : Cond.instanceMethod yX4_init ∈ tG := inG (i := 451) (by decide +kernel) (by decide +kernel)
def LN_X4 (i : Nat) : List (Nat × Nat) := (3, (i + 2)) :: (LN_X3 (i + 2) ++ ((7, (i + 1)) :: (LN_X7 (i + 1) ++ ((9, (i + 18)) :: (LN_X9 (i + 18) ++ [])))))
def wN_X4 (B : Wd) (i : Nat) : Wd := (rf1 (wN_X9 (ad1 (rf1 (wN_X7 (ad1 (rf1 (wN_X3 (ad1 B 3 (i + 2)) (i + 2)) 4 i 1) 7 (i + 1)) (i + 1)) 4 i 2) 9 (i + 18)) (i + 18)) 4 i 0)
def CW_X4 (L : List (Nat × Nat)) (i : Nat) : Bool := (nn L 3 (i + 2)) && (CW_X3 L (i + 2)) && (nn L 4 i) && (nn L 7 (i + 1)) && (CW_X7 L (i + 1)) && (nn L 9 (i + 18)) && (CW_X9 L (i + 18))
theorem FrW_X4 {B : Wd} {L : List (Nat × Nat)} {i : Nat} (hF : FrL B L) (h : CW_X4 L i = true) : FrL (wN_X4 B i) L := by
  unfold CW_X4 at h
  simp only [Bool.and_eq_true] at h
  obtain ⟨⟨⟨⟨⟨⟨c0, c1⟩, c2⟩, c3⟩, c4⟩, c5⟩, c6⟩ := h
  have hF := FrL_ad1 (t := 3) (i := (i + 2)) hF c0
  have hF := FrW_X3 (i := (i + 2)) hF c1
  have hF := FrL_rf1 (t := 4) (i := i) (j := 1) hF c2
  have hF := FrL_ad1 (t := 7) (i := (i + 1)) hF c3
  have hF := FrW_X7 (i := (i + 1)) hF c4
  have hF := FrL_rf1 (t := 4) (i := i) (j := 2) hF c2
  have hF := FrL_ad1 (t := 9) (i := (i + 18)) hF c5
  have hF := FrW_X9 (i := (i + 18)) hF c6
  have hF := FrL_rf1 (t := 4) (i := i) (j := 0) hF c2
  exact hF
theorem BdN_X4 {B : Wd} {i : Nat} (h : BdW B) : BdW (wN_X4 B i) := by
  have h := BdW_ad1 (t := 3) (i := (i + 2)) h
  have h := BdN_X3 (i := (i + 2)) h
  have h := BdW_rf1 (t := 4) (i := i) (j := 1) h (by decide +kernel)
  have h := BdW_ad1 (t := 7) (i := (i + 1)) h
  have h := BdN_X7 (i := (i + 1)) h
  have h := BdW_rf1 (t := 4) (i := i) (j := 2) h (by decide +kernel)
  have h := BdW_ad1 (t := 9) (i := (i + 18)) h
  have h := BdN_X9 (i := (i + 18)) h
  have h := BdW_rf1 (t := 4) (i := i) (j := 0) h (by decide +kernel)
  exact h
set_option maxRecDepth 20000 in
set_option maxHeartbeats 4000000 in
theorem s_X4_init {B : Wd} {i : Nat} {σ : St} (hF : FrL B (LN_X4 i)) (hO : ∀ j : Nat, σ 4 i j = 0) (hZ : ZeL σ (LN_X4 i)) : Cn Y_X4_init 2 16 207 B σ [vR 4 i, vR 8 0] (fun r B' σ' => r = none ∧ B' = wN_X4 B i ∧ σ' = σ) := by
  refine Cn_of [some (vR 4 i), some (vR 8 0)] (by decide) (Nat.le_of_ble_eq_true rfl) rfl ?_
  unfold LN_X4 at hF hZ
  skip
  refine E_aload_n dX4_init_0 rfl rfl ?_
  refine E_oini dX4_init_1 lo_RX4_1 (by decide) (Nat.le_of_ble_eq_true rfl) ?_
  refine E_aload_n dX4_init_4 rfl rfl ?_
  refine E_new (t := 3) (i := (i + 2)) dX4_init_5 (by decide) ck_RX4_7 iw_X3 nw_X3 hF.hd.1 hF.hd.2 hZ.hd (by decide) (by decide) ?_
  have hF := FrL_ad1 (t := 3) (i := (i + 2)) hF.tl rfl
  have hO3 := hZ.hd
  have hZ := hZ.tl
  refine E_dup dX4_init_8 (fun _ q => by cases q) ?_
  refine E_callI (Y' := Y_X3_init) (as := []) (st := [vR 3 (i + 2), vR 4 i]) dX4_init_9 lk_RX4_9 mi_X3_init ii_X3_init rfl rfl (by decide) (by decide) (by decide) rfl rfl (Nat.le_of_ble_eq_true rfl) (s_X3_init (i := (i + 2)) hF.app.1 hO3 hZ.app.1) (fun r0 B0 σ0 h => ?_)
  obtain ⟨rfl, rfl, rfl⟩ := h
  have hF := FrW_X3 (i := (i + 2)) hF.app.2 rfl
  have hZ := hZ.app.2
  refine E_putr dX4_init_12 fl_RX4_10 rfl rfl rfl rfl rfl rfl ?_
  have hF := FrL_rf1 (t := 4) (i := i) (j := 1) hF rfl
  refine E_aload_n dX4_init_15 rfl rfl ?_
  refine E_new (t := 7) (i := (i + 1)) dX4_init_16 (by decide) ck_RX4_16 iw_X7 nw_X7 hF.hd.1 hF.hd.2 hZ.hd (by decide) (by decide) ?_
  have hF := FrL_ad1 (t := 7) (i := (i + 1)) hF.tl rfl
  have hO7 := hZ.hd
  have hZ := hZ.tl
  refine E_dup dX4_init_19 (fun _ q => by cases q) ?_
  refine E_callI (Y' := Y_X7_init) (as := []) (st := [vR 7 (i + 1), vR 4 i]) dX4_init_20 lk_RX4_18 mi_X7_init ii_X7_init rfl rfl (by decide) (by decide) (by decide) rfl rfl (Nat.le_of_ble_eq_true rfl) (s_X7_init (i := (i + 1)) hF.app.1 hO7 hZ.app.1) (fun r0 B0 σ0 h => ?_)
  obtain ⟨rfl, rfl, rfl⟩ := h
  have hF := FrW_X7 (i := (i + 1)) hF.app.2 rfl
  have hZ := hZ.app.2
  refine E_putr dX4_init_23 fl_RX4_19 rfl rfl rfl rfl rfl rfl ?_
  have hF := FrL_rf1 (t := 4) (i := i) (j := 2) hF rfl
  refine E_aload_n dX4_init_26 rfl rfl ?_
  refine E_ic dX4_init_27 rfl ?_
  refine E_putz0 dX4_init_28 fl_RX4_23 rfl rfl rfl (hO 3) ?_
  refine E_aload_n dX4_init_31 rfl rfl ?_
  refine E_new (t := 9) (i := (i + 18)) dX4_init_32 (by decide) ck_RX4_27 iw_X9 nw_X9 hF.hd.1 hF.hd.2 hZ.hd (by decide) (by decide) ?_
  have hF := FrL_ad1 (t := 9) (i := (i + 18)) hF.tl rfl
  have hO9 := hZ.hd
  have hZ := hZ.tl
  refine E_dup dX4_init_35 (fun _ q => by cases q) ?_
  refine E_aload_n dX4_init_36 rfl rfl ?_
  refine E_callI (Y' := Y_X9_init) (as := [vR 8 0]) (st := [vR 9 (i + 18), vR 4 i]) dX4_init_37 lk_RX4_29 mi_X9_init ii_X9_init rfl rfl (by decide) (by decide) (by decide) rfl rfl (Nat.le_of_ble_eq_true rfl) (s_X9_init (i := (i + 18)) hF.app.1 hO9 hZ.app.1) (fun r0 B0 σ0 h => ?_)
  obtain ⟨rfl, rfl, rfl⟩ := h
  have hF := FrW_X9 (i := (i + 18)) hF.app.2 rfl
  have hZ := hZ.app.2
  refine E_putr dX4_init_40 fl_RX4_32 rfl rfl rfl rfl rfl rfl ?_
  have hF := FrL_rf1 (t := 4) (i := i) (j := 0) hF rfl
  exact E_vret dX4_init_43 rfl ⟨rfl, rfl, rfl⟩
abbrev Y_X5_init : My := (yX5_init, cX5_init, 3, none)
theorem dX5_init_0 : decode cX5_init 0 = .ok (.aload_n 0, 1) := by decide +kernel
theorem dX5_init_1 : decode cX5_init 1 = .ok (.invokespecial 3, 3) := by decide +kernel
theorem dX5_init_4 : decode cX5_init 4 = .ok (.aload_n 0, 1) := by decide +kernel
theorem dX5_init_5 : decode cX5_init 5 = .ok (.bipush 16, 2) := by decide +kernel
theorem dX5_init_7 : decode cX5_init 7 = .ok (.anewarray 9, 3) := by decide +kernel
theorem dX5_init_10 : decode cX5_init 10 = .ok (.putfield 11, 3) := by decide +kernel
theorem dX5_init_13 : decode cX5_init 13 = .ok (.aload_n 0, 1) := by decide +kernel
theorem dX5_init_14 : decode cX5_init 14 = .ok (.iconst 0, 1) := by decide +kernel
theorem dX5_init_15 : decode cX5_init 15 = .ok (.putfield 17, 3) := by decide +kernel
theorem dX5_init_18 : decode cX5_init 18 = .ok (.iconst 0, 1) := by decide +kernel
theorem dX5_init_19 : decode cX5_init 19 = .ok (.istore_n 2, 1) := by decide +kernel
theorem dX5_init_20 : decode cX5_init 20 = .ok (.iload_n 2, 1) := by decide +kernel
theorem dX5_init_21 : decode cX5_init 21 = .ok (.bipush 16, 2) := by decide +kernel
theorem dX5_init_23 : decode cX5_init 23 = .ok (.if_icmp .ge 23, 3) := by decide +kernel
theorem dX5_init_26 : decode cX5_init 26 = .ok (.aload_n 0, 1) := by decide +kernel
theorem dX5_init_27 : decode cX5_init 27 = .ok (.getfield 11, 3) := by decide +kernel
theorem dX5_init_30 : decode cX5_init 30 = .ok (.iload_n 2, 1) := by decide +kernel
theorem dX5_init_31 : decode cX5_init 31 = .ok (.new 9, 3) := by decide +kernel
theorem dX5_init_34 : decode cX5_init 34 = .ok (.dup, 1) := by decide +kernel
theorem dX5_init_35 : decode cX5_init 35 = .ok (.aload_n 1, 1) := by decide +kernel
theorem dX5_init_36 : decode cX5_init 36 = .ok (.invokespecial 21, 3) := by decide +kernel
theorem dX5_init_39 : decode cX5_init 39 = .ok (.aastore, 1) := by decide +kernel
theorem dX5_init_40 : decode cX5_init 40 = .ok (.iinc 2 1, 3) := by decide +kernel
theorem dX5_init_43 : decode cX5_init 43 = .ok (.goto (-23), 3) := by decide +kernel
theorem dX5_init_46 : decode cX5_init 46 = .ok (.return_, 1) := by decide +kernel
theorem mi_X5_init : MW Y_X5_init 1 := ⟨inG (i := 363) (by decide +kernel) (by decide +kernel), inG (i := 105) (by decide +kernel) (by decide +kernel), by decide, by decide, by decide, by decide +kernel⟩
theorem ii_X5_init : Cond.instanceMethod yX5_init ∈ tG := inG (i := 362) (by decide +kernel) (by decide +kernel)
def LN_X5 (_ : Nat) : List (Nat × Nat) := (600, 0) :: ((9, 2) :: (LN_X9 2 ++ ((9, 3) :: (LN_X9 3 ++ ((9, 4) :: (LN_X9 4 ++ ((9, 5) :: (LN_X9 5 ++ ((9, 6) :: (LN_X9 6 ++ ((9, 7) :: (LN_X9 7 ++ ((9, 8) :: (LN_X9 8 ++ ((9, 9) :: (LN_X9 9 ++ ((9, 10) :: (LN_X9 10 ++ ((9, 11) :: (LN_X9 11 ++ ((9, 12) :: (LN_X9 12 ++ ((9, 13) :: (LN_X9 13 ++ ((9, 14) :: (LN_X9 14 ++ ((9, 15) :: (LN_X9 15 ++ ((9, 16) :: (LN_X9 16 ++ ((9, 17) :: (LN_X9 17 ++ []))))))))))))))))))))))))))))))))
def wN_X5 (B : Wd) (_ : Nat) : Wd := (rf1 (wN_X9 (ad1 (rf1 (wN_X9 (ad1 (rf1 (wN_X9 (ad1 (rf1 (wN_X9 (ad1 (rf1 (wN_X9 (ad1 (rf1 (wN_X9 (ad1 (rf1 (wN_X9 (ad1 (rf1 (wN_X9 (ad1 (rf1 (wN_X9 (ad1 (rf1 (wN_X9 (ad1 (rf1 (wN_X9 (ad1 (rf1 (wN_X9 (ad1 (rf1 (wN_X9 (ad1 (rf1 (wN_X9 (ad1 (rf1 (wN_X9 (ad1 (rf1 (wN_X9 (ad1 (rf1 (ad1 B 600 0) 5 0 0) 9 2) 2) 600 0 (Int.toNat 0)) 9 3) 3) 600 0 (Int.toNat 1)) 9 4) 4) 600 0 (Int.toNat 2)) 9 5) 5) 600 0 (Int.toNat 3)) 9 6) 6) 600 0 (Int.toNat 4)) 9 7) 7) 600 0 (Int.toNat 5)) 9 8) 8) 600 0 (Int.toNat 6)) 9 9) 9) 600 0 (Int.toNat 7)) 9 10) 10) 600 0 (Int.toNat 8)) 9 11) 11) 600 0 (Int.toNat 9)) 9 12) 12) 600 0 (Int.toNat 10)) 9 13) 13) 600 0 (Int.toNat 11)) 9 14) 14) 600 0 (Int.toNat 12)) 9 15) 15) 600 0 (Int.toNat 13)) 9 16) 16) 600 0 (Int.toNat 14)) 9 17) 17) 600 0 (Int.toNat 15))
def CW_X5 (L : List (Nat × Nat)) (_ : Nat) : Bool := (nn L 600 0) && (nn L 5 0) && (nn L 9 2) && (CW_X9 L 2) && (nn L 9 3) && (CW_X9 L 3) && (nn L 9 4) && (CW_X9 L 4) && (nn L 9 5) && (CW_X9 L 5) && (nn L 9 6) && (CW_X9 L 6) && (nn L 9 7) && (CW_X9 L 7) && (nn L 9 8) && (CW_X9 L 8) && (nn L 9 9) && (CW_X9 L 9) && (nn L 9 10) && (CW_X9 L 10) && (nn L 9 11) && (CW_X9 L 11) && (nn L 9 12) && (CW_X9 L 12) && (nn L 9 13) && (CW_X9 L 13) && (nn L 9 14) && (CW_X9 L 14) && (nn L 9 15) && (CW_X9 L 15) && (nn L 9 16) && (CW_X9 L 16) && (nn L 9 17) && (CW_X9 L 17)
theorem FrW_X5 {B : Wd} {L : List (Nat × Nat)} {i : Nat} (hF : FrL B L) (h : CW_X5 L 0 = true) : FrL (wN_X5 B 0) L := by
  unfold CW_X5 at h
  simp only [Bool.and_eq_true] at h
  obtain ⟨⟨⟨⟨⟨⟨⟨⟨⟨⟨⟨⟨⟨⟨⟨⟨⟨⟨⟨⟨⟨⟨⟨⟨⟨⟨⟨⟨⟨⟨⟨⟨⟨c0, c1⟩, c2⟩, c3⟩, c4⟩, c5⟩, c6⟩, c7⟩, c8⟩, c9⟩, c10⟩, c11⟩, c12⟩, c13⟩, c14⟩, c15⟩, c16⟩, c17⟩, c18⟩, c19⟩, c20⟩, c21⟩, c22⟩, c23⟩, c24⟩, c25⟩, c26⟩, c27⟩, c28⟩, c29⟩, c30⟩, c31⟩, c32⟩, c33⟩ := h
  have hF := FrL_ad1 (t := 600) (i := 0) hF c0
  have hF := FrL_rf1 (t := 5) (i := 0) (j := 0) hF c1
  have hF := FrL_ad1 (t := 9) (i := 2) hF c2
  have hF := FrW_X9 (i := 2) hF c3
  have hF := FrL_rf1 (t := 600) (i := 0) (j := (Int.toNat 0)) hF c0
  have hF := FrL_ad1 (t := 9) (i := 3) hF c4
  have hF := FrW_X9 (i := 3) hF c5
  have hF := FrL_rf1 (t := 600) (i := 0) (j := (Int.toNat 1)) hF c0
  have hF := FrL_ad1 (t := 9) (i := 4) hF c6
  have hF := FrW_X9 (i := 4) hF c7
  have hF := FrL_rf1 (t := 600) (i := 0) (j := (Int.toNat 2)) hF c0
  have hF := FrL_ad1 (t := 9) (i := 5) hF c8
  have hF := FrW_X9 (i := 5) hF c9
  have hF := FrL_rf1 (t := 600) (i := 0) (j := (Int.toNat 3)) hF c0
  have hF := FrL_ad1 (t := 9) (i := 6) hF c10
  have hF := FrW_X9 (i := 6) hF c11
  have hF := FrL_rf1 (t := 600) (i := 0) (j := (Int.toNat 4)) hF c0
  have hF := FrL_ad1 (t := 9) (i := 7) hF c12
  have hF := FrW_X9 (i := 7) hF c13
  have hF := FrL_rf1 (t := 600) (i := 0) (j := (Int.toNat 5)) hF c0
  have hF := FrL_ad1 (t := 9) (i := 8) hF c14
  have hF := FrW_X9 (i := 8) hF c15
  have hF := FrL_rf1 (t := 600) (i := 0) (j := (Int.toNat 6)) hF c0
  have hF := FrL_ad1 (t := 9) (i := 9) hF c16
  have hF := FrW_X9 (i := 9) hF c17
  have hF := FrL_rf1 (t := 600) (i := 0) (j := (Int.toNat 7)) hF c0
  have hF := FrL_ad1 (t := 9) (i := 10) hF c18
  have hF := FrW_X9 (i := 10) hF c19
  have hF := FrL_rf1 (t := 600) (i := 0) (j := (Int.toNat 8)) hF c0
  have hF := FrL_ad1 (t := 9) (i := 11) hF c20
  have hF := FrW_X9 (i := 11) hF c21
  have hF := FrL_rf1 (t := 600) (i := 0) (j := (Int.toNat 9)) hF c0
  have hF := FrL_ad1 (t := 9) (i := 12) hF c22
  have hF := FrW_X9 (i := 12) hF c23
  have hF := FrL_rf1 (t := 600) (i := 0) (j := (Int.toNat 10)) hF c0
  have hF := FrL_ad1 (t := 9) (i := 13) hF c24
  have hF := FrW_X9 (i := 13) hF c25
  have hF := FrL_rf1 (t := 600) (i := 0) (j := (Int.toNat 11)) hF c0
  have hF := FrL_ad1 (t := 9) (i := 14) hF c26
  have hF := FrW_X9 (i := 14) hF c27
  have hF := FrL_rf1 (t := 600) (i := 0) (j := (Int.toNat 12)) hF c0
  have hF := FrL_ad1 (t := 9) (i := 15) hF c28
  have hF := FrW_X9 (i := 15) hF c29
  have hF := FrL_rf1 (t := 600) (i := 0) (j := (Int.toNat 13)) hF c0
  have hF := FrL_ad1 (t := 9) (i := 16) hF c30
  have hF := FrW_X9 (i := 16) hF c31
  have hF := FrL_rf1 (t := 600) (i := 0) (j := (Int.toNat 14)) hF c0
  have hF := FrL_ad1 (t := 9) (i := 17) hF c32
  have hF := FrW_X9 (i := 17) hF c33
  have hF := FrL_rf1 (t := 600) (i := 0) (j := (Int.toNat 15)) hF c0
  exact hF
theorem BdN_X5 {B : Wd} {i : Nat} (h : BdW B) : BdW (wN_X5 B 0) := by
  have h := BdW_ad1 (t := 600) (i := 0) h
  have h := BdW_rf1 (t := 5) (i := 0) (j := 0) h (by decide +kernel)
  have h := BdW_ad1 (t := 9) (i := 2) h
  have h := BdN_X9 (i := 2) h
  have h := BdW_rf1 (t := 600) (i := 0) (j := (Int.toNat 0)) h (by decide +kernel)
  have h := BdW_ad1 (t := 9) (i := 3) h
  have h := BdN_X9 (i := 3) h
  have h := BdW_rf1 (t := 600) (i := 0) (j := (Int.toNat 1)) h (by decide +kernel)
  have h := BdW_ad1 (t := 9) (i := 4) h
  have h := BdN_X9 (i := 4) h
  have h := BdW_rf1 (t := 600) (i := 0) (j := (Int.toNat 2)) h (by decide +kernel)
  have h := BdW_ad1 (t := 9) (i := 5) h
  have h := BdN_X9 (i := 5) h
  have h := BdW_rf1 (t := 600) (i := 0) (j := (Int.toNat 3)) h (by decide +kernel)
  have h := BdW_ad1 (t := 9) (i := 6) h
  have h := BdN_X9 (i := 6) h
  have h := BdW_rf1 (t := 600) (i := 0) (j := (Int.toNat 4)) h (by decide +kernel)
  have h := BdW_ad1 (t := 9) (i := 7) h
  have h := BdN_X9 (i := 7) h
  have h := BdW_rf1 (t := 600) (i := 0) (j := (Int.toNat 5)) h (by decide +kernel)
  have h := BdW_ad1 (t := 9) (i := 8) h
  have h := BdN_X9 (i := 8) h
  have h := BdW_rf1 (t := 600) (i := 0) (j := (Int.toNat 6)) h (by decide +kernel)
  have h := BdW_ad1 (t := 9) (i := 9) h
  have h := BdN_X9 (i := 9) h
  have h := BdW_rf1 (t := 600) (i := 0) (j := (Int.toNat 7)) h (by decide +kernel)
  have h := BdW_ad1 (t := 9) (i := 10) h
  have h := BdN_X9 (i := 10) h
  have h := BdW_rf1 (t := 600) (i := 0) (j := (Int.toNat 8)) h (by decide +kernel)
  have h := BdW_ad1 (t := 9) (i := 11) h
  have h := BdN_X9 (i := 11) h
  have h := BdW_rf1 (t := 600) (i := 0) (j := (Int.toNat 9)) h (by decide +kernel)
  have h := BdW_ad1 (t := 9) (i := 12) h
  have h := BdN_X9 (i := 12) h
  have h := BdW_rf1 (t := 600) (i := 0) (j := (Int.toNat 10)) h (by decide +kernel)
  have h := BdW_ad1 (t := 9) (i := 13) h
  have h := BdN_X9 (i := 13) h
  have h := BdW_rf1 (t := 600) (i := 0) (j := (Int.toNat 11)) h (by decide +kernel)
  have h := BdW_ad1 (t := 9) (i := 14) h
  have h := BdN_X9 (i := 14) h
  have h := BdW_rf1 (t := 600) (i := 0) (j := (Int.toNat 12)) h (by decide +kernel)
  have h := BdW_ad1 (t := 9) (i := 15) h
  have h := BdN_X9 (i := 15) h
  have h := BdW_rf1 (t := 600) (i := 0) (j := (Int.toNat 13)) h (by decide +kernel)
  have h := BdW_ad1 (t := 9) (i := 16) h
  have h := BdN_X9 (i := 16) h
  have h := BdW_rf1 (t := 600) (i := 0) (j := (Int.toNat 14)) h (by decide +kernel)
  have h := BdW_ad1 (t := 9) (i := 17) h
  have h := BdN_X9 (i := 17) h
  have h := BdW_rf1 (t := 600) (i := 0) (j := (Int.toNat 15)) h (by decide +kernel)
  exact h
set_option maxRecDepth 20000 in
set_option maxHeartbeats 4000000 in
theorem s_X5_init {B : Wd} {i : Nat} {σ : St} (hF : FrL B (LN_X5 0)) (hO : ∀ j : Nat, σ 5 0 j = 0) (hZ : ZeL σ (LN_X5 0)) (h6 : ∀ j : Nat, j < 16 → go σ 600 0 j = (9, j + 2)) : Cn Y_X5_init 2 129 896 B σ [vR 5 0, vR 8 0] (fun r B' σ' => r = none ∧ B' = wN_X5 B 0 ∧ σ' = σ) := by
  refine Cn_of [some (vR 5 0), some (vR 8 0), none] (by decide) (Nat.le_of_ble_eq_true rfl) rfl ?_
  unfold LN_X5 at hF hZ
  skip
  refine E_aload_n dX5_init_0 rfl rfl ?_
  refine E_oini dX5_init_1 lo_RX5_3 (by decide) (Nat.le_of_ble_eq_true rfl) ?_
  refine E_aload_n dX5_init_4 rfl rfl ?_
  refine E_bp dX5_init_5 rfl ?_
  refine E_newq (t := 600) (i := 0) (C := "CashBalls$State") dX5_init_7 sh_600 (by decide) rfl (by decide) ck_RX5_9 hF.hd.1 hF.hd.2 (by decide) (by decide) ?_
  have hF := FrL_ad1 (t := 600) (i := 0) hF.tl (by decide +kernel)
  have hZ := hZ.tl
  refine E_putr dX5_init_10 fl_RX5_11 rfl rfl rfl rfl rfl rfl ?_
  have hF := FrL_rf1 (t := 5) (i := 0) (j := 0) hF (by decide +kernel)
  refine E_aload_n dX5_init_13 rfl rfl ?_
  refine E_ic dX5_init_14 rfl ?_
  refine E_puti0 dX5_init_15 fl_RX5_17 rfl rfl rfl (hO 1) ?_
  refine E_ic dX5_init_18 rfl ?_
  refine E_istore_n (ls' := [some (vR 5 0), some (vR 8 0), some (vI 0)]) dX5_init_19 rfl (by decide) rfl ?_
  refine E_iload_n dX5_init_20 rfl rfl ?_
  refine E_bp dX5_init_21 rfl ?_
  refine E_icmp_ge (tgt := 46) dX5_init_23 (by decide) (fun hc => ?_) (fun hc => ?_)
  · exact absurd hc (by decide)
  refine E_aload_n dX5_init_26 rfl rfl ?_
  refine E_getr (i := 0) (t' := 600) (i' := 0) dX5_init_27 fl_RX5_11 rfl rfl rfl ?_
  refine E_iload_n dX5_init_30 rfl rfl ?_
  refine E_new (t := 9) (i := 2) dX5_init_31 (by decide) ck_RX5_9 iw_X9 nw_X9 hF.hd.1 hF.hd.2 hZ.hd (by decide) (by decide) ?_
  have hF := FrL_ad1 (t := 9) (i := 2) hF.tl (by decide +kernel)
  have hO9 := hZ.hd
  have hZ := hZ.tl
  refine E_dup dX5_init_34 (fun _ q => by cases q) ?_
  refine E_aload_n dX5_init_35 rfl rfl ?_
  refine E_callI (Y' := Y_X9_init) (as := [vR 8 0]) (st := [vR 9 2, vI 0, vR 600 0]) dX5_init_36 lk_RX5_21 mi_X9_init ii_X9_init rfl rfl (by decide) (by decide) (by decide) rfl rfl (Nat.le_of_ble_eq_true rfl) (s_X9_init (i := 2) hF.app.1 hO9 hZ.app.1) (fun r0 B0 σ0 h => ?_)
  obtain ⟨rfl, rfl, rfl⟩ := h
  have hF := FrW_X9 (i := 2) hF.app.2 (by decide +kernel)
  have hZ := hZ.app.2
  refine E_mast dX5_init_39 sh_600 (by decide) (by decide) (by decide) (h6 0 (by decide)) ?_
  have hF := FrL_rf1 (t := 600) (i := 0) (j := (Int.toNat 0)) hF (by decide +kernel)
  refine E_iinc (ls' := [some (vR 5 0), some (vR 8 0), some (vI 1)]) dX5_init_40 rfl (by decide) rfl rfl ?_
  refine E_goto (tgt := 20) dX5_init_43 (by decide) ?_
  refine E_iload_n dX5_init_20 rfl rfl ?_
  refine E_bp dX5_init_21 rfl ?_
  refine E_icmp_ge (tgt := 46) dX5_init_23 (by decide) (fun hc => ?_) (fun hc => ?_)
  · exact absurd hc (by decide)
  refine E_aload_n dX5_init_26 rfl rfl ?_
  refine E_getr (i := 0) (t' := 600) (i' := 0) dX5_init_27 fl_RX5_11 rfl rfl rfl ?_
  refine E_iload_n dX5_init_30 rfl rfl ?_
  refine E_new (t := 9) (i := 3) dX5_init_31 (by decide) ck_RX5_9 iw_X9 nw_X9 hF.hd.1 hF.hd.2 hZ.hd (by decide) (by decide) ?_
  have hF := FrL_ad1 (t := 9) (i := 3) hF.tl (by decide +kernel)
  have hO9 := hZ.hd
  have hZ := hZ.tl
  refine E_dup dX5_init_34 (fun _ q => by cases q) ?_
  refine E_aload_n dX5_init_35 rfl rfl ?_
  refine E_callI (Y' := Y_X9_init) (as := [vR 8 0]) (st := [vR 9 3, vI 1, vR 600 0]) dX5_init_36 lk_RX5_21 mi_X9_init ii_X9_init rfl rfl (by decide) (by decide) (by decide) rfl rfl (Nat.le_of_ble_eq_true rfl) (s_X9_init (i := 3) hF.app.1 hO9 hZ.app.1) (fun r0 B0 σ0 h => ?_)
  obtain ⟨rfl, rfl, rfl⟩ := h
  have hF := FrW_X9 (i := 3) hF.app.2 (by decide +kernel)
  have hZ := hZ.app.2
  refine E_mast dX5_init_39 sh_600 (by decide) (by decide) (by decide) (h6 1 (by decide)) ?_
  have hF := FrL_rf1 (t := 600) (i := 0) (j := (Int.toNat 1)) hF (by decide +kernel)
  refine E_iinc (ls' := [some (vR 5 0), some (vR 8 0), some (vI 2)]) dX5_init_40 rfl (by decide) rfl rfl ?_
  refine E_goto (tgt := 20) dX5_init_43 (by decide) ?_
  refine E_iload_n dX5_init_20 rfl rfl ?_
  refine E_bp dX5_init_21 rfl ?_
  refine E_icmp_ge (tgt := 46) dX5_init_23 (by decide) (fun hc => ?_) (fun hc => ?_)
  · exact absurd hc (by decide)
  refine E_aload_n dX5_init_26 rfl rfl ?_
  refine E_getr (i := 0) (t' := 600) (i' := 0) dX5_init_27 fl_RX5_11 rfl rfl rfl ?_
  refine E_iload_n dX5_init_30 rfl rfl ?_
  refine E_new (t := 9) (i := 4) dX5_init_31 (by decide) ck_RX5_9 iw_X9 nw_X9 hF.hd.1 hF.hd.2 hZ.hd (by decide) (by decide) ?_
  have hF := FrL_ad1 (t := 9) (i := 4) hF.tl (by decide +kernel)
  have hO9 := hZ.hd
  have hZ := hZ.tl
  refine E_dup dX5_init_34 (fun _ q => by cases q) ?_
  refine E_aload_n dX5_init_35 rfl rfl ?_
  refine E_callI (Y' := Y_X9_init) (as := [vR 8 0]) (st := [vR 9 4, vI 2, vR 600 0]) dX5_init_36 lk_RX5_21 mi_X9_init ii_X9_init rfl rfl (by decide) (by decide) (by decide) rfl rfl (Nat.le_of_ble_eq_true rfl) (s_X9_init (i := 4) hF.app.1 hO9 hZ.app.1) (fun r0 B0 σ0 h => ?_)
  obtain ⟨rfl, rfl, rfl⟩ := h
  have hF := FrW_X9 (i := 4) hF.app.2 (by decide +kernel)
  have hZ := hZ.app.2
  refine E_mast dX5_init_39 sh_600 (by decide) (by decide) (by decide) (h6 2 (by decide)) ?_
  have hF := FrL_rf1 (t := 600) (i := 0) (j := (Int.toNat 2)) hF (by decide +kernel)
  refine E_iinc (ls' := [some (vR 5 0), some (vR 8 0), some (vI 3)]) dX5_init_40 rfl (by decide) rfl rfl ?_
  refine E_goto (tgt := 20) dX5_init_43 (by decide) ?_
  refine E_iload_n dX5_init_20 rfl rfl ?_
  refine E_bp dX5_init_21 rfl ?_
  refine E_icmp_ge (tgt := 46) dX5_init_23 (by decide) (fun hc => ?_) (fun hc => ?_)
  · exact absurd hc (by decide)
  refine E_aload_n dX5_init_26 rfl rfl ?_
  refine E_getr (i := 0) (t' := 600) (i' := 0) dX5_init_27 fl_RX5_11 rfl rfl rfl ?_
  refine E_iload_n dX5_init_30 rfl rfl ?_
  refine E_new (t := 9) (i := 5) dX5_init_31 (by decide) ck_RX5_9 iw_X9 nw_X9 hF.hd.1 hF.hd.2 hZ.hd (by decide) (by decide) ?_
  have hF := FrL_ad1 (t := 9) (i := 5) hF.tl (by decide +kernel)
  have hO9 := hZ.hd
  have hZ := hZ.tl
  refine E_dup dX5_init_34 (fun _ q => by cases q) ?_
  refine E_aload_n dX5_init_35 rfl rfl ?_
  refine E_callI (Y' := Y_X9_init) (as := [vR 8 0]) (st := [vR 9 5, vI 3, vR 600 0]) dX5_init_36 lk_RX5_21 mi_X9_init ii_X9_init rfl rfl (by decide) (by decide) (by decide) rfl rfl (Nat.le_of_ble_eq_true rfl) (s_X9_init (i := 5) hF.app.1 hO9 hZ.app.1) (fun r0 B0 σ0 h => ?_)
  obtain ⟨rfl, rfl, rfl⟩ := h
  have hF := FrW_X9 (i := 5) hF.app.2 (by decide +kernel)
  have hZ := hZ.app.2
  refine E_mast dX5_init_39 sh_600 (by decide) (by decide) (by decide) (h6 3 (by decide)) ?_
  have hF := FrL_rf1 (t := 600) (i := 0) (j := (Int.toNat 3)) hF (by decide +kernel)
  refine E_iinc (ls' := [some (vR 5 0), some (vR 8 0), some (vI 4)]) dX5_init_40 rfl (by decide) rfl rfl ?_
  refine E_goto (tgt := 20) dX5_init_43 (by decide) ?_
  refine E_iload_n dX5_init_20 rfl rfl ?_
  refine E_bp dX5_init_21 rfl ?_
  refine E_icmp_ge (tgt := 46) dX5_init_23 (by decide) (fun hc => ?_) (fun hc => ?_)
  · exact absurd hc (by decide)
  refine E_aload_n dX5_init_26 rfl rfl ?_
  refine E_getr (i := 0) (t' := 600) (i' := 0) dX5_init_27 fl_RX5_11 rfl rfl rfl ?_
  refine E_iload_n dX5_init_30 rfl rfl ?_
  refine E_new (t := 9) (i := 6) dX5_init_31 (by decide) ck_RX5_9 iw_X9 nw_X9 hF.hd.1 hF.hd.2 hZ.hd (by decide) (by decide) ?_
  have hF := FrL_ad1 (t := 9) (i := 6) hF.tl (by decide +kernel)
  have hO9 := hZ.hd
  have hZ := hZ.tl
  refine E_dup dX5_init_34 (fun _ q => by cases q) ?_
  refine E_aload_n dX5_init_35 rfl rfl ?_
  refine E_callI (Y' := Y_X9_init) (as := [vR 8 0]) (st := [vR 9 6, vI 4, vR 600 0]) dX5_init_36 lk_RX5_21 mi_X9_init ii_X9_init rfl rfl (by decide) (by decide) (by decide) rfl rfl (Nat.le_of_ble_eq_true rfl) (s_X9_init (i := 6) hF.app.1 hO9 hZ.app.1) (fun r0 B0 σ0 h => ?_)
  obtain ⟨rfl, rfl, rfl⟩ := h
  have hF := FrW_X9 (i := 6) hF.app.2 (by decide +kernel)
  have hZ := hZ.app.2
  refine E_mast dX5_init_39 sh_600 (by decide) (by decide) (by decide) (h6 4 (by decide)) ?_
  have hF := FrL_rf1 (t := 600) (i := 0) (j := (Int.toNat 4)) hF (by decide +kernel)
  refine E_iinc (ls' := [some (vR 5 0), some (vR 8 0), some (vI 5)]) dX5_init_40 rfl (by decide) rfl rfl ?_
  refine E_goto (tgt := 20) dX5_init_43 (by decide) ?_
  refine E_iload_n dX5_init_20 rfl rfl ?_
  refine E_bp dX5_init_21 rfl ?_
  refine E_icmp_ge (tgt := 46) dX5_init_23 (by decide) (fun hc => ?_) (fun hc => ?_)
  · exact absurd hc (by decide)
  refine E_aload_n dX5_init_26 rfl rfl ?_
  refine E_getr (i := 0) (t' := 600) (i' := 0) dX5_init_27 fl_RX5_11 rfl rfl rfl ?_
  refine E_iload_n dX5_init_30 rfl rfl ?_
  refine E_new (t := 9) (i := 7) dX5_init_31 (by decide) ck_RX5_9 iw_X9 nw_X9 hF.hd.1 hF.hd.2 hZ.hd (by decide) (by decide) ?_
  have hF := FrL_ad1 (t := 9) (i := 7) hF.tl (by decide +kernel)
  have hO9 := hZ.hd
  have hZ := hZ.tl
  refine E_dup dX5_init_34 (fun _ q => by cases q) ?_
  refine E_aload_n dX5_init_35 rfl rfl ?_
  refine E_callI (Y' := Y_X9_init) (as := [vR 8 0]) (st := [vR 9 7, vI 5, vR 600 0]) dX5_init_36 lk_RX5_21 mi_X9_init ii_X9_init rfl rfl (by decide) (by decide) (by decide) rfl rfl (Nat.le_of_ble_eq_true rfl) (s_X9_init (i := 7) hF.app.1 hO9 hZ.app.1) (fun r0 B0 σ0 h => ?_)
  obtain ⟨rfl, rfl, rfl⟩ := h
  have hF := FrW_X9 (i := 7) hF.app.2 (by decide +kernel)
  have hZ := hZ.app.2
  refine E_mast dX5_init_39 sh_600 (by decide) (by decide) (by decide) (h6 5 (by decide)) ?_
  have hF := FrL_rf1 (t := 600) (i := 0) (j := (Int.toNat 5)) hF (by decide +kernel)
  refine E_iinc (ls' := [some (vR 5 0), some (vR 8 0), some (vI 6)]) dX5_init_40 rfl (by decide) rfl rfl ?_
  refine E_goto (tgt := 20) dX5_init_43 (by decide) ?_
  refine E_iload_n dX5_init_20 rfl rfl ?_
  refine E_bp dX5_init_21 rfl ?_
  refine E_icmp_ge (tgt := 46) dX5_init_23 (by decide) (fun hc => ?_) (fun hc => ?_)
  · exact absurd hc (by decide)
  refine E_aload_n dX5_init_26 rfl rfl ?_
  refine E_getr (i := 0) (t' := 600) (i' := 0) dX5_init_27 fl_RX5_11 rfl rfl rfl ?_
  refine E_iload_n dX5_init_30 rfl rfl ?_
  refine E_new (t := 9) (i := 8) dX5_init_31 (by decide) ck_RX5_9 iw_X9 nw_X9 hF.hd.1 hF.hd.2 hZ.hd (by decide) (by decide) ?_
  have hF := FrL_ad1 (t := 9) (i := 8) hF.tl (by decide +kernel)
  have hO9 := hZ.hd
  have hZ := hZ.tl
  refine E_dup dX5_init_34 (fun _ q => by cases q) ?_
  refine E_aload_n dX5_init_35 rfl rfl ?_
  refine E_callI (Y' := Y_X9_init) (as := [vR 8 0]) (st := [vR 9 8, vI 6, vR 600 0]) dX5_init_36 lk_RX5_21 mi_X9_init ii_X9_init rfl rfl (by decide) (by decide) (by decide) rfl rfl (Nat.le_of_ble_eq_true rfl) (s_X9_init (i := 8) hF.app.1 hO9 hZ.app.1) (fun r0 B0 σ0 h => ?_)
  obtain ⟨rfl, rfl, rfl⟩ := h
  have hF := FrW_X9 (i := 8) hF.app.2 (by decide +kernel)
  have hZ := hZ.app.2
  refine E_mast dX5_init_39 sh_600 (by decide) (by decide) (by decide) (h6 6 (by decide)) ?_
  have hF := FrL_rf1 (t := 600) (i := 0) (j := (Int.toNat 6)) hF (by decide +kernel)
  refine E_iinc (ls' := [some (vR 5 0), some (vR 8 0), some (vI 7)]) dX5_init_40 rfl (by decide) rfl rfl ?_
  refine E_goto (tgt := 20) dX5_init_43 (by decide) ?_
  refine E_iload_n dX5_init_20 rfl rfl ?_
  refine E_bp dX5_init_21 rfl ?_
  refine E_icmp_ge (tgt := 46) dX5_init_23 (by decide) (fun hc => ?_) (fun hc => ?_)
  · exact absurd hc (by decide)
  refine E_aload_n dX5_init_26 rfl rfl ?_
  refine E_getr (i := 0) (t' := 600) (i' := 0) dX5_init_27 fl_RX5_11 rfl rfl rfl ?_
  refine E_iload_n dX5_init_30 rfl rfl ?_
  refine E_new (t := 9) (i := 9) dX5_init_31 (by decide) ck_RX5_9 iw_X9 nw_X9 hF.hd.1 hF.hd.2 hZ.hd (by decide) (by decide) ?_
  have hF := FrL_ad1 (t := 9) (i := 9) hF.tl (by decide +kernel)
  have hO9 := hZ.hd
  have hZ := hZ.tl
  refine E_dup dX5_init_34 (fun _ q => by cases q) ?_
  refine E_aload_n dX5_init_35 rfl rfl ?_
  refine E_callI (Y' := Y_X9_init) (as := [vR 8 0]) (st := [vR 9 9, vI 7, vR 600 0]) dX5_init_36 lk_RX5_21 mi_X9_init ii_X9_init rfl rfl (by decide) (by decide) (by decide) rfl rfl (Nat.le_of_ble_eq_true rfl) (s_X9_init (i := 9) hF.app.1 hO9 hZ.app.1) (fun r0 B0 σ0 h => ?_)
  obtain ⟨rfl, rfl, rfl⟩ := h
  have hF := FrW_X9 (i := 9) hF.app.2 (by decide +kernel)
  have hZ := hZ.app.2
  refine E_mast dX5_init_39 sh_600 (by decide) (by decide) (by decide) (h6 7 (by decide)) ?_
  have hF := FrL_rf1 (t := 600) (i := 0) (j := (Int.toNat 7)) hF (by decide +kernel)
  refine E_iinc (ls' := [some (vR 5 0), some (vR 8 0), some (vI 8)]) dX5_init_40 rfl (by decide) rfl rfl ?_
  refine E_goto (tgt := 20) dX5_init_43 (by decide) ?_
  refine E_iload_n dX5_init_20 rfl rfl ?_
  refine E_bp dX5_init_21 rfl ?_
  refine E_icmp_ge (tgt := 46) dX5_init_23 (by decide) (fun hc => ?_) (fun hc => ?_)
  · exact absurd hc (by decide)
  refine E_aload_n dX5_init_26 rfl rfl ?_
  refine E_getr (i := 0) (t' := 600) (i' := 0) dX5_init_27 fl_RX5_11 rfl rfl rfl ?_
  refine E_iload_n dX5_init_30 rfl rfl ?_
  refine E_new (t := 9) (i := 10) dX5_init_31 (by decide) ck_RX5_9 iw_X9 nw_X9 hF.hd.1 hF.hd.2 hZ.hd (by decide) (by decide) ?_
  have hF := FrL_ad1 (t := 9) (i := 10) hF.tl (by decide +kernel)
  have hO9 := hZ.hd
  have hZ := hZ.tl
  refine E_dup dX5_init_34 (fun _ q => by cases q) ?_
  refine E_aload_n dX5_init_35 rfl rfl ?_
  refine E_callI (Y' := Y_X9_init) (as := [vR 8 0]) (st := [vR 9 10, vI 8, vR 600 0]) dX5_init_36 lk_RX5_21 mi_X9_init ii_X9_init rfl rfl (by decide) (by decide) (by decide) rfl rfl (Nat.le_of_ble_eq_true rfl) (s_X9_init (i := 10) hF.app.1 hO9 hZ.app.1) (fun r0 B0 σ0 h => ?_)
  obtain ⟨rfl, rfl, rfl⟩ := h
  have hF := FrW_X9 (i := 10) hF.app.2 (by decide +kernel)
  have hZ := hZ.app.2
  refine E_mast dX5_init_39 sh_600 (by decide) (by decide) (by decide) (h6 8 (by decide)) ?_
  have hF := FrL_rf1 (t := 600) (i := 0) (j := (Int.toNat 8)) hF (by decide +kernel)
  refine E_iinc (ls' := [some (vR 5 0), some (vR 8 0), some (vI 9)]) dX5_init_40 rfl (by decide) rfl rfl ?_
  refine E_goto (tgt := 20) dX5_init_43 (by decide) ?_
  refine E_iload_n dX5_init_20 rfl rfl ?_
  refine E_bp dX5_init_21 rfl ?_
  refine E_icmp_ge (tgt := 46) dX5_init_23 (by decide) (fun hc => ?_) (fun hc => ?_)
  · exact absurd hc (by decide)
  refine E_aload_n dX5_init_26 rfl rfl ?_
  refine E_getr (i := 0) (t' := 600) (i' := 0) dX5_init_27 fl_RX5_11 rfl rfl rfl ?_
  refine E_iload_n dX5_init_30 rfl rfl ?_
  refine E_new (t := 9) (i := 11) dX5_init_31 (by decide) ck_RX5_9 iw_X9 nw_X9 hF.hd.1 hF.hd.2 hZ.hd (by decide) (by decide) ?_
  have hF := FrL_ad1 (t := 9) (i := 11) hF.tl (by decide +kernel)
  have hO9 := hZ.hd
  have hZ := hZ.tl
  refine E_dup dX5_init_34 (fun _ q => by cases q) ?_
  refine E_aload_n dX5_init_35 rfl rfl ?_
  refine E_callI (Y' := Y_X9_init) (as := [vR 8 0]) (st := [vR 9 11, vI 9, vR 600 0]) dX5_init_36 lk_RX5_21 mi_X9_init ii_X9_init rfl rfl (by decide) (by decide) (by decide) rfl rfl (Nat.le_of_ble_eq_true rfl) (s_X9_init (i := 11) hF.app.1 hO9 hZ.app.1) (fun r0 B0 σ0 h => ?_)
  obtain ⟨rfl, rfl, rfl⟩ := h
  have hF := FrW_X9 (i := 11) hF.app.2 (by decide +kernel)
  have hZ := hZ.app.2
  refine E_mast dX5_init_39 sh_600 (by decide) (by decide) (by decide) (h6 9 (by decide)) ?_
  have hF := FrL_rf1 (t := 600) (i := 0) (j := (Int.toNat 9)) hF (by decide +kernel)
  refine E_iinc (ls' := [some (vR 5 0), some (vR 8 0), some (vI 10)]) dX5_init_40 rfl (by decide) rfl rfl ?_
  refine E_goto (tgt := 20) dX5_init_43 (by decide) ?_
  refine E_iload_n dX5_init_20 rfl rfl ?_
  refine E_bp dX5_init_21 rfl ?_
  refine E_icmp_ge (tgt := 46) dX5_init_23 (by decide) (fun hc => ?_) (fun hc => ?_)
  · exact absurd hc (by decide)
  refine E_aload_n dX5_init_26 rfl rfl ?_
  refine E_getr (i := 0) (t' := 600) (i' := 0) dX5_init_27 fl_RX5_11 rfl rfl rfl ?_
  refine E_iload_n dX5_init_30 rfl rfl ?_
  refine E_new (t := 9) (i := 12) dX5_init_31 (by decide) ck_RX5_9 iw_X9 nw_X9 hF.hd.1 hF.hd.2 hZ.hd (by decide) (by decide) ?_
  have hF := FrL_ad1 (t := 9) (i := 12) hF.tl (by decide +kernel)
  have hO9 := hZ.hd
  have hZ := hZ.tl
  refine E_dup dX5_init_34 (fun _ q => by cases q) ?_
  refine E_aload_n dX5_init_35 rfl rfl ?_
  refine E_callI (Y' := Y_X9_init) (as := [vR 8 0]) (st := [vR 9 12, vI 10, vR 600 0]) dX5_init_36 lk_RX5_21 mi_X9_init ii_X9_init rfl rfl (by decide) (by decide) (by decide) rfl rfl (Nat.le_of_ble_eq_true rfl) (s_X9_init (i := 12) hF.app.1 hO9 hZ.app.1) (fun r0 B0 σ0 h => ?_)
  obtain ⟨rfl, rfl, rfl⟩ := h
  have hF := FrW_X9 (i := 12) hF.app.2 (by decide +kernel)
  have hZ := hZ.app.2
  refine E_mast dX5_init_39 sh_600 (by decide) (by decide) (by decide) (h6 10 (by decide)) ?_
  have hF := FrL_rf1 (t := 600) (i := 0) (j := (Int.toNat 10)) hF (by decide +kernel)
  refine E_iinc (ls' := [some (vR 5 0), some (vR 8 0), some (vI 11)]) dX5_init_40 rfl (by decide) rfl rfl ?_
  refine E_goto (tgt := 20) dX5_init_43 (by decide) ?_
  refine E_iload_n dX5_init_20 rfl rfl ?_
  refine E_bp dX5_init_21 rfl ?_
  refine E_icmp_ge (tgt := 46) dX5_init_23 (by decide) (fun hc => ?_) (fun hc => ?_)
  · exact absurd hc (by decide)
  refine E_aload_n dX5_init_26 rfl rfl ?_
  refine E_getr (i := 0) (t' := 600) (i' := 0) dX5_init_27 fl_RX5_11 rfl rfl rfl ?_
  refine E_iload_n dX5_init_30 rfl rfl ?_
  refine E_new (t := 9) (i := 13) dX5_init_31 (by decide) ck_RX5_9 iw_X9 nw_X9 hF.hd.1 hF.hd.2 hZ.hd (by decide) (by decide) ?_
  have hF := FrL_ad1 (t := 9) (i := 13) hF.tl (by decide +kernel)
  have hO9 := hZ.hd
  have hZ := hZ.tl
  refine E_dup dX5_init_34 (fun _ q => by cases q) ?_
  refine E_aload_n dX5_init_35 rfl rfl ?_
  refine E_callI (Y' := Y_X9_init) (as := [vR 8 0]) (st := [vR 9 13, vI 11, vR 600 0]) dX5_init_36 lk_RX5_21 mi_X9_init ii_X9_init rfl rfl (by decide) (by decide) (by decide) rfl rfl (Nat.le_of_ble_eq_true rfl) (s_X9_init (i := 13) hF.app.1 hO9 hZ.app.1) (fun r0 B0 σ0 h => ?_)
  obtain ⟨rfl, rfl, rfl⟩ := h
  have hF := FrW_X9 (i := 13) hF.app.2 (by decide +kernel)
  have hZ := hZ.app.2
  refine E_mast dX5_init_39 sh_600 (by decide) (by decide) (by decide) (h6 11 (by decide)) ?_
  have hF := FrL_rf1 (t := 600) (i := 0) (j := (Int.toNat 11)) hF (by decide +kernel)
  refine E_iinc (ls' := [some (vR 5 0), some (vR 8 0), some (vI 12)]) dX5_init_40 rfl (by decide) rfl rfl ?_
  refine E_goto (tgt := 20) dX5_init_43 (by decide) ?_
  refine E_iload_n dX5_init_20 rfl rfl ?_
  refine E_bp dX5_init_21 rfl ?_
  refine E_icmp_ge (tgt := 46) dX5_init_23 (by decide) (fun hc => ?_) (fun hc => ?_)
  · exact absurd hc (by decide)
  refine E_aload_n dX5_init_26 rfl rfl ?_
  refine E_getr (i := 0) (t' := 600) (i' := 0) dX5_init_27 fl_RX5_11 rfl rfl rfl ?_
  refine E_iload_n dX5_init_30 rfl rfl ?_
  refine E_new (t := 9) (i := 14) dX5_init_31 (by decide) ck_RX5_9 iw_X9 nw_X9 hF.hd.1 hF.hd.2 hZ.hd (by decide) (by decide) ?_
  have hF := FrL_ad1 (t := 9) (i := 14) hF.tl (by decide +kernel)
  have hO9 := hZ.hd
  have hZ := hZ.tl
  refine E_dup dX5_init_34 (fun _ q => by cases q) ?_
  refine E_aload_n dX5_init_35 rfl rfl ?_
  refine E_callI (Y' := Y_X9_init) (as := [vR 8 0]) (st := [vR 9 14, vI 12, vR 600 0]) dX5_init_36 lk_RX5_21 mi_X9_init ii_X9_init rfl rfl (by decide) (by decide) (by decide) rfl rfl (Nat.le_of_ble_eq_true rfl) (s_X9_init (i := 14) hF.app.1 hO9 hZ.app.1) (fun r0 B0 σ0 h => ?_)
  obtain ⟨rfl, rfl, rfl⟩ := h
  have hF := FrW_X9 (i := 14) hF.app.2 (by decide +kernel)
  have hZ := hZ.app.2
  refine E_mast dX5_init_39 sh_600 (by decide) (by decide) (by decide) (h6 12 (by decide)) ?_
  have hF := FrL_rf1 (t := 600) (i := 0) (j := (Int.toNat 12)) hF (by decide +kernel)
  refine E_iinc (ls' := [some (vR 5 0), some (vR 8 0), some (vI 13)]) dX5_init_40 rfl (by decide) rfl rfl ?_
  refine E_goto (tgt := 20) dX5_init_43 (by decide) ?_
  refine E_iload_n dX5_init_20 rfl rfl ?_
  refine E_bp dX5_init_21 rfl ?_
  refine E_icmp_ge (tgt := 46) dX5_init_23 (by decide) (fun hc => ?_) (fun hc => ?_)
  · exact absurd hc (by decide)
  refine E_aload_n dX5_init_26 rfl rfl ?_
  refine E_getr (i := 0) (t' := 600) (i' := 0) dX5_init_27 fl_RX5_11 rfl rfl rfl ?_
  refine E_iload_n dX5_init_30 rfl rfl ?_
  refine E_new (t := 9) (i := 15) dX5_init_31 (by decide) ck_RX5_9 iw_X9 nw_X9 hF.hd.1 hF.hd.2 hZ.hd (by decide) (by decide) ?_
  have hF := FrL_ad1 (t := 9) (i := 15) hF.tl (by decide +kernel)
  have hO9 := hZ.hd
  have hZ := hZ.tl
  refine E_dup dX5_init_34 (fun _ q => by cases q) ?_
  refine E_aload_n dX5_init_35 rfl rfl ?_
  refine E_callI (Y' := Y_X9_init) (as := [vR 8 0]) (st := [vR 9 15, vI 13, vR 600 0]) dX5_init_36 lk_RX5_21 mi_X9_init ii_X9_init rfl rfl (by decide) (by decide) (by decide) rfl rfl (Nat.le_of_ble_eq_true rfl) (s_X9_init (i := 15) hF.app.1 hO9 hZ.app.1) (fun r0 B0 σ0 h => ?_)
  obtain ⟨rfl, rfl, rfl⟩ := h
  have hF := FrW_X9 (i := 15) hF.app.2 (by decide +kernel)
  have hZ := hZ.app.2
  refine E_mast dX5_init_39 sh_600 (by decide) (by decide) (by decide) (h6 13 (by decide)) ?_
  have hF := FrL_rf1 (t := 600) (i := 0) (j := (Int.toNat 13)) hF (by decide +kernel)
  refine E_iinc (ls' := [some (vR 5 0), some (vR 8 0), some (vI 14)]) dX5_init_40 rfl (by decide) rfl rfl ?_
  refine E_goto (tgt := 20) dX5_init_43 (by decide) ?_
  refine E_iload_n dX5_init_20 rfl rfl ?_
  refine E_bp dX5_init_21 rfl ?_
  refine E_icmp_ge (tgt := 46) dX5_init_23 (by decide) (fun hc => ?_) (fun hc => ?_)
  · exact absurd hc (by decide)
  refine E_aload_n dX5_init_26 rfl rfl ?_
  refine E_getr (i := 0) (t' := 600) (i' := 0) dX5_init_27 fl_RX5_11 rfl rfl rfl ?_
  refine E_iload_n dX5_init_30 rfl rfl ?_
  refine E_new (t := 9) (i := 16) dX5_init_31 (by decide) ck_RX5_9 iw_X9 nw_X9 hF.hd.1 hF.hd.2 hZ.hd (by decide) (by decide) ?_
  have hF := FrL_ad1 (t := 9) (i := 16) hF.tl (by decide +kernel)
  have hO9 := hZ.hd
  have hZ := hZ.tl
  refine E_dup dX5_init_34 (fun _ q => by cases q) ?_
  refine E_aload_n dX5_init_35 rfl rfl ?_
  refine E_callI (Y' := Y_X9_init) (as := [vR 8 0]) (st := [vR 9 16, vI 14, vR 600 0]) dX5_init_36 lk_RX5_21 mi_X9_init ii_X9_init rfl rfl (by decide) (by decide) (by decide) rfl rfl (Nat.le_of_ble_eq_true rfl) (s_X9_init (i := 16) hF.app.1 hO9 hZ.app.1) (fun r0 B0 σ0 h => ?_)
  obtain ⟨rfl, rfl, rfl⟩ := h
  have hF := FrW_X9 (i := 16) hF.app.2 (by decide +kernel)
  have hZ := hZ.app.2
  refine E_mast dX5_init_39 sh_600 (by decide) (by decide) (by decide) (h6 14 (by decide)) ?_
  have hF := FrL_rf1 (t := 600) (i := 0) (j := (Int.toNat 14)) hF (by decide +kernel)
  refine E_iinc (ls' := [some (vR 5 0), some (vR 8 0), some (vI 15)]) dX5_init_40 rfl (by decide) rfl rfl ?_
  refine E_goto (tgt := 20) dX5_init_43 (by decide) ?_
  refine E_iload_n dX5_init_20 rfl rfl ?_
  refine E_bp dX5_init_21 rfl ?_
  refine E_icmp_ge (tgt := 46) dX5_init_23 (by decide) (fun hc => ?_) (fun hc => ?_)
  · exact absurd hc (by decide)
  refine E_aload_n dX5_init_26 rfl rfl ?_
  refine E_getr (i := 0) (t' := 600) (i' := 0) dX5_init_27 fl_RX5_11 rfl rfl rfl ?_
  refine E_iload_n dX5_init_30 rfl rfl ?_
  refine E_new (t := 9) (i := 17) dX5_init_31 (by decide) ck_RX5_9 iw_X9 nw_X9 hF.hd.1 hF.hd.2 hZ.hd (by decide) (by decide) ?_
  have hF := FrL_ad1 (t := 9) (i := 17) hF.tl (by decide +kernel)
  have hO9 := hZ.hd
  have hZ := hZ.tl
  refine E_dup dX5_init_34 (fun _ q => by cases q) ?_
  refine E_aload_n dX5_init_35 rfl rfl ?_
  refine E_callI (Y' := Y_X9_init) (as := [vR 8 0]) (st := [vR 9 17, vI 15, vR 600 0]) dX5_init_36 lk_RX5_21 mi_X9_init ii_X9_init rfl rfl (by decide) (by decide) (by decide) rfl rfl (Nat.le_of_ble_eq_true rfl) (s_X9_init (i := 17) hF.app.1 hO9 hZ.app.1) (fun r0 B0 σ0 h => ?_)
  obtain ⟨rfl, rfl, rfl⟩ := h
  have hF := FrW_X9 (i := 17) hF.app.2 (by decide +kernel)
  have hZ := hZ.app.2
  refine E_mast dX5_init_39 sh_600 (by decide) (by decide) (by decide) (h6 15 (by decide)) ?_
  have hF := FrL_rf1 (t := 600) (i := 0) (j := (Int.toNat 15)) hF (by decide +kernel)
  refine E_iinc (ls' := [some (vR 5 0), some (vR 8 0), some (vI 16)]) dX5_init_40 rfl (by decide) rfl rfl ?_
  refine E_goto (tgt := 20) dX5_init_43 (by decide) ?_
  refine E_iload_n dX5_init_20 rfl rfl ?_
  refine E_bp dX5_init_21 rfl ?_
  refine E_icmp_ge (tgt := 46) dX5_init_23 (by decide) (fun hc => ?_) (fun hc => ?_)
  rotate_left
  · exact absurd (by decide) hc
  exact E_vret dX5_init_46 rfl ⟨rfl, rfl, rfl⟩
abbrev Y_X11_init : My := (yX11_init, cX11_init, 2, none)
theorem dX11_init_0 : decode cX11_init 0 = .ok (.aload_n 0, 1) := by decide +kernel
theorem dX11_init_1 : decode cX11_init 1 = .ok (.invokespecial 1, 3) := by decide +kernel
theorem dX11_init_4 : decode cX11_init 4 = .ok (.aload_n 0, 1) := by decide +kernel
theorem dX11_init_5 : decode cX11_init 5 = .ok (.new 7, 3) := by decide +kernel
theorem dX11_init_8 : decode cX11_init 8 = .ok (.dup, 1) := by decide +kernel
theorem dX11_init_9 : decode cX11_init 9 = .ok (.invokespecial 9, 3) := by decide +kernel
theorem dX11_init_12 : decode cX11_init 12 = .ok (.putfield 10, 3) := by decide +kernel
theorem dX11_init_15 : decode cX11_init 15 = .ok (.aload_n 0, 1) := by decide +kernel
theorem dX11_init_16 : decode cX11_init 16 = .ok (.new 16, 3) := by decide +kernel
theorem dX11_init_19 : decode cX11_init 19 = .ok (.dup, 1) := by decide +kernel
theorem dX11_init_20 : decode cX11_init 20 = .ok (.invokespecial 18, 3) := by decide +kernel
theorem dX11_init_23 : decode cX11_init 23 = .ok (.putfield 19, 3) := by decide +kernel
theorem dX11_init_26 : decode cX11_init 26 = .ok (.aload_n 0, 1) := by decide +kernel
theorem dX11_init_27 : decode cX11_init 27 = .ok (.new 16, 3) := by decide +kernel
theorem dX11_init_30 : decode cX11_init 30 = .ok (.dup, 1) := by decide +kernel
theorem dX11_init_31 : decode cX11_init 31 = .ok (.invokespecial 18, 3) := by decide +kernel
theorem dX11_init_34 : decode cX11_init 34 = .ok (.putfield 23, 3) := by decide +kernel
theorem dX11_init_37 : decode cX11_init 37 = .ok (.aload_n 0, 1) := by decide +kernel
theorem dX11_init_38 : decode cX11_init 38 = .ok (.new 26, 3) := by decide +kernel
theorem dX11_init_41 : decode cX11_init 41 = .ok (.dup, 1) := by decide +kernel
theorem dX11_init_42 : decode cX11_init 42 = .ok (.invokespecial 28, 3) := by decide +kernel
theorem dX11_init_45 : decode cX11_init 45 = .ok (.putfield 29, 3) := by decide +kernel
theorem dX11_init_48 : decode cX11_init 48 = .ok (.aload_n 0, 1) := by decide +kernel
theorem dX11_init_49 : decode cX11_init 49 = .ok (.new 26, 3) := by decide +kernel
theorem dX11_init_52 : decode cX11_init 52 = .ok (.dup, 1) := by decide +kernel
theorem dX11_init_53 : decode cX11_init 53 = .ok (.invokespecial 28, 3) := by decide +kernel
theorem dX11_init_56 : decode cX11_init 56 = .ok (.putfield 33, 3) := by decide +kernel
theorem dX11_init_59 : decode cX11_init 59 = .ok (.aload_n 0, 1) := by decide +kernel
theorem dX11_init_60 : decode cX11_init 60 = .ok (.new 36, 3) := by decide +kernel
theorem dX11_init_63 : decode cX11_init 63 = .ok (.dup, 1) := by decide +kernel
theorem dX11_init_64 : decode cX11_init 64 = .ok (.aload_n 0, 1) := by decide +kernel
theorem dX11_init_65 : decode cX11_init 65 = .ok (.getfield 10, 3) := by decide +kernel
theorem dX11_init_68 : decode cX11_init 68 = .ok (.invokespecial 38, 3) := by decide +kernel
theorem dX11_init_71 : decode cX11_init 71 = .ok (.putfield 41, 3) := by decide +kernel
theorem dX11_init_74 : decode cX11_init 74 = .ok (.aload_n 0, 1) := by decide +kernel
theorem dX11_init_75 : decode cX11_init 75 = .ok (.new 45, 3) := by decide +kernel
theorem dX11_init_78 : decode cX11_init 78 = .ok (.dup, 1) := by decide +kernel
theorem dX11_init_79 : decode cX11_init 79 = .ok (.aload_n 0, 1) := by decide +kernel
theorem dX11_init_80 : decode cX11_init 80 = .ok (.getfield 19, 3) := by decide +kernel
theorem dX11_init_83 : decode cX11_init 83 = .ok (.invokespecial 47, 3) := by decide +kernel
theorem dX11_init_86 : decode cX11_init 86 = .ok (.putfield 50, 3) := by decide +kernel
theorem dX11_init_89 : decode cX11_init 89 = .ok (.aload_n 0, 1) := by decide +kernel
theorem dX11_init_90 : decode cX11_init 90 = .ok (.new 45, 3) := by decide +kernel
theorem dX11_init_93 : decode cX11_init 93 = .ok (.dup, 1) := by decide +kernel
theorem dX11_init_94 : decode cX11_init 94 = .ok (.aload_n 0, 1) := by decide +kernel
theorem dX11_init_95 : decode cX11_init 95 = .ok (.getfield 19, 3) := by decide +kernel
theorem dX11_init_98 : decode cX11_init 98 = .ok (.invokespecial 47, 3) := by decide +kernel
theorem dX11_init_101 : decode cX11_init 101 = .ok (.putfield 54, 3) := by decide +kernel
theorem dX11_init_104 : decode cX11_init 104 = .ok (.aload_n 0, 1) := by decide +kernel
theorem dX11_init_105 : decode cX11_init 105 = .ok (.new 57, 3) := by decide +kernel
theorem dX11_init_108 : decode cX11_init 108 = .ok (.dup, 1) := by decide +kernel
theorem dX11_init_109 : decode cX11_init 109 = .ok (.aload_n 0, 1) := by decide +kernel
theorem dX11_init_110 : decode cX11_init 110 = .ok (.getfield 19, 3) := by decide +kernel
theorem dX11_init_113 : decode cX11_init 113 = .ok (.invokespecial 59, 3) := by decide +kernel
theorem dX11_init_116 : decode cX11_init 116 = .ok (.putfield 60, 3) := by decide +kernel
theorem dX11_init_119 : decode cX11_init 119 = .ok (.aload_n 0, 1) := by decide +kernel
theorem dX11_init_120 : decode cX11_init 120 = .ok (.new 64, 3) := by decide +kernel
theorem dX11_init_123 : decode cX11_init 123 = .ok (.dup, 1) := by decide +kernel
theorem dX11_init_124 : decode cX11_init 124 = .ok (.invokespecial 66, 3) := by decide +kernel
theorem dX11_init_127 : decode cX11_init 127 = .ok (.putfield 67, 3) := by decide +kernel
theorem dX11_init_130 : decode cX11_init 130 = .ok (.aload_n 0, 1) := by decide +kernel
theorem dX11_init_131 : decode cX11_init 131 = .ok (.iconst 4, 1) := by decide +kernel
theorem dX11_init_132 : decode cX11_init 132 = .ok (.anewarray 71, 3) := by decide +kernel
theorem dX11_init_135 : decode cX11_init 135 = .ok (.putfield 73, 3) := by decide +kernel
theorem dX11_init_138 : decode cX11_init 138 = .ok (.aload_n 0, 1) := by decide +kernel
theorem dX11_init_139 : decode cX11_init 139 = .ok (.new 77, 3) := by decide +kernel
theorem dX11_init_142 : decode cX11_init 142 = .ok (.dup, 1) := by decide +kernel
theorem dX11_init_143 : decode cX11_init 143 = .ok (.aload_n 0, 1) := by decide +kernel
theorem dX11_init_144 : decode cX11_init 144 = .ok (.getfield 19, 3) := by decide +kernel
theorem dX11_init_147 : decode cX11_init 147 = .ok (.aload_n 0, 1) := by decide +kernel
theorem dX11_init_148 : decode cX11_init 148 = .ok (.getfield 50, 3) := by decide +kernel
theorem dX11_init_151 : decode cX11_init 151 = .ok (.invokespecial 79, 3) := by decide +kernel
theorem dX11_init_154 : decode cX11_init 154 = .ok (.putfield 82, 3) := by decide +kernel
theorem dX11_init_157 : decode cX11_init 157 = .ok (.aload_n 0, 1) := by decide +kernel
theorem dX11_init_158 : decode cX11_init 158 = .ok (.new 86, 3) := by decide +kernel
theorem dX11_init_161 : decode cX11_init 161 = .ok (.dup, 1) := by decide +kernel
theorem dX11_init_162 : decode cX11_init 162 = .ok (.aload_n 0, 1) := by decide +kernel
theorem dX11_init_163 : decode cX11_init 163 = .ok (.getfield 19, 3) := by decide +kernel
theorem dX11_init_166 : decode cX11_init 166 = .ok (.aload_n 0, 1) := by decide +kernel
theorem dX11_init_167 : decode cX11_init 167 = .ok (.getfield 50, 3) := by decide +kernel
theorem dX11_init_170 : decode cX11_init 170 = .ok (.invokespecial 88, 3) := by decide +kernel
theorem dX11_init_173 : decode cX11_init 173 = .ok (.putfield 89, 3) := by decide +kernel
theorem dX11_init_176 : decode cX11_init 176 = .ok (.iconst 0, 1) := by decide +kernel
theorem dX11_init_177 : decode cX11_init 177 = .ok (.istore_n 1, 1) := by decide +kernel
theorem dX11_init_178 : decode cX11_init 178 = .ok (.iload_n 1, 1) := by decide +kernel
theorem dX11_init_179 : decode cX11_init 179 = .ok (.iconst 4, 1) := by decide +kernel
theorem dX11_init_180 : decode cX11_init 180 = .ok (.if_icmp .ge 26, 3) := by decide +kernel
theorem dX11_init_183 : decode cX11_init 183 = .ok (.aload_n 0, 1) := by decide +kernel
theorem dX11_init_184 : decode cX11_init 184 = .ok (.getfield 73, 3) := by decide +kernel
theorem dX11_init_187 : decode cX11_init 187 = .ok (.iload_n 1, 1) := by decide +kernel
theorem dX11_init_188 : decode cX11_init 188 = .ok (.new 71, 3) := by decide +kernel
theorem dX11_init_191 : decode cX11_init 191 = .ok (.dup, 1) := by decide +kernel
theorem dX11_init_192 : decode cX11_init 192 = .ok (.aload_n 0, 1) := by decide +kernel
theorem dX11_init_193 : decode cX11_init 193 = .ok (.getfield 19, 3) := by decide +kernel
theorem dX11_init_196 : decode cX11_init 196 = .ok (.invokespecial 93, 3) := by decide +kernel
theorem dX11_init_199 : decode cX11_init 199 = .ok (.aastore, 1) := by decide +kernel
theorem dX11_init_200 : decode cX11_init 200 = .ok (.iinc 1 1, 3) := by decide +kernel
theorem dX11_init_203 : decode cX11_init 203 = .ok (.goto (-25), 3) := by decide +kernel
theorem dX11_init_206 : decode cX11_init 206 = .ok (.return_, 1) := by decide +kernel
theorem mi_X11_init : MW Y_X11_init 0 := ⟨inG (i := 127) (by decide +kernel) (by decide +kernel), inG (i := 98) (by decide +kernel) (by decide +kernel), by decide, by decide, by decide, by decide +kernel⟩
theorem ii_X11_init : Cond.instanceMethod yX11_init ∈ tG := inG (i := 126) (by decide +kernel) (by decide +kernel)
def LN_X11 (_ : Nat) : List (Nat × Nat) := (10, 0) :: (LN_X10 0 ++ ((8, 0) :: (LN_X8 0 ++ ((8, 1) :: (LN_X8 1 ++ ((3, 0) :: (LN_X3 0 ++ ((3, 1) :: (LN_X3 1 ++ ((6, 0) :: (LN_X6 0 ++ ((9, 0) :: (LN_X9 0 ++ ((9, 1) :: (LN_X9 1 ++ ((5, 0) :: (LN_X5 0 ++ ((7, 0) :: (LN_X7 0 ++ ((1210, 0) :: ((0, 0) :: (LN_X0 0 ++ ((1, 0) :: (LN_X1 0 ++ ((4, 0) :: (LN_X4 0 ++ ((4, 1) :: (LN_X4 1 ++ ((4, 2) :: (LN_X4 2 ++ ((4, 3) :: (LN_X4 3 ++ []))))))))))))))))))))))))))))))))
def wN_X11 (B : Wd) (_ : Nat) : Wd := (rf1 (wN_X4 (ad1 (rf1 (wN_X4 (ad1 (rf1 (wN_X4 (ad1 (rf1 (wN_X4 (ad1 (rf1 (wN_X1 (ad1 (rf1 (wN_X0 (ad1 (rf1 (ad1 (rf1 (wN_X7 (ad1 (rf1 (wN_X5 (ad1 (rf1 (wN_X9 (ad1 (rf1 (wN_X9 (ad1 (rf1 (wN_X6 (ad1 (rf1 (wN_X3 (ad1 (rf1 (wN_X3 (ad1 (rf1 (wN_X8 (ad1 (rf1 (wN_X8 (ad1 (rf1 (wN_X10 (ad1 B 10 0) 0) 11 0 0) 8 0) 0) 11 0 1) 8 1) 1) 11 0 2) 3 0) 0) 11 0 3) 3 1) 1) 11 0 4) 6 0) 0) 11 0 5) 9 0) 0) 11 0 6) 9 1) 1) 11 0 7) 5 0) 0) 11 0 8) 7 0) 0) 11 0 9) 1210 0) 11 0 10) 0 0) 0) 11 0 11) 1 0) 0) 11 0 12) 4 0) 0) 1210 0 (Int.toNat 0)) 4 1) 1) 1210 0 (Int.toNat 1)) 4 2) 2) 1210 0 (Int.toNat 2)) 4 3) 3) 1210 0 (Int.toNat 3))
def CW_X11 (L : List (Nat × Nat)) (_ : Nat) : Bool := (nn L 10 0) && (CW_X10 L 0) && (nn L 11 0) && (nn L 8 0) && (CW_X8 L 0) && (nn L 8 1) && (CW_X8 L 1) && (nn L 3 0) && (CW_X3 L 0) && (nn L 3 1) && (CW_X3 L 1) && (nn L 6 0) && (CW_X6 L 0) && (nn L 9 0) && (CW_X9 L 0) && (nn L 9 1) && (CW_X9 L 1) && (nn L 5 0) && (CW_X5 L 0) && (nn L 7 0) && (CW_X7 L 0) && (nn L 1210 0) && (nn L 0 0) && (CW_X0 L 0) && (nn L 1 0) && (CW_X1 L 0) && (nn L 4 0) && (CW_X4 L 0) && (nn L 4 1) && (CW_X4 L 1) && (nn L 4 2) && (CW_X4 L 2) && (nn L 4 3) && (CW_X4 L 3)
theorem FrW_X11 {B : Wd} {L : List (Nat × Nat)} {i : Nat} (hF : FrL B L) (h : CW_X11 L 0 = true) : FrL (wN_X11 B 0) L := by
  unfold CW_X11 at h
  simp only [Bool.and_eq_true] at h
  obtain ⟨⟨⟨⟨⟨⟨⟨⟨⟨⟨⟨⟨⟨⟨⟨⟨⟨⟨⟨⟨⟨⟨⟨⟨⟨⟨⟨⟨⟨⟨⟨⟨⟨c0, c1⟩, c2⟩, c3⟩, c4⟩, c5⟩, c6⟩, c7⟩, c8⟩, c9⟩, c10⟩, c11⟩, c12⟩, c13⟩, c14⟩, c15⟩, c16⟩, c17⟩, c18⟩, c19⟩, c20⟩, c21⟩, c22⟩, c23⟩, c24⟩, c25⟩, c26⟩, c27⟩, c28⟩, c29⟩, c30⟩, c31⟩, c32⟩, c33⟩ := h
  have hF := FrL_ad1 (t := 10) (i := 0) hF c0
  have hF := FrW_X10 (i := 0) hF c1
  have hF := FrL_rf1 (t := 11) (i := 0) (j := 0) hF c2
  have hF := FrL_ad1 (t := 8) (i := 0) hF c3
  have hF := FrW_X8 (i := 0) hF c4
  have hF := FrL_rf1 (t := 11) (i := 0) (j := 1) hF c2
  have hF := FrL_ad1 (t := 8) (i := 1) hF c5
  have hF := FrW_X8 (i := 1) hF c6
  have hF := FrL_rf1 (t := 11) (i := 0) (j := 2) hF c2
  have hF := FrL_ad1 (t := 3) (i := 0) hF c7
  have hF := FrW_X3 (i := 0) hF c8
  have hF := FrL_rf1 (t := 11) (i := 0) (j := 3) hF c2
  have hF := FrL_ad1 (t := 3) (i := 1) hF c9
  have hF := FrW_X3 (i := 1) hF c10
  have hF := FrL_rf1 (t := 11) (i := 0) (j := 4) hF c2
  have hF := FrL_ad1 (t := 6) (i := 0) hF c11
  have hF := FrW_X6 (i := 0) hF c12
  have hF := FrL_rf1 (t := 11) (i := 0) (j := 5) hF c2
  have hF := FrL_ad1 (t := 9) (i := 0) hF c13
  have hF := FrW_X9 (i := 0) hF c14
  have hF := FrL_rf1 (t := 11) (i := 0) (j := 6) hF c2
  have hF := FrL_ad1 (t := 9) (i := 1) hF c15
  have hF := FrW_X9 (i := 1) hF c16
  have hF := FrL_rf1 (t := 11) (i := 0) (j := 7) hF c2
  have hF := FrL_ad1 (t := 5) (i := 0) hF c17
  have hF := FrW_X5 (i := 0) hF c18
  have hF := FrL_rf1 (t := 11) (i := 0) (j := 8) hF c2
  have hF := FrL_ad1 (t := 7) (i := 0) hF c19
  have hF := FrW_X7 (i := 0) hF c20
  have hF := FrL_rf1 (t := 11) (i := 0) (j := 9) hF c2
  have hF := FrL_ad1 (t := 1210) (i := 0) hF c21
  have hF := FrL_rf1 (t := 11) (i := 0) (j := 10) hF c2
  have hF := FrL_ad1 (t := 0) (i := 0) hF c22
  have hF := FrW_X0 (i := 0) hF c23
  have hF := FrL_rf1 (t := 11) (i := 0) (j := 11) hF c2
  have hF := FrL_ad1 (t := 1) (i := 0) hF c24
  have hF := FrW_X1 (i := 0) hF c25
  have hF := FrL_rf1 (t := 11) (i := 0) (j := 12) hF c2
  have hF := FrL_ad1 (t := 4) (i := 0) hF c26
  have hF := FrW_X4 (i := 0) hF c27
  have hF := FrL_rf1 (t := 1210) (i := 0) (j := (Int.toNat 0)) hF c21
  have hF := FrL_ad1 (t := 4) (i := 1) hF c28
  have hF := FrW_X4 (i := 1) hF c29
  have hF := FrL_rf1 (t := 1210) (i := 0) (j := (Int.toNat 1)) hF c21
  have hF := FrL_ad1 (t := 4) (i := 2) hF c30
  have hF := FrW_X4 (i := 2) hF c31
  have hF := FrL_rf1 (t := 1210) (i := 0) (j := (Int.toNat 2)) hF c21
  have hF := FrL_ad1 (t := 4) (i := 3) hF c32
  have hF := FrW_X4 (i := 3) hF c33
  have hF := FrL_rf1 (t := 1210) (i := 0) (j := (Int.toNat 3)) hF c21
  exact hF
theorem BdN_X11 {B : Wd} {i : Nat} (h : BdW B) : BdW (wN_X11 B 0) := by
  have h := BdW_ad1 (t := 10) (i := 0) h
  have h := BdN_X10 (i := 0) h
  have h := BdW_rf1 (t := 11) (i := 0) (j := 0) h (by decide +kernel)
  have h := BdW_ad1 (t := 8) (i := 0) h
  have h := BdN_X8 (i := 0) h
  have h := BdW_rf1 (t := 11) (i := 0) (j := 1) h (by decide +kernel)
  have h := BdW_ad1 (t := 8) (i := 1) h
  have h := BdN_X8 (i := 1) h
  have h := BdW_rf1 (t := 11) (i := 0) (j := 2) h (by decide +kernel)
  have h := BdW_ad1 (t := 3) (i := 0) h
  have h := BdN_X3 (i := 0) h
  have h := BdW_rf1 (t := 11) (i := 0) (j := 3) h (by decide +kernel)
  have h := BdW_ad1 (t := 3) (i := 1) h
  have h := BdN_X3 (i := 1) h
  have h := BdW_rf1 (t := 11) (i := 0) (j := 4) h (by decide +kernel)
  have h := BdW_ad1 (t := 6) (i := 0) h
  have h := BdN_X6 (i := 0) h
  have h := BdW_rf1 (t := 11) (i := 0) (j := 5) h (by decide +kernel)
  have h := BdW_ad1 (t := 9) (i := 0) h
  have h := BdN_X9 (i := 0) h
  have h := BdW_rf1 (t := 11) (i := 0) (j := 6) h (by decide +kernel)
  have h := BdW_ad1 (t := 9) (i := 1) h
  have h := BdN_X9 (i := 1) h
  have h := BdW_rf1 (t := 11) (i := 0) (j := 7) h (by decide +kernel)
  have h := BdW_ad1 (t := 5) (i := 0) h
  have h := BdN_X5 (i := 0) h
  have h := BdW_rf1 (t := 11) (i := 0) (j := 8) h (by decide +kernel)
  have h := BdW_ad1 (t := 7) (i := 0) h
  have h := BdN_X7 (i := 0) h
  have h := BdW_rf1 (t := 11) (i := 0) (j := 9) h (by decide +kernel)
  have h := BdW_ad1 (t := 1210) (i := 0) h
  have h := BdW_rf1 (t := 11) (i := 0) (j := 10) h (by decide +kernel)
  have h := BdW_ad1 (t := 0) (i := 0) h
  have h := BdN_X0 (i := 0) h
  have h := BdW_rf1 (t := 11) (i := 0) (j := 11) h (by decide +kernel)
  have h := BdW_ad1 (t := 1) (i := 0) h
  have h := BdN_X1 (i := 0) h
  have h := BdW_rf1 (t := 11) (i := 0) (j := 12) h (by decide +kernel)
  have h := BdW_ad1 (t := 4) (i := 0) h
  have h := BdN_X4 (i := 0) h
  have h := BdW_rf1 (t := 1210) (i := 0) (j := (Int.toNat 0)) h (by decide +kernel)
  have h := BdW_ad1 (t := 4) (i := 1) h
  have h := BdN_X4 (i := 1) h
  have h := BdW_rf1 (t := 1210) (i := 0) (j := (Int.toNat 1)) h (by decide +kernel)
  have h := BdW_ad1 (t := 4) (i := 2) h
  have h := BdN_X4 (i := 2) h
  have h := BdW_rf1 (t := 1210) (i := 0) (j := (Int.toNat 2)) h (by decide +kernel)
  have h := BdW_ad1 (t := 4) (i := 3) h
  have h := BdN_X4 (i := 3) h
  have h := BdW_rf1 (t := 1210) (i := 0) (j := (Int.toNat 3)) h (by decide +kernel)
  exact h
set_option maxRecDepth 20000 in
set_option maxHeartbeats 4000000 in
theorem s_X11_init {B : Wd} {i : Nat} {σ : St} (hF : FrL B (LN_X11 0)) (hO : ∀ j : Nat, σ 11 0 j = 0) (hZ : ZeL σ (LN_X11 0)) (h6 : ∀ j : Nat, j < 16 → go σ 600 0 j = (9, j + 2)) : Cn Y_X11_init 3 294 12001 B σ [vR 11 0] (fun r B' σ' => r = none ∧ B' = wN_X11 B 0 ∧ σ' = (up (up σ 8 0 13 2) 8 1 13 2)) := by
  refine Cn_of [some (vR 11 0), none] (by decide) (Nat.le_of_ble_eq_true rfl) rfl ?_
  unfold LN_X11 at hF hZ
  skip
  refine E_aload_n dX11_init_0 rfl rfl ?_
  refine E_oini dX11_init_1 lo_RX11_1 (by decide) (Nat.le_of_ble_eq_true rfl) ?_
  refine E_aload_n dX11_init_4 rfl rfl ?_
  refine E_new (t := 10) (i := 0) dX11_init_5 (by decide) ck_RX11_7 iw_X10 nw_X10 hF.hd.1 hF.hd.2 hZ.hd (by decide) (by decide) ?_
  have hF := FrL_ad1 (t := 10) (i := 0) hF.tl (by decide +kernel)
  have hO10 := hZ.hd
  have hZ := hZ.tl
  refine E_dup dX11_init_8 (fun _ q => by cases q) ?_
  refine E_callI (Y' := Y_X10_init) (as := []) (st := [vR 10 0, vR 11 0]) dX11_init_9 lk_RX11_9 mi_X10_init ii_X10_init rfl rfl (by decide) (by decide) (by decide) rfl rfl (Nat.le_of_ble_eq_true rfl) (s_X10_init (i := 0) hF.app.1 hO10 hZ.app.1) (fun r0 B0 σ0 h => ?_)
  obtain ⟨rfl, rfl, rfl⟩ := h
  have hF := FrW_X10 (i := 0) hF.app.2 (by decide +kernel)
  have hZ := hZ.app.2
  refine E_putr dX11_init_12 fl_RX11_10 rfl rfl rfl rfl rfl rfl ?_
  have hF := FrL_rf1 (t := 11) (i := 0) (j := 0) hF (by decide +kernel)
  refine E_aload_n dX11_init_15 rfl rfl ?_
  refine E_new (t := 8) (i := 0) dX11_init_16 (by decide) ck_RX11_16 iw_X8 nw_X8 hF.hd.1 hF.hd.2 hZ.hd (by decide) (by decide) ?_
  have hF := FrL_ad1 (t := 8) (i := 0) hF.tl (by decide +kernel)
  have hO8 := hZ.hd
  have hZ := hZ.tl
  refine E_dup dX11_init_19 (fun _ q => by cases q) ?_
  refine E_callI (Y' := Y_X8_init) (as := []) (st := [vR 8 0, vR 11 0]) dX11_init_20 lk_RX11_18 mi_X8_init ii_X8_init rfl rfl (by decide) (by decide) (by decide) rfl rfl (Nat.le_of_ble_eq_true rfl) (s_X8_init (i := 0) hF.app.1 hO8 hZ.app.1) (fun r0 B0 σ0 h => ?_)
  obtain ⟨rfl, rfl, rfl⟩ := h
  have hF := FrW_X8 (i := 0) hF.app.2 (by decide +kernel)
  have hZ := hZ.app.2
  have hZ := ZeL_up (t := 8) (i := 0) (x := 13) (v := 2) hZ (by decide +kernel)
  refine E_putr dX11_init_23 fl_RX11_19 rfl rfl rfl rfl rfl rfl ?_
  have hF := FrL_rf1 (t := 11) (i := 0) (j := 1) hF (by decide +kernel)
  refine E_aload_n dX11_init_26 rfl rfl ?_
  refine E_new (t := 8) (i := 1) dX11_init_27 (by decide) ck_RX11_16 iw_X8 nw_X8 hF.hd.1 hF.hd.2 hZ.hd (by decide) (by decide) ?_
  have hF := FrL_ad1 (t := 8) (i := 1) hF.tl (by decide +kernel)
  have hO8 := hZ.hd
  have hZ := hZ.tl
  refine E_dup dX11_init_30 (fun _ q => by cases q) ?_
  refine E_callI (Y' := Y_X8_init) (as := []) (st := [vR 8 1, vR 11 0]) dX11_init_31 lk_RX11_18 mi_X8_init ii_X8_init rfl rfl (by decide) (by decide) (by decide) rfl rfl (Nat.le_of_ble_eq_true rfl) (s_X8_init (i := 1) hF.app.1 hO8 hZ.app.1) (fun r0 B0 σ0 h => ?_)
  obtain ⟨rfl, rfl, rfl⟩ := h
  have hF := FrW_X8 (i := 1) hF.app.2 (by decide +kernel)
  have hZ := hZ.app.2
  have hZ := ZeL_up (t := 8) (i := 1) (x := 13) (v := 2) hZ (by decide +kernel)
  refine E_putr dX11_init_34 fl_RX11_23 rfl rfl rfl rfl rfl rfl ?_
  have hF := FrL_rf1 (t := 11) (i := 0) (j := 2) hF (by decide +kernel)
  refine E_aload_n dX11_init_37 rfl rfl ?_
  refine E_new (t := 3) (i := 0) dX11_init_38 (by decide) ck_RX11_26 iw_X3 nw_X3 hF.hd.1 hF.hd.2 hZ.hd (by decide) (by decide) ?_
  have hF := FrL_ad1 (t := 3) (i := 0) hF.tl (by decide +kernel)
  have hO3 := hZ.hd
  have hZ := hZ.tl
  refine E_dup dX11_init_41 (fun _ q => by cases q) ?_
  refine E_callI (Y' := Y_X3_init) (as := []) (st := [vR 3 0, vR 11 0]) dX11_init_42 lk_RX11_28 mi_X3_init ii_X3_init rfl rfl (by decide) (by decide) (by decide) rfl rfl (Nat.le_of_ble_eq_true rfl) (s_X3_init (i := 0) hF.app.1 hO3 hZ.app.1) (fun r0 B0 σ0 h => ?_)
  obtain ⟨rfl, rfl, rfl⟩ := h
  have hF := FrW_X3 (i := 0) hF.app.2 (by decide +kernel)
  have hZ := hZ.app.2
  refine E_putr dX11_init_45 fl_RX11_29 rfl rfl rfl rfl rfl rfl ?_
  have hF := FrL_rf1 (t := 11) (i := 0) (j := 3) hF (by decide +kernel)
  refine E_aload_n dX11_init_48 rfl rfl ?_
  refine E_new (t := 3) (i := 1) dX11_init_49 (by decide) ck_RX11_26 iw_X3 nw_X3 hF.hd.1 hF.hd.2 hZ.hd (by decide) (by decide) ?_
  have hF := FrL_ad1 (t := 3) (i := 1) hF.tl (by decide +kernel)
  have hO3 := hZ.hd
  have hZ := hZ.tl
  refine E_dup dX11_init_52 (fun _ q => by cases q) ?_
  refine E_callI (Y' := Y_X3_init) (as := []) (st := [vR 3 1, vR 11 0]) dX11_init_53 lk_RX11_28 mi_X3_init ii_X3_init rfl rfl (by decide) (by decide) (by decide) rfl rfl (Nat.le_of_ble_eq_true rfl) (s_X3_init (i := 1) hF.app.1 hO3 hZ.app.1) (fun r0 B0 σ0 h => ?_)
  obtain ⟨rfl, rfl, rfl⟩ := h
  have hF := FrW_X3 (i := 1) hF.app.2 (by decide +kernel)
  have hZ := hZ.app.2
  refine E_putr dX11_init_56 fl_RX11_33 rfl rfl rfl rfl rfl rfl ?_
  have hF := FrL_rf1 (t := 11) (i := 0) (j := 4) hF (by decide +kernel)
  refine E_aload_n dX11_init_59 rfl rfl ?_
  refine E_new (t := 6) (i := 0) dX11_init_60 (by decide) ck_RX11_36 iw_X6 nw_X6 hF.hd.1 hF.hd.2 hZ.hd (by decide) (by decide) ?_
  have hF := FrL_ad1 (t := 6) (i := 0) hF.tl (by decide +kernel)
  have hO6 := hZ.hd
  have hZ := hZ.tl
  refine E_dup dX11_init_63 (fun _ q => by cases q) ?_
  refine E_aload_n dX11_init_64 rfl rfl ?_
  refine E_getr (i := 0) (t' := 10) (i' := 0) dX11_init_65 fl_RX11_10 rfl rfl rfl ?_
  refine E_callI (Y' := Y_X6_init) (as := [vR 10 0]) (st := [vR 6 0, vR 11 0]) dX11_init_68 lk_RX11_38 mi_X6_init ii_X6_init rfl rfl (by decide) (by decide) (by decide) rfl rfl (Nat.le_of_ble_eq_true rfl) (s_X6_init (i := 0) hF.app.1 hO6 hZ.app.1) (fun r0 B0 σ0 h => ?_)
  obtain ⟨rfl, rfl, rfl⟩ := h
  have hF := FrW_X6 (i := 0) hF.app.2 (by decide +kernel)
  have hZ := hZ.app.2
  refine E_putr dX11_init_71 fl_RX11_41 rfl rfl rfl rfl rfl rfl ?_
  have hF := FrL_rf1 (t := 11) (i := 0) (j := 5) hF (by decide +kernel)
  refine E_aload_n dX11_init_74 rfl rfl ?_
  refine E_new (t := 9) (i := 0) dX11_init_75 (by decide) ck_RX11_45 iw_X9 nw_X9 hF.hd.1 hF.hd.2 hZ.hd (by decide) (by decide) ?_
  have hF := FrL_ad1 (t := 9) (i := 0) hF.tl (by decide +kernel)
  have hO9 := hZ.hd
  have hZ := hZ.tl
  refine E_dup dX11_init_78 (fun _ q => by cases q) ?_
  refine E_aload_n dX11_init_79 rfl rfl ?_
  refine E_getr (i := 0) (t' := 8) (i' := 0) dX11_init_80 fl_RX11_19 rfl rfl rfl ?_
  refine E_callI (Y' := Y_X9_init) (as := [vR 8 0]) (st := [vR 9 0, vR 11 0]) dX11_init_83 lk_RX11_47 mi_X9_init ii_X9_init rfl rfl (by decide) (by decide) (by decide) rfl rfl (Nat.le_of_ble_eq_true rfl) (s_X9_init (i := 0) hF.app.1 hO9 hZ.app.1) (fun r0 B0 σ0 h => ?_)
  obtain ⟨rfl, rfl, rfl⟩ := h
  have hF := FrW_X9 (i := 0) hF.app.2 (by decide +kernel)
  have hZ := hZ.app.2
  refine E_putr dX11_init_86 fl_RX11_50 rfl rfl rfl rfl rfl rfl ?_
  have hF := FrL_rf1 (t := 11) (i := 0) (j := 6) hF (by decide +kernel)
  refine E_aload_n dX11_init_89 rfl rfl ?_
  refine E_new (t := 9) (i := 1) dX11_init_90 (by decide) ck_RX11_45 iw_X9 nw_X9 hF.hd.1 hF.hd.2 hZ.hd (by decide) (by decide) ?_
  have hF := FrL_ad1 (t := 9) (i := 1) hF.tl (by decide +kernel)
  have hO9 := hZ.hd
  have hZ := hZ.tl
  refine E_dup dX11_init_93 (fun _ q => by cases q) ?_
  refine E_aload_n dX11_init_94 rfl rfl ?_
  refine E_getr (i := 0) (t' := 8) (i' := 0) dX11_init_95 fl_RX11_19 rfl rfl rfl ?_
  refine E_callI (Y' := Y_X9_init) (as := [vR 8 0]) (st := [vR 9 1, vR 11 0]) dX11_init_98 lk_RX11_47 mi_X9_init ii_X9_init rfl rfl (by decide) (by decide) (by decide) rfl rfl (Nat.le_of_ble_eq_true rfl) (s_X9_init (i := 1) hF.app.1 hO9 hZ.app.1) (fun r0 B0 σ0 h => ?_)
  obtain ⟨rfl, rfl, rfl⟩ := h
  have hF := FrW_X9 (i := 1) hF.app.2 (by decide +kernel)
  have hZ := hZ.app.2
  refine E_putr dX11_init_101 fl_RX11_54 rfl rfl rfl rfl rfl rfl ?_
  have hF := FrL_rf1 (t := 11) (i := 0) (j := 7) hF (by decide +kernel)
  refine E_aload_n dX11_init_104 rfl rfl ?_
  refine E_new (t := 5) (i := 0) dX11_init_105 (by decide) ck_RX11_57 iw_X5 nw_X5 hF.hd.1 hF.hd.2 hZ.hd (by decide) (by decide) ?_
  have hF := FrL_ad1 (t := 5) (i := 0) hF.tl (by decide +kernel)
  have hO5 := hZ.hd
  have hZ := hZ.tl
  refine E_dup dX11_init_108 (fun _ q => by cases q) ?_
  refine E_aload_n dX11_init_109 rfl rfl ?_
  refine E_getr (i := 0) (t' := 8) (i' := 0) dX11_init_110 fl_RX11_19 rfl rfl rfl ?_
  refine E_callI (Y' := Y_X5_init) (as := [vR 8 0]) (st := [vR 5 0, vR 11 0]) dX11_init_113 lk_RX11_59 mi_X5_init ii_X5_init rfl rfl (by decide) (by decide) (by decide) rfl rfl (Nat.le_of_ble_eq_true rfl) (s_X5_init (i := 0) hF.app.1 hO5 hZ.app.1 (fun j hj => h6 j hj)) (fun r0 B0 σ0 h => ?_)
  obtain ⟨rfl, rfl, rfl⟩ := h
  have hF := FrW_X5 (i := 0) hF.app.2 (by decide +kernel)
  have hZ := hZ.app.2
  refine E_putr dX11_init_116 fl_RX11_60 rfl rfl rfl rfl rfl rfl ?_
  have hF := FrL_rf1 (t := 11) (i := 0) (j := 8) hF (by decide +kernel)
  refine E_aload_n dX11_init_119 rfl rfl ?_
  refine E_new (t := 7) (i := 0) dX11_init_120 (by decide) ck_RX11_64 iw_X7 nw_X7 hF.hd.1 hF.hd.2 hZ.hd (by decide) (by decide) ?_
  have hF := FrL_ad1 (t := 7) (i := 0) hF.tl (by decide +kernel)
  have hO7 := hZ.hd
  have hZ := hZ.tl
  refine E_dup dX11_init_123 (fun _ q => by cases q) ?_
  refine E_callI (Y' := Y_X7_init) (as := []) (st := [vR 7 0, vR 11 0]) dX11_init_124 lk_RX11_66 mi_X7_init ii_X7_init rfl rfl (by decide) (by decide) (by decide) rfl rfl (Nat.le_of_ble_eq_true rfl) (s_X7_init (i := 0) hF.app.1 hO7 hZ.app.1) (fun r0 B0 σ0 h => ?_)
  obtain ⟨rfl, rfl, rfl⟩ := h
  have hF := FrW_X7 (i := 0) hF.app.2 (by decide +kernel)
  have hZ := hZ.app.2
  refine E_putr dX11_init_127 fl_RX11_67 rfl rfl rfl rfl rfl rfl ?_
  have hF := FrL_rf1 (t := 11) (i := 0) (j := 9) hF (by decide +kernel)
  refine E_aload_n dX11_init_130 rfl rfl ?_
  refine E_ic dX11_init_131 rfl ?_
  refine E_newq (t := 1210) (i := 0) (C := "CashBalls$Mark") dX11_init_132 sh_1210 (by decide) rfl (by decide) ck_RX11_71 hF.hd.1 hF.hd.2 (by decide) (by decide) ?_
  have hF := FrL_ad1 (t := 1210) (i := 0) hF.tl (by decide +kernel)
  have hZ := hZ.tl
  refine E_putr dX11_init_135 fl_RX11_73 rfl rfl rfl rfl rfl rfl ?_
  have hF := FrL_rf1 (t := 11) (i := 0) (j := 10) hF (by decide +kernel)
  refine E_aload_n dX11_init_138 rfl rfl ?_
  refine E_new (t := 0) (i := 0) dX11_init_139 (by decide) ck_RX11_77 iw_X0 nw_X0 hF.hd.1 hF.hd.2 hZ.hd (by decide) (by decide) ?_
  have hF := FrL_ad1 (t := 0) (i := 0) hF.tl (by decide +kernel)
  have hO0 := hZ.hd
  have hZ := hZ.tl
  refine E_dup dX11_init_142 (fun _ q => by cases q) ?_
  refine E_aload_n dX11_init_143 rfl rfl ?_
  refine E_getr (i := 0) (t' := 8) (i' := 0) dX11_init_144 fl_RX11_19 rfl rfl rfl ?_
  refine E_aload_n dX11_init_147 rfl rfl ?_
  refine E_getr (i := 0) (t' := 9) (i' := 0) dX11_init_148 fl_RX11_50 rfl rfl rfl ?_
  refine E_callI (Y' := Y_X0_init) (as := [vR 8 0, vR 9 0]) (st := [vR 0 0, vR 11 0]) dX11_init_151 lk_RX11_79 mi_X0_init ii_X0_init rfl rfl (by decide) (by decide) (by decide) rfl rfl (Nat.le_of_ble_eq_true rfl) (s_X0_init (i := 0) hF.app.1 hO0 hZ.app.1) (fun r0 B0 σ0 h => ?_)
  obtain ⟨rfl, rfl, rfl⟩ := h
  have hF := FrW_X0 (i := 0) hF.app.2 (by decide +kernel)
  have hZ := hZ.app.2
  refine E_putr dX11_init_154 fl_RX11_82 rfl rfl rfl rfl rfl rfl ?_
  have hF := FrL_rf1 (t := 11) (i := 0) (j := 11) hF (by decide +kernel)
  refine E_aload_n dX11_init_157 rfl rfl ?_
  refine E_new (t := 1) (i := 0) dX11_init_158 (by decide) ck_RX11_86 iw_X1 nw_X1 hF.hd.1 hF.hd.2 hZ.hd (by decide) (by decide) ?_
  have hF := FrL_ad1 (t := 1) (i := 0) hF.tl (by decide +kernel)
  have hO1 := hZ.hd
  have hZ := hZ.tl
  refine E_dup dX11_init_161 (fun _ q => by cases q) ?_
  refine E_aload_n dX11_init_162 rfl rfl ?_
  refine E_getr (i := 0) (t' := 8) (i' := 0) dX11_init_163 fl_RX11_19 rfl rfl rfl ?_
  refine E_aload_n dX11_init_166 rfl rfl ?_
  refine E_getr (i := 0) (t' := 9) (i' := 0) dX11_init_167 fl_RX11_50 rfl rfl rfl ?_
  refine E_callI (Y' := Y_X1_init) (as := [vR 8 0, vR 9 0]) (st := [vR 1 0, vR 11 0]) dX11_init_170 lk_RX11_88 mi_X1_init ii_X1_init rfl rfl (by decide) (by decide) (by decide) rfl rfl (Nat.le_of_ble_eq_true rfl) (s_X1_init (i := 0) hF.app.1 hO1 hZ.app.1) (fun r0 B0 σ0 h => ?_)
  obtain ⟨rfl, rfl, rfl⟩ := h
  have hF := FrW_X1 (i := 0) hF.app.2 (by decide +kernel)
  have hZ := hZ.app.2
  refine E_putr dX11_init_173 fl_RX11_89 rfl rfl rfl rfl rfl rfl ?_
  have hF := FrL_rf1 (t := 11) (i := 0) (j := 12) hF (by decide +kernel)
  refine E_ic dX11_init_176 rfl ?_
  refine E_istore_n (ls' := [some (vR 11 0), some (vI 0)]) dX11_init_177 rfl (by decide) rfl ?_
  refine E_iload_n dX11_init_178 rfl rfl ?_
  refine E_ic dX11_init_179 rfl ?_
  refine E_icmp_ge (tgt := 206) dX11_init_180 (by decide) (fun hc => ?_) (fun hc => ?_)
  · exact absurd hc (by decide)
  refine E_aload_n dX11_init_183 rfl rfl ?_
  refine E_getr (i := 0) (t' := 1210) (i' := 0) dX11_init_184 fl_RX11_73 rfl rfl rfl ?_
  refine E_iload_n dX11_init_187 rfl rfl ?_
  refine E_new (t := 4) (i := 0) dX11_init_188 (by decide) ck_RX11_71 iw_X4 nw_X4 hF.hd.1 hF.hd.2 hZ.hd (by decide) (by decide) ?_
  have hF := FrL_ad1 (t := 4) (i := 0) hF.tl (by decide +kernel)
  have hO4 := hZ.hd
  have hZ := hZ.tl
  refine E_dup dX11_init_191 (fun _ q => by cases q) ?_
  refine E_aload_n dX11_init_192 rfl rfl ?_
  refine E_getr (i := 0) (t' := 8) (i' := 0) dX11_init_193 fl_RX11_19 rfl rfl rfl ?_
  refine E_callI (Y' := Y_X4_init) (as := [vR 8 0]) (st := [vR 4 0, vI 0, vR 1210 0]) dX11_init_196 lk_RX11_93 mi_X4_init ii_X4_init rfl rfl (by decide) (by decide) (by decide) rfl rfl (Nat.le_of_ble_eq_true rfl) (s_X4_init (i := 0) hF.app.1 hO4 hZ.app.1) (fun r0 B0 σ0 h => ?_)
  obtain ⟨rfl, rfl, rfl⟩ := h
  have hF := FrW_X4 (i := 0) hF.app.2 (by decide +kernel)
  have hZ := hZ.app.2
  refine E_mast dX11_init_199 sh_1210 (by decide) (by decide) (by decide) rfl ?_
  have hF := FrL_rf1 (t := 1210) (i := 0) (j := (Int.toNat 0)) hF (by decide +kernel)
  refine E_iinc (ls' := [some (vR 11 0), some (vI 1)]) dX11_init_200 rfl (by decide) rfl rfl ?_
  refine E_goto (tgt := 178) dX11_init_203 (by decide) ?_
  refine E_iload_n dX11_init_178 rfl rfl ?_
  refine E_ic dX11_init_179 rfl ?_
  refine E_icmp_ge (tgt := 206) dX11_init_180 (by decide) (fun hc => ?_) (fun hc => ?_)
  · exact absurd hc (by decide)
  refine E_aload_n dX11_init_183 rfl rfl ?_
  refine E_getr (i := 0) (t' := 1210) (i' := 0) dX11_init_184 fl_RX11_73 rfl rfl rfl ?_
  refine E_iload_n dX11_init_187 rfl rfl ?_
  refine E_new (t := 4) (i := 1) dX11_init_188 (by decide) ck_RX11_71 iw_X4 nw_X4 hF.hd.1 hF.hd.2 hZ.hd (by decide) (by decide) ?_
  have hF := FrL_ad1 (t := 4) (i := 1) hF.tl (by decide +kernel)
  have hO4 := hZ.hd
  have hZ := hZ.tl
  refine E_dup dX11_init_191 (fun _ q => by cases q) ?_
  refine E_aload_n dX11_init_192 rfl rfl ?_
  refine E_getr (i := 0) (t' := 8) (i' := 0) dX11_init_193 fl_RX11_19 rfl rfl rfl ?_
  refine E_callI (Y' := Y_X4_init) (as := [vR 8 0]) (st := [vR 4 1, vI 1, vR 1210 0]) dX11_init_196 lk_RX11_93 mi_X4_init ii_X4_init rfl rfl (by decide) (by decide) (by decide) rfl rfl (Nat.le_of_ble_eq_true rfl) (s_X4_init (i := 1) hF.app.1 hO4 hZ.app.1) (fun r0 B0 σ0 h => ?_)
  obtain ⟨rfl, rfl, rfl⟩ := h
  have hF := FrW_X4 (i := 1) hF.app.2 (by decide +kernel)
  have hZ := hZ.app.2
  refine E_mast dX11_init_199 sh_1210 (by decide) (by decide) (by decide) rfl ?_
  have hF := FrL_rf1 (t := 1210) (i := 0) (j := (Int.toNat 1)) hF (by decide +kernel)
  refine E_iinc (ls' := [some (vR 11 0), some (vI 2)]) dX11_init_200 rfl (by decide) rfl rfl ?_
  refine E_goto (tgt := 178) dX11_init_203 (by decide) ?_
  refine E_iload_n dX11_init_178 rfl rfl ?_
  refine E_ic dX11_init_179 rfl ?_
  refine E_icmp_ge (tgt := 206) dX11_init_180 (by decide) (fun hc => ?_) (fun hc => ?_)
  · exact absurd hc (by decide)
  refine E_aload_n dX11_init_183 rfl rfl ?_
  refine E_getr (i := 0) (t' := 1210) (i' := 0) dX11_init_184 fl_RX11_73 rfl rfl rfl ?_
  refine E_iload_n dX11_init_187 rfl rfl ?_
  refine E_new (t := 4) (i := 2) dX11_init_188 (by decide) ck_RX11_71 iw_X4 nw_X4 hF.hd.1 hF.hd.2 hZ.hd (by decide) (by decide) ?_
  have hF := FrL_ad1 (t := 4) (i := 2) hF.tl (by decide +kernel)
  have hO4 := hZ.hd
  have hZ := hZ.tl
  refine E_dup dX11_init_191 (fun _ q => by cases q) ?_
  refine E_aload_n dX11_init_192 rfl rfl ?_
  refine E_getr (i := 0) (t' := 8) (i' := 0) dX11_init_193 fl_RX11_19 rfl rfl rfl ?_
  refine E_callI (Y' := Y_X4_init) (as := [vR 8 0]) (st := [vR 4 2, vI 2, vR 1210 0]) dX11_init_196 lk_RX11_93 mi_X4_init ii_X4_init rfl rfl (by decide) (by decide) (by decide) rfl rfl (Nat.le_of_ble_eq_true rfl) (s_X4_init (i := 2) hF.app.1 hO4 hZ.app.1) (fun r0 B0 σ0 h => ?_)
  obtain ⟨rfl, rfl, rfl⟩ := h
  have hF := FrW_X4 (i := 2) hF.app.2 (by decide +kernel)
  have hZ := hZ.app.2
  refine E_mast dX11_init_199 sh_1210 (by decide) (by decide) (by decide) rfl ?_
  have hF := FrL_rf1 (t := 1210) (i := 0) (j := (Int.toNat 2)) hF (by decide +kernel)
  refine E_iinc (ls' := [some (vR 11 0), some (vI 3)]) dX11_init_200 rfl (by decide) rfl rfl ?_
  refine E_goto (tgt := 178) dX11_init_203 (by decide) ?_
  refine E_iload_n dX11_init_178 rfl rfl ?_
  refine E_ic dX11_init_179 rfl ?_
  refine E_icmp_ge (tgt := 206) dX11_init_180 (by decide) (fun hc => ?_) (fun hc => ?_)
  · exact absurd hc (by decide)
  refine E_aload_n dX11_init_183 rfl rfl ?_
  refine E_getr (i := 0) (t' := 1210) (i' := 0) dX11_init_184 fl_RX11_73 rfl rfl rfl ?_
  refine E_iload_n dX11_init_187 rfl rfl ?_
  refine E_new (t := 4) (i := 3) dX11_init_188 (by decide) ck_RX11_71 iw_X4 nw_X4 hF.hd.1 hF.hd.2 hZ.hd (by decide) (by decide) ?_
  have hF := FrL_ad1 (t := 4) (i := 3) hF.tl (by decide +kernel)
  have hO4 := hZ.hd
  have hZ := hZ.tl
  refine E_dup dX11_init_191 (fun _ q => by cases q) ?_
  refine E_aload_n dX11_init_192 rfl rfl ?_
  refine E_getr (i := 0) (t' := 8) (i' := 0) dX11_init_193 fl_RX11_19 rfl rfl rfl ?_
  refine E_callI (Y' := Y_X4_init) (as := [vR 8 0]) (st := [vR 4 3, vI 3, vR 1210 0]) dX11_init_196 lk_RX11_93 mi_X4_init ii_X4_init rfl rfl (by decide) (by decide) (by decide) rfl rfl (Nat.le_of_ble_eq_true rfl) (s_X4_init (i := 3) hF.app.1 hO4 hZ.app.1) (fun r0 B0 σ0 h => ?_)
  obtain ⟨rfl, rfl, rfl⟩ := h
  have hF := FrW_X4 (i := 3) hF.app.2 (by decide +kernel)
  have hZ := hZ.app.2
  refine E_mast dX11_init_199 sh_1210 (by decide) (by decide) (by decide) rfl ?_
  have hF := FrL_rf1 (t := 1210) (i := 0) (j := (Int.toNat 3)) hF (by decide +kernel)
  refine E_iinc (ls' := [some (vR 11 0), some (vI 4)]) dX11_init_200 rfl (by decide) rfl rfl ?_
  refine E_goto (tgt := 178) dX11_init_203 (by decide) ?_
  refine E_iload_n dX11_init_178 rfl rfl ?_
  refine E_ic dX11_init_179 rfl ?_
  refine E_icmp_ge (tgt := 206) dX11_init_180 (by decide) (fun hc => ?_) (fun hc => ?_)
  rotate_left
  · exact absurd (by decide) hc
  exact E_vret dX11_init_206 rfl ⟨rfl, rfl, rfl⟩
abbrev Y_X12_init : My := (yX12_init, cX12_init, 1, none)
theorem dX12_init_0 : decode cX12_init 0 = .ok (.aload_n 0, 1) := by decide +kernel
theorem dX12_init_1 : decode cX12_init 1 = .ok (.invokespecial 1, 3) := by decide +kernel
theorem dX12_init_4 : decode cX12_init 4 = .ok (.aload_n 0, 1) := by decide +kernel
theorem dX12_init_5 : decode cX12_init 5 = .ok (.sipush 1000, 3) := by decide +kernel
theorem dX12_init_8 : decode cX12_init 8 = .ok (.newarray .int, 2) := by decide +kernel
theorem dX12_init_10 : decode cX12_init 10 = .ok (.putfield 7, 3) := by decide +kernel
theorem dX12_init_13 : decode cX12_init 13 = .ok (.aload_n 0, 1) := by decide +kernel
theorem dX12_init_14 : decode cX12_init 14 = .ok (.bipush 8, 2) := by decide +kernel
theorem dX12_init_16 : decode cX12_init 16 = .ok (.newarray .int, 2) := by decide +kernel
theorem dX12_init_18 : decode cX12_init 18 = .ok (.putfield 13, 3) := by decide +kernel
theorem dX12_init_21 : decode cX12_init 21 = .ok (.aload_n 0, 1) := by decide +kernel
theorem dX12_init_22 : decode cX12_init 22 = .ok (.bipush 12, 2) := by decide +kernel
theorem dX12_init_24 : decode cX12_init 24 = .ok (.newarray .long, 2) := by decide +kernel
theorem dX12_init_26 : decode cX12_init 26 = .ok (.putfield 16, 3) := by decide +kernel
theorem dX12_init_29 : decode cX12_init 29 = .ok (.aload_n 0, 1) := by decide +kernel
theorem dX12_init_30 : decode cX12_init 30 = .ok (.bipush 12, 2) := by decide +kernel
theorem dX12_init_32 : decode cX12_init 32 = .ok (.newarray .long, 2) := by decide +kernel
theorem dX12_init_34 : decode cX12_init 34 = .ok (.putfield 20, 3) := by decide +kernel
theorem dX12_init_37 : decode cX12_init 37 = .ok (.aload_n 0, 1) := by decide +kernel
theorem dX12_init_38 : decode cX12_init 38 = .ok (.bipush 12, 2) := by decide +kernel
theorem dX12_init_40 : decode cX12_init 40 = .ok (.newarray .int, 2) := by decide +kernel
theorem dX12_init_42 : decode cX12_init 42 = .ok (.putfield 23, 3) := by decide +kernel
theorem dX12_init_45 : decode cX12_init 45 = .ok (.aload_n 0, 1) := by decide +kernel
theorem dX12_init_46 : decode cX12_init 46 = .ok (.bipush 12, 2) := by decide +kernel
theorem dX12_init_48 : decode cX12_init 48 = .ok (.newarray .int, 2) := by decide +kernel
theorem dX12_init_50 : decode cX12_init 50 = .ok (.putfield 26, 3) := by decide +kernel
theorem dX12_init_53 : decode cX12_init 53 = .ok (.aload_n 0, 1) := by decide +kernel
theorem dX12_init_54 : decode cX12_init 54 = .ok (.bipush 12, 2) := by decide +kernel
theorem dX12_init_56 : decode cX12_init 56 = .ok (.newarray .int, 2) := by decide +kernel
theorem dX12_init_58 : decode cX12_init 58 = .ok (.putfield 29, 3) := by decide +kernel
theorem dX12_init_61 : decode cX12_init 61 = .ok (.aload_n 0, 1) := by decide +kernel
theorem dX12_init_62 : decode cX12_init 62 = .ok (.bipush 12, 2) := by decide +kernel
theorem dX12_init_64 : decode cX12_init 64 = .ok (.newarray .int, 2) := by decide +kernel
theorem dX12_init_66 : decode cX12_init 66 = .ok (.putfield 32, 3) := by decide +kernel
theorem dX12_init_69 : decode cX12_init 69 = .ok (.aload_n 0, 1) := by decide +kernel
theorem dX12_init_70 : decode cX12_init 70 = .ok (.bipush 12, 2) := by decide +kernel
theorem dX12_init_72 : decode cX12_init 72 = .ok (.newarray .int, 2) := by decide +kernel
theorem dX12_init_74 : decode cX12_init 74 = .ok (.putfield 35, 3) := by decide +kernel
theorem dX12_init_77 : decode cX12_init 77 = .ok (.aload_n 0, 1) := by decide +kernel
theorem dX12_init_78 : decode cX12_init 78 = .ok (.bipush 24, 2) := by decide +kernel
theorem dX12_init_80 : decode cX12_init 80 = .ok (.newarray .int, 2) := by decide +kernel
theorem dX12_init_82 : decode cX12_init 82 = .ok (.putfield 38, 3) := by decide +kernel
theorem dX12_init_85 : decode cX12_init 85 = .ok (.aload_n 0, 1) := by decide +kernel
theorem dX12_init_86 : decode cX12_init 86 = .ok (.iconst 2, 1) := by decide +kernel
theorem dX12_init_87 : decode cX12_init 87 = .ok (.newarray .int, 2) := by decide +kernel
theorem dX12_init_89 : decode cX12_init 89 = .ok (.putfield 41, 3) := by decide +kernel
theorem dX12_init_92 : decode cX12_init 92 = .ok (.aload_n 0, 1) := by decide +kernel
theorem dX12_init_93 : decode cX12_init 93 = .ok (.iconst 2, 1) := by decide +kernel
theorem dX12_init_94 : decode cX12_init 94 = .ok (.newarray .int, 2) := by decide +kernel
theorem dX12_init_96 : decode cX12_init 96 = .ok (.putfield 44, 3) := by decide +kernel
theorem dX12_init_99 : decode cX12_init 99 = .ok (.aload_n 0, 1) := by decide +kernel
theorem dX12_init_100 : decode cX12_init 100 = .ok (.sipush 2000, 3) := by decide +kernel
theorem dX12_init_103 : decode cX12_init 103 = .ok (.newarray .int, 2) := by decide +kernel
theorem dX12_init_105 : decode cX12_init 105 = .ok (.putfield 47, 3) := by decide +kernel
theorem dX12_init_108 : decode cX12_init 108 = .ok (.aload_n 0, 1) := by decide +kernel
theorem dX12_init_109 : decode cX12_init 109 = .ok (.bipush 7, 2) := by decide +kernel
theorem dX12_init_111 : decode cX12_init 111 = .ok (.newarray .int, 2) := by decide +kernel
theorem dX12_init_113 : decode cX12_init 113 = .ok (.putfield 50, 3) := by decide +kernel
theorem dX12_init_116 : decode cX12_init 116 = .ok (.aload_n 0, 1) := by decide +kernel
theorem dX12_init_117 : decode cX12_init 117 = .ok (.bipush 7, 2) := by decide +kernel
theorem dX12_init_119 : decode cX12_init 119 = .ok (.newarray .boolean, 2) := by decide +kernel
theorem dX12_init_121 : decode cX12_init 121 = .ok (.putfield 53, 3) := by decide +kernel
theorem dX12_init_124 : decode cX12_init 124 = .ok (.aload_n 0, 1) := by decide +kernel
theorem dX12_init_125 : decode cX12_init 125 = .ok (.bipush 7, 2) := by decide +kernel
theorem dX12_init_127 : decode cX12_init 127 = .ok (.newarray .int, 2) := by decide +kernel
theorem dX12_init_129 : decode cX12_init 129 = .ok (.putfield 57, 3) := by decide +kernel
theorem dX12_init_132 : decode cX12_init 132 = .ok (.aload_n 0, 1) := by decide +kernel
theorem dX12_init_133 : decode cX12_init 133 = .ok (.bipush 7, 2) := by decide +kernel
theorem dX12_init_135 : decode cX12_init 135 = .ok (.newarray .int, 2) := by decide +kernel
theorem dX12_init_137 : decode cX12_init 137 = .ok (.putfield 60, 3) := by decide +kernel
theorem dX12_init_140 : decode cX12_init 140 = .ok (.aload_n 0, 1) := by decide +kernel
theorem dX12_init_141 : decode cX12_init 141 = .ok (.bipush 7, 2) := by decide +kernel
theorem dX12_init_143 : decode cX12_init 143 = .ok (.newarray .int, 2) := by decide +kernel
theorem dX12_init_145 : decode cX12_init 145 = .ok (.putfield 63, 3) := by decide +kernel
theorem dX12_init_148 : decode cX12_init 148 = .ok (.aload_n 0, 1) := by decide +kernel
theorem dX12_init_149 : decode cX12_init 149 = .ok (.bipush 7, 2) := by decide +kernel
theorem dX12_init_151 : decode cX12_init 151 = .ok (.newarray .int, 2) := by decide +kernel
theorem dX12_init_153 : decode cX12_init 153 = .ok (.putfield 66, 3) := by decide +kernel
theorem dX12_init_156 : decode cX12_init 156 = .ok (.aload_n 0, 1) := by decide +kernel
theorem dX12_init_157 : decode cX12_init 157 = .ok (.bipush 7, 2) := by decide +kernel
theorem dX12_init_159 : decode cX12_init 159 = .ok (.newarray .int, 2) := by decide +kernel
theorem dX12_init_161 : decode cX12_init 161 = .ok (.putfield 69, 3) := by decide +kernel
theorem dX12_init_164 : decode cX12_init 164 = .ok (.aload_n 0, 1) := by decide +kernel
theorem dX12_init_165 : decode cX12_init 165 = .ok (.bipush 7, 2) := by decide +kernel
theorem dX12_init_167 : decode cX12_init 167 = .ok (.newarray .int, 2) := by decide +kernel
theorem dX12_init_169 : decode cX12_init 169 = .ok (.putfield 72, 3) := by decide +kernel
theorem dX12_init_172 : decode cX12_init 172 = .ok (.aload_n 0, 1) := by decide +kernel
theorem dX12_init_173 : decode cX12_init 173 = .ok (.bipush 7, 2) := by decide +kernel
theorem dX12_init_175 : decode cX12_init 175 = .ok (.newarray .int, 2) := by decide +kernel
theorem dX12_init_177 : decode cX12_init 177 = .ok (.putfield 75, 3) := by decide +kernel
theorem dX12_init_180 : decode cX12_init 180 = .ok (.aload_n 0, 1) := by decide +kernel
theorem dX12_init_181 : decode cX12_init 181 = .ok (.bipush 7, 2) := by decide +kernel
theorem dX12_init_183 : decode cX12_init 183 = .ok (.newarray .int, 2) := by decide +kernel
theorem dX12_init_185 : decode cX12_init 185 = .ok (.putfield 78, 3) := by decide +kernel
theorem dX12_init_188 : decode cX12_init 188 = .ok (.aload_n 0, 1) := by decide +kernel
theorem dX12_init_189 : decode cX12_init 189 = .ok (.bipush 7, 2) := by decide +kernel
theorem dX12_init_191 : decode cX12_init 191 = .ok (.newarray .int, 2) := by decide +kernel
theorem dX12_init_193 : decode cX12_init 193 = .ok (.putfield 81, 3) := by decide +kernel
theorem dX12_init_196 : decode cX12_init 196 = .ok (.aload_n 0, 1) := by decide +kernel
theorem dX12_init_197 : decode cX12_init 197 = .ok (.bipush 20, 2) := by decide +kernel
theorem dX12_init_199 : decode cX12_init 199 = .ok (.newarray .int, 2) := by decide +kernel
theorem dX12_init_201 : decode cX12_init 201 = .ok (.putfield 84, 3) := by decide +kernel
theorem dX12_init_204 : decode cX12_init 204 = .ok (.aload_n 0, 1) := by decide +kernel
theorem dX12_init_205 : decode cX12_init 205 = .ok (.bipush 6, 2) := by decide +kernel
theorem dX12_init_207 : decode cX12_init 207 = .ok (.newarray .int, 2) := by decide +kernel
theorem dX12_init_209 : decode cX12_init 209 = .ok (.putfield 87, 3) := by decide +kernel
theorem dX12_init_212 : decode cX12_init 212 = .ok (.aload_n 0, 1) := by decide +kernel
theorem dX12_init_213 : decode cX12_init 213 = .ok (.sipush 240, 3) := by decide +kernel
theorem dX12_init_216 : decode cX12_init 216 = .ok (.newarray .int, 2) := by decide +kernel
theorem dX12_init_218 : decode cX12_init 218 = .ok (.putfield 90, 3) := by decide +kernel
theorem dX12_init_221 : decode cX12_init 221 = .ok (.aload_n 0, 1) := by decide +kernel
theorem dX12_init_222 : decode cX12_init 222 = .ok (.sipush 240, 3) := by decide +kernel
theorem dX12_init_225 : decode cX12_init 225 = .ok (.newarray .int, 2) := by decide +kernel
theorem dX12_init_227 : decode cX12_init 227 = .ok (.putfield 93, 3) := by decide +kernel
theorem dX12_init_230 : decode cX12_init 230 = .ok (.aload_n 0, 1) := by decide +kernel
theorem dX12_init_231 : decode cX12_init 231 = .ok (.sipush 240, 3) := by decide +kernel
theorem dX12_init_234 : decode cX12_init 234 = .ok (.newarray .int, 2) := by decide +kernel
theorem dX12_init_236 : decode cX12_init 236 = .ok (.putfield 96, 3) := by decide +kernel
theorem dX12_init_239 : decode cX12_init 239 = .ok (.aload_n 0, 1) := by decide +kernel
theorem dX12_init_240 : decode cX12_init 240 = .ok (.iconst 5, 1) := by decide +kernel
theorem dX12_init_241 : decode cX12_init 241 = .ok (.newarray .int, 2) := by decide +kernel
theorem dX12_init_243 : decode cX12_init 243 = .ok (.putfield 99, 3) := by decide +kernel
theorem dX12_init_246 : decode cX12_init 246 = .ok (.aload_n 0, 1) := by decide +kernel
theorem dX12_init_247 : decode cX12_init 247 = .ok (.bipush 40, 2) := by decide +kernel
theorem dX12_init_249 : decode cX12_init 249 = .ok (.newarray .int, 2) := by decide +kernel
theorem dX12_init_251 : decode cX12_init 251 = .ok (.putfield 102, 3) := by decide +kernel
theorem dX12_init_254 : decode cX12_init 254 = .ok (.aload_n 0, 1) := by decide +kernel
theorem dX12_init_255 : decode cX12_init 255 = .ok (.bipush 40, 2) := by decide +kernel
theorem dX12_init_257 : decode cX12_init 257 = .ok (.newarray .int, 2) := by decide +kernel
theorem dX12_init_259 : decode cX12_init 259 = .ok (.putfield 105, 3) := by decide +kernel
theorem dX12_init_262 : decode cX12_init 262 = .ok (.aload_n 0, 1) := by decide +kernel
theorem dX12_init_263 : decode cX12_init 263 = .ok (.bipush 40, 2) := by decide +kernel
theorem dX12_init_265 : decode cX12_init 265 = .ok (.newarray .boolean, 2) := by decide +kernel
theorem dX12_init_267 : decode cX12_init 267 = .ok (.putfield 108, 3) := by decide +kernel
theorem dX12_init_270 : decode cX12_init 270 = .ok (.aload_n 0, 1) := by decide +kernel
theorem dX12_init_271 : decode cX12_init 271 = .ok (.bipush 46, 2) := by decide +kernel
theorem dX12_init_273 : decode cX12_init 273 = .ok (.newarray .int, 2) := by decide +kernel
theorem dX12_init_275 : decode cX12_init 275 = .ok (.putfield 111, 3) := by decide +kernel
theorem dX12_init_278 : decode cX12_init 278 = .ok (.aload_n 0, 1) := by decide +kernel
theorem dX12_init_279 : decode cX12_init 279 = .ok (.bipush 46, 2) := by decide +kernel
theorem dX12_init_281 : decode cX12_init 281 = .ok (.newarray .int, 2) := by decide +kernel
theorem dX12_init_283 : decode cX12_init 283 = .ok (.putfield 114, 3) := by decide +kernel
theorem dX12_init_286 : decode cX12_init 286 = .ok (.aload_n 0, 1) := by decide +kernel
theorem dX12_init_287 : decode cX12_init 287 = .ok (.bipush 46, 2) := by decide +kernel
theorem dX12_init_289 : decode cX12_init 289 = .ok (.newarray .int, 2) := by decide +kernel
theorem dX12_init_291 : decode cX12_init 291 = .ok (.putfield 117, 3) := by decide +kernel
theorem dX12_init_294 : decode cX12_init 294 = .ok (.aload_n 0, 1) := by decide +kernel
theorem dX12_init_295 : decode cX12_init 295 = .ok (.sipush 184, 3) := by decide +kernel
theorem dX12_init_298 : decode cX12_init 298 = .ok (.newarray .int, 2) := by decide +kernel
theorem dX12_init_300 : decode cX12_init 300 = .ok (.putfield 120, 3) := by decide +kernel
theorem dX12_init_303 : decode cX12_init 303 = .ok (.aload_n 0, 1) := by decide +kernel
theorem dX12_init_304 : decode cX12_init 304 = .ok (.sipush 736, 3) := by decide +kernel
theorem dX12_init_307 : decode cX12_init 307 = .ok (.newarray .int, 2) := by decide +kernel
theorem dX12_init_309 : decode cX12_init 309 = .ok (.putfield 123, 3) := by decide +kernel
theorem dX12_init_312 : decode cX12_init 312 = .ok (.aload_n 0, 1) := by decide +kernel
theorem dX12_init_313 : decode cX12_init 313 = .ok (.iconst 4, 1) := by decide +kernel
theorem dX12_init_314 : decode cX12_init 314 = .ok (.newarray .boolean, 2) := by decide +kernel
theorem dX12_init_316 : decode cX12_init 316 = .ok (.putfield 126, 3) := by decide +kernel
theorem dX12_init_319 : decode cX12_init 319 = .ok (.aload_n 0, 1) := by decide +kernel
theorem dX12_init_320 : decode cX12_init 320 = .ok (.bipush 6, 2) := by decide +kernel
theorem dX12_init_322 : decode cX12_init 322 = .ok (.newarray .int, 2) := by decide +kernel
theorem dX12_init_324 : decode cX12_init 324 = .ok (.putfield 129, 3) := by decide +kernel
theorem dX12_init_327 : decode cX12_init 327 = .ok (.aload_n 0, 1) := by decide +kernel
theorem dX12_init_328 : decode cX12_init 328 = .ok (.sipush 427, 3) := by decide +kernel
theorem dX12_init_331 : decode cX12_init 331 = .ok (.newarray .int, 2) := by decide +kernel
theorem dX12_init_333 : decode cX12_init 333 = .ok (.putfield 132, 3) := by decide +kernel
theorem dX12_init_336 : decode cX12_init 336 = .ok (.aload_n 0, 1) := by decide +kernel
theorem dX12_init_337 : decode cX12_init 337 = .ok (.sipush 186, 3) := by decide +kernel
theorem dX12_init_340 : decode cX12_init 340 = .ok (.newarray .int, 2) := by decide +kernel
theorem dX12_init_342 : decode cX12_init 342 = .ok (.putfield 135, 3) := by decide +kernel
theorem dX12_init_345 : decode cX12_init 345 = .ok (.aload_n 0, 1) := by decide +kernel
theorem dX12_init_346 : decode cX12_init 346 = .ok (.getfield 13, 3) := by decide +kernel
theorem dX12_init_349 : decode cX12_init 349 = .ok (.iconst 2, 1) := by decide +kernel
theorem dX12_init_350 : decode cX12_init 350 = .ok (.iconst 2, 1) := by decide +kernel
theorem dX12_init_351 : decode cX12_init 351 = .ok (.iastore, 1) := by decide +kernel
theorem dX12_init_352 : decode cX12_init 352 = .ok (.aload_n 0, 1) := by decide +kernel
theorem dX12_init_353 : decode cX12_init 353 = .ok (.invokevirtual 138, 3) := by decide +kernel
theorem dX12_init_356 : decode cX12_init 356 = .ok (.return_, 1) := by decide +kernel
theorem mi_X12_init : MW Y_X12_init 0 := ⟨inG (i := 1394) (by decide +kernel) (by decide +kernel), inG (i := 110) (by decide +kernel) (by decide +kernel), by decide, by decide, by decide, by decide +kernel⟩
theorem ii_X12_init : Cond.instanceMethod yX12_init ∈ tG := inG (i := 1393) (by decide +kernel) (by decide +kernel)
def LN_X12 (_ : Nat) : List (Nat × Nat) := (1302, 0) :: ((1310, 0) :: ((1311, 0) :: ((1312, 0) :: ((1313, 0) :: ((1314, 0) :: ((1315, 0) :: ((1316, 0) :: ((1317, 0) :: ((1318, 0) :: ((1319, 0) :: ((1320, 0) :: ((1321, 0) :: ((1324, 0) :: ((1325, 0) :: ((1326, 0) :: ((1327, 0) :: ((1328, 0) :: ((1329, 0) :: ((1330, 0) :: ((1331, 0) :: ((1332, 0) :: ((1333, 0) :: ((1334, 0) :: ((1335, 0) :: ((1338, 0) :: ((1339, 0) :: ((1340, 0) :: ((1341, 0) :: ((1342, 0) :: ((1343, 0) :: ((1344, 0) :: ((1345, 0) :: ((1346, 0) :: ((1347, 0) :: ((1348, 0) :: ((1349, 0) :: ((1350, 0) :: ((1351, 0) :: ((1353, 0) :: ((1355, 0) :: ((1357, 0) :: [])))))))))))))))))))))))))))))))))))))))))
def wN_X12 (B : Wd) (_ : Nat) : Wd := (rf1 (ad1 (rf1 (ad1 (rf1 (ad1 (rf1 (ad1 (rf1 (ad1 (rf1 (ad1 (rf1 (ad1 (rf1 (ad1 (rf1 (ad1 (rf1 (ad1 (rf1 (ad1 (rf1 (ad1 (rf1 (ad1 (rf1 (ad1 (rf1 (ad1 (rf1 (ad1 (rf1 (ad1 (rf1 (ad1 (rf1 (ad1 (rf1 (ad1 (rf1 (ad1 (rf1 (ad1 (rf1 (ad1 (rf1 (ad1 (rf1 (ad1 (rf1 (ad1 (rf1 (ad1 (rf1 (ad1 (rf1 (ad1 (rf1 (ad1 (rf1 (ad1 (rf1 (ad1 (rf1 (ad1 (rf1 (ad1 (rf1 (ad1 (rf1 (ad1 (rf1 (ad1 (rf1 (ad1 (rf1 (ad1 (rf1 (ad1 (rf1 (ad1 (rf1 (ad1 B 1302 0) 12 0 2) 1310 0) 12 0 10) 1311 0) 12 0 11) 1312 0) 12 0 12) 1313 0) 12 0 13) 1314 0) 12 0 14) 1315 0) 12 0 15) 1316 0) 12 0 16) 1317 0) 12 0 17) 1318 0) 12 0 18) 1319 0) 12 0 19) 1320 0) 12 0 20) 1321 0) 12 0 21) 1324 0) 12 0 24) 1325 0) 12 0 25) 1326 0) 12 0 26) 1327 0) 12 0 27) 1328 0) 12 0 28) 1329 0) 12 0 29) 1330 0) 12 0 30) 1331 0) 12 0 31) 1332 0) 12 0 32) 1333 0) 12 0 33) 1334 0) 12 0 34) 1335 0) 12 0 35) 1338 0) 12 0 38) 1339 0) 12 0 39) 1340 0) 12 0 40) 1341 0) 12 0 41) 1342 0) 12 0 42) 1343 0) 12 0 43) 1344 0) 12 0 44) 1345 0) 12 0 45) 1346 0) 12 0 46) 1347 0) 12 0 47) 1348 0) 12 0 48) 1349 0) 12 0 49) 1350 0) 12 0 50) 1351 0) 12 0 51) 1353 0) 12 0 53) 1355 0) 12 0 55) 1357 0) 12 0 57)
