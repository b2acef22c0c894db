def RJ0 : String := "java/lang/String"
def RJ1 : String := "java/lang/StringLatin1"
def RJ3 : String := "jdk/internal/util/Preconditions"
def RJ6 : String := "java/lang/Intege\x72"
abbrev cJ6_bitCount_0f7a4 : ByteArray := prog_20_method_49_code
def yJ6_bitCount_0f7a4 : MethodName := ⟨RJ6, "bitCount", "(I)I"⟩
abbrev cJ0_coder_7d493 : ByteArray := prog_23_method_152_code
def yJ0_coder_7d493 : MethodName := ⟨RJ0, "code\x72", "()B"⟩
abbrev cJ0_isLatin1_aae02 : ByteArray := prog_23_method_154_code
def yJ0_isLatin1_aae02 : MethodName := ⟨RJ0, "isLatin1", "()Z"⟩
abbrev cJ0_length_8abf5 : ByteArray := prog_23_method_54_code
def yJ0_length_8abf5 : MethodName := ⟨RJ0, "length", "()I"⟩
abbrev cJ1_canEncode_9a6ad : ByteArray := prog_24_method_4_code
def yJ1_canEncode_9a6ad : MethodName := ⟨RJ1, "canEncode", "(I)Z"⟩
abbrev cJ1_indexOfChar_4cfef : ByteArray := prog_24_method_23_code
def yJ1_indexOfChar_4cfef : MethodName := ⟨RJ1, "indexOfCha\x72", "([BIII)I"⟩
abbrev cJ1_indexOf_4cfef : ByteArray := prog_24_method_22_code
def yJ1_indexOf_4cfef : MethodName := ⟨RJ1, "indexOf", "([BIII)I"⟩
abbrev cJ0_indexOf_7cf53 : ByteArray := prog_23_method_80_code
def yJ0_indexOf_7cf53 : MethodName := ⟨RJ0, "indexOf", "(II)I"⟩
abbrev cJ0_indexOf_0f7a4 : ByteArray := prog_23_method_79_code
def yJ0_indexOf_0f7a4 : MethodName := ⟨RJ0, "indexOf", "(I)I"⟩
abbrev cJ1_charAt_3b067 : ByteArray := prog_24_method_2_code
def yJ1_charAt_3b067 : MethodName := ⟨RJ1, "charAt", "([BI)C"⟩
abbrev cJ0_charAt_5068e : ByteArray := prog_23_method_56_code
def yJ0_charAt_5068e : MethodName := ⟨RJ0, "charAt", "(I)C"⟩
abbrev cJ0_checkIndex_df160 : ByteArray := prog_23_method_155_code
def yJ0_checkIndex_df160 : MethodName := ⟨RJ0, "checkIndex", "(II)V"⟩
abbrev cJ3_checkIndex_8e157 : ByteArray := prog_31_method_11_code
def yJ3_checkIndex_8e157 : MethodName := ⟨RJ3, "checkIndex", "(IILjava/util/function/BiFunction;)I"⟩
theorem dJ0_checkIndex_df160_0 : decode cJ0_checkIndex_df160 0 = .ok (.iload_n 0, 1) := by decide +kernel
theorem dJ0_checkIndex_df160_1 : decode cJ0_checkIndex_df160 1 = .ok (.iload_n 1, 1) := by decide +kernel
theorem dJ0_checkIndex_df160_2 : decode cJ0_checkIndex_df160 2 = .ok (.getstatic 1053, 3) := by decide +kernel
theorem dJ0_checkIndex_df160_5 : decode cJ0_checkIndex_df160 5 = .ok (.invokestatic 1059, 3) := by decide +kernel
theorem dJ0_checkIndex_df160_8 : decode cJ0_checkIndex_df160 8 = .ok (.pop, 1) := by decide +kernel
theorem dJ0_checkIndex_df160_9 : decode cJ0_checkIndex_df160 9 = .ok (.return_, 1) := by decide +kernel
theorem dJ3_checkIndex_8e157_0 : decode cJ3_checkIndex_8e157 0 = .ok (.iload_n 0, 1) := by decide +kernel
theorem dJ3_checkIndex_8e157_1 : decode cJ3_checkIndex_8e157 1 = .ok (.ifCond .lt 8, 3) := by decide +kernel
theorem dJ3_checkIndex_8e157_4 : decode cJ3_checkIndex_8e157 4 = .ok (.iload_n 0, 1) := by decide +kernel
theorem dJ3_checkIndex_8e157_5 : decode cJ3_checkIndex_8e157 5 = .ok (.iload_n 1, 1) := by decide +kernel
theorem dJ3_checkIndex_8e157_6 : decode cJ3_checkIndex_8e157 6 = .ok (.if_icmp .lt 10, 3) := by decide +kernel
theorem dJ3_checkIndex_8e157_9 : decode cJ3_checkIndex_8e157 9 = .ok (.aload_n 2, 1) := by decide +kernel
theorem dJ3_checkIndex_8e157_10 : decode cJ3_checkIndex_8e157 10 = .ok (.iload_n 0, 1) := by decide +kernel
theorem dJ3_checkIndex_8e157_11 : decode cJ3_checkIndex_8e157 11 = .ok (.iload_n 1, 1) := by decide +kernel
theorem dJ3_checkIndex_8e157_12 : decode cJ3_checkIndex_8e157 12 = .ok (.invokestatic 95, 3) := by decide +kernel
theorem dJ3_checkIndex_8e157_15 : decode cJ3_checkIndex_8e157 15 = .ok (.athrow, 1) := by decide +kernel
theorem dJ3_checkIndex_8e157_16 : decode cJ3_checkIndex_8e157 16 = .ok (.iload_n 0, 1) := by decide +kernel
theorem dJ3_checkIndex_8e157_17 : decode cJ3_checkIndex_8e157 17 = .ok (.ireturn, 1) := by decide +kernel
abbrev Y_J0_checkIndex_df160 : My := (yJ0_checkIndex_df160, cJ0_checkIndex_df160, 2, none)
abbrev Y_J3_checkIndex_8e157 : My := (yJ3_checkIndex_8e157, cJ3_checkIndex_8e157, 3, some .int)
theorem fs_RJ0_1053 : Cond.fieldLink RJ0 1053 "jdk/internal/util/Preconditions" "SIOOBE_FORMATTER" "Ljava/util/function/BiFunction;" ∈ tG := inG (i := 620) (by decide +kernel) (by decide +kernel)
theorem lk_RJ0_1059 : Cond.methodLink RJ0 1059 yJ3_checkIndex_8e157 ∈ tG := inG (i := 671) (by decide +kernel) (by decide +kernel)
theorem m_J3_checkIndex_8e157 : MS Y_J3_checkIndex_8e157 3 := ⟨⟨inG (i := 673) (by decide +kernel) (by decide +kernel), inG (i := 115) (by decide +kernel) (by decide +kernel), by decide, by decide, by decide, by decide +kernel⟩, inG (i := 672) (by decide +kernel) (by decide +kernel)⟩
section ERules7
variable {Y : My} {d mc ms : Nat} {Q : Option AV → Wd → St → Prop} {B : Wd} {k n pc : Nat} {ls : List (Option AV)} {st : List AV} {σ : St}
theorem E_lds {index i : Nat} {tx : String} (hd : decode Y.2.1 pc = .ok (.ldc index, 2)) (hw : (Y.1.cls, index, tx, i) ∈ sRef) (kk : E Y d mc ms Q B k n (pc + 2) ls (vR 50 i :: st) σ) : E Y d mc ms Q B k n pc ls st σ := by
  refine E_lift ?_ kk
  intro p l e s m args below meth c H locs cs D A ad Z lc sc hC hK hS hR hl hs kk
  exact va_ldcS hC.1 hC.2.1 hC.2.2.2.2.1 (hK.2.2.2.1 _ hw) hd (kk H locs lc _ hS hR hl ⟨⟨Or.inr (Or.inl rfl), rfl⟩, hs⟩)
theorem E_ldcw {index : Nat} {v : Int32} {z : Int} (hd : decode Y.2.1 pc = .ok (.ldc_w index, 3)) (hw : Cond.constant Y.1.cls index v ∈ tG) (hz : v.toInt = z) (kk : E Y d mc ms Q B k n (pc + 3) ls (vI z :: st) σ) : E Y d mc ms Q B k n pc ls st σ := by
  refine E_lift ?_ kk
  intro p l e s m args below meth c H locs cs D A ad Z lc sc hC hK hS hR hl hs kk
  exact lv_ldcw hC.1 hC.2.1 hC.2.2.2.2.1 (hC.2.2.2.2.2.1 _ hw) hd (kk H locs lc _ hS hR hl ⟨rl_int _ hz, hs⟩)
theorem E_sval {index i : Nat} (hd : decode Y.2.1 pc = .ok (.getfield index, 3)) (hL : Cond.fieldLink Y.1.cls index "java/lang/String" "value" "[B" ∈ tG) (hi : i < 27) (kk : E Y d mc ms Q B k n (pc + 3) ls (vR 51 i :: st) σ) : E Y d mc ms Q B k n pc ls (vR 50 i :: st) σ := by
  refine E_lift ?_ kk
  intro p l e s m args below meth c H locs cs D A ad Z lc sc hC hK hS hR hl hs kk
  obtain ⟨_, sc, rfl, ⟨hm, rfl⟩, hs1⟩ := sr_1 hs
  exact vk_getf hC.1 hC.2.1 (hK.2.2.1.1 i hi).2.2.1 hS hC.2.2.2.2.1 (hC.2.2.2.2.2.1 _ hL) (fun _ h => h) hd (kk H locs lc _ hS hR hl ⟨⟨Or.inr (Or.inr (Or.inl rfl)), rfl⟩, hs1⟩)
theorem E_scod {index i : Nat} (hd : decode Y.2.1 pc = .ok (.getfield index, 3)) (hL : Cond.fieldLink Y.1.cls index "java/lang/String" "code\x72" "B" ∈ tG) (hi : i < 27) (kk : E Y d mc ms Q B k n (pc + 3) ls (vI 0 :: st) σ) : E Y d mc ms Q B k n pc ls (vR 50 i :: st) σ := by
  refine E_lift ?_ kk
  intro p l e s m args below meth c H locs cs D A ad Z lc sc hC hK hS hR hl hs kk
  obtain ⟨_, sc, rfl, ⟨hm, rfl⟩, hs1⟩ := sr_1 hs
  exact vk_getf hC.1 hC.2.1 (hK.2.2.1.1 i hi).2.1 hS hC.2.2.2.2.1 (hC.2.2.2.2.2.1 _ hL) (fun _ h => h) hd (kk H locs lc _ hS hR hl ⟨rl_int 0 rfl, hs1⟩)
theorem E_cmps {index : Nat} (hd : decode Y.2.1 pc = .ok (.getstatic index, 3)) (hL : Cond.fieldLink Y.1.cls index "java/lang/String" "COMPACT_STRINGS" "Z" ∈ tG) (kk : E Y d mc ms Q B k n (pc + 3) ls (vI 1 :: st) σ) : E Y d mc ms Q B k n pc ls st σ := by
  refine E_lift ?_ kk
  intro p l e s m args below meth c H locs cs D A ad Z lc sc hC hK hS hR hl hs kk
  exact va_gets hC.1 hC.2.1 hK.2.2.2.2.1 hS hC.2.2.2.2.1 (hC.2.2.2.2.2.1 _ hL) (fun _ h => h) hd (kk H locs lc _ hS hR hl ⟨rl_int 1 rfl, hs⟩)
def sl (i : Nat) : Int := ((sLen.getD i 0 : Nat) : Int)
def sb (i : Nat) (x : Int) : Int := ((sByt.getD i []).getD x.toNat 0).toInt
theorem sLen_lt : ∀ i, i < 27 → sLen.getD i 0 < 1000 := by decide
theorem E_slen {i : Nat} (hd : decode Y.2.1 pc = .ok (.arraylength, 1)) (hi : i < 27) (kk : E Y d mc ms Q B k n (pc + 1) ls (vI (sl i) :: st) σ) : E Y d mc ms Q B k n pc ls (vR 51 i :: st) σ := by
  refine E_lift ?_ kk
  intro p l e s m args below meth c H locs cs D A ad Z lc sc hC hK hS hR hl hs kk
  obtain ⟨_, sc, rfl, ⟨hm, rfl⟩, hs1⟩ := sr_1 hs
  exact va_tlen hC.1 hC.2.1 (hK.2.2.1.1 i hi).2.2.2 hS rfl hd (kk H locs lc _ hS hR hl ⟨rl_int _ (nI_toInt (by have := sLen_lt i hi; omega)), hs1⟩)
theorem E_sbyt {i : Nat} {x : Int} (hd : decode Y.2.1 pc = .ok (.baload, 1)) (hi : i < 27) (h0 : 0 ≤ x) (h1 : x < sl i) (kk : E Y d mc ms Q B k n (pc + 1) ls (vI (sb i x) :: st) σ) : E Y d mc ms Q B k n pc ls (vI x :: vR 51 i :: st) σ := by
  refine E_lift ?_ kk
  intro p l e s m args below meth c H locs cs D A ad Z lc sc hC hK hS hR hl hs kk
  obtain ⟨_, sc, rfl, ⟨x', rfl, rfl⟩, hs1⟩ := sr_1 hs
  obtain ⟨_, sc, rfl, ⟨hm, rfl⟩, hs2⟩ := sr_1 hs1
  exact va_tb hC.1 hC.2.1 (hK.2.2.1.1 i hi).2.2.2 hS (vin h0 h1) rfl hd (kk H locs lc _ hS hR hl ⟨rl_int _ rfl, hs2⟩)
def ib (x : Int) : Int := ((Int32.ofInt x).toInt8.toInt32).toInt
theorem E_i2b {x : Int} (hd : decode Y.2.1 pc = .ok (.i2b, 1)) (kk : E Y d mc ms Q B k n (pc + 1) ls (vI (ib x) :: st) σ) : E Y d mc ms Q B k n pc ls (vI x :: st) σ := by
  refine E_lift ?_ kk
  intro p l e s m args below meth c H locs cs D A ad Z lc sc hC hK hS hR hl hs kk
  obtain ⟨_, sc, rfl, ⟨x', rfl, rfl⟩, hs1⟩ := sr_1 hs
  exact lv_i2b hC.1 hC.2.1 hd rfl (kk H locs lc _ hS hR hl ⟨rl_int _ (by unfold ib; rw [i32_back]), hs1⟩)
theorem E_bret {z : Int} (hd : decode Y.2.1 pc = .ok (.ireturn, 1)) (hr : Y.2.2.2 = some .byte) (hz : z = 0 ∨ z = 1) (hq : Q (some (vI z)) B σ) : E Y d k n Q B k n pc ls [vI z] σ := by
  intro p l e s m args below meth c H locs cs D A ad ad0 B0 lc sc hC hK hA hS hR hX hl hs
  obtain ⟨_, sc, rfl, ⟨x, rfl, rfl⟩, hs1⟩ := sr_1 hs
  have := sr_0 hs1
  subst this
  have hx : x = 0 ∨ x = 1 := hz.imp (fun h => Int32.toInt_inj.mp h) (fun h => Int32.toInt_inj.mp h)
  exact W_EZ <| W.zret hC.1 hC.2.1 (hC.2.2.1.trans hr) (by rcases hx with rfl | rfl <;> rfl) (fun t ht hW => ⟨⟨some (vI x.toInt), B, σ, ad, ⟨_, rfl, rl_int x rfl⟩, hq, by rw [ht]; exact hR, hX⟩, hS.F ht⟩) hS.2.2 hd hC.2.2.2.2.2.2.1
def MZ (Y : My) (np : Nat) : Prop := MW Y np ∧ Cond.instanceMethod Y.1 ∈ tG ∧ Cond.selects "java/lang/String" Y.1 Y.1 ∈ tG
theorem E_callZ {Y' : My} {d' mc' ms' index np i : Nat} {as : List AV} {stk : List AV} {Q' : Option AV → Wd → St → Prop} (hd : decode Y.2.1 pc = .ok (.invokevirtual index, 3)) (hL : Cond.methodLink Y.1.cls index Y'.1 ∈ tG) (hM : MZ Y' np) (hi : i < 27) (hdd : d' + 1 ≤ d) (hk : k + mc' ≤ mc) (hn : n + ms' ≤ ms) (hstk : stk = as.reverse ++ vR 50 i :: st) (has : as.length = np) (hcat : cat st ≤ 8) (hC' : Cn Y' d' mc' ms' B σ (vR 50 i :: as) Q')
    (kk : ∀ r B' σ', Q' r B' σ' → E Y d mc ms Q B' (k + mc') (n + ms') (pc + 3) ls (pu r st) σ') : E Y d mc ms Q B k n pc ls stk σ := by
  intro p l e s m args below meth c H locs cs D A ad ad0 B0 lc sc hC hK hA hS hR hX hl hs
  subst hstk
  obtain ⟨va, vb, rfl, h1, h2, hlen⟩ := sr_app hs
  obtain ⟨_, rest, rfl, ⟨hm, rfl⟩, h3⟩ := sr_1 h2
  obtain ⟨⟨hM1, hM2, hM3, hM4⟩, hM5, hM6⟩ := hM
  have hts := hC.2.2.2.2.2.1
  have hcell := vk_recv hK.2.2.1 hi hS
  have hsr : sr B ad (Value.ref (ad 50 i) :: va.reverse) (vR 50 i :: as) := ⟨⟨hm, rfl⟩, by have := sr_rev h1; rw [List.reverse_reverse] at this; exact this⟩
  have hrun := va_runV (p := p) (e := e) (below := below) (meth := meth) (locs := locs) (cells := k) (slots := n) (As := va.reverse) (rest := rest) (b := ad 50 i) (C := "java/lang/String") (g := F0 m pc lc (va ++ Value.ref (ad 50 i) :: rest)) (nL := Y.2.2.1) (R := rmo d mc ms) (H := H) ⟨hC.1, hC.2.1, hC.2.2.2.1, hC.2.2.2.2.1, hts⟩ (hC' l cs D A ad (Value.ref (ad 50 i) :: va.reverse))
    ⟨callB_of np hts (wsY_good ⟨hM1, hM2, hM3, hM4⟩) rfl rfl rfl (hts _ hM2) (hts _ hL) hM4 (rooms hdd hM3), hts _ hM5, hts _ hM6⟩
    ⟨fun a U g mk q => ⟨q.1, q.2.1.blind, q.2.2.1, q.2.2.2.1, q.2.2.2.2⟩, hcell, fun U hU hW => ⟨rfl, Kx.warm hW hU hS hK, fun q hq => hA q (Nat.le_trans hS.1 (by rw [← hU]; exact hq)), by rw [hU]; exact hR, hsr⟩⟩
    rfl (by rw [List.length_reverse, hlen, List.length_reverse, has]) hl.1 (by rw [List.reverse_reverse]) (lv_room (by rw [cat_sr h3]; exact hcat)) hd ⟨hk, hn⟩
  exact E_after hrun hC hK hA hS hX hl h3 kk
/-- a State put into the row of the past -/
theorem E_aast {x : Int} {i' : Nat} (hd : decode Y.2.1 pc = .ok (.aastore, 1)) (h0 : 0 ≤ x) (h1 : x < 16) (hi : (i' : Int) ≤ 2147483647) (hB : ∀ j : Nat, j < 16 → B.2 600 0 j = true) (kk : E Y d mc ms Q B k n (pc + 1) ls st (up σ 600 0 x ((i' : Nat) : Int))) : E Y d mc ms Q B k n pc ls (vR 9 i' :: vI x :: vR 600 0 :: st) σ := by
  refine E_lift ?_ kk
  intro p l e s m args below meth c H locs cs D A ad Z lc sc hC hK hS hR hl hs kk
  obtain ⟨_, sc, rfl, ⟨hmv, rfl⟩, hs0⟩ := sr_1 hs
  obtain ⟨_, sc, rfl, ⟨x', rfl, rfl⟩, hs1⟩ := sr_1 hs0
  obtain ⟨_, sc, rfl, ⟨hm, rfl⟩, hs2⟩ := sr_1 hs1
  have h6 : shp 600 = (4, 16) := rfl
  have hmv := hmv.resolve_right (out_obj (by decide))
  have hm := hm.resolve_right (out_arr h6 (by decide))
  obtain ⟨q, hq1, hq2⟩ := wl_at (cs := cs) (ad := ad) (σ := σ) hm
  obtain ⟨qv, hv1, hv2⟩ := wl_at (cs := cs) (ad := ad) (σ := σ) hmv
  have hc2 := clamp32 h0
  refine va_astq hC.1 hC.2.1 hK.1 hR.1 hR.2.1 hS q 4 qv 9 (cA := cs 4) (r := (RX9, TX9, 13)) (n := 16) (v := ad 9 i') (f := fun j => rfv B ad σ 600 0 j) (by rw [hq2, ce_ref h6 (by decide) (by decide)]) rfl (by rw [hv2, ce_obj (Nat.le_of_ble_eq_true rfl)]) rfl (vin h0 h1) hd (fun H1 locs1 hP1 hD1 hS1 => ?_)
  refine kk H1 locs1 lc sc hS1 ?_ hl hs2
  have he : (.inl (cs 4, 16, .inr (.inr (.inr (.inr (va_up (fun j => rfv B ad σ 600 0 j) x'.toNatClampNeg (some (ad 9 i'))))))) : va_E) = ce cs B ad (up σ 600 0 x'.toInt (i' : Int)) 600 0 := by
    rw [ce_ref h6 (by decide) (by decide)]
    congr 3
    congr 4
    funext j
    unfold va_up
    by_cases e : j = x'.toNatClampNeg
    · subst e
      rw [if_pos rfl]
      unfold rfv go
      rw [if_pos (hB _ (by omega)), if_neg (by decide), if_pos rfl, hc2, up_at]
      rfl
    · rw [if_neg e]
      have hg : ∀ τ : St, rfv B ad τ 600 0 j = if B.2 600 0 j = true then some (ad 9 (τ 600 0 j).toNat) else none := fun _ => rfl
      refine (hg σ).trans (Eq.trans ?_ (hg _).symm)
      rw [up_nx (fun q => e (by omega))]
  have hs' := wl_set (cs := cs) (ad := ad) (σ' := up σ 600 0 x'.toInt (i' : Int)) hR.2.1 hq1 (fun r _ hne => ce_congr (fun x => up_ne (fun a => hne a)))
  rw [he, show (600, 0).1 = 600 from rfl, hs'] at hP1 hD1
  refine ⟨hP1, hD1, ?_, fun r hr j g1 g2 => ?_⟩
  · rw [up_cl h0]
    exact Rg_up hR.2.2.1 (by rw [lgp_arr h6 (by decide), if_neg (by decide)]; exact ⟨by omega, hi⟩)
  · by_cases e : r.1 = 600 ∧ r.2 = 0 ∧ (j : Int) = x'.toInt
    · obtain ⟨e1, e2, e3⟩ := e
      rw [show go (up σ 600 0 x'.toInt (i' : Int)) r.1 r.2 j = (9, i') by rw [e1, e2]; unfold go; rw [if_neg (by decide), if_pos rfl, e3, up_at]; rfl]
      exact hmv
    · have : go (up σ 600 0 x'.toInt (i' : Int)) r.1 r.2 j = go σ r.1 r.2 j := by
        unfold go
        split
        · rfl
        · split
          · rename_i u1 u2
            have : up σ 600 0 x'.toInt (i' : Int) 600 r.2 (j : Int) = σ 600 r.2 (j : Int) := by
              unfold up
              rw [if_neg]
              rintro ⟨-, a2, a3⟩
              exact e ⟨u2, a2, a3⟩
            rw [this]
          · rfl
      rw [this]
      exact hR.2.2.2 r hr j g1 g2
end ERules7

section ChkIndex
theorem mt_pre (l : Launch) (x n : Int32) (r : Value) (hr : r = .null ∨ ∃ a, r = .ref a) (h0 : 0 ≤ x.toInt) (h1 : x.toInt < n.toInt) : Met l yJ3_checkIndex_8e157 (wsY (yJ3_checkIndex_8e157, cJ3_checkIndex_8e157, 3, some .int)) (rmo 0 0 0) (fun v _ => v = ([.int x, .int n, r] : List Value).toArray) (QcRead x) 0 0 (fun _ => False) := by
  refine Met.ofW (cc := cJ3_checkIndex_8e157) (maxL := 3) (ret := some .int) (by decide) rfl ?_
  intro p e s m args below meth c s₁ B hml hv
  subst hv
  have hl := lv_entry ([.int x, .int n, r]) (n := 3) (by rcases hr with rfl | ⟨a, rfl⟩ <;> exact Nat.le_of_ble_eq_true rfl)
  rw [lg_entry_eq]
  generalize (lg_sl ([.int x, .int n, r]) ++ List.replicate (3 - (lg_sl ([.int x, .int n, r])).length) Slot.unset).toArray = ls at hl ⊢
  have hl : lv_has ls 3 (lv_args 0 [.int x, .int n, r]) := hl
  have a0 : ls[0]? = some (.val (.int x)) := hl.2.2 (0, .int x) List.mem_cons_self
  have a1 : ls[1]? = some (.val (.int n)) := hl.2.2 (1, .int n) (List.mem_cons_of_mem _ List.mem_cons_self)
  refine lv_iload_n B.exec B.bytes dJ3_checkIndex_8e157_0 rfl a0 ?_
  refine lv_if_lt (tgt := 9) B.exec B.bytes dJ3_checkIndex_8e157_1 (by decide) (fun h => absurd ((z32_lt x).mp h) (by omega)) (fun _ => ?_)
  refine lv_iload_n B.exec B.bytes dJ3_checkIndex_8e157_4 rfl a0 ?_
  refine lv_iload_n B.exec B.bytes dJ3_checkIndex_8e157_5 rfl a1 ?_
  refine lv_icmp_lt (tgt := 16) B.exec B.bytes dJ3_checkIndex_8e157_6 (by decide) (fun _ => ?_) (fun h => absurd (Int32.lt_iff_toInt_lt.mpr h1) h)
  refine lv_iload_n B.exec B.bytes dJ3_checkIndex_8e157_16 rfl a0 ?_
  exact W.iret B.exec B.bytes B.returns (fun t ht _ => ⟨rfl, ht⟩) (fun q hq => by cases hq) dJ3_checkIndex_8e157_17 B.notSynchronized
def P_J0_checkIndex_df160 (x0 x1 : Int) (σ : St) (Q : St → Prop) : Prop := 0 ≤ x0 ∧ x0 < x1 ∧ Q σ
theorem s_J0_checkIndex_df160 {x0 x1 : Int} {σ : St} {Q : St → Prop} (h : P_J0_checkIndex_df160 x0 x1 σ Q) : Cn Y_J0_checkIndex_df160 1 0 0 ww σ [vI x0, vI x1] (QV Q) := by
  obtain ⟨h0, h1, hq⟩ := h
  intro l cs D A ad vs
  refine Met.ofW (cc := cJ0_checkIndex_df160) (maxL := 2) (ret := none) (by decide) rfl ?_
  intro p e s m args below meth c s₁ Bd hml hv
  obtain ⟨rfl, hK, hA, hR, hsr⟩ := hv
  have hts0 := atoms_spec (ws := wsY Y_J0_checkIndex_df160) Bd.pre
  have hts : ∀ w ∈ tG, w.before vs.toArray s = true := fun w hw => hts0 w (List.mem_cons_of_mem _ hw)
  have hown : s.vm.findClass RJ0 = some m.cls := findClass_of_methodNamed Bd.named
  obtain ⟨_, vs, rfl, ⟨x', rfl, rfl⟩, hs1⟩ := sr_1 hsr
  obtain ⟨_, vs, rfl, ⟨n', rfl, rfl⟩, hs2⟩ := sr_1 hs1
  have := sr_0 hs2
  subst this
  have hl := lv_entry ([.int x', .int n']) (n := 2) (Nat.le_of_ble_eq_true rfl)
  rw [lg_entry_eq]
  generalize (lg_sl ([.int x', .int n']) ++ List.replicate (2 - (lg_sl ([.int x', .int n'])).length) Slot.unset).toArray = ls at hl ⊢
  have hl : lv_has ls 2 [(0, .int x'), (1, .int n')] := hl
  have hS : va_S A s.heap s.heap [] := va_S.rf
  refine lv_iload_n Bd.exec Bd.bytes dJ0_checkIndex_df160_0 rfl (lv_at hl 0 rfl) ?_
  refine lv_iload_n Bd.exec Bd.bytes dJ0_checkIndex_df160_1 rfl (lv_at hl 1 rfl) ?_
  have key : ∀ r : Value, (r = .null ∨ ∃ a, r = .ref a) → va_Z "jdk/internal/util/Preconditions" "SIOOBE_FORMATTER" "Ljava/util/function/BiFunction;" r A s s.heap → W p l.1 e (rmo 1 0 0) s m ([.int x', .int n'] : List Value).toArray below meth c s.heap [] 0 0 (MQ below (QC cs D A ww ad (QV Q)) ([.int x', .int n'] : List Value).toArray s 0 0 A) (F0 m 2 ls [.int n', .int x']) := by
    intro r hr hZ
    refine va_gets Bd.exec Bd.bytes hZ hS hown (hts _ fs_RJ0_1053) (fun _ h => h) dJ0_checkIndex_df160_2 ?_
    have hrun := W.runS (p := p) (e := e) (below := below) (meth := meth) (locs := []) (cells := 0) (slots := 0) (As := [.int x', .int n', r]) (rest := []) (g := F0 m 5 ls [r, .int n', .int x']) (nL := 2) (R := rmo 1 0 0) (H := s.heap) ⟨Bd.exec, Bd.bytes, hml, hown, hts⟩ (mt_pre l.1 x' n' r hr h0 h1)
      ⟨callB_of 3 hts (wsY_good m_J3_checkIndex_8e157.1) rfl rfl rfl (hts _ m_J3_checkIndex_8e157.1.2.1) (hts _ lk_RJ0_1059) m_J3_checkIndex_8e157.1.2.2.2 (rooms (by decide) (by decide)), hts _ m_J3_checkIndex_8e157.2⟩
      ⟨fun a U g mk q => q, fun U hU hW => rfl⟩ rfl rfl hl.1 rfl (lv_room (by simp)) dJ0_checkIndex_df160_5 ⟨Nat.le_refl _, Nat.le_refl _⟩
    refine W.callR hrun ?_
    refine lv_pop Bd.exec Bd.bytes dJ0_checkIndex_df160_8 rfl ?_
    exact W.vret Bd.exec Bd.bytes Bd.returns (fun t ht hW => ⟨⟨none, ww, σ, ad, rfl, ⟨rfl, rfl, hq⟩, by rw [ht]; exact hR, Ext.rf⟩, hS.F ht⟩) (fun q hq => by cases hq) dJ0_checkIndex_df160_9 Bd.notSynchronized
  rcases hK.2.2.2.2.2.1 with hz | ⟨a, hz⟩
  · exact key _ (Or.inl rfl) hz
  · exact key _ (Or.inr ⟨a, rfl⟩) hz
end ChkIndex
