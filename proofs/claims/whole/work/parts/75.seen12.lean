/-! 75: who, ask of the reference -/
section
variable {n m dk : Int} {z : Ab} {σ : St}
theorem t_Dy' {v : V4} {i : Int} {τ : St} {Q : Int → St → Prop} (hB : Bas n m dk v z σ) (hD : Dy n m dk v z σ i τ) (i0 : 0 ≤ i) (i1 : i ≤ 90000)
    (k : ∀ σ', Dy n m dk v z σ (i + 1) σ' → Sm deA τ σ' → ∀ r, Q r σ') : P_X12_endsAsTold τ Q := by
  obtain ⟨hX, hE, hW, hC, hL, hd⟩ := hB
  obtain ⟨hs, hc⟩ := hD
  have ei : ((i.toNat : Nat) : Int) = i := Int.toNat_of_nonneg i0
  refine t_told (Cxt_keep hs rfl hX) (ShE_keep hs rfl hE) (WfZ_dyN hX.spw hW i.toNat (by omega)) hc (LwA_keep hs rfl hL) (by rw [dyN_day]; omega) (fun σ1 s1 c1 r => ?_)
  rw [show spC τ 0 = spC σ 0 from spC_keep hs rfl, hs.row (t := 8) (i := 0) rfl, hs.row (t := 908) (i := 0) rfl] at c1
  refine k σ1 ⟨hs.tr (mem_sub (B := deB) rfl s1), ?_⟩ s1 r
  rw [show (i + 1).toNat = i.toNat + 1 by omega]
  exact c1
theorem t_X12_laysFalls {v : V4} {Q : St → Prop} (hB : Bas n m dk v z σ)
    (k : ∀ σ', Sm qrB σ σ' → StA n m (σ' 1346 0) z → (∀ d b : Int, 0 ≤ d → d ≤ 30 → 0 ≤ b → b < m → σ' 1357 0 (6 * d + b) = fld (spC σ 0) v (dmpW (σ 8 0 12) (σ 908 0)) z b d) → Q σ') : P_X12_laysFalls σ Q := by
  have m6 := hB.1.spw.2.2.2.2.1
  unfold P_X12_laysFalls
  refine t_Bas_aside hB (fun σ1 s1 hB1 c1 => ?_)
  have s01 : Sm qrB σ σ1 := mem_sub (B := qrB) rfl s1
  have es : spC σ1 0 = spC σ 0 := spC_keep s01 rfl
  have e8 : σ1 8 0 = σ 8 0 := s01.row rfl
  have e908 : σ1 908 0 = σ 908 0 := s01.row rfl
  generalize hF : fld (spC σ 0) v (dmpW (σ 8 0 12) (σ 908 0)) z = F at k
  have hF1 : fld (spC σ1 0) v (dmpW (σ1 8 0 12) (σ1 908 0)) z = F := by rw [es, e8, e908]; exact hF
  refine loopI (X := St) (F := fun n' i τ => P_X12_laysFalls_L15 (fun σ_7 => P_X12_copies 1348 0 0 1346 0 0 σ_7 (fun σ_8 => Q σ_8)) Q n' i τ) (N := 31) (fun i τ => Dy n m dk v z σ1 i τ ∧ ∀ d b : Int, 0 ≤ d → d < i → 0 ≤ b → b < m → τ 1357 0 (6 * d + b) = F b d) ?_ ?_ 31 0 σ1 FU (Int.le_refl 0) (by omega) (FU_pos (by omega)) ⟨Dy_0 hB1, fun d b d0 d1 => by omega⟩
  · rintro n' i τ i0 i1 ⟨hD, hr⟩ k'
    unfold P_X12_laysFalls_L15
    rw [if_neg (by omega), wi_id (z := i + 1) (by omega) (by omega)]
    refine loopI (X := St) (F := fun n2 j υ => P_X12_laysFalls_L23 i (fun σ_4 => P_X12_endsAsTold σ_4 (fun r_6 σ_5 => (P_X12_laysFalls_L15 (fun σ_7 => P_X12_copies 1348 0 0 1346 0 0 σ_7 (fun σ_8 => Q σ_8)) Q n') (i + 1) σ_5)) Q n2 j υ) (N := m) (fun j υ => Dy n m dk v z σ1 i υ ∧ (∀ d b : Int, 0 ≤ d → d < i → 0 ≤ b → b < m → υ 1357 0 (6 * d + b) = F b d) ∧ ∀ b : Int, 0 ≤ b → b < j → υ 1357 0 (6 * i + b) = F b i) ?_ ?_ m.toNat 0 τ FU (Int.le_refl 0) (by omega) (FU_pos (by omega)) ⟨hD, hr, fun b b0 b1 => by omega⟩
    · rintro n2 j υ j0 j1 ⟨hD2, hr2, hr3⟩ k2
      obtain ⟨x, e, -, -⟩ := Dy_cxt hB1 hD2
      unfold P_X12_laysFalls_L23
      rw [e.2.1, x.2.2.1, if_neg (by omega)]
      refine t_Dy_fall hB1 hD2 j0 j1 ?_
      rw [hF1, wi_id (z := 6 * i) (by omega) (by omega), wi_id (z := 6 * i + j) (by omega) (by omega), wi_id (z := j + 1) (by omega) (by omega)]
      refine ⟨by omega, by omega, k2 _ ⟨Dy_up hD2 rfl rfl, fun d b d0 d1 b0 b1 => ?_, fun b b0 b1 => ?_⟩⟩
      · rw [up_nx (by omega)]; exact hr2 d b d0 d1 b0 b1
      · by_cases eb : b = j
        · rw [eb, up_at]
        · rw [up_nx (by omega)]; exact hr3 b b0 (by omega)
    · rintro n2 υ ⟨hD2, hr2, hr3⟩
      obtain ⟨x, e, -, -⟩ := Dy_cxt hB1 hD2
      unfold P_X12_laysFalls_L23
      rw [e.2.1, x.2.2.1, if_pos (Int.le_refl m)]
      refine t_Dy' hB1 hD2 i0 (by omega) (fun σ2 h2 s2 _ => k' σ2 ⟨h2, fun d b d0 d1 b0 b1 => ?_⟩)
      rw [s2.row (t := 1357) (i := 0) rfl]
      by_cases ed : d = i
      · rw [ed]; exact hr3 b b0 b1
      · exact hr2 d b d0 (by omega) b0 b1
  · rintro n' τ ⟨hD, hr⟩
    unfold P_X12_laysFalls_L15
    rw [if_pos (by omega)]
    refine t_Dy_back (v := v) hB1 c1 (mem_sub (A := deB) (B := qrB) rfl hD.1) (hD.1.row rfl) (fun σ2 s2 s3 c2 => ?_)
    refine k σ2 (s01.tr s2) c2 (fun d b d0 d1 b0 b1 => ?_)
    rw [s3.row (t := 1357) (i := 0) rfl]
    exact hr d b d0 (by omega) b0 b1
theorem t_X12_isAsSeen {b : Int} {y : Sn} {F : Int → Int → Int} {Q : Int → St → Prop} (hS : SeA σ 0 y) (hW : WfS n y) (h6 : m ≤ 6) (b0 : 0 ≤ b) (b1 : b < m)
    (hr : ∀ d b : Int, 0 ≤ d → d ≤ 30 → 0 ≤ b → b < m → σ 1357 0 (6 * d + b) = F b d)
    (k1 : agP F y b = true → Q 1 σ) (k0 : agP F y b = false → Q 0 σ) : P_X12_isAsSeen b σ Q := by
  obtain ⟨⟨h0, h8⟩, h1⟩ := hW
  obtain ⟨c1, c2⟩ := hS
  unfold P_X12_isAsSeen
  unfold agP at k1 k0
  refine findF (F := fun n' i => P_X12_isAsSeen_L2 b Q n' i σ) (N := y.1) (K0 := Q 1 σ) (K := fun _ => Q 0 σ) (p := fun j => decide ((if F b (y.2.2.1 j) = y.2.1 j then (1 : Int) else 0) ≠ y.2.2.2 j)) (fun n' i i0 i1 => ?_) (fun n' k => ?_) y.1.toNat 0 FU (Int.le_refl 0) (by omega) (FU_pos (by omega)) ?_
  · have d := c2 i i0 i1
    rw [show 8 * 0 + i = i by omega] at d
    obtain ⟨d1, d2, d3⟩ := d
    obtain ⟨-, hd, -⟩ := h1 i i0 i1
    have go : ∀ K : Prop, (K → P_X12_isAsSeen_J42 b i (if F b (y.2.2.1 i) = y.2.1 i then 1 else 0) (P_X12_isAsSeen_L2 b Q n') Q σ) → K → P_X12_isAsSeen_L2 b Q (n' + 1) i σ := by
      intro K hK k
      unfold P_X12_isAsSeen_L2
      rw [c1, if_neg (by omega), d2, wi_id (z := 6 * _) (by omega) (by omega), wi_id (z := 6 * _ + b) (by omega) (by omega), hr _ b hd.1 hd.2 b0 b1, d1]
      refine ⟨i0, by omega, by omega, by omega, i0, by omega, ?_⟩
      have := hK k
      split <;> rename_i h
      · rw [if_pos h] at this; exact this
      · rw [if_neg h] at this; exact this
    refine ⟨fun hp => go _ (fun k => ?_), fun hp => go _ (fun k => ?_)⟩
    · have hp := of_decide_eq_true hp
      unfold P_X12_isAsSeen_J42
      rw [d3, if_neg hp]
      exact ⟨i0, by omega, k⟩
    · have hp := Classical.not_not.mp (of_decide_eq_false hp)
      unfold P_X12_isAsSeen_J42
      rw [d3, if_pos hp, wi_id (by omega) (by omega)]
      exact ⟨i0, by omega, k⟩
  · unfold P_X12_isAsSeen_L2
    rw [c1, if_pos (Int.le_refl _)]
    exact k
  · split <;> rename_i h
    · exact k1 (by rw [h]; rfl)
    · exact k0 (by rw [h]; rfl)
theorem SeA_keep {A : List Reg} {u : Int} {y : Sn} {τ : St} (h : Sm A σ τ) (hn : noT A [1342, 1343, 1344, 1345] 0 = true) (c : SeA σ u y) : SeA τ u y := by
  unfold SeA at c ⊢
  rw [noT_row h hn (t := 1342) (by decide), noT_row h hn (t := 1343) (by decide), noT_row h hn (t := 1344) (by decide), noT_row h hn (t := 1345) (by decide)]
  exact c
theorem t_who12 {v : V4} {y : Sn} {Q : Int → St → Prop} (hB : Bas n m dk v z σ) (hS : SeA σ 0 y) (hY : WfS n y)
    (k : ∀ σ', Sm qrB σ σ' → StA n m (σ' 1346 0) z → (∀ d b : Int, 0 ≤ d → d ≤ 30 → 0 ≤ b → b < m → σ' 1357 0 (6 * d + b) = fld (spC σ 0) v (dmpW (σ 8 0 12) (σ 908 0)) z b d) → Q (bts (agP (fld (spC σ 0) v (dmpW (σ 8 0 12) (σ 908 0)) z) y) m.toNat) σ') : P_X12_who σ Q := by
  have m6 := hB.1.spw.2.2.2.2.1
  obtain ⟨hB0, s0⟩ := Bas_look hB
  unfold P_X12_who
  refine t_X12_laysFalls hB0 (fun σ1 s1 c1 r1 => ?_)
  rw [show spC (up σ 12 0 0 0) 0 = spC σ 0 from spC_keep s0 rfl, s0.row (t := 8) (i := 0) rfl, s0.row (t := 908) (i := 0) rfl] at r1
  have s01 : Sm qrB σ σ1 := (mem_sub (B := qrB) rfl s0).tr s1
  have k := k σ1 s01 c1 r1
  have hX1 := Cxt_keep s01 rfl hB.1
  have hE1 := ShE_keep s01 rfl hB.2.1
  generalize fld (spC σ 0) v (dmpW (σ 8 0 12) (σ 908 0)) z = F at k r1
  refine loopI (X := Int) (F := fun n' i a => P_X12_who_L13 Q n' a i σ1) (N := m) (fun i a => a = bts (agP F y) i.toNat) ?_ ?_ m.toNat 0 0 FU (Int.le_refl 0) (by omega) (FU_pos (by omega)) rfl
  · rintro n' i a i0 i1 ha k'
    have z0 : ∀ q : Int → Bool, bO (bts q i.toNat) 0 = bts q i.toNat := fun q => bO_zero (bts_i32 _ _).1 (bts_i32 _ _).2
    unfold P_X12_who_L13
    rw [hE1.2.1, hX1.2.2.1, if_neg (by omega), wi_id (z := i + 1) (by omega) (by omega)]
    refine t_X12_isAsSeen (n := n) (SeA_keep s01 rfl hS) hY m6.2 i0 i1 r1 (fun h => ?_) (fun h => ?_)
    · rw [if_neg one_no]
      exact k' _ (by rw [bts_i i0, h, if_pos rfl, ha])
    · rw [if_pos rfl]
      exact k' _ (by rw [bts_i i0, h, if_neg (by decide), ha, z0])
  · rintro n' a ha
    unfold P_X12_who_L13
    rw [hE1.2.1, hX1.2.2.1, if_pos (Int.le_refl m), ha]
    exact k
theorem t_X12_ask {v : V4} {y : Sn} {Q : Int → St → Prop} (hB : Bas n m dk v z σ) (hS : SeA σ 0 y) (hY : WfS n y)
    (k : ∀ σ', Sm qrB σ σ' → StA n m (σ' 1346 0) z → Q (asW (fld (spC σ 0) v (dmpW (σ 8 0 12) (σ 908 0)) z) (agP (fld (spC σ 0) v (dmpW (σ 8 0 12) (σ 908 0)) z) y) n m) σ') : P_X12_ask σ Q := by
  have m6 := hB.1.spw.2.2.2.2.1
  have n6 := hB.1.spw.2.2.2.1
  obtain ⟨hB0, s0⟩ := Bas_look hB
  unfold P_X12_ask
  refine t_who12 hB0 (SeA_keep s0 rfl hS) hY (fun σ1 s1 c1 r1 => ?_)
  rw [show spC (up σ 12 0 0 0) 0 = spC σ 0 from spC_keep s0 rfl, s0.row (t := 8) (i := 0) rfl, s0.row (t := 908) (i := 0) rfl] at r1 ⊢
  have s01 : Sm qrB σ σ1 := (mem_sub (B := qrB) rfl s0).tr s1
  have k := k σ1 s01 c1
  have hX1 := Cxt_keep s01 rfl hB.1
  have hE1 := ShE_keep s01 rfl hB.2.1
  refine t_X12_bits m6.1 m6.2 ?_
  generalize fld (spC σ 0) v (dmpW (σ 8 0 12) (σ 908 0)) z = F at k r1 ⊢
  generalize agP F y = p at k ⊢
  unfold asW at k
  have hcp := cnt_nonneg p m.toNat
  refine loopI (X := Int × Int) (F := fun n' i a => P_X12_ask_L23 (bts p m.toNat) (cnt p m.toNat) Q n' a.1 a.2 i σ1) (N := 31) (fun i a => a = itr (fun d a => itr (fun c a => asF F p m d c a) n.toNat 0 a) (i - 0).toNat 0 (cnt p m.toNat, -1)) ?_ ?_ 31 0 (cnt p m.toNat, -1) FU (Int.le_refl 0) (by omega) (FU_pos (by omega)) rfl
  · rintro n' i a i0 i1 ha k'
    rw [itr_i i0, ← ha] at k'
    unfold P_X12_ask_L23
    rw [if_neg (by omega), wi_id (z := i + 1) (by omega) (by omega)]
    refine loopI (X := Int × Int) (F := fun n2 j a => P_X12_ask_L33 (bts p m.toNat) (cnt p m.toNat) i (fun x3_7 x4_8 σ_9 => (P_X12_ask_L23 (bts p m.toNat) (cnt p m.toNat) Q n') x3_7 x4_8 (i + 1) σ_9) Q n2 a.1 a.2 j σ1) (N := n) (fun j b => b = itr (fun c a => asF F p m i c a) (j - 0).toNat 0 a) ?_ ?_ n.toNat 0 a FU (Int.le_refl 0) (by omega) (FU_pos (by omega)) rfl
    · rintro n2 j b j0 j1 hb k2
      rw [itr_i j0, ← hb] at k2
      have hT := asT_rng (F := F) (p := p) (d := i) (c := j) m6.1
      unfold P_X12_ask_L33
      rw [hE1.1, hX1.2.1, if_neg (by omega)]
      refine loopI (X := Int) (F := fun n3 l a' => P_X12_ask_L50 (bts p m.toNat) (cnt p m.toNat) b.1 b.2 i j (fun x7_5 σ_6 => (if (max x7_5 (wi ((cnt p m.toNat) - x7_5))) < b.1 then (P_X12_ask_L33 (bts p m.toNat) (cnt p m.toNat) i (fun x3_7 x4_8 σ_9 => (P_X12_ask_L23 (bts p m.toNat) (cnt p m.toNat) Q n') x3_7 x4_8 (i + 1) σ_9) Q n2) (max x7_5 (wi ((cnt p m.toNat) - x7_5))) (wi ((wi (8 * i)) + j)) (wi (j + 1)) σ_6 else (P_X12_ask_L33 (bts p m.toNat) (cnt p m.toNat) i (fun x3_7 x4_8 σ_9 => (P_X12_ask_L23 (bts p m.toNat) (cnt p m.toNat) Q n') x3_7 x4_8 (i + 1) σ_9) Q n2) b.1 b.2 (wi (j + 1)) σ_6)) Q n3 a' l σ1) (N := m) (fun l a' => a' = cnt (fun b => p b && decide (F b i = j)) l.toNat) ?_ ?_ m.toNat 0 0 FU (Int.le_refl 0) (by omega) (FU_pos (by omega)) rfl
      · rintro n3 l a' l0 l1 ha' k3
        have hc := cnt_nonneg (fun b => p b && decide (F b i = j)) l.toNat
        unfold P_X12_ask_L50 P_X12_ask_J95
        rw [hE1.2.1, hX1.2.2.1, if_neg (by omega), bts_bit m6.2 l0 l1, wi_id (z := l + 1) (by omega) (by omega), wi_id (z := a' + 1) (by omega) (by omega), wi_id (z := a' + 0) (by omega) (by omega), wi_id (z := 6 * i) (by omega) (by omega), wi_id (z := 6 * i + l) (by omega) (by omega)]
        rw [cnt_i l0] at k3
        cases hp : p l
        · rw [if_neg (by decide)]
          rw [hp] at k3
          exact k3 _ (by rw [ha']; simp)
        · rw [if_pos rfl]
          rw [hp] at k3
          refine ⟨by omega, by omega, ?_⟩
          rw [r1 i l i0 (by omega) l0 l1]
          by_cases h : F l i = j
          · rw [if_pos h]
            exact k3 _ (by rw [ha', decide_eq_true h]; rfl)
          · rw [if_neg h]
            exact k3 _ (by rw [ha', decide_eq_false h]; simp)
      · rintro n3 a' ha'
        have ha' : a' = asT F p m i j := ha'
        subst ha'
        unfold P_X12_ask_L50
        rw [hE1.2.1, hX1.2.2.1, if_pos (Int.le_refl m)]
        rw [wi_id (z := cnt p m.toNat - _) (by omega) (by omega), wi_id (z := 8 * i) (by omega) (by omega), wi_id (z := 8 * i + j) (by omega) (by omega), wi_id (z := j + 1) (by omega) (by omega)]
        by_cases h : b.1 ≤ max (asT F p m i j) (cnt p m.toNat - asT F p m i j)
        · rw [if_neg (by omega)]
          exact k2 b (by unfold asF; rw [if_pos h])
        · rw [if_pos (by omega)]
          exact k2 (_, _) (by unfold asF; rw [if_neg h])
    · rintro n2 b hb
      unfold P_X12_ask_L33
      rw [hE1.1, hX1.2.1, if_pos (Int.le_refl n)]
      exact k' b (by rw [hb, show n - 0 = n by omega])
  · rintro n' a ha
    unfold P_X12_ask_L23
    rw [if_pos (by omega), ha]
    exact k
end
