/-! 65: the reference's weeks -/
section
variable {n m dk : Int} {z : Ab} {σ : St} {Q : Int → St → Prop}
theorem t_X12_J89 {z1 z0 : Ab} {hm : Int → Int} {x3 st : Int} (hX : Cxt n m dk σ) (hE : ShE σ) (hh : ∀ b : Int, 0 ≤ b → b < m → σ 906 0 b = hm b) (hW : WfZ n m dk z1) (hC : StA n m (σ 1346 0) z1) (hW0 : WfZ n m dk z0) (hA : StA n m (σ 1347 0) z0) (h54 : σ 12 0 54 = st)
    (k : ∀ σ', Sm [(1346, 0, none)] σ σ' → StA n m (σ' 1346 0) z0 → Q (if x3 = 0 then st else if x3 = 1 then bts (astP hm z1) m.toNat else sm (zSize z1) m.toNat) σ') : P_X12_weeks_J89 x3 Q σ := by
  have m6 := hX.spw.2.2.2.2.1
  have em : σ 1310 0 1 = m := by rw [hE.2.1]; exact hX.2.2.1
  unfold P_X12_weeks_J89
  refine t_X12_astrayNow hX hE hh hC ?_
  refine loopI (X := Int) (F := fun n' i a => P_X12_weeks_L101 x3 (bts (astP hm z1) m.toNat) (fun x5_12 σ_13 => P_X12_copies 1347 0 0 1346 0 0 σ_13 (fun σ_14 => (if x3 = 0 then Q (σ_14 12 0 54) σ_14 else (if x3 = 1 then Q (bts (astP hm z1) m.toNat) σ_14 else Q x5_12 σ_14)))) Q n' a i σ) (N := m) (fun i a => a = sm (zSize z1) i.toNat) ?_ ?_ m.toNat 0 0 FU (Int.le_refl 0) (by omega) (FU_pos (by omega)) rfl
  · rintro n' i a i0 i1 ha k'
    have hz := sm_rng (f := zSize z1) (c := 60) i.toNat (fun b b0 b1 => by have := (hW.2.2.2.2.2.2.2 b b0 (by omega)).1; omega)
    have hzi := (hW.2.2.2.2.2.2.2 i i0 i1).1
    unfold P_X12_weeks_L101
    rw [em, if_neg (by omega), wi_id (z := 16 + i) (by omega) (by omega), (hC.2.2.2.2.2.2 i i0 i1).1, wi_id (z := i + 1) (by omega) (by omega), wi_id (z := a + zSize z1 i) (by omega) (by omega)]
    exact ⟨by omega, by omega, k' _ (by rw [sm_i i0, ha])⟩
  · rintro n' a ha
    unfold P_X12_weeks_L101
    rw [em, if_pos (Int.le_refl m), ha]
    refine t_asback (t := 1347) (z := z0) rfl rfl hX hW0 hA (fun σ2 s2 c2 => ?_)
    rw [s2.row (t := 12) (i := 0) rfl, h54]
    have k := k σ2 s2 c2
    split <;> rename_i h
    · rwa [if_pos h] at k
    · rw [if_neg h] at k
      split <;> rename_i h'
      · rwa [if_pos h'] at k
      · rwa [if_neg h'] at k
theorem t_X12_weeks {v : V4} {x1 x2 x3 : Int} (hX : Cxt n m dk σ) (hE : ShE σ) (hW : WfZ n m dk z) (hC : StA n m (σ 1346 0) z) (hL : LwA v σ) (hd : zDay z < 900000)
    (k : ∀ σ', Sm qrA σ σ' → StA n m (σ' 1346 0) z → Q (wkW (spC σ 0) m v (dmpW (σ 8 0 12) (σ 908 0)) (σ 906 0) z x1 x2 x3) σ') : P_X12_weeks x1 x2 x3 σ Q := by
  obtain ⟨hX0, hE0, hC0, s0⟩ := look0 hX hE hC
  have hsp := hX.spw
  have m6 := hsp.2.2.2.2.1
  unfold P_X12_weeks
  unfold wkW at k
  refine t_X12_within (fun a0 a1 => ?_) (fun h => ?_)
  · rw [if_neg one_no]
    refine t_X12_within (fun b0 b1 => ?_) (fun h => ?_)
    · rw [if_neg one_no]
      refine t_X12_within (fun c0 c1 => ?_) (fun h => ?_)
      · rw [if_neg one_no]
        rw [if_pos ⟨⟨a0, a1⟩, ⟨b0, b1⟩, ⟨c0, c1⟩⟩] at k
        have s1 : Sm qrA σ (up (up σ 12 0 0 0) 12 0 58 x1) := Sm_up (mem_sub (B := qrA) rfl s0) rfl
        have hX1 := Cxt_keep s1 rfl hX
        have hC1 : StA n m ((up (up σ 12 0 0 0) 12 0 58 x1) 1346 0) z := by rw [up_oth (Or.inl rfl)]; exact hC0
        refine t_aside (t := 1347) rfl rfl hX1 hW hC1 (fun σ2 s2 c2 d2 => ?_)
        have s3 : Sm qrA σ (up σ2 12 0 54 0) := Sm_up (s1.tr (mem_sub (B := qrA) rfl s2)) rfl
        have e58 : (up σ2 12 0 54 0) 12 0 58 = x1 := by rw [up_nx (by decide), s2.row (t := 12) (i := 0) rfl, up_at]
        have c3 : StA n m ((up σ2 12 0 54 0) 1346 0) z := by rw [up_oth (Or.inl rfl)]; exact c2
        have d3 : StA n m ((up σ2 12 0 54 0) 1347 0) z := by rw [up_oth (Or.inl rfl)]; exact d2
        have e54 : (up σ2 12 0 54 0) 12 0 54 = 0 := up_at
        generalize up σ2 12 0 54 0 = τ0 at s3 e58 c3 d3 e54 ⊢
        -- behind the steps
        have fin : ∀ τ : St, Sm qrA σ τ → StA n m (τ 1346 0) (wkF (spC σ 0) m v (dmpW (σ 8 0 12) (σ 908 0)) (σ 906 0) z x1 x2).2.1 → StA n m (τ 1347 0) z → τ 12 0 54 = (wkF (spC σ 0) m v (dmpW (σ 8 0 12) (σ 908 0)) (σ 906 0) z x1 x2).2.2 → P_X12_weeks_J89 x3 Q τ := by
          intro τ st ct dt et
          refine t_X12_J89 (hm := σ 906 0) (Cxt_keep st rfl hX) (ShE_keep st rfl hE) (fun b _ _ => by rw [st.row (t := 906) (i := 0) rfl]) (wkF_ok hsp hW hd ⟨a0, a1⟩ b1) ct hW dt et (fun υ su cu => ?_)
          exact k υ (st.tr (mem_sub (B := qrA) rfl su)) cu
        by_cases m0 : 0 < m
        · have hF : wkF (spC σ 0) m v (dmpW (σ 8 0 12) (σ 908 0)) (σ 906 0) z x1 x2 = itr (fun _ => livW (spC σ 0) m v (dmpW (σ 8 0 12) (σ 908 0)) (σ 906 0)) x2.toNat 0 (x1, z, 0) := by unfold wkF; rw [if_pos m0]
          rw [hF] at fin
          refine loopI (X := St) (F := fun n' i τ => P_X12_weeks_L64 x2 x3 (fun σ_9 => P_X12_weeks_J89 x3 Q σ_9) Q n' i τ) (N := x2) (fun i τ => Sm qrA σ τ ∧ LvW n m dk (zDay z) i (itr (fun _ => livW (spC σ 0) m v (dmpW (σ 8 0 12) (σ 908 0)) (σ 906 0)) (i - 0).toNat 0 (x1, z, 0)) ∧ τ 12 0 58 = (itr (fun _ => livW (spC σ 0) m v (dmpW (σ 8 0 12) (σ 908 0)) (σ 906 0)) (i - 0).toNat 0 (x1, z, 0)).1 ∧
            StA n m (τ 1346 0) (itr (fun _ => livW (spC σ 0) m v (dmpW (σ 8 0 12) (σ 908 0)) (σ 906 0)) (i - 0).toNat 0 (x1, z, 0)).2.1 ∧ τ 12 0 54 = (itr (fun _ => livW (spC σ 0) m v (dmpW (σ 8 0 12) (σ 908 0)) (σ 906 0)) (i - 0).toNat 0 (x1, z, 0)).2.2 ∧ StA n m (τ 1347 0) z) ?_ ?_ x2.toNat 0 τ0 FU (Int.le_refl 0) (by omega) (FU_pos (by omega)) ⟨s3, ⟨⟨by show (0 : Int) ≤ x1; omega, by show x1 < 2147483648; omega⟩, hW, by show zDay z ≤ zDay z + 0; omega, Int.le_refl 0, by show (0 : Int) ≤ 3600 * 0; omega⟩, (by simp only [Int.sub_self, Int.toNat_zero, itr]; exact e58), (by simp only [Int.sub_self, Int.toNat_zero, itr]; exact c3), (by simp only [Int.sub_self, Int.toNat_zero, itr]; exact e54), d3⟩
          · rintro n' i τ i0 i1 ⟨hs, hA, hg, hc, hst, hd7⟩ k'
            rw [itr_i i0] at k'
            generalize itr (fun _ => livW (spC σ 0) m v (dmpW (σ 8 0 12) (σ 908 0)) (σ 906 0)) (i - 0).toNat 0 (x1, z, 0) = a at hA hg hc hst k'
            have hA' := LvW_step (v := v) (dm := dmpW (σ 8 0 12) (σ 908 0)) (hm := σ 906 0) hsp m0 (by omega) hA
            have hX2 := Cxt_keep hs rfl hX
            have hE2 := ShE_keep hs rfl hE
            have es : spC τ 0 = spC σ 0 := spC_keep hs rfl
            unfold P_X12_weeks_L64
            rw [if_neg (by omega), hE2.2.1, hX2.2.2.1, if_neg (by omega), wi_id (z := i + 1) (by omega) (by omega)]
            refine t_X12_lives (v := v) hX2 hE2 m0 hA (by omega) (by omega) hc (LwA_keep hs rfl hL) hg hst (fun υ su cu gu tu => ?_)
            rw [es, hs.row (t := 8) (i := 0) rfl, hs.row (t := 908) (i := 0) rfl, hs.row (t := 906) (i := 0) rfl] at cu gu tu
            exact k' υ ⟨hs.tr (mem_sub (A := lvA) (B := qrA) rfl su), hA', gu, cu, tu, by rw [su.row (t := 1347) (i := 0) rfl]; exact hd7⟩
          · rintro n' τ ⟨hs, hA, hg, hc, hst, hd7⟩
            unfold P_X12_weeks_L64
            rw [if_pos (Int.le_refl x2)]
            rw [Int.sub_zero] at hc hst
            exact fin τ hs hc hd7 hst
        · have hF : wkF (spC σ 0) m v (dmpW (σ 8 0 12) (σ 908 0)) (σ 906 0) z x1 x2 = (x1, z, 0) := by unfold wkF; rw [if_neg m0]; rfl
          rw [hF] at fin
          have hE3 := ShE_keep s3 rfl hE
          obtain ⟨q, hq, -⟩ := fu_ex (n := FU) (m := 0) (FU_pos (by omega))
          rw [hq]
          unfold P_X12_weeks_L64
          rw [if_neg (by omega), hE3.2.1, (Cxt_keep s3 rfl hX).2.2.1, if_pos (by omega)]
          exact fin τ0 s3 c3 d3 e54
      · have k := k _ (mem_sub (B := qrA) rfl s0) hC0
        rw [if_neg (fun q => h q.2.2)] at k
        rw [if_pos rfl]
        exact k
    · have k := k _ (mem_sub (B := qrA) rfl s0) hC0
      rw [if_neg (fun q => h q.2.1)] at k
      rw [if_pos rfl]
      exact k
  · have k := k _ (mem_sub (B := qrA) rfl s0) hC0
    rw [if_neg (fun q => h q.1)] at k
    rw [if_pos rfl]
    exact k
end
