/-! 63: weeks by draws -/
def drW (g : Int) : Int := (wj (wj (g * 1103515245) + 12345)).tmod 2147483648
def dvW (g k : Int) : Int := wi ((wj (g.tdiv 65536)).tmod k)
theorem wj_id {z : Int} (h1 : -9223372036854775808 ≤ z) (h2 : z ≤ 9223372036854775807) : wj z = z := by
  unfold wj
  exact Int.bmod_eq_of_le (by omega) (by omega)
theorem drW_rng {g : Int} (h0 : 0 ≤ g) (h1 : g < 2147483648) : 0 ≤ drW g ∧ drW g < 2147483648 := by
  unfold drW
  rw [wj_id (z := g * 1103515245) (by omega) (by omega), wj_id (by omega) (by omega)]
  exact ⟨Int.tmod_nonneg _ (by omega), Int.tmod_lt_of_pos _ (by omega)⟩
theorem dvW_rng {g k : Int} (h0 : 0 ≤ g) (h1 : g < 2147483648) (k0 : 0 < k) (k6 : k ≤ 100) : 0 ≤ dvW g k ∧ dvW g k < k := by
  have h2 : 0 ≤ g.tdiv 65536 := Int.tdiv_nonneg h0 (by omega)
  have h3 : g.tdiv 65536 ≤ g := Int.tdiv_le_self _ h0
  unfold dvW
  rw [wj_id (by omega) (by omega)]
  have h4 := Int.tmod_nonneg k h2
  have h5 := Int.tmod_lt_of_pos (g.tdiv 65536) k0
  rw [wi_id (by omega) (by omega)]
  exact ⟨h4, h5⟩
/-- draw, state, strays -/
abbrev Lv : Type := Int × Ab × Int
def livW (s : Sp) (m : Int) (v : V4) (dm hm : Int → Int) (a : Lv) : Lv :=
  if 4 ≤ dvW (drW a.1) 8 then
    (if dvW (drW a.1) 8 = 7 then (drW a.1, dayW s m v (dm (zDay a.2.1)) a.2.1, a.2.2 + strL s m.toNat hm (nAll s m a.2.1) a.2.1) else (drW a.1, pasW s a.2.1, a.2.2 + strB m.toNat hm a.2.1))
  else (drW (drW a.1), (if zHow a.2.1 (dvW (drW (drW a.1)) m) = 0 ∧ zAt a.2.1 (dvW (drW (drW a.1)) m) ≠ 6 then sndW s (dvW (drW (drW a.1)) m) a.2.1 else a.2.1), a.2.2)
theorem strL_rng {s : Sp} {m : Nat} {hm : Int → Int} : ∀ (k : Nat) (z : Ab), 0 ≤ strL s m hm k z ∧ strL s m hm k z ≤ m * k
  | 0, z => by
    show (0 : Int) ≤ 0 ∧ (0 : Int) ≤ m * ((0 : Nat) : Int)
    simp
  | k + 1, z => by
    have h1 := strL_rng (s := s) (m := m) (hm := hm) k (pasW s z)
    have h2 := strB_rng m hm z
    show 0 ≤ strB m hm z + strL s m hm k (pasW s z) ∧ strB m hm z + strL s m hm k (pasW s z) ≤ m * ((k + 1 : Nat) : Int)
    have : (m : Int) * ((k + 1 : Nat) : Int) = m * k + m := by rw [Int.natCast_add, Int.mul_add]; simp
    omega
/-- sound: after i steps -/
def LvW (n m dk d0 i : Int) (a : Lv) : Prop := (0 ≤ a.1 ∧ a.1 < 2147483648) ∧ WfZ n m dk a.2.1 ∧ zDay a.2.1 ≤ d0 + i ∧ 0 ≤ a.2.2 ∧ a.2.2 ≤ 3600 * i
theorem LvW_step {n m dk d0 i : Int} {s : Sp} {v : V4} {dm hm : Int → Int} {a : Lv} (hs : SpW n m dk s) (m1 : 0 < m) (hd : d0 + i < 1000000) (hA : LvW n m dk d0 i a) : LvW n m dk d0 (i + 1) (livW s m v dm hm a) := by
  have m6 := hs.2.2.2.2.1
  obtain ⟨hg, hW, hdd, hs0, hs1⟩ := hA
  have g1 := drW_rng hg.1 hg.2
  have g2 := drW_rng g1.1 g1.2
  have hb := dvW_rng (k := m) g2.1 g2.2 m1 (by omega)
  unfold livW
  split
  · split
    · have hk := strL_rng (s := s) (m := m.toNat) (hm := hm) (nAll s m a.2.1) a.2.1
      have hn : nAll s m a.2.1 ≤ 600 := tilN_le _ _
      have hmul : (m.toNat : Int) * (nAll s m a.2.1 : Int) ≤ 6 * 600 := Int.mul_le_mul (by omega) (by omega) (by omega) (by omega)
      refine ⟨g1, WfZ_day hs hW (by omega), ?_, by dsimp only; omega, by dsimp only; omega⟩
      show zDay (pasK s (nAll s m a.2.1) a.2.1) + 1 ≤ _
      rw [zDay_pasK]
      omega
    · have hk := strB_rng m.toNat hm a.2.1
      refine ⟨g1, WfZ_pas hs hW, ?_, by dsimp only; omega, by dsimp only; omega⟩
      show zDay a.2.1 ≤ _
      omega
  · refine ⟨g2, ?_, ?_, by dsimp only; omega, by dsimp only; omega⟩
    · dsimp only
      split <;> rename_i h
      · exact WfZ_snd hs hW h.1 hb.1 hb.2
      · exact hW
    · dsimp only
      split
      · show zDay a.2.1 ≤ _
        omega
      · omega
section
variable {n m dk : Int} {z : Ab} {σ : St}
def wkA : List Reg := dyA 1
theorem t_X9_passByDraws {v : V4} {x1 x2 : Int} {Q : St → Prop} (hX : Cxt n m dk σ) (hW : WfZ n m dk z) (hC : StC n m σ 1 z) (hL : LwC v σ 0) (hd : zDay z < 900000) (h1 : 0 ≤ x1 ∧ x1 ≤ 9999) (h2 : 1 ≤ x2 ∧ x2 ≤ 99) (h12 : σ 9 1 12 = 0)
    (k : ∀ σ', Sm wkA σ σ' → StC n m σ' 1 (itr (fun _ => livW (spC σ 0) m v (dmpW (σ 8 0 12) (σ 908 0)) (σ 906 0)) (if 0 < m then x2.toNat else 0) 0 (x1, z, 0)).2.1 →
      σ' 9 1 12 = (itr (fun _ => livW (spC σ 0) m v (dmpW (σ 8 0 12) (σ 908 0)) (σ 906 0)) (if 0 < m then x2.toNat else 0) 0 (x1, z, 0)).2.2 → Q σ') : P_X9_passByDraws 1 x1 x2 σ Q := by
  have hsp := hX.spw
  have m6 := hsp.2.2.2.2.1
  unfold P_X9_passByDraws
  by_cases hm : 0 < m
  · rw [if_pos hm] at k
    refine loopI (X := Int × St) (F := fun n' i a => P_X9_passByDraws_L6 1 x2 Q n' a.1 i a.2) (N := x2) (fun i a => Sm wkA σ a.2 ∧ LvW n m dk (zDay z) i (itr (fun _ => livW (spC σ 0) m v (dmpW (σ 8 0 12) (σ 908 0)) (σ 906 0)) (i - 0).toNat 0 (x1, z, 0)) ∧ a.1 = (itr (fun _ => livW (spC σ 0) m v (dmpW (σ 8 0 12) (σ 908 0)) (σ 906 0)) (i - 0).toNat 0 (x1, z, 0)).1 ∧
      StC n m a.2 1 (itr (fun _ => livW (spC σ 0) m v (dmpW (σ 8 0 12) (σ 908 0)) (σ 906 0)) (i - 0).toNat 0 (x1, z, 0)).2.1 ∧ a.2 9 1 12 = (itr (fun _ => livW (spC σ 0) m v (dmpW (σ 8 0 12) (σ 908 0)) (σ 906 0)) (i - 0).toNat 0 (x1, z, 0)).2.2) ?_ ?_ x2.toNat 0 (x1, σ) FU (Int.le_refl 0) (by omega) (FU_pos (by omega)) ⟨Sm.rf, ⟨⟨by show (0 : Int) ≤ x1; omega, by show x1 < 2147483648; omega⟩, hW, by show zDay z ≤ zDay z + 0; omega, Int.le_refl 0, by show (0 : Int) ≤ 3600 * 0; omega⟩, rfl, (by simp only [Int.sub_self, Int.toNat_zero, itr]; exact hC), (by simp only [Int.sub_self, Int.toNat_zero, itr]; exact h12)⟩
    · rintro n' i ⟨g, τ⟩ i0 i1 ⟨hs, hA, hg, hc, hst⟩ k'
      dsimp only at hs hg hc hst k' ⊢
      rw [itr_i i0] at k'
      generalize itr (fun _ => livW (spC σ 0) m v (dmpW (σ 8 0 12) (σ 908 0)) (σ 906 0)) (i - 0).toNat 0 (x1, z, 0) = a at hA hg hc hst k'
      have hA' := LvW_step (v := v) (dm := dmpW (σ 8 0 12) (σ 908 0)) (hm := σ 906 0) hsp hm (by omega) hA
      obtain ⟨ag, aW, ad, as0, as1⟩ := hA
      have hX1 := Cxt_keep hs rfl hX
      have es : spC τ 0 = spC σ 0 := spC_keep hs rfl
      have e8 : τ 8 0 = σ 8 0 := hs.row rfl
      have e908 : τ 908 0 = σ 908 0 := hs.row rfl
      have e906 : τ 906 0 = σ 906 0 := hs.row rfl
      have g1 := drW_rng ag.1 ag.2
      have g2 := drW_rng g1.1 g1.2
      subst hg
      unfold P_X9_passByDraws_L6 P_X9_draw
      rw [if_neg (by omega), hX1.2.2.1, if_neg (by omega), wi_id (z := i + 1) (by omega) (by omega)]
      dsimp only
      rw [hX1.2.2.1]
      show (if 4 ≤ dvW (drW a.1) 8 then (if dvW (drW a.1) 8 = 7 then _ else _) else ¬ m = 0 ∧ P_X9_sendOff 1 (dvW (drW (drW a.1)) m) τ _)
      unfold livW at hA' k'
      by_cases h4 : 4 ≤ dvW (drW a.1) 8
      · rw [if_pos h4] at hA' k' ⊢
        by_cases h7 : dvW (drW a.1) 8 = 7
        · rw [if_pos h7] at hA' k' ⊢
          refine t_X9_passDay hX1 aW hc (LwC_keep hs rfl hL) (by omega) (fun υ su cu stu => ?_)
          rw [es, e8, e908] at cu
          rw [es, e906, hst] at stu
          exact k' (drW a.1, υ) ⟨hs.tr su, hA', rfl, cu, stu as0 (by omega)⟩
        · rw [if_neg h7] at hA' k' ⊢
          obtain ⟨x1, x2, x3, x4⟩ := hX1
          refine t_X9_passBeat x1 x2 x3 x4 aW hc (fun υ su cu stu => ?_)
          rw [es] at cu
          rw [e906, hst] at stu
          exact k' (drW a.1, υ) ⟨hs.tr su.l, hA', rfl, cu, stu as0 (by omega)⟩
      · rw [if_neg h4] at hA' k' ⊢
        have hb := dvW_rng (k := m) g2.1 g2.2 hm (by omega)
        refine ⟨by omega, t_X9_sendOff hX1 aW hc (fun b0 b1 hcw υ su cu => ?_) (fun h => ?_)⟩
        · rw [es] at cu
          unfold canW at hcw
          rw [if_pos hcw] at hA' k'
          exact k' (drW (drW a.1), υ) ⟨hs.tr (mem_sub (A := soA 1) (B := wkA) rfl su), hA', rfl, cu, by dsimp only; rw [su.row (t := 9) (i := 1) rfl]; exact hst⟩
        · unfold canW at h
          rw [if_neg (fun q => h ⟨hb.1, hb.2, q⟩)] at hA' k'
          exact k' (drW (drW a.1), τ) ⟨hs, hA', rfl, hc, hst⟩
    · rintro n' ⟨g, τ⟩ ⟨hs, hA, hg, hc, hst⟩
      unfold P_X9_passByDraws_L6
      rw [if_pos (Int.le_refl x2)]
      rw [Int.sub_zero] at hc hst
      exact k τ hs hc hst
  · rw [if_neg hm] at k
    obtain ⟨q, hq, -⟩ := fu_ex (n := FU) (m := 0) (FU_pos (by omega))
    rw [hq]
    unfold P_X9_passByDraws_L6
    rw [if_neg (by omega), hX.2.2.1, if_pos (by omega)]
    exact k σ Sm.rf hC h12
end
section
variable {n m dk : Int} {z : Ab} {σ : St}
/-- what a step of the reference's may change -/
def lvA : List Reg := [(1346, 0, none), (12, 0, some 54), (12, 0, some 58)] ++ weA
theorem t_X12_lives {v : V4} {d0 i : Int} {a : Lv} {Q : St → Prop} (hX : Cxt n m dk σ) (hE : ShE σ) (hm : 0 < m) (hA : LvW n m dk d0 i a) (hd : d0 + i < 1000000) (hi : 0 ≤ i ∧ i ≤ 99) (hC : StA n m (σ 1346 0) a.2.1) (hL : LwA v σ) (hg : σ 12 0 58 = a.1) (hs : σ 12 0 54 = a.2.2)
    (k : ∀ σ', Sm lvA σ σ' → StA n m (σ' 1346 0) (livW (spC σ 0) m v (dmpW (σ 8 0 12) (σ 908 0)) (σ 906 0) a).2.1 → σ' 12 0 58 = (livW (spC σ 0) m v (dmpW (σ 8 0 12) (σ 908 0)) (σ 906 0) a).1 → σ' 12 0 54 = (livW (spC σ 0) m v (dmpW (σ 8 0 12) (σ 908 0)) (σ 906 0) a).2.2 → Q σ') : P_X12_lives σ Q := by
  have hsp := hX.spw
  have m6 := hsp.2.2.2.2.1
  obtain ⟨ag, aW, ad, as0, as1⟩ := hA
  have g1 := drW_rng ag.1 ag.2
  have g2 := drW_rng g1.1 g1.2
  have s1 : Sm [(12, 0, some 58)] σ (up σ 12 0 58 (drW a.1)) := Sm_up Sm.rf rfl
  have hX1 := Cxt_keep s1 rfl hX
  have hE1 := ShE_keep s1 rfl hE
  have es : spC (up σ 12 0 58 (drW a.1)) 0 = spC σ 0 := spC_keep s1 rfl
  have hC1 : StA n m ((up σ 12 0 58 (drW a.1)) 1346 0) a.2.1 := by rw [s1.row (t := 1346) (i := 0) rfl]; exact hC
  have e8 : (up σ 12 0 58 (drW a.1)) 8 0 = σ 8 0 := s1.row rfl
  have e908 : (up σ 12 0 58 (drW a.1)) 908 0 = σ 908 0 := s1.row rfl
  have e906 : (up σ 12 0 58 (drW a.1)) 906 0 = σ 906 0 := s1.row rfl
  have e54 : (up σ 12 0 58 (drW a.1)) 12 0 54 = a.2.2 := by rw [up_nx (by decide)]; exact hs
  unfold P_X12_lives P_X12_draws P_X12_lives_J36
  rw [hg, up_at]
  have ed : (wj (wj (a.1 * 1103515245) + 12345)).tmod 2147483648 = drW a.1 := rfl
  dsimp only
  rw [ed]
  refine ⟨by decide, ?_⟩
  show (if 4 ≤ dvW (drW a.1) 8 then (if dvW (drW a.1) 8 = 7 then P_X12_endsAsTold (up σ 12 0 58 (drW a.1)) _ else P_X12_passes (up σ 12 0 58 (drW a.1)) _) else _)
  unfold livW at k
  by_cases h4 : 4 ≤ dvW (drW a.1) 8
  · rw [if_pos h4] at k ⊢
    by_cases h7 : dvW (drW a.1) 8 = 7
    · rw [if_pos h7] at k ⊢
      unfold P_X12_endsAsTold
      rw [hC1.1]
      refine t_X12_dampOf hX1.1 hE1 aW.1.1 ?_
      rw [e8, e908]
      refine t_X12_ends hX1 hE1 aW hC1 (LwA_keep s1 rfl hL) (by omega) (dmpW_rng hX.1 aW.1.1) (fun υ su cu stu => ?_)
      rw [es] at cu
      rw [es, e906, e54] at stu
      refine k υ ((mem_sub (B := lvA) rfl s1).tr (mem_sub (A := deA) (B := lvA) rfl su)) cu ?_ (stu as0 (by omega))
      rw [su 12 0 58 rfl, up_at]
    · rw [if_neg h7] at k ⊢
      obtain ⟨x1, x2, x3, x4⟩ := hX1
      refine t_X12_passes x1 hE1 x2 x3 x4 aW hC1 (fun υ su cu => ?_)
      rw [es] at cu
      have em : (spC σ 0).2.1 = m := hX.2.2.1
      unfold pasB
      rw [es, em]
      have f8 : υ 8 0 11 = m := by rw [su.row (t := 8) (i := 0) rfl]; exact x3
      have hE2 := ShE_keep su rfl hE1
      refine t_X12_astrayOf (z := pasW (spC σ 0) a.2.1) (hm := σ 906 0) (by rw [hE2.2.1]; exact f8) m6.1 m6.2 (fun b b0 b1 => ⟨(cu.2.2.2.2.2.2 b b0 b1).2.2.1, ?_⟩) ?_
      · rw [(hE2.2.2.2.2.2.1 b b0 (by rw [f8]; exact b1)).2.2, su.row (t := 906) (i := 0) rfl, e906]
      refine t_X12_bits m6.1 m6.2 ?_
      have hst : cnt (fun b => com a.2.1 b && decide (zAt (pasW (spC σ 0) a.2.1) b ≠ σ 906 0 b)) m.toNat = strB m.toNat (σ 906 0) a.2.1 := by
        unfold strB
        refine cnt_congr _ (fun b b0 b1 => ?_)
        cases hc : com a.2.1 b
        · rfl
        · rw [pasAt_com hsp aW hc]
      have hb := strB_rng m.toNat (σ 906 0) a.2.1
      rw [hst, e54, wi_id (z := a.2.2 + _) (by omega) (by omega)]
      refine k _ ((mem_sub (B := lvA) rfl s1).tr (Sm_up (mem_sub (B := lvA) rfl su) rfl)) (by rw [up_oth (Or.inl rfl)]; exact cu) ?_ up_at
      rw [up_nx (by decide), su.row (t := 12) (i := 0) rfl, up_at]
  · rw [if_neg h4] at k ⊢
    have hb := dvW_rng (k := m) g2.1 g2.2 hm (by omega)
    have em : (up σ 12 0 58 (drW a.1)) 1310 0 1 = m := by rw [hE1.2.1]; exact hX1.2.2.1
    have s2 : Sm [(12, 0, some 58)] σ (up (up σ 12 0 58 (drW a.1)) 12 0 58 (drW (drW a.1))) := Sm_up s1 rfl
    have hX2 := Cxt_keep s2 rfl hX
    have hE2 := ShE_keep s2 rfl hE
    have es2 : spC (up (up σ 12 0 58 (drW a.1)) 12 0 58 (drW (drW a.1))) 0 = spC σ 0 := spC_keep s2 rfl
    have hC2 : StA n m ((up (up σ 12 0 58 (drW a.1)) 12 0 58 (drW (drW a.1))) 1346 0) a.2.1 := by rw [s2.row (t := 1346) (i := 0) rfl]; exact hC
    have f54 : (up (up σ 12 0 58 (drW a.1)) 12 0 58 (drW (drW a.1))) 12 0 54 = a.2.2 := by rw [up_nx (by decide)]; exact e54
    have f58 : (up (up σ 12 0 58 (drW a.1)) 12 0 58 (drW (drW a.1))) 12 0 58 = drW (drW a.1) := up_at
    refine ⟨?_, ?_⟩
    · show ¬ (up σ 12 0 58 (drW a.1)) 1310 0 1 = 0
      rw [em]
      omega
    · have goal : ∀ x : Int, x = dvW (drW (drW a.1)) m → P_X12_canSend x (up (up σ 12 0 58 (drW a.1)) 12 0 58 (drW (drW a.1))) (fun r_14 σ_13 => (if r_14 = 0 then Q σ_13 else P_X12_sends x σ_13 (fun σ_15 => Q σ_15))) := by
        intro x hx
        subst hx
        have w3 := (aW.2.2.2.2.2.2.2 _ hb.1 hb.2).2.2.1
        have n6 := hsp.2.2.2.1
        refine t_X12_canSend m6.2 hC2 (by omega) hb.1 hb.2 (fun hc => ?_) (fun h => ?_)
        · rw [if_neg one_no]
          unfold canW at hc
          rw [if_pos hc] at k
          refine t_X12_sends hX2 hE2 aW hC2 hb.1 hb.2 (fun υ su cu => ?_)
          rw [es2] at cu
          refine k υ ((mem_sub (B := lvA) rfl s2).tr (mem_sub (B := lvA) rfl su)) cu ?_ ?_
          · rw [su.row (t := 12) (i := 0) rfl]; exact f58
          · rw [su.row (t := 12) (i := 0) rfl]; exact f54
        · rw [if_pos rfl]
          unfold canW at h
          rw [if_neg h] at k
          exact k _ (mem_sub (B := lvA) rfl s2) hC2 f58 f54
      have h := goal (dvW (drW (drW a.1)) ((up σ 12 0 58 (drW a.1)) 1310 0 1)) (by rw [em])
      simp only [up_at]
      exact h
end
