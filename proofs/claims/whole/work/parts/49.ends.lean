/-! 49: the reference's days -/
theorem bts_bit0 {p : Int → Bool} {m b : Int} (h0 : 0 ≤ m) (h6 : m ≤ 6) (b0 : m ≤ b) (b1 : b < 6) : bA (bR (bts p m.toNat) b) 1 = 0 := by
  have e : ((b.toNat : Nat) : Int) = b := Int.toNat_of_nonneg (by omega)
  have h1 := nbt_lt p m.toNat
  have h2 : 2 ^ m.toNat ≤ 2 ^ 6 := Nat.pow_le_pow_right (by decide) (by omega)
  have h4 : 2 ^ m.toNat ≤ 2 ^ b.toNat := Nat.pow_le_pow_right (by decide) (by omega)
  have h3 := bit_pow ⟨nbt p m.toNat, by omega⟩ ⟨b.toNat, by omega⟩
  dsimp only at h3
  rw [e] at h3
  rw [bts_nbt p _ (by omega), h3, Nat.testBit_lt_two_pow (by omega)]
  rfl
theorem t_X12_bits {p : Int → Bool} {m : Int} {σ : St} {Q : Int → St → Prop} (h0 : 0 ≤ m) (h6 : m ≤ 6) (k : Q (cnt p m.toNat) σ) : P_X12_bits (bts p m.toNat) σ Q := by
  unfold P_X12_bits
  refine loopI (X := Int) (F := fun n i x => P_X12_bits_L4 (bts p m.toNat) Q n x i σ) (N := 6) (fun i x => x = cnt p (min i m).toNat) ?_ ?_ 6 0 0 FU (Int.le_refl 0) (by omega) (FU_pos (by omega)) ?_
  · rintro n i x i0 i1 hx k'
    have hc := cnt_nonneg p (min i m).toNat
    unfold P_X12_bits_L4
    rw [if_neg (by omega), wi_id (z := i + 1) (by omega) (by omega)]
    refine k' _ ?_
    by_cases hi : i < m
    · rw [bts_bit h6 i0 hi, hx, show min (i + 1) m = i + 1 by omega, cnt_i i0, show min i m = i by omega, wi_id]
      · rw [show min i m = i by omega] at hc
        split <;> omega
      · rw [show min i m = i by omega] at hc
        split <;> omega
    · rw [bts_bit0 h0 h6 (by omega) i1, hx, show min (i + 1) m = m by omega, show min i m = m by omega, Int.add_zero, wi_id]
      · have := cnt_nonneg p m.toNat; omega
      · have := cnt_nonneg p m.toNat; omega
  · rintro n x hx
    unfold P_X12_bits_L4
    rw [if_pos (Int.le_refl 6), hx, show min 6 m = m by omega]
    exact k
  · rw [show min 0 m = 0 by omega]
    rfl
theorem t_X12_astrayOf {p : Int → Bool} {m : Int} {z : Ab} {hm : Int → Int} {σ : St} {Q : Int → St → Prop} (e1 : σ 1310 0 1 = m) (h0 : 0 ≤ m) (h6 : m ≤ 6) (hA : ∀ b : Int, 0 ≤ b → b < m → σ 1346 0 (28 + b) = zAt z b ∧ σ 1317 0 b = hm b)
    (k : Q (bts (fun b => p b && decide (zAt z b ≠ hm b)) m.toNat) σ) : P_X12_astrayOf (bts p m.toNat) σ Q := by
  unfold P_X12_astrayOf
  refine loopI (X := Int) (F := fun n i x => P_X12_astrayOf_L4 (bts p m.toNat) Q n x i σ) (N := m) (fun i x => x = bts (fun b => p b && decide (zAt z b ≠ hm b)) i.toNat) ?_ ?_ m.toNat 0 0 FU (Int.le_refl 0) (by omega) (FU_pos (by omega)) rfl
  · rintro n i x i0 i1 hx k'
    obtain ⟨a1, a2⟩ := hA i i0 i1
    have z0 : ∀ q : Int → Bool, bO (bts q i.toNat) 0 = bts q i.toNat := fun q => bO_zero (bts_i32 _ _).1 (bts_i32 _ _).2
    unfold P_X12_astrayOf_L4 P_X12_astrayOf_J48
    rw [e1, if_neg (by omega), bts_bit h6 i0 i1, wi_id (z := 28 + i) (by omega) (by omega), wi_id (z := i + 1) (by omega) (by omega), a1, a2]
    by_cases hp : p i = true
    · rw [hp, if_pos rfl, if_pos rfl]
      refine ⟨by omega, by omega, i0, by omega, ?_⟩
      by_cases hh : zAt z i = hm i
      · rw [if_pos hh]
        refine k' _ ?_
        rw [hx, z0, bts_i i0, hp, decide_eq_false (fun h => h hh)]
        rfl
      · rw [if_neg hh]
        refine k' _ ?_
        rw [hx, bts_i i0, hp, decide_eq_true hh]
        rfl
    · rw [if_neg (by rw [if_neg hp]; decide)]
      refine k' _ ?_
      have hp : p i = false := by simpa using hp
      rw [hx, z0, bts_i i0, hp]
      rfl
  · rintro n x hx
    unfold P_X12_astrayOf_L4
    rw [e1, if_pos (Int.le_refl m), hx]
    exact k
def deA : List Reg := (1346, 0, none) :: (12, 0, some 54) :: weA
theorem pasAt_com {n m dk : Int} {s : Sp} {z : Ab} {b : Int} (hs : SpW n m dk s) (hW : WfZ n m dk z) (hc : com z b = true) : zAt (pasW s z) b = zAt z b := by
  rw [pasAt, if_neg]
  rintro ⟨h1, h2⟩
  have h3 := (hW.2.2.2.2.1 0 (Int.le_refl 0) (srvd_iff.mp h1).1).2
  have h4 := com_iff.mp hc
  rw [h2] at h4
  omega
theorem t_ends12 {n m dk : Int} {x1 : Int} {hmm : Int → Int} {K Q : Int → St → Prop} : ∀ (f : Nat) (z : Ab) (σ : St) (x : Int) (fuel : Nat), Cxt n m dk σ → ShE σ → WfZ n m dk z → StA n m (σ 1346 0) z → σ 906 0 = hmm → psi m z ≤ f → 0 ≤ x → x + f ≤ 900 → f < fuel →
    (∀ σ', Sm [(1346, 0, none), (12, 0, some 54)] σ σ' → StA n m (σ' 1346 0) (pasK (spC σ 0) (tilN (spC σ 0) (alR m) f z) z) →
      (0 ≤ σ 12 0 54 → σ 12 0 54 + 6 * f ≤ 1000000000 → σ' 12 0 54 = σ 12 0 54 + strL (spC σ 0) m.toNat hmm (tilN (spC σ 0) (alR m) f z) z) → K (x + tilN (spC σ 0) (alR m) f z) σ') → P_X12_ends_L2 x1 K Q fuel x σ := by
  intro f
  induction f with
  | zero =>
    intro z σ x fuel hX hE hW hC hh hf hx hx2 hfu k
    obtain ⟨q, rfl, -⟩ := fu_ex hfu
    have hsp := hX.spw
    have m6 := hsp.2.2.2.2.1
    have hz : rsts m z := Classical.byContradiction (fun h => by
      have h1 := psi_dec hsp hW h
      have h2 := psi_rng hsp.2.2.2.2.1.2 hsp.2.2.2.2.2.1.2 (WfZ_pas hsp hW)
      omega)
    unfold P_X12_ends_L2
    refine t_X12_doAllRest (z := z) (by rw [hE.2.1]; exact hX.2.2.1) m6.1 m6.2 (fun b b0 b1 => (hC.2.2.2.2.2.2 b b0 b1).2.1) (fun _ => ?_) (fun h => ?_)
    · rw [if_neg one_no]
      have := k σ Sm.rf hC (fun _ _ => by show σ 12 0 54 = σ 12 0 54 + 0; omega)
      rwa [show x + ((tilN (spC σ 0) (alR m) 0 z : Nat) : Int) = x by show x + ((0 : Nat) : Int) = x; omega] at this
    · rw [alR_iff.mpr hz] at h
      cases h
  | succ f ih =>
    intro z σ x fuel hX hE hW hC hh hf hx hx2 hfu k
    obtain ⟨q, rfl, hq⟩ := fu_ex hfu
    have hsp := hX.spw
    have hX' := hX
    obtain ⟨hS, hn, hm, hdk⟩ := hX'
    have m6 := hsp.2.2.2.2.1
    unfold P_X12_ends_L2
    refine t_X12_doAllRest (z := z) (by rw [hE.2.1]; exact hX.2.2.1) m6.1 m6.2 (fun b b0 b1 => (hC.2.2.2.2.2.2 b b0 b1).2.1) (fun h => ?_) (fun h => ?_)
    · rw [if_neg one_no]
      have e : tilN (spC σ 0) (alR m) (f + 1) z = 0 := by
        unfold tilN
        rw [if_pos h]
      rw [e] at k
      have := k σ Sm.rf hC (fun _ _ => by show σ 12 0 54 = σ 12 0 54 + 0; omega)
      rwa [show x + ((0 : Nat) : Int) = x by omega] at this
    · rw [if_pos rfl]
      have hz : ¬ rsts m z := fun h' => by rw [alR_iff.mpr h'] at h; cases h
      have e : tilN (spC σ 0) (alR m) (f + 1) z = tilN (spC σ 0) (alR m) f (pasW (spC σ 0) z) + 1 := by
        conv => lhs; unfold tilN
        rw [if_neg (by rw [h]; decide)]
      rw [e] at k
      refine t_X12_passes hS hE hn hm hdk hW hC (fun σ1 s1 c1 => ?_)
      have hd := psi_dec hsp hW hz
      have es := spC_keep (o := 0) s1 rfl
      have em : (spC σ 0).2.1 = m := hm
      unfold pasB
      rw [em]
      have hE1 := ShE_keep s1 rfl hE
      have hX1 := Cxt_keep s1 rfl hX
      have e8 : σ1 8 0 = σ 8 0 := s1.row rfl
      have h906 : ∀ b : Int, σ1 906 0 b = hmm b := fun b => by rw [s1.row (t := 906) (i := 0) rfl, hh]
      refine t_X12_astrayOf (z := pasW (spC σ 0) z) (hm := hmm) (by rw [hE1.2.1, e8]; exact hm) m6.1 m6.2 (fun b b0 b1 => ⟨(c1.2.2.2.2.2.2 b b0 b1).2.2.1, ?_⟩) ?_
      · rw [(hE1.2.2.2.2.2.1 b b0 (by rw [e8, hm]; exact b1)).2.2]
        exact h906 b
      refine t_X12_bits m6.1 m6.2 ?_
      have hst : cnt (fun b => com z b && decide (zAt (pasW (spC σ 0) z) b ≠ hmm b)) m.toNat = strB m.toNat hmm z := by
        unfold strB
        refine cnt_congr _ (fun b b0 b1 => ?_)
        cases hc : com z b
        · rfl
        · rw [pasAt_com hsp hW hc]
      have hb := strB_rng m.toNat hmm z
      rw [hst, wi_id (z := x + 1) (by omega) (by omega)]
      have s2 : Sm [(1346, 0, none), (12, 0, some 54)] σ (up σ1 12 0 54 (wi (σ 12 0 54 + strB m.toNat hmm z))) := Sm_up (s1.mem (fun r hr => by cases hr with | head => exact .head _ | tail _ h => cases h)) rfl
      have es2 := spC_keep (o := 0) s2 rfl
      refine ih (pasW (spC σ 0) z) _ (x + 1) q (Cxt_keep s2 rfl hX) (ShE_keep s2 rfl hE) (WfZ_pas hsp hW) (by rw [up_oth (Or.inl rfl)]; exact c1) (by rw [s2.row (t := 906) (i := 0) rfl]; exact hh) (by omega) (by omega) (by omega) hq ?_
      rw [es2]
      intro σ2 s3 c2 st2
      have := k σ2 (s2.tr s3) c2 (fun p0 p1 => by
        rw [up_at, wi_id (z := σ 12 0 54 + strB m.toNat hmm z) (by omega) (by omega)] at st2
        have h2 := st2 (by omega) (by omega)
        rw [h2]
        show _ = σ 12 0 54 + (strB m.toNat hmm z + _)
        omega)
      rwa [show x + 1 + ((tilN (spC σ 0) (alR m) f (pasW (spC σ 0) z) : Nat) : Int) = x + ((tilN (spC σ 0) (alR m) f (pasW (spC σ 0) z) + 1 : Nat) : Int) by omega]
theorem t_X12_ends {n m dk : Int} {v : V4} {e : Int} {z : Ab} {σ : St} {Q : Int → St → Prop} (hX : Cxt n m dk σ) (hE : ShE σ) (hW : WfZ n m dk z) (hC : StA n m (σ 1346 0) z) (hL : LwA v σ) (hd : zDay z < 1000000) (he : 0 ≤ e ∧ e ≤ 9)
    (k : ∀ σ', Sm deA σ σ' → StA n m (σ' 1346 0) (dayW (spC σ 0) m v e z) → (0 ≤ σ 12 0 54 → σ 12 0 54 + 3600 ≤ 1000000000 → σ' 12 0 54 = σ 12 0 54 + strL (spC σ 0) m.toNat (σ 906 0) (nAll (spC σ 0) m z) z) → Q (nAll (spC σ 0) m z) σ') : P_X12_ends e σ Q := by
  unfold P_X12_ends
  have hsp := hX.spw
  have m6 := hsp.2.2.2.2.1
  have hp := psi_rng hsp.2.2.2.2.1.2 hsp.2.2.2.2.2.1.2 hW
  refine t_ends12 (hmm := σ 906 0) 600 z σ 0 FU hX hE hW hC rfl (by omega) (Int.le_refl 0) (by omega) (FU_pos (by omega)) (fun σ1 s1 c1 st1 => ?_)
  rw [Int.zero_add]
  have st1 : 0 ≤ σ 12 0 54 → σ 12 0 54 + 3600 ≤ 1000000000 → σ1 12 0 54 = σ 12 0 54 + strL (spC σ 0) m.toNat (σ 906 0) (nAll (spC σ 0) m z) z := fun h0 h1 => st1 h0 (by omega)
  have hX1 := Cxt_keep s1 rfl hX
  have hE1 := ShE_keep s1 rfl hE
  have c1 : StA n m (σ1 1346 0) (pasK (spC σ 0) (nAll (spC σ 0) m z) z) := c1
  have hW1 := WfZ_pasK hsp (nAll (spC σ 0) m z) hW
  have hd1 : zDay (pasK (spC σ 0) (nAll (spC σ 0) m z) z) = zDay z := zDay_pasK _
  have hdr : 0 ≤ zDay z := hW.1.1
  have hL1 : LwA v σ1 := LwA_keep s1 rfl hL
  unfold dayW at k
  generalize pasK (spC σ 0) (nAll (spC σ 0) m z) z = z1 at k c1 hW1 hd1
  have hN : tilN (spC σ 0) (alR m) 600 z = nAll (spC σ 0) m z := rfl
  rw [hN]
  have hk : ∀ b : Int, σ1 904 0 b = (spC σ 0).2.2.2.2.2 b := fun b => by rw [s1.row (t := 904) (i := 0) rfl]; rfl
  have hwB := hW1.2.2.2.2.2.2.2
  have c1' := c1
  obtain ⟨c0, cb, c2, c3, cq, cg, cB⟩ := c1'
  -- a row half worn
  refine loopI (X := St) (F := fun n' i τ => P_X12_ends_L37 e (nAll (spC σ 0) m z) (fun σ_15 => Q (nAll (spC σ 0) m z) (up (up σ_15 1346 0 0 (wi ((σ_15 1346 0 0) + 1))) 1346 0 1 0)) Q n' i τ) (N := m) (fun i τ => Sm ((1346, 0, none) :: weA) σ1 τ ∧
    (∀ b : Int, 0 ≤ b → b < m → τ 1346 0 (16 + b) = (if b < i then wornW ((spC σ 0).2.2.2.2.2 b) (v (zSize z1 b) (zRun z1 b) e (zDay z1)) (zSize z1 b) else zSize z1 b) ∧ τ 1346 0 (40 + b) = if b < i then 0 else zRun z1 b) ∧
    (∀ x : Int, x < 16 ∨ (22 ≤ x ∧ x < 40) → τ 1346 0 x = σ1 1346 0 x)) ?_ ?_ m.toNat 0 σ1 FU (Int.le_refl 0) (by omega) (FU_pos (by omega)) ?_
  · rintro n' i τ i0 i1 ⟨hs, hr, ho⟩ k'
    have e8 : τ 8 0 11 = m := by rw [hs.row (t := 8) (i := 0) rfl]; exact hX1.2.2.1
    have eE := ShE_keep hs rfl hE1
    have eL := LwA_keep hs rfl hL1
    obtain ⟨h2, h6⟩ := hr i i0 i1
    rw [if_neg (Int.lt_irrefl i)] at h2 h6
    obtain ⟨w1, w2, w3, w4, w5, w6⟩ := hwB i i0 i1
    unfold P_X12_ends_L37
    rw [eE.2.1, e8, if_neg (by omega), wi_id (z := 16 + i) (by omega) (by omega), wi_id (z := 40 + i) (by omega) (by omega), h2, wi_id (z := i + 1) (by omega) (by omega)]
    refine ⟨by omega, by omega, ?_⟩
    -- what the row tells, sizes of the worn ones apart
    refine t_X12_wearOf (v := v) (n := n) (m := m) (z := (zDay z1, zBeat z1, zSrv z1, zMany z1, zQ z1, zGap z1, (fun b => τ 1346 0 (16 + b)), zHow z1, zAt z1, zLeft z1, (fun b => τ 1346 0 (40 + b)))) eL eE e8 m6.2 ?_ ?_ ?_ (i32_of_rng (by omega) (by omega)) ?_ i0 i1 (fun υ su => ?_)
    · refine ⟨?_, ?_, ?_, ?_, fun j j0 j1 => ?_, fun c c0 c1 => ?_, fun b b0 b1 => ⟨rfl, ?_, ?_, ?_, rfl⟩⟩
      · rw [ho _ (by omega)]; exact c0
      · rw [ho _ (by omega)]; exact cb
      · rw [ho _ (by omega)]; exact c2
      · rw [ho _ (by omega)]; exact c3
      · have := hW1.many m6.1
        have j1 : j < zMany z1 := j1
        rw [ho _ (by omega)]; exact cq j j0 j1
      · have := hsp.2.2.2.1
        rw [ho _ (by omega)]; exact cg c c0 c1
      · rw [ho _ (by omega)]; exact (cB b b0 b1).2.1
      · rw [ho _ (by omega)]; exact (cB b b0 b1).2.2.1
      · rw [ho _ (by omega)]; exact (cB b b0 b1).2.2.2.1
    · show i32 (τ 1346 0 (16 + i))
      rw [h2]
      exact i32_of_rng (by omega) (by omega)
    · show i32 (τ 1346 0 (40 + i))
      rw [h6]
      exact w6
    · show i32 (zDay z1)
      exact i32_of_rng (by omega) (by omega)
    · show P_X12_between _ _ _ _ _
      have ev : v (τ 1346 0 (16 + i)) (τ 1346 0 (40 + i)) e (zDay z1) = v (zSize z1 i) (zRun z1 i) e (zDay z1) := by rw [h2, h6]
      have k2 := k'
      have ewr := @wearW_rng ((spC σ 0).2.2.2.2.2 i) (v (zSize z1 i) (zRun z1 i) e (zDay z1))
      have e904 : τ 904 0 i = (spC σ 0).2.2.2.2.2 i := by rw [hs.row (t := 904) (i := 0) rfl]; exact hk i
      show P_X12_between (wi (zSize z1 i - wearW (τ 904 0 i) (v (τ 1346 0 (16 + i)) (τ 1346 0 (40 + i)) e (zDay z1)))) 1 60 υ _
      rw [ev, e904, wi_id (z := zSize z1 i - _) (by omega) (by omega)]
      refine t_X12_between (by decide) ?_
      refine ⟨by omega, by omega, by omega, by omega, ?_⟩
      have er : υ 1346 0 = τ 1346 0 := su.row rfl
      have s2 : Sm ((1346, 0, none) :: weA) σ1 υ := hs.tr (su.mem (fun r hr => .tail _ hr))
      refine k' _ ⟨Sm_up (Sm_up s2 rfl) rfl, fun b b0 b1 => ?_, fun x hx => ?_⟩
      · by_cases eb : b = i
        · subst eb
          rw [up_nx (show (16 + b : Int) ≠ 40 + b by omega), up_at, up_at, if_pos (by omega), if_pos (by omega)]
          exact ⟨rfl, rfl⟩
        · rw [up_nx (by omega), up_nx (by omega), up_nx (by omega), up_nx (by omega), er]
          obtain ⟨g2, g6⟩ := hr b b0 b1
          rw [g2, g6]
          by_cases hb : b < i
          · rw [if_pos hb, if_pos hb, if_pos (by omega), if_pos (by omega)]
            exact ⟨rfl, rfl⟩
          · rw [if_neg hb, if_neg hb, if_neg (by omega), if_neg (by omega)]
            exact ⟨rfl, rfl⟩
      · rw [up_nx (by omega), up_nx (by omega), er]
        exact ho x hx
  · rintro n' τ ⟨hs, hr, ho⟩
    have e8 : τ 8 0 11 = m := by rw [hs.row (t := 8) (i := 0) rfl]; exact hX1.2.2.1
    have eE := ShE_keep hs rfl hE1
    have hn6 := hsp.2.2.2.1
    unfold P_X12_ends_L37
    rw [eE.2.1, e8, if_pos (Int.le_refl m), ho 0 (by omega), c0, wi_id (z := zDay z1 + 1) (by omega) (by omega)]
    refine k _ ?_ ⟨?_, up_at, ?_, ?_, fun j j0 j1 => ?_, fun c c0 c1 => ?_, fun b b0 b1 => ?_⟩ (fun p0 p1 => ?_)
    · refine Sm_up (Sm_up ((s1.mem (fun r hr => ?_)).tr (hs.mem (fun r hr => ?_))) rfl) rfl
      · unfold deA
        cases hr with
        | head => exact .head _
        | tail _ h => cases h with
          | head => exact .tail _ (.head _)
          | tail _ h => cases h
      · unfold deA
        cases hr with
        | head => exact .head _
        | tail _ h => exact .tail _ (.tail _ h)
    · rw [up_nx (by decide), up_at]; rfl
    · rw [up_nx (by decide), up_nx (by decide), ho _ (by omega)]; exact c2
    · rw [up_nx (by decide), up_nx (by decide), ho _ (by omega)]; exact c3
    · have := hW1.many m6.1
      have j1 : j < zMany z1 := j1
      rw [up_nx (by omega), up_nx (by omega), ho _ (by omega)]; exact cq j j0 j1
    · rw [up_nx (by omega), up_nx (by omega), ho _ (by omega)]; exact cg c c0 c1
    · obtain ⟨g2, g6⟩ := hr b b0 b1
      rw [if_pos b1] at g2 g6
      refine ⟨?_, ?_, ?_, ?_, ?_⟩
      · rw [up_nx (by omega), up_nx (by omega), g2]; rfl
      · rw [up_nx (by omega), up_nx (by omega), ho _ (by omega)]; exact (cB b b0 b1).2.1
      · rw [up_nx (by omega), up_nx (by omega), ho _ (by omega)]; exact (cB b b0 b1).2.2.1
      · rw [up_nx (by omega), up_nx (by omega), ho _ (by omega)]; exact (cB b b0 b1).2.2.2.1
      · rw [up_nx (by omega), up_nx (by omega), g6]; rfl
    · rw [up_nt rfl, up_nt rfl, hs 12 0 54 rfl]
      exact st1 p0 p1
  · refine ⟨Sm.rf, fun b b0 b1 => ?_, fun x hx => rfl⟩
    rw [if_neg (by omega), if_neg (by omega)]
    exact ⟨(cB b b0 b1).1, (cB b b0 b1).2.2.2.2⟩
