/-! 47: beats until rest -/
/-- strays of k beats -/
def strL (s : Sp) (m : Nat) (hm : Int → Int) : Nat → Ab → Int
  | 0, _ => 0
  | k + 1, z => strB m hm z + strL s m hm k (pasW s z)
theorem strB_rng (m : Nat) (hm : Int → Int) (z : Ab) : 0 ≤ strB m hm z ∧ strB m hm z ≤ m := cnt_nonneg _ m
/-- the context of a beat -/
def Cxt (n m dk : Int) (σ : St) : Prop := ShC σ 0 ∧ σ 8 0 10 = n ∧ σ 8 0 11 = m ∧ σ 8 0 13 = dk
theorem Cxt_keep {A : List Reg} {n m dk : Int} {σ τ : St} (h : Sm A σ τ) (hn : noT A shT 0 = true) (c : Cxt n m dk σ) : Cxt n m dk τ := by
  obtain ⟨h1, h2, h3, h4⟩ := c
  have e := noT_row h hn (t := 8) (by decide)
  exact ⟨ShC_keep h hn h1, by rw [e]; exact h2, by rw [e]; exact h3, by rw [e]; exact h4⟩
theorem Cxt.spw {n m dk : Int} {σ : St} (c : Cxt n m dk σ) : SpW n m dk (spC σ 0) := by
  obtain ⟨h1, rfl, rfl, rfl⟩ := c
  exact h1.spw
theorem t_rests {n m dk : Int} {o : Nat} {b : Int} {hmm : Int → Int} {Q : Int → St → Prop} (b0 : 0 ≤ b) (b1 : b < m) : ∀ (f : Nat) (z : Ab) (σ : St) (x : Int) (fuel : Nat), Cxt n m dk σ → WfZ n m dk z → StC n m σ o z → σ 906 0 = hmm → psi m z ≤ f → 0 ≤ x → x + f ≤ 900 → f < fuel →
    (∀ σ', Sm (paA o) σ σ' → StC n m σ' o (pasK (spC σ 0) (tilN (spC σ 0) (fun z => decide (zHow z b = 0)) f z) z) →
      (0 ≤ σ 9 o 12 → σ 9 o 12 + 6 * f ≤ 1000000000 → σ' 9 o 12 = σ 9 o 12 + strL (spC σ 0) m.toNat hmm (tilN (spC σ 0) (fun z => decide (zHow z b = 0)) f z) z) → Q (x + tilN (spC σ 0) (fun z => decide (zHow z b = 0)) f z) σ') → P_X9_passTillRests_L2 o b Q fuel x σ := by
  intro f
  induction f with
  | zero =>
    intro z σ x fuel hX hW hC hh hf hx hx2 hfu k
    obtain ⟨q, rfl, -⟩ := fu_ex hfu
    have hsp := hX.spw
    have hz : zHow z b = 0 := Classical.byContradiction (fun h => by
      have h1 := psi_dec hsp hW (fun hr => h (hr b b0 b1))
      have h2 := psi_rng hsp.2.2.2.2.1.2 hsp.2.2.2.2.2.1.2 (WfZ_pas hsp hW)
      omega)
    unfold P_X9_passTillRests_L2
    rw [if_neg (by omega), (hC.2.2.2.2.2.2 b b0 b1).2.1, if_pos hz]
    refine ⟨b0, by have := hsp.2.2.2.2.1.2; omega, ?_⟩
    have := k σ Sm.rf hC (fun _ _ => by show σ 9 o 12 = σ 9 o 12 + 0; omega)
    rwa [show x + ((tilN (spC σ 0) (fun z => decide (zHow z b = 0)) 0 z : Nat) : Int) = x by show x + ((0 : Nat) : Int) = x; omega] at this
  | succ f ih =>
    intro z σ x fuel hX hW hC hh hf hx hx2 hfu k
    obtain ⟨q, rfl, hq⟩ := fu_ex hfu
    have hsp := hX.spw
    have hX' := hX
    obtain ⟨hS, hn, hm, hdk⟩ := hX'
    have m6 := hsp.2.2.2.2.1
    unfold P_X9_passTillRests_L2
    rw [if_neg (by omega), (hC.2.2.2.2.2.2 b b0 b1).2.1]
    refine ⟨b0, by omega, ?_⟩
    by_cases hz : zHow z b = 0
    · rw [if_pos hz]
      have e : tilN (spC σ 0) (fun z => decide (zHow z b = 0)) (f + 1) z = 0 := by
        unfold tilN
        rw [if_pos (by simp [hz])]
      rw [e] at k
      have := k σ Sm.rf hC (fun _ _ => by show σ 9 o 12 = σ 9 o 12 + 0; omega)
      rwa [show x + ((0 : Nat) : Int) = x by omega] at this
    · rw [if_neg hz]
      have e : tilN (spC σ 0) (fun z => decide (zHow z b = 0)) (f + 1) z = tilN (spC σ 0) (fun z => decide (zHow z b = 0)) f (pasW (spC σ 0) z) + 1 := by
        conv => lhs; unfold tilN
        rw [if_neg (by simp [hz])]
      rw [e] at k
      refine t_X9_passBeat hS hn hm hdk hW hC (fun σ1 s1 c1 st1 => ?_)
      have hd := psi_dec hsp hW (fun hr => hz (hr b b0 b1))
      have es := spC_keep (o := 0) s1 rfl
      rw [wi_id (z := x + 1) (by omega) (by omega)]
      refine ih (pasW (spC σ 0) z) σ1 (x + 1) q (Cxt_keep s1 rfl hX) (WfZ_pas hsp hW) c1 (by rw [s1.row (t := 906) (i := 0) rfl]; exact hh) (by omega) (by omega) (by omega) hq ?_
      rw [es]
      intro σ2 s2 c2 st2
      have := k σ2 (s1.tr s2) c2 (fun p0 p1 => by
        have hb := strB_rng m.toNat (σ 906 0) z
        have h1 := st1 p0 (by omega)
        have h2 := st2 (by omega) (by omega)
        rw [h2, h1, hh]
        show _ = σ 9 o 12 + (strB m.toNat hmm z + _)
        omega)
      rwa [show x + 1 + ((tilN (spC σ 0) (fun z => decide (zHow z b = 0)) f (pasW (spC σ 0) z) : Nat) : Int) = x + ((tilN (spC σ 0) (fun z => decide (zHow z b = 0)) f (pasW (spC σ 0) z) + 1 : Nat) : Int) by omega]
/-- beats until one rests, until all rest -/
def nOne (s : Sp) (b : Int) (z : Ab) : Nat := tilN s (fun z => decide (zHow z b = 0)) 600 z
def nAll (s : Sp) (m : Int) (z : Ab) : Nat := tilN s (alR m) 600 z
theorem t_X9_passTillRests {n m dk : Int} {o : Nat} {b : Int} {z : Ab} {σ : St} {Q : Int → St → Prop} (hX : Cxt n m dk σ) (hW : WfZ n m dk z) (hC : StC n m σ o z) (b0 : 0 ≤ b) (b1 : b < m)
    (k : ∀ σ', Sm (paA o) σ σ' → StC n m σ' o (pasK (spC σ 0) (nOne (spC σ 0) b z) z) → Q (nOne (spC σ 0) b z) σ') : P_X9_passTillRests o b σ Q := by
  unfold P_X9_passTillRests
  have hp := psi_rng hX.spw.2.2.2.2.1.2 hX.spw.2.2.2.2.2.1.2 hW
  refine t_rests b0 b1 600 z σ 0 FU hX hW hC rfl (by omega) (Int.le_refl 0) (by omega) (FU_pos (by omega)) (fun σ' s' c' _ => ?_)
  rw [Int.zero_add]
  exact k σ' s' c'
theorem t_allRest {n m dk : Int} {o : Nat} {x1 : Int} {hmm : Int → Int} {Q : Int → St → Prop} (hx1 : x1 = wi (bL 1 m - 1)) : ∀ (f : Nat) (z : Ab) (σ : St) (x : Int) (fuel : Nat), Cxt n m dk σ → WfZ n m dk z → StC n m σ o z → σ 906 0 = hmm → psi m z ≤ f → 0 ≤ x → x + f ≤ 900 → f < fuel →
    (∀ σ', Sm (paA o) σ σ' → StC n m σ' o (pasK (spC σ 0) (tilN (spC σ 0) (alR m) f z) z) →
      (0 ≤ σ 9 o 12 → σ 9 o 12 + 6 * f ≤ 1000000000 → σ' 9 o 12 = σ 9 o 12 + strL (spC σ 0) m.toNat hmm (tilN (spC σ 0) (alR m) f z) z) → Q (x + tilN (spC σ 0) (alR m) f z) σ') → P_X9_passTillAllRest_L14 o x1 Q fuel x σ := by
  intro f
  induction f with
  | zero =>
    intro z σ x fuel hX hW hC hh hf hx hx2 hfu k
    obtain ⟨q, rfl, -⟩ := fu_ex hfu
    have hsp := hX.spw
    have m6 := hsp.2.2.2.2.1
    have hz : rsts m z := Classical.byContradiction (fun h => by
      have h1 := psi_dec hsp hW h
      have h2 := psi_rng hsp.2.2.2.2.1.2 hsp.2.2.2.2.2.1.2 (WfZ_pas hsp hW)
      omega)
    unfold P_X9_passTillAllRest_L14
    rw [if_neg (by omega)]
    refine t_X9_inPhase (z := z) hX.2.2.1 m6.1 m6.2 (fun b b0 b1 => (hC.2.2.2.2.2.2 b b0 b1).2.1) ?_
    rw [if_pos (by rw [hx1, bts_all m6.1 m6.2]; exact fun b b0 b1 => decide_eq_true (hz b b0 b1))]
    have := k σ Sm.rf hC (fun _ _ => by show σ 9 o 12 = σ 9 o 12 + 0; omega)
    rwa [show x + ((tilN (spC σ 0) (alR m) 0 z : Nat) : Int) = x by show x + ((0 : Nat) : Int) = x; omega] at this
  | succ f ih =>
    intro z σ x fuel hX hW hC hh hf hx hx2 hfu k
    obtain ⟨q, rfl, hq⟩ := fu_ex hfu
    have hsp := hX.spw
    have hX' := hX
    obtain ⟨hS, hn, hm, hdk⟩ := hX'
    have m6 := hsp.2.2.2.2.1
    unfold P_X9_passTillAllRest_L14
    rw [if_neg (by omega)]
    refine t_X9_inPhase (z := z) hX.2.2.1 m6.1 m6.2 (fun b b0 b1 => (hC.2.2.2.2.2.2 b b0 b1).2.1) ?_
    by_cases hz : rsts m z
    · rw [if_pos (by rw [hx1, bts_all m6.1 m6.2]; exact fun b b0 b1 => decide_eq_true (hz b b0 b1))]
      have e : tilN (spC σ 0) (alR m) (f + 1) z = 0 := by
        unfold tilN
        rw [if_pos (alR_iff.mpr hz)]
      rw [e] at k
      have := k σ Sm.rf hC (fun _ _ => by show σ 9 o 12 = σ 9 o 12 + 0; omega)
      rwa [show x + ((0 : Nat) : Int) = x by omega] at this
    · rw [if_neg (fun h => by
        rw [hx1, bts_all m6.1 m6.2] at h
        exact hz (fun b b0 b1 => of_decide_eq_true (h b b0 b1)))]
      have e : tilN (spC σ 0) (alR m) (f + 1) z = tilN (spC σ 0) (alR m) f (pasW (spC σ 0) z) + 1 := by
        conv => lhs; unfold tilN
        rw [if_neg (fun h => hz (alR_iff.mp h))]
      rw [e] at k
      refine t_X9_passBeat hS hn hm hdk hW hC (fun σ1 s1 c1 st1 => ?_)
      have hd := psi_dec hsp hW hz
      have es := spC_keep (o := 0) s1 rfl
      rw [wi_id (z := x + 1) (by omega) (by omega)]
      refine ih (pasW (spC σ 0) z) σ1 (x + 1) q (Cxt_keep s1 rfl hX) (WfZ_pas hsp hW) c1 (by rw [s1.row (t := 906) (i := 0) rfl]; exact hh) (by omega) (by omega) (by omega) hq ?_
      rw [es]
      intro σ2 s2 c2 st2
      have := k σ2 (s1.tr s2) c2 (fun p0 p1 => by
        have hb := strB_rng m.toNat (σ 906 0) z
        have h1 := st1 p0 (by omega)
        have h2 := st2 (by omega) (by omega)
        rw [h2, h1, hh]
        show _ = σ 9 o 12 + (strB m.toNat hmm z + _)
        omega)
      rwa [show x + 1 + ((tilN (spC σ 0) (alR m) f (pasW (spC σ 0) z) : Nat) : Int) = x + ((tilN (spC σ 0) (alR m) f (pasW (spC σ 0) z) + 1 : Nat) : Int) by omega]
theorem t_X9_passTillAllRest {n m dk : Int} {o : Nat} {z : Ab} {σ : St} {Q : Int → St → Prop} (hX : Cxt n m dk σ) (hW : WfZ n m dk z) (hC : StC n m σ o z)
    (k : ∀ σ', Sm (paA o) σ σ' → StC n m σ' o (pasK (spC σ 0) (nAll (spC σ 0) m z) z) → (0 ≤ σ 9 o 12 → σ 9 o 12 + 3600 ≤ 1000000000 → σ' 9 o 12 = σ 9 o 12 + strL (spC σ 0) m.toNat (σ 906 0) (nAll (spC σ 0) m z) z) → Q (nAll (spC σ 0) m z) σ') : P_X9_passTillAllRest o σ Q := by
  unfold P_X9_passTillAllRest
  have hp := psi_rng hX.spw.2.2.2.2.1.2 hX.spw.2.2.2.2.2.1.2 hW
  refine t_allRest (hmm := σ 906 0) (by rw [hX.2.2.1]) 600 z σ 0 FU hX hW hC rfl (by omega) (Int.le_refl 0) (by omega) (FU_pos (by omega)) (fun σ' s' c' st => ?_)
  rw [Int.zero_add]
  exact k σ' s' c' (fun h0 h1 => st h0 (by omega))
