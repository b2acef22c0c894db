/-! 56: tried on a copy: back, trip, rest -/
/-- what a question may change: of the class, of the reference -/
def qcA : List Reg := tkA 1 ++ [(302, 0, none), (102, 0, none), (152, 0, none), (202, 0, none), (203, 0, none), (254, 0, none), (255, 0, none), (256, 0, none)]
def qrA : List Reg := [(1346, 0, none), (1347, 0, none), (1348, 0, none), (12, 0, some 0), (12, 0, some 54), (12, 0, some 58)] ++ weA
section
variable {n m dk : Int} {z : Ab} {σ : St} {Q : Int → St → Prop}
theorem t_restsIn {b : Int} (b0 : 0 ≤ b) (b1 : b < m) : ∀ (f : Nat) (z : Ab) (σ : St) (x : Int) (fuel : Nat), Cxt n m dk σ → ShE σ → WfZ n m dk z → StA n m (σ 1346 0) z → psi m z ≤ f → 0 ≤ x → x + f ≤ 900 → f < fuel →
    (∀ σ', Sm [(1346, 0, none)] σ σ' → StA n m (σ' 1346 0) (pasK (spC σ 0) (tilN (spC σ 0) (fun z => decide (zHow z b = 0)) f z) z) → Q (x + tilN (spC σ 0) (fun z => decide (zHow z b = 0)) f z) σ') → P_X12_restsIn_L2 b Q fuel x σ := by
  intro f
  induction f with
  | zero =>
    intro z σ x fuel hX hE hW hC hf hx hx2 hfu k
    obtain ⟨q, rfl, -⟩ := fu_ex hfu
    have hsp := hX.spw
    have m6 := hsp.2.2.2.2.1
    have hz : zHow z b = 0 := Classical.byContradiction (fun h => by
      have h1 := psi_dec hsp hW (fun hr => h (hr b b0 b1))
      have h2 := psi_rng hsp.2.2.2.2.1.2 hsp.2.2.2.2.2.1.2 (WfZ_pas hsp hW)
      omega)
    unfold P_X12_restsIn_L2
    rw [wi_id (z := 22 + b) (by omega) (by omega), (hC.2.2.2.2.2.2 b b0 b1).2.1, if_pos hz]
    refine ⟨by omega, by omega, ?_⟩
    have := k σ Sm.rf hC
    rwa [show x + ((tilN (spC σ 0) (fun z => decide (zHow z b = 0)) 0 z : Nat) : Int) = x by show x + ((0 : Nat) : Int) = x; omega] at this
  | succ f ih =>
    intro z σ x fuel hX hE hW hC hf hx hx2 hfu k
    obtain ⟨q, rfl, hq⟩ := fu_ex hfu
    have hsp := hX.spw
    have hX' := hX
    obtain ⟨hS, hn, hm, hdk⟩ := hX'
    have m6 := hsp.2.2.2.2.1
    unfold P_X12_restsIn_L2
    rw [wi_id (z := 22 + b) (by omega) (by omega), (hC.2.2.2.2.2.2 b b0 b1).2.1]
    refine ⟨by omega, by omega, ?_⟩
    by_cases hz : zHow z b = 0
    · rw [if_pos hz]
      have e : tilN (spC σ 0) (fun z => decide (zHow z b = 0)) (f + 1) z = 0 := by
        unfold tilN
        rw [if_pos (by simp [hz])]
      rw [e] at k
      have := k σ Sm.rf hC
      rwa [show x + ((0 : Nat) : Int) = x by omega] at this
    · rw [if_neg hz]
      have e : tilN (spC σ 0) (fun z => decide (zHow z b = 0)) (f + 1) z = tilN (spC σ 0) (fun z => decide (zHow z b = 0)) f (pasW (spC σ 0) z) + 1 := by
        conv => lhs; unfold tilN
        rw [if_neg (by simp [hz])]
      rw [e] at k
      refine t_X12_passes hS hE hn hm hdk hW hC (fun σ1 s1 c1 => ?_)
      have hd := psi_dec hsp hW (fun hr => hz (hr b b0 b1))
      have es := spC_keep (o := 0) s1 rfl
      rw [wi_id (z := x + 1) (by omega) (by omega)]
      refine ih (pasW (spC σ 0) z) σ1 (x + 1) q (Cxt_keep s1 rfl hX) (ShE_keep s1 rfl hE) (WfZ_pas hsp hW) c1 (by omega) (by omega) (by omega) hq ?_
      rw [es]
      intro σ2 s2 c2
      have := k σ2 (s1.tr s2) c2
      rwa [show x + 1 + ((tilN (spC σ 0) (fun z => decide (zHow z b = 0)) f (pasW (spC σ 0) z) : Nat) : Int) = x + ((tilN (spC σ 0) (fun z => decide (zHow z b = 0)) f (pasW (spC σ 0) z) + 1 : Nat) : Int) by omega]
theorem t_X12_restsIn {b : Int} (hX : Cxt n m dk σ) (hE : ShE σ) (hW : WfZ n m dk z) (hC : StA n m (σ 1346 0) z) (b0 : 0 ≤ b) (b1 : b < m)
    (k : ∀ σ', Sm [(1346, 0, none)] σ σ' → StA n m (σ' 1346 0) (pasK (spC σ 0) (nOne (spC σ 0) b z) z) → Q (nOne (spC σ 0) b z) σ') : P_X12_restsIn b σ Q := by
  unfold P_X12_restsIn
  have hp := psi_rng hX.spw.2.2.2.2.1.2 hX.spw.2.2.2.2.2.1.2 hW
  refine t_restsIn b0 b1 600 z σ 0 FU hX hE hW hC (by omega) (Int.le_refl 0) (by omega) (FU_pos (by omega)) (fun σ' s' c' => ?_)
  rw [Int.zero_add]
  exact k σ' s' c'
/-- the state put aside, and taken back -/
theorem t_aside {t : Nat} {σ : St} {Q : St → Prop} (hs : shp t = (0, 46)) (ht : Nat.beq 1346 t = false) (hX : Cxt n m dk σ) (hW : WfZ n m dk z) (hC : StA n m (σ 1346 0) z)
    (k : ∀ σ', Sm [(t, 0, none)] σ σ' → StA n m (σ' 1346 0) z → StA n m (σ' t 0) z → Q σ') : P_X12_copies 1346 0 0 t 0 0 σ Q := by
  refine t_X12_copies (L0 := 46) (L2 := 46) rfl hs (by omega) (by omega) (by omega) (by omega) (by omega) (by omega) ht (fun τ s r _ => ?_)
  have hsp := hX.spw
  refine k τ s ?_ ?_
  · rw [s.row (t := 1346) (i := 0) (by
      have : Nat.beq t 1346 = false := by
        cases h : Nat.beq t 1346
        · rfl
        · rw [Nat.eq_of_beq_eq_true h, Nat.beq_refl] at ht; cases ht
      show (!(Nat.beq t 1346 && _) && true) = true
      rw [this]; rfl)]
    exact hC
  · refine StA_ext hsp.2.2.2.1 hsp.2.2.2.2.1 hW (fun x x0 x1 => ?_) hC
    have := r x x0 x1
    rwa [Int.zero_add] at this
theorem t_asback {t : Nat} {σ : St} {Q : St → Prop} (hs : shp t = (0, 46)) (ht : Nat.beq t 1346 = false) (hX : Cxt n m dk σ) (hW : WfZ n m dk z) (hC : StA n m (σ t 0) z)
    (k : ∀ σ', Sm [(1346, 0, none)] σ σ' → StA n m (σ' 1346 0) z → Q σ') : P_X12_copies t 0 0 1346 0 0 σ Q := by
  refine t_X12_copies (L0 := 46) (L2 := 46) hs rfl (by omega) (by omega) (by omega) (by omega) (by omega) (by omega) ht (fun τ s r _ => ?_)
  have hsp := hX.spw
  refine k τ s (StA_ext hsp.2.2.2.1 hsp.2.2.2.2.1 hW (fun x x0 x1 => ?_) hC)
  have := r x x0 x1
  rwa [Int.zero_add] at this
def bacW (s : Sp) (m : Int) (z : Ab) (b : Int) : Int := if 0 ≤ b ∧ b < m then nOne s b z else -1
theorem t_X11_back {b : Int} (hX : Cxt n m dk σ) (hW : WfZ n m dk z) (hC : StC n m σ 0 z) (k : ∀ σ', Sm qcA σ σ' → Q (bacW (spC σ 0) m z b) σ') : P_X11_back b σ Q := by
  unfold P_X11_back
  refine t_X8_hasBall (fun b0 b1 => ?_) (fun h => ?_)
  · rw [hX.2.2.1] at b1
    rw [if_neg one_no]
    refine t_X9_take hX.spw hW hC (fun σ1 s1 c1 _ => ?_)
    refine t_X9_passTillRests (Cxt_keep s1 rfl hX) hW c1 b0 b1 (fun σ2 s2 _ => ?_)
    rw [spC_keep s1 rfl]
    have k := k σ2 ((mem_sub (A := tkA 1) (B := qcA) rfl s1).tr (mem_sub (A := paA 1) (B := qcA) rfl s2))
    unfold bacW at k
    rwa [if_pos ⟨b0, b1⟩] at k
  · rw [hX.2.2.1] at h
    have k := k σ Sm.rf
    unfold bacW at k
    rw [if_neg h] at k
    rw [if_pos rfl]
    exact k
theorem t_X12_back {b : Int} (hX : Cxt n m dk σ) (hE : ShE σ) (hW : WfZ n m dk z) (hC : StA n m (σ 1346 0) z) (k : ∀ σ', Sm qrA σ σ' → StA n m (σ' 1346 0) z → Q (bacW (spC σ 0) m z b) σ') : P_X12_back b σ Q := by
  obtain ⟨hX0, hE0, hC0, s0⟩ := look0 hX hE hC
  unfold P_X12_back
  refine t_X12_isBall (m := m) (by rw [hE0.2.1]; exact hX0.2.2.1) (fun b0 b1 => ?_) (fun h => ?_)
  · rw [if_neg one_no]
    refine t_aside (t := 1348) rfl rfl hX0 hW hC0 (fun σ1 s1 c1 d1 => ?_)
    have hX1 := Cxt_keep s1 rfl hX0
    refine t_X12_restsIn hX1 (ShE_keep s1 rfl hE0) hW c1 b0 b1 (fun σ2 s2 c2 => ?_)
    refine t_asback (t := 1348) (z := z) rfl rfl (Cxt_keep s2 rfl hX1) hW (by rw [s2.row (t := 1348) (i := 0) rfl]; exact d1) (fun σ3 s3 c3 => ?_)
    rw [spC_keep s1 rfl, spC_keep s0 rfl]
    have k := k σ3 ((mem_sub (B := qrA) rfl s0).tr ((mem_sub (B := qrA) rfl s1).tr ((mem_sub (B := qrA) rfl s2).tr (mem_sub (B := qrA) rfl s3)))) c3
    unfold bacW at k
    rwa [if_pos ⟨b0, b1⟩] at k
  · have k := k _ (mem_sub (B := qrA) rfl s0) hC0
    unfold bacW at k
    rw [if_neg h] at k
    rw [if_pos rfl]
    exact k
def triW (s : Sp) (m : Int) (z : Ab) (b : Int) : Int := if 0 ≤ b ∧ b < m ∧ (zHow z b = 0 ∧ zAt z b ≠ 6) then nOne s b (sndW s b z) else -1
theorem t_X11_trip {b : Int} (hX : Cxt n m dk σ) (hW : WfZ n m dk z) (hC : StC n m σ 0 z) (k : ∀ σ', Sm qcA σ σ' → Q (triW (spC σ 0) m z b) σ') : P_X11_trip b σ Q := by
  have m6 := hX.spw.2.2.2.2.1
  unfold P_X11_trip
  refine t_X9_canSend hX.2.2.1 m6.2 hC (fun b0 b1 hc => ?_) (fun h => ?_)
  · rw [if_neg one_no]
    refine t_X9_take hX.spw hW hC (fun σ1 s1 c1 _ => ?_)
    have hX1 := Cxt_keep s1 rfl hX
    refine t_X9_sendOff hX1 hW c1 (fun _ _ _ σ2 s2 c2 => ?_) (fun h => absurd ⟨b0, b1, hc⟩ h)
    refine t_X9_passTillRests (Cxt_keep s2 rfl hX1) (WfZ_snd hX1.spw hW hc.1 b0 b1) c2 b0 b1 (fun σ3 s3 _ => ?_)
    rw [spC_keep s2 rfl, spC_keep s1 rfl]
    have k := k σ3 ((mem_sub (A := tkA 1) (B := qcA) rfl s1).tr ((mem_sub (A := soA 1) (B := qcA) rfl s2).tr (mem_sub (A := paA 1) (B := qcA) rfl s3)))
    unfold triW at k
    rwa [if_pos ⟨b0, b1, hc⟩] at k
  · have k := k σ Sm.rf
    unfold triW at k
    unfold canW at h
    rw [if_neg h] at k
    rw [if_pos rfl]
    exact k
theorem t_X12_trip {b : Int} (hX : Cxt n m dk σ) (hE : ShE σ) (hW : WfZ n m dk z) (hC : StA n m (σ 1346 0) z) (k : ∀ σ', Sm qrA σ σ' → StA n m (σ' 1346 0) z → Q (triW (spC σ 0) m z b) σ') : P_X12_trip b σ Q := by
  have m6 := hX.spw.2.2.2.2.1
  have n6 := hX.spw.2.2.2.1
  obtain ⟨hX0, hE0, hC0, s0⟩ := look0 hX hE hC
  have no : ¬ (0 ≤ b ∧ b < m ∧ canW z b) → Q (-1) (up σ 12 0 0 0) := fun h => by
    have k := k _ (mem_sub (B := qrA) rfl s0) hC0
    unfold triW at k
    unfold canW at h
    rwa [if_neg h] at k
  unfold P_X12_trip
  refine t_X12_isBall (m := m) (by rw [hE0.2.1]; exact hX0.2.2.1) (fun b0 b1 => ?_) (fun h => ?_)
  · rw [if_neg one_no]
    obtain ⟨w1, w2, w3, w4, w5, w6⟩ := hW.2.2.2.2.2.2.2 b b0 b1
    refine t_X12_canSend m6.2 hC0 (by omega) b0 b1 (fun hc => ?_) (fun h => ?_)
    · rw [if_neg one_no]
      refine t_aside (t := 1348) rfl rfl hX0 hW hC0 (fun σ1 s1 c1 d1 => ?_)
      have hX1 := Cxt_keep s1 rfl hX0
      have hE1 := ShE_keep s1 rfl hE0
      refine t_X12_sends hX1 hE1 hW c1 b0 b1 (fun σ2 s2 c2 => ?_)
      have hX2 := Cxt_keep s2 rfl hX1
      refine t_X12_restsIn hX2 (ShE_keep s2 rfl hE1) (WfZ_snd hX1.spw hW hc.1 b0 b1) c2 b0 b1 (fun σ3 s3 c3 => ?_)
      refine t_asback (t := 1348) (z := z) rfl rfl (Cxt_keep s3 rfl hX2) hW (by rw [s3.row (t := 1348) (i := 0) rfl, s2.row (t := 1348) (i := 0) rfl]; exact d1) (fun σ4 s4 c4 => ?_)
      rw [spC_keep s2 rfl, spC_keep s1 rfl, spC_keep s0 rfl]
      have k := k σ4 ((mem_sub (B := qrA) rfl s0).tr ((mem_sub (B := qrA) rfl s1).tr ((mem_sub (B := qrA) rfl s2).tr ((mem_sub (B := qrA) rfl s3).tr (mem_sub (B := qrA) rfl s4))))) c4
      unfold triW at k
      rwa [if_pos ⟨b0, b1, hc⟩] at k
    · rw [if_pos rfl]
      exact no (fun q => h q.2.2)
  · rw [if_pos rfl]
    exact no (fun q => h ⟨q.1, q.2.1⟩)
theorem t_X11_rest (hX : Cxt n m dk σ) (hW : WfZ n m dk z) (hC : StC n m σ 0 z) (k : ∀ σ', Sm qcA σ σ' → Q (nAll (spC σ 0) m z) σ') : P_X11_rest σ Q := by
  unfold P_X11_rest
  refine t_X9_take hX.spw hW hC (fun σ1 s1 c1 _ => ?_)
  refine t_X9_passTillAllRest (Cxt_keep s1 rfl hX) hW c1 (fun σ2 s2 _ _ => ?_)
  rw [spC_keep s1 rfl]
  exact k σ2 ((mem_sub (A := tkA 1) (B := qcA) rfl s1).tr (mem_sub (A := paA 1) (B := qcA) rfl s2))
theorem t_rest12 {K : Int → St → Prop} : ∀ (f : Nat) (z : Ab) (σ : St) (x : Int) (fuel : Nat), Cxt n m dk σ → ShE σ → WfZ n m dk z → StA n m (σ 1346 0) z → psi m z ≤ f → 0 ≤ x → x + f ≤ 900 → f < fuel →
    (∀ σ', Sm [(1346, 0, none)] σ σ' → K (x + tilN (spC σ 0) (alR m) f z) σ') → P_X12_rest_L20 K Q fuel x σ := by
  intro f
  induction f with
  | zero =>
    intro z σ x fuel hX hE hW hC hf hx hx2 hfu k
    obtain ⟨q, rfl, -⟩ := fu_ex hfu
    have hsp := hX.spw
    have m6 := hsp.2.2.2.2.1
    have hz : rsts m z := Classical.byContradiction (fun h => by
      have h1 := psi_dec hsp hW h
      have h2 := psi_rng hsp.2.2.2.2.1.2 hsp.2.2.2.2.2.1.2 (WfZ_pas hsp hW)
      omega)
    unfold P_X12_rest_L20
    refine t_X12_doAllRest (z := z) (by rw [hE.2.1]; exact hX.2.2.1) m6.1 m6.2 (fun b b0 b1 => (hC.2.2.2.2.2.2 b b0 b1).2.1) (fun _ => ?_) (fun h => ?_)
    · rw [if_neg one_no]
      have := k σ Sm.rf
      rwa [show x + ((tilN (spC σ 0) (alR m) 0 z : Nat) : Int) = x by show x + ((0 : Nat) : Int) = x; omega] at this
    · rw [alR_iff.mpr hz] at h
      cases h
  | succ f ih =>
    intro z σ x fuel hX hE hW hC hf hx hx2 hfu k
    obtain ⟨q, rfl, hq⟩ := fu_ex hfu
    have hsp := hX.spw
    have hX' := hX
    obtain ⟨hS, hn, hm, hdk⟩ := hX'
    have m6 := hsp.2.2.2.2.1
    unfold P_X12_rest_L20
    refine t_X12_doAllRest (z := z) (by rw [hE.2.1]; exact hX.2.2.1) m6.1 m6.2 (fun b b0 b1 => (hC.2.2.2.2.2.2 b b0 b1).2.1) (fun h => ?_) (fun h => ?_)
    · rw [if_neg one_no]
      have e : tilN (spC σ 0) (alR m) (f + 1) z = 0 := by
        unfold tilN
        rw [if_pos h]
      rw [e] at k
      have := k σ Sm.rf
      rwa [show x + ((0 : Nat) : Int) = x by omega] at this
    · rw [if_pos rfl]
      have hz : ¬ rsts m z := fun h' => by rw [alR_iff.mpr h'] at h; cases h
      have e : tilN (spC σ 0) (alR m) (f + 1) z = tilN (spC σ 0) (alR m) f (pasW (spC σ 0) z) + 1 := by
        conv => lhs; unfold tilN
        rw [if_neg (by rw [h]; decide)]
      rw [e] at k
      refine t_X12_passes hS hE hn hm hdk hW hC (fun σ1 s1 c1 => ?_)
      have hd := psi_dec hsp hW hz
      have es := spC_keep (o := 0) s1 rfl
      rw [wi_id (z := x + 1) (by omega) (by omega)]
      refine ih (pasW (spC σ 0) z) σ1 (x + 1) q (Cxt_keep s1 rfl hX) (ShE_keep s1 rfl hE) (WfZ_pas hsp hW) c1 (by omega) (by omega) (by omega) hq ?_
      rw [es]
      intro σ2 s2
      have := k σ2 (s1.tr s2)
      rwa [show x + 1 + ((tilN (spC σ 0) (alR m) f (pasW (spC σ 0) z) : Nat) : Int) = x + ((tilN (spC σ 0) (alR m) f (pasW (spC σ 0) z) + 1 : Nat) : Int) by omega]
theorem t_X12_rest (hX : Cxt n m dk σ) (hE : ShE σ) (hW : WfZ n m dk z) (hC : StA n m (σ 1346 0) z) (k : ∀ σ', Sm qrA σ σ' → StA n m (σ' 1346 0) z → Q (nAll (spC σ 0) m z) σ') : P_X12_rest σ Q := by
  obtain ⟨hX0, hE0, hC0, s0⟩ := look0 hX hE hC
  unfold P_X12_rest
  refine t_aside (t := 1348) rfl rfl hX0 hW hC0 (fun σ1 s1 c1 d1 => ?_)
  have hX1 := Cxt_keep s1 rfl hX0
  have hp := psi_rng hX.spw.2.2.2.2.1.2 hX.spw.2.2.2.2.2.1.2 hW
  refine t_rest12 600 z σ1 0 FU hX1 (ShE_keep s1 rfl hE0) hW c1 (by omega) (Int.le_refl 0) (by omega) (FU_pos (by omega)) (fun σ2 s2 => ?_)
  refine t_asback (t := 1348) (z := z) rfl rfl (Cxt_keep s2 rfl hX1) hW (by rw [s2.row (t := 1348) (i := 0) rfl]; exact d1) (fun σ3 s3 c3 => ?_)
  rw [spC_keep s1 rfl, spC_keep s0 rfl, Int.zero_add]
  exact k σ3 ((mem_sub (B := qrA) rfl s0).tr ((mem_sub (B := qrA) rfl s1).tr ((mem_sub (B := qrA) rfl s2).tr (mem_sub (B := qrA) rfl s3)))) c3
end
