/-! 69: last, the reference's walk -/
section
variable {n m dk : Int} {z : Ab} {σ : St} {Q : Int → St → Prop}
theorem pasK_succ {s : Sp} : ∀ (k : Nat) {z : Ab}, pasK s (k + 1) z = pasW s (pasK s k z)
  | 0, _ => rfl
  | k + 1, z => by
    show pasK s (k + 1) (pasW s z) = pasW s (pasK s k (pasW s z))
    exact pasK_succ k
theorem com_nOne {s : Sp} {k : Nat} {b : Int} (hs : SpW n m dk s) (hW : WfZ n m dk z) (b0 : 0 ≤ b) (b1 : b < m) : com (pasK s k z) b = true ↔ nOne s b z = k + 1 := by
  have hp := psi_rng hs.2.2.2.2.1.2 hs.2.2.2.2.2.1.2 hW
  have h1 : nOne s b z ≤ k ↔ _ := tilN_iff hs b0 b1 600 k hW (by omega)
  have h2 : nOne s b z ≤ k + 1 ↔ _ := tilN_iff hs b0 b1 600 (k + 1) hW (by omega)
  rw [pasK_succ] at h2
  by_cases h0 : zHow (pasK s k z) b = 0
  · have h3 := h1.mpr h0
    refine ⟨fun h => ?_, fun h => by omega⟩
    have := com_iff.mp h
    omega
  · have h3 : ¬ nOne s b z ≤ k := fun h => h0 (h1.mp h)
    rw [com_rest hs (WfZ_pasK hs k hW) h0, ← h2]
    omega
theorem t_last12 {K : Int → St → Prop} {s : Sp} (hs : SpW n m dk s) (hW0 : WfZ n m dk z) (hsm : ∀ b : Int, 0 ≤ b → b < m → True) : ∀ (f k : Nat) (σ : St) (x : Int) (fuel : Nat), Cxt n m dk σ → ShE σ → spC σ 0 = s → StA n m (σ 1346 0) (pasK s k z) → psi m (pasK s k z) ≤ f → LSt s m z k x → f < fuel →
    (∀ σ', Sm [(1346, 0, none)] σ σ' → K (lstW s z m.toNat).1 σ') → P_X12_last_L20 K Q fuel x σ := by
  intro f
  induction f with
  | zero =>
    intro k σ x fuel hX hE es hC hf hl hfu kk
    obtain ⟨q, rfl, -⟩ := fu_ex hfu
    have m6 := hs.2.2.2.2.1
    have hW := WfZ_pasK hs k hW0
    have hz : rsts m (pasK s k z) := Classical.byContradiction (fun h => by
      have h1 := psi_dec hs hW h
      have h2 := psi_rng hs.2.2.2.2.1.2 hs.2.2.2.2.2.1.2 (WfZ_pas hs hW)
      omega)
    unfold P_X12_last_L20
    refine t_X12_doAllRest (z := pasK s k z) (by rw [hE.2.1]; exact hX.2.2.1) m6.1 m6.2 (fun b b0 b1 => (hC.2.2.2.2.2.2 b b0 b1).2.1) (fun _ => ?_) (fun h => ?_)
    · rw [if_neg one_no]
      have hp := psi_rng hs.2.2.2.2.1.2 hs.2.2.2.2.2.1.2 hW0
      rw [LSt_end m6.1 hl (fun b b0 b1 => (tilN_iff hs b0 b1 600 k hW0 (by omega)).mpr (hz b b0 b1))]
      exact kk σ Sm.rf
    · rw [alR_iff.mpr hz] at h
      cases h
  | succ f ih =>
    intro k σ x fuel hX hE es hC hf hl hfu kk
    obtain ⟨q, rfl, hq⟩ := fu_ex hfu
    have m6 := hs.2.2.2.2.1
    have hW := WfZ_pasK hs k hW0
    have hX' := hX
    obtain ⟨hS, hn, hm, hdk⟩ := hX'
    unfold P_X12_last_L20
    refine t_X12_doAllRest (z := pasK s k z) (by rw [hE.2.1]; exact hX.2.2.1) m6.1 m6.2 (fun b b0 b1 => (hC.2.2.2.2.2.2 b b0 b1).2.1) (fun h => ?_) (fun h => ?_)
    · rw [if_neg one_no]
      have hp := psi_rng hs.2.2.2.2.1.2 hs.2.2.2.2.2.1.2 hW0
      have hz := alR_iff.mp h
      rw [LSt_end m6.1 hl (fun b b0 b1 => (tilN_iff hs b0 b1 600 k hW0 (by omega)).mpr (hz b b0 b1))]
      exact kk σ Sm.rf
    · rw [if_pos rfl]
      have hz : ¬ rsts m (pasK s k z) := fun h' => by rw [alR_iff.mpr h'] at h; cases h
      have hd := psi_dec hs hW hz
      refine t_X12_passes hS hE hn hm hdk hW hC (fun σ1 s1 c1 => ?_)
      unfold pasB
      rw [es] at c1 ⊢
      rw [hs.2.1]
      refine t_L34 m6.1 m6.2 6 FU x (by omega) (FU_pos (by omega)) ?_
      refine ih (k + 1) σ1 _ q (Cxt_keep s1 rfl hX) (ShE_keep s1 rfl hE) ((spC_keep s1 rfl).trans es) (by rw [pasK_succ]; exact c1) (by rw [pasK_succ]; omega) ?_ hq (fun σ2 s2 => kk σ2 (s1.tr s2))
      exact LSt_step (fun b b0 b1 => com_nOne hs hW0 b0 b1) m6.1 m6.2 hl
theorem t_X12_last (hX : Cxt n m dk σ) (hE : ShE σ) (hW : WfZ n m dk z) (hC : StA n m (σ 1346 0) z) (k : ∀ σ', Sm qrA σ σ' → StA n m (σ' 1346 0) z → Q (lstW (spC σ 0) z m.toNat).1 σ') : P_X12_last σ Q := by
  obtain ⟨hX0, hE0, hC0, s0⟩ := look0 hX hE hC
  have hsp := hX.spw
  unfold P_X12_last
  refine t_aside (t := 1348) rfl rfl hX0 hW hC0 (fun σ1 s1 c1 d1 => ?_)
  have hX1 := Cxt_keep s1 rfl hX0
  have hp := psi_rng hsp.2.2.2.2.1.2 hsp.2.2.2.2.2.1.2 hW
  refine t_last12 (z := z) (s := spC σ 0) hsp hW (fun _ _ _ => trivial) 600 0 σ1 (-1) FU hX1 (ShE_keep s1 rfl hE0) (by rw [spC_keep s1 rfl, spC_keep s0 rfl]) c1 (by show psi m z ≤ _; omega) (Or.inl ⟨rfl, fun b b0 b1 => by omega⟩) (FU_pos (by omega)) (fun σ2 s2 => ?_)
  refine t_asback (t := 1348) (z := z) rfl rfl (Cxt_keep s2 rfl hX1) hW (by rw [s2.row (t := 1348) (i := 0) rfl]; exact d1) (fun σ3 s3 c3 => ?_)
  exact k σ3 ((mem_sub (B := qrA) rfl s0).tr ((mem_sub (B := qrA) rfl s1).tr ((mem_sub (B := qrA) rfl s2).tr (mem_sub (B := qrA) rfl s3)))) c3
end
