/-! 59: shave, swap -/
section
variable {n m dk : Int} {z : Ab} {σ : St} {Q : Int → St → Prop}
def shvP (s : Sp) (h w : Int) (z : Ab) (d : Int) : Bool := (decide (1 ≤ w - d) && decide (fllW s z (w - d) = h)) || (decide (w + d ≤ 60) && decide (fllW s z (w + d) = h))
def shvW (s : Sp) (hm : Int → Int) (m : Int) (z : Ab) (b : Int) : Int := if 0 ≤ b ∧ b < m then (match fnd (shvP s (hm b) (zSize z b) z) 60 0 with
  | some d => d
  | none => -1) else -1
theorem t_X1_wouldGoHome {b w : Int} (hX : Cxt n m dk σ) (hC : StC n m σ 0 z) (b0 : 0 ≤ b) (b1 : b < m) (k1 : 1 ≤ w → w ≤ 60 → fllW (spC σ 0) z w = σ 906 0 b → Q 1 σ) (k0 : ¬ (1 ≤ w ∧ w ≤ 60 ∧ fllW (spC σ 0) z w = σ 906 0 b) → Q 0 σ) : P_X1_wouldGoHome b w σ Q := by
  have m6 := hX.spw.2.2.2.2.1
  unfold P_X1_wouldGoHome P_X1_wouldGoHome_J41
  refine t_X11_within (fun p q => ?_) (fun h => ?_)
  · rw [if_neg one_no]
    refine t_fall0 hX hC ?_
    refine ⟨b0, by omega, ?_⟩
    split <;> rename_i h
    · exact k1 p q h
    · exact k0 (fun q => h q.2.2)
  · rw [if_pos rfl]
    exact k0 (fun q => h ⟨q.1, q.2.1⟩)
theorem t_X11_shave {b : Int} (hX : Cxt n m dk σ) (hW : WfZ n m dk z) (hC : StC n m σ 0 z) (k : Q (shvW (spC σ 0) (σ 906 0) m z b) σ) : P_X11_shave b σ Q := by
  have m6 := hX.spw.2.2.2.2.1
  unfold P_X11_shave
  unfold shvW at k
  refine t_X8_hasBall (fun b0 b1 => ?_) (fun h => ?_)
  · rw [hX.2.2.1] at b1
    rw [if_pos ⟨b0, b1⟩] at k
    rw [if_neg one_no]
    have hw := (hW.2.2.2.2.2.2.2 b b0 b1).1
    have ez := (hC.2.2.2.2.2.2 b b0 b1).1
    unfold P_X1_leastChange
    refine findF (F := fun n' i => P_X1_leastChange_L2 b (fun r_4 σ_3 => Q r_4 σ_3) n' i σ) (N := 60) (K0 := Q (-1) σ) (K := fun i => Q i σ) (p := shvP (spC σ 0) (σ 906 0 b) (zSize z b) z) (fun n' i i0 i1 => ?_) (fun n' k => ?_) 60 0 FU (by decide) (by omega) (FU_pos (by omega)) ?_
    · have e1 : wi (zSize z b - i) = zSize z b - i := wi_id (by omega) (by omega)
      have e2 : wi (zSize z b + i) = zSize z b + i := wi_id (by omega) (by omega)
      refine ⟨fun hp k => ?_, fun hp k => ?_⟩
      · unfold P_X1_leastChange_L2
        rw [if_neg (by omega), ez, e1]
        refine ⟨b0, by omega, t_X1_wouldGoHome hX hC b0 b1 (fun _ _ _ => ?_) (fun h1 => ?_)⟩
        · rw [if_neg one_no]; exact k
        · rw [if_pos rfl, ez, e2]
          refine ⟨b0, by omega, t_X1_wouldGoHome hX hC b0 b1 (fun _ _ _ => ?_) (fun h2 => ?_)⟩
          · rw [if_neg one_no]; exact k
          · exfalso
            unfold shvP at hp
            simp only [Bool.or_eq_true, Bool.and_eq_true, decide_eq_true_eq] at hp
            rcases hp with ⟨a, c⟩ | ⟨a, c⟩
            · exact h1 ⟨a, by omega, c⟩
            · exact h2 ⟨by omega, a, c⟩
      · have hp' : ¬ ((1 ≤ zSize z b - i ∧ fllW (spC σ 0) z (zSize z b - i) = σ 906 0 b) ∨ (zSize z b + i ≤ 60 ∧ fllW (spC σ 0) z (zSize z b + i) = σ 906 0 b)) := fun h => by
          have : shvP (spC σ 0) (σ 906 0 b) (zSize z b) z i = true := by
            unfold shvP
            simp only [Bool.or_eq_true, Bool.and_eq_true, decide_eq_true_eq]
            exact h
          rw [this] at hp
          cases hp
        unfold P_X1_leastChange_L2
        rw [if_neg (by omega), ez, e1]
        refine ⟨b0, by omega, t_X1_wouldGoHome hX hC b0 b1 (fun p _ q => absurd (Or.inl ⟨p, q⟩) hp') (fun h1 => ?_)⟩
        rw [if_pos rfl, ez, e2]
        refine ⟨b0, by omega, t_X1_wouldGoHome hX hC b0 b1 (fun _ p q => absurd (Or.inr ⟨p, q⟩) hp') (fun h2 => ?_)⟩
        rw [if_pos rfl, wi_id (by omega) (by omega)]
        exact k
    · unfold P_X1_leastChange_L2
      rw [if_pos (by decide)]
      exact k
    · split at k <;> rename_i h <;> rw [h] <;> exact k
  · rw [hX.2.2.1] at h
    rw [if_neg h] at k
    rw [if_pos rfl]
    exact k
theorem t_X12_shave {b : Int} (hX : Cxt n m dk σ) (hE : ShE σ) (hW : WfZ n m dk z) (hC : StA n m (σ 1346 0) z) (k : ∀ σ', Sm q0A σ σ' → Q (shvW (spC σ 0) (σ 906 0) m z b) σ') : P_X12_shave b σ Q := by
  have m6 := hX.spw.2.2.2.2.1
  obtain ⟨hX0, hE0, hC0, s0⟩ := look0 hX hE hC
  have k := k _ s0
  have es : spC (up σ 12 0 0 0) 0 = spC σ 0 := spC_keep s0 rfl
  unfold P_X12_shave
  unfold shvW at k
  refine t_X12_isBall (m := m) (by rw [hE0.2.1]; exact hX0.2.2.1) (fun b0 b1 => ?_) (fun h => ?_)
  · rw [if_pos ⟨b0, b1⟩] at k
    rw [if_neg one_no]
    have hw := (hW.2.2.2.2.2.2.2 b b0 b1).1
    have ez := (hC0.2.2.2.2.2.2 b b0 b1).1
    have eh : (up σ 12 0 0 0) 1317 0 b = σ 906 0 b := by
      rw [(hE0.2.2.2.2.2.1 b b0 (by rw [hX0.2.2.1]; exact b1)).2.2, s0.row (t := 906) (i := 0) rfl]
    refine findF (F := fun n' i => P_X12_shave_L17 b Q n' i (up σ 12 0 0 0)) (N := 60) (K0 := Q (-1) (up σ 12 0 0 0)) (K := fun i => Q i (up σ 12 0 0 0)) (p := shvP (spC σ 0) (σ 906 0 b) (zSize z b) z) (fun n' i i0 i1 => ?_) (fun n' k => ?_) 60 0 FU (by decide) (by omega) (FU_pos (by omega)) ?_
    · have e1 : wi (zSize z b - i) = zSize z b - i := wi_id (by omega) (by omega)
      have e2 : wi (zSize z b + i) = zSize z b + i := wi_id (by omega) (by omega)
      have w16 : wi (16 + b) = 16 + b := wi_id (by omega) (by omega)
      have w1 : wi (i + 1) = i + 1 := wi_id (by omega) (by omega)
      have iff : shvP (spC σ 0) (σ 906 0 b) (zSize z b) z i = true ↔ ((1 ≤ zSize z b - i ∧ fllW (spC σ 0) z (zSize z b - i) = σ 906 0 b) ∨ (zSize z b + i ≤ 60 ∧ fllW (spC σ 0) z (zSize z b + i) = σ 906 0 b)) := by
        unfold shvP
        simp only [Bool.or_eq_true, Bool.and_eq_true, decide_eq_true_eq]
      -- behind the first half
      have J : ∀ (G : Prop), (zSize z b + i ≤ 60 ∧ fllW (spC σ 0) z (zSize z b + i) = σ 906 0 b → Q i (up σ 12 0 0 0)) → (¬ (zSize z b + i ≤ 60 ∧ fllW (spC σ 0) z (zSize z b + i) = σ 906 0 b) → P_X12_shave_L17 b Q n' (i + 1) (up σ 12 0 0 0)) → P_X12_shave_J66 b i (zSize z b + i) (P_X12_shave_L17 b Q n') Q (up σ 12 0 0 0) := by
        intro _ g1 g2
        unfold P_X12_shave_J66
        rw [w1]
        by_cases h : 60 < zSize z b + i
        · rw [if_pos h]
          exact g2 (fun q => by omega)
        · rw [if_neg h]
          refine t_fall12 hX0 hE0 hC0 ?_
          rw [es, eh]
          refine ⟨b0, by omega, ?_⟩
          split <;> rename_i h'
          · exact g1 ⟨by omega, h'⟩
          · exact g2 (fun q => h' q.2)
      refine ⟨fun hp k => ?_, fun hp k => ?_⟩
      · have hp := iff.mp hp
        unfold P_X12_shave_L17
        rw [if_neg (by omega), w16, ez, e1, e2]
        refine ⟨by omega, by omega, by omega, by omega, ?_⟩
        by_cases h : zSize z b - i ≤ 0
        · rw [if_pos h]
          exact J True (fun _ => k) (fun h2 => absurd hp (fun q => q.elim (fun a => by omega) h2))
        · rw [if_neg h]
          refine t_fall12 hX0 hE0 hC0 ?_
          rw [es, eh]
          refine ⟨b0, by omega, ?_⟩
          split <;> rename_i h'
          · exact k
          · exact J True (fun _ => k) (fun h2 => absurd hp (fun q => q.elim (fun a => h' a.2) h2))
      · have hp : ¬ ((1 ≤ zSize z b - i ∧ fllW (spC σ 0) z (zSize z b - i) = σ 906 0 b) ∨ (zSize z b + i ≤ 60 ∧ fllW (spC σ 0) z (zSize z b + i) = σ 906 0 b)) := fun q => by
          have := iff.mpr q
          rw [hp] at this
          cases this
        unfold P_X12_shave_L17
        rw [if_neg (by omega), w16, ez, e1, e2]
        refine ⟨by omega, by omega, by omega, by omega, ?_⟩
        by_cases h : zSize z b - i ≤ 0
        · rw [if_pos h]
          exact J True (fun q => absurd (Or.inr q) hp) (fun _ => k)
        · rw [if_neg h]
          refine t_fall12 hX0 hE0 hC0 ?_
          rw [es, eh]
          refine ⟨b0, by omega, ?_⟩
          rw [if_neg (fun q => hp (Or.inl ⟨by omega, q⟩))]
          exact J True (fun q => absurd (Or.inr q) hp) (fun _ => k)
    · unfold P_X12_shave_L17
      rw [if_pos (by decide)]
      exact k
    · split at k <;> rename_i h <;> rw [h] <;> exact k
  · rw [if_neg h] at k
    rw [if_pos rfl]
    exact k
end
