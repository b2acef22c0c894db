/-! 66: when one comes to rest (for last) -/
section
variable {n m dk : Int} {z : Ab}
theorem rest_stays {s : Sp} {b : Int} (hs : SpW n m dk s) (hW : WfZ n m dk z) (h : zHow z b = 0) : zHow (pasW s z) b = 0 := by
  rw [pasHow, if_neg, if_neg (by omega), if_neg (by omega)]
  · exact h
  · rintro ⟨h1, h2⟩
    have h3 := (hW.2.2.2.2.1 0 (Int.le_refl 0) (srvd_iff.mp h1).1).2
    rw [h2] at h
    omega
theorem rest_staysK {s : Sp} {b : Int} (hs : SpW n m dk s) : ∀ (k : Nat) {z : Ab}, WfZ n m dk z → zHow z b = 0 → zHow (pasK s k z) b = 0
  | 0, _, _, h => h
  | k + 1, _, hW, h => rest_staysK hs k (WfZ_pas hs hW) (rest_stays hs hW h)
/-- one comes to rest in a beat -/
theorem com_rest {s : Sp} {b : Int} (hs : SpW n m dk s) (hW : WfZ n m dk z) (h0 : zHow z b ≠ 0) : com z b = true ↔ zHow (pasW s z) b = 0 := by
  rw [com_iff, pasHow]
  by_cases h1 : srvd s.2.2.1 z = true ∧ b = zQ z 0
  · have h3 := (hW.2.2.2.2.1 0 (Int.le_refl 0) (srvd_iff.mp h1.1).1).2
    rw [if_pos h1]
    rw [← h1.2] at h3
    exact ⟨fun h => by omega, fun h => by omega⟩
  · rw [if_neg h1]
    by_cases h2 : zHow z b = 3 ∧ zLeft z b ≤ 1
    · rw [if_pos h2]
      exact ⟨fun _ => rfl, fun _ => h2⟩
    · rw [if_neg h2]
      refine ⟨fun h => absurd h h2, fun h => ?_⟩
      split at h
      · omega
      · exact absurd h h0
/-- after k beats b rests if and only if nOne is at most k -/
theorem tilN_iff {s : Sp} {b : Int} (hs : SpW n m dk s) (b0 : 0 ≤ b) (b1 : b < m) : ∀ (f : Nat) {z : Ab} (k : Nat), WfZ n m dk z → psi m z ≤ f → (tilN s (fun z => decide (zHow z b = 0)) f z ≤ k ↔ zHow (pasK s k z) b = 0)
  | 0, z, k, hW, hf => by
    have hz : zHow z b = 0 := Classical.byContradiction (fun h => by
      have h1 := psi_dec hs hW (fun hr => h (hr b b0 b1))
      have h2 := psi_rng hs.2.2.2.2.1.2 hs.2.2.2.2.2.1.2 (WfZ_pas hs hW)
      omega)
    exact ⟨fun _ => rest_staysK hs k hW hz, fun _ => Nat.zero_le _⟩
  | f + 1, z, k, hW, hf => by
    by_cases hz : zHow z b = 0
    · have e : tilN s (fun z => decide (zHow z b = 0)) (f + 1) z = 0 := by
        unfold tilN
        rw [if_pos (by simp [hz])]
      rw [e]
      exact ⟨fun _ => rest_staysK hs k hW hz, fun _ => Nat.zero_le _⟩
    · have e : tilN s (fun z => decide (zHow z b = 0)) (f + 1) z = tilN s (fun z => decide (zHow z b = 0)) f (pasW s z) + 1 := by
        conv => lhs; unfold tilN
        rw [if_neg (by simp [hz])]
      rw [e]
      have hd := psi_dec hs hW (fun hr => hz (hr b b0 b1))
      cases k with
      | zero => exact ⟨fun h => by omega, fun h => absurd h hz⟩
      | succ k =>
        have ih := tilN_iff hs b0 b1 f (z := pasW s z) k (WfZ_pas hs hW) (by omega)
        exact ⟨fun h => ih.mp (by omega), fun h => by have := ih.mpr h; omega⟩
end
