/-! 62: count -/
section
variable {n m dk : Int} {z : Ab} {σ : St} {Q : Int → St → Prop}
def astP (hm : Int → Int) (z : Ab) (b : Int) : Bool := decide (zHow z b = 0) && decide (zAt z b ≠ hm b)
theorem t_X9_astray {o : Nat} {hm : Int → Int} (hX : Cxt n m dk σ) (hh : ∀ b : Int, 0 ≤ b → b < m → σ 906 0 b = hm b) (hC : StC n m σ o z) (k : Q (bts (astP hm z) m.toNat) σ) : P_X9_astray o σ Q := by
  have m6 := hX.spw.2.2.2.2.1
  unfold P_X9_astray
  refine loopI (X := Int) (F := fun n i a => P_X9_astray_L4 o Q n a i σ) (N := m) (fun i a => a = bts (astP hm z) i.toNat) ?_ ?_ m.toNat 0 0 FU (Int.le_refl 0) (by omega) (FU_pos (by omega)) rfl
  · rintro n' i a i0 i1 ha k'
    obtain ⟨d2, d4, d3, d5, d6⟩ := hC.2.2.2.2.2.2 i i0 i1
    unfold P_X9_astray_L4
    rw [hX.2.2.1, if_neg (by omega), d4, d3, hh i i0 i1, wi_id (z := i + 1) (by omega) (by omega)]
    refine ⟨i0, by omega, ?_⟩
    by_cases h : zHow z i = 0
    · rw [if_pos h]
      refine ⟨i0, by omega, i0, by omega, ?_⟩
      by_cases h' : zAt z i = hm i
      · rw [if_pos h']
        exact k' _ (by rw [bts_i i0, ha]; unfold astP; rw [decide_eq_false (p := zAt z i ≠ hm i) (fun q => q h'), Bool.and_false, if_neg (by decide)])
      · rw [if_neg h']
        exact k' _ (by rw [bts_i i0, ha]; unfold astP; rw [decide_eq_true h, decide_eq_true h', Bool.true_and, if_pos rfl])
    · rw [if_neg h]
      exact k' _ (by rw [bts_i i0, ha]; unfold astP; rw [decide_eq_false h, Bool.false_and, if_neg (by decide)])
  · rintro n' a ha
    unfold P_X9_astray_L4
    rw [hX.2.2.1, if_pos (Int.le_refl m), ha]
    exact k
theorem t_X12_astrayNow {hm : Int → Int} (hX : Cxt n m dk σ) (hE : ShE σ) (hh : ∀ b : Int, 0 ≤ b → b < m → σ 906 0 b = hm b) (hC : StA n m (σ 1346 0) z) (k : Q (bts (astP hm z) m.toNat) σ) : P_X12_astrayNow σ Q := by
  have m6 := hX.spw.2.2.2.2.1
  have em : σ 1310 0 1 = m := by rw [hE.2.1]; exact hX.2.2.1
  unfold P_X12_astrayNow
  refine loopI (X := Int) (F := fun n i a => P_X12_astrayNow_L4 (fun x1_1 σ_2 => P_X12_astrayOf x1_1 σ_2 (fun r_4 σ_3 => Q r_4 σ_3)) Q n a i σ) (N := m) (fun i a => a = bts (fun b => decide (zHow z b = 0)) i.toNat) ?_ ?_ m.toNat 0 0 FU (Int.le_refl 0) (by omega) (FU_pos (by omega)) rfl
  · rintro n' i a i0 i1 ha k'
    have z0 : ∀ q : Int → Bool, bO (bts q i.toNat) 0 = bts q i.toNat := fun q => bO_zero (bts_i32 _ _).1 (bts_i32 _ _).2
    obtain ⟨d2, d4, d3, d5, d6⟩ := hC.2.2.2.2.2.2 i i0 i1
    unfold P_X12_astrayNow_L4
    rw [em, if_neg (by omega), wi_id (z := 22 + i) (by omega) (by omega), d4, wi_id (z := i + 1) (by omega) (by omega)]
    refine ⟨by omega, by omega, ?_⟩
    by_cases h : zHow z i = 0
    · rw [if_pos h]
      exact k' _ (by rw [bts_i i0, ha, decide_eq_true h, if_pos rfl])
    · rw [if_neg h]
      exact k' _ (by rw [bts_i i0, ha, z0, decide_eq_false h, if_neg (by decide)])
  · rintro n' a ha
    unfold P_X12_astrayNow_L4
    rw [em, if_pos (Int.le_refl m), ha]
    refine t_X12_astrayOf (z := z) (hm := hm) em m6.1 m6.2 (fun b b0 b1 => ⟨(hC.2.2.2.2.2.2 b b0 b1).2.2.1, ?_⟩) k
    rw [(hE.2.2.2.2.2.1 b b0 (by rw [hX.2.2.1]; exact b1)).2.2]
    exact hh b b0 b1
def cntW (n m dk : Int) (dm : Int → Int) (hm : Int → Int) (z : Ab) (l s c t x : Int) : Int :=
  if x = 0 then n else if x = 1 then m else if x = 2 then zDay z else if x = 3 then zBeat z else if x = 4 then dm (zDay z) else if x = 5 then zMany z else if x = 6 then bts (fun b => decide (zHow z b = 1)) m.toNat else
  if x = 7 then bts (fun b => decide (zHow z b = 3)) m.toNat else if x = 8 then bts (astP hm z) m.toNat else if x = 9 then dk else if x = 10 then l else if x = 11 then s else if x = 12 then c else if x = 13 then t else -1
theorem t_X11_count {l s c t x : Int} (hX : Cxt n m dk σ) (hW : WfZ n m dk z) (hC : StC n m σ 0 z) (hl : σ 3 0 3 = l) (hs : σ 7 0 3 = s) (hc : σ 5 0 1 = c) (ht : σ 10 0 4 = t)
    (k : Q (cntW n m dk (dmpW (σ 8 0 12) (σ 908 0)) (σ 906 0) z l s c t x) σ) : P_X11_count x σ Q := by
  have m6 := hX.spw.2.2.2.2.1
  have hH : ∀ b : Int, 0 ≤ b → b < m → σ 1004 0 b = zHow z b := fun b b0 b1 => (hC.2.2.2.2.2.2 b b0 b1).2.1
  obtain ⟨hS, hn, hm, hdk⟩ := hX
  unfold P_X11_count
  rw [hn, hm, hdk, hl, hs, hc, ht, hC.1, hC.2.1, hC.2.2.2.1]
  unfold cntW at k
  by_cases h0 : x = 0
  · rw [if_pos h0] at k ⊢; exact k
  rw [if_neg h0] at k ⊢
  by_cases h1 : x = 1
  · rw [if_pos h1] at k ⊢; exact k
  rw [if_neg h1] at k ⊢
  by_cases h2 : x = 2
  · rw [if_pos h2] at k ⊢; exact k
  rw [if_neg h2] at k ⊢
  by_cases h3 : x = 3
  · rw [if_pos h3] at k ⊢; exact k
  rw [if_neg h3] at k ⊢
  by_cases h4 : x = 4
  · rw [if_pos h4] at k ⊢; exact t_X8_dampOn hS hW.1.1 k
  rw [if_neg h4] at k ⊢
  by_cases h5 : x = 5
  · rw [if_pos h5] at k ⊢; exact k
  rw [if_neg h5] at k ⊢
  by_cases h6 : x = 6
  · rw [if_pos h6] at k ⊢; exact t_X9_inPhase (z := z) hm m6.1 m6.2 hH k
  rw [if_neg h6] at k ⊢
  by_cases h7 : x = 7
  · rw [if_pos h7] at k ⊢; exact t_X9_inPhase (z := z) hm m6.1 m6.2 hH k
  rw [if_neg h7] at k ⊢
  by_cases h8 : x = 8
  · rw [if_pos h8] at k ⊢; exact t_X9_astray (hm := σ 906 0) ⟨hS, hn, hm, hdk⟩ (fun _ _ _ => rfl) hC k
  rw [if_neg h8] at k ⊢
  by_cases h9 : x = 9
  · rw [if_pos h9] at k ⊢; exact k
  rw [if_neg h9] at k ⊢
  by_cases h10 : x = 10
  · rw [if_pos h10] at k ⊢; exact k
  rw [if_neg h10] at k ⊢
  by_cases h11 : x = 11
  · rw [if_pos h11] at k ⊢; exact k
  rw [if_neg h11] at k ⊢
  by_cases h12 : x = 12
  · rw [if_pos h12] at k ⊢; exact k
  rw [if_neg h12] at k ⊢
  by_cases h13 : x = 13
  · rw [if_pos h13] at k ⊢; exact k
  rw [if_neg h13] at k ⊢
  exact k
theorem t_X12_count {l s c t x : Int} (hX : Cxt n m dk σ) (hE : ShE σ) (hW : WfZ n m dk z) (hC : StA n m (σ 1346 0) z) (hl : σ 1338 0 0 = l) (hs : σ 1342 0 0 = s) (hc : σ 12 0 52 = c) (ht : σ 12 0 1 = t)
    (k : ∀ σ', Sm q0A σ σ' → Q (cntW n m dk (dmpW (σ 8 0 12) (σ 908 0)) (σ 906 0) z l s c t x) σ') : P_X12_count x σ Q := by
  have m6 := hX.spw.2.2.2.2.1
  obtain ⟨hX0, hE0, hC0, s0⟩ := look0 hX hE hC
  have k := k _ s0
  have hl0 : (up σ 12 0 0 0) 1338 0 0 = l := by rw [up_nt rfl]; exact hl
  have hs0 : (up σ 12 0 0 0) 1342 0 0 = s := by rw [up_nt rfl]; exact hs
  have hc0 : (up σ 12 0 0 0) 12 0 52 = c := by rw [up_nx (by decide)]; exact hc
  have ht0 : (up σ 12 0 0 0) 12 0 1 = t := by rw [up_nx (by decide)]; exact ht
  have h906 : ∀ b : Int, 0 ≤ b → b < m → (up σ 12 0 0 0) 906 0 b = σ 906 0 b := fun b _ _ => by rw [up_nt rfl]
  have e8 : (up σ 12 0 0 0) 8 0 = σ 8 0 := s0.row rfl
  have e908 : (up σ 12 0 0 0) 908 0 = σ 908 0 := s0.row rfl
  unfold P_X12_count P_X12_count_J105
  generalize up σ 12 0 0 0 = τ at k hX0 hE0 hC0 hl0 hs0 hc0 ht0 h906 e8 e908 ⊢
  have hH : ∀ b : Int, 0 ≤ b → b < m → τ 1346 0 (22 + b) = zHow z b := fun b b0 b1 => (hC0.2.2.2.2.2.2 b b0 b1).2.1
  have em : τ 1310 0 1 = m := by rw [hE0.2.1]; exact hX0.2.2.1
  unfold cntW at k
  refine t_X12_within (fun p q => ?_) (fun h => ?_)
  · rw [if_neg one_no, hl0, hs0, hc0, ht0, hC0.1, hC0.2.1, hC0.2.2.2.1, hE0.2.2.1, hX0.2.2.2]
    by_cases h2 : 2 ≤ x
    · rw [if_pos h2]
      rw [if_neg (by omega), if_neg (by omega)] at k
      by_cases h5 : 5 ≤ x
      · rw [if_pos h5]
        rw [if_neg (by omega), if_neg (by omega), if_neg (by omega)] at k
        by_cases h8 : 8 ≤ x
        · rw [if_pos h8]
          rw [if_neg (by omega), if_neg (by omega), if_neg (by omega)] at k
          by_cases h10 : 10 ≤ x
          · rw [if_pos h10]
            rw [if_neg (by omega), if_neg (by omega)] at k
            by_cases h12 : 12 ≤ x
            · rw [if_pos h12]
              rw [if_neg (by omega), if_neg (by omega)] at k
              split <;> rename_i h
              · rwa [if_pos h] at k
              · rwa [if_neg h, if_pos (by omega)] at k
            · rw [if_neg h12]
              split <;> rename_i h
              · rwa [if_pos h] at k
              · rwa [if_neg h, if_pos (by omega)] at k
          · rw [if_neg h10]
            split <;> rename_i h
            · rw [if_pos h] at k
              exact t_X12_astrayNow hX0 hE0 h906 hC0 k
            · rwa [if_neg h, if_pos (by omega)] at k
        · rw [if_neg h8]
          split <;> rename_i h
          · rwa [if_pos h] at k
          · rw [if_neg h] at k
            split <;> rename_i h'
            · rw [if_pos h'] at k
              exact t_X12_areSo em m6.1 m6.2 hH k
            · rw [if_neg h', if_pos (by omega)] at k
              exact t_X12_areSo em m6.1 m6.2 hH k
      · rw [if_neg h5]
        split <;> rename_i h
        · rwa [if_pos h] at k
        · rw [if_neg h] at k
          split <;> rename_i h'
          · rwa [if_pos h'] at k
          · rw [if_neg h', if_pos (by omega)] at k
            refine t_X12_dampOf hX0.1 hE0 hW.1.1 ?_
            rw [e8, e908]
            exact k
    · rw [if_neg h2]
      refine ⟨by omega, by omega, ?_⟩
      by_cases h0 : x = 0
      · rw [if_pos h0] at k
        rw [h0, hE0.1, hX0.2.1]
        exact k
      · rw [if_neg h0, if_pos (by omega)] at k
        rw [show x = 1 by omega, em]
        exact k
  · rw [if_pos rfl]
    rw [if_neg (by omega), if_neg (by omega), if_neg (by omega), if_neg (by omega), if_neg (by omega), if_neg (by omega), if_neg (by omega), if_neg (by omega), if_neg (by omega), if_neg (by omega), if_neg (by omega), if_neg (by omega), if_neg (by omega), if_neg (by omega)] at k
    exact k
end
