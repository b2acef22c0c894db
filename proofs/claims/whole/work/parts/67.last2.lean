/-! 67: last, the class's -/
section
variable {n m dk : Int} {z : Ab} {σ : St} {Q : Int → St → Prop}
/-- the first of the latest among the first i, and when -/
def lstW (s : Sp) (z : Ab) : Nat → Int × Int
  | 0 => (-1, 0)
  | i + 1 => if (nOne s i z : Int) ≤ (lstW s z i).2 then lstW s z i else (i, nOne s i z)
theorem lstW_i {s : Sp} {i : Int} (h : 0 ≤ i) : lstW s z (i + 1).toNat = if (nOne s i z : Int) ≤ (lstW s z i.toNat).2 then lstW s z i.toNat else (i, nOne s i z) := by
  have e : (i + 1).toNat = i.toNat + 1 := by omega
  have e2 : ((i.toNat : Nat) : Int) = i := Int.toNat_of_nonneg h
  rw [e]
  show (if (nOne s (i.toNat : Nat) z : Int) ≤ _ then _ else (((i.toNat : Nat) : Int), (nOne s (i.toNat : Nat) z : Int))) = _
  rw [e2]
theorem t_X11_last (hX : Cxt n m dk σ) (hW : WfZ n m dk z) (hC : StC n m σ 0 z) (k : ∀ σ', Sm qcA σ σ' → Q (lstW (spC σ 0) z m.toNat).1 σ') : P_X11_last σ Q := by
  have m6 := hX.spw.2.2.2.2.1
  unfold P_X11_last
  refine loopI (X := (Int × Int) × St) (F := fun n' i a => P_X11_last_L6 Q n' a.1.1 a.1.2 i a.2) (N := m) (fun i a => a.1 = lstW (spC σ 0) z i.toNat ∧ Sm qcA σ a.2) ?_ ?_ m.toNat 0 ((-1, 0), σ) FU (Int.le_refl 0) (by omega) (FU_pos (by omega)) ⟨rfl, Sm.rf⟩
  · rintro n' i ⟨a, τ⟩ i0 i1 ⟨ha, hs⟩ k'
    dsimp only at ha hs k' ⊢
    have hX1 := Cxt_keep hs rfl hX
    have es : spC τ 0 = spC σ 0 := spC_keep hs rfl
    unfold P_X11_last_L6
    rw [hX1.2.2.1, if_neg (by omega), wi_id (z := i + 1) (by omega) (by omega)]
    refine t_X9_take hX1.spw hW (StC_keep hs rfl hC) (fun υ su cu _ => ?_)
    have s2 : Sm qcA σ υ := hs.tr (mem_sub (A := tkA 1) (B := qcA) rfl su)
    have es2 : spC υ 0 = spC σ 0 := spC_keep s2 rfl
    refine t_X9_passTillRests (Cxt_keep s2 rfl hX) hW cu i0 i1 (fun ρ sr _ => ?_)
    rw [es2]
    have s3 : Sm qcA σ ρ := s2.tr (mem_sub (A := paA 1) (B := qcA) rfl sr)
    split <;> rename_i h
    · exact k' (a, ρ) ⟨by rw [lstW_i i0, ← ha, if_pos h], s3⟩
    · exact k' ((i, nOne (spC σ 0) i z), ρ) ⟨by rw [lstW_i i0, ← ha, if_neg h], s3⟩
  · rintro n' ⟨a, τ⟩ ⟨ha, hs⟩
    dsimp only at ha hs ⊢
    unfold P_X11_last_L6
    rw [(Cxt_keep hs rfl hX).2.2.1, if_pos (Int.le_refl m), ha]
    exact k τ hs
/-- what it is: the first of those that come to rest the latest; -1 if all rest -/
theorem lstW_is {s : Sp} : ∀ i : Nat, ((lstW s z i) = (-1, 0) ∧ ∀ b : Int, 0 ≤ b → b < i → nOne s b z = 0) ∨
    (0 ≤ (lstW s z i).1 ∧ (lstW s z i).1 < i ∧ 0 < (lstW s z i).2 ∧ (lstW s z i).2 = nOne s (lstW s z i).1 z ∧ (∀ b : Int, 0 ≤ b → b < i → (nOne s b z : Int) ≤ (lstW s z i).2) ∧ ∀ b : Int, 0 ≤ b → b < (lstW s z i).1 → (nOne s b z : Int) < (lstW s z i).2)
  | 0 => Or.inl ⟨rfl, fun b b0 b1 => by omega⟩
  | i + 1 => by
    have ih := lstW_is (s := s) i
    have hs : lstW s z (i + 1) = if (nOne s i z : Int) ≤ (lstW s z i).2 then lstW s z i else ((i : Int), (nOne s i z : Int)) := rfl
    by_cases h : (nOne s i z : Int) ≤ (lstW s z i).2
    · rw [if_pos h] at hs
      rw [hs]
      rcases ih with ⟨e, h1⟩ | ⟨a1, a2, a3, a4, a5, a6⟩
      · refine Or.inl ⟨e, fun b b0 b1 => ?_⟩
        by_cases eb : b = i
        · rw [e] at h
          rw [eb]
          dsimp only at h
          omega
        · exact h1 b b0 (by omega)
      · refine Or.inr ⟨a1, by omega, a3, a4, fun b b0 b1 => ?_, a6⟩
        by_cases eb : b = i
        · rw [eb]; exact h
        · exact a5 b b0 (by omega)
    · rw [if_neg h] at hs
      rw [hs]
      have hall : ∀ b : Int, 0 ≤ b → b < i → (nOne s b z : Int) ≤ (lstW s z i).2 := by
        rcases ih with ⟨e, h1⟩ | ⟨a1, a2, a3, a4, a5, a6⟩
        · intro b b0 b1
          rw [h1 b b0 b1, e]
          exact Int.le_refl 0
        · exact a5
      have h0 : 0 ≤ (lstW s z i).2 := by
        rcases ih with ⟨e, h1⟩ | ⟨a1, a2, a3, a4, a5, a6⟩
        · rw [e]
          exact Int.le_refl 0
        · omega
      refine Or.inr ⟨by dsimp only; omega, by dsimp only; omega, by dsimp only; omega, rfl, fun b b0 b1 => ?_, fun b b0 b1 => ?_⟩
      · dsimp only
        by_cases eb : b = i
        · rw [eb]; exact Int.le_refl _
        · have := hall b b0 (by omega)
          omega
      · dsimp only at b1 ⊢
        have := hall b b0 b1
        omega
end
