/-! 68: last, the reference's -/
def lowW (p : Int → Bool) : Nat → Int → Int
  | 0, x => x
  | i + 1, x => lowW p i (if p i then i else x)
theorem lowW_is {p : Int → Bool} : ∀ (i : Nat) (x : Int), (lowW p i x = x ∧ ∀ b : Int, 0 ≤ b → b < i → p b = false) ∨ (0 ≤ lowW p i x ∧ lowW p i x < i ∧ p (lowW p i x) = true ∧ ∀ b : Int, 0 ≤ b → b < lowW p i x → p b = false)
  | 0, x => Or.inl ⟨rfl, fun b b0 b1 => by omega⟩
  | i + 1, x => by
    have e : lowW p (i + 1) x = lowW p i (if p i then i else x) := rfl
    rw [e]
    rcases lowW_is (p := p) i (if p i then i else x) with ⟨h1, h2⟩ | ⟨h1, h2, h3, h4⟩
    · rw [h1]
      cases hp : p i
      · refine Or.inl ⟨if_neg (by decide), fun b b0 b1 => ?_⟩
        by_cases eb : b = i
        · rw [eb]; exact hp
        · exact h2 b b0 (by omega)
      · refine Or.inr ?_
        rw [if_pos rfl]
        exact ⟨by omega, by omega, hp, fun b b0 b1 => h2 b b0 b1⟩
    · exact Or.inr ⟨h1, by omega, h3, h4⟩
section
variable {n m dk : Int} {z : Ab} {σ : St} {Q : Int → St → Prop}
theorem t_L34 {p : Int → Bool} {K : Int → St → Prop} (h0 : 0 ≤ m) (h6 : m ≤ 6) : ∀ (i fuel : Nat) (x : Int), i ≤ 6 → i < fuel → K (lowW (fun b => decide (b < m) && p b) i x) σ → P_X12_last_L34 (bts p m.toNat) K Q fuel x ((i : Int) - 1) σ
  | 0, fuel, x, hi, hf, k => by
    obtain ⟨q, rfl, -⟩ := fu_ex hf
    unfold P_X12_last_L34
    rw [if_pos (by omega)]
    exact k
  | i + 1, fuel, x, hi, hf, k => by
    obtain ⟨q, rfl, hq⟩ := fu_ex hf
    have e : (((i + 1 : Nat) : Int) - 1) = i := by omega
    rw [e]
    unfold P_X12_last_L34
    rw [if_neg (by omega), show (i : Int) + -1 = (i : Int) - 1 by omega, wi_id (z := (i : Int) - 1) (by omega) (by omega)]
    have k : K (lowW (fun b => decide (b < m) && p b) i (if (decide ((i : Int) < m) && p i) = true then i else x)) σ := k
    by_cases hm : (i : Int) < m
    · rw [bts_bit h6 (by omega) hm]
      rw [decide_eq_true hm, Bool.true_and] at k
      cases hp : p i
      · rw [if_neg (c := (if false = true then (1 : Int) else 0) = 1) (by decide)]
        rw [hp, if_neg (c := false = true) (by decide)] at k
        exact t_L34 h0 h6 i q x (by omega) hq k
      · rw [if_pos rfl, if_pos rfl]
        rw [hp, if_pos rfl] at k
        exact t_L34 h0 h6 i q i (by omega) hq k
    · rw [bts_bit0 h0 h6 (by omega) (by omega), if_neg (by decide)]
      rw [decide_eq_false hm, Bool.false_and, if_neg (by decide)] at k
      exact t_L34 h0 h6 i q x (by omega) hq k
/-- x is the first of the latest of those at rest after k beats -/
def LSt (s : Sp) (m : Int) (z : Ab) (k : Nat) (x : Int) : Prop := (x = -1 ∧ ∀ b : Int, 0 ≤ b → b < m → nOne s b z = 0 ∨ k < nOne s b z) ∨
  (0 ≤ x ∧ x < m ∧ 1 ≤ nOne s x z ∧ nOne s x z ≤ k ∧ (∀ b : Int, 0 ≤ b → b < m → nOne s b z ≤ k → nOne s b z ≤ nOne s x z) ∧ ∀ b : Int, 0 ≤ b → b < x → nOne s b z ≠ nOne s x z)
theorem LSt_end {s : Sp} {k : Nat} {x : Int} (h0 : 0 ≤ m) (h : LSt s m z k x) (hk : ∀ b : Int, 0 ≤ b → b < m → nOne s b z ≤ k) : x = (lstW s z m.toNat).1 := by
  rcases lstW_is (s := s) (z := z) m.toNat with ⟨e, h1⟩ | ⟨a1, a2, a3, a4, a5, a6⟩
  · rcases h with ⟨hx, -⟩ | ⟨x0, x1, x2, -⟩
    · rw [e, hx]
    · have := h1 x x0 (by omega)
      omega
  · rcases h with ⟨hx, h1⟩ | ⟨x0, x1, x2, x3, x4, x5⟩
    · have h2 := h1 _ a1 (by omega)
      have h3 := hk _ a1 (by omega)
      omega
    · have h2 := a5 x x0 (by omega)
      have h3 := x4 _ a1 (by omega) (hk _ a1 (by omega))
      rcases Int.lt_trichotomy x (lstW s z m.toNat).1 with q | q | q
      · have := a6 x x0 q
        omega
      · exact q
      · exact absurd (by omega) (x5 _ a1 q)
theorem LSt_step {s : Sp} {k : Nat} {x : Int} {p : Int → Bool} (hp : ∀ b : Int, 0 ≤ b → b < m → (p b = true ↔ nOne s b z = k + 1)) (hm0 : 0 ≤ m) (h6 : m ≤ 6) (h : LSt s m z k x) : LSt s m z (k + 1) (lowW (fun b => decide (b < m) && p b) 6 x) := by
  have hx : x = -1 ∨ (0 ≤ x ∧ x < m) := by
    rcases h with ⟨h, -⟩ | ⟨h1, h2, -⟩
    · exact Or.inl h
    · exact Or.inr ⟨h1, h2⟩
  rcases lowW_is (p := fun b => decide (b < m) && p b) 6 x with ⟨h1, h2⟩ | ⟨h1, h2, h3, h4⟩
  · rw [h1]
    have hno : ∀ b : Int, 0 ≤ b → b < m → nOne s b z ≠ k + 1 := fun b b0 b1 e => by
      have h3 := h2 b b0 (by omega)
      rw [(hp b b0 b1).mpr e, decide_eq_true b1] at h3
      cases h3
    rcases h with ⟨hx, g1⟩ | ⟨x0, x1, x2, x3, x4, x5⟩
    · refine Or.inl ⟨hx, fun b b0 b1 => ?_⟩
      have := g1 b b0 b1
      have := hno b b0 b1
      omega
    · refine Or.inr ⟨x0, x1, x2, by omega, fun b b0 b1 hb => ?_, x5⟩
      have := hno b b0 b1
      exact x4 b b0 b1 (by omega)
  · generalize lowW (fun b => decide (b < m) && p b) 6 x = y at h1 h2 h3 h4
    simp only [Bool.and_eq_true, decide_eq_true_eq] at h3
    have hy := (hp y h1 h3.1).mp h3.2
    refine Or.inr ⟨h1, h3.1, by omega, by omega, fun b b0 b1 hb => by omega, fun b b0 b1 e => ?_⟩
    have h5 := h4 b b0 b1
    rw [hy] at e
    rw [(hp b b0 (by omega)).mpr e, decide_eq_true (show b < m by omega)] at h5
    cases h5
end
