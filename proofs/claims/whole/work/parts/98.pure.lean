theorem law_pure : ∀ sd : Nat → Nat, sd 1 ≤ 3584 → LawP sd := by sorry
