/-! 46: rows of bits as numbers -/
theorem bO_pow : ∀ i : Fin 6, ∀ x : Fin 32, x.val < 2 ^ i.val → bO (x.val : Int) (bL 1 (i.val : Int)) = ((x.val + 2 ^ i.val : Nat) : Int) := by decide +kernel
theorem mask_pow : ∀ i : Fin 7, wi (bL 1 (i.val : Int) - 1) = ((2 ^ i.val : Nat) : Int) - 1 := by decide +kernel
theorem bit_pow : ∀ x : Fin 64, ∀ i : Fin 6, bA (bR (x.val : Int) (i.val : Int)) 1 = if x.val.testBit i.val then 1 else 0 := by decide +kernel
def nbt (p : Int → Bool) : Nat → Nat
  | 0 => 0
  | i + 1 => nbt p i + (if p i then 2 ^ i else 0)
theorem nbt_lt (p : Int → Bool) : ∀ i : Nat, nbt p i < 2 ^ i
  | 0 => Nat.zero_lt_one
  | i + 1 => by
    have := nbt_lt p i
    show nbt p i + (if p i then 2 ^ i else 0) < 2 ^ (i + 1)
    rw [Nat.pow_succ]
    split <;> omega
theorem bts_nbt (p : Int → Bool) : ∀ i : Nat, i ≤ 6 → bts p i = nbt p i
  | 0, _ => rfl
  | i + 1, h => by
    have h1 := bts_nbt p i (by omega)
    have h2 := nbt_lt p i
    have h3 : 2 ^ i ≤ 2 ^ 5 := Nat.pow_le_pow_right (by decide) (by omega)
    show (if p i then bO (bts p i) (bL 1 i) else bts p i) = ((nbt p i + (if p i then 2 ^ i else 0) : Nat) : Int)
    split
    · rw [h1]
      have := bO_pow ⟨i, by omega⟩ ⟨nbt p i, by omega⟩ h2
      exact this
    · rw [h1, Nat.add_zero]
theorem nbt_all {p : Int → Bool} : ∀ {m : Nat}, nbt p m = 2 ^ m - 1 ↔ ∀ b : Int, 0 ≤ b → b < m → p b = true
  | 0 => ⟨fun _ b b0 b1 => by omega, fun _ => rfl⟩
  | m + 1 => by
    have h1 := nbt_lt p m
    have ih := @nbt_all p m
    have hs : nbt p (m + 1) = nbt p m + (if p m then 2 ^ m else 0) := rfl
    rw [hs, Nat.pow_succ]
    refine ⟨fun h b b0 b1 => ?_, fun h => ?_⟩
    · by_cases hp : p m = true
      · rw [if_pos hp] at h
        by_cases e : b = m
        · rw [e]; exact hp
        · exact ih.mp (by omega) b b0 (by omega)
      · rw [if_neg hp] at h
        omega
    · rw [if_pos (h m (by omega) (by omega)), ih.mpr (fun b b0 b1 => h b b0 (by omega))]
      omega
theorem bts_all {p : Int → Bool} {m : Int} (h0 : 0 ≤ m) (h6 : m ≤ 6) : bts p m.toNat = wi (bL 1 m - 1) ↔ ∀ b : Int, 0 ≤ b → b < m → p b = true := by
  have e : ((m.toNat : Nat) : Int) = m := Int.toNat_of_nonneg h0
  have h1 := mask_pow ⟨m.toNat, by omega⟩
  dsimp only at h1
  rw [e] at h1
  rw [h1, bts_nbt p _ (by omega)]
  have h2 := @nbt_all p m.toNat
  rw [e] at h2
  rw [← h2]
  have h3 : 0 < 2 ^ m.toNat := Nat.pow_pos (by decide)
  omega
theorem nbt_bit {p : Int → Bool} : ∀ {m : Nat} {b : Nat}, b < m → (nbt p m).testBit b = p b
  | m + 1, b, h => by
    have h1 := nbt_lt p m
    have hs : nbt p (m + 1) = (if p m then 2 ^ m else 0) + nbt p m := Nat.add_comm _ _
    rw [hs]
    by_cases e : b = m
    · subst e
      split
      · rename_i hp
        rw [Nat.testBit_two_pow_add_eq, Nat.testBit_lt_two_pow h1, hp]
        rfl
      · rename_i hp
        rw [Nat.zero_add, Nat.testBit_lt_two_pow h1]
        simpa using hp
    · split
      · rw [Nat.testBit_two_pow_add_gt (by omega)]
        exact nbt_bit (by omega)
      · rw [Nat.zero_add]
        exact nbt_bit (by omega)
theorem bts_bit {p : Int → Bool} {m b : Int} (h6 : m ≤ 6) (b0 : 0 ≤ b) (b1 : b < m) : bA (bR (bts p m.toNat) b) 1 = if p b then 1 else 0 := by
  have e : ((b.toNat : Nat) : Int) = b := Int.toNat_of_nonneg b0
  have h1 := nbt_lt p m.toNat
  have h2 : 2 ^ m.toNat ≤ 2 ^ 6 := Nat.pow_le_pow_right (by decide) (by omega)
  have h3 := bit_pow ⟨nbt p m.toNat, by omega⟩ ⟨b.toNat, by omega⟩
  dsimp only at h3
  rw [e] at h3
  rw [bts_nbt p _ (by omega), h3, nbt_bit (by omega), e]
theorem bts_congr' {p q : Int → Bool} {m : Int} (h : ∀ b : Int, 0 ≤ b → b < m → p b = q b) : bts p m.toNat = bts q m.toNat := bts_congr _ (fun b b0 b1 => h b b0 (by omega))
/-- the loops that gather bits -/
theorem t_X9_inPhase {m x1 : Int} {o : Nat} {z : Ab} {σ : St} {Q : Int → St → Prop} (hm : σ 8 0 11 = m) (h0 : 0 ≤ m) (h6 : m ≤ 6) (hH : ∀ b : Int, 0 ≤ b → b < m → σ 1004 o b = zHow z b)
    (k : Q (bts (fun b => decide (zHow z b = x1)) m.toNat) σ) : P_X9_inPhase o x1 σ Q := by
  unfold P_X9_inPhase
  refine loopI (X := Int) (F := fun n i x => P_X9_inPhase_L4 o x1 Q n x i σ) (N := m) (fun i x => x = bts (fun b => decide (zHow z b = x1)) i.toNat) ?_ ?_ m.toNat 0 0 FU (Int.le_refl 0) (by omega) (FU_pos (by omega)) rfl
  · rintro n i x i0 i1 hx k'
    unfold P_X9_inPhase_L4
    rw [hm, if_neg (by omega), hH i i0 i1, wi_id (z := i + 1) (by omega) (by omega)]
    refine ⟨i0, by omega, ?_⟩
    by_cases e : zHow z i = x1
    · rw [if_pos e]
      exact k' _ (by rw [bts_i i0, decide_eq_true e, if_pos rfl, hx])
    · rw [if_neg e]
      exact k' _ (by rw [bts_i i0, decide_eq_false e, if_neg (by decide), hx])
  · rintro n x hx
    unfold P_X9_inPhase_L4
    rw [hm, if_pos (Int.le_refl m), hx]
    exact k
theorem t_X12_areSo {m x1 : Int} {z : Ab} {σ : St} {Q : Int → St → Prop} (hm : σ 1310 0 1 = m) (h0 : 0 ≤ m) (h6 : m ≤ 6) (hH : ∀ b : Int, 0 ≤ b → b < m → σ 1346 0 (22 + b) = zHow z b)
    (k : Q (bts (fun b => decide (zHow z b = x1)) m.toNat) σ) : P_X12_areSo x1 σ Q := by
  unfold P_X12_areSo
  refine loopI (X := Int) (F := fun n i x => P_X12_areSo_L4 x1 Q n x i σ) (N := m) (fun i x => x = bts (fun b => decide (zHow z b = x1)) i.toNat) ?_ ?_ m.toNat 0 0 FU (Int.le_refl 0) (by omega) (FU_pos (by omega)) rfl
  · rintro n i x i0 i1 hx k'
    unfold P_X12_areSo_L4
    rw [hm, if_neg (by omega), wi_id (z := 22 + i) (by omega) (by omega), hH i i0 i1, wi_id (z := i + 1) (by omega) (by omega)]
    refine ⟨by omega, by omega, ?_⟩
    by_cases e : zHow z i = x1
    · rw [if_pos e]
      exact k' _ (by rw [bts_i i0, decide_eq_true e, if_pos rfl, hx])
    · rw [if_neg e]
      refine k' _ ?_
      rw [bts_i i0, decide_eq_false e, if_neg (by decide), hx]
      exact bO_zero (bts_i32 _ _).1 (bts_i32 _ _).2
  · rintro n x hx
    unfold P_X12_areSo_L4
    rw [hm, if_pos (Int.le_refl m), hx]
    exact k
theorem t_X12_doAllRest {m : Int} {z : Ab} {σ : St} {Q : Int → St → Prop} (hm : σ 1310 0 1 = m) (h0 : 0 ≤ m) (h6 : m ≤ 6) (hH : ∀ b : Int, 0 ≤ b → b < m → σ 1346 0 (22 + b) = zHow z b)
    (k1 : alR m z = true → Q 1 σ) (k0 : alR m z = false → Q 0 σ) : P_X12_doAllRest σ Q := by
  unfold P_X12_doAllRest
  refine findF (F := fun n i => P_X12_doAllRest_L2 Q n i σ) (N := m) (K0 := Q 1 σ) (K := fun _ => Q 0 σ) (p := fun b => decide (zHow z b ≠ 0)) (fun n i i0 i1 => ?_) (fun n k => ?_) m.toNat 0 FU (Int.le_refl 0) (by omega) (FU_pos (by omega)) ?_
  · have h22 : wi (22 + i) = 22 + i := wi_id (by omega) (by omega)
    refine ⟨fun hp k => ?_, fun hp k => ?_⟩
    · have hp := of_decide_eq_true hp
      unfold P_X12_doAllRest_L2
      rw [hm, if_neg (by omega), h22, hH i i0 i1, if_neg hp]
      exact ⟨by omega, by omega, k⟩
    · have hp : zHow z i = 0 := Classical.byContradiction (fun h => of_decide_eq_false hp h)
      unfold P_X12_doAllRest_L2
      rw [hm, if_neg (by omega), h22, hH i i0 i1, if_pos hp, wi_id (by omega) (by omega)]
      exact ⟨by omega, by omega, k⟩
  · unfold P_X12_doAllRest_L2
    rw [hm, if_pos (Int.le_refl m)]
    exact k
  · unfold alR at k1 k0
    cases h : fnd (fun b => decide (zHow z b ≠ 0)) m.toNat 0 with
    | none => rw [h] at k1; exact k1 rfl
    | some j => rw [h] at k0; exact k0 rfl
