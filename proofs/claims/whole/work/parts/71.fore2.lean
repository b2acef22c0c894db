/-! 71: bits met and left out; first, safe, wide of the class -/
theorem bA_pow : ∀ x : Fin 64, ∀ i : Fin 6, bA (x.val : Int) (bL 1 (i.val : Int)) = if x.val.testBit i.val then ((2 ^ i.val : Nat) : Int) else 0 := by decide +kernel
theorem bA_63 : ∀ x : Fin 64, bA (x.val : Int) 63 = x.val := by decide +kernel
theorem bA_bX : ∀ x : Fin 64, ∀ y : Fin 64, bA (x.val : Int) (bX (y.val : Int) (-1)) = ((x.val &&& (63 ^^^ y.val) : Nat) : Int) := by decide +kernel
theorem nbt_hi {p : Int → Bool} {m i : Nat} (h : m ≤ i) : (nbt p m).testBit i = false := by
  have h1 := nbt_lt p m
  have h2 : 2 ^ m ≤ 2 ^ i := Nat.pow_le_pow_right (by decide) h
  exact Nat.testBit_lt_two_pow (by omega)
theorem nbt_64 (p : Int → Bool) {m : Nat} (h : m ≤ 6) : nbt p m < 64 := by
  have h1 := nbt_lt p m
  have h2 : 2 ^ m ≤ 2 ^ 6 := Nat.pow_le_pow_right (by decide) h
  omega
theorem bts_no {p : Int → Bool} {m b : Int} (h6 : m ≤ 6) (b0 : 0 ≤ b) (b1 : b < m) : bA (bts p m.toNat) (bL 1 b) = 0 ↔ p b = false := by
  have e : ((b.toNat : Nat) : Int) = b := Int.toNat_of_nonneg b0
  have h3 := bA_pow ⟨nbt p m.toNat, nbt_64 p (by omega)⟩ ⟨b.toNat, by omega⟩
  dsimp only at h3
  rw [e] at h3
  rw [bts_nbt p _ (by omega), h3, nbt_bit (by omega), e]
  have h4 : 0 < 2 ^ b.toNat := Nat.pow_pos (by decide)
  cases p b
  · simp
  · simp only [if_true]
    refine ⟨fun h => ?_, fun h => by cases h⟩
    omega
theorem bts_63 {p : Int → Bool} {m : Int} (h6 : m ≤ 6) : bA (bts p m.toNat) 63 = bts p m.toNat := by
  rw [bts_nbt p _ (by omega)]
  exact bA_63 ⟨nbt p m.toNat, nbt_64 p (by omega)⟩
theorem bts_andn {p q : Int → Bool} {m : Int} (h6 : m ≤ 6) : bA (bts p m.toNat) (bX (bts q m.toNat) (-1)) = bts (fun b => p b && !q b) m.toNat := by
  rw [bts_nbt p _ (by omega), bts_nbt q _ (by omega), bts_nbt _ _ (by omega)]
  have h3 := bA_bX ⟨nbt p m.toNat, nbt_64 p (by omega)⟩ ⟨nbt q m.toNat, nbt_64 q (by omega)⟩
  dsimp only at h3
  rw [h3]
  congr 1
  apply Nat.eq_of_testBit_eq
  intro i
  rw [Nat.testBit_and, Nat.testBit_xor, show (63 : Nat) = 2 ^ 6 - 1 from rfl, Nat.testBit_two_pow_sub_one]
  by_cases h : i < m.toNat
  · rw [nbt_bit h, nbt_bit h, nbt_bit h, decide_eq_true (show i < 6 by omega)]
    cases p i <;> cases q i <;> rfl
  · rw [nbt_hi (by omega), nbt_hi (p := fun b => p b && !q b) (by omega)]
    rfl
theorem bts_mask {m : Int} (h0 : 0 ≤ m) (h6 : m ≤ 6) : wi (bL 1 m - 1) = bts (fun _ => true) m.toNat := ((bts_all h0 h6).mpr (fun _ _ _ => rfl)).symm
theorem bts_zero {p : Int → Bool} {m : Int} (h6 : m ≤ 6) : bts p m.toNat = 0 ↔ ∀ b : Int, 0 ≤ b → b < m → p b = false := by
  refine ⟨fun h b b0 b1 => ?_, fun h => ?_⟩
  · have := bts_bit (p := p) h6 b0 b1
    rw [h] at this
    have e : bA (bR 0 b) 1 = 0 := by
      have h1 := bit_pow ⟨0, by omega⟩ ⟨b.toNat, by omega⟩
      dsimp only at h1
      rw [show ((b.toNat : Nat) : Int) = b from Int.toNat_of_nonneg b0] at h1
      exact h1.trans (by rw [Nat.zero_testBit]; rfl)
    rw [e] at this
    cases hp : p b
    · rfl
    · rw [hp, if_pos rfl] at this
      cases this
  · rw [bts_congr' (q := fun _ => false) h]
    have : ∀ i : Nat, bts (fun _ => false) i = 0 := fun i => by
      induction i with
      | zero => rfl
      | succ i ih => exact ih
    exact this _
/-- who falls astray the soonest -/
def isFst (a : Int → Option Int) (m r : Int) : Prop := (r = -1 ∧ ∀ b : Int, 0 ≤ b → b < m → a b = none) ∨
  ((0 ≤ r ∧ r < m) ∧ ∃ d : Int, a r = some d ∧ (∀ b d' : Int, 0 ≤ b → b < m → a b = some d' → d ≤ d') ∧ ∀ b d' : Int, 0 ≤ b → b < r → a b = some d' → d < d')
theorem isFst_one {a : Int → Option Int} {m r r' : Int} (h : isFst a m r) (h' : isFst a m r') : r = r' := by
  rcases h with ⟨h1, h2⟩ | ⟨⟨h1, h2⟩, d, h3, h4, h5⟩ <;> rcases h' with ⟨g1, g2⟩ | ⟨⟨g1, g2⟩, e, g3, g4, g5⟩
  · omega
  · rw [h2 r' g1 g2] at g3; cases g3
  · rw [g2 r h1 h2] at h3; cases h3
  · have a1 := h4 r' e g1 g2 g3
    have a2 := g4 r d h1 h2 h3
    rcases Int.lt_trichotomy r r' with q | q | q
    · have := g5 r d h1 q h3; omega
    · exact q
    · have := h5 r' e g1 q g3; omega
section
variable {n m dk : Int} {z : Ab} {σ : St}
theorem asd_rng {s : Sp} {v : V4} {dm hm : Int → Int} {z : Ab} {b d : Int} (h : asd s v dm hm z b = some d) : 0 ≤ d ∧ d ≤ 60 := by
  obtain ⟨h1, h2, -, -⟩ := fnd_some h
  omega
theorem t_X11_first {v : V4} {Q : Int → St → Prop} (hX : Cxt n m dk σ) (hW : WfZ n m dk z) (hC : StC n m σ 0 z) (hL : LwC v σ 0) (hd : zDay z < 900000)
    (k : ∀ r σ', isFst (asd (spC σ 0) v (dmpW (σ 8 0 12) (σ 908 0)) (σ 906 0) z) m r → Sm qcB σ σ' → Q r σ') : P_X11_first σ Q := by
  have m6 := hX.spw.2.2.2.2.1
  unfold P_X11_first
  generalize ha : asd (spC σ 0) v (dmpW (σ 8 0 12) (σ 908 0)) (σ 906 0) z = a at k
  refine loopI (X := Int × Int × St) (F := fun n' i a => P_X11_first_L7 Q n' a.1 a.2.1 i a.2.2) (N := m) (fun i x => Sm foA σ x.2.2 ∧ ((x.2.1 = -1 ∧ x.1 = 61 ∧ ∀ b : Int, 0 ≤ b → b < i → a b = none) ∨
    ((0 ≤ x.2.1 ∧ x.2.1 < i) ∧ a x.2.1 = some x.1 ∧ (∀ b d' : Int, 0 ≤ b → b < i → a b = some d' → x.1 ≤ d') ∧ ∀ b d' : Int, 0 ≤ b → b < x.2.1 → a b = some d' → x.1 < d'))) ?_ ?_ m.toNat 0 (61, -1, σ) FU (Int.le_refl 0) (by omega) (FU_pos (by omega)) ⟨Sm.rf, Or.inl ⟨rfl, rfl, fun b b0 b1 => by omega⟩⟩
  · rintro n' i ⟨x1, x2, τ⟩ i0 i1 ⟨hs, hJ⟩ k'
    dsimp only at hs hJ k' ⊢
    have hX1 := Cxt_keep hs rfl hX
    have hC1 : StC n m τ 0 z := StC_keep hs rfl hC
    unfold P_X11_first_L7
    rw [hX1.2.2.1, if_neg (by omega)]
    refine t_X0_firstAstray hX1 hW hC1 (LwC_keep hs rfl hL) hd i0 i1 (fun υ su => ?_)
    rw [show spC τ 0 = spC σ 0 from spC_keep hs rfl, hs.row (t := 8) (i := 0) rfl, hs.row (t := 908) (i := 0) rfl, hs.row (t := 906) (i := 0) rfl, ha, wi_id (z := i + 1) (by omega) (by omega)]
    cases hai : a i with
    | none =>
      rw [if_pos (show oi none = -1 from rfl)]
      refine k' (x1, x2, υ) ⟨hs.tr su, ?_⟩
      rcases hJ with ⟨h1, h2, h3⟩ | ⟨⟨h1, h2⟩, h3, h4, h5⟩
      · refine Or.inl ⟨h1, h2, fun b b0 b1 => ?_⟩
        by_cases e : b = i
        · rw [e]; exact hai
        · exact h3 b b0 (by omega)
      · refine Or.inr ⟨⟨h1, by dsimp only; omega⟩, h3, fun b d' b0 b1 hb => ?_, h5⟩
        by_cases e : b = i
        · rw [e, hai] at hb; cases hb
        · exact h4 b d' b0 (by omega) hb
    | some d =>
      have hd := asd_rng (by rw [ha]; exact hai)
      rw [if_neg (show ¬ oi (some d) = -1 from fun h => by have h : d = -1 := h; omega)]
      show if x1 ≤ d then _ else _
      by_cases hx : x1 ≤ d
      · rw [if_pos hx]
        refine k' (x1, x2, υ) ⟨hs.tr su, ?_⟩
        rcases hJ with ⟨h1, h2, h3⟩ | ⟨⟨h1, h2⟩, h3, h4, h5⟩
        · omega
        · refine Or.inr ⟨⟨h1, by dsimp only; omega⟩, h3, fun b d' b0 b1 hb => ?_, h5⟩
          by_cases e : b = i
          · rw [e, hai] at hb; cases hb; exact hx
          · exact h4 b d' b0 (by omega) hb
      · rw [if_neg hx]
        refine k' (d, i, υ) ⟨hs.tr su, Or.inr ⟨⟨i0, by dsimp only; omega⟩, hai, fun b d' b0 b1 hb => ?_, fun b d' b0 b1 hb => ?_⟩⟩
        · dsimp only at b1 ⊢
          by_cases e : b = i
          · rw [e, hai] at hb; cases hb; exact Int.le_refl _
          · rcases hJ with ⟨h1, h2, h3⟩ | ⟨⟨h1, h2⟩, h3, h4, h5⟩
            · rw [h3 b b0 (by omega)] at hb; cases hb
            · have := h4 b d' b0 (by omega) hb; omega
        · dsimp only at b1 ⊢
          rcases hJ with ⟨h1, h2, h3⟩ | ⟨⟨h1, h2⟩, h3, h4, h5⟩
          · rw [h3 b b0 (by omega)] at hb; cases hb
          · have := h4 b d' b0 (by omega) hb; omega
  · rintro n' ⟨x1, x2, τ⟩ ⟨hs, hJ⟩
    dsimp only at hs hJ ⊢
    unfold P_X11_first_L7
    rw [(Cxt_keep hs rfl hX).2.2.1, if_pos (Int.le_refl m)]
    refine k x2 τ ?_ (mem_sub (A := foA) (B := qcB) rfl hs)
    rcases hJ with ⟨h1, h2, h3⟩ | ⟨h1, h3, h4, h5⟩
    · exact Or.inl ⟨h1, h3⟩
    · exact Or.inr ⟨h1, x1, h3, h4, h5⟩
def safP (a : Int → Option Int) (d b : Int) : Bool := match a b with
  | none => true
  | some e => decide (d < e)
def safW (a : Int → Option Int) (m d : Int) : Int := if 0 ≤ d ∧ d ≤ 60 then bts (safP a d) m.toNat else -1
theorem t_X11_safe {v : V4} {d : Int} {Q : Int → St → Prop} (hX : Cxt n m dk σ) (hW : WfZ n m dk z) (hC : StC n m σ 0 z) (hL : LwC v σ 0) (hd : zDay z < 900000)
    (k : ∀ σ', Sm qcB σ σ' → Q (safW (asd (spC σ 0) v (dmpW (σ 8 0 12) (σ 908 0)) (σ 906 0) z) m d) σ') : P_X11_safe d σ Q := by
  have m6 := hX.spw.2.2.2.2.1
  unfold P_X11_safe
  generalize ha : asd (spC σ 0) v (dmpW (σ 8 0 12) (σ 908 0)) (σ 906 0) z = a at k
  unfold safW at k
  refine t_X11_within (fun d0 d1 => ?_) (fun h => ?_)
  · rw [if_neg one_no]
    refine loopI (X := Int × St) (F := fun n' i a => P_X11_safe_L16 d Q n' a.1 i a.2) (N := m) (fun i x => Sm foA σ x.2 ∧ x.1 = bts (safP a d) i.toNat) ?_ ?_ m.toNat 0 (0, σ) FU (Int.le_refl 0) (by omega) (FU_pos (by omega)) ⟨Sm.rf, rfl⟩
    · rintro n' i ⟨x1, τ⟩ i0 i1 ⟨hs, hJ⟩ k'
      dsimp only at hs hJ k' ⊢
      have hX1 := Cxt_keep hs rfl hX
      have hC1 : StC n m τ 0 z := StC_keep hs rfl hC
      unfold P_X11_safe_L16 P_X11_safe_J49
      rw [hX1.2.2.1, if_neg (by omega)]
      refine t_X0_firstAstray hX1 hW hC1 (LwC_keep hs rfl hL) hd i0 i1 (fun υ su => ?_)
      rw [show spC τ 0 = spC σ 0 from spC_keep hs rfl, hs.row (t := 8) (i := 0) rfl, hs.row (t := 908) (i := 0) rfl, hs.row (t := 906) (i := 0) rfl, ha, wi_id (z := i + 1) (by omega) (by omega)]
      cases hai : a i with
      | none =>
        rw [if_pos (show oi none = -1 from rfl)]
        refine k' (bO x1 (bL 1 i), υ) ⟨hs.tr su, ?_⟩
        have : safP a d i = true := by unfold safP; rw [hai]
        dsimp only
        rw [bts_i i0, this, if_pos rfl, hJ]
      | some e =>
        have hd := asd_rng (by rw [ha]; exact hai)
        rw [if_neg (show ¬ oi (some e) = -1 from fun h => by have h : e = -1 := h; omega)]
        show if e ≤ d then _ else _
        by_cases hx : e ≤ d
        · rw [if_pos hx]
          refine k' (x1, υ) ⟨hs.tr su, ?_⟩
          dsimp only
          have : safP a d i = false := by unfold safP; rw [hai]; exact decide_eq_false (by omega)
          rw [bts_i i0, this, if_neg (by decide), hJ]
        · rw [if_neg hx]
          refine k' (bO x1 (bL 1 i), υ) ⟨hs.tr su, ?_⟩
          dsimp only
          have : safP a d i = true := by unfold safP; rw [hai]; exact decide_eq_true (by omega)
          rw [bts_i i0, this, if_pos rfl, hJ]
    · rintro n' ⟨x1, τ⟩ ⟨hs, hJ⟩
      dsimp only at hs hJ ⊢
      unfold P_X11_safe_L16
      rw [(Cxt_keep hs rfl hX).2.2.1, if_pos (Int.le_refl m), hJ]
      have k := k τ (mem_sub (A := foA) (B := qcB) rfl hs)
      rwa [if_pos ⟨d0, d1⟩] at k
  · have k := k σ Sm.rf
    rw [if_neg h] at k
    rw [if_pos rfl]
    exact k
def wdF (f : Int → Int) (i : Int) (a : Int × Int) : Int × Int := if f i ≤ a.1 then a else (f i, i)
def widW (f : Int → Int) (m d : Int) : Int := if 0 ≤ d ∧ d ≤ 60 then (itr (wdF f) m.toNat 0 (0, -1)).2 else -1
theorem t_X11_wide {v : V4} {d : Int} {Q : Int → St → Prop} (hX : Cxt n m dk σ) (hW : WfZ n m dk z) (hC : StC n m σ 0 z) (hL : LwC v σ 0) (hd : zDay z < 900000)
    (k : ∀ σ', Sm qcB σ σ' → Q (widW (fun b => fsz (spC σ 0) v (dmpW (σ 8 0 12) (σ 908 0)) z b d.toNat) m d) σ') : P_X11_wide d σ Q := by
  have m6 := hX.spw.2.2.2.2.1
  unfold P_X11_wide
  generalize hf : (fun b => fsz (spC σ 0) v (dmpW (σ 8 0 12) (σ 908 0)) z b d.toNat) = f at k
  unfold widW at k
  refine t_X11_within (fun d0 d1 => ?_) (fun h => ?_)
  · rw [if_neg one_no]
    refine loopI (X := Int × Int × St) (F := fun n' i a => P_X11_wide_L19 d Q n' a.1 a.2.1 i a.2.2) (N := m) (fun i x => Sm foA σ x.2.2 ∧ (x.1, x.2.1) = itr (wdF f) (i - 0).toNat 0 (0, -1)) ?_ ?_ m.toNat 0 (0, -1, σ) FU (Int.le_refl 0) (by omega) (FU_pos (by omega)) ⟨Sm.rf, rfl⟩
    · rintro n' i ⟨x1, x2, τ⟩ i0 i1 ⟨hs, hJ⟩ k'
      dsimp only at hs hJ k' ⊢
      rw [itr_i i0, ← hJ] at k'
      have hX1 := Cxt_keep hs rfl hX
      have hC1 : StC n m τ 0 z := StC_keep hs rfl hC
      unfold P_X11_wide_L19
      rw [hX1.2.2.1, if_neg (by omega)]
      refine t_X0_look hX1 hW hC1 (LwC_keep hs rfl hL) hd i0 i1 d0 d1 (fun υ su' r => ?_)
      have su := sm_look i0 (by omega) su'
      rw [show spC τ 0 = spC σ 0 from spC_keep hs rfl, hs.row (t := 8) (i := 0) rfl, hs.row (t := 908) (i := 0) rfl] at r
      have r := r d d0 (Int.le_refl d)
      rw [show fsz (spC σ 0) v (dmpW (σ 8 0 12) (σ 908 0)) z i d.toNat = f i from congrFun hf i] at r
      rw [r, wi_id (z := i + 1) (by omega) (by omega)]
      refine ⟨i0, by omega, d0, by omega, ?_⟩
      by_cases h : f i ≤ x1
      · rw [if_pos h]
        exact k' (x1, x2, υ) ⟨hs.tr su, by unfold wdF; rw [if_pos h]⟩
      · rw [if_neg h]
        exact k' (f i, i, υ) ⟨hs.tr su, by unfold wdF; rw [if_neg h]⟩
    · rintro n' ⟨x1, x2, τ⟩ ⟨hs, hJ⟩
      dsimp only at hs hJ ⊢
      unfold P_X11_wide_L19
      rw [(Cxt_keep hs rfl hX).2.2.1, if_pos (Int.le_refl m)]
      have k := k τ (mem_sub (A := foA) (B := qcB) rfl hs)
      rw [if_pos ⟨d0, d1⟩, show m.toNat = (m - 0).toNat by omega, ← hJ] at k
      exact k
  · have k := k σ Sm.rf
    rw [if_neg h] at k
    rw [if_pos rfl]
    exact k
end
