/-! 57: who falls where: lost, crowd, span; bits counted -/
theorem cnt_stop {q : Int → Bool} {m : Nat} : ∀ {k : Nat}, m ≤ k → (∀ b : Nat, m ≤ b → b < k → q b = false) → cnt q k = cnt q m
  | 0, h, _ => by
    have : m = 0 := by omega
    rw [this]
  | k + 1, h, hq => by
    by_cases e : m = k + 1
    · rw [e]
    · have h1 := cnt_stop (k := k) (by omega) (fun b b0 b1 => hq b b0 (by omega))
      show cnt q k + (if q k = true then 1 else 0) = _
      rw [hq k (by omega) (by omega), h1, if_neg (by decide), Int.add_zero]
theorem bc_pow : ∀ x : Fin 64, ∃ e : Int, (∀ (σ : St) (Q : Int → St → Prop), P_J6_bitCount_0f7a4 (x.val : Int) σ Q = Q e σ) ∧ e = cnt (fun b => x.val.testBit b.toNat) 6 := by
  have h : ∀ x : Fin 64, P_J6_bitCount_0f7a4 (x.val : Int) (fun _ _ _ => 0) (fun e _ => e = cnt (fun b => x.val.testBit b.toNat) 6) := by
    unfold P_J6_bitCount_0f7a4
    decide +kernel
  intro x
  exact ⟨_, fun σ Q => rfl, h x⟩
theorem t_bitCount {p : Int → Bool} {m : Int} {σ : St} {Q : Int → St → Prop} (h0 : 0 ≤ m) (h6 : m ≤ 6) (k : Q (cnt p m.toNat) σ) : P_J6_bitCount_0f7a4 (bts p m.toNat) σ Q := by
  have h1 := nbt_lt p m.toNat
  have h2 : 2 ^ m.toNat ≤ 2 ^ 6 := Nat.pow_le_pow_right (by decide) (by omega)
  obtain ⟨e, h3, h4⟩ := bc_pow ⟨nbt p m.toNat, by omega⟩
  rw [bts_nbt p _ (by omega), h3, h4]
  have h5 : cnt (fun b => (nbt p m.toNat).testBit b.toNat) 6 = cnt p m.toNat := by
    rw [cnt_stop (m := m.toNat) (by omega) (fun b b0 b1 => by
      rw [Int.toNat_natCast]
      exact Nat.testBit_lt_two_pow (Nat.lt_of_lt_of_le h1 (Nat.pow_le_pow_right (by decide) b0)))]
    refine cnt_congr _ (fun b b0 b1 => ?_)
    rw [nbt_bit (by omega), Int.toNat_of_nonneg b0]
  dsimp only
  rw [h5]
  exact k
section
variable {n m dk : Int} {z : Ab} {σ : St} {Q : Int → St → Prop}
def fllP (s : Sp) (z : Ab) (c : Int) (b : Int) : Bool := decide (fllW s z (zSize z b) = c)
theorem t_X1_fallers {c : Int} (hX : Cxt n m dk σ) (hC : StC n m σ 0 z) (k : Q (bts (fllP (spC σ 0) z c) m.toNat) σ) : P_X1_fallers c σ Q := by
  have m6 := hX.spw.2.2.2.2.1
  unfold P_X1_fallers
  refine loopI (X := Int) (F := fun n i a => P_X1_fallers_L4 c Q n a i σ) (N := m) (fun i a => a = bts (fllP (spC σ 0) z c) i.toNat) ?_ ?_ m.toNat 0 0 FU (Int.le_refl 0) (by omega) (FU_pos (by omega)) rfl
  · rintro n' i a i0 i1 ha k'
    unfold P_X1_fallers_L4
    rw [hX.2.2.1, if_neg (by omega), wi_id (z := i + 1) (by omega) (by omega)]
    refine t_X9_fallOf hX hC i0 i1 ?_
    by_cases h : fllW (spC σ 0) z (zSize z i) = c
    · rw [if_pos h]
      exact k' _ (by rw [bts_i i0, ha]; unfold fllP; rw [decide_eq_true h, if_pos rfl])
    · rw [if_neg h]
      exact k' _ (by rw [bts_i i0, ha]; unfold fllP; rw [decide_eq_false h, if_neg (by decide)])
  · rintro n' a ha
    unfold P_X1_fallers_L4
    rw [hX.2.2.1, if_pos (Int.le_refl m), ha]
    exact k
theorem t_X11_lost (hX : Cxt n m dk σ) (hC : StC n m σ 0 z) (k : Q (bts (fllP (spC σ 0) z 6) m.toNat) σ) : P_X11_lost σ Q := by
  unfold P_X11_lost
  exact t_X1_fallers hX hC k
theorem t_X12_lost (hX : Cxt n m dk σ) (hE : ShE σ) (hC : StA n m (σ 1346 0) z) (k : ∀ σ', Sm q0A σ σ' → Q (bts (fllP (spC σ 0) z 6) m.toNat) σ') : P_X12_lost σ Q := by
  have m6 := hX.spw.2.2.2.2.1
  obtain ⟨hX0, hE0, hC0, s0⟩ := look0 hX hE hC
  have k := k _ s0
  have es : spC (up σ 12 0 0 0) 0 = spC σ 0 := spC_keep s0 rfl
  unfold P_X12_lost
  refine loopI (X := Int) (F := fun n i a => P_X12_lost_L9 Q n a i (up σ 12 0 0 0)) (N := m) (fun i a => a = bts (fllP (spC σ 0) z 6) i.toNat) ?_ ?_ m.toNat 0 0 FU (Int.le_refl 0) (by omega) (FU_pos (by omega)) rfl
  · rintro n' i a i0 i1 ha k'
    have z0 : ∀ q : Int → Bool, bO (bts q i.toNat) 0 = bts q i.toNat := fun q => bO_zero (bts_i32 _ _).1 (bts_i32 _ _).2
    unfold P_X12_lost_L9
    rw [hE0.2.1, hX0.2.2.1, if_neg (by omega), wi_id (z := i + 1) (by omega) (by omega)]
    refine t_X12_fallOf hX0 hE0 hC0 i0 i1 ?_
    rw [es]
    by_cases h : fllW (spC σ 0) z (zSize z i) = 6
    · rw [if_pos h]
      exact k' _ (by rw [bts_i i0, ha]; unfold fllP; rw [decide_eq_true h, if_pos rfl])
    · rw [if_neg h]
      exact k' _ (by rw [bts_i i0, ha, z0]; unfold fllP; rw [decide_eq_false h, if_neg (by decide)])
  · rintro n' a ha
    unfold P_X12_lost_L9
    rw [hE0.2.1, hX0.2.2.1, if_pos (Int.le_refl m), ha]
    exact k
/-- the crowd: counter, how many -/
def crwW (s : Sp) (z : Ab) (m : Nat) : Nat → Int × Int
  | 0 => (-1, 0)
  | i + 1 => if cnt (fllP s z i) m ≤ (crwW s z m i).2 then crwW s z m i else (i, cnt (fllP s z i) m)
theorem crwW_i {s : Sp} {m : Nat} {i : Int} (h : 0 ≤ i) : crwW s z m (i + 1).toNat = if cnt (fllP s z i) m ≤ (crwW s z m i.toNat).2 then crwW s z m i.toNat else (i, cnt (fllP s z i) m) := by
  have e : (i + 1).toNat = i.toNat + 1 := by omega
  have e2 : ((i.toNat : Nat) : Int) = i := Int.toNat_of_nonneg h
  rw [e]
  show (if cnt (fllP s z (i.toNat : Nat)) m ≤ _ then _ else (((i.toNat : Nat) : Int), cnt (fllP s z (i.toNat : Nat)) m)) = _
  rw [e2]
theorem t_X11_crowd (hX : Cxt n m dk σ) (hC : StC n m σ 0 z) (k : Q (crwW (spC σ 0) z m.toNat n.toNat).1 σ) : P_X11_crowd σ Q := by
  have m6 := hX.spw.2.2.2.2.1
  have n6 := hX.spw.2.2.2.1
  unfold P_X11_crowd
  refine loopI (X := Int × Int) (F := fun n i a => P_X11_crowd_L6 Q n a.2 a.1 i σ) (N := n) (fun i a => a = crwW (spC σ 0) z m.toNat i.toNat) ?_ ?_ n.toNat 0 (-1, 0) FU (Int.le_refl 0) (by omega) (FU_pos (by omega)) rfl
  · rintro n' i a i0 i1 ha k'
    unfold P_X11_crowd_L6
    rw [hX.2.1, if_neg (by omega), wi_id (z := i + 1) (by omega) (by omega)]
    refine t_X1_fallers hX hC (t_bitCount m6.1 m6.2 ?_)
    split
    · rename_i h
      exact k' a (by rw [crwW_i i0, ← ha, if_pos h])
    · rename_i h
      exact k' (i, cnt (fllP (spC σ 0) z i) m.toNat) (by rw [crwW_i i0, ← ha, if_neg h])
  · rintro n' a ha
    unfold P_X11_crowd_L6
    rw [hX.2.1, if_pos (Int.le_refl n), ha]
    exact k
theorem t_X12_crowd (hX : Cxt n m dk σ) (hE : ShE σ) (hC : StA n m (σ 1346 0) z) (k : ∀ σ', Sm q0A σ σ' → Q (crwW (spC σ 0) z m.toNat n.toNat).1 σ') : P_X12_crowd σ Q := by
  have m6 := hX.spw.2.2.2.2.1
  have n6 := hX.spw.2.2.2.1
  obtain ⟨hX0, hE0, hC0, s0⟩ := look0 hX hE hC
  have k := k _ s0
  have es : spC (up σ 12 0 0 0) 0 = spC σ 0 := spC_keep s0 rfl
  unfold P_X12_crowd
  refine loopI (X := Int × Int) (F := fun n i a => P_X12_crowd_L11 Q n a.1 a.2 i (up σ 12 0 0 0)) (N := n) (fun i a => a = crwW (spC σ 0) z m.toNat i.toNat) ?_ ?_ n.toNat 0 (-1, 0) FU (Int.le_refl 0) (by omega) (FU_pos (by omega)) rfl
  · rintro n' i a i0 i1 ha k'
    unfold P_X12_crowd_L11
    rw [hE0.1, hX0.2.1, if_neg (by omega)]
    refine loopI (X := Int) (F := fun n'' j y => P_X12_crowd_L27 a.1 a.2 i (fun x4_3 σ_4 => (if a.2 < x4_3 then (P_X12_crowd_L11 Q n') i x4_3 (wi (i + 1)) σ_4 else (P_X12_crowd_L11 Q n') a.1 a.2 (wi (i + 1)) σ_4)) Q n'' y j (up σ 12 0 0 0)) (N := m) (fun j y => y = cnt (fllP (spC σ 0) z i) j.toNat) ?_ ?_ m.toNat 0 0 FU (Int.le_refl 0) (by omega) (FU_pos (by omega)) rfl
    · rintro n'' j y j0 j1 hy k''
      have hcn := cnt_nonneg (fllP (spC σ 0) z i) j.toNat
      unfold P_X12_crowd_L27
      rw [hE0.2.1, hX0.2.2.1, if_neg (by omega), wi_id (z := j + 1) (by omega) (by omega)]
      refine t_X12_fallOf hX0 hE0 hC0 j0 j1 ?_
      rw [es]
      by_cases h : fllW (spC σ 0) z (zSize z j) = i
      · rw [if_pos h, wi_id (z := y + 1) (by omega) (by omega)]
        exact k'' _ (by rw [cnt_i j0, hy]; unfold fllP; rw [decide_eq_true h, if_pos rfl])
      · rw [if_neg h, Int.add_zero, wi_id (z := y) (by omega) (by omega)]
        exact k'' _ (by rw [cnt_i j0, hy]; unfold fllP; rw [decide_eq_false h, if_neg (by decide), Int.add_zero])
    · rintro n'' y hy
      unfold P_X12_crowd_L27
      rw [hE0.2.1, hX0.2.2.1, if_pos (Int.le_refl m), wi_id (z := i + 1) (by omega) (by omega), hy]
      split
      · rename_i h
        exact k' (i, cnt (fllP (spC σ 0) z i) m.toNat) (by rw [crwW_i i0, ← ha, if_neg (by omega)])
      · rename_i h
        exact k' a (by rw [crwW_i i0, ← ha, if_pos (by omega)])
  · rintro n' a ha
    unfold P_X12_crowd_L11
    rw [hE0.1, hX0.2.1, if_pos (Int.le_refl n), ha]
    exact k
/-- the first and the last of 1 .. 60 -/
def firW (p : Int → Bool) (k : Nat) : Int := match fnd p k 1 with
  | some j => j
  | none => -1
def lasW (p : Int → Bool) : Nat → Int
  | 0 => -1
  | k + 1 => if p ((k : Int) + 1) then (k : Int) + 1 else lasW p k
theorem fnd_snoc {p : Int → Bool} : ∀ (k : Nat) (i : Int), fnd p (k + 1) i = (match fnd p k i with
    | some j => some j
    | none => if p (i + k) then some (i + k) else none)
  | 0, i => by
    show (if p i then some i else none) = if p (i + (0 : Nat)) then some (i + (0 : Nat)) else none
    rw [show i + ((0 : Nat) : Int) = i by omega]
  | k + 1, i => by
    have h := fnd_snoc (p := p) k (i + 1)
    conv => lhs; unfold fnd
    rw [h]
    conv => rhs; unfold fnd
    rw [show i + 1 + (k : Int) = i + ((k + 1 : Nat) : Int) by omega]
    cases hp : p i
    · simp only [Bool.false_eq_true, if_false]
    · simp only [if_true]
theorem firW_i {p : Int → Bool} {i : Int} (h : 1 ≤ i) : firW p i.toNat = if 0 ≤ firW p (i - 1).toNat then firW p (i - 1).toNat else if p i = true then i else -1 := by
  have e : i.toNat = (i - 1).toNat + 1 := by omega
  have e2 : 1 + (((i - 1).toNat : Nat) : Int) = i := by omega
  unfold firW
  rw [e, fnd_snoc, e2]
  cases hf : fnd p (i - 1).toNat 1 with
  | some j =>
    have := (fnd_some hf).1
    dsimp only
    rw [if_pos (by omega)]
  | none =>
    dsimp only
    rw [if_neg (c := (0 : Int) ≤ -1) (by decide)]
    cases p i <;> rfl
theorem lasW_i {p : Int → Bool} {i : Int} (h : 1 ≤ i) : lasW p i.toNat = if p i = true then i else lasW p (i - 1).toNat := by
  have e : i.toNat = (i - 1).toNat + 1 := by omega
  have e2 : (((i - 1).toNat : Nat) : Int) + 1 = i := by omega
  rw [e]
  show (if p ((((i - 1).toNat : Nat) : Int) + 1) = true then _ else _) = _
  rw [e2]
def fitP (s : Sp) (z : Ab) (c w : Int) : Bool := decide (fllW s z w = c)
theorem t_X1_least {c : Int} (hX : Cxt n m dk σ) (hC : StC n m σ 0 z) (k : Q (firW (fitP (spC σ 0) z c) 60) σ) : P_X1_least c σ Q := by
  unfold P_X1_least
  refine findF (F := fun n i => P_X1_least_L2 c Q n i σ) (N := 61) (K0 := Q (-1) σ) (K := fun i => Q i σ) (p := fitP (spC σ 0) z c) (fun n' i i0 i1 => ?_) (fun n' k => ?_) 60 1 FU (by decide) (by omega) (FU_pos (by omega)) ?_
  · refine ⟨fun hp k => ?_, fun hp k => ?_⟩
    · unfold P_X1_least_L2
      rw [if_neg (by omega)]
      refine t_fall0 hX hC ?_
      rw [if_pos (of_decide_eq_true hp)]
      exact k
    · unfold P_X1_least_L2
      rw [if_neg (by omega)]
      refine t_fall0 hX hC ?_
      rw [if_neg (of_decide_eq_false hp), wi_id (by omega) (by omega)]
      exact k
  · unfold P_X1_least_L2
    rw [if_pos (by decide)]
    exact k
  · unfold firW at k
    split <;> rename_i h <;> rw [h] at k <;> exact k
theorem t_most {c : Int} (hX : Cxt n m dk σ) (hC : StC n m σ 0 z) : ∀ (i fuel : Nat), i ≤ 60 → i < fuel → Q (lasW (fitP (spC σ 0) z c) i) σ → P_X1_most_L3 c Q fuel i σ
  | 0, fuel, h, hf, k => by
    obtain ⟨q, rfl, -⟩ := fu_ex hf
    unfold P_X1_most_L3
    rw [if_pos (by omega)]
    exact k
  | i + 1, fuel, h, hf, k => by
    obtain ⟨q, rfl, hq⟩ := fu_ex hf
    unfold P_X1_most_L3
    rw [if_neg (by omega)]
    refine t_fall0 hX hC ?_
    have k : Q (if fitP (spC σ 0) z c ((i : Int) + 1) = true then (i : Int) + 1 else lasW (fitP (spC σ 0) z c) i) σ := k
    have e : (((i + 1 : Nat) : Int)) = (i : Int) + 1 := by omega
    rw [e]
    by_cases hp : fllW (spC σ 0) z ((i : Int) + 1) = c
    · rw [if_pos hp]
      have hp' : fitP (spC σ 0) z c ((i : Int) + 1) = true := decide_eq_true hp
      rwa [if_pos hp'] at k
    · rw [if_neg hp, show (i : Int) + 1 + -1 = i by omega, wi_id (by omega) (by omega)]
      rw [if_neg (by unfold fitP; rw [decide_eq_false hp]; decide)] at k
      exact t_most hX hC i q (by omega) hq k
def spaW (s : Sp) (n : Int) (z : Ab) (c y : Int) : Int := if 0 ≤ c ∧ c < n ∧ 0 ≤ y ∧ y ≤ 1 then (if y = 0 then firW (fitP s z c) 60 else lasW (fitP s z c) 60) else -1
theorem t_X11_span {c y : Int} (hX : Cxt n m dk σ) (hC : StC n m σ 0 z) (k : Q (spaW (spC σ 0) n z c y) σ) : P_X11_span c y σ Q := by
  unfold P_X11_span
  unfold spaW at k
  refine t_X8_hasCounter (fun a b => ?_) (fun h => ?_)
  · rw [hX.2.1] at b
    rw [if_neg one_no]
    refine t_X11_within (fun p q => ?_) (fun h => ?_)
    · rw [if_pos ⟨a, b, p, q⟩] at k
      rw [if_neg one_no]
      split <;> rename_i hy
      · rw [if_pos hy] at k
        exact t_X1_least hX hC k
      · rw [if_neg hy] at k
        unfold P_X1_most
        exact t_most hX hC 60 FU (by omega) (FU_pos (by omega)) k
    · rw [if_neg (fun q => h q.2.2)] at k
      rw [if_pos rfl]
      exact k
  · rw [hX.2.1] at h
    rw [if_neg (fun q => h ⟨q.1, q.2.1⟩)] at k
    rw [if_pos rfl]
    exact k
theorem t_X12_span {c y : Int} (hX : Cxt n m dk σ) (hE : ShE σ) (hC : StA n m (σ 1346 0) z) (k : ∀ σ', Sm q0A σ σ' → Q (spaW (spC σ 0) n z c y) σ') : P_X12_span c y σ Q := by
  obtain ⟨hX0, hE0, hC0, s0⟩ := look0 hX hE hC
  have k := k _ s0
  have es : spC (up σ 12 0 0 0) 0 = spC σ 0 := spC_keep s0 rfl
  unfold P_X12_span
  unfold spaW at k
  refine t_X12_isCounter (n := n) (by rw [hE0.1]; exact hX0.2.1) (fun a b => ?_) (fun h => ?_)
  · rw [if_neg one_no]
    refine t_X12_within (fun p q => ?_) (fun h => ?_)
    · rw [if_pos ⟨a, b, p, q⟩] at k
      rw [if_neg one_no]
      refine loopI (X := Int × Int) (F := fun n' i y' => P_X12_span_L32 c y (fun x3_7 x4_8 σ_9 => (if y = 0 then Q x3_7 σ_9 else Q x4_8 σ_9)) Q n' y'.1 y'.2 i (up σ 12 0 0 0)) (N := 61) (fun i y' => 1 ≤ i ∧ y' = (firW (fitP (spC σ 0) z c) (i - 1).toNat, lasW (fitP (spC σ 0) z c) (i - 1).toNat)) ?_ ?_ 60 1 (-1, -1) FU (by decide) (by omega) (FU_pos (by omega)) ⟨by decide, rfl⟩
      · rintro n' i y' i0 i1 ⟨ii, hy⟩ k'
        unfold P_X12_span_L32 P_X12_span_J59
        rw [if_neg (by omega), wi_id (z := i + 1) (by omega) (by omega)]
        refine t_fall12 hX0 hE0 hC0 ?_
        rw [es]
        have e1 : i + 1 - 1 = i := by omega
        have h1 := firW_i (p := fitP (spC σ 0) z c) ii
        have h2 := lasW_i (p := fitP (spC σ 0) z c) ii
        by_cases hp : fllW (spC σ 0) z i = c
        · have hp' : fitP (spC σ 0) z c i = true := decide_eq_true hp
          rw [hp', if_pos rfl] at h1 h2
          rw [if_pos hp]
          subst hy
          dsimp only
          by_cases h3 : 0 ≤ firW (fitP (spC σ 0) z c) (i - 1).toNat
          · rw [if_pos h3] at h1 ⊢
            exact k' (firW (fitP (spC σ 0) z c) (i - 1).toNat, i) ⟨by omega, by rw [e1, h1, h2]⟩
          · rw [if_neg h3] at h1 ⊢
            exact k' (i, i) ⟨by omega, by rw [e1, h1, h2]⟩
        · have hp' : fitP (spC σ 0) z c i = false := decide_eq_false hp
          rw [hp', if_neg (c := false = true) (by decide)] at h2
          rw [hp', if_neg (c := false = true) (by decide)] at h1
          rw [if_neg hp]
          refine k' y' ⟨by omega, ?_⟩
          rw [hy, e1, h2, h1]
          by_cases h3 : 0 ≤ firW (fitP (spC σ 0) z c) (i - 1).toNat
          · rw [if_pos h3]
          · rw [if_neg h3]
            congr 1
            unfold firW at h3 ⊢
            split <;> rename_i hf
            · have h4 := (fnd_some hf).1
              rw [hf] at h3
              dsimp only at h3
              omega
            · rfl
      · rintro n' y' ⟨ii, hy⟩
        unfold P_X12_span_L32
        rw [if_pos (by decide), hy]
        split <;> rename_i hy0
        · rw [if_pos hy0] at k
          exact k
        · rw [if_neg hy0] at k
          exact k
    · rw [if_neg (fun q => h q.2.2)] at k
      rw [if_pos rfl]
      exact k
  · rw [if_neg (fun q => h ⟨q.1, q.2.1⟩)] at k
    rw [if_pos rfl]
    exact k
end
