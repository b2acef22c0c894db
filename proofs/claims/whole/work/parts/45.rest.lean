/-! 45: a beat keeps what is sound, and all come to rest -/
theorem cnt_but {p : Int → Bool} {q : Int} (hq : 0 ≤ q) (hp : p q = true) : ∀ m : Nat, cnt (fun b => p b && decide (b ≠ q)) m = cnt p m - (if q < m then 1 else 0)
  | 0 => by
    show (0 : Int) = 0 - _
    rw [if_neg (by omega)]
    rfl
  | m + 1 => by
    have h := cnt_but hq hp m
    show cnt _ m + (if (p m && decide ((m : Int) ≠ q)) = true then 1 else 0) = cnt p m + (if p m = true then 1 else 0) - _
    rw [h]
    by_cases e : (m : Int) = q
    · have e3 : q < ((m + 1 : Nat) : Int) := by omega
      have e4 : ¬ q < (m : Int) := by omega
      rw [if_pos e3, if_neg e4, e, hp, if_neg (by simp), if_pos rfl]
      omega
    · have e2 : (if q < ((m + 1 : Nat) : Int) then (1 : Int) else 0) = if q < (m : Int) then 1 else 0 := by
        by_cases h : q < (m : Int)
        · rw [if_pos h, if_pos (by omega)]
        · rw [if_neg h, if_neg (by omega)]
      rw [e2, decide_eq_true (p := (m : Int) ≠ q) e, Bool.and_true]
      omega
/-- the sum over balls -/
def sm (f : Int → Int) : Nat → Int
  | 0 => 0
  | i + 1 => sm f i + f i
theorem sm_le {f g : Int → Int} : ∀ m : Nat, (∀ b : Int, 0 ≤ b → b < m → f b ≤ g b) → sm f m ≤ sm g m
  | 0, _ => Int.le_refl _
  | m + 1, h => by
    have h1 := sm_le m (fun b b0 b1 => h b b0 (by omega))
    have h2 := h m (by omega) (by omega)
    show sm f m + f m ≤ sm g m + g m
    omega
/-- one is lower by d -/
theorem sm_lt {f g : Int → Int} {q d : Int} (hq : 0 ≤ q) (hd : f q + d ≤ g q) : ∀ m : Nat, q < m → (∀ b : Int, 0 ≤ b → b < m → b ≠ q → f b ≤ g b) → sm f m + d ≤ sm g m
  | 0, h, _ => by omega
  | m + 1, hm, h => by
    show sm f m + f m + d ≤ sm g m + g m
    by_cases e : (m : Int) = q
    · have h1 := sm_le m (fun b b0 b1 => h b b0 (by omega) (by omega))
      rw [e]
      omega
    · have h1 := sm_lt hq hd m (by omega) (fun b b0 b1 hb => h b b0 (by omega) hb)
      have h2 := h m (by omega) (by omega) e
      omega
theorem sm_rng {f : Int → Int} {c : Int} : ∀ m : Nat, (∀ b : Int, 0 ≤ b → b < m → 0 ≤ f b ∧ f b ≤ c) → 0 ≤ sm f m ∧ sm f m ≤ c * m
  | 0, _ => by
    show (0 : Int) ≤ 0 ∧ (0 : Int) ≤ c * (0 : Nat)
    simp
  | m + 1, h => by
    have h1 := sm_rng m (fun b b0 b1 => h b b0 (by omega))
    have h2 := h m (by omega) (by omega)
    show 0 ≤ sm f m + f m ∧ sm f m + f m ≤ c * ((m + 1 : Nat) : Int)
    have : c * ((m + 1 : Nat) : Int) = c * m + c := by rw [Int.natCast_add, Int.mul_add]; simp
    omega
/-- a shop's numbers are sound -/
def SpW (n m dk : Int) (s : Sp) : Prop := s.1 = n ∧ s.2.1 = m ∧ s.2.2.1 = dk ∧ (0 ≤ n ∧ n ≤ 6) ∧ (0 ≤ m ∧ m ≤ 6) ∧ (1 ≤ dk ∧ dk ≤ 9) ∧
  (∀ g w, 0 ≤ falW n s.2.2.2.2.1 g w ∧ (falW n s.2.2.2.2.1 g w < n ∨ falW n s.2.2.2.2.1 g w = 6)) ∧ (∀ b c : Int, 0 ≤ c → 1 ≤ btoW n s.2.2.2.1 s.2.2.2.2.1 s.2.2.2.2.2 b c ∧ btoW n s.2.2.2.1 s.2.2.2.2.1 s.2.2.2.2.2 b c ≤ 42)
theorem ShC.spw {σ : St} (hS : ShC σ 0) : SpW (σ 8 0 10) (σ 8 0 11) (σ 8 0 13) (spC σ 0) := by
  have hS' := hS
  obtain ⟨⟨n0, n6⟩, ⟨m0, m6⟩, -, ⟨d1, d9⟩, hc, -⟩ := hS'
  refine ⟨rfl, rfl, rfl, ⟨n0, n6⟩, ⟨m0, m6⟩, ⟨d1, d9⟩, fun g w => ?_, fun b c h => btoW_rng hS h⟩
  have := falW_rng (n := σ 8 0 10) (r := σ 903 0) (g := g) (w := w) n0 n6 (fun i i0 i1 => (hc i i0 i1).2.2)
  exact ⟨this.1, this.2.2⟩
theorem srvd_iff {dk : Int} {z : Ab} : srvd dk z = true ↔ 0 < zMany z ∧ dk ≤ zSrv z + 1 := by unfold srvd; simp only [Bool.and_eq_true, decide_eq_true_eq]
theorem arr_iff {z : Ab} {b : Int} : arr z b = true ↔ zHow z b = 1 ∧ zLeft z b ≤ 1 := by unfold arr; simp only [Bool.and_eq_true, decide_eq_true_eq]
theorem com_iff {z : Ab} {b : Int} : com z b = true ↔ zHow z b = 3 ∧ zLeft z b ≤ 1 := by unfold com; simp only [Bool.and_eq_true, decide_eq_true_eq]
theorem pasHow {s : Sp} {z : Ab} {b : Int} : zHow (pasW s z) b = if srvd s.2.2.1 z = true ∧ b = zQ z 0 then 3 else if zHow z b = 3 ∧ zLeft z b ≤ 1 then 0 else if zHow z b = 1 ∧ zLeft z b ≤ 1 then 2 else zHow z b := by
  show (if (srvd s.2.2.1 z && decide (b = zQ z 0)) = true then 3 else if com z b = true then 0 else if arr z b = true then 2 else zHow z b) = _
  simp only [com_iff, arr_iff, Bool.and_eq_true, decide_eq_true_eq]
theorem pasLeft {s : Sp} {z : Ab} {b : Int} : zLeft (pasW s z) b = if srvd s.2.2.1 z = true ∧ b = zQ z 0 then srvLeft s z else if zHow z b = 1 ∨ zHow z b = 3 then zLeft z b - 1 else zLeft z b := by
  show (if (srvd s.2.2.1 z && decide (b = zQ z 0)) = true then srvLeft s z else _) = _
  simp only [Bool.and_eq_true, decide_eq_true_eq]
theorem pasAt {s : Sp} {z : Ab} {b : Int} : zAt (pasW s z) b = if srvd s.2.2.1 z = true ∧ b = zQ z 0 then srvAt s z else zAt z b := by
  show (if (srvd s.2.2.1 z && decide (b = zQ z 0)) = true then srvAt s z else _) = _
  simp only [Bool.and_eq_true, decide_eq_true_eq]
theorem WfZ_pas {n m dk : Int} {s : Sp} {z : Ab} (hs : SpW n m dk s) (hW : WfZ n m dk z) : WfZ n m dk (pasW s z) := by
  have hmn := hW.many hs.2.2.2.2.1.1
  have hroom := hW.room hs.2.2.2.2.1.1
  obtain ⟨e1, e2, e3, ⟨n0, n6⟩, ⟨m0, m6⟩, ⟨d1, d9⟩, hf, hb⟩ := hs
  have hm1 := man1_rng (s := s) hmn.1
  obtain ⟨wd, wb, wv, wM, wq, wi1, wg, wB⟩ := hW
  have hq0 : srvd dk z = true → zHow z (zQ z 0) = 2 ∧ 0 ≤ zQ z 0 ∧ zQ z 0 < m := fun h => by
    have := wq 0 (Int.le_refl 0) (srvd_iff.mp h).1
    exact ⟨this.2, this.1⟩
  have hsl : 1 ≤ srvLeft s z ∧ srvLeft s z ≤ 42 ∧ 0 ≤ srvAt s z ∧ (srvAt s z < n ∨ srvAt s z = 6) := by
    have h1 := hf (zGap z) (zSize z (zQ z 0))
    unfold srvLeft srvAt
    rw [e1]
    have h2 := hb (zQ z 0) _ h1.1
    exact ⟨h2.1, h2.2, h1.1, h1.2⟩
  have hsz : man1 s z = if srvd dk z = true then zMany z - 1 else zMany z := by unfold man1; rw [e3]
  -- the row behind
  have hQ : ∀ j : Int, 0 ≤ j → j < man1 s z → zQ (pasW s z) j = zQ z (if srvd dk z = true then j + 1 else j) := fun j j0 j1 => by
    show (if j < man1 s z then (if srvd s.2.2.1 z = true then zQ z (j + 1) else zQ z j) else _) = _
    rw [if_pos j1, e3]
    split <;> rfl
  have hN : ∀ j : Int, man1 s z ≤ j → j < man1 s z + cnt (arr z) m.toNat → ∃ b : Int, 0 ≤ b ∧ b < m ∧ arr z b = true ∧ man1 s z + cnt (arr z) b.toNat = j ∧ zQ (pasW s z) j = b := fun j j0 j1 => by
    obtain ⟨b, hb, ha, hcnt⟩ := cnt_at (p := arr z) (m := m.toNat) (j := j - man1 s z) (by omega) (by omega)
    refine ⟨b, by omega, by omega, ha, by rw [Int.toNat_natCast]; omega, ?_⟩
    have h2 := pasQ_new (s := s) (z := z) (b := b) (by rw [e2]; omega) ha
    rw [← h2]
    congr 1
    omega
  have hmany : zMany (pasW s z) = man1 s z + cnt (arr z) m.toNat := by
    show man1 s z + cnt (arr z) s.2.1.toNat = _
    rw [e2]
  have hOld : ∀ j : Int, 0 ≤ j → j < man1 s z → (0 ≤ zQ (pasW s z) j ∧ zQ (pasW s z) j < m) ∧ zHow z (zQ (pasW s z) j) = 2 ∧ ¬ (srvd dk z = true ∧ zQ (pasW s z) j = zQ z 0) := fun j j0 j1 => by
    rw [hQ j j0 j1]
    by_cases h : srvd dk z = true
    · rw [if_pos h] at hsz ⊢
      have := wq (j + 1) (by omega) (by omega)
      exact ⟨this.1, this.2, fun e => wi1 0 (j + 1) (Int.le_refl 0) (by omega) (by omega) e.2.symm⟩
    · rw [if_neg h] at hsz ⊢
      have := wq j (by omega) (by omega)
      exact ⟨this.1, this.2, fun e => h e.1⟩
  have hNo : ∀ b : Int, arr z b = true → ¬ (srvd dk z = true ∧ b = zQ z 0) := fun b ha h => by
    have h1 := arr_iff.mp ha
    rw [h.2, (hq0 h.1).1] at h1
    omega
  refine ⟨wd, ?_, ?_, ?_, fun j j0 j1 => ?_, fun i j i0 ij j1 => ?_, wg, fun b b0 b1 => ?_⟩
  · show i32 (wi (zBeat z + 1))
    unfold wi i32
    exact ⟨Int.le_bmod (by decide), by have := @Int.bmod_lt (zBeat z + 1) 4294967296 (by decide); omega⟩
  · show 0 ≤ (if 0 < zMany z then (if s.2.2.1 ≤ zSrv z + 1 then 0 else zSrv z + 1) else zSrv z) ∧ (if 0 < zMany z then (if s.2.2.1 ≤ zSrv z + 1 then 0 else zSrv z + 1) else zSrv z) < dk
    rw [e3]
    split
    · split <;> omega
    · exact wv
  · rw [hmany]
    have h1 : cnt (fun b => decide (zHow (pasW s z) b = 2)) m.toNat = cnt (fun b => (decide (zHow z b = 2) && decide (srvd dk z = true → b ≠ zQ z 0)) || arr z b) m.toNat := by
      refine cnt_congr _ (fun b b0 b1 => ?_)
      rw [pasHow, e3]
      have ha := @arr_iff z b
      by_cases h1 : srvd dk z = true ∧ b = zQ z 0
      · rw [if_pos h1]
        have h2 : arr z b = false := by
          cases h : arr z b
          · rfl
          · exact absurd h1 (hNo b h)
        rw [h2]
        simp [h1.1, h1.2]
      · rw [if_neg h1]
        have h2 : (srvd dk z = true → b ≠ zQ z 0) := fun h e => h1 ⟨h, e⟩
        rw [decide_eq_true h2, Bool.and_true]
        by_cases h3 : zHow z b = 3 ∧ zLeft z b ≤ 1
        · rw [if_pos h3]
          have h4 : arr z b = false := by
            cases h : arr z b
            · rfl
            · have := ha.mp h; omega
          rw [h4, decide_eq_false (p := zHow z b = 2) (by omega)]
          rfl
        · rw [if_neg h3]
          by_cases h4 : zHow z b = 1 ∧ zLeft z b ≤ 1
          · rw [if_pos h4, ha.mpr h4]
            simp
          · rw [if_neg h4]
            have h5 : arr z b = false := by
              cases h : arr z b
              · rfl
              · exact absurd (ha.mp h) h4
            rw [h5, Bool.or_false]
    rw [h1, ← cnt_or (fun b hb => ?_), hsz]
    · by_cases h : srvd dk z = true
      · rw [if_pos h]
        have h2 : cnt (fun b => decide (zHow z b = 2) && decide (srvd dk z = true → b ≠ zQ z 0)) m.toNat = cnt (fun b => decide (zHow z b = 2) && decide (b ≠ zQ z 0)) m.toNat := cnt_congr _ (fun b b0 b1 => by simp [h])
        rw [h2, cnt_but (p := fun b => decide (zHow z b = 2)) (hq0 h).2.1 (by simp [(hq0 h).1]), if_pos (by have := (hq0 h).2.2; omega), wM]
      · rw [if_neg h, wM]
        congr 1
        exact cnt_congr _ (fun b b0 b1 => by simp [h])
    · simp only [Bool.and_eq_true, decide_eq_true_eq] at hb
      have := arr_iff.mp hb.2
      omega
  · rw [hmany] at j1
    by_cases hj : j < man1 s z
    · obtain ⟨r, h2, h3⟩ := hOld j j0 hj
      refine ⟨r, ?_⟩
      rw [pasHow, e3, if_neg h3, if_neg (by omega), if_neg (by omega)]
      exact h2
    · obtain ⟨b, b0, b1, ha, -, hb⟩ := hN j (by omega) j1
      rw [hb]
      refine ⟨⟨b0, b1⟩, ?_⟩
      have h1 := arr_iff.mp ha
      rw [pasHow, e3, if_neg (hNo b ha), if_neg (by omega), if_pos h1]
  · rw [hmany] at j1
    by_cases hj : j < man1 s z
    · rw [hQ j (by omega) hj, hQ i i0 (by omega)]
      by_cases h : srvd dk z = true
      · rw [if_pos h] at hsz
        rw [if_pos h, if_pos h]
        exact wi1 (i + 1) (j + 1) (by omega) (by omega) (by omega)
      · rw [if_neg h] at hsz
        rw [if_neg h, if_neg h]
        exact wi1 i j i0 ij (by omega)
    · obtain ⟨b, b0, b1, ha, hc, hb⟩ := hN j (by omega) j1
      rw [hb]
      by_cases hi : i < man1 s z
      · obtain ⟨-, h2, -⟩ := hOld i i0 hi
        have := arr_iff.mp ha
        intro e
        rw [e] at h2
        omega
      · obtain ⟨b', b0', b1', ha', hc', hb'⟩ := hN i (by omega) (by omega)
        rw [hb']
        intro e
        rw [e] at hc'
        omega
  · obtain ⟨w1, w2, w3, w4, w5, w6⟩ := wB b b0 b1
    refine ⟨w1, ?_, ?_, ?_, ?_, w6⟩
    · rw [pasHow]
      split
      · omega
      · split
        · omega
        · split <;> omega
    · rw [pasAt]
      split
      · exact hsl.2.2
      · exact w3
    · rw [pasLeft]
      split
      · omega
      · split
        · have := w5 ‹_›; omega
        · exact w4
    · rw [pasLeft, pasHow]
      split
      · omega
      · intro h
        split at h
        · omega
        · split at h
          · omega
          · rw [if_pos h]
            omega
/-- how far a ball is from its rest, at most -/
def pw (z : Ab) (b : Int) : Int := if zHow z b = 0 then 0 else if zHow z b = 3 then zLeft z b else if zHow z b = 2 then 52 else zLeft z b + 52
def psi (m : Int) (z : Ab) : Int := sm (pw z) m.toNat + (8 - zSrv z)
/-- all rest -/
def rsts (m : Int) (z : Ab) : Prop := ∀ b : Int, 0 ≤ b → b < m → zHow z b = 0
theorem psi_rng {n m dk : Int} {z : Ab} (h6 : m ≤ 6) (d9 : dk ≤ 9) (hW : WfZ n m dk z) : 0 ≤ psi m z ∧ psi m z ≤ 572 := by
  obtain ⟨wd, wb, wv, wM, wq, wi1, wg, wB⟩ := hW
  have h := sm_rng (f := pw z) (c := 94) m.toNat (fun b b0 b1 => by
    obtain ⟨w1, w2, w3, w4, w5, w6⟩ := wB b b0 (by omega)
    unfold pw
    split
    · omega
    · split
      · omega
      · split <;> omega)
  unfold psi
  omega
theorem psi_dec {n m dk : Int} {s : Sp} {z : Ab} (hs : SpW n m dk s) (hW : WfZ n m dk z) (hr : ¬ rsts m z) : psi m (pasW s z) + 1 ≤ psi m z := by
  have hW' := WfZ_pas hs hW
  obtain ⟨e1, e2, e3, ⟨n0, n6⟩, ⟨m0, m6⟩, ⟨d1, d9⟩, hf, hb⟩ := hs
  obtain ⟨wd, wb, wv, wM, wq, wi1, wg, wB⟩ := hW
  have hsl : srvLeft s z ≤ 42 := by
    unfold srvLeft srvAt
    rw [e1]
    exact (hb (zQ z 0) _ (hf (zGap z) (zSize z (zQ z 0))).1).2
  have hsv : zSrv (pasW s z) = if 0 < zMany z then (if dk ≤ zSrv z + 1 then 0 else zSrv z + 1) else zSrv z := by rw [← e3]; rfl
  have hpw : ∀ b : Int, 0 ≤ b → b < m → ¬ (srvd dk z = true ∧ b = zQ z 0) → pw (pasW s z) b ≤ pw z b ∧ (zHow z b = 1 ∨ zHow z b = 3 → pw (pasW s z) b + 1 ≤ pw z b) := by
    intro b b0 b1 h
    obtain ⟨w1, w2, w3, w4, w5, w6⟩ := wB b b0 b1
    have eh : zHow (pasW s z) b = if zHow z b = 3 ∧ zLeft z b ≤ 1 then 0 else if zHow z b = 1 ∧ zLeft z b ≤ 1 then 2 else zHow z b := by rw [pasHow, e3, if_neg h]
    have el : zLeft (pasW s z) b = if zHow z b = 1 ∨ zHow z b = 3 then zLeft z b - 1 else zLeft z b := by rw [pasLeft, e3, if_neg h]
    unfold pw
    rw [eh, el]
    by_cases h3 : zHow z b = 3
    · have w5 := w5 (Or.inr h3)
      by_cases hl : zLeft z b ≤ 1
      · simp only [h3, hl]
        simp
        omega
      · simp only [h3, hl]
        simp
        omega
    · by_cases h1 : zHow z b = 1
      · have w5 := w5 (Or.inl h1)
        by_cases hl : zLeft z b ≤ 1
        · simp only [h1, hl]
          simp
          omega
        · simp only [h1, hl]
          simp
          omega
      · have h13 : ¬ (zHow z b = 1 ∨ zHow z b = 3) := by omega
        rw [if_neg (c := zHow z b = 3 ∧ zLeft z b ≤ 1) (by omega), if_neg (c := zHow z b = 1 ∧ zLeft z b ≤ 1) (by omega), if_neg h13]
        exact ⟨Int.le_refl _, fun h => absurd h h13⟩
  unfold psi
  rw [hsv]
  by_cases hv : srvd dk z = true
  · have hv' := srvd_iff.mp hv
    have q0 := wq 0 (Int.le_refl 0) hv'.1
    have h1 := sm_lt (f := pw (pasW s z)) (g := pw z) (q := zQ z 0) (d := 10) q0.1.1 (by
      have eh : zHow (pasW s z) (zQ z 0) = 3 := by rw [pasHow, e3, if_pos ⟨hv, rfl⟩]
      have el : zLeft (pasW s z) (zQ z 0) = srvLeft s z := by rw [pasLeft, e3, if_pos ⟨hv, rfl⟩]
      unfold pw
      rw [eh, el, q0.2]
      simp
      omega) m.toNat (by omega) (fun b b0 b1 h => (hpw b b0 (by omega) (fun e => h e.2)).1)
    rw [if_pos hv'.1, if_pos hv'.2]
    omega
  · have hle : ∀ b : Int, 0 ≤ b → b < m → pw (pasW s z) b ≤ pw z b := fun b b0 b1 => (hpw b b0 b1 (fun e => hv e.1)).1
    by_cases hM : 0 < zMany z
    · have h1 := sm_le (f := pw (pasW s z)) (g := pw z) m.toNat (fun b b0 b1 => hle b b0 (by omega))
      rw [if_pos hM, if_neg (fun h => hv (srvd_iff.mpr ⟨hM, h⟩))]
      omega
    · rw [if_neg hM]
      have ⟨q, q0, q1, hq⟩ : ∃ q : Int, 0 ≤ q ∧ q < m ∧ zHow z q ≠ 0 := Classical.byContradiction (fun h => hr (fun b b0 b1 => Classical.byContradiction (fun h' => h ⟨b, b0, b1, h'⟩)))
      have hq2 : zHow z q ≠ 2 := fun h => by
        have := cnt_step (p := fun b => decide (zHow z b = 2)) q0 q1 (by simp [h])
        have h0 := (cnt_nonneg (fun b => decide (zHow z b = 2)) q.toNat).1
        omega
      have hq3 := (wB q q0 q1).2.1
      have h1 := sm_lt (f := pw (pasW s z)) (g := pw z) (q := q) (d := 1) q0 ((hpw q q0 q1 (fun e => hv e.1)).2 (by omega)) m.toNat (by omega) (fun b b0 b1 h => hle b b0 (by omega))
      omega
/-- beats until p -/
def tilN (s : Sp) (p : Ab → Bool) : Nat → Ab → Nat
  | 0, _ => 0
  | f + 1, z => if p z then 0 else tilN s p f (pasW s z) + 1
def pasK (s : Sp) : Nat → Ab → Ab
  | 0, z => z
  | k + 1, z => pasK s k (pasW s z)
def alR (m : Int) (z : Ab) : Bool := (fnd (fun b => decide (zHow z b ≠ 0)) m.toNat 0).isNone
theorem alR_iff {m : Int} {z : Ab} : alR m z = true ↔ rsts m z := by
  unfold alR rsts
  cases h : fnd (fun b => decide (zHow z b ≠ 0)) m.toNat 0 with
  | none =>
    refine ⟨fun _ b b0 b1 => ?_, fun _ => rfl⟩
    have := fnd_none h b b0 (by omega)
    simpa using this
  | some j =>
    obtain ⟨h1, h2, h3, -⟩ := fnd_some h
    refine ⟨fun h => (by cases h), fun hr => ?_⟩
    have := hr j h1 (by omega)
    simp [this] at h3
theorem tilN_le {s : Sp} {p : Ab → Bool} : ∀ (f : Nat) (z : Ab), tilN s p f z ≤ f
  | 0, _ => Nat.le_refl 0
  | f + 1, z => by
    unfold tilN
    split
    · omega
    · have := tilN_le (s := s) (p := p) f (pasW s z); omega
theorem WfZ_pasK {n m dk : Int} {s : Sp} (hs : SpW n m dk s) : ∀ (k : Nat) {z : Ab}, WfZ n m dk z → WfZ n m dk (pasK s k z)
  | 0, _, h => h
  | k + 1, _, h => WfZ_pasK hs k (WfZ_pas hs h)
/-- p at the end -/
theorem tilN_at {n m dk : Int} {s : Sp} {p : Ab → Bool} (hs : SpW n m dk s) (hp : ∀ z, p z = false → ¬ rsts m z) : ∀ (f : Nat) (z : Ab), WfZ n m dk z → psi m z ≤ f → p (pasK s (tilN s p f z) z) = true
  | 0, z, hW, hf => by
    show p z = true
    cases h : p z
    · have h1 := psi_dec hs hW (hp z h)
      have h2 := psi_rng hs.2.2.2.2.1.2 hs.2.2.2.2.2.1.2 (WfZ_pas hs hW)
      omega
    · rfl
  | f + 1, z, hW, hf => by
    unfold tilN
    split
    · rename_i h
      exact h
    · rename_i h
      have h1 := psi_dec hs hW (hp z (Bool.eq_false_iff.mpr h))
      exact tilN_at hs hp f (pasW s z) (WfZ_pas hs hW) (by omega)
