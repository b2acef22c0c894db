/-! 58: idle counters, twins -/
theorem clr_pow : ∀ x : Fin 64, ∀ r : Fin 7, bA (x.val : Int) (bX (bL 1 (r.val : Int)) (-1)) = ((if x.val.testBit r.val then x.val - 2 ^ r.val else x.val : Nat) : Int) := by decide +kernel
theorem nbt_clr {p : Int → Bool} {r : Nat} : ∀ m : Nat, nbt p m = nbt (fun b => p b && decide (b ≠ (r : Int))) m + (if r < m ∧ p r = true then 2 ^ r else 0)
  | 0 => by
    rw [if_neg (by omega)]
    rfl
  | m + 1 => by
    have h := nbt_clr (p := p) (r := r) m
    show nbt p m + (if p m then 2 ^ m else 0) = nbt _ m + (if (p m && decide ((m : Int) ≠ (r : Int))) = true then 2 ^ m else 0) + _
    rw [h]
    by_cases e : r = m
    · subst e
      rw [if_neg (c := r < r ∧ p r = true) (by omega), if_neg (c := (p r && decide ((r : Int) ≠ (r : Int))) = true) (by simp)]
      by_cases hp : p r = true
      · rw [if_pos hp, if_pos ⟨by omega, hp⟩]
      · rw [if_neg hp, if_neg (fun q => hp q.2)]
    · have e2 : decide ((m : Int) ≠ (r : Int)) = true := decide_eq_true (by omega)
      rw [e2, Bool.and_true]
      have e3 : (if r < m + 1 ∧ p r = true then 2 ^ r else 0) = if r < m ∧ p r = true then 2 ^ r else 0 := by
        by_cases h : r < m ∧ p r = true
        · rw [if_pos h, if_pos ⟨by omega, h.2⟩]
        · rw [if_neg h, if_neg (fun q => h ⟨by omega, q.2⟩)]
      rw [e3]
      omega
theorem bts_clr {p : Int → Bool} {m r : Int} (h0 : 0 ≤ m) (h6 : m ≤ 6) (r0 : 0 ≤ r) (r6 : r ≤ 6) : bA (bts p m.toNat) (bX (bL 1 r) (-1)) = bts (fun b => p b && decide (b ≠ r)) m.toNat := by
  have e : ((r.toNat : Nat) : Int) = r := Int.toNat_of_nonneg r0
  have h1 := nbt_lt p m.toNat
  have h2 : 2 ^ m.toNat ≤ 2 ^ 6 := Nat.pow_le_pow_right (by decide) (by omega)
  have h3 := clr_pow ⟨nbt p m.toNat, by omega⟩ ⟨r.toNat, by omega⟩
  have h4 := nbt_clr (p := p) (r := r.toNat) m.toNat
  dsimp only at h3
  rw [e] at h3 h4
  rw [bts_nbt p _ (by omega), bts_nbt _ _ (by omega), h3]
  by_cases hr : r.toNat < m.toNat
  · rw [nbt_bit hr, e]
    by_cases hp : p r = true
    · rw [if_pos hp]
      rw [if_pos ⟨hr, hp⟩] at h4
      omega
    · rw [if_neg hp]
      rw [if_neg (fun q => hp q.2)] at h4
      omega
  · rw [Nat.testBit_lt_two_pow (Nat.lt_of_lt_of_le h1 (Nat.pow_le_pow_right (by decide) (by omega))), if_neg (by decide)]
    rw [if_neg (fun q => hr q.1)] at h4
    omega
section
variable {n m dk : Int} {z : Ab} {σ : St} {Q : Int → St → Prop}
def idlP (s : Sp) (z : Ab) (k : Nat) (c : Int) : Bool := (fnd (fitP s z c) k 1).isNone
theorem idlP_i {s : Sp} {z : Ab} {c i : Int} (h : 1 ≤ i) : idlP s z i.toNat c = (idlP s z (i - 1).toNat c && decide (c ≠ fllW s z i)) := by
  have e : i.toNat = (i - 1).toNat + 1 := by omega
  have e2 : 1 + (((i - 1).toNat : Nat) : Int) = i := by omega
  unfold idlP
  rw [e, fnd_snoc, e2]
  cases hf : fnd (fitP s z c) (i - 1).toNat 1 with
  | some j => rfl
  | none =>
    dsimp only
    unfold fitP
    by_cases h : fllW s z i = c
    · rw [if_pos (decide_eq_true h), decide_eq_false (p := c ≠ fllW s z i) (fun q => q h.symm)]
      rfl
    · rw [if_neg (by rw [decide_eq_false h]; decide), decide_eq_true (p := c ≠ fllW s z i) (fun q => h q.symm)]
      rfl
theorem firW_none {p : Int → Bool} {k : Nat} : firW p k = -1 ↔ (fnd p k 1).isNone = true := by
  unfold firW
  cases hf : fnd p k 1 with
  | some j =>
    have := (fnd_some hf).1
    dsimp only [Option.isNone]
    exact ⟨fun h => by omega, fun h => by cases h⟩
  | none => exact ⟨fun _ => rfl, fun _ => rfl⟩
theorem fllW_rng {s : Sp} {w : Int} (hs : SpW n m dk s) : 0 ≤ fllW s z w ∧ (fllW s z w < n ∨ fllW s z w = 6) := by
  unfold fllW
  rw [hs.1]
  exact hs.2.2.2.2.2.2.1 _ _
theorem t_X11_idle (hX : Cxt n m dk σ) (hC : StC n m σ 0 z) (k : Q (bts (idlP (spC σ 0) z 60) n.toNat) σ) : P_X11_idle σ Q := by
  have n6 := hX.spw.2.2.2.1
  unfold P_X11_idle
  refine loopI (X := Int) (F := fun n' i a => P_X11_idle_L4 Q n' a i σ) (N := n) (fun i a => a = bts (idlP (spC σ 0) z 60) i.toNat) ?_ ?_ n.toNat 0 0 FU (Int.le_refl 0) (by omega) (FU_pos (by omega)) rfl
  · rintro n' i a i0 i1 ha k'
    unfold P_X11_idle_L4
    rw [hX.2.1, if_neg (by omega), wi_id (z := i + 1) (by omega) (by omega)]
    refine t_X1_least hX hC ?_
    by_cases h : firW (fitP (spC σ 0) z i) 60 = -1
    · have h' : idlP (spC σ 0) z 60 i = true := firW_none.mp h
      rw [if_pos h]
      exact k' _ (by rw [bts_i i0, ha, h', if_pos rfl])
    · have h' : idlP (spC σ 0) z 60 i = false := Bool.eq_false_iff.mpr (fun q => h (firW_none.mpr q))
      rw [if_neg h]
      exact k' _ (by rw [bts_i i0, ha, h', if_neg (by decide)])
  · rintro n' a ha
    unfold P_X11_idle_L4
    rw [hX.2.1, if_pos (Int.le_refl n), ha]
    exact k
theorem t_X12_idle (hX : Cxt n m dk σ) (hE : ShE σ) (hC : StA n m (σ 1346 0) z) (k : ∀ σ', Sm q0A σ σ' → Q (bts (idlP (spC σ 0) z 60) n.toNat) σ') : P_X12_idle σ Q := by
  have n6 := hX.spw.2.2.2.1
  obtain ⟨hX0, hE0, hC0, s0⟩ := look0 hX hE hC
  have k := k _ s0
  have es : spC (up σ 12 0 0 0) 0 = spC σ 0 := spC_keep s0 rfl
  unfold P_X12_idle
  rw [hE0.1, hX0.2.1]
  refine loopI (X := Int) (F := fun n' i a => P_X12_idle_L18 Q n' a i (up σ 12 0 0 0)) (N := 61) (fun i a => 1 ≤ i ∧ a = bts (idlP (spC σ 0) z (i - 1).toNat) n.toNat) ?_ ?_ 60 1 (wi (bL 1 n - 1)) FU (by decide) (by omega) (FU_pos (by omega)) ⟨by decide, ?_⟩
  · rintro n' i a i0 i1 ⟨ii, ha⟩ k'
    unfold P_X12_idle_L18
    rw [if_neg (by omega), wi_id (z := i + 1) (by omega) (by omega)]
    refine t_fall12 hX0 hE0 hC0 ?_
    rw [es]
    have hr := fllW_rng (z := z) (w := i) hX.spw
    refine k' _ ⟨by omega, ?_⟩
    rw [ha, bts_clr n6.1 n6.2 hr.1 (by omega), show i + 1 - 1 = i by omega]
    exact bts_congr' (fun c c0 c1 => (idlP_i ii).symm)
  · rintro n' a ⟨ii, ha⟩
    unfold P_X12_idle_L18
    rw [if_pos (by decide), ha]
    exact k
  · exact ((bts_all n6.1 n6.2).mpr (fun c c0 c1 => rfl)).symm
/-- twins -/
def tri (k : Int) : Int := (k * (k - 1)).tdiv 2
theorem tri_pow : ∀ k : Fin 7, tri ((k.val : Int) + 1) = tri k.val + k.val ∧ 0 ≤ tri (k.val : Int) ∧ tri (k.val : Int) ≤ 15 := by decide +kernel
theorem tri_succ {k : Int} (h0 : 0 ≤ k) (h6 : k ≤ 6) : tri (k + 1) = tri k + k ∧ 0 ≤ tri k ∧ tri k ≤ 15 := by
  have := tri_pow ⟨k.toNat, by omega⟩
  dsimp only at this
  rwa [Int.toNat_of_nonneg h0] at this
theorem sm_one {f g : Int → Int} {q d : Int} (hq : 0 ≤ q) (hd : g q = f q + d) (h : ∀ b : Int, b ≠ q → g b = f b) : ∀ m : Nat, sm g m = sm f m + (if q < m then d else 0)
  | 0 => by
    show (0 : Int) = 0 + _
    rw [if_neg (by omega)]
    rfl
  | m + 1 => by
    have ih := sm_one hq hd h m
    show sm g m + g m = sm f m + f m + _
    rw [ih]
    by_cases e : (m : Int) = q
    · have e3 : q < ((m + 1 : Nat) : Int) := by omega
      have e4 : ¬ q < (m : Int) := by omega
      rw [if_pos e3, if_neg e4, e, hd]
      omega
    · rw [h _ e]
      by_cases e5 : q < (m : Int)
      · rw [if_pos e5, if_pos (by omega)]
        omega
      · rw [if_neg e5, if_neg (by omega)]
        omega
/-- pairs among the first i that fall at one counter -/
def twiW (s : Sp) (z : Ab) (n : Nat) (i : Nat) : Int := sm (fun c => tri (cnt (fllP s z c) i)) n
theorem twiW_i {s : Sp} {i : Int} (hs : SpW n m dk s) (i0 : 0 ≤ i) (i6 : i < 6) : twiW s z n.toNat (i + 1).toNat = twiW s z n.toNat i.toNat + (if fllW s z (zSize z i) < 6 then cnt (fllP s z (fllW s z (zSize z i))) i.toNat else 0) := by
  have hr := fllW_rng (z := z) (w := zSize z i) hs
  have n6 := hs.2.2.2.1
  unfold twiW
  rw [sm_one (f := fun c => tri (cnt (fllP s z c) i.toNat)) (q := fllW s z (zSize z i)) (d := cnt (fllP s z (fllW s z (zSize z i))) i.toNat) hr.1]
  · congr 1
    by_cases h : fllW s z (zSize z i) < 6
    · rw [if_pos h, if_pos (by omega)]
    · rw [if_neg h, if_neg (by omega)]
  · have hc := cnt_nonneg (fllP s z (fllW s z (zSize z i))) i.toNat
    rw [cnt_i i0, if_pos (by unfold fllP; exact decide_eq_true rfl)]
    exact (tri_succ hc.1 (by omega)).1
  · intro c hc
    rw [cnt_i i0, if_neg (by unfold fllP; rw [decide_eq_false (fun q => hc q.symm)]; decide), Int.add_zero]
theorem t_X11_twins (hX : Cxt n m dk σ) (hC : StC n m σ 0 z) (k : Q (twiW (spC σ 0) z n.toNat m.toNat) σ) : P_X11_twins σ Q := by
  have n6 := hX.spw.2.2.2.1
  have m6 := hX.spw.2.2.2.2.1
  have hk : ∀ c : Int, 0 ≤ cnt (fllP (spC σ 0) z c) m.toNat ∧ cnt (fllP (spC σ 0) z c) m.toNat ≤ 6 := fun c => by
    have := cnt_nonneg (fllP (spC σ 0) z c) m.toNat
    omega
  unfold P_X11_twins
  refine loopI (X := Int) (F := fun n' i a => P_X11_twins_L4 Q n' a i σ) (N := n) (fun i a => a = sm (fun c => tri (cnt (fllP (spC σ 0) z c) m.toNat)) i.toNat) ?_ ?_ n.toNat 0 0 FU (Int.le_refl 0) (by omega) (FU_pos (by omega)) rfl
  · rintro n' i a i0 i1 ha k'
    have hki := hk i
    have ht := (tri_succ hki.1 hki.2).2
    have hsm := sm_rng (f := fun c => tri (cnt (fllP (spC σ 0) z c) m.toNat)) (c := 15) i.toNat (fun c _ _ => (tri_succ (hk c).1 (hk c).2).2)
    unfold P_X11_twins_L4
    rw [hX.2.1, if_neg (by omega), wi_id (z := i + 1) (by omega) (by omega)]
    refine t_X1_fallers hX hC (t_bitCount m6.1 m6.2 ?_)
    have hmul : 0 ≤ cnt (fllP (spC σ 0) z i) m.toNat * (cnt (fllP (spC σ 0) z i) m.toNat - 1) ∧ cnt (fllP (spC σ 0) z i) m.toNat * (cnt (fllP (spC σ 0) z i) m.toNat - 1) ≤ 30 := by
      have : ∀ y : Fin 7, 0 ≤ (y.val : Int) * ((y.val : Int) - 1) ∧ (y.val : Int) * ((y.val : Int) - 1) ≤ 30 := by decide +kernel
      have h := this ⟨(cnt (fllP (spC σ 0) z i) m.toNat).toNat, by omega⟩
      dsimp only at h
      rwa [Int.toNat_of_nonneg hki.1] at h
    have e1 : (cnt (fllP (spC σ 0) z i) m.toNat * (cnt (fllP (spC σ 0) z i) m.toNat - 1)).tdiv 2 = tri (cnt (fllP (spC σ 0) z i) m.toNat) := rfl
    rw [wi_id (z := cnt (fllP (spC σ 0) z i) m.toNat - 1) (by omega) (by omega), wi_id (z := cnt (fllP (spC σ 0) z i) m.toNat * _) (by omega) (by omega), e1, wi_id (z := tri _) (by omega) (by omega)]
    refine k' _ ?_
    rw [ha, wi_id (by omega) (by omega)]
    have e : (i + 1).toNat = i.toNat + 1 := by omega
    have e2 : ((i.toNat : Nat) : Int) = i := Int.toNat_of_nonneg i0
    rw [e]
    show _ = sm _ i.toNat + tri (cnt (fllP (spC σ 0) z (i.toNat : Nat)) m.toNat)
    rw [e2]
  · rintro n' a ha
    unfold P_X11_twins_L4
    rw [hX.2.1, if_pos (Int.le_refl n), ha]
    exact k
theorem t_X12_twins (hX : Cxt n m dk σ) (hE : ShE σ) (hC : StA n m (σ 1346 0) z) (k : ∀ σ', Sm q0A σ σ' → Q (twiW (spC σ 0) z n.toNat m.toNat) σ') : P_X12_twins σ Q := by
  have n6 := hX.spw.2.2.2.1
  have m6 := hX.spw.2.2.2.2.1
  obtain ⟨hX0, hE0, hC0, s0⟩ := look0 hX hE hC
  have k := k _ s0
  have es : spC (up σ 12 0 0 0) 0 = spC σ 0 := spC_keep s0 rfl
  unfold P_X12_twins
  have hb : ∀ i : Nat, i ≤ 6 → 0 ≤ twiW (spC σ 0) z n.toNat i ∧ twiW (spC σ 0) z n.toNat i ≤ 90 := fun i hi => by
    have := sm_rng (f := fun c => tri (cnt (fllP (spC σ 0) z c) i)) (c := 15) n.toNat (fun c _ _ => by
      have hc := cnt_nonneg (fllP (spC σ 0) z c) i
      exact (tri_succ hc.1 (by omega)).2)
    unfold twiW
    omega
  refine loopI (X := Int) (F := fun n' i a => P_X12_twins_L9 Q n' a i (up σ 12 0 0 0)) (N := m) (fun i a => a = twiW (spC σ 0) z n.toNat i.toNat) ?_ ?_ m.toNat 0 0 FU (Int.le_refl 0) (by omega) (FU_pos (by omega)) ?_
  · rintro n' i a i0 i1 ha k'
    have ht := twiW_i (z := z) (i := i) hX.spw i0 (by omega)
    have hbi := hb i.toNat (by omega)
    unfold P_X12_twins_L9
    rw [hE0.2.1, hX0.2.2.1, if_neg (by omega), wi_id (z := i + 1) (by omega) (by omega)]
    refine loopI (X := Int) (F := fun n'' j y => P_X12_twins_L21 i (fun x1_7 σ_8 => (P_X12_twins_L9 Q n') x1_7 (i + 1) σ_8) Q n'' y j (up σ 12 0 0 0)) (N := i) (fun j y => y = a + if fllW (spC σ 0) z (zSize z i) < 6 then cnt (fllP (spC σ 0) z (fllW (spC σ 0) z (zSize z i))) j.toNat else 0) ?_ ?_ i.toNat 0 a FU (Int.le_refl 0) (by omega) (FU_pos (by omega)) ?_
    · rintro n'' j y j0 j1 hy k''
      have hcj := cnt_nonneg (fllP (spC σ 0) z (fllW (spC σ 0) z (zSize z i))) j.toNat
      have hyb : 0 ≤ y ∧ y ≤ 1000 := by
        rw [hy, ha]
        split <;> omega
      unfold P_X12_twins_L21 P_X12_twins_J54
      rw [if_neg (by omega), wi_id (z := j + 1) (by omega) (by omega)]
      refine t_X12_fallOf hX0 hE0 hC0 i0 i1 ?_
      rw [es]
      by_cases h6 : 6 ≤ fllW (spC σ 0) z (zSize z i)
      · rw [if_pos h6, Int.add_zero, wi_id (z := y) (by omega) (by omega)]
        refine k'' y ?_
        rw [if_neg (by omega)] at hy ⊢
        exact hy
      · rw [if_neg h6]
        rw [if_pos (by omega)] at hy
        refine t_X12_fallOf hX0 hE0 hC0 i0 i1 (t_X12_fallOf hX0 hE0 hC0 j0 (by omega) ?_)
        rw [es]
        by_cases he : fllW (spC σ 0) z (zSize z i) = fllW (spC σ 0) z (zSize z j)
        · rw [if_pos he, wi_id (z := y + 1) (by omega) (by omega)]
          refine k'' _ ?_
          rw [if_pos (by omega), cnt_i j0, if_pos (by unfold fllP; exact decide_eq_true he.symm), hy]
          omega
        · rw [if_neg he, Int.add_zero, wi_id (z := y) (by omega) (by omega)]
          refine k'' _ ?_
          rw [if_pos (by omega), cnt_i j0, if_neg (by unfold fllP; rw [decide_eq_false (fun q => he q.symm)]; decide), hy]
          omega
    · rintro n'' y hy
      unfold P_X12_twins_L21
      rw [if_pos (Int.le_refl i)]
      exact k' y (by rw [ht, hy, ha])
    · show a = a + if fllW (spC σ 0) z (zSize z i) < 6 then (0 : Int) else 0
      split <;> omega
  · rintro n' a ha
    unfold P_X12_twins_L9
    rw [hE0.2.1, hX0.2.2.1, if_pos (Int.le_refl m), ha]
    exact k
  · show (0 : Int) = sm (fun c => tri 0) n.toNat
    have : ∀ i : Nat, sm (fun _ => tri 0) i = 0 := fun i => by
      induction i with
      | zero => rfl
      | succ i ih =>
        show sm (fun _ => tri 0) i + tri 0 = 0
        rw [ih]
        rfl
    exact (this _).symm
end
