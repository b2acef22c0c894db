/-! 76: chance -/
/-- in how many of 10^k: k days left, g gone, size w -/
def hbo (s : Sp) (v : V4) (hm : Int → Int) (z : Ab) (b o : Int) : Nat → Nat → Int → Int
  | 0, _, w => if fllW s z w = hm b then 1 else 0
  | k + 1, g, w => o * hbo s v hm z b o k (g + 1) (wornW (s.2.2.2.2.2 b) (v w (if g = 0 then zRun z b else 0) 9 (zDay z + g)) w) +
      (10 - o) * hbo s v hm z b o k (g + 1) (wornW (s.2.2.2.2.2 b) (v w (if g = 0 then zRun z b else 0) 0 (zDay z + g)) w)
theorem ten_le : ∀ k : Nat, k ≤ 6 → (0 : Int) < 10 ^ k ∧ (10 : Int) ^ k ≤ 1000000 := by decide
theorem hbo_rng {s : Sp} {v : V4} {hm : Int → Int} {z : Ab} {b o : Int} (o0 : 0 ≤ o) (o1 : o ≤ 10) : ∀ (k g : Nat) (w : Int), 0 ≤ hbo s v hm z b o k g w ∧ hbo s v hm z b o k g w ≤ 10 ^ k
  | 0, g, w => by
    unfold hbo
    split <;> simp
  | k + 1, g, w => by
    unfold hbo
    have h1 := hbo_rng (s := s) (v := v) (hm := hm) (z := z) (b := b) o0 o1 k (g + 1) (wornW (s.2.2.2.2.2 b) (v w (if g = 0 then zRun z b else 0) 9 (zDay z + g)) w)
    have h2 := hbo_rng (s := s) (v := v) (hm := hm) (z := z) (b := b) o0 o1 k (g + 1) (wornW (s.2.2.2.2.2 b) (v w (if g = 0 then zRun z b else 0) 0 (zDay z + g)) w)
    generalize hbo s v hm z b o k (g + 1) (wornW (s.2.2.2.2.2 b) (v w (if g = 0 then zRun z b else 0) 9 (zDay z + g)) w) = A at h1
    generalize hbo s v hm z b o k (g + 1) (wornW (s.2.2.2.2.2 b) (v w (if g = 0 then zRun z b else 0) 0 (zDay z + g)) w) = B at h2
    have e : (10 : Int) ^ (k + 1) = 10 * 10 ^ k := by rw [Int.pow_succ, Int.mul_comm]
    generalize (10 : Int) ^ k = T at h1 h2 e
    rw [e]
    have a1 : o * A ≤ o * T := Int.mul_le_mul_of_nonneg_left h1.2 o0
    have a2 : (10 - o) * B ≤ (10 - o) * T := Int.mul_le_mul_of_nonneg_left h2.2 (by omega)
    have a3 : 0 ≤ o * A := Int.mul_nonneg o0 h1.1
    have a4 : 0 ≤ (10 - o) * B := Int.mul_nonneg (by omega) h2.1
    have a5 : o * T + (10 - o) * T = 10 * T := by rw [← Int.add_mul]; congr 1; omega
    omega
section
variable {n m dk : Int} {z : Ab} {σ : St}
theorem t_PHB {v : V4} {b o : Int} (hX : Cxt n m dk σ) (hW : WfZ n m dk z) (hC : StC n m σ 0 z) (hL : LwC v σ 0) (hd : zDay z < 900000) (b0 : 0 ≤ b) (b1 : b < m) (o0 : 0 ≤ o) (o1 : o ≤ 10) :
    ∀ (k f g : Nat) (w : Int) (τ : St) (Q : Int → St → Prop), k < f → k + g ≤ 6 → 1 ≤ w → w ≤ 60 → Sm [(302, 0, none)] σ τ → (∀ τ', Sm [(302, 0, none)] σ τ' → Q (hbo (spC σ 0) v (σ 906 0) z b o k g w) τ') → PHB f b w g k o τ Q
  | 0, f, g, w, τ, Q, hf, hg, w0, w1, hs, k => by
    have m6 := hX.spw.2.2.2.2.1
    obtain ⟨f, rfl, -⟩ := fu_ex hf
    have hX1 := Cxt_keep hs rfl hX
    show P_X0_homeByOdds_F (PHB f) b w g ((0 : Nat) : Int) o τ Q
    unfold P_X0_homeByOdds_F
    rw [if_neg (by decide)]
    refine t_fall0 hX1 (StC_keep hs rfl hC) ?_
    refine ⟨b0, by omega, ?_⟩
    rw [hs.row (t := 906) (i := 0) rfl, show spC τ 0 = spC σ 0 from spC_keep hs rfl]
    have k := k τ hs
    unfold hbo at k
    split <;> rename_i h
    · rwa [if_pos h] at k
    · rwa [if_neg h] at k
  | k + 1, f, g, w, τ, Q, hf, hg, w0, w1, hs, kk => by
    have m6 := hX.spw.2.2.2.2.1
    have hd0 := hW.1.1
    obtain ⟨f, rfl, hf'⟩ := fu_ex hf
    show P_X0_homeByOdds_F (PHB f) b w g ((k + 1 : Nat) : Int) o τ Q
    have eg : (((g : Nat) : Int) = 0) = (g = 0) := propext ⟨fun h => by omega, fun h => by omega⟩
    unfold P_X0_homeByOdds_F
    rw [if_pos (by omega)]
    refine t_X0_sizeNext (v := v) (StC_keep hs rfl hC) hW (LwC_keep hs rfl hL) m6.2 b0 b1 ⟨w0, w1⟩ (by omega) (by omega) ⟨by decide, by decide⟩ (fun τ1 s1 => ?_)
    have h1 := hs.tr s1
    refine t_X0_sizeNext (v := v) (StC_keep h1 rfl hC) hW (LwC_keep h1 rfl hL) m6.2 b0 b1 ⟨w0, w1⟩ (by omega) (by omega) ⟨by decide, by decide⟩ (fun τ2 s2 => ?_)
    have h2 := h1.tr s2
    rw [h1.row (t := 904) (i := 0) rfl, hs.row (t := 904) (i := 0) rfl, wi_id (z := ((g : Nat) : Int) + 1) (by omega) (by omega), wi_id (z := ((k + 1 : Nat) : Int) - 1) (by omega) (by omega), show ((k + 1 : Nat) : Int) - 1 = (k : Nat) by omega, show ((g : Nat) : Int) + 1 = ((g + 1 : Nat) : Int) by omega]
    simp only [eg]
    refine t_PHB hX hW hC hL hd b0 b1 o0 o1 k f (g + 1) _ τ2 _ (by omega) (by omega) wornW_rng.1 wornW_rng.2 h2 (fun τ3 h3 => ?_)
    refine t_PHB hX hW hC hL hd b0 b1 o0 o1 k f (g + 1) _ τ3 _ (by omega) (by omega) wornW_rng.1 wornW_rng.2 h3 (fun τ4 h4 => ?_)
    have kk := kk τ4 h4
    have hr := hbo_rng (s := spC σ 0) (v := v) (hm := σ 906 0) (z := z) (b := b) o0 o1 (k + 1) g w
    have ht := ten_le (k + 1) (by omega)
    unfold hbo at kk hr
    have ha := hbo_rng (s := spC σ 0) (v := v) (hm := σ 906 0) (z := z) (b := b) o0 o1 k (g + 1) (wornW ((spC σ 0).2.2.2.2.2 b) (v w (if g = 0 then zRun z b else 0) 9 (zDay z + g)) w)
    have hb := hbo_rng (s := spC σ 0) (v := v) (hm := σ 906 0) (z := z) (b := b) o0 o1 k (g + 1) (wornW ((spC σ 0).2.2.2.2.2 b) (v w (if g = 0 then zRun z b else 0) 0 (zDay z + g)) w)
    show Q (wi (wi (o * hbo (spC σ 0) v (σ 906 0) z b o k (g + 1) (wornW ((spC σ 0).2.2.2.2.2 b) (v w (if g = 0 then zRun z b else 0) 9 (zDay z + g)) w)) + wi (wi (10 - o) * hbo (spC σ 0) v (σ 906 0) z b o k (g + 1) (wornW ((spC σ 0).2.2.2.2.2 b) (v w (if g = 0 then zRun z b else 0) 0 (zDay z + g)) w)))) τ4
    generalize hbo (spC σ 0) v (σ 906 0) z b o k (g + 1) (wornW ((spC σ 0).2.2.2.2.2 b) (v w (if g = 0 then zRun z b else 0) 9 (zDay z + g)) w) = A at kk hr ha ⊢
    generalize hbo (spC σ 0) v (σ 906 0) z b o k (g + 1) (wornW ((spC σ 0).2.2.2.2.2 b) (v w (if g = 0 then zRun z b else 0) 0 (zDay z + g)) w) = B at kk hr hb ⊢
    have a3 : 0 ≤ o * A := Int.mul_nonneg o0 ha.1
    have a4 : 0 ≤ (10 - o) * B := Int.mul_nonneg (by omega) hb.1
    rw [wi_id (z := 10 - o) (by omega) (by omega), wi_id (z := (10 - o) * B) (by omega) (by omega), wi_id (z := o * A) (by omega) (by omega), wi_id (by omega) (by omega)]
    exact kk
def chaW (s : Sp) (m : Int) (v : V4) (hm : Int → Int) (z : Ab) (b d o : Int) : Int := if (0 ≤ b ∧ b < m) ∧ (1 ≤ d ∧ d ≤ 6) ∧ (0 ≤ o ∧ o ≤ 10) then hbo s v hm z b o d.toNat 0 (zSize z b) * 10 ^ (6 - d.toNat) else -1
theorem t_X11_chance {v : V4} {b d o : Int} {Q : Int → St → Prop} (hX : Cxt n m dk σ) (hW : WfZ n m dk z) (hC : StC n m σ 0 z) (hL : LwC v σ 0) (hd : zDay z < 900000)
    (k : ∀ σ', Sm qcB σ σ' → Q (chaW (spC σ 0) m v (σ 906 0) z b d o) σ') : P_X11_chance b d o σ Q := by
  have m6 := hX.spw.2.2.2.2.1
  unfold P_X11_chance
  unfold chaW at k
  refine t_X8_hasBall (fun b0 b1 => ?_) (fun h => ?_)
  · rw [hX.2.2.1] at b1
    rw [if_neg one_no]
    refine t_X11_within (fun d0 d1 => ?_) (fun h => ?_)
    · rw [if_neg one_no]
      refine t_X11_within (fun o0 o1 => ?_) (fun h => ?_)
      · rw [if_neg one_no]
        have hsz := (hW.2.2.2.2.2.2.2 b b0 b1).1
        unfold P_X0_millionthsHome P_X0_homeByOdds
        refine ⟨b0, by omega, ?_⟩
        rw [(hC.2.2.2.2.2.2 b b0 b1).1]
        have ed : d = ((d.toNat : Nat) : Int) := (Int.toNat_of_nonneg (by omega)).symm
        have hPHB := t_PHB (v := v) hX hW hC hL hd b0 b1 o0 o1 d.toNat 16 0 (zSize z b) σ (fun r_2 σ_1 => P_X0_millionthsHome_L22 (fun r_8 σ_7 => Q r_8 σ_7) FU r_2 d σ_1) (by omega) (by omega) hsz.1 hsz.2 Sm.rf (fun τ hs => ?_)
        · rw [← ed] at hPHB
          exact hPHB
        have k := k τ (mem_sub (A := [(302, 0, none)]) (B := qcB) rfl hs)
        rw [if_pos ⟨⟨b0, b1⟩, ⟨d0, d1⟩, o0, o1⟩] at k
        have hr := hbo_rng (s := spC σ 0) (v := v) (hm := σ 906 0) (z := z) (b := b) o0 o1 d.toNat 0 (zSize z b)
        have ht := ten_le d.toNat (by omega)
        generalize hH : hbo (spC σ 0) v (σ 906 0) z b o d.toNat 0 (zSize z b) = H at k hr
        refine loopI (X := Int) (F := fun n' i a => P_X0_millionthsHome_L22 (fun r_8 σ_7 => Q r_8 σ_7) n' a i τ) (N := 6) (fun i a => d ≤ i ∧ a = H * 10 ^ (i - d).toNat) ?_ ?_ (6 - d).toNat d H FU (by omega) (by omega) (FU_pos (by omega)) ⟨Int.le_refl d, by rw [Int.sub_self]; simp⟩
        · rintro n' i a i0 i1 ⟨di, ha⟩ k'
          unfold P_X0_millionthsHome_L22
          have e : (10 : Int) ^ (i + 1 - d).toNat = 10 ^ (i - d).toNat * 10 := by rw [show (i + 1 - d).toNat = (i - d).toNat + 1 by omega, Int.pow_succ]
          have hb : 0 ≤ a * 10 ∧ a * 10 ≤ 1000000 := by
            have q : (10 : Int) ^ d.toNat * 10 ^ (i + 1 - d).toNat = 10 ^ (i + 1).toNat := by rw [← Int.pow_add]; congr 1; omega
            have q2 := ten_le (i + 1).toNat (by omega)
            have q3 := ten_le (i + 1 - d).toNat (by omega)
            have q4 : H * 10 ^ (i + 1 - d).toNat ≤ 10 ^ d.toNat * 10 ^ (i + 1 - d).toNat := Int.mul_le_mul_of_nonneg_right hr.2 (by omega)
            have q5 : 0 ≤ H * 10 ^ (i + 1 - d).toNat := Int.mul_nonneg hr.1 (by omega)
            have q6 : a * 10 = H * 10 ^ (i + 1 - d).toNat := by rw [ha, e, Int.mul_assoc]
            omega
          rw [if_neg (by omega), wi_id (z := a * 10) (by omega) (by omega), wi_id (z := i + 1) (by omega) (by omega)]
          exact k' _ ⟨by omega, by rw [ha, e, Int.mul_assoc]⟩
        · rintro n' a ⟨di, ha⟩
          unfold P_X0_millionthsHome_L22
          rw [if_pos (Int.le_refl 6), ha, show (6 - d).toNat = 6 - d.toNat by omega]
          exact k
      · have k := k σ Sm.rf
        rw [if_neg (fun q => h q.2.2)] at k
        rw [if_pos rfl]
        exact k
    · have k := k σ Sm.rf
      rw [if_neg (fun q => h q.2.1)] at k
      rw [if_pos rfl]
      exact k
  · rw [hX.2.2.1] at h
    have k := k σ Sm.rf
    rw [if_neg (fun q => h q.1)] at k
    rw [if_pos rfl]
    exact k
/-- sums -/
def su (f : Nat → Int) : Nat → Int
  | 0 => 0
  | k + 1 => su f k + f k
theorem su_congr {f g : Nat → Int} : ∀ k : Nat, (∀ i, i < k → f i = g i) → su f k = su g k
  | 0, _ => rfl
  | k + 1, h => by
    unfold su
    rw [su_congr k (fun i hi => h i (by omega)), h k (by omega)]
theorem su_two {f : Nat → Int} : ∀ k : Nat, su f (2 * k) = su (fun y => f (2 * y) + f (2 * y + 1)) k
  | 0 => rfl
  | k + 1 => by
    show su f (2 * k + 1 + 1) = su _ k + (f (2 * k) + f (2 * k + 1))
    rw [← su_two k]
    show su f (2 * k) + f (2 * k) + f (2 * k + 1) = _
    omega
theorem su_lin {f g : Nat → Int} {p q : Int} : ∀ k : Nat, su (fun y => p * f y + q * g y) k = p * su f k + q * su g k
  | 0 => by simp [su]
  | k + 1 => by
    unfold su
    rw [su_lin k, Int.mul_add, Int.mul_add]
    omega
theorem su_rng {f : Nat → Int} {c : Int} : ∀ k : Nat, (∀ i, i < k → 0 ≤ f i ∧ f i ≤ c) → 0 ≤ su f k ∧ su f k ≤ c * k
  | 0, _ => by simp [su]
  | k + 1, h => by
    have h1 := su_rng k (fun i hi => h i (by omega))
    have h2 := h k (by omega)
    unfold su
    have : c * ((k + 1 : Nat) : Int) = c * k + c := by rw [Int.natCast_add, Int.mul_add]; simp
    omega
/-- one way of k days: x's bits say which are damp -/
def way (s : Sp) (v : V4) (hm : Int → Int) (z : Ab) (b o : Int) : Nat → Nat → Int → Nat → Int
  | 0, _, w, _ => if fllW s z w = hm b then 1 else 0
  | k + 1, g, w, x => (if x.testBit 0 then o else 10 - o) * way s v hm z b o k (g + 1) (wornW (s.2.2.2.2.2 b) (v w (if g = 0 then zRun z b else 0) (if x.testBit 0 then 9 else 0) (zDay z + g)) w) (x / 2)
theorem way_su {s : Sp} {v : V4} {hm : Int → Int} {z : Ab} {b o : Int} : ∀ (k g : Nat) (w : Int), su (way s v hm z b o k g w) (2 ^ k) = hbo s v hm z b o k g w
  | 0, g, w => by
    show 0 + _ = _
    rw [Int.zero_add]
    rfl
  | k + 1, g, w => by
    rw [Nat.pow_succ, Nat.mul_comm, su_two]
    have h0 : ∀ y : Nat, (2 * y).testBit 0 = false := fun y => by rw [Nat.testBit_zero]; simp
    have h1 : ∀ y : Nat, (2 * y + 1).testBit 0 = true := fun y => by rw [Nat.testBit_zero]; simp [Nat.add_mod]
    have e : ∀ y : Nat, way s v hm z b o (k + 1) g w (2 * y) + way s v hm z b o (k + 1) g w (2 * y + 1) =
        o * way s v hm z b o k (g + 1) (wornW (s.2.2.2.2.2 b) (v w (if g = 0 then zRun z b else 0) 9 (zDay z + g)) w) y + (10 - o) * way s v hm z b o k (g + 1) (wornW (s.2.2.2.2.2 b) (v w (if g = 0 then zRun z b else 0) 0 (zDay z + g)) w) y := fun y => by
      show (if (2 * y).testBit 0 then o else 10 - o) * way s v hm z b o k (g + 1) (wornW (s.2.2.2.2.2 b) (v w (if g = 0 then zRun z b else 0) (if (2 * y).testBit 0 then 9 else 0) (zDay z + g)) w) (2 * y / 2) + (if (2 * y + 1).testBit 0 then o else 10 - o) * way s v hm z b o k (g + 1) (wornW (s.2.2.2.2.2 b) (v w (if g = 0 then zRun z b else 0) (if (2 * y + 1).testBit 0 then 9 else 0) (zDay z + g)) w) ((2 * y + 1) / 2) = _
      rw [h0, h1, show 2 * y / 2 = y by omega, show (2 * y + 1) / 2 = y by omega]
      simp only [if_true, Bool.false_eq_true, if_false]
      omega
    rw [su_congr (2 ^ k) (fun y _ => e y), su_lin, way_su k, way_su k]
    rfl
theorem way_rng {s : Sp} {v : V4} {hm : Int → Int} {z : Ab} {b o : Int} (o0 : 0 ≤ o) (o1 : o ≤ 10) : ∀ (k g : Nat) (w : Int) (x : Nat), 0 ≤ way s v hm z b o k g w x ∧ way s v hm z b o k g w x ≤ 10 ^ k
  | 0, g, w, x => by
    unfold way
    split <;> simp
  | k + 1, g, w, x => by
    unfold way
    have h1 := way_rng (s := s) (v := v) (hm := hm) (z := z) (b := b) o0 o1 k (g + 1) (wornW (s.2.2.2.2.2 b) (v w (if g = 0 then zRun z b else 0) (if x.testBit 0 then 9 else 0) (zDay z + g)) w) (x / 2)
    generalize way s v hm z b o k (g + 1) (wornW (s.2.2.2.2.2 b) (v w (if g = 0 then zRun z b else 0) (if x.testBit 0 then 9 else 0) (zDay z + g)) w) (x / 2) = A at h1
    have e : (10 : Int) ^ (k + 1) = 10 * 10 ^ k := by rw [Int.pow_succ, Int.mul_comm]
    have hp : 0 ≤ (if x.testBit 0 then o else 10 - o) ∧ (if x.testBit 0 then o else 10 - o) ≤ 10 := by split <;> omega
    generalize (if x.testBit 0 then o else 10 - o) = P at hp
    rw [e]
    refine ⟨Int.mul_nonneg hp.1 h1.1, ?_⟩
    exact Int.mul_le_mul hp.2 h1.2 h1.1 (by decide)
/-- the reference's way: product and state behind i days -/
def wyN (o : Int) (x : Nat) : Nat → Int
  | 0 => 1
  | i + 1 => wyN o x i * (if x.testBit i then o else 10 - o)
def wyZ (s : Sp) (m : Int) (v : V4) (z : Ab) (x : Nat) : Nat → Ab
  | 0 => z
  | i + 1 => dayW s m v (if x.testBit i then 9 else 0) (wyZ s m v z x i)
theorem wyN_rng {o : Int} {x : Nat} (o0 : 0 ≤ o) (o1 : o ≤ 10) : ∀ i : Nat, 0 ≤ wyN o x i ∧ wyN o x i ≤ 10 ^ i
  | 0 => by simp [wyN]
  | i + 1 => by
    have h := wyN_rng (x := x) o0 o1 i
    unfold wyN
    have hp : 0 ≤ (if x.testBit i then o else 10 - o) ∧ (if x.testBit i then o else 10 - o) ≤ 10 := by split <;> omega
    generalize (if x.testBit i then o else 10 - o) = P at hp
    refine ⟨Int.mul_nonneg h.1 hp.1, ?_⟩
    rw [Int.pow_succ]
    exact Int.mul_le_mul h.2 hp.2 hp.1 (Int.le_trans h.1 h.2)
theorem wyZ_ok {s : Sp} {v : V4} {x : Nat} (hs : SpW n m dk s) (hW : WfZ n m dk z) (hd : zDay z < 900000) : ∀ i : Nat, i ≤ 6 → WfZ n m dk (wyZ s m v z x i) ∧ zDay (wyZ s m v z x i) = zDay z + i ∧ zGap (wyZ s m v z x i) = zGap z ∧ ∀ b, zRun (wyZ s m v z x i) b = if i = 0 then zRun z b else 0
  | 0, _ => ⟨hW, by show zDay z = _; simp, rfl, fun _ => rfl⟩
  | i + 1, h => by
    obtain ⟨h1, h2, h3, h4⟩ := wyZ_ok (v := v) (x := x) hs hW hd i (by omega)
    refine ⟨WfZ_day hs h1 (by omega), ?_, ?_, fun b => rfl⟩
    · show zDay (dayW _ _ _ _ _) = _
      rw [dy_day, h2]
      omega
    · show zGap (dayW _ _ _ _ _) = _
      rw [dy_gap, h3]
theorem wy_way {s : Sp} {v : V4} {hm : Int → Int} {b o : Int} {x d : Nat} (hs : SpW n m dk s) (hW : WfZ n m dk z) (hd : zDay z < 900000) (hd6 : d ≤ 6) : ∀ i : Nat, i ≤ d → way s v hm z b o d 0 (zSize z b) x = wyN o x i * way s v hm z b o (d - i) i (zSize (wyZ s m v z x i) b) (x >>> i)
  | 0, _ => by
    show _ = 1 * way s v hm z b o d 0 (zSize z b) x
    rw [Int.one_mul]
  | i + 1, h => by
    obtain ⟨h1, h2, h3, h4⟩ := wyZ_ok (v := v) (x := x) hs hW hd i (by omega)
    rw [wy_way hs hW hd hd6 i (by omega), show d - i = (d - (i + 1)) + 1 by omega]
    have e1 : (x >>> i).testBit 0 = x.testBit i := by rw [Nat.testBit_shiftRight]; simp
    have e2 : (x >>> i) / 2 = x >>> (i + 1) := (Nat.shiftRight_succ x i).symm
    show wyN o x i * ((if (x >>> i).testBit 0 then o else 10 - o) * way s v hm z b o (d - (i + 1)) (i + 1) (wornW (s.2.2.2.2.2 b) (v (zSize (wyZ s m v z x i) b) (if i = 0 then zRun z b else 0) (if (x >>> i).testBit 0 then 9 else 0) (zDay z + i)) (zSize (wyZ s m v z x i) b)) ((x >>> i) / 2)) =
      wyN o x i * (if x.testBit i then o else 10 - o) * way s v hm z b o (d - (i + 1)) (i + 1) (zSize (dayW s m v (if x.testBit i then 9 else 0) (wyZ s m v z x i)) b) (x >>> (i + 1))
    rw [e1, e2, dy_size, h2, h4, Int.mul_assoc]
theorem t_X12_chance {v : V4} {b d o : Int} {Q : Int → St → Prop} (hB : Bas n m dk v z σ)
    (k : ∀ σ', Sm qrB σ σ' → StA n m (σ' 1346 0) z → Q (chaW (spC σ 0) m v (σ 906 0) z b d o) σ') : P_X12_chance b d o σ Q := by
  have m6 := hB.1.spw.2.2.2.2.1
  obtain ⟨hB0, s0⟩ := Bas_look hB
  have hW := hB.2.2.1
  have hd := hB.2.2.2.2.2
  unfold P_X12_chance
  unfold chaW at k
  refine t_X12_isBall (m := m) (by rw [hB0.2.1.2.1]; exact hB0.1.2.2.1) (fun b0 b1 => ?_) (fun h => ?_)
  · rw [if_neg one_no]
    refine t_X12_within (fun d0 d1 => ?_) (fun h => ?_)
    · rw [if_neg one_no]
      refine t_X12_within (fun o0 o1 => ?_) (fun h => ?_)
      · rw [if_neg one_no]
        refine loopI (X := Int) (F := fun n' i a => P_X12_chance_L44 b d o 0 (fun x6_7 σ_8 => P_X12_copies 1346 0 0 1348 0 0 σ_8 (fun σ_9 => P_X12_chance_L80 b d o x6_7 Q FU 0 0 σ_9)) Q n' a i (up σ 12 0 0 0)) (N := d) (fun i a => a = 10 ^ i.toNat) ?_ ?_ d.toNat 0 1 FU (Int.le_refl 0) (by omega) (FU_pos (by omega)) rfl
        · rintro n' i a i0 i1 ha k'
          have ht := ten_le i.toNat (by omega)
          unfold P_X12_chance_L44
          rw [if_neg (by omega), wj_id (z := a * 10) (by omega) (by omega), wi_id (z := i + 1) (by omega) (by omega)]
          exact k' _ (by rw [ha, show (i + 1).toNat = i.toNat + 1 by omega, Int.pow_succ])
        rintro n' a ha
        unfold P_X12_chance_L44
        rw [if_pos (Int.le_refl d)]
        refine t_Bas_aside hB0 (fun σ1 s1 hB1 c1 => ?_)
        have s01 : Sm qrB σ σ1 := (mem_sub (B := qrB) rfl s0).tr (mem_sub (B := qrB) rfl s1)
        have es : spC σ1 0 = spC σ 0 := spC_keep s01 rfl
        have hX1 := hB1.1
        have hE1 := hB1.2.1
        have hL1 := hB1.2.2.2.2.1
        have hsp := hX1.spw
        have hshift : bL 1 d = ((2 ^ d.toNat : Nat) : Int) := by
          have h7 : ∀ i : Fin 7, bL 1 (i.val : Int) = ((2 ^ i.val : Nat) : Int) := by decide +kernel
          have := h7 ⟨d.toNat, by omega⟩
          dsimp only at this
          rwa [Int.toNat_of_nonneg (show 0 ≤ d by omega)] at this
        have h64 : 2 ^ d.toNat ≤ 64 := Nat.pow_le_pow_right (n := 2) (i := d.toNat) (j := 6) (by decide) (by omega)
        have h906 : σ1 906 0 = σ 906 0 := s01.row rfl
        have way_r := fun x => way_rng (s := spC σ1 0) (v := v) (hm := σ 906 0) (z := z) (b := b) o0 o1 d.toNat 0 (zSize z b) x
        have ht6 := ten_le d.toNat (by omega)
        refine loopI (X := Int × St) (F := fun n' i a' => P_X12_chance_L80 b d o a Q n' a'.1 i a'.2) (N := ((2 ^ d.toNat : Nat) : Int)) (fun i a' => Sm qrB σ a'.2 ∧ a'.2 1348 0 = σ1 1348 0 ∧ StA n m (a'.2 1346 0) z ∧ a'.1 = su (way (spC σ1 0) v (σ 906 0) z b o d.toNat 0 (zSize z b)) i.toNat) ?_ ?_ (2 ^ d.toNat) 0 (0, σ1) FU (Int.le_refl 0) (by omega) (FU_pos (by omega)) ⟨s01, rfl, hB1.2.2.2.1, rfl⟩
        · rintro n2 i ⟨x4, τ⟩ i0 i1 ⟨hs, e48, hc, hx⟩ k2
          dsimp only at hs e48 hc hx k2 ⊢
          have hsu := su_rng (f := way (spC σ1 0) v (σ 906 0) z b o d.toNat 0 (zSize z b)) (c := 10 ^ d.toNat) i.toNat (fun j _ => way_r j)
          have hsu2 : (10 : Int) ^ d.toNat * (i.toNat : Int) ≤ 1000000 * 64 := Int.mul_le_mul ht6.2 (by omega) (by omega) (by decide)
          unfold P_X12_chance_L80
          rw [hshift, if_neg (by omega)]
          refine loopI (X := Int × St) (F := fun n3 j a' => P_X12_chance_L94 b d o x4 a i (fun x9_12 σ_13 => P_X12_fallOf b σ_13 (fun r_15 σ_14 => 0 ≤ b ∧ b < 12 ∧ (if r_15 = (σ_14 1317 0 b) then P_X12_chance_J181 b d o (wj (x4 + x9_12)) a i (P_X12_chance_L80 b d o a Q n2) Q σ_14 else P_X12_chance_J181 b d o x4 a i (P_X12_chance_L80 b d o a Q n2) Q σ_14))) Q n3 a'.1 j a'.2) (N := d) (fun j a' => Sm qrB σ a'.2 ∧ a'.2 1348 0 = σ1 1348 0 ∧ StA n m (a'.2 1346 0) (wyZ (spC σ1 0) m v z i.toNat j.toNat) ∧ a'.1 = wyN o i.toNat j.toNat) ?_ ?_ d.toNat 0 (1, τ) FU (Int.le_refl 0) (by omega) (FU_pos (by omega)) ⟨hs, e48, hc, rfl⟩
          · rintro n3 j ⟨x9, υ⟩ j0 j1 ⟨hs3, e483, hc3, hx3⟩ k3
            dsimp only at hs3 e483 hc3 hx3 k3 ⊢
            have hok := wyZ_ok (v := v) (x := i.toNat) hsp hW hd j.toNat (by omega)
            have hN := wyN_rng (x := i.toNat) o0 o1 j.toNat
            have ht := ten_le j.toNat (by omega)
            have hbit : bA (bR i j) 1 = if i.toNat.testBit j.toNat then 1 else 0 := by
              have := bit_pow ⟨i.toNat, by omega⟩ ⟨j.toNat, by omega⟩
              dsimp only at this
              rwa [Int.toNat_of_nonneg i0, Int.toNat_of_nonneg j0] at this
            have hX3 := Cxt_keep hs3 rfl hB.1
            have hE3 := ShE_keep hs3 rfl hB.2.1
            have hL3 := LwA_keep hs3 rfl hB.2.2.2.2.1
            have es3 : spC υ 0 = spC σ1 0 := by rw [es]; exact spC_keep hs3 rfl
            unfold P_X12_chance_L94 P_X12_chance_J116 P_X12_chance_J135 P_X12_chance_J150
            rw [if_neg (by omega), hbit, wi_id (z := j + 1) (by omega) (by omega), wi_id (z := 10 - o) (by omega) (by omega)]
            cases ht2 : i.toNat.testBit j.toNat
            · have e9 : wyN o i.toNat (j + 1).toNat = wyN o i.toNat j.toNat * (10 - o) := by
                rw [show (j + 1).toNat = j.toNat + 1 by omega]; show _ * (if i.toNat.testBit j.toNat then o else 10 - o) = _; rw [ht2]; rfl
              have eZ : wyZ (spC σ1 0) m v z i.toNat (j + 1).toNat = dayW (spC σ1 0) m v 0 (wyZ (spC σ1 0) m v z i.toNat j.toNat) := by
                rw [show (j + 1).toNat = j.toNat + 1 by omega]; show dayW _ _ _ (if i.toNat.testBit j.toNat then 9 else 0) _ = _; rw [ht2]; rfl
              have q1 : 0 ≤ x9 * (10 - o) := Int.mul_nonneg (by omega) (by omega)
              have q2 : x9 * (10 - o) ≤ 1000000 * 10 := Int.mul_le_mul (by omega) (by omega) (by omega) (by decide)
              rw [if_neg (by decide), if_pos rfl, if_pos rfl, wj_id (z := x9 * (10 - o)) (by omega) (by omega)]
              refine t_X12_ends hX3 hE3 hok.1 hc3 hL3 (by omega) ⟨by decide, by decide⟩ (fun ω sω cω _ => ?_)
              rw [es3] at cω
              exact k3 (_, ω) ⟨hs3.tr (mem_sub (B := qrB) rfl sω), by dsimp only; rw [sω.row (t := 1348) (i := 0) rfl]; exact e483, by rw [eZ]; exact cω, by dsimp only; rw [e9, hx3]⟩
            · have e9 : wyN o i.toNat (j + 1).toNat = wyN o i.toNat j.toNat * o := by
                rw [show (j + 1).toNat = j.toNat + 1 by omega]; show _ * (if i.toNat.testBit j.toNat then o else 10 - o) = _; rw [ht2]; rfl
              have eZ : wyZ (spC σ1 0) m v z i.toNat (j + 1).toNat = dayW (spC σ1 0) m v 9 (wyZ (spC σ1 0) m v z i.toNat j.toNat) := by
                rw [show (j + 1).toNat = j.toNat + 1 by omega]; show dayW _ _ _ (if i.toNat.testBit j.toNat then 9 else 0) _ = _; rw [ht2]; rfl
              have q1 : 0 ≤ x9 * o := Int.mul_nonneg (by omega) (by omega)
              have q2 : x9 * o ≤ 1000000 * 10 := Int.mul_le_mul (by omega) (by omega) (by omega) (by decide)
              rw [if_pos rfl, if_pos rfl, if_neg (by decide), if_neg (by decide), wj_id (z := x9 * o) (by omega) (by omega)]
              refine t_X12_ends hX3 hE3 hok.1 hc3 hL3 (by omega) ⟨by decide, by decide⟩ (fun ω sω cω _ => ?_)
              rw [es3] at cω
              exact k3 (_, ω) ⟨hs3.tr (mem_sub (B := qrB) rfl sω), by dsimp only; rw [sω.row (t := 1348) (i := 0) rfl]; exact e483, by rw [eZ]; exact cω, by dsimp only; rw [e9, hx3]⟩
          · rintro n3 ⟨x9, υ⟩ ⟨hs3, e483, hc3, hx3⟩
            dsimp only at hs3 e483 hc3 hx3 ⊢
            have hok := wyZ_ok (v := v) (x := i.toNat) hsp hW hd d.toNat (by omega)
            have hN := wyN_rng (x := i.toNat) o0 o1 d.toNat
            have hX3 := Cxt_keep hs3 rfl hB.1
            have hE3 := ShE_keep hs3 rfl hB.2.1
            have es3 : spC υ 0 = spC σ1 0 := by rw [es]; exact spC_keep hs3 rfl
            have hwy := wy_way (v := v) (hm := σ 906 0) (b := b) (o := o) (x := i.toNat) hsp hW hd (d := d.toNat) (by omega) d.toNat (Nat.le_refl _)
            rw [Nat.sub_self] at hwy
            have hw0 : way (spC σ1 0) v (σ 906 0) z b o 0 d.toNat (zSize (wyZ (spC σ1 0) m v z i.toNat d.toNat) b) (i.toNat >>> d.toNat) = if fllW (spC σ1 0) z (zSize (wyZ (spC σ1 0) m v z i.toNat d.toNat) b) = σ 906 0 b then 1 else 0 := rfl
            rw [hw0, ← hx3] at hwy
            have efl : fllW (spC σ1 0) (wyZ (spC σ1 0) m v z i.toNat d.toNat) (zSize (wyZ (spC σ1 0) m v z i.toNat d.toNat) b) = fllW (spC σ1 0) z (zSize (wyZ (spC σ1 0) m v z i.toNat d.toNat) b) := by unfold fllW; rw [hok.2.2.1]
            have e17 : υ 1317 0 b = σ 906 0 b := by
              rw [(hE3.2.2.2.2.2.1 b b0 (by rw [hX3.2.2.1]; exact b1)).2.2, hs3.row (t := 906) (i := 0) rfl]
            have fin : ∀ y : Int, y = x4 + way (spC σ1 0) v (σ 906 0) z b o d.toNat 0 (zSize z b) i.toNat → P_X12_chance_J181 b d o y a i (P_X12_chance_L80 b d o a Q n2) Q υ := by
              intro y hy
              unfold P_X12_chance_J181
              rw [wi_id (z := i + 1) (by omega) (by omega)]
              refine t_asback (t := 1348) (z := z) rfl rfl hX3 hW (by rw [e483]; exact c1) (fun ω sω cω => ?_)
              refine k2 (y, ω) ⟨hs3.tr (mem_sub (B := qrB) rfl sω), ?_, cω, ?_⟩
              · dsimp only
                rw [sω.row (t := 1348) (i := 0) rfl]; exact e483
              · dsimp only
                rw [show (i + 1).toNat = i.toNat + 1 by omega, hy, hx]
                rfl
            unfold P_X12_chance_L94
            rw [if_pos (Int.le_refl d)]
            refine t_X12_fallOf hX3 hE3 hc3 b0 b1 ?_
            rw [es3, efl, e17]
            refine ⟨b0, by omega, ?_⟩
            by_cases h : fllW (spC σ1 0) z (zSize (wyZ (spC σ1 0) m v z i.toNat d.toNat) b) = σ 906 0 b
            · rw [if_pos h]
              rw [if_pos h, Int.mul_one] at hwy
              refine fin _ ?_
              rw [wj_id (by omega) (by omega), hwy]
            · rw [if_neg h]
              rw [if_neg h, Int.mul_zero] at hwy
              refine fin _ ?_
              rw [hwy, Int.add_zero]
        · rintro n2 ⟨x4, τ⟩ ⟨hs, e48, hc, hx⟩
          dsimp only at hs e48 hc hx ⊢
          have hx : x4 = su (way (spC σ1 0) v (σ 906 0) z b o d.toNat 0 (zSize z b)) (2 ^ d.toNat) := by
            rw [hx]
            congr 1
          rw [way_su, es] at hx
          have hr := hbo_rng (s := spC σ 0) (v := v) (hm := σ 906 0) (z := z) (b := b) o0 o1 d.toNat 0 (zSize z b)
          unfold P_X12_chance_L80
          rw [hshift, if_pos (Int.le_refl _)]
          have k := k τ hs hc
          rw [if_pos ⟨⟨b0, b1⟩, ⟨d0, d1⟩, o0, o1⟩, ← hx] at k
          rw [← hx] at hr
          refine ⟨by rw [ha]; omega, ?_⟩
          rw [wj_id (z := x4 * 1000000) (by omega) (by omega)]
          have eq : (x4 * 1000000).tdiv a = x4 * 10 ^ (6 - d.toNat) := by
            have e6 : (10 : Int) ^ (6 - d.toNat) * 10 ^ d.toNat = 1000000 := by
              rw [← Int.pow_add, show 6 - d.toNat + d.toNat = 6 by omega]
              decide
            rw [ha, ← e6, ← Int.mul_assoc]
            exact Int.mul_tdiv_cancel _ (by omega)
          have hbb : 0 ≤ x4 * 10 ^ (6 - d.toNat) ∧ x4 * 10 ^ (6 - d.toNat) ≤ 1000000 := by
            have q3 := ten_le (6 - d.toNat) (by omega)
            have e6 : (10 : Int) ^ d.toNat * 10 ^ (6 - d.toNat) = 1000000 := by
              rw [← Int.pow_add, show d.toNat + (6 - d.toNat) = 6 by omega]
              decide
            have q4 : x4 * 10 ^ (6 - d.toNat) ≤ 10 ^ d.toNat * 10 ^ (6 - d.toNat) := Int.mul_le_mul_of_nonneg_right hr.2 (by omega)
            have q5 : 0 ≤ x4 * 10 ^ (6 - d.toNat) := Int.mul_nonneg hr.1 (by omega)
            omega
          rw [eq, wj_id (by omega) (by omega), wi_id (by omega) (by omega)]
          exact k
      · have k := k _ (mem_sub (B := qrB) rfl s0) hB0.2.2.2.1
        rw [if_neg (fun q => h q.2.2)] at k
        rw [if_pos rfl]
        exact k
    · have k := k _ (mem_sub (B := qrB) rfl s0) hB0.2.2.2.1
      rw [if_neg (fun q => h q.2.1)] at k
      rw [if_pos rfl]
      exact k
  · have k := k _ (mem_sub (B := qrB) rfl s0) hB0.2.2.2.1
    rw [if_neg (fun q => h q.1)] at k
    rw [if_pos rfl]
    exact k
end
