/-! 41: shops. The class's shop o: fields (8, o), rows 900 .. 908; the reference's: rows 1310 .. 1318, 1353 (what stands in force: places 0 .. 5, 0 .. 11). -/
/-- a sound shop of the class -/
def ShC (σ : St) (o : Nat) : Prop :=
  (0 ≤ σ 8 o 10 ∧ σ 8 o 10 ≤ 6) ∧ (0 ≤ σ 8 o 11 ∧ σ 8 o 11 ≤ 6) ∧ (0 ≤ σ 8 o 12 ∧ σ 8 o 12 ≤ 12) ∧ (1 ≤ σ 8 o 13 ∧ σ 8 o 13 ≤ 9) ∧
  (∀ c : Int, 0 ≤ c → c < σ 8 o 10 → (1 ≤ σ 900 o c ∧ σ 900 o c ≤ 20) ∧ (0 ≤ σ 901 o c ∧ σ 901 o c ≤ 60) ∧ (0 ≤ σ 903 o c ∧ σ 903 o c < σ 8 o 10)) ∧
  (∀ b : Int, 0 ≤ b → b < σ 8 o 11 → (0 ≤ σ 904 o b ∧ σ 904 o b ≤ 3) ∧ (1 ≤ σ 905 o b ∧ σ 905 o b ≤ 60) ∧ (0 ≤ σ 906 o b ∧ σ 906 o b < σ 8 o 10)) ∧
  (∀ d : Int, 0 ≤ d → d < σ 8 o 12 → 0 ≤ σ 908 o d ∧ σ 908 o d ≤ 9)
/-- the places along the rail rise -/
def RaC (σ : St) (o : Nat) : Prop := ∀ i j : Int, 0 ≤ i → i < j → j < σ 8 o 10 → σ 900 o (σ 903 o i) < σ 900 o (σ 903 o j)
/-- the reference's shop in force is the class's -/
def ShE (σ : St) : Prop :=
  σ 1310 0 0 = σ 8 0 10 ∧ σ 1310 0 1 = σ 8 0 11 ∧ σ 1310 0 2 = σ 8 0 13 ∧ σ 1310 0 3 = σ 8 0 12 ∧
  (∀ c : Int, 0 ≤ c → c < σ 8 0 10 → σ 1313 0 c = σ 900 0 c ∧ σ 1314 0 c = σ 901 0 c ∧ σ 1353 0 c = σ 903 0 c) ∧
  (∀ b : Int, 0 ≤ b → b < σ 8 0 11 → σ 1315 0 b = σ 904 0 b ∧ σ 1316 0 b = σ 905 0 b ∧ σ 1317 0 b = σ 906 0 b) ∧
  (∀ d : Int, 0 ≤ d → d < σ 8 0 12 → σ 1318 0 d = σ 908 0 d)
/-- where a size falls: rail r of n counters, gaps g -/
def falW (n : Int) (r g : Int → Int) (w : Int) : Int := match fnd (fun i => decide (w ≤ g (r i))) n.toNat 0 with
  | none => 6
  | some i => r i
theorem falW_congr {n : Int} {r r' g g' : Int → Int} {w : Int} (h : ∀ i : Int, 0 ≤ i → i < n → r i = r' i ∧ g (r i) = g' (r i)) : falW n r g w = falW n r' g' w := by
  unfold falW
  have e : fnd (fun i => decide (w ≤ g (r i))) n.toNat 0 = fnd (fun i => decide (w ≤ g' (r' i))) n.toNat 0 := fnd_congr _ _ (fun j h1 h2 => by rw [(h j h1 (by omega)).2, (h j h1 (by omega)).1])
  rw [e]
  cases h2 : fnd (fun i => decide (w ≤ g' (r' i))) n.toNat 0 with
  | none => rfl
  | some i =>
    obtain ⟨q1, q2, -, -⟩ := fnd_some h2
    exact (h i q1 (by omega)).1
theorem falW_rng {n : Int} {r g : Int → Int} {w : Int} (h0 : 0 ≤ n) (h6 : n ≤ 6) (h : ∀ i : Int, 0 ≤ i → i < n → 0 ≤ r i ∧ r i < n) : 0 ≤ falW n r g w ∧ falW n r g w ≤ 6 ∧ (falW n r g w < n ∨ falW n r g w = 6) := by
  unfold falW
  cases h2 : fnd (fun i => decide (w ≤ g (r i))) n.toNat 0 with
  | none => exact ⟨show (0 : Int) ≤ 6 by decide, show (6 : Int) ≤ 6 by decide, Or.inr rfl⟩
  | some i =>
    obtain ⟨q1, q2, -, -⟩ := fnd_some h2
    have := h i q1 (by omega)
    exact ⟨this.1, by show r i ≤ 6; omega, Or.inl this.2⟩
theorem t_X8_fall {o t2 o2 : Nat} {w : Int} {σ : St} {Q : Int → St → Prop} (hS : ShC σ o) (hs : shp t2 = (0, 6)) (k : Q (falW (σ 8 o 10) (σ 903 o) (σ t2 o2) w) σ) : P_X8_fall o w t2 o2 σ Q := by
  obtain ⟨⟨n0, n6⟩, -, -, -, hc, -⟩ := hS
  unfold P_X8_fall
  refine findF (F := fun n i => P_X8_fall_L2 o w t2 o2 Q n i σ) (N := σ 8 o 10) (K0 := Q 6 σ) (K := fun i => Q (σ 903 o i) σ) (p := fun i => decide (w ≤ σ t2 o2 (σ 903 o i))) (fun n i h0 h1 => ?_) (fun n k => ?_) (σ 8 o 10).toNat 0 FU (Int.le_refl 0) (by omega) (FU_pos (by omega)) ?_
  · obtain ⟨-, -, r0, r1⟩ := hc i h0 h1
    refine ⟨fun hp k => ?_, fun hp k => ?_⟩
    · have hp := of_decide_eq_true hp
      unfold P_X8_fall_L2
      rw [if_neg (by omega), if_neg (by omega), hs]
      exact ⟨h0, by omega, rfl, r0, by show σ 903 o i < 6; omega, h0, by omega, k⟩
    · have hp := of_decide_eq_false hp
      unfold P_X8_fall_L2
      rw [if_neg (by omega), if_pos (by omega), hs, wi_id (by omega) (by omega)]
      exact ⟨h0, by omega, rfl, r0, by show σ 903 o i < 6; omega, k⟩
  · unfold P_X8_fall_L2
    rw [if_pos (Int.le_refl _)]
    exact k
  · unfold falW at k
    split <;> rename_i h <;> rw [h] at k <;> exact k
theorem t_X12_fallsBy {w : Int} {σ : St} {Q : Int → St → Prop} (hS : ShC σ 0) (hE : ShE σ) (k : Q (falW (σ 8 0 10) (σ 903 0) (fun c => σ 1346 0 (10 + c)) w) σ) : P_X12_fallsBy w σ Q := by
  obtain ⟨⟨n0, n6⟩, -, -, -, hc, -⟩ := hS
  obtain ⟨e0, -, -, -, ec, -⟩ := hE
  unfold P_X12_fallsBy
  refine findF (F := fun n i => P_X12_fallsBy_L2 w Q n i σ) (N := σ 8 0 10) (K0 := Q 6 σ) (K := fun i => Q (σ 903 0 i) σ) (p := fun i => decide (w ≤ σ 1346 0 (10 + σ 903 0 i))) (fun n i h0 h1 => ?_) (fun n k => ?_) (σ 8 0 10).toNat 0 FU (Int.le_refl 0) (by omega) (FU_pos (by omega)) ?_
  · obtain ⟨-, -, r0, r1⟩ := hc i h0 h1
    have er := (ec i h0 h1).2.2
    refine ⟨fun hp k => ?_, fun hp k => ?_⟩
    · have hp := of_decide_eq_true hp
      unfold P_X12_fallsBy_L2
      rw [e0, er, if_neg (by omega), wi_id (z := 10 + σ 903 0 i) (by omega) (by omega), if_neg (by omega)]
      exact ⟨h0, by omega, by omega, by omega, h0, by omega, k⟩
    · have hp := of_decide_eq_false hp
      unfold P_X12_fallsBy_L2
      rw [e0, er, if_neg (by omega), wi_id (z := 10 + σ 903 0 i) (by omega) (by omega), if_pos (by omega), wi_id (by omega) (by omega)]
      exact ⟨h0, by omega, by omega, by omega, k⟩
  · unfold P_X12_fallsBy_L2
    rw [e0, if_pos (Int.le_refl _)]
    exact k
  · unfold falW at k
    split <;> rename_i h <;> rw [h] at k <;> exact k
/-- beats from the desk to a counter or the pit (6) -/
def btoW (n : Int) (pl r kd : Int → Int) (b c : Int) : Int := (if c < n then pl c else if 0 < n then pl (r (n - 1)) + 1 else 1) * (if kd b = 3 then 2 else 1)
theorem one_no : ¬ (1 : Int) = 0 := by decide
theorem t_X8_hasCounter {o : Nat} {c : Int} {σ : St} {Q : Int → St → Prop} (k1 : 0 ≤ c → c < σ 8 o 10 → Q 1 σ) (k0 : ¬ (0 ≤ c ∧ c < σ 8 o 10) → Q 0 σ) : P_X8_hasCounter o c σ Q := by
  unfold P_X8_hasCounter P_X8_hasCounter_J16
  split
  · exact k0 (by omega)
  · split
    · exact k0 (by omega)
    · exact k1 (by omega) (by omega)
theorem t_X8_hasBall {o : Nat} {b : Int} {σ : St} {Q : Int → St → Prop} (k1 : 0 ≤ b → b < σ 8 o 11 → Q 1 σ) (k0 : ¬ (0 ≤ b ∧ b < σ 8 o 11) → Q 0 σ) : P_X8_hasBall o b σ Q := by
  unfold P_X8_hasBall P_X8_hasBall_J16
  split
  · exact k0 (by omega)
  · split
    · exact k0 (by omega)
    · exact k1 (by omega) (by omega)
theorem btoW_rng {σ : St} {o : Nat} (hS : ShC σ o) {b c : Int} (hc0 : 0 ≤ c) : 1 ≤ btoW (σ 8 o 10) (σ 900 o) (σ 903 o) (σ 904 o) b c ∧ btoW (σ 8 o 10) (σ 900 o) (σ 903 o) (σ 904 o) b c ≤ 42 := by
  obtain ⟨⟨n0, n6⟩, -, -, -, hc, -⟩ := hS
  have hp : 1 ≤ (if c < σ 8 o 10 then σ 900 o c else if 0 < σ 8 o 10 then σ 900 o (σ 903 o (σ 8 o 10 - 1)) + 1 else 1) ∧ (if c < σ 8 o 10 then σ 900 o c else if 0 < σ 8 o 10 then σ 900 o (σ 903 o (σ 8 o 10 - 1)) + 1 else 1) ≤ 21 := by
    split
    · rename_i h
      have := (hc c hc0 h).1
      omega
    · split
      · rename_i h
        have h1 := (hc (σ 8 o 10 - 1) (by omega) (by omega)).2.2
        have := (hc _ h1.1 h1.2).1
        omega
      · omega
  unfold btoW
  generalize (if c < σ 8 o 10 then σ 900 o c else if 0 < σ 8 o 10 then σ 900 o (σ 903 o (σ 8 o 10 - 1)) + 1 else 1) = v at hp
  split <;> omega
theorem t_X8_beatsTo {o : Nat} {b c : Int} {σ : St} {Q : Int → St → Prop} (hS : ShC σ o) (hb : 0 ≤ b) (hb6 : b < 6) (hc0 : 0 ≤ c) (k : Q (btoW (σ 8 o 10) (σ 900 o) (σ 903 o) (σ 904 o) b c) σ) : P_X8_beatsTo o b c σ Q := by
  have hr := btoW_rng hS (b := b) hc0
  obtain ⟨⟨n0, n6⟩, -, -, -, hc, -⟩ := hS
  unfold P_X8_beatsTo
  unfold btoW at k hr
  refine t_X8_hasCounter (fun _ h1 => ?_) (fun h1 => ?_)
  · rw [if_neg one_no]
    rw [if_pos h1] at k hr
    refine ⟨hc0, by omega, ?_⟩
    unfold P_X8_beatsTo_J46
    refine ⟨hb, hb6, ?_⟩
    split at k <;> rename_i hk
    · rw [if_pos hk] at hr
      rw [if_pos hk, wi_id (by omega) (by omega), Int.mul_comm]
      exact k
    · rw [if_neg hk]
      rwa [Int.mul_one] at k
  · have h1 : ¬ c < σ 8 o 10 := fun q => h1 ⟨hc0, q⟩
    rw [if_pos rfl]
    rw [if_neg h1] at k hr
    by_cases h2 : 0 < σ 8 o 10
    · rw [if_neg (by omega)]
      rw [if_pos h2] at k hr
      have h3 := (hc (σ 8 o 10 - 1) (by omega) (by omega)).2.2
      have h4 := (hc _ h3.1 h3.2).1
      rw [wi_id (z := σ 8 o 10 - 1) (by omega) (by omega)]
      refine ⟨by omega, by omega, h3.1, by omega, ?_⟩
      rw [wi_id (z := σ 900 o (σ 903 o (σ 8 o 10 - 1)) + 1) (by omega) (by omega)]
      unfold P_X8_beatsTo_J46
      refine ⟨hb, hb6, ?_⟩
      split at k <;> rename_i hk
      · rw [if_pos hk] at hr
        rw [if_pos hk, wi_id (by omega) (by omega), Int.mul_comm]
        exact k
      · rw [if_neg hk]
        rwa [Int.mul_one] at k
    · rw [if_pos (by omega)]
      rw [if_neg h2] at k hr
      unfold P_X8_beatsTo_J46
      refine ⟨hb, hb6, ?_⟩
      split at k <;> rename_i hk
      · rw [if_pos hk]
        exact k
      · rw [if_neg hk]
        exact k
theorem t_X12_beatsTo {b c : Int} {σ : St} {Q : Int → St → Prop} (hS : ShC σ 0) (hE : ShE σ) (hb : 0 ≤ b) (hb6 : b < σ 8 0 11) (hc0 : 0 ≤ c) (hc6 : c < σ 8 0 10 ∨ c = 6) (k : Q (btoW (σ 8 0 10) (σ 900 0) (σ 903 0) (σ 904 0) b c) σ) : P_X12_beatsTo b c σ Q := by
  have hr := btoW_rng hS (b := b) hc0
  obtain ⟨⟨n0, n6⟩, ⟨m0, m6⟩, -, -, hc, -⟩ := hS
  obtain ⟨e0, -, -, -, ec, eb, -⟩ := hE
  unfold P_X12_beatsTo P_X12_placeOf
  unfold btoW at k hr
  dsimp only
  rw [e0, (eb b hb hb6).1]
  by_cases h1 : c < σ 8 0 10
  · rw [if_neg (by omega)]
    rw [if_pos h1] at k hr
    rw [(ec c hc0 h1).1]
    refine ⟨hc0, by omega, hb, by omega, ?_⟩
    split at k <;> rename_i hk
    · rw [if_pos hk] at hr
      rw [if_pos hk, wi_id (by omega) (by omega)]
      exact k
    · rw [if_neg hk] at hr
      rw [if_neg hk, wi_id (by omega) (by omega)]
      exact k
  · rw [if_pos (by omega)]
    rw [if_neg h1] at k hr
    by_cases h2 : 0 < σ 8 0 10
    · rw [if_neg (by omega)]
      rw [if_pos h2] at k hr
      have h3 := (hc (σ 8 0 10 - 1) (by omega) (by omega)).2.2
      have h4 := (hc _ h3.1 h3.2).1
      rw [wi_id (z := σ 8 0 10 - 1) (by omega) (by omega), (ec (σ 8 0 10 - 1) (by omega) (by omega)).2.2, (ec _ h3.1 h3.2).1]
      refine ⟨by omega, by omega, h3.1, by omega, ?_⟩
      rw [wi_id (z := σ 900 0 (σ 903 0 (σ 8 0 10 - 1)) + 1) (by omega) (by omega)]
      refine ⟨hb, by omega, ?_⟩
      split at k <;> rename_i hk
      · rw [if_pos hk] at hr
        rw [if_pos hk, wi_id (by omega) (by omega)]
        exact k
      · rw [if_neg hk] at hr
        rw [if_neg hk, wi_id (by omega) (by omega)]
        exact k
    · rw [if_pos (by omega)]
      rw [if_neg h2] at k hr
      refine ⟨hb, by omega, ?_⟩
      split at k <;> rename_i hk
      · rw [if_pos hk]
        exact k
      · rw [if_neg hk]
        exact k
def dmpW (n : Int) (dm : Int → Int) (d : Int) : Int := if 0 < n then dm (d.tmod n) else 0
theorem tmod_rng {d n : Int} (h0 : 0 ≤ d) (h1 : 0 < n) : 0 ≤ d.tmod n ∧ d.tmod n < n := ⟨Int.tmod_nonneg n h0, Int.tmod_lt_of_pos d h1⟩
theorem t_X8_dampOn {o : Nat} {d : Int} {σ : St} {Q : Int → St → Prop} (hS : ShC σ o) (hd : 0 ≤ d) (k : Q (dmpW (σ 8 o 12) (σ 908 o) d) σ) : P_X8_dampOn o d σ Q := by
  obtain ⟨-, -, ⟨n0, n6⟩, -⟩ := hS
  unfold P_X8_dampOn P_X8_dampOn_J25
  unfold dmpW at k
  split at k <;> rename_i h
  · have := tmod_rng hd h
    rw [if_neg (by omega), if_neg (by omega)]
    exact ⟨by omega, this.1, by omega, k⟩
  · rw [if_pos (by omega)]
    exact k
theorem t_X12_dampOf {d : Int} {σ : St} {Q : Int → St → Prop} (hS : ShC σ 0) (hE : ShE σ) (hd : 0 ≤ d) (k : Q (dmpW (σ 8 0 12) (σ 908 0) d) σ) : P_X12_dampOf d σ Q := by
  obtain ⟨-, -, ⟨n0, n6⟩, -⟩ := hS
  obtain ⟨-, -, -, e3, -, -, ed⟩ := hE
  unfold P_X12_dampOf
  rw [e3]
  unfold dmpW at k
  split at k <;> rename_i h
  · have := tmod_rng hd h
    rw [if_neg (by omega), ed _ this.1 this.2]
    exact ⟨by omega, this.1, by omega, k⟩
  · rw [if_pos (by omega)]
    exact k
theorem dmpW_rng {σ : St} {o : Nat} {d : Int} (hS : ShC σ o) (hd : 0 ≤ d) : 0 ≤ dmpW (σ 8 o 12) (σ 908 o) d ∧ dmpW (σ 8 o 12) (σ 908 o) d ≤ 9 := by
  obtain ⟨-, -, ⟨n0, n6⟩, -, -, -, hD⟩ := hS
  unfold dmpW
  split
  · rename_i h
    have := tmod_rng hd h
    exact hD _ this.1 this.2
  · omega
