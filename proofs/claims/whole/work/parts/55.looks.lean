/-! 55: what only looks: counter, ball, row, falls, catches, count -/
def q0A : List Reg := [(12, 0, some 0)]
section
variable {n m dk : Int} {z : Ab} {σ : St} {Q : Int → St → Prop}
/-- what the reference has before a look -/
theorem look0 (hX : Cxt n m dk σ) (hE : ShE σ) (hC : StA n m (σ 1346 0) z) : Cxt n m dk (up σ 12 0 0 0) ∧ ShE (up σ 12 0 0 0) ∧ StA n m ((up σ 12 0 0 0) 1346 0) z ∧ Sm q0A σ (up σ 12 0 0 0) := by
  have s0 : Sm q0A σ (up σ 12 0 0 0) := Sm_up Sm.rf rfl
  exact ⟨Cxt_keep s0 rfl hX, ShE_keep s0 rfl hE, by rw [s0.row rfl]; exact hC, s0⟩
def couW (n m : Int) (σ : St) (z : Ab) (x y : Int) : Int := if 0 ≤ x ∧ x < n then (if y = 0 then σ 900 0 x else if y = 1 then zGap z x else if y = 2 then bts (fun b => decide (zHow z b = 0) && decide (zAt z b = x)) m.toNat else -1) else -1
theorem t_X9_basket {o : Nat} {x : Int} (hm : σ 8 0 11 = m) (h0 : 0 ≤ m) (h6 : m ≤ 6) (hC : StC n m σ o z) (k : Q (bts (fun b => decide (zHow z b = 0) && decide (zAt z b = x)) m.toNat) σ) : P_X9_basket o x σ Q := by
  unfold P_X9_basket
  refine loopI (X := Int) (F := fun n i a => P_X9_basket_L4 o x Q n a i σ) (N := m) (fun i a => a = bts (fun b => decide (zHow z b = 0) && decide (zAt z b = x)) i.toNat) ?_ ?_ m.toNat 0 0 FU (Int.le_refl 0) (by omega) (FU_pos (by omega)) rfl
  · rintro n' i a i0 i1 ha k'
    obtain ⟨d2, d4, d3, d5, d6⟩ := hC.2.2.2.2.2.2 i i0 i1
    unfold P_X9_basket_L4
    rw [hm, if_neg (by omega), d4, d3, wi_id (z := i + 1) (by omega) (by omega)]
    refine ⟨i0, by omega, ?_⟩
    by_cases h : zHow z i = 0
    · rw [if_pos h]
      refine ⟨i0, by omega, ?_⟩
      by_cases h' : zAt z i = x
      · rw [if_pos h']
        exact k' _ (by rw [bts_i i0, decide_eq_true h, decide_eq_true h', Bool.true_and, if_pos rfl, ha])
      · rw [if_neg h']
        exact k' _ (by rw [bts_i i0, decide_eq_false h', Bool.and_false, if_neg (by decide), ha])
    · rw [if_neg h]
      exact k' _ (by rw [bts_i i0, decide_eq_false h, Bool.false_and, if_neg (by decide), ha])
  · rintro n' a ha
    unfold P_X9_basket_L4
    rw [hm, if_pos (Int.le_refl m), ha]
    exact k
theorem t_X11_counter {x y : Int} (hX : Cxt n m dk σ) (hC : StC n m σ 0 z) (k : Q (couW n m σ z x y) σ) : P_X11_counter x y σ Q := by
  have n6 := hX.spw.2.2.2.1
  have m6 := hX.spw.2.2.2.2.1
  unfold P_X11_counter
  unfold couW at k
  refine t_X8_hasCounter (fun a b => ?_) (fun h => ?_)
  · rw [hX.2.1] at b
    rw [if_neg one_no, hC.2.2.2.2.2.1 x a b]
    rw [if_pos ⟨a, b⟩] at k
    by_cases y0 : y = 0
    · rw [if_pos y0] at k ⊢
      exact ⟨a, by omega, k⟩
    · rw [if_neg y0] at k ⊢
      by_cases y1 : y = 1
      · rw [if_pos y1] at k ⊢
        exact ⟨a, by omega, k⟩
      · rw [if_neg y1] at k ⊢
        by_cases y2 : y = 2
        · rw [if_pos y2] at k ⊢
          exact t_X9_basket hX.2.2.1 m6.1 m6.2 hC k
        · rw [if_neg y2] at k ⊢
          exact k
  · rw [hX.2.1] at h
    rw [if_neg h] at k
    rw [if_pos rfl]
    exact k
theorem t_X12_counter {x y : Int} (hX : Cxt n m dk σ) (hE : ShE σ) (hC : StA n m (σ 1346 0) z) (k : ∀ σ', Sm q0A σ σ' → Q (couW n m σ z x y) σ') : P_X12_counter x y σ Q := by
  have n6 := hX.spw.2.2.2.1
  have m6 := hX.spw.2.2.2.2.1
  obtain ⟨hX0, hE0, hC0, s0⟩ := look0 hX hE hC
  have k := k _ s0
  unfold P_X12_counter
  unfold couW at k
  refine t_X12_isCounter (n := n) (by rw [hE0.1]; exact hX0.2.1) (fun a b => ?_) (fun h => ?_)
  · rw [if_neg one_no]
    rw [if_pos ⟨a, b⟩] at k
    refine t_X12_within (fun p q => ?_) (fun h => ?_)
    · rw [if_neg one_no]
      by_cases y2 : 2 ≤ y
      · rw [if_pos y2]
        rw [if_neg (by omega), if_neg (by omega), if_pos (by omega)] at k
        refine loopI (X := Int) (F := fun n i a => P_X12_counter_L57 x Q n a i (up σ 12 0 0 0)) (N := m) (fun i a => a = bts (fun b => decide (zHow z b = 0) && decide (zAt z b = x)) i.toNat) ?_ ?_ m.toNat 0 0 FU (Int.le_refl 0) (by omega) (FU_pos (by omega)) rfl
        · rintro n' i a i0 i1 ha k'
          obtain ⟨d2, d4, d3, d5, d6⟩ := hC0.2.2.2.2.2.2 i i0 i1
          have z0 : ∀ q : Int → Bool, bO (bts q i.toNat) 0 = bts q i.toNat := fun q => bO_zero (bts_i32 _ _).1 (bts_i32 _ _).2
          unfold P_X12_counter_L57 P_X12_counter_J103
          rw [hE0.2.1, hX0.2.2.1, if_neg (by omega), wi_id (z := 22 + i) (by omega) (by omega), wi_id (z := 28 + i) (by omega) (by omega), d4, d3, wi_id (z := i + 1) (by omega) (by omega)]
          refine ⟨by omega, by omega, ?_⟩
          by_cases h : zHow z i = 0
          · rw [if_pos h]
            refine ⟨by omega, by omega, ?_⟩
            by_cases h' : zAt z i = x
            · rw [if_pos h']
              exact k' _ (by rw [bts_i i0, decide_eq_true h, decide_eq_true h', Bool.true_and, if_pos rfl, ha])
            · rw [if_neg h']
              exact k' _ (by rw [bts_i i0, decide_eq_false h', Bool.and_false, if_neg (by decide), ha, z0])
          · rw [if_neg h]
            exact k' _ (by rw [bts_i i0, decide_eq_false h, Bool.false_and, if_neg (by decide), ha, z0])
        · rintro n' a ha
          unfold P_X12_counter_L57
          rw [hE0.2.1, hX0.2.2.1, if_pos (Int.le_refl m), ha]
          exact k
      · rw [if_neg y2]
        by_cases y0 : y = 0
        · rw [if_pos y0] at k ⊢
          refine ⟨a, by omega, ?_⟩
          rw [(hE0.2.2.2.2.1 x a (by rw [hX0.2.1]; exact b)).1, s0.row (t := 900) (i := 0) rfl]
          exact k
        · rw [if_neg y0] at k ⊢
          rw [if_pos (by omega)] at k
          rw [wi_id (z := 10 + x) (by omega) (by omega), hC0.2.2.2.2.2.1 x a b]
          exact ⟨by omega, by omega, k⟩
    · rw [if_pos rfl]
      rw [if_neg (by omega), if_neg (by omega), if_neg (by omega)] at k
      exact k
  · rw [if_neg h] at k
    rw [if_pos rfl]
    exact k
def balW (m : Int) (σ : St) (z : Ab) (x y : Int) : Int := if 0 ≤ x ∧ x < m then (if y = 0 then σ 904 0 x else if y = 1 then zSize z x else if y = 2 then σ 906 0 x else if y = 3 then (if zHow z x = 0 then zAt z x else -1) else if y = 4 then zHow z x else if y = 5 then zRun z x else -2) else -2
theorem t_X11_ball {x y : Int} (hX : Cxt n m dk σ) (hC : StC n m σ 0 z) (k : Q (balW m σ z x y) σ) : P_X11_ball x y σ Q := by
  have m6 := hX.spw.2.2.2.2.1
  unfold P_X11_ball
  unfold balW at k
  refine t_X8_hasBall (fun a b => ?_) (fun h => ?_)
  · rw [hX.2.2.1] at b
    obtain ⟨d2, d4, d3, d5, d6⟩ := hC.2.2.2.2.2.2 x a b
    rw [if_neg one_no, d2, d4, d3, d6]
    rw [if_pos ⟨a, b⟩] at k
    have lt : x < 6 := by omega
    by_cases y0 : y = 0
    · rw [if_pos y0] at k ⊢
      exact ⟨a, lt, k⟩
    · rw [if_neg y0] at k ⊢
      by_cases y1 : y = 1
      · rw [if_pos y1] at k ⊢
        exact ⟨a, lt, k⟩
      · rw [if_neg y1] at k ⊢
        by_cases y2 : y = 2
        · rw [if_pos y2] at k ⊢
          exact ⟨a, lt, k⟩
        · rw [if_neg y2] at k ⊢
          by_cases y3 : y = 3
          · rw [if_pos y3] at k ⊢
            refine ⟨a, lt, ?_⟩
            by_cases h : zHow z x = 0
            · rw [if_pos h] at k ⊢
              exact ⟨a, lt, k⟩
            · rw [if_neg h] at k ⊢
              exact k
          · rw [if_neg y3] at k ⊢
            by_cases y4 : y = 4
            · rw [if_pos y4] at k ⊢
              exact ⟨a, lt, k⟩
            · rw [if_neg y4] at k ⊢
              by_cases y5 : y = 5
              · rw [if_pos y5] at k ⊢
                exact ⟨a, lt, k⟩
              · rw [if_neg y5] at k ⊢
                exact k
  · rw [hX.2.2.1] at h
    rw [if_neg h] at k
    rw [if_pos rfl]
    exact k
theorem t_X12_ball {x y : Int} (hX : Cxt n m dk σ) (hE : ShE σ) (hC : StA n m (σ 1346 0) z) (k : ∀ σ', Sm q0A σ σ' → Q (balW m σ z x y) σ') : P_X12_ball x y σ Q := by
  have m6 := hX.spw.2.2.2.2.1
  obtain ⟨hX0, hE0, hC0, s0⟩ := look0 hX hE hC
  have k := k _ s0
  unfold P_X12_ball
  unfold balW at k
  refine t_X12_isBall (m := m) (by rw [hE0.2.1]; exact hX0.2.2.1) (fun a b => ?_) (fun h => ?_)
  · rw [if_neg one_no]
    rw [if_pos ⟨a, b⟩] at k
    obtain ⟨d2, d4, d3, d5, d6⟩ := hC0.2.2.2.2.2.2 x a b
    obtain ⟨f1, f2, f3⟩ := hE0.2.2.2.2.2.1 x a (by rw [hX0.2.2.1]; exact b)
    rw [s0.row (t := 904) (i := 0) rfl] at f1
    rw [s0.row (t := 906) (i := 0) rfl] at f3
    have w16 : wi (16 + x) = 16 + x := wi_id (by omega) (by omega)
    have w22 : wi (22 + x) = 22 + x := wi_id (by omega) (by omega)
    have w28 : wi (28 + x) = 28 + x := wi_id (by omega) (by omega)
    have w40 : wi (40 + x) = 40 + x := wi_id (by omega) (by omega)
    refine t_X12_within (fun p q => ?_) (fun h => ?_)
    · rw [if_neg one_no, w16, w22, w28, w40, d2, d4, d3, d6, f1, f3]
      by_cases h3 : 3 ≤ y
      · rw [if_pos h3]
        rw [if_neg (by omega), if_neg (by omega), if_neg (by omega)] at k
        by_cases y3 : y = 3
        · rw [if_pos y3] at k ⊢
          refine ⟨by omega, by omega, ?_⟩
          by_cases h : zHow z x = 0
          · rw [if_pos h] at k ⊢
            exact ⟨by omega, by omega, k⟩
          · rw [if_neg h] at k ⊢
            exact k
        · rw [if_neg y3] at k ⊢
          by_cases y4 : y = 4
          · rw [if_pos y4] at k ⊢
            exact ⟨by omega, by omega, k⟩
          · rw [if_neg y4] at k ⊢
            rw [if_pos (by omega)] at k
            exact ⟨by omega, by omega, k⟩
      · rw [if_neg h3]
        by_cases y0 : y = 0
        · rw [if_pos y0] at k ⊢
          exact ⟨by omega, by omega, k⟩
        · rw [if_neg y0] at k ⊢
          by_cases y1 : y = 1
          · rw [if_pos y1] at k ⊢
            exact ⟨by omega, by omega, k⟩
          · rw [if_neg y1] at k ⊢
            rw [if_pos (by omega)] at k
            exact ⟨by omega, by omega, k⟩
    · rw [if_pos rfl]
      rw [if_neg (by omega), if_neg (by omega), if_neg (by omega), if_neg (by omega), if_neg (by omega), if_neg (by omega)] at k
      exact k
  · rw [if_neg h] at k
    rw [if_pos rfl]
    exact k
def rowW (z : Ab) (x : Int) : Int := if 0 ≤ x ∧ x < zMany z then zQ z x else -1
theorem t_X11_row {x : Int} (hX : Cxt n m dk σ) (hW : WfZ n m dk z) (hC : StC n m σ 0 z) (k : Q (rowW z x) σ) : P_X11_row x σ Q := by
  have m6 := hX.spw.2.2.2.2.1
  have hmn := hW.many m6.1
  unfold P_X11_row P_X11_row_J27
  unfold rowW at k
  rw [hC.2.2.2.1]
  by_cases h : x < 0
  · rw [if_pos h]
    rwa [if_neg (by omega)] at k
  · rw [if_neg h]
    by_cases h' : zMany z ≤ x
    · rw [if_pos h']
      rwa [if_neg (by omega)] at k
    · rw [if_neg h', hC.2.2.2.2.1 x (by omega) (by omega)]
      rw [if_pos (by omega)] at k
      exact ⟨by omega, by omega, k⟩
theorem t_X12_row {x : Int} (hX : Cxt n m dk σ) (hE : ShE σ) (hW : WfZ n m dk z) (hC : StA n m (σ 1346 0) z) (k : ∀ σ', Sm q0A σ σ' → Q (rowW z x) σ') : P_X12_row x σ Q := by
  have m6 := hX.spw.2.2.2.2.1
  have hmn := hW.many m6.1
  obtain ⟨hX0, hE0, hC0, s0⟩ := look0 hX hE hC
  have k := k _ s0
  unfold P_X12_row P_X12_row_J30
  unfold rowW at k
  rw [hC0.2.2.2.1]
  by_cases h : x < 0
  · rw [if_pos h]
    rwa [if_neg (by omega)] at k
  · rw [if_neg h]
    by_cases h' : zMany z ≤ x
    · rw [if_pos h']
      rwa [if_neg (by omega)] at k
    · rw [if_neg h', wi_id (z := 4 + x) (by omega) (by omega), hC0.2.2.2.2.1 x (by omega) (by omega)]
      rw [if_pos (by omega)] at k
      exact ⟨by omega, by omega, k⟩
/-- where a size falls by the state's gaps -/
def fllW (s : Sp) (z : Ab) (w : Int) : Int := falW s.1 s.2.2.2.2.1 (zGap z) w
theorem t_fall0 {o : Nat} {w : Int} (hX : Cxt n m dk σ) (hC : StC n m σ o z) (k : Q (fllW (spC σ 0) z w) σ) : P_X8_fall 0 w 1001 o σ Q := by
  refine t_X8_fall hX.1 rfl ?_
  have : falW (σ 8 0 10) (σ 903 0) (σ 1001 o) w = fllW (spC σ 0) z w := falW_congr (fun i i0 i1 => ⟨rfl, by
    have := (hX.1.2.2.2.2.1 i i0 i1).2.2
    exact hC.2.2.2.2.2.1 _ this.1 (by rw [← hX.2.1]; exact this.2)⟩)
  rw [this]
  exact k
theorem t_fall12 {w : Int} (hX : Cxt n m dk σ) (hE : ShE σ) (hC : StA n m (σ 1346 0) z) (k : Q (fllW (spC σ 0) z w) σ) : P_X12_fallsBy w σ Q := by
  refine t_X12_fallsBy hX.1 hE ?_
  have : falW (σ 8 0 10) (σ 903 0) (fun c => σ 1346 0 (10 + c)) w = fllW (spC σ 0) z w := falW_congr (fun i i0 i1 => ⟨rfl, by
    have := (hX.1.2.2.2.2.1 i i0 i1).2.2
    exact hC.2.2.2.2.2.1 _ this.1 (by rw [← hX.2.1]; exact this.2)⟩)
  rw [this]
  exact k
theorem t_X9_fallOf {o : Nat} {b : Int} (hX : Cxt n m dk σ) (hC : StC n m σ o z) (b0 : 0 ≤ b) (b1 : b < m) (k : Q (fllW (spC σ 0) z (zSize z b)) σ) : P_X9_fallOf o b σ Q := by
  have m6 := hX.spw.2.2.2.2.1
  unfold P_X9_fallOf
  rw [(hC.2.2.2.2.2.2 b b0 b1).1]
  exact ⟨b0, by omega, t_fall0 hX hC k⟩
theorem t_X12_fallOf {b : Int} (hX : Cxt n m dk σ) (hE : ShE σ) (hC : StA n m (σ 1346 0) z) (b0 : 0 ≤ b) (b1 : b < m) (k : Q (fllW (spC σ 0) z (zSize z b)) σ) : P_X12_fallOf b σ Q := by
  have m6 := hX.spw.2.2.2.2.1
  unfold P_X12_fallOf
  rw [wi_id (z := 16 + b) (by omega) (by omega), (hC.2.2.2.2.2.2 b b0 b1).1]
  exact ⟨by omega, by omega, t_fall12 hX hE hC k⟩
def flsW (s : Sp) (m : Int) (z : Ab) (b : Int) : Int := if 0 ≤ b ∧ b < m then fllW s z (zSize z b) else -1
theorem t_X11_falls {b : Int} (hX : Cxt n m dk σ) (hC : StC n m σ 0 z) (k : Q (flsW (spC σ 0) m z b) σ) : P_X11_falls b σ Q := by
  unfold P_X11_falls
  unfold flsW at k
  refine t_X8_hasBall (fun b0 b1 => ?_) (fun h => ?_)
  · rw [hX.2.2.1] at b1
    rw [if_pos ⟨b0, b1⟩] at k
    rw [if_neg one_no]
    exact t_X9_fallOf hX hC b0 b1 k
  · rw [hX.2.2.1] at h
    rw [if_neg h] at k
    rw [if_pos rfl]
    exact k
theorem t_X12_falls {b : Int} (hX : Cxt n m dk σ) (hE : ShE σ) (hC : StA n m (σ 1346 0) z) (k : ∀ σ', Sm q0A σ σ' → Q (flsW (spC σ 0) m z b) σ') : P_X12_falls b σ Q := by
  obtain ⟨hX0, hE0, hC0, s0⟩ := look0 hX hE hC
  have k := k _ s0
  unfold P_X12_falls
  unfold flsW at k
  refine t_X12_isBall (m := m) (by rw [hE0.2.1]; exact hX0.2.2.1) (fun b0 b1 => ?_) (fun h => ?_)
  · rw [if_pos ⟨b0, b1⟩, ← spC_keep (o := 0) s0 rfl] at k
    rw [if_neg one_no]
    exact t_X12_fallOf hX0 hE0 hC0 b0 b1 k
  · rw [if_neg h] at k
    rw [if_pos rfl]
    exact k
def catW (s : Sp) (z : Ab) (w : Int) : Int := if 1 ≤ w ∧ w ≤ 60 then fllW s z w else -1
theorem t_X11_catches {w : Int} (hX : Cxt n m dk σ) (hC : StC n m σ 0 z) (k : Q (catW (spC σ 0) z w) σ) : P_X11_catches w σ Q := by
  unfold P_X11_catches
  unfold catW at k
  refine t_X11_within (fun a b => ?_) (fun h => ?_)
  · rw [if_pos ⟨a, b⟩] at k
    rw [if_neg one_no]
    exact t_fall0 hX hC k
  · rw [if_neg h] at k
    rw [if_pos rfl]
    exact k
theorem t_X12_catches {w : Int} (hX : Cxt n m dk σ) (hE : ShE σ) (hC : StA n m (σ 1346 0) z) (k : ∀ σ', Sm q0A σ σ' → Q (catW (spC σ 0) z w) σ') : P_X12_catches w σ Q := by
  obtain ⟨hX0, hE0, hC0, s0⟩ := look0 hX hE hC
  have k := k _ s0
  unfold P_X12_catches
  unfold catW at k
  refine t_X12_within (fun a b => ?_) (fun h => ?_)
  · rw [if_pos ⟨a, b⟩, ← spC_keep (o := 0) s0 rfl] at k
    rw [if_neg one_no]
    exact t_fall12 hX0 hE0 hC0 k
  · rw [if_neg h] at k
    rw [if_pos rfl]
    exact k
end
