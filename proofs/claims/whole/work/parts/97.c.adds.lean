/-! 97.c: the class puts into its draft -/
def shA : List Reg := [(10, 0, some 5), (10, 0, some 6), (6, 0, some 1), (6, 0, some 2), (8, 1, none), (900, 1, none), (901, 1, none), (902, 1, none), (903, 1, none), (904, 1, none), (905, 1, none), (906, 1, none), (907, 1, none), (908, 1, none), (2, 1, some 3), (300, 1, none), (301, 1, none)]
def adC (d : Dr) (w x v : Int) : Dr := (du (du (du (du d.1 1 (d.1 0 0) w) 2 (d.1 0 0) x) 3 (d.1 0 0) v) 0 0 (d.1 0 0 + 1), d.2)
def adB (d : Dr) (w x v u : Int) : Dr := (du (du (du (du (du d.1 4 (d.1 0 1) w) 5 (d.1 0 1) x) 6 (d.1 0 1) v) 7 (d.1 0 1) u) 0 1 (d.1 0 1 + 1), d.2)
def adP (d : Dr) (x : Int) : Dr := (du (du d.1 8 (d.1 0 2) x) 0 2 (d.1 0 2 + 1), d.2)
section
variable {σ : St} {y : Tp} {N g k : Int} {d : Dr}
theorem f_adC {w x v : Int} : (adC d w x v).1 0 = upr (d.1 0) 0 (d.1 0 0 + 1) ∧ (adC d w x v).1 1 = upr (d.1 1) (d.1 0 0) w ∧ (adC d w x v).1 2 = upr (d.1 2) (d.1 0 0) x ∧ (adC d w x v).1 3 = upr (d.1 3) (d.1 0 0) v ∧
    (adC d w x v).1 4 = d.1 4 ∧ (adC d w x v).1 5 = d.1 5 ∧ (adC d w x v).1 6 = d.1 6 ∧ (adC d w x v).1 7 = d.1 7 ∧ (adC d w x v).1 8 = d.1 8 ∧ (adC d w x v).2 = d.2 := by
  unfold adC
  dsimp only
  refine ⟨?_, ?_, ?_, ?_, ?_, ?_, ?_, ?_, ?_, rfl⟩
  · rw [du_row, du_oth rfl, du_oth rfl, du_oth rfl]
  · rw [du_oth rfl, du_oth rfl, du_oth rfl, du_row]
  · rw [du_oth rfl, du_oth rfl, du_row, du_oth rfl]
  · rw [du_oth rfl, du_row, du_oth rfl, du_oth rfl]
  all_goals rw [du_oth rfl, du_oth rfl, du_oth rfl, du_oth rfl]
theorem f_adB {w x v u : Int} : (adB d w x v u).1 0 = upr (d.1 0) 1 (d.1 0 1 + 1) ∧ (adB d w x v u).1 1 = d.1 1 ∧ (adB d w x v u).1 2 = d.1 2 ∧ (adB d w x v u).1 3 = d.1 3 ∧
    (adB d w x v u).1 4 = upr (d.1 4) (d.1 0 1) w ∧ (adB d w x v u).1 5 = upr (d.1 5) (d.1 0 1) x ∧ (adB d w x v u).1 6 = upr (d.1 6) (d.1 0 1) v ∧ (adB d w x v u).1 7 = upr (d.1 7) (d.1 0 1) u ∧ (adB d w x v u).1 8 = d.1 8 ∧ (adB d w x v u).2 = d.2 := by
  unfold adB
  dsimp only
  refine ⟨?_, ?_, ?_, ?_, ?_, ?_, ?_, ?_, ?_, rfl⟩
  · rw [du_row, du_oth rfl, du_oth rfl, du_oth rfl, du_oth rfl]
  · rw [du_oth rfl, du_oth rfl, du_oth rfl, du_oth rfl, du_oth rfl]
  · rw [du_oth rfl, du_oth rfl, du_oth rfl, du_oth rfl, du_oth rfl]
  · rw [du_oth rfl, du_oth rfl, du_oth rfl, du_oth rfl, du_oth rfl]
  · rw [du_oth rfl, du_oth rfl, du_oth rfl, du_oth rfl, du_row]
  · rw [du_oth rfl, du_oth rfl, du_oth rfl, du_row, du_oth rfl]
  · rw [du_oth rfl, du_oth rfl, du_row, du_oth rfl, du_oth rfl]
  · rw [du_oth rfl, du_row, du_oth rfl, du_oth rfl, du_oth rfl]
  · rw [du_oth rfl, du_oth rfl, du_oth rfl, du_oth rfl, du_oth rfl]
theorem f_adP {x : Int} : (adP d x).1 0 = upr (d.1 0) 2 (d.1 0 2 + 1) ∧ (adP d x).1 1 = d.1 1 ∧ (adP d x).1 2 = d.1 2 ∧ (adP d x).1 3 = d.1 3 ∧
    (adP d x).1 4 = d.1 4 ∧ (adP d x).1 5 = d.1 5 ∧ (adP d x).1 6 = d.1 6 ∧ (adP d x).1 7 = d.1 7 ∧ (adP d x).1 8 = upr (d.1 8) (d.1 0 2) x ∧ (adP d x).2 = d.2 := by
  unfold adP
  dsimp only
  refine ⟨?_, ?_, ?_, ?_, ?_, ?_, ?_, ?_, ?_, rfl⟩
  · rw [du_row, du_oth rfl]
  all_goals (first | rw [du_oth rfl, du_oth rfl] | rw [du_oth rfl, du_row])
def coA : List Reg := [(902, 1, none), (900, 1, none), (901, 1, none), (903, 1, none), (8, 1, some 10)]
theorem c_addCounter {r w x v : Int} {d' : Dr} {Q : St → Prop} (h : CS y N g k d σ)
    (hg : g = 0 → d.1 0 0 < 6 ∧ (r = cvN 9 w ∧ 0 ≤ w ∧ w < 27 ^ 9) ∧ (∀ i : Int, 0 ≤ i → i < d.1 0 0 → d.1 2 i ≠ x) ∧ d' = adC d w x v)
    (kk : ∀ σ', Sm shA σ σ' → CS y N g k d' σ' → Q σ') : P_X8_addCounter 1 r x v σ Q := by
  obtain ⟨hR, hDS, hDr⟩ := h
  unfold P_X8_addCounter
  by_cases h6 : 6 ≤ σ 8 1 10
  · rw [if_pos h6]
    refine kk σ Sm.rf ⟨hR, hDS, fun g0 => ?_⟩
    have h1 := (hg g0).1
    have h2 := (hDr g0).1.1
    omega
  · rw [if_neg h6]
    obtain ⟨⟨c0, -⟩, dm, dq, ds, dr, drail⟩ := id hDS
    have eu : ∀ (τ : St) (t : Nat) (i v : Int), Nat.beq 8 t = false → (up τ t 1 i v) 8 1 10 = τ 8 1 10 := fun _ _ _ _ h => up_nt h
    simp only [eu _ 902 _ _ rfl, eu _ 900 _ _ rfl, eu _ 901 _ _ rfl]
    have s4 : Sm [(902, 1, none), (900, 1, none), (901, 1, none)] σ (up (up (up σ 902 1 (σ 8 1 10) r) 900 1 (σ 8 1 10) x) 901 1 (σ 8 1 10) v) := Sm_up (Sm_up (Sm_up Sm.rf rfl) rfl) rfl
    have f902 : (up (up (up σ 902 1 (σ 8 1 10) r) 900 1 (σ 8 1 10) x) 901 1 (σ 8 1 10) v) 902 1 = upr (σ 902 1) (σ 8 1 10) r := by rw [up_oth (Or.inl rfl), up_oth (Or.inl rfl), up_row]
    have f900 : (up (up (up σ 902 1 (σ 8 1 10) r) 900 1 (σ 8 1 10) x) 901 1 (σ 8 1 10) v) 900 1 = upr (σ 900 1) (σ 8 1 10) x := by rw [up_oth (Or.inl rfl), up_row, up_oth (Or.inl rfl)]
    have f901 : (up (up (up σ 902 1 (σ 8 1 10) r) 900 1 (σ 8 1 10) x) 901 1 (σ 8 1 10) v) 901 1 = upr (σ 901 1) (σ 8 1 10) v := by rw [up_row, up_oth (Or.inl rfl), up_oth (Or.inl rfl)]
    generalize (up (up (up σ 902 1 (σ 8 1 10) r) 900 1 (σ 8 1 10) x) 901 1 (σ 8 1 10) v) = υ at s4 f902 f900 f901
    have f8 : υ 8 1 = σ 8 1 := s4.row rfl
    have f3 : υ 903 1 = σ 903 1 := s4.row rfl
    refine ⟨c0, by omega, c0, by omega, c0, by omega, t_putOnRail c0 (by omega) (fun i i0 i1 => ?_) (fun p σ' p0 p1 s' hrow hle hlt => ?_)⟩
    · rw [f3]; exact drail i i0 i1
    · have e8 : σ' 8 1 10 = σ 8 1 10 := by rw [s'.row (t := 8) rfl, f8]
      rw [e8, wi_id (by omega) (by omega)]
      rw [f3, f900] at hle
      rw [f3, f900] at hlt
      have sA : Sm coA σ (up σ' 8 1 10 (σ 8 1 10 + 1)) := Sm_up ((mem_sub (B := coA) rfl s4).tr (mem_sub (B := coA) rfl s')) rfl
      have t8 : (up σ' 8 1 10 (σ 8 1 10 + 1)) 8 1 = upr (σ 8 1) 10 (σ 8 1 10 + 1) := by rw [up_row, s'.row (t := 8) rfl, f8]
      have t902 : (up σ' 8 1 10 (σ 8 1 10 + 1)) 902 1 = upr (σ 902 1) (σ 8 1 10) r := by rw [up_oth (Or.inl rfl), s'.row (t := 902) rfl, f902]
      have t900 : (up σ' 8 1 10 (σ 8 1 10 + 1)) 900 1 = upr (σ 900 1) (σ 8 1 10) x := by rw [up_oth (Or.inl rfl), s'.row (t := 900) rfl, f900]
      have t901 : (up σ' 8 1 10 (σ 8 1 10 + 1)) 901 1 = upr (σ 901 1) (σ 8 1 10) v := by rw [up_oth (Or.inl rfl), s'.row (t := 901) rfl, f901]
      have t903 : ∀ i : Int, 0 ≤ i → i ≤ σ 8 1 10 → (up σ' 8 1 10 (σ 8 1 10 + 1)) 903 1 i = if i < p then σ 903 1 i else if i = p then σ 8 1 10 else σ 903 1 (i - 1) := fun i i0 i1 => by rw [up_oth (Or.inl rfl), hrow i i0 i1, f3]
      generalize (up σ' 8 1 10 (σ 8 1 10 + 1)) = τ at sA t8 t902 t900 t901 t903
      have rl : ∀ B : Int, σ 8 1 10 < B → (∀ i : Int, 0 ≤ i → i < σ 8 1 10 → 0 ≤ σ 903 1 i ∧ σ 903 1 i < B) → ∀ i : Int, 0 ≤ i → i < σ 8 1 10 + 1 → 0 ≤ τ 903 1 i ∧ τ 903 1 i < B := by
        intro B hB hall i i0 i1
        rw [t903 i i0 (by omega)]
        by_cases h1 : i < p
        · rw [if_pos h1]; exact hall i i0 (by omega)
        · rw [if_neg h1]
          by_cases h2 : i = p
          · rw [if_pos h2]; exact ⟨c0, hB⟩
          · rw [if_neg h2]; exact hall (i - 1) (by omega) (by omega)
      refine kk τ (mem_sub (B := shA) rfl sA) ⟨RS_keep sA rfl rfl rfl hR, ?_, fun g0 => ?_⟩
      · unfold DS
        rw [t8, sA 2 1 3 rfl, sA 3 1 3 rfl, upr_at, upr_ne (by decide), upr_ne (by decide)]
        exact ⟨⟨by omega, by omega⟩, dm, dq, ds, dr, rl 6 (by omega) drail⟩
      · obtain ⟨h1, ⟨h2, h2a, h2b⟩, h3, h4⟩ := hg g0
        obtain ⟨⟨q1, q2, q3, q4, q5, q6⟩, qn, qc, qr, qb, qB, qd, qL⟩ := hDr g0
        obtain ⟨a0, a1, a2, a3, a4, a5, a6, a7, a8, a9⟩ := f_adC (d := d) (w := w) (x := x) (v := v)
        rw [h4]
        unfold DrC
        rw [a0, a1, a2, a3, a4, a5, a6, a7, a8, a9, t8, sA 6 0 1 rfl, sA 6 0 2 rfl, upr_at, upr_at, upr_ne (by decide), upr_ne (by decide), upr_ne (by decide), upr_ne (by decide), upr_ne (by decide), upr_ne (by decide), upr_ne (by decide), upr_ne (by decide), t902, t900, t901, sA.row (t := 904) (i := 1) rfl, sA.row (t := 905) (i := 1) rfl, sA.row (t := 906) (i := 1) rfl, sA.row (t := 907) (i := 1) rfl, sA.row (t := 908) (i := 1) rfl]
        rw [q1] at t8 t903 rl hle hlt p1 ⊢
        refine ⟨⟨rfl, q2, q3, q4, q5, q6⟩, fun i i0 i1 => ?_, fun i i0 i1 => ?_, ?_, qb, qB, qd, LawS_keep sA rfl qL⟩
        · by_cases e : i = d.1 0 0
          · rw [e, upr_at, upr_at]; exact ⟨h2, h2a, h2b⟩
          · rw [upr_ne e, upr_ne e]; exact qn i i0 (by omega)
        · have h903 := rl (d.1 0 0 + 1) (by omega) (fun j j0 j1 => ⟨(qc j j0 j1).2.2.1, by have := (qc j j0 j1).2.2.2; omega⟩) i i0 i1
          by_cases e : i = d.1 0 0
          · rw [e, upr_at, upr_at, upr_at, upr_at]
            rw [e] at h903
            exact ⟨rfl, rfl, h903⟩
          · rw [upr_ne e, upr_ne e, upr_ne e, upr_ne e]
            exact ⟨(qc i i0 (by omega)).1, (qc i i0 (by omega)).2.1, h903⟩
        · -- the rail rises
          have qr : ∀ i j : Int, 0 ≤ i → i < j → j < d.1 0 0 → σ 900 1 (σ 903 1 i) < σ 900 1 (σ 903 1 j) := fun i j i0 i1 i2 => qr i j i0 i1 (by rw [q1]; exact i2)
          have low : ∀ j : Int, 0 ≤ j → j < p → σ 900 1 (σ 903 1 j) < x := by
            intro j j0 j1
            have hp := hle (by omega)
            rw [upr_at] at hp
            have hc := qc (p - 1) (by omega) (by omega)
            rw [upr_ne (by omega)] at hp
            have hne : σ 900 1 (σ 903 1 (p - 1)) ≠ x := by
              rw [(qc _ hc.2.2.1 hc.2.2.2).1]
              exact h3 _ hc.2.2.1 hc.2.2.2
            by_cases e : j = p - 1
            · rw [e]; omega
            · have := qr j (p - 1) j0 (by omega) (by omega)
              omega
          have high : ∀ j : Int, p ≤ j → j < d.1 0 0 → x < σ 900 1 (σ 903 1 j) := by
            intro j j0 j1
            have hp := hlt j j0 j1
            have hc := qc j (by omega) j1
            rw [upr_at, upr_ne (by omega)] at hp
            exact hp
          have val : ∀ i : Int, 0 ≤ i → i ≤ d.1 0 0 → upr (σ 900 1) (d.1 0 0) x (τ 903 1 i) = if i < p then σ 900 1 (σ 903 1 i) else if i = p then x else σ 900 1 (σ 903 1 (i - 1)) := by
            intro i i0 i1
            rw [t903 i i0 i1]
            by_cases e1 : i < p
            · rw [if_pos e1, if_pos e1, upr_ne (by have := (qc i i0 (by omega)).2.2.2; omega)]
            · rw [if_neg e1, if_neg e1]
              by_cases e2 : i = p
              · rw [if_pos e2, if_pos e2, upr_at]
              · rw [if_neg e2, if_neg e2, upr_ne (by have := (qc (i - 1) (by omega) (by omega)).2.2.2; omega)]
          unfold RaC
          rw [t8, upr_at, t900, q1]
          intro i j i0 i1 i2
          rw [val i i0 (by omega), val j (by omega) (by omega)]
          by_cases e1 : j < p
          · rw [if_pos e1, if_pos (by omega)]
            exact qr i j i0 i1 (by omega)
          · rw [if_neg e1]
            by_cases e2 : j = p
            · rw [if_pos e2, if_pos (by omega)]
              exact low i i0 (by omega)
            · rw [if_neg e2]
              by_cases e3 : i < p
              · rw [if_pos e3]
                have h1 := low i i0 e3
                have h2 := high (j - 1) (by omega) (by omega)
                omega
              · rw [if_neg e3]
                by_cases e4 : i = p
                · rw [if_pos e4]
                  exact high (j - 1) (by omega) (by omega)
                · rw [if_neg e4]
                  exact qr (i - 1) (j - 1) (by omega) (by omega) (by omega)
def baA : List Reg := [(907, 1, none), (904, 1, none), (905, 1, none), (906, 1, none), (8, 1, some 11)]
theorem c_addBall {r w x v u : Int} {d' : Dr} {Q : St → Prop} (h : CS y N g k d σ)
    (hg : g = 0 → d.1 0 1 < 6 ∧ (r = cvN 9 w ∧ 0 ≤ w ∧ w < 27 ^ 9) ∧ d' = adB d w x v u)
    (kk : ∀ σ', Sm shA σ σ' → CS y N g k d' σ' → Q σ') : P_X8_addBall 1 r x v u σ Q := by
  obtain ⟨hR, hDS, hDr⟩ := h
  unfold P_X8_addBall
  by_cases h6 : 6 ≤ σ 8 1 11
  · rw [if_pos h6]
    refine kk σ Sm.rf ⟨hR, hDS, fun g0 => ?_⟩
    have h1 := (hg g0).1
    have h2 := (hDr g0).1.2.1
    omega
  · rw [if_neg h6]
    obtain ⟨dn, ⟨c0, -⟩, dq, ds, dr, drail⟩ := id hDS
    have eu : ∀ (τ : St) (t : Nat) (i v : Int), Nat.beq 8 t = false → (up τ t 1 i v) 8 1 11 = τ 8 1 11 := fun _ _ _ _ h => up_nt h
    simp only [eu _ 907 _ _ rfl, eu _ 904 _ _ rfl, eu _ 905 _ _ rfl, eu _ 906 _ _ rfl]
    rw [wi_id (z := σ 8 1 11 + 1) (by omega) (by omega)]
    have sA : Sm baA σ (up (up (up (up (up σ 907 1 (σ 8 1 11) r) 904 1 (σ 8 1 11) x) 905 1 (σ 8 1 11) v) 906 1 (σ 8 1 11) u) 8 1 11 (σ 8 1 11 + 1)) := Sm_up (Sm_up (Sm_up (Sm_up (Sm_up Sm.rf rfl) rfl) rfl) rfl) rfl
    have t8 : (up (up (up (up (up σ 907 1 (σ 8 1 11) r) 904 1 (σ 8 1 11) x) 905 1 (σ 8 1 11) v) 906 1 (σ 8 1 11) u) 8 1 11 (σ 8 1 11 + 1)) 8 1 = upr (σ 8 1) 11 (σ 8 1 11 + 1) := by rw [up_row, up_oth (Or.inl rfl), up_oth (Or.inl rfl), up_oth (Or.inl rfl), up_oth (Or.inl rfl)]
    have t907 : (up (up (up (up (up σ 907 1 (σ 8 1 11) r) 904 1 (σ 8 1 11) x) 905 1 (σ 8 1 11) v) 906 1 (σ 8 1 11) u) 8 1 11 (σ 8 1 11 + 1)) 907 1 = upr (σ 907 1) (σ 8 1 11) r := by rw [up_oth (Or.inl rfl), up_oth (Or.inl rfl), up_oth (Or.inl rfl), up_oth (Or.inl rfl), up_row]
    have t904 : (up (up (up (up (up σ 907 1 (σ 8 1 11) r) 904 1 (σ 8 1 11) x) 905 1 (σ 8 1 11) v) 906 1 (σ 8 1 11) u) 8 1 11 (σ 8 1 11 + 1)) 904 1 = upr (σ 904 1) (σ 8 1 11) x := by rw [up_oth (Or.inl rfl), up_oth (Or.inl rfl), up_oth (Or.inl rfl), up_row, up_oth (Or.inl rfl)]
    have t905 : (up (up (up (up (up σ 907 1 (σ 8 1 11) r) 904 1 (σ 8 1 11) x) 905 1 (σ 8 1 11) v) 906 1 (σ 8 1 11) u) 8 1 11 (σ 8 1 11 + 1)) 905 1 = upr (σ 905 1) (σ 8 1 11) v := by rw [up_oth (Or.inl rfl), up_oth (Or.inl rfl), up_row, up_oth (Or.inl rfl), up_oth (Or.inl rfl)]
    have t906 : (up (up (up (up (up σ 907 1 (σ 8 1 11) r) 904 1 (σ 8 1 11) x) 905 1 (σ 8 1 11) v) 906 1 (σ 8 1 11) u) 8 1 11 (σ 8 1 11 + 1)) 906 1 = upr (σ 906 1) (σ 8 1 11) u := by rw [up_oth (Or.inl rfl), up_row, up_oth (Or.inl rfl), up_oth (Or.inl rfl), up_oth (Or.inl rfl)]
    generalize (up (up (up (up (up σ 907 1 (σ 8 1 11) r) 904 1 (σ 8 1 11) x) 905 1 (σ 8 1 11) v) 906 1 (σ 8 1 11) u) 8 1 11 (σ 8 1 11 + 1)) = τ at sA t8 t907 t904 t905 t906
    refine ⟨c0, by omega, c0, by omega, c0, by omega, c0, by omega, ?_⟩
    refine kk τ (mem_sub (B := shA) rfl sA) ⟨RS_keep sA rfl rfl rfl hR, ?_, fun g0 => ?_⟩
    · unfold DS
      rw [t8, sA 2 1 3 rfl, sA 3 1 3 rfl, upr_ne (by decide), upr_at, upr_ne (by decide), sA.row (t := 903) (i := 1) rfl]
      exact ⟨dn, ⟨by omega, by omega⟩, dq, ds, dr, drail⟩
    · obtain ⟨h1, ⟨h2, h2a, h2b⟩, h4⟩ := hg g0
      obtain ⟨⟨q1, q2, q3, q4, q5, q6⟩, qn, qc, qr, qb, qB, qd, qL⟩ := hDr g0
      obtain ⟨a0, a1, a2, a3, a4, a5, a6, a7, a8, a9⟩ := f_adB (d := d) (w := w) (x := x) (v := v) (u := u)
      rw [h4]
      have qr' : RaC τ 1 := by
        unfold RaC at qr ⊢
        rw [t8, upr_ne (by decide), sA.row (t := 903) (i := 1) rfl, sA.row (t := 900) (i := 1) rfl]
        exact qr
      unfold DrC
      rw [a0, a1, a2, a3, a4, a5, a6, a7, a8, a9, t8, sA 6 0 1 rfl, sA 6 0 2 rfl, upr_at, upr_at, upr_ne (by decide), upr_ne (by decide), upr_ne (by decide), upr_ne (by decide), upr_ne (by decide), upr_ne (by decide), upr_ne (by decide), upr_ne (by decide), t907, t904, t905, t906, sA.row (t := 900) (i := 1) rfl, sA.row (t := 901) (i := 1) rfl, sA.row (t := 902) (i := 1) rfl, sA.row (t := 903) (i := 1) rfl, sA.row (t := 908) (i := 1) rfl]
      rw [q2]
      refine ⟨⟨q1, rfl, q3, q4, q5, q6⟩, qn, qc, qr', fun i i0 i1 => ?_, fun i i0 i1 => ?_, qd, LawS_keep sA rfl qL⟩
      · by_cases e : i = d.1 0 1
        · rw [e, upr_at, upr_at]; exact ⟨h2, h2a, h2b⟩
        · rw [upr_ne e, upr_ne e]; exact qb i i0 (by omega)
      · by_cases e : i = d.1 0 1
        · rw [e, upr_at, upr_at, upr_at, upr_at, upr_at, upr_at]
          exact ⟨rfl, rfl, rfl⟩
        · rw [upr_ne e, upr_ne e, upr_ne e, upr_ne e, upr_ne e, upr_ne e]
          exact qB i i0 (by omega)
def dmA' : List Reg := [(908, 1, none), (8, 1, some 12)]
theorem c_addDamp {x : Int} {d' : Dr} {Q : St → Prop} (h : CS y N g k d σ) (hg : g = 0 → d.1 0 2 < 12 ∧ d' = adP d x)
    (kk : ∀ σ', Sm shA σ σ' → CS y N g k d' σ' → Q σ') : P_X8_addDamp 1 x σ Q := by
  obtain ⟨hR, hDS, hDr⟩ := h
  unfold P_X8_addDamp
  by_cases h6 : 12 ≤ σ 8 1 12
  · rw [if_pos h6]
    refine kk σ Sm.rf ⟨hR, hDS, fun g0 => ?_⟩
    have h1 := (hg g0).1
    have h2 := (hDr g0).1.2.2.1
    omega
  · rw [if_neg h6]
    obtain ⟨dn, dm, ⟨c0, -⟩, ds, dr, drail⟩ := id hDS
    have eu : ∀ (τ : St) (t : Nat) (i v : Int), Nat.beq 8 t = false → (up τ t 1 i v) 8 1 12 = τ 8 1 12 := fun _ _ _ _ h => up_nt h
    simp only [eu _ 908 _ _ rfl]
    rw [wi_id (z := σ 8 1 12 + 1) (by omega) (by omega)]
    have sA : Sm dmA' σ (up (up σ 908 1 (σ 8 1 12) x) 8 1 12 (σ 8 1 12 + 1)) := Sm_up (Sm_up Sm.rf rfl) rfl
    have t8 : (up (up σ 908 1 (σ 8 1 12) x) 8 1 12 (σ 8 1 12 + 1)) 8 1 = upr (σ 8 1) 12 (σ 8 1 12 + 1) := by rw [up_row, up_oth (Or.inl rfl)]
    have t908 : (up (up σ 908 1 (σ 8 1 12) x) 8 1 12 (σ 8 1 12 + 1)) 908 1 = upr (σ 908 1) (σ 8 1 12) x := by rw [up_oth (Or.inl rfl), up_row]
    generalize (up (up σ 908 1 (σ 8 1 12) x) 8 1 12 (σ 8 1 12 + 1)) = τ at sA t8 t908
    refine ⟨c0, by omega, ?_⟩
    refine kk τ (mem_sub (B := shA) rfl sA) ⟨RS_keep sA rfl rfl rfl hR, ?_, fun g0 => ?_⟩
    · unfold DS
      rw [t8, sA 2 1 3 rfl, sA 3 1 3 rfl, upr_ne (by decide), upr_ne (by decide), upr_at, sA.row (t := 903) (i := 1) rfl]
      exact ⟨dn, dm, ⟨by omega, by omega⟩, ds, dr, drail⟩
    · obtain ⟨h1, h4⟩ := hg g0
      obtain ⟨⟨q1, q2, q3, q4, q5, q6⟩, qn, qc, qr, qb, qB, qd, qL⟩ := hDr g0
      obtain ⟨a0, a1, a2, a3, a4, a5, a6, a7, a8, a9⟩ := f_adP (d := d) (x := x)
      rw [h4]
      have qr' : RaC τ 1 := by
        unfold RaC at qr ⊢
        rw [t8, upr_ne (by decide), sA.row (t := 903) (i := 1) rfl, sA.row (t := 900) (i := 1) rfl]
        exact qr
      unfold DrC
      rw [a0, a1, a2, a3, a4, a5, a6, a7, a8, a9, t8, sA 6 0 1 rfl, sA 6 0 2 rfl, upr_at, upr_at, upr_ne (by decide), upr_ne (by decide), upr_ne (by decide), upr_ne (by decide), upr_ne (by decide), upr_ne (by decide), upr_ne (by decide), upr_ne (by decide), t908, sA.row (t := 900) (i := 1) rfl, sA.row (t := 901) (i := 1) rfl, sA.row (t := 902) (i := 1) rfl, sA.row (t := 903) (i := 1) rfl, sA.row (t := 904) (i := 1) rfl, sA.row (t := 905) (i := 1) rfl, sA.row (t := 906) (i := 1) rfl, sA.row (t := 907) (i := 1) rfl]
      rw [q3]
      refine ⟨⟨q1, q2, rfl, q4, q5, q6⟩, qn, qc, qr', qb, qB, fun i i0 i1 => ?_, LawS_keep sA rfl qL⟩
      by_cases e : i = d.1 0 2
      · rw [e, upr_at, upr_at]
      · rw [upr_ne e, upr_ne e]; exact qd i i0 (by omega)
end
