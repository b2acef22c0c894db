/-! 44: the reference's beats -/
theorem t_X12_L42 {m M : Int} {a c : Int → Bool} {H L : Int → Int} {σ : St} {Q : Int → St → Prop} (hm : σ 1310 0 1 = m) (h0 : 0 ≤ m) (h6 : m ≤ 6)
    (hH : ∀ b : Int, 0 ≤ b → b < m → σ 1346 0 (22 + b) = H b ∧ σ 1346 0 (34 + b) = L b ∧ (0 ≤ L b ∧ L b ≤ 43) ∧ a b = (decide (H b = 1) && decide (L b ≤ 1)) ∧ c b = (decide (H b = 3) && decide (L b ≤ 1)))
    (hM : σ 1346 0 3 = M) (hM0 : 0 ≤ M) (hM6 : M + cnt a m.toNat ≤ 6)
    (k : ∀ σ', Sm [(1346, 0, none)] σ σ' → σ' 1346 0 3 = M + cnt a m.toNat → (∀ b : Int, 0 ≤ b → b < m → σ' 1346 0 (22 + b) = (if a b = true then 2 else if c b = true then 0 else H b) ∧ σ' 1346 0 (34 + b) = (if H b = 1 ∨ H b = 3 then L b - 1 else L b)) →
      (∀ j : Int, 0 ≤ j → j < M → σ' 1346 0 (4 + j) = σ 1346 0 (4 + j)) → (∀ b : Int, 0 ≤ b → b < m → a b = true → σ' 1346 0 (4 + (M + cnt a b.toNat)) = b) →
      (∀ x : Int, x = 0 ∨ x = 2 ∨ (10 ≤ x ∧ x < 22) ∨ (28 ≤ x ∧ x < 34) ∨ 40 ≤ x → σ' 1346 0 x = σ 1346 0 x) → σ' 1346 0 1 = wi (σ 1346 0 1 + 1) → Q (bts c m.toNat) σ') : P_X12_passes_J40 0 Q σ := by
  unfold P_X12_passes_J40
  refine loopI (X := Int × St) (F := fun n i a => P_X12_passes_L42 Q n a.1 i a.2) (N := m) (fun i τ => τ.1 = bts c i.toNat ∧ Sm [(1346, 0, none)] σ τ.2 ∧ τ.2 1346 0 3 = M + cnt a i.toNat ∧
    (∀ b : Int, 0 ≤ b → b < m → τ.2 1346 0 (22 + b) = (if b < i ∧ (a b = true ∨ c b = true) then (if a b = true then 2 else 0) else H b) ∧ τ.2 1346 0 (34 + b) = (if b < i ∧ (H b = 1 ∨ H b = 3) then L b - 1 else L b)) ∧
    (∀ j : Int, 0 ≤ j → j < M → τ.2 1346 0 (4 + j) = σ 1346 0 (4 + j)) ∧ (∀ b : Int, 0 ≤ b → b < i → a b = true → τ.2 1346 0 (4 + (M + cnt a b.toNat)) = b) ∧
    (∀ x : Int, x = 0 ∨ x = 1 ∨ x = 2 ∨ (10 ≤ x ∧ x < 22) ∨ (28 ≤ x ∧ x < 34) ∨ 40 ≤ x → τ.2 1346 0 x = σ 1346 0 x)) ?_ ?_ m.toNat 0 (0, σ) FU (Int.le_refl 0) (by omega) (FU_pos (by omega)) ?_
  · rintro n i ⟨x, τ⟩ i0 i1 ⟨hx, hs, hc, hr, hq, hn, ho⟩ k'
    dsimp only at hx hs hc hr hq hn ho k' ⊢
    have e8 : τ 1310 0 1 = m := by rw [hs.row (t := 1310) (i := 0) rfl]; exact hm
    obtain ⟨-, -, hl, ha, hcc⟩ := hH i i0 i1
    obtain ⟨h4, h5⟩ := hr i i0 i1
    rw [if_neg (by omega)] at h4 h5
    have nx : wi (i + 1) = i + 1 := wi_id (by omega) (by omega)
    have w22 : wi (22 + i) = 22 + i := wi_id (by omega) (by omega)
    have w34 : wi (34 + i) = 34 + i := wi_id (by omega) (by omega)
    have wl : wi (L i - 1) = L i - 1 := wi_id (by omega) (by omega)
    have cn := cnt_nonneg a i.toNat
    have ca : cnt a i.toNat ≤ cnt a m.toNat := cnt_mono (by omega)
    -- the common piece
    have J : (H i = 1 ∨ H i = 3) → P_X12_passes_J81 x i (P_X12_passes_L42 Q n) Q τ := by
      intro hh
      unfold P_X12_passes_J81
      rw [w34, w22, nx, h5, wl, up_at]
      refine ⟨by omega, by omega, by omega, by omega, by omega, by omega, ?_⟩
      have F0 : ∀ b : Int, 0 ≤ b → b < m → b ≠ i → (up τ 1346 0 (34 + i) (L i - 1) 1346 0 (22 + b) = τ 1346 0 (22 + b) ∧ up τ 1346 0 (34 + i) (L i - 1) 1346 0 (34 + b) = τ 1346 0 (34 + b)) := fun b b0 b1 e => ⟨up_nx (by omega), up_nx (by omega)⟩
      by_cases cl : L i - 1 ≤ 0
      · rw [if_pos cl, up_nx (show (22 + i : Int) ≠ 34 + i by omega), h4]
        refine ⟨by omega, by omega, ?_⟩
        by_cases c1 : H i = 1
        · have aa : a i = true := by rw [ha, decide_eq_true c1, decide_eq_true (p := L i ≤ 1) (by omega)]; rfl
          have ac : c i = false := by rw [hcc, decide_eq_false (p := H i = 3) (by omega), Bool.false_and]
          have c6 := cnt_step i0 i1 aa
          rw [if_pos c1, up_nx (show (3 : Int) ≠ 22 + i by omega), up_nx (show (3 : Int) ≠ 34 + i by omega), hc, wi_id (z := 4 + (M + cnt a i.toNat)) (by omega) (by omega)]
          rw [up_nx (show (3 : Int) ≠ 4 + (M + cnt a i.toNat) by omega), up_nx (show (3 : Int) ≠ 22 + i by omega), up_nx (show (3 : Int) ≠ 34 + i by omega), hc, wi_id (z := M + cnt a i.toNat + 1) (by omega) (by omega)]
          refine ⟨by omega, by omega, by omega, by omega, ?_⟩
          refine k' (x, up (up (up (up τ 1346 0 (34 + i) (L i - 1)) 1346 0 (22 + i) 2) 1346 0 (4 + (M + cnt a i.toNat)) i) 1346 0 3 (M + cnt a i.toNat + 1)) ⟨?_, Sm_up (Sm_up (Sm_up (Sm_up hs rfl) rfl) rfl) rfl, ?_, fun b b0 b1 => ?_, fun j j0 j1 => ?_, fun b b0 b1 hb => ?_, fun y hy => ?_⟩
          · rw [bts_i i0, ac]; exact hx
          · dsimp only
            rw [up_at, cnt_i i0, aa, if_pos rfl]
            omega
          · dsimp only
            rw [up_nx (show (22 + b : Int) ≠ 3 by omega), up_nx (show (34 + b : Int) ≠ 3 by omega), up_nx (show (22 + b : Int) ≠ 4 + (M + cnt a i.toNat) by omega), up_nx (show (34 + b : Int) ≠ 4 + (M + cnt a i.toNat) by omega), up_nx (show (34 + b : Int) ≠ 22 + i by omega)]
            by_cases e : b = i
            · subst e
              rw [up_at, up_at, if_here, if_here, if_pos hh, aa, if_pos (Or.inl rfl), if_pos rfl]
              exact ⟨rfl, rfl⟩
            · rw [up_nx (show (22 + b : Int) ≠ 22 + i by omega), (F0 b b0 b1 e).1, (F0 b b0 b1 e).2, if_step e, if_step e]
              exact hr b b0 b1
          · dsimp only
            rw [up_nx (by omega), up_nx (by omega), up_nx (by omega), up_nx (by omega)]
            exact hq j j0 j1
          · dsimp only
            have cb := cnt_nonneg a b.toNat
            rw [up_nx (by omega)]
            by_cases e : b = i
            · subst e
              rw [up_at]
            · have cx := cnt_step b0 (show b < i by omega) hb
              rw [up_nx (by omega), up_nx (by omega), up_nx (by omega)]
              exact hn b b0 (by omega) hb
          · dsimp only
            rw [up_nx (by omega), up_nx (by omega), up_nx (by omega), up_nx (by omega)]
            exact ho y hy
        · have aa : a i = false := by rw [ha, decide_eq_false c1, Bool.false_and]
          have ac : c i = true := by rw [hcc, decide_eq_true (p := H i = 3) (by omega), decide_eq_true (p := L i ≤ 1) (by omega)]; rfl
          rw [if_neg c1]
          refine ⟨by omega, by omega, ?_⟩
          refine k' (bO x (bL 1 i), up (up τ 1346 0 (34 + i) (L i - 1)) 1346 0 (22 + i) 0) ⟨?_, Sm_up (Sm_up hs rfl) rfl, ?_, fun b b0 b1 => ?_, fun j j0 j1 => ?_, fun b b0 b1 hb => ?_, fun y hy => ?_⟩
          · rw [bts_i i0, ac, if_pos rfl, hx]
          · dsimp only
            rw [up_nx (by omega), up_nx (by omega), hc, cnt_i i0, aa, if_neg (by decide), Int.add_zero]
          · dsimp only
            rw [up_nx (show (34 + b : Int) ≠ 22 + i by omega)]
            by_cases e : b = i
            · subst e
              rw [up_at, up_at, if_here, if_here, if_pos hh, aa, ac, if_pos (Or.inr rfl), if_neg (by decide)]
              exact ⟨rfl, rfl⟩
            · rw [up_nx (show (22 + b : Int) ≠ 22 + i by omega), (F0 b b0 b1 e).1, (F0 b b0 b1 e).2, if_step e, if_step e]
              exact hr b b0 b1
          · dsimp only
            rw [up_nx (by omega), up_nx (by omega)]
            exact hq j j0 j1
          · dsimp only
            have cb := cnt_nonneg a b.toNat
            have e : b ≠ i := fun e => by subst e; rw [aa] at hb; cases hb
            have cx := cnt_step b0 (show b < m by omega) hb
            rw [up_nx (by omega), up_nx (by omega)]
            exact hn b b0 (by omega) hb
          · dsimp only
            rw [up_nx (by omega), up_nx (by omega)]
            exact ho y hy
      · have aa : a i = false := by rw [ha, decide_eq_false (p := L i ≤ 1) (by omega), Bool.and_false]
        have ac : c i = false := by rw [hcc, decide_eq_false (p := L i ≤ 1) (by omega), Bool.and_false]
        rw [if_neg cl]
        refine k' (x, up τ 1346 0 (34 + i) (L i - 1)) ⟨?_, Sm_up hs rfl, ?_, fun b b0 b1 => ?_, fun j j0 j1 => ?_, fun b b0 b1 hb => ?_, fun y hy => ?_⟩
        · rw [bts_i i0, ac]; exact hx
        · dsimp only
          rw [up_nx (by omega), hc, cnt_i i0, aa, if_neg (by decide), Int.add_zero]
        · dsimp only
          by_cases e : b = i
          · subst e
            rw [up_at, up_nx (by omega), if_here, if_here, if_pos hh, h4, aa, ac, if_neg (by decide)]
            exact ⟨rfl, rfl⟩
          · rw [(F0 b b0 b1 e).1, (F0 b b0 b1 e).2, if_step e, if_step e]
            exact hr b b0 b1
        · dsimp only
          rw [up_nx (by omega)]
          exact hq j j0 j1
        · dsimp only
          have cb := cnt_nonneg a b.toNat
          have e : b ≠ i := fun e => by subst e; rw [aa] at hb; cases hb
          have cx := cnt_step b0 (show b < m by omega) hb
          rw [up_nx (by omega)]
          exact hn b b0 (by omega) hb
        · dsimp only
          rw [up_nx (by omega)]
          exact ho y hy
    unfold P_X12_passes_L42
    rw [e8, if_neg (by omega), w22, h4, nx]
    refine ⟨by omega, by omega, ?_⟩
    by_cases c1 : H i = 1
    · rw [if_pos c1]
      exact J (Or.inl c1)
    · rw [if_neg c1]
      refine ⟨by omega, by omega, ?_⟩
      by_cases c3 : H i = 3
      · rw [if_pos c3]
        exact J (Or.inr c3)
      · rw [if_neg c3]
        have aa : a i = false := by rw [ha, decide_eq_false c1, Bool.false_and]
        have ac : c i = false := by rw [hcc, decide_eq_false c3, Bool.false_and]
        refine k' (x, τ) ⟨?_, hs, ?_, fun b b0 b1 => ?_, hq, fun b b0 b1 hb => ?_, ho⟩
        · rw [bts_i i0, ac]; exact hx
        · dsimp only
          rw [hc, cnt_i i0, aa, if_neg (by decide), Int.add_zero]
        · dsimp only
          by_cases e : b = i
          · subst e
            rw [h4, h5, if_here, if_here, if_neg (by rw [aa, ac]; decide), if_neg (by omega)]
            exact ⟨rfl, rfl⟩
          · rw [if_step e, if_step e]
            exact hr b b0 b1
        · have e : b ≠ i := fun e => by subst e; rw [aa] at hb; cases hb
          exact hn b b0 (by omega) hb
  · rintro n ⟨x, τ⟩ ⟨hx, hs, hc, hr, hq, hn, ho⟩
    dsimp only at hx hs hc hr hq hn ho ⊢
    have e8 : τ 1310 0 1 = m := by rw [hs.row (t := 1310) (i := 0) rfl]; exact hm
    have ca := cnt_nonneg a m.toNat
    unfold P_X12_passes_L42
    rw [e8, if_pos (Int.le_refl m), hx]
    refine k _ (Sm_up hs rfl) ?_ (fun b b0 b1 => ?_) (fun j j0 j1 => ?_) (fun b b0 b1 hb => ?_) (fun y hy => ?_) ?_
    · rw [up_nx (by decide)]; exact hc
    · obtain ⟨h4, h5⟩ := hr b b0 b1
      rw [up_nx (by omega), up_nx (by omega), h4, h5]
      simp only [b1, true_and]
      refine ⟨?_, trivial⟩
      by_cases q1 : a b = true
      · rw [if_pos (Or.inl q1), if_pos q1, if_pos q1]
      · by_cases q2 : c b = true
        · rw [if_pos (Or.inr q2), if_neg q1, if_neg q1, if_pos q2]
        · rw [if_neg (by rintro (h | h) <;> contradiction), if_neg q1, if_neg q2]
    · rw [up_nx (by omega)]; exact hq j j0 j1
    · have cb := cnt_nonneg a b.toNat
      rw [up_nx (by omega)]; exact hn b b0 b1 hb
    · rw [up_nx (by omega)]; exact ho y (by omega)
    · rw [up_at, ho 1 (by omega)]
  · refine ⟨rfl, Sm.rf, ?_, fun b b0 b1 => ?_, fun j j0 j1 => rfl, fun b b0 b1 hb => by omega, fun y hy => rfl⟩
    · dsimp only
      rw [hM]
      exact (Int.add_zero _).symm
    · rw [if_neg (by omega), if_neg (by omega)]
      exact ⟨(hH b b0 b1).1, (hH b b0 b1).2.1⟩
theorem t_shift12 {x1 M : Int} {K Q : St → Prop} {σ : St} (hM : σ 1346 0 3 = M) (h1 : 1 ≤ M) (h6 : M ≤ 6)
    (k : ∀ σ', Sm [(1346, 0, none)] σ σ' → (∀ j : Int, 0 ≤ j → j < M - 1 → σ' 1346 0 (4 + j) = σ 1346 0 (4 + (j + 1))) → (∀ x : Int, x < 4 ∨ 10 ≤ x → σ' 1346 0 x = σ 1346 0 x) → K σ') : P_X12_serves_L9 x1 K Q FU 1 σ := by
  refine loopI (X := St) (F := fun n i τ => P_X12_serves_L9 x1 K Q n i τ) (N := M) (fun i τ => Sm [(1346, 0, none)] σ τ ∧ 1 ≤ i ∧ (∀ j : Int, 0 ≤ j → j < 6 → τ 1346 0 (4 + j) = if j < i - 1 then σ 1346 0 (4 + (j + 1)) else σ 1346 0 (4 + j)) ∧
    (∀ x : Int, x < 4 ∨ 10 ≤ x → τ 1346 0 x = σ 1346 0 x)) ?_ ?_ (M - 1).toNat 1 σ FU (by decide) (by omega) (FU_pos (by omega)) ?_
  · rintro n i τ i0 i1 ⟨hs, ii, hr, ho⟩ k'
    have e8 : τ 1346 0 3 = M := by rw [ho 3 (by omega)]; exact hM
    unfold P_X12_serves_L9
    rw [e8, if_neg (by omega), wi_id (z := 4 + i) (by omega) (by omega), wi_id (z := 4 + i - 1) (by omega) (by omega), wi_id (z := i + 1) (by omega) (by omega)]
    refine ⟨by omega, by omega, by omega, by omega, k' _ ⟨Sm_up hs rfl, by omega, fun j j0 j1 => ?_, fun x hx => ?_⟩⟩
    · by_cases e : j = i - 1
      · subst e
        rw [show (4 : Int) + (i - 1) = 4 + i - 1 by omega, up_at, hr i i0 (by omega), if_neg (by omega), if_pos (by omega), show i - 1 + 1 = i by omega]
      · rw [up_nx (by omega), hr j j0 j1]
        by_cases hj : j < i - 1
        · rw [if_pos hj, if_pos (by omega)]
        · rw [if_neg hj, if_neg (by omega)]
    · rw [up_nx (by omega)]; exact ho x hx
  · rintro n τ ⟨hs, ii, hr, ho⟩
    have e8 : τ 1346 0 3 = M := by rw [ho 3 (by omega)]; exact hM
    unfold P_X12_serves_L9
    rw [e8, if_pos (Int.le_refl M)]
    refine k τ hs (fun j j0 j1 => ?_) ho
    rw [hr j j0 (by omega), if_pos j1]
  · refine ⟨Sm.rf, Int.le_refl 1, fun j j0 j1 => ?_, fun x hx => rfl⟩
    rw [if_neg (by omega)]
theorem t_X12_serves {m n M : Int} {z : Ab} {σ : St} {Q : St → Prop} (hS : ShC σ 0) (hE : ShE σ) (hn : σ 8 0 10 = n) (hm : σ 8 0 11 = m)
    (hM : σ 1346 0 3 = M) (hM0 : 1 ≤ M) (hM6 : M ≤ 6) (hq : σ 1346 0 4 = zQ z 0 ∧ 0 ≤ zQ z 0 ∧ zQ z 0 < m)
    (hg : ∀ c : Int, 0 ≤ c → c < n → σ 1346 0 (10 + c) = zGap z c) (hz : ∀ b : Int, 0 ≤ b → b < m → σ 1346 0 (16 + b) = zSize z b)
    (k : ∀ σ', Sm [(1346, 0, none)] σ σ' → σ' 1346 0 3 = M - 1 → σ' 1346 0 2 = 0 → (∀ j : Int, 0 ≤ j → j < M - 1 → σ' 1346 0 (4 + j) = σ 1346 0 (4 + (j + 1))) →
      (∀ b : Int, 0 ≤ b → b < m → σ' 1346 0 (22 + b) = (if b = zQ z 0 then 3 else σ 1346 0 (22 + b)) ∧ σ' 1346 0 (28 + b) = (if b = zQ z 0 then srvAt (spC σ 0) z else σ 1346 0 (28 + b)) ∧
        σ' 1346 0 (34 + b) = (if b = zQ z 0 then srvLeft (spC σ 0) z + 1 else σ 1346 0 (34 + b))) →
      (∀ x : Int, x = 0 ∨ x = 1 ∨ (10 ≤ x ∧ x < 22) ∨ 40 ≤ x → σ' 1346 0 x = σ 1346 0 x) → Q σ') : P_X12_serves σ Q := by
  have hS' := hS
  obtain ⟨⟨n0, n6⟩, ⟨m0, m6⟩, -, ⟨d1, d9⟩, hc, -⟩ := hS'
  obtain ⟨q0, q1, q2⟩ := hq
  unfold P_X12_serves
  refine t_shift12 hM hM0 hM6 (fun τ hs ht ho => ?_)
  have w22 : wi (22 + zQ z 0) = 22 + zQ z 0 := wi_id (by omega) (by omega)
  have w28 : wi (28 + zQ z 0) = 28 + zQ z 0 := wi_id (by omega) (by omega)
  have w34 : wi (34 + zQ z 0) = 34 + zQ z 0 := wi_id (by omega) (by omega)
  have w16 : wi (16 + zQ z 0) = 16 + zQ z 0 := wi_id (by omega) (by omega)
  rw [ho 3 (by omega), hM, q0, w22, w28, w34, wi_id (z := M - 1) (by omega) (by omega)]
  refine ⟨by omega, by omega, ?_⟩
  have s2 : Sm [(1346, 0, none)] σ (up (up (up τ 1346 0 3 (M - 1)) 1346 0 2 0) 1346 0 (22 + zQ z 0) 3) := Sm_up (Sm_up (Sm_up hs rfl) rfl) rfl
  unfold P_X12_fallOf
  rw [w16]
  refine ⟨by omega, by omega, ?_⟩
  have hS2 := ShC_keep s2 rfl hS
  have hE2 := ShE_keep s2 rfl hE
  have f2 : falW (σ 8 0 10) (σ 903 0) (fun c => up (up (up τ 1346 0 3 (M - 1)) 1346 0 2 0) 1346 0 (22 + zQ z 0) 3 1346 0 (10 + c)) (up (up (up τ 1346 0 3 (M - 1)) 1346 0 2 0) 1346 0 (22 + zQ z 0) 3 1346 0 (16 + zQ z 0)) = srvAt (spC σ 0) z := by
    rw [up_nx (x' := 16 + zQ z 0) (by omega), up_nx (x' := 16 + zQ z 0) (by omega), up_nx (x' := 16 + zQ z 0) (by omega), ho _ (by omega), hz _ q1 q2]
    refine falW_congr (fun i i0 i1 => ⟨rfl, ?_⟩)
    have := (hc i i0 i1).2.2
    rw [up_nx (by omega), up_nx (by omega), up_nx (by omega), ho _ (by omega)]
    exact hg _ this.1 (by omega)
  have fr : 0 ≤ srvAt (spC σ 0) z ∧ (srvAt (spC σ 0) z < σ 8 0 10 ∨ srvAt (spC σ 0) z = 6) := by
    rw [← f2]
    have := falW_rng (n := σ 8 0 10) (r := σ 903 0) (g := fun c => up (up (up τ 1346 0 3 (M - 1)) 1346 0 2 0) 1346 0 (22 + zQ z 0) 3 1346 0 (10 + c)) (w := up (up (up τ 1346 0 3 (M - 1)) 1346 0 2 0) 1346 0 (22 + zQ z 0) 3 1346 0 (16 + zQ z 0)) n0 n6 (fun i i0 i1 => (hc i i0 i1).2.2)
    exact ⟨this.1, this.2.2⟩
  refine t_X12_fallsBy hS2 hE2 ?_
  rw [s2.row (t := 8) (i := 0) rfl, s2.row (t := 903) (i := 0) rfl, f2]
  refine ⟨by omega, by omega, by omega, by omega, ?_⟩
  have s3 : Sm [(1346, 0, none)] σ (up (up (up (up τ 1346 0 3 (M - 1)) 1346 0 2 0) 1346 0 (22 + zQ z 0) 3) 1346 0 (28 + zQ z 0) (srvAt (spC σ 0) z)) := Sm_up s2 rfl
  have hS3 := ShC_keep s3 rfl hS
  have hE3 := ShE_keep s3 rfl hE
  have br := btoW_rng hS (b := zQ z 0) fr.1
  have s38 := s3.row (t := 8) (i := 0) rfl
  refine t_X12_beatsTo hS3 hE3 q1 (by rw [s38]; omega) (by rw [up_at]; exact fr.1) (by rw [s38, up_at]; exact fr.2) ?_
  rw [s38, s3.row (t := 900) (i := 0) rfl, s3.row (t := 903) (i := 0) rfl, s3.row (t := 904) (i := 0) rfl, up_at, wi_id (by omega) (by omega)]
  refine ⟨by omega, by omega, ?_⟩
  refine k (up (up (up (up (up τ 1346 0 3 (M - 1)) 1346 0 2 0) 1346 0 (22 + zQ z 0) 3) 1346 0 (28 + zQ z 0) (srvAt (spC σ 0) z)) 1346 0 (34 + zQ z 0) (srvLeft (spC σ 0) z + 1)) (Sm_up s3 rfl) ?_ ?_ (fun j j0 j1 => ?_) (fun b b0 b1 => ?_) (fun x hx => ?_)
  · rw [up_nx (by omega), up_nx (by omega), up_nx (by omega), up_nx (by omega), up_at]
  · rw [up_nx (by omega), up_nx (by omega), up_nx (by omega), up_at]
  · rw [up_nx (by omega), up_nx (by omega), up_nx (by omega), up_nx (by omega), up_nx (by omega)]
    exact ht j j0 j1
  · by_cases e : b = zQ z 0
    · rw [if_pos e, if_pos e, if_pos e, e, up_nx (show 22 + zQ z 0 ≠ 34 + zQ z 0 by omega), up_nx (show 22 + zQ z 0 ≠ 28 + zQ z 0 by omega), up_at, up_nx (show 28 + zQ z 0 ≠ 34 + zQ z 0 by omega), up_at, up_at]
      exact ⟨rfl, rfl, rfl⟩
    · rw [if_neg e, if_neg e, if_neg e]
      refine ⟨?_, ?_, ?_⟩ <;> rw [up_nx (by omega), up_nx (by omega), up_nx (by omega), up_nx (by omega), up_nx (by omega), ho _ (by omega)]
  · rw [up_nx (by omega), up_nx (by omega), up_nx (by omega), up_nx (by omega), up_nx (by omega)]
    exact ho x (by omega)
theorem t_X12_passes {n m dk : Int} {z : Ab} {σ : St} {Q : Int → St → Prop} (hS : ShC σ 0) (hE : ShE σ) (hn : σ 8 0 10 = n) (hm : σ 8 0 11 = m) (hdk : σ 8 0 13 = dk)
    (hW : WfZ n m dk z) (hC : StA n m (σ 1346 0) z)
    (k : ∀ σ', Sm [(1346, 0, none)] σ σ' → StA n m (σ' 1346 0) (pasW (spC σ 0) z) → Q (pasB (spC σ 0) z) σ') : P_X12_passes σ Q := by
  have hS' := hS
  obtain ⟨⟨n0, n6⟩, ⟨m0, m6⟩, -, ⟨d1, d9⟩, hc, -⟩ := hS'
  rw [hn] at n0 n6
  rw [hm] at m0 m6
  have hE' := hE
  obtain ⟨ee0, ee1, ee2, -⟩ := hE'
  have hmn := hW.many m0
  have hroom := hW.room m0
  have hm1 := man1_rng (s := spC σ 0) hmn.1
  obtain ⟨wd, wb, wv, wM, wq, wi1, wg, wB⟩ := hW
  obtain ⟨c0, c1, c2, c3, cq, cg, cB⟩ := hC
  have es : (spC σ 0).2.2.1 = dk := hdk
  have em : (spC σ 0).2.1 = m := hm
  have wbeat : wi (zBeat z + 1) = zBeat (pasW (spC σ 0) z) := rfl
  have hq0 : srvd dk z = true → zHow z (zQ z 0) = 2 ∧ 0 ≤ zQ z 0 ∧ zQ z 0 < m := fun h => by
    unfold srvd at h
    simp only [Bool.and_eq_true, decide_eq_true_eq] at h
    have := wq 0 (Int.le_refl 0) h.1
    exact ⟨this.2, this.1⟩
  have hsl : 1 ≤ srvLeft (spC σ 0) z ∧ srvLeft (spC σ 0) z ≤ 42 := by
    have hf : 0 ≤ srvAt (spC σ 0) z := (falW_rng (n := σ 8 0 10) (r := σ 903 0) (by omega) (by omega) (fun i i0 i1 => (hc i i0 (by omega)).2.2)).1
    exact btoW_rng hS (b := zQ z 0) hf
  have harr : ∀ b : Int, arr z b = true → zHow z b = 1 ∧ zLeft z b ≤ 1 := fun b hb => by
    unfold arr at hb
    simp only [Bool.and_eq_true, decide_eq_true_eq] at hb
    exact hb
  have hcom : ∀ b : Int, com z b = true → zHow z b = 3 ∧ zLeft z b ≤ 1 := fun b hb => by
    unfold com at hb
    simp only [Bool.and_eq_true, decide_eq_true_eq] at hb
    exact hb
  -- behind the desk
  have main : ∀ τ : St, Sm [(1346, 0, none)] σ τ → τ 1346 0 3 = man1 (spC σ 0) z → τ 1346 0 2 = (if 0 < zMany z then (if dk ≤ zSrv z + 1 then 0 else zSrv z + 1) else zSrv z) →
      (∀ j : Int, 0 ≤ j → j < man1 (spC σ 0) z → τ 1346 0 (4 + j) = if srvd dk z = true then zQ z (j + 1) else zQ z j) →
      (∀ b : Int, 0 ≤ b → b < m → τ 1346 0 (22 + b) = (if srvd dk z = true ∧ b = zQ z 0 then 3 else zHow z b) ∧ τ 1346 0 (28 + b) = (if srvd dk z = true ∧ b = zQ z 0 then srvAt (spC σ 0) z else zAt z b) ∧
        τ 1346 0 (34 + b) = (if srvd dk z = true ∧ b = zQ z 0 then srvLeft (spC σ 0) z + 1 else zLeft z b)) →
      (∀ x : Int, x = 0 ∨ x = 1 ∨ (10 ≤ x ∧ x < 22) ∨ 40 ≤ x → τ 1346 0 x = σ 1346 0 x) → P_X12_passes_J40 0 Q τ := by
    intro τ hs h3 h2 hq hb ho
    refine t_X12_L42 (m := m) (M := man1 (spC σ 0) z) (a := arr z) (c := com z) (H := fun b => if srvd dk z = true ∧ b = zQ z 0 then 3 else zHow z b) (L := fun b => if srvd dk z = true ∧ b = zQ z 0 then srvLeft (spC σ 0) z + 1 else zLeft z b)
      (by rw [hs.row (t := 1310) (i := 0) rfl, ee1]; exact hm) m0 m6 (fun b b0 b1 => ?_) h3 hm1.1 (by omega) ?_
    · obtain ⟨a4, -, a5⟩ := hb b b0 b1
      obtain ⟨-, -, -, wl, wl1, -⟩ := wB b b0 b1
      refine ⟨a4, a5, ?_, ?_, ?_⟩
      · split <;> omega
      · by_cases h1 : srvd dk z = true ∧ b = zQ z 0
        · rw [if_pos h1, decide_eq_false (by decide), Bool.false_and]
          cases ha : arr z b
          · rfl
          · have := (harr b ha).1
            rw [h1.2, (hq0 h1.1).1] at this
            cases this
        · rw [if_neg h1, if_neg h1]; rfl
      · by_cases h1 : srvd dk z = true ∧ b = zQ z 0
        · rw [if_pos h1, if_pos h1, decide_eq_false (p := srvLeft (spC σ 0) z + 1 ≤ 1) (by omega), Bool.and_false]
          cases ha : com z b
          · rfl
          · have := (hcom b ha).1
            rw [h1.2, (hq0 h1.1).1] at this
            cases this
        · rw [if_neg h1, if_neg h1]; rfl
    intro υ s3 v3 r3 q3 n3 o3 t3
    rw [← em]
    refine k υ (hs.tr s3) ⟨?_, ?_, ?_, ?_, fun j j0 j1 => ?_, fun c c0 c1 => ?_, fun b b0 b1 => ?_⟩
    · rw [o3 0 (by omega), ho 0 (by omega)]; exact c0
    · rw [t3, ho 1 (by omega), c1]
      exact wbeat
    · rw [o3 2 (by omega), h2]
      show _ = (if 0 < zMany z then (if (spC σ 0).2.2.1 ≤ zSrv z + 1 then 0 else zSrv z + 1) else zSrv z)
      rw [es]
    · rw [v3]
      show _ = man1 (spC σ 0) z + cnt (arr z) (spC σ 0).2.1.toNat
      rw [em]
    · have j1 : j < man1 (spC σ 0) z + cnt (arr z) m.toNat := by
        have : zMany (pasW (spC σ 0) z) = man1 (spC σ 0) z + cnt (arr z) (spC σ 0).2.1.toNat := rfl
        rw [em] at this
        omega
      by_cases hj : j < man1 (spC σ 0) z
      · rw [q3 j j0 hj, hq j j0 hj]
        show _ = (if j < man1 (spC σ 0) z then (if srvd (spC σ 0).2.2.1 z = true then zQ z (j + 1) else zQ z j) else _)
        rw [if_pos hj, es]
      · obtain ⟨b, hb, ha, hcnt⟩ := cnt_at (p := arr z) (m := m.toNat) (j := j - man1 (spC σ 0) z) (by omega) (by omega)
        have h1 := n3 b (by omega) (by omega) ha
        have h2 := pasQ_new (s := spC σ 0) (z := z) (b := b) (by rw [em]; omega) ha
        rw [Int.toNat_natCast] at h1
        rw [show j = man1 (spC σ 0) z + cnt (arr z) b by omega, h1, h2]
    · rw [o3 _ (by omega), ho _ (by omega)]
      exact cg c c0 c1
    · obtain ⟨a4, a3, a5⟩ := hb b b0 b1
      obtain ⟨b4, b5⟩ := r3 b b0 b1
      obtain ⟨d2, d4, d3, d5, d6⟩ := cB b b0 b1
      refine ⟨?_, ?_, ?_, ?_, ?_⟩
      · rw [o3 _ (by omega), ho _ (by omega)]; exact d2
      · rw [b4]
        show _ = (if (srvd (spC σ 0).2.2.1 z && decide (b = zQ z 0)) = true then 3 else if com z b = true then 0 else if arr z b = true then 2 else zHow z b)
        rw [es]
        by_cases h1 : srvd dk z = true ∧ b = zQ z 0
        · have ha : arr z b = false := by
            cases ha : arr z b
            · rfl
            · have := (harr b ha).1
              rw [h1.2, (hq0 h1.1).1] at this
              cases this
          have hc : com z b = false := by
            cases ha : com z b
            · rfl
            · have := (hcom b ha).1
              rw [h1.2, (hq0 h1.1).1] at this
              cases this
          rw [if_pos h1, ha, hc, if_neg (by decide), if_neg (by decide), if_pos (by rw [h1.1, decide_eq_true h1.2]; rfl)]
        · rw [if_neg h1, if_neg (c := (srvd dk z && decide (b = zQ z 0)) = true) (by simp only [Bool.and_eq_true, decide_eq_true_eq]; exact h1)]
          by_cases h2 : com z b = true
          · have ha : arr z b = false := by
              cases ha : arr z b
              · rfl
              · have h3 := (harr b ha).1
                rw [(hcom b h2).1] at h3
                cases h3
            rw [if_pos h2, ha, if_neg (by decide)]
            rw [if_pos h2]
          · rw [if_neg h2, if_neg h2]
      · rw [o3 _ (by omega), a3]
        show _ = (if (srvd (spC σ 0).2.2.1 z && decide (b = zQ z 0)) = true then srvAt (spC σ 0) z else zAt z b)
        rw [es]
        simp only [Bool.and_eq_true, decide_eq_true_eq]
      · rw [b5]
        show _ = (if (srvd (spC σ 0).2.2.1 z && decide (b = zQ z 0)) = true then srvLeft (spC σ 0) z else if zHow z b = 1 ∨ zHow z b = 3 then zLeft z b - 1 else zLeft z b)
        rw [es]
        by_cases h1 : srvd dk z = true ∧ b = zQ z 0
        · rw [if_pos h1, if_pos h1, if_pos (Or.inr rfl), if_pos (by rw [h1.1, decide_eq_true h1.2]; rfl)]
          omega
        · rw [if_neg h1, if_neg h1, if_neg (c := (srvd dk z && decide (b = zQ z 0)) = true) (by simp only [Bool.and_eq_true, decide_eq_true_eq]; exact h1)]
      · rw [o3 _ (by omega), ho _ (by omega)]; exact d6
  unfold P_X12_passes
  rw [c3]
  by_cases z0 : zMany z ≤ 0
  · rw [if_pos z0]
    have sv : srvd dk z = false := by unfold srvd; rw [decide_eq_false (by omega), Bool.false_and]
    have m1 : man1 (spC σ 0) z = zMany z := by unfold man1; rw [es, sv]; rfl
    refine main σ Sm.rf (by rw [m1]; exact c3) (by rw [if_neg (by omega)]; exact c2) (fun j j0 j1 => ?_) (fun b b0 b1 => ?_) (fun x hx => rfl)
    · rw [sv, if_neg (by decide)]
      exact cq j j0 (by omega)
    · rw [sv, if_neg (by simp), if_neg (by simp), if_neg (by simp)]
      exact ⟨(cB b b0 b1).2.1, (cB b b0 b1).2.2.1, (cB b b0 b1).2.2.2.1⟩
  · rw [if_neg z0, up_nt (t' := 1310) (t := 1346) rfl, up_at, c2, wi_id (z := zSrv z + 1) (by omega) (by omega), ee2, hdk]
    by_cases cs : dk ≤ zSrv z + 1
    · have sv : srvd dk z = true := by unfold srvd; rw [decide_eq_true (p := 0 < zMany z) (by omega), decide_eq_true cs]; rfl
      have m1 : man1 (spC σ 0) z = zMany z - 1 := by unfold man1; rw [es, sv]; rfl
      rw [if_neg (by omega)]
      have s1 : Sm [(1346, 0, none)] σ (up σ 1346 0 2 (zSrv z + 1)) := Sm_up Sm.rf rfl
      have s18 := s1.row (t := 8) (i := 0) rfl
      obtain ⟨qh, qa, qb⟩ := hq0 sv
      have cq0 := cq 0 (Int.le_refl 0) (by omega)
      refine t_X12_serves (m := m) (n := n) (M := zMany z) (z := z) (ShC_keep s1 rfl hS) (ShE_keep s1 rfl hE) (by rw [s18]; exact hn) (by rw [s18]; exact hm) (by rw [up_nx (by decide)]; exact c3) (by omega) (by omega) ⟨?_, qa, qb⟩ (fun c c0 c1 => ?_) (fun b b0 b1 => ?_) (fun τ hs t3 t2 tq tb tt => ?_)
      · rw [up_nx (by decide)]; exact cq0
      · rw [up_nx (by omega)]; exact cg c c0 c1
      · rw [up_nx (by omega)]; exact (cB b b0 b1).1
      · rw [spC_keep s1 rfl] at tb
        refine main τ (s1.tr hs) (by rw [t3, m1]) (by rw [t2, if_pos (by omega), if_pos cs]) (fun j j0 j1 => ?_) (fun b b0 b1 => ?_) (fun x hx => ?_)
        · rw [tq j j0 (by omega), up_nx (by omega), sv, if_pos rfl]
          exact cq (j + 1) (by omega) (by omega)
        · obtain ⟨t22, t28, t34⟩ := tb b b0 b1
          rw [up_nx (by omega)] at t22 t28 t34
          obtain ⟨d2, d4, d3, d5, d6⟩ := cB b b0 b1
          rw [t22, t28, t34, d4, d3, d5, sv]
          simp only [true_and, and_self]
        · rw [tt x hx, up_nx (by omega)]
    · have sv : srvd dk z = false := by unfold srvd; rw [decide_eq_false cs, Bool.and_false]
      have m1 : man1 (spC σ 0) z = zMany z := by unfold man1; rw [es, sv]; rfl
      rw [if_pos (by omega)]
      refine main (up σ 1346 0 2 (zSrv z + 1)) (Sm_up Sm.rf rfl) (by rw [m1, up_nx (by decide)]; exact c3) (by rw [up_at, if_pos (by omega), if_neg cs]) (fun j j0 j1 => ?_) (fun b b0 b1 => ?_) (fun x hx => ?_)
      · rw [up_nx (by omega), sv, if_neg (by decide)]
        exact cq j j0 (by omega)
      · rw [up_nx (by omega), up_nx (by omega), up_nx (by omega), sv, if_neg (by simp), if_neg (by simp), if_neg (by simp)]
        exact ⟨(cB b b0 b1).2.1, (cB b b0 b1).2.2.1, (cB b b0 b1).2.2.2.1⟩
      · rw [up_nx (by omega)]
