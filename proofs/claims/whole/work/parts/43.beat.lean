/-! 43: beats -/
/-- a loop with what holds all along -/
theorem loopI {X : Type} {F : Nat → Int → X → Prop} {N : Int} (J : Int → X → Prop)
    (hs : ∀ (n : Nat) (i : Int) (a : X), 0 ≤ i → i < N → J i a → (∀ a', J (i + 1) a' → F n (i + 1) a') → F (n + 1) i a)
    (hb : ∀ (n : Nat) (a : X), J N a → F (n + 1) N a) :
    ∀ (m : Nat) (i : Int) (a : X) (n : Nat), 0 ≤ i → i + m = N → m < n → J i a → F n i a
  | 0, i, a, n, h0, hN, hn, hJ => by
    obtain ⟨q, rfl, -⟩ := fu_ex hn
    have e : i = N := by omega
    subst e
    exact hb q a hJ
  | m + 1, i, a, n, h0, hN, hn, hJ => by
    obtain ⟨q, rfl, hq⟩ := fu_ex hn
    exact hs q i a h0 (by omega) hJ (fun a' h' => loopI J hs hb m (i + 1) a' q (by omega) (by omega) (by omega) h')
theorem up_nt {σ : St} {t i t' i' : Nat} {x v y : Int} (h : Nat.beq t' t = false) : up σ t i x v t' i' y = σ t' i' y := by rw [up_oth (Or.inl h)]
theorem bts_i {p : Int → Bool} {i : Int} (h : 0 ≤ i) : bts p (i + 1).toNat = if p i then bO (bts p i.toNat) (bL 1 i) else bts p i.toNat := by
  have e : (i + 1).toNat = i.toNat + 1 := by omega
  have e2 : ((i.toNat : Nat) : Int) = i := Int.toNat_of_nonneg h
  rw [e]
  show (if p (i.toNat : Nat) then bO (bts p i.toNat) (bL 1 (i.toNat : Nat)) else bts p i.toNat) = _
  rw [e2]
theorem cnt_i {p : Int → Bool} {i : Int} (h : 0 ≤ i) : cnt p (i + 1).toNat = cnt p i.toNat + (if p i then 1 else 0) := by
  have e : (i + 1).toNat = i.toNat + 1 := by omega
  have e2 : ((i.toNat : Nat) : Int) = i := Int.toNat_of_nonneg h
  rw [e]
  show cnt p i.toNat + (if p (i.toNat : Nat) then 1 else 0) = _
  rw [e2]
def cbA (o : Nat) : List Reg := [(1005, o, none), (1004, o, none), (9, o, some 12)]
/-- strays of a beat -/
def strB (m : Nat) (hm : Int → Int) (z : Ab) : Int := cnt (fun b => com z b && decide (zAt z b ≠ hm b)) m
theorem inm {A : List Reg} {t i : Nat} {x : Int} (h : (t, i, none) ∈ A) : inR A t i x = true := List.any_eq_true.mpr ⟨_, h, by simp⟩
theorem inm1 {A : List Reg} {t i : Nat} {x : Int} (h : (t, i, some x) ∈ A) : inR A t i x = true := List.any_eq_true.mpr ⟨_, h, by simp⟩
/-- untouched, by tag and place -/
theorem inF {A : List Reg} {t i : Nat} {x : Int} (h : A.all (fun a => !(Nat.beq a.1 t && (match a.2.2 with | none => true | some y => decide (y = x)))) = true) : inR A t i x = false := by
  cases hA : inR A t i x
  · rfl
  · obtain ⟨r, hr, hr2⟩ := List.any_eq_true.mp hA
    have h1 := List.all_eq_true.mp h r hr
    simp only [Bool.and_eq_true] at hr2
    have h3 := hr2.2.2
    rw [hr2.1] at h1
    cases e : r.2.2 <;> rw [e] at h1 h3 <;> simp_all
/-- before and behind one more -/
theorem if_step {A : Type} {b i : Int} {P : Prop} [Decidable P] {u v : A} (h : b ≠ i) : (if b < i + 1 ∧ P then u else v) = (if b < i ∧ P then u else v) := by
  by_cases hb : b < i
  · simp only [hb, show b < i + 1 by omega, true_and]
  · simp only [hb, show ¬ b < i + 1 by omega, false_and]
theorem if_here {A : Type} {i : Int} {P : Prop} [Decidable P] {u v : A} : (if i < i + 1 ∧ P then u else v) = (if P then u else v) := by
  simp only [show i < i + 1 by omega, true_and]
theorem t_X9_comeBack {m : Int} {o : Nat} {z : Ab} {σ : St} {Q : Int → St → Prop} (hm : σ 8 0 11 = m) (h0 : 0 ≤ m) (h6 : m ≤ 6)
    (hH : ∀ b : Int, 0 ≤ b → b < m → σ 1004 o b = zHow z b ∧ σ 1003 o b = zAt z b ∧ σ 1005 o b = zLeft z b)
    (hL : ∀ b : Int, 0 ≤ b → b < m → 0 ≤ zLeft z b ∧ zLeft z b ≤ 42)
    (k : ∀ σ', Sm (cbA o) σ σ' → (∀ b : Int, 0 ≤ b → b < m → σ' 1004 o b = (if com z b then 0 else zHow z b) ∧ σ' 1005 o b = (if zHow z b = 3 then zLeft z b - 1 else zLeft z b)) →
      (0 ≤ σ 9 o 12 → σ 9 o 12 ≤ 1000000000 → σ' 9 o 12 = σ 9 o 12 + strB m.toNat (σ 906 0) z) → Q (bts (com z) m.toNat) σ') : P_X9_comeBack o σ Q := by
  unfold P_X9_comeBack
  refine loopI (X := Int × St) (F := fun n i a => P_X9_comeBack_L4 o Q n a.1 i a.2) (N := m) (fun i a => a.1 = bts (com z) i.toNat ∧ Sm (cbA o) σ a.2 ∧
    (∀ b : Int, 0 ≤ b → b < m → a.2 1004 o b = (if b < i ∧ com z b = true then 0 else zHow z b) ∧ a.2 1005 o b = (if b < i ∧ zHow z b = 3 then zLeft z b - 1 else zLeft z b)) ∧
    (0 ≤ σ 9 o 12 → σ 9 o 12 ≤ 1000000000 → a.2 9 o 12 = σ 9 o 12 + strB i.toNat (σ 906 0) z)) ?_ ?_ m.toNat 0 (0, σ) FU (Int.le_refl 0) (by omega) (FU_pos (by omega)) ?_
  · rintro n i ⟨x, τ⟩ i0 i1 ⟨hx, hs, hr, hst⟩ k'
    dsimp only at hx hs hr hst k' ⊢
    have e8 : τ 8 0 11 = m := by rw [hs.row (t := 8) (i := 0) rfl]; exact hm
    have e6 : τ 906 0 i = σ 906 0 i := by rw [hs.row (t := 906) (i := 0) rfl]
    have e3 : τ 1003 o i = zAt z i := by rw [hs.row (t := 1003) (i := o) rfl]; exact (hH i i0 i1).2.1
    have hl := hL i i0 i1
    obtain ⟨h4, h5⟩ := hr i i0 i1
    rw [if_neg (by omega)] at h4 h5
    have nx : wi (i + 1) = i + 1 := wi_id (by omega) (by omega)
    unfold P_X9_comeBack_L4
    rw [e8, if_neg (by omega), h4]
    refine ⟨i0, by omega, ?_⟩
    by_cases c3 : zHow z i = 3
    · rw [if_pos c3, up_at, h5, wi_id (z := zLeft z i - 1) (by omega) (by omega)]
      refine ⟨i0, by omega, i0, by omega, i0, by omega, ?_⟩
      by_cases cl : 0 < zLeft z i - 1
      · have cc : com z i = false := by unfold com; rw [decide_eq_false (p := zLeft z i ≤ 1) (by omega), Bool.and_false]
        rw [if_pos cl, nx]
        refine k' (x, up τ 1005 o i (zLeft z i - 1)) ⟨?_, Sm_up hs (inm (.head _)), fun b b0 b1 => ?_, fun q0 q1 => ?_⟩
        · rw [bts_i i0, cc]; exact hx
        · dsimp only
          rw [up_nt rfl]
          by_cases e : b = i
          · subst e
            rw [up_at, if_here, if_here, if_pos c3, h4, cc]
            exact ⟨rfl, rfl⟩
          · rw [up_nx e, if_step e, if_step e]
            exact hr b b0 b1
        · dsimp only
          rw [up_nt rfl, hst q0 q1]
          unfold strB
          rw [cnt_i i0, cc, Bool.false_and, if_neg (by decide), Int.add_zero]
      · have cc : com z i = true := by unfold com; rw [decide_eq_true c3, decide_eq_true (p := zLeft z i ≤ 1) (by omega)]; rfl
        rw [if_neg cl]
        have fin : ∀ v : Int, (0 ≤ σ 9 o 12 → σ 9 o 12 ≤ 1000000000 → v = σ 9 o 12 + strB (i + 1).toNat (σ 906 0) z) → P_X9_comeBack_L4 o Q n (bO x (bL 1 i)) (i + 1) (up (up (up τ 1005 o i (zLeft z i - 1)) 1004 o i 0) 9 o 12 v) := by
          intro v hv
          refine k' (bO x (bL 1 i), up (up (up τ 1005 o i (zLeft z i - 1)) 1004 o i 0) 9 o 12 v) ⟨?_, Sm_up (Sm_up (Sm_up hs (inm (.head _))) (inm (.tail _ (.head _)))) (inm1 (.tail _ (.tail _ (.head _)))), fun b b0 b1 => ?_, fun q0 q1 => ?_⟩
          · rw [bts_i i0, cc, if_pos rfl, hx]
          · dsimp only
            rw [up_nt (t' := 1004) (t := 9) rfl, up_nt (t' := 1005) (t := 9) rfl, up_nt (t' := 1005) (t := 1004) rfl]
            by_cases e : b = i
            · subst e
              rw [up_at, up_at, if_here, if_here, if_pos c3, if_pos cc]
              exact ⟨rfl, rfl⟩
            · rw [up_nx e, up_nx e, up_nt rfl, if_step e, if_step e]
              exact hr b b0 b1
          · dsimp only
            rw [up_at]
            exact hv q0 q1
        rw [up_nt rfl, up_nt rfl, up_nt rfl, up_nt rfl, up_nt rfl, up_nt rfl, e3, e6]
        refine ⟨i0, by omega, i0, by omega, i0, by omega, ?_⟩
        have cn := cnt_nonneg (fun b => com z b && decide (zAt z b ≠ σ 906 0 b)) i.toNat
        split <;> rename_i hh <;> unfold P_X9_comeBack_J85 <;> rw [nx] <;> refine fin _ (fun q0 q1 => ?_) <;> rw [hst q0 q1] <;> unfold strB <;> rw [cnt_i i0, cc, Bool.true_and]
        · rw [if_neg (by simp [hh]), Int.add_zero, Int.add_zero, wi_id (by omega) (by omega)]
        · rw [if_pos (by simp [hh]), wi_id (by omega) (by omega)]
          omega
    · rw [if_neg c3, nx]
      have cc : com z i = false := by unfold com; rw [decide_eq_false c3, Bool.false_and]
      refine k' (x, _) ⟨?_, hs, fun b b0 b1 => ?_, fun q0 q1 => ?_⟩
      · rw [bts_i i0, cc]; exact hx
      · dsimp only
        by_cases e : b = i
        · subst e
          rw [if_here, if_here, if_neg c3, h4, h5, cc]
          exact ⟨rfl, rfl⟩
        · rw [if_step e, if_step e]
          exact hr b b0 b1
      · dsimp only
        rw [hst q0 q1]
        unfold strB
        rw [cnt_i i0, cc, Bool.false_and, if_neg (by decide), Int.add_zero]
  · rintro n ⟨x, τ⟩ ⟨hx, hs, hr, hst⟩
    dsimp only at hx hs hr hst ⊢
    have e8 : τ 8 0 11 = m := by rw [hs.row (t := 8) (i := 0) rfl]; exact hm
    unfold P_X9_comeBack_L4
    rw [e8, if_pos (Int.le_refl m), hx]
    refine k τ hs (fun b b0 b1 => ?_) hst
    obtain ⟨h4, h5⟩ := hr b b0 b1
    rw [h4, h5]
    simp only [b1, true_and, and_self]
  · refine ⟨rfl, Sm.rf, fun b b0 b1 => ?_, fun q0 q1 => ?_⟩
    · rw [if_neg (by omega), if_neg (by omega)]
      exact ⟨(hH b b0 b1).1, (hH b b0 b1).2.2⟩
    · show σ 9 o 12 = σ 9 o 12 + 0
      omega
def goA (o : Nat) : List Reg := [(1005, o, none), (1004, o, none), (1007, o, none), (9, o, some 8)]
theorem cnt_step {p : Int → Bool} {i m : Int} (h0 : 0 ≤ i) (h : i < m) (hp : p i = true) : cnt p i.toNat + 1 ≤ cnt p m.toNat := by
  have e : ((i.toNat : Nat) : Int) = i := Int.toNat_of_nonneg h0
  exact cnt_lt (p := p) (i := i.toNat) (j := m.toNat) (by omega) (by rw [e]; exact hp)
theorem cnt_inj {p : Int → Bool} {i j : Int} (h0 : 0 ≤ i) (h1 : 0 ≤ j) (hi : p i = true) (hj : p j = true) (h : cnt p i.toNat = cnt p j.toNat) : i = j := by
  rcases Int.lt_trichotomy i j with q | q | q
  · have := cnt_step h0 q hi; omega
  · exact q
  · have := cnt_step h1 q hj; omega
theorem t_X9_goOut {m M : Int} {o : Nat} {a : Int → Bool} {H L : Int → Int} {σ : St} {Q : St → Prop} (hm : σ 8 0 11 = m) (h0 : 0 ≤ m) (h6 : m ≤ 6)
    (hH : ∀ b : Int, 0 ≤ b → b < m → σ 1004 o b = H b ∧ σ 1005 o b = L b ∧ (0 ≤ L b ∧ L b ≤ 42) ∧ a b = (decide (H b = 1) && decide (L b ≤ 1)))
    (hM : σ 9 o 8 = M) (hM0 : 0 ≤ M) (hM6 : M + cnt a m.toNat ≤ 6)
    (k : ∀ σ', Sm (goA o) σ σ' → σ' 9 o 8 = M + cnt a m.toNat → (∀ b : Int, 0 ≤ b → b < m → σ' 1004 o b = (if a b = true then 2 else H b) ∧ σ' 1005 o b = (if H b = 1 then L b - 1 else L b)) →
      (∀ j : Int, 0 ≤ j → j < M → σ' 1007 o j = σ 1007 o j) → (∀ b : Int, 0 ≤ b → b < m → a b = true → σ' 1007 o (M + cnt a b.toNat) = b) → Q σ') : P_X9_goOut o σ Q := by
  unfold P_X9_goOut
  refine loopI (X := St) (F := fun n i τ => P_X9_goOut_L2 o Q n i τ) (N := m) (fun i τ => Sm (goA o) σ τ ∧ τ 9 o 8 = M + cnt a i.toNat ∧
    (∀ b : Int, 0 ≤ b → b < m → τ 1004 o b = (if b < i ∧ a b = true then 2 else H b) ∧ τ 1005 o b = (if b < i ∧ H b = 1 then L b - 1 else L b)) ∧
    (∀ j : Int, 0 ≤ j → j < M → τ 1007 o j = σ 1007 o j) ∧ (∀ b : Int, 0 ≤ b → b < i → a b = true → τ 1007 o (M + cnt a b.toNat) = b)) ?_ ?_ m.toNat 0 σ FU (Int.le_refl 0) (by omega) (FU_pos (by omega)) ?_
  · rintro n i τ i0 i1 ⟨hs, hc, hr, hq, hn⟩ k'
    have e8 : τ 8 0 11 = m := by rw [hs.row (t := 8) (i := 0) rfl]; exact hm
    obtain ⟨-, -, hl, ha⟩ := hH i i0 i1
    obtain ⟨h4, h5⟩ := hr i i0 i1
    rw [if_neg (by omega)] at h4 h5
    have nx : wi (i + 1) = i + 1 := wi_id (by omega) (by omega)
    have cn := cnt_nonneg a i.toNat
    unfold P_X9_goOut_L2
    rw [e8, if_neg (by omega), h4]
    refine ⟨i0, by omega, ?_⟩
    by_cases c1 : H i = 1
    · rw [if_pos c1, up_at, h5, wi_id (z := L i - 1) (by omega) (by omega)]
      refine ⟨i0, by omega, i0, by omega, i0, by omega, ?_⟩
      by_cases cl : 0 < L i - 1
      · have cc : a i = false := by rw [ha, decide_eq_false (p := L i ≤ 1) (by omega), Bool.and_false]
        rw [if_pos cl, nx]
        refine k' (up τ 1005 o i (L i - 1)) ⟨Sm_up hs (inm (.head _)), ?_, fun b b0 b1 => ?_, fun j j0 j1 => ?_, fun b b0 b1 hb => ?_⟩
        · rw [up_nt rfl, hc, cnt_i i0, cc]
          exact (Int.add_zero _).symm ▸ rfl
        · rw [up_nt rfl]
          by_cases e : b = i
          · subst e
            rw [up_at, if_here, if_here, if_pos c1, h4, cc]
            exact ⟨rfl, rfl⟩
          · rw [up_nx e, if_step e, if_step e]
            exact hr b b0 b1
        · rw [up_nt rfl]
          exact hq j j0 j1
        · rw [up_nt rfl]
          refine hn b b0 ?_ hb
          by_cases e : b = i
          · subst e; rw [cc] at hb; cases hb
          · omega
      · have cc : a i = true := by rw [ha, decide_eq_true c1, decide_eq_true (p := L i ≤ 1) (by omega)]; rfl
        have c6 := cnt_step i0 i1 cc
        rw [if_neg cl]
        simp only [up_nt (t' := 9) (t := 1005) rfl, up_nt (t' := 9) (t := 1004) rfl, up_nt (t' := 9) (t := 1007) rfl]
        rw [hc, if_neg (by omega), wi_id (z := M + cnt a i.toNat + 1) (by omega) (by omega), nx]
        refine ⟨i0, by omega, by omega, by omega, ?_⟩
        refine k' (up (up (up (up τ 1005 o i (L i - 1)) 1004 o i 2) 1007 o (M + cnt a i.toNat) i) 9 o 8 (M + cnt a i.toNat + 1)) ⟨Sm_up (Sm_up (Sm_up (Sm_up hs (inm (.head _))) (inm (.tail _ (.head _)))) (inm (.tail _ (.tail _ (.head _))))) (inm1 (.tail _ (.tail _ (.tail _ (.head _))))), ?_, fun b b0 b1 => ?_, fun j j0 j1 => ?_, fun b b0 b1 hb => ?_⟩
        · rw [up_at, cnt_i i0, cc, if_pos rfl]
          omega
        · rw [up_nt (t' := 1004) (t := 9) rfl, up_nt (t' := 1004) (t := 1007) rfl, up_nt (t' := 1005) (t := 9) rfl, up_nt (t' := 1005) (t := 1007) rfl, up_nt (t' := 1005) (t := 1004) rfl]
          by_cases e : b = i
          · subst e
            rw [up_at, up_at, if_here, if_here, if_pos c1, if_pos cc]
            exact ⟨rfl, rfl⟩
          · rw [up_nx e, up_nx e, up_nt rfl, if_step e, if_step e]
            exact hr b b0 b1
        · rw [up_nt rfl, up_nx (by omega), up_nt rfl, up_nt rfl]
          exact hq j j0 j1
        · rw [up_nt rfl]
          by_cases e : b = i
          · subst e
            rw [up_at]
          · have cb := cnt_nonneg a b.toNat
            have cx := cnt_step b0 (show b < i by omega) hb
            rw [up_nx (by omega), up_nt rfl, up_nt rfl]
            exact hn b b0 (by omega) hb
    · rw [if_neg c1, nx]
      have cc : a i = false := by rw [ha, decide_eq_false c1, Bool.false_and]
      refine k' τ ⟨hs, ?_, fun b b0 b1 => ?_, hq, fun b b0 b1 hb => ?_⟩
      · rw [hc, cnt_i i0, cc]
        exact (Int.add_zero _).symm ▸ rfl
      · by_cases e : b = i
        · subst e
          rw [if_here, if_here, if_neg c1, h4, h5, cc]
          exact ⟨rfl, rfl⟩
        · rw [if_step e, if_step e]
          exact hr b b0 b1
      · refine hn b b0 ?_ hb
        by_cases e : b = i
        · subst e; rw [cc] at hb; cases hb
        · omega
  · rintro n τ ⟨hs, hc, hr, hq, hn⟩
    have e8 : τ 8 0 11 = m := by rw [hs.row (t := 8) (i := 0) rfl]; exact hm
    unfold P_X9_goOut_L2
    rw [e8, if_pos (Int.le_refl m)]
    refine k τ hs hc (fun b b0 b1 => ?_) hq hn
    obtain ⟨h4, h5⟩ := hr b b0 b1
    rw [h4, h5]
    simp only [b1, true_and, and_self]
  · refine ⟨Sm.rf, ?_, fun b b0 b1 => ?_, fun j j0 j1 => rfl, fun b b0 b1 hb => by omega⟩
    · rw [hM]
      exact (Int.add_zero _).symm
    · rw [if_neg (by omega), if_neg (by omega)]
      exact ⟨(hH b b0 b1).1, (hH b b0 b1).2.1⟩
/-- the first one steps out of the row -/
theorem t_shift {o : Nat} {x1 M : Int} {K Q : St → Prop} {σ : St} (hM : σ 9 o 8 = M) (h1 : 1 ≤ M) (h6 : M ≤ 6)
    (k : ∀ σ', Sm [(1007, o, none)] σ σ' → (∀ j : Int, 0 ≤ j → j < M - 1 → σ' 1007 o j = σ 1007 o (j + 1)) → K σ') : P_X9_serve_L42 o x1 K Q FU 1 σ := by
  refine loopI (X := St) (F := fun n i τ => P_X9_serve_L42 o x1 K Q n i τ) (N := M) (fun i τ => Sm [(1007, o, none)] σ τ ∧ 1 ≤ i ∧ (∀ j : Int, 0 ≤ j → j < 6 → τ 1007 o j = if j < i - 1 then σ 1007 o (j + 1) else σ 1007 o j)) ?_ ?_ (M - 1).toNat 1 σ FU (by decide) (by omega) (FU_pos (by omega)) ?_
  · rintro n i τ i0 i1 ⟨hs, ii, hr⟩ k'
    have e8 : τ 9 o 8 = M := by rw [hs.row (t := 9) (i := o) rfl]; exact hM
    unfold P_X9_serve_L42
    rw [e8, if_neg (by omega), wi_id (z := i - 1) (by omega) (by omega), wi_id (z := i + 1) (by omega) (by omega)]
    refine ⟨i0, by omega, by omega, by omega, k' _ ⟨Sm_up hs (inm (.head _)), by omega, fun j j0 j1 => ?_⟩⟩
    by_cases e : j = i - 1
    · subst e
      rw [up_at, hr i i0 (by omega), if_neg (by omega), if_pos (by omega), show i - 1 + 1 = i by omega]
    · rw [up_nx e, hr j j0 j1]
      by_cases hj : j < i - 1
      · rw [if_pos hj, if_pos (by omega)]
      · rw [if_neg hj, if_neg (by omega)]
  · rintro n τ ⟨hs, ii, hr⟩
    have e8 : τ 9 o 8 = M := by rw [hs.row (t := 9) (i := o) rfl]; exact hM
    unfold P_X9_serve_L42
    rw [e8, if_pos (Int.le_refl M)]
    refine k τ hs (fun j j0 j1 => ?_)
    rw [hr j j0 (by omega), if_pos j1]
  · refine ⟨Sm.rf, Int.le_refl 1, fun j j0 j1 => ?_⟩
    rw [if_neg (by omega)]
/-- what a serving leaves -/
def seA (o : Nat) : List Reg := [(9, o, some 8), (9, o, some 9), (1007, o, none), (1004, o, none), (1003, o, none), (1005, o, none)]
theorem t_X9_serve {m n : Int} {o : Nat} {z : Ab} {σ : St} {Q : St → Prop} (hS : ShC σ 0) (hn : σ 8 0 10 = n) (hm : σ 8 0 11 = m)
    (hM : σ 9 o 8 = zMany z) (hs9 : σ 9 o 9 = zSrv z) (hM0 : 0 ≤ zMany z) (hM6 : zMany z ≤ 6) (hv : 0 ≤ zSrv z ∧ zSrv z < σ 8 0 13)
    (hq : ∀ j : Int, 0 ≤ j → j < zMany z → σ 1007 o j = zQ z j ∧ 0 ≤ zQ z j ∧ zQ z j < m) (hg : ∀ c : Int, 0 ≤ c → c < n → σ 1001 o c = zGap z c) (hz : ∀ b : Int, 0 ≤ b → b < m → σ 1002 o b = zSize z b)
    (k : ∀ σ', Sm (seA o) σ σ' → σ' 9 o 9 = (if 0 < zMany z then (if σ 8 0 13 ≤ zSrv z + 1 then 0 else zSrv z + 1) else zSrv z) → σ' 9 o 8 = man1 (spC σ 0) z →
      (∀ j : Int, 0 ≤ j → j < man1 (spC σ 0) z → σ' 1007 o j = if srvd (σ 8 0 13) z = true then zQ z (j + 1) else zQ z j) →
      (∀ b : Int, 0 ≤ b → b < m → σ' 1004 o b = (if srvd (σ 8 0 13) z = true ∧ b = zQ z 0 then 3 else σ 1004 o b) ∧ σ' 1003 o b = (if srvd (σ 8 0 13) z = true ∧ b = zQ z 0 then srvAt (spC σ 0) z else σ 1003 o b) ∧
        σ' 1005 o b = (if srvd (σ 8 0 13) z = true ∧ b = zQ z 0 then srvLeft (spC σ 0) z else σ 1005 o b)) → Q σ') : P_X9_serve o σ Q := by
  have hS' := hS
  obtain ⟨⟨n0, n6⟩, ⟨m0, m6⟩, -, ⟨d1, d9⟩, hc, -⟩ := hS'
  unfold P_X9_serve
  rw [hM]
  by_cases z0 : zMany z = 0
  · rw [if_pos z0]
    have sv : srvd (σ 8 0 13) z = false := by unfold srvd; rw [decide_eq_false (by omega), Bool.false_and]
    have m1 : man1 (spC σ 0) z = zMany z := by unfold man1; show (if srvd (σ 8 0 13) z = true then _ else _) = _; rw [sv]; rfl
    rw [sv, m1] at k
    refine k σ Sm.rf (by rw [if_neg (by omega)]; exact hs9) hM (fun j j0 j1 => ?_) (fun b b0 b1 => ?_)
    · exact (hq j j0 j1).1
    · simp
  · rw [if_neg z0]
    simp only [up_at, up_nt (t' := 8) (t := 9) rfl, up_nt (t' := 1007) (t := 9) rfl]
    rw [hs9, wi_id (z := zSrv z + 1) (by omega) (by omega)]
    by_cases cs : σ 8 0 13 ≤ zSrv z + 1
    · have sv : srvd (σ 8 0 13) z = true := by unfold srvd; rw [decide_eq_true (p := 0 < zMany z) (by omega), decide_eq_true cs]; rfl
      have m1 : man1 (spC σ 0) z = zMany z - 1 := by unfold man1; show (if srvd (σ 8 0 13) z = true then _ else _) = _; rw [sv]; rfl
      rw [sv, m1] at k
      rw [if_pos cs]
      obtain ⟨q0, q1, q2⟩ := hq 0 (Int.le_refl 0) (by omega)
      refine t_shift (M := zMany z) (by rw [up_nx (by decide)]; exact hM) (by omega) hM6 (fun τ hs ht => ?_)
      rw [q0]
      have s1 : Sm (seA o) σ τ := (Sm_up (Sm.rf (σ := σ)) (inm1 (.tail _ (.head _)))).tr (hs.mem (by intro r hr; cases hr with | head => exact .tail _ (.tail _ (.head _)) | tail _ h => cases h))
      have e8 : τ 9 o 8 = zMany z := by rw [hs.row (t := 9) (i := o) rfl, up_nx (by decide)]; exact hM
      have e10 : τ 8 0 = σ 8 0 := s1.row rfl
      rw [e8, wi_id (z := zMany z - 1) (by omega) (by omega)]
      refine ⟨q1, by omega, ?_⟩
      have s2 : Sm (seA o) σ (up (up (up τ 9 o 8 (zMany z - 1)) 9 o 9 0) 1004 o (zQ z 0) 3) := Sm_up (Sm_up (Sm_up s1 (inm1 (.head _))) (inm1 (.tail _ (.head _)))) (inm (.tail _ (.tail _ (.tail _ (.head _)))))
      have er : ∀ j : Int, τ 1004 o j = σ 1004 o j ∧ τ 1003 o j = σ 1003 o j ∧ τ 1005 o j = σ 1005 o j := fun j => by
        rw [hs.row (t := 1004) (i := o) rfl, hs.row (t := 1003) (i := o) rfl, hs.row (t := 1005) (i := o) rfl, up_nt rfl, up_nt rfl, up_nt rfl]
        exact ⟨rfl, rfl, rfl⟩
      unfold P_X9_fallOf
      refine ⟨q1, by omega, ?_⟩
      have hS2 := ShC_keep s2 rfl hS
      have f2 : falW (σ 8 0 10) (σ 903 0) (σ 1001 o) (σ 1002 o (zQ z 0)) = srvAt (spC σ 0) z := by
        unfold srvAt
        rw [hz _ q1 q2]
        refine falW_congr (fun i i0 i1 => ⟨rfl, ?_⟩)
        have := (hc i i0 i1).2.2
        exact hg _ this.1 (by omega)
      have fr : 0 ≤ srvAt (spC σ 0) z := by
        rw [← f2]
        exact (falW_rng n0 n6 (fun i i0 i1 => (hc i i0 i1).2.2)).1
      refine t_X8_fall hS2 rfl ?_
      rw [s2.row (t := 8) (i := 0) rfl, s2.row (t := 903) (i := 0) rfl, s2.row (t := 1001) (i := o) rfl, s2.row (t := 1002) (i := o) rfl, f2]
      refine ⟨q1, by omega, q1, by omega, ?_⟩
      have s3 : Sm (seA o) σ (up (up (up (up τ 9 o 8 (zMany z - 1)) 9 o 9 0) 1004 o (zQ z 0) 3) 1003 o (zQ z 0) (srvAt (spC σ 0) z)) := Sm_up s2 (inm (.tail _ (.tail _ (.tail _ (.tail _ (.head _))))))
      refine t_X8_beatsTo (ShC_keep s3 rfl hS) q1 (by omega) fr ?_
      rw [s3.row (t := 8) (i := 0) rfl, s3.row (t := 900) (i := 0) rfl, s3.row (t := 903) (i := 0) rfl, s3.row (t := 904) (i := 0) rfl]
      refine ⟨q1, by omega, ?_⟩
      refine k (up (up (up (up (up τ 9 o 8 (zMany z - 1)) 9 o 9 0) 1004 o (zQ z 0) 3) 1003 o (zQ z 0) (srvAt (spC σ 0) z)) 1005 o (zQ z 0) (srvLeft (spC σ 0) z)) (Sm_up s3 (inm (.tail _ (.tail _ (.tail _ (.tail _ (.tail _ (.head _)))))))) ?_ ?_ (fun j j0 j1 => ?_) (fun b b0 b1 => ?_)
      · rw [up_nt rfl, up_nt rfl, up_nt rfl, up_at, if_pos (by omega), if_pos cs]
      · rw [up_nt rfl, up_nt rfl, up_nt rfl, up_nx (by decide), up_at]
      · rw [up_nt rfl, up_nt rfl, up_nt rfl, up_nt rfl, up_nt rfl, ht j j0 j1, up_nt rfl, if_pos rfl]
        exact (hq (j + 1) (by omega) (by omega)).1
      · rw [up_nt (t' := 1004) (t := 1005) rfl, up_nt (t' := 1004) (t := 1003) rfl, up_nt (t' := 1003) (t := 1005) rfl]
        by_cases e : b = zQ z 0
        · rw [if_pos ⟨rfl, e⟩, if_pos ⟨rfl, e⟩, if_pos ⟨rfl, e⟩, e, up_at, up_at, up_at]
          exact ⟨rfl, rfl, rfl⟩
        · rw [if_neg (fun h => e h.2), if_neg (fun h => e h.2), if_neg (fun h => e h.2), up_nx e, up_nx e, up_nx e]
          simp only [up_nt (t' := 1004) (t := 9) rfl, up_nt (t' := 1003) (t := 9) rfl, up_nt (t' := 1005) (t := 9) rfl, up_nt (t' := 1003) (t := 1004) rfl, up_nt (t' := 1005) (t := 1004) rfl, up_nt (t' := 1005) (t := 1003) rfl]
          exact er b
    · have sv : srvd (σ 8 0 13) z = false := by unfold srvd; rw [decide_eq_false cs, Bool.and_false]
      have m1 : man1 (spC σ 0) z = zMany z := by unfold man1; show (if srvd (σ 8 0 13) z = true then _ else _) = _; rw [sv]; rfl
      rw [sv, m1] at k
      rw [if_neg cs]
      refine k (up σ 9 o 9 (zSrv z + 1)) (Sm_up Sm.rf (inm1 (.tail _ (.head _)))) ?_ ?_ (fun j j0 j1 => ?_) (fun b b0 b1 => ?_)
      · rw [up_at, if_pos (by omega), if_neg cs]
      · rw [up_nx (by decide)]
        exact hM
      · rw [up_nt rfl]
        exact (hq j j0 j1).1
      · rw [up_nt rfl, up_nt rfl, up_nt rfl]
        simp
theorem WfZ.many {n m dk : Int} {z : Ab} (h : WfZ n m dk z) (h0 : 0 ≤ m) : 0 ≤ zMany z ∧ zMany z ≤ m := by
  obtain ⟨-, -, -, hM, -⟩ := h
  have := cnt_nonneg (fun b => decide (zHow z b = 2)) m.toNat
  omega
theorem WfZ.room {n m dk : Int} {z : Ab} (h : WfZ n m dk z) (h0 : 0 ≤ m) : zMany z + cnt (arr z) m.toNat ≤ m := by
  obtain ⟨-, -, -, hM, -⟩ := h
  have h1 := cnt_or (p := fun b => decide (zHow z b = 2)) (q := arr z) (fun b hb => by
    unfold arr at hb
    simp only [decide_eq_true_eq, Bool.and_eq_true] at hb
    omega) m.toNat
  have h2 := cnt_nonneg (fun b => decide (zHow z b = 2) || arr z b) m.toNat
  omega
theorem man1_rng {s : Sp} {z : Ab} (h : 0 ≤ zMany z) : 0 ≤ man1 s z ∧ man1 s z ≤ zMany z := by
  unfold man1 srvd
  split
  · rename_i h
    simp only [Bool.and_eq_true, decide_eq_true_eq] at h
    omega
  · omega
def paA (o : Nat) : List Reg := [(1005, o, none), (1004, o, none), (1003, o, none), (1007, o, none), (9, o, some 8), (9, o, some 9), (9, o, some 11), (9, o, some 12)]
theorem mem_sub {A B : List Reg} (h : A.all (fun a => B.any (fun b => Nat.beq a.1 b.1 && (Nat.beq a.2.1 b.2.1 && (match b.2.2 with | none => true | some y => match a.2.2 with | none => false | some x => decide (x = y))))) = true) : ∀ {σ τ : St}, Sm A σ τ → Sm B σ τ := by
  intro σ τ hs t i x hx
  refine hs t i x ?_
  cases hA : inR A t i x
  · rfl
  · exfalso
    obtain ⟨a, ha, ha2⟩ := List.any_eq_true.mp hA
    obtain ⟨b, hb, hb2⟩ := List.any_eq_true.mp (List.all_eq_true.mp h a ha)
    simp only [Bool.and_eq_true] at ha2 hb2
    obtain ⟨a1, a2, a3⟩ := ha2
    obtain ⟨b1, b2, b3⟩ := hb2
    have a1 := Nat.eq_of_beq_eq_true a1
    have a2 := Nat.eq_of_beq_eq_true a2
    have b1 := Nat.eq_of_beq_eq_true b1
    have b2 := Nat.eq_of_beq_eq_true b2
    have : inR B t i x = true := List.any_eq_true.mpr ⟨b, hb, by
      rw [← b1, ← b2, a1, a2, Nat.beq_refl, Nat.beq_refl, Bool.true_and, Bool.true_and]
      cases e1 : a.2.2 <;> cases e2 : b.2.2 <;> rw [e1, e2] at b3 <;> rw [e1] at a3 <;> simp_all⟩
    rw [this] at hx
    cases hx
theorem t_X9_passBeat {n m dk : Int} {o : Nat} {z : Ab} {σ : St} {Q : Int → St → Prop} (hS : ShC σ 0) (hn : σ 8 0 10 = n) (hm : σ 8 0 11 = m) (hdk : σ 8 0 13 = dk)
    (hW : WfZ n m dk z) (hC : StC n m σ o z)
    (k : ∀ σ', Sm (paA o) σ σ' → StC n m σ' o (pasW (spC σ 0) z) → (0 ≤ σ 9 o 12 → σ 9 o 12 ≤ 1000000000 → σ' 9 o 12 = σ 9 o 12 + strB m.toNat (σ 906 0) z) → Q (pasB (spC σ 0) z) σ') : P_X9_passBeat o σ Q := by
  have hS' := hS
  obtain ⟨⟨n0, n6⟩, ⟨m0, m6⟩, -, ⟨d1, d9⟩, hc, -⟩ := hS'
  rw [hn] at n0 n6
  rw [hm] at m0 m6
  have hmn := hW.many m0
  have hroom := hW.room m0
  have hm1 := man1_rng (s := spC σ 0) hmn.1
  obtain ⟨wd, wb, wv, wM, wq, wi1, wg, wB⟩ := hW
  obtain ⟨c0, c1, c2, c3, cq, cg, cB⟩ := hC
  have wbeat : wi (zBeat z + 1) = zBeat (pasW (spC σ 0) z) := rfl
  unfold P_X9_passBeat
  refine t_X9_comeBack (z := z) hm m0 m6 (fun b b0 b1 => ⟨(cB b b0 b1).2.1, (cB b b0 b1).2.2.1, (cB b b0 b1).2.2.2.1⟩) (fun b b0 b1 => (wB b b0 b1).2.2.2.1) (fun σ1 s1 r1 st1 => ?_)
  have s1' : Sm (paA o) σ σ1 := s1.mem (fun r hr => by
    unfold cbA at hr
    unfold paA
    simp only [List.mem_cons, List.not_mem_nil, or_false] at hr ⊢
    rcases hr with rfl | rfl | rfl <;> simp)
  have sp1 : spC σ1 0 = spC σ 0 := spC_keep s1 rfl
  have e18 : σ1 8 0 = σ 8 0 := s1.row rfl
  refine t_X9_serve (m := m) (n := n) (z := z) (ShC_keep s1 rfl hS) (by rw [e18]; exact hn) (by rw [e18]; exact hm) ?_ ?_ hmn.1 (by omega) (by rw [e18, hdk]; exact wv) ?_ ?_ ?_ ?_
  · rw [s1 9 o 8 (inF rfl)]; exact c3
  · rw [s1 9 o 9 (inF rfl)]; exact c2
  · intro j j0 j1
    rw [s1.row (t := 1007) (i := o) rfl, cq j j0 j1]
    exact ⟨rfl, (wq j j0 j1).1⟩
  · intro c c0 c1
    rw [s1.row (t := 1001) (i := o) rfl]
    exact cg c c0 c1
  · intro b b0 b1
    rw [s1.row (t := 1002) (i := o) rfl]
    exact (cB b b0 b1).1
  intro σ2 s2 v2 M2 q2 r2
  rw [sp1] at M2 q2 r2
  rw [e18] at v2 q2 r2
  rw [hdk] at v2 q2 r2
  have es : (spC σ 0).2.2.1 = dk := hdk
  have em : (spC σ 0).2.1 = m := hm
  have e28 : σ2 8 0 = σ 8 0 := (s2.row rfl).trans e18
  -- the served one
  have hq0 : srvd dk z = true → zHow z (zQ z 0) = 2 := fun h => by
    unfold srvd at h
    simp only [Bool.and_eq_true, decide_eq_true_eq] at h
    exact (wq 0 (Int.le_refl 0) h.1).2
  have harr : ∀ b : Int, arr z b = true → zHow z b = 1 ∧ zLeft z b ≤ 1 := fun b hb => by
    unfold arr at hb
    simp only [Bool.and_eq_true, decide_eq_true_eq] at hb
    exact hb
  have hcom : ∀ b : Int, com z b = true → zHow z b = 3 ∧ zLeft z b ≤ 1 := fun b hb => by
    unfold com at hb
    simp only [Bool.and_eq_true, decide_eq_true_eq] at hb
    exact hb
  refine t_X9_goOut (m := m) (M := man1 (spC σ 0) z) (a := arr z) (H := fun b => if srvd dk z = true ∧ b = zQ z 0 then 3 else if com z b = true then 0 else zHow z b)
    (L := fun b => if srvd dk z = true ∧ b = zQ z 0 then srvLeft (spC σ 0) z else if zHow z b = 3 then zLeft z b - 1 else zLeft z b) (by rw [e28]; exact hm) m0 m6 ?_ M2 hm1.1 (by omega) ?_
  · intro b b0 b1
    obtain ⟨a4, -, a5⟩ := r2 b b0 b1
    obtain ⟨b4, b5⟩ := r1 b b0 b1
    obtain ⟨-, -, -, wl, wl1, -⟩ := wB b b0 b1
    rw [b4] at a4
    rw [b5] at a5
    refine ⟨a4, a5, ?_, ?_⟩
    · split
      · have hf : 0 ≤ srvAt (spC σ 0) z := (falW_rng (n := σ 8 0 10) (r := σ 903 0) (by omega) (by omega) (fun i i0 i1 => (hc i i0 (by omega)).2.2)).1
        have := btoW_rng hS (b := zQ z 0) hf
        unfold srvLeft
        show 0 ≤ btoW (σ 8 0 10) (σ 900 0) (σ 903 0) (σ 904 0) _ _ ∧ btoW (σ 8 0 10) (σ 900 0) (σ 903 0) (σ 904 0) _ _ ≤ 42
        omega
      · split
        · have := wl1 (Or.inr ‹_›)
          omega
        · exact wl
    · by_cases h1 : srvd dk z = true ∧ b = zQ z 0
      · rw [if_pos h1, decide_eq_false (by decide), Bool.false_and]
        cases ha : arr z b
        · rfl
        · have := (harr b ha).1
          rw [h1.2, hq0 h1.1] at this
          cases this
      · rw [if_neg h1, if_neg h1]
        by_cases h2 : com z b = true
        · rw [if_pos h2, decide_eq_false (by decide), Bool.false_and]
          cases ha : arr z b
          · rfl
          · have h3 := (harr b ha).1
            rw [(hcom b h2).1] at h3
            cases h3
        · rw [if_neg h2]
          unfold arr
          by_cases h3 : zHow z b = 1
          · rw [decide_eq_true h3, if_neg (by omega)]
          · rw [decide_eq_false h3, Bool.false_and, Bool.false_and]
  intro σ3 s3 M3 r3 q3 n3
  have s2' : Sm (paA o) σ σ2 := s1'.tr (s2.mem (fun r hr => by
    unfold seA at hr
    unfold paA
    simp only [List.mem_cons, List.not_mem_nil, or_false] at hr ⊢
    rcases hr with rfl | rfl | rfl | rfl | rfl | rfl <;> simp))
  have s3' : Sm (paA o) σ σ3 := s2'.tr (s3.mem (fun r hr => by
    unfold goA at hr
    unfold paA
    simp only [List.mem_cons, List.not_mem_nil, or_false] at hr ⊢
    rcases hr with rfl | rfl | rfl | rfl <;> simp))
  have e11 : σ3 9 o 11 = zBeat z := by
    rw [s3 9 o 11 (inF rfl), s2 9 o 11 (inF rfl), s1 9 o 11 (inF rfl)]
    exact c1
  rw [e11, wbeat, ← em]
  refine k (up σ3 9 o 11 (zBeat (pasW (spC σ 0) z))) (Sm_up s3' (inm1 (by unfold paA; simp))) ?_ ?_
  · refine ⟨?_, up_at, ?_, ?_, fun j j0 j1 => ?_, fun c c0 c1 => ?_, fun b b0 b1 => ?_⟩
    · rw [up_nx (by decide), s3' 9 o 10 (inF rfl)]
      exact c0
    · rw [up_nx (by decide), s3 9 o 9 (inF rfl), v2]
      show _ = (if 0 < zMany z then (if (spC σ 0).2.2.1 ≤ zSrv z + 1 then 0 else zSrv z + 1) else zSrv z)
      rw [es]
    · rw [up_nx (by decide), M3]
      show _ = man1 (spC σ 0) z + cnt (arr z) (spC σ 0).2.1.toNat
      rw [em]
    · rw [up_nt rfl]
      have j1 : j < man1 (spC σ 0) z + cnt (arr z) m.toNat := by
        have : zMany (pasW (spC σ 0) z) = man1 (spC σ 0) z + cnt (arr z) (spC σ 0).2.1.toNat := rfl
        rw [em] at this
        omega
      by_cases hj : j < man1 (spC σ 0) z
      · rw [q3 j j0 hj, q2 j j0 hj]
        show _ = (if j < man1 (spC σ 0) z then (if srvd (spC σ 0).2.2.1 z = true then zQ z (j + 1) else zQ z j) else _)
        rw [if_pos hj, es]
      · obtain ⟨b, hb, ha, hcnt⟩ := cnt_at (p := arr z) (m := m.toNat) (j := j - man1 (spC σ 0) z) (by omega) (by omega)
        have h1 := n3 b (by omega) (by omega) ha
        have h2 := pasQ_new (s := spC σ 0) (z := z) (b := b) (by rw [em]; omega) ha
        rw [Int.toNat_natCast] at h1
        rw [show j = man1 (spC σ 0) z + cnt (arr z) b by omega, h1, h2]
    · rw [up_nt rfl, s3'.row (t := 1001) (i := o) rfl]
      exact cg c c0 c1
    · obtain ⟨a4, a3, a5⟩ := r2 b b0 b1
      obtain ⟨b4, b5⟩ := r3 b b0 b1
      obtain ⟨d2, d4, d3, d5, d6⟩ := cB b b0 b1
      rw [up_nt rfl, up_nt rfl, up_nt rfl, up_nt rfl, up_nt rfl]
      refine ⟨?_, ?_, ?_, ?_, ?_⟩
      · rw [s3'.row (t := 1002) (i := o) rfl]; exact d2
      · rw [b4]
        show _ = (if (srvd (spC σ 0).2.2.1 z && decide (b = zQ z 0)) = true then 3 else if com z b = true then 0 else if arr z b = true then 2 else zHow z b)
        rw [es]
        by_cases h1 : srvd dk z = true ∧ b = zQ z 0
        · have ha : arr z b = false := by
            cases ha : arr z b
            · rfl
            · have := (harr b ha).1
              rw [h1.2, hq0 h1.1] at this
              cases this
          rw [if_pos h1, ha, if_neg (by decide), if_pos (by rw [h1.1, decide_eq_true h1.2]; rfl)]
        · rw [if_neg h1, if_neg (c := (srvd dk z && decide (b = zQ z 0)) = true) (by simp only [Bool.and_eq_true, decide_eq_true_eq]; exact h1)]
          by_cases h2 : com z b = true
          · have ha : arr z b = false := by
              cases ha : arr z b
              · rfl
              · have h3 := (harr b ha).1
                rw [(hcom b h2).1] at h3
                cases h3
            rw [if_pos h2, if_pos h2, ha, if_neg (by decide)]
          · rw [if_neg h2, if_neg h2]
      · rw [s3.row (t := 1003) (i := o) rfl, a3]
        show _ = (if (srvd (spC σ 0).2.2.1 z && decide (b = zQ z 0)) = true then srvAt (spC σ 0) z else zAt z b)
        rw [es, s1.row (t := 1003) (i := o) rfl, d3]
        simp only [Bool.and_eq_true, decide_eq_true_eq]
      · rw [b5]
        show _ = (if (srvd (spC σ 0).2.2.1 z && decide (b = zQ z 0)) = true then srvLeft (spC σ 0) z else if zHow z b = 1 ∨ zHow z b = 3 then zLeft z b - 1 else zLeft z b)
        rw [es]
        by_cases h1 : srvd dk z = true ∧ b = zQ z 0
        · rw [if_pos h1, if_pos h1, if_neg (by decide), if_pos (by rw [h1.1, decide_eq_true h1.2]; rfl)]
        · rw [if_neg h1, if_neg h1, if_neg (c := (srvd dk z && decide (b = zQ z 0)) = true) (by simp only [Bool.and_eq_true, decide_eq_true_eq]; exact h1)]
          by_cases h2 : com z b = true
          · have h3 := (hcom b h2).1
            rw [if_pos h2, if_neg (by decide), if_pos h3, if_pos (Or.inr h3)]
          · rw [if_neg h2]
            by_cases h3 : zHow z b = 1
            · rw [if_pos h3, if_neg (by omega), if_pos (Or.inl h3)]
            · rw [if_neg h3]
              by_cases h4 : zHow z b = 3
              · rw [if_pos h4, if_pos (Or.inr h4)]
              · rw [if_neg h4, if_neg (by omega)]
      · rw [s3'.row (t := 1006) (i := o) rfl]; exact d6
  · intro p0 p1
    rw [up_nx (by decide), s3 9 o 12 (inF rfl), s2 9 o 12 (inF rfl)]
    exact st1 p0 p1
