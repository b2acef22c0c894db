/-! 90: a law of wear as it is told; the class reads it -/
/-- fault, next token, the class's steps, the reference's codes, worth -/
abbrev PR : Type := Int × Int × List (Int × Int) × List Int × V4
def pF (g k : Int) : PR := (g, k, [], [], fun _ _ _ _ => 0)
def fcK (y : Tp) (k : Int) : Int := if isN y k then 0 else if isW y k 12403754 then 1 else if isW y k 370000 then 2 else if isW y k 16922 then 3 else if isW y k 80006 then 4 else -1
def vf (c x : Int) : V4 := fun w r e d => if c = 1 then w else if c = 2 then r else if c = 3 then e else if c = 4 then d else x
def jnK (y : Tp) (r k : Int) : Int := if r = 0 then (if isW y k 1111 then 6 else if isW y k 423 then 7 else -1) else if r = 1 then (if isS y k 60 then 8 else if isS y k 61 then 9 else -1) else
  if r = 2 then (if isS y k 43 then 10 else if isS y k 45 then 11 else -1) else if r = 3 then (if isS y k 42 then 12 else -1) else -1
def jnW (j a b : Int) : Int := if j = 6 then (if a = 0 then 0 else if b = 0 then 0 else 1) else if j = 7 then (if a = 0 then (if b = 0 then 0 else 1) else 1) else if j = 8 then (if a < b then 1 else 0) else if j = 9 then (if a = b then 1 else 0) else
  if j = 10 then wi (a + b) else if j = 11 then wi (a - b) else wi (a * b)
def cdK (j : Int) : Int := if j = 6 then 26 else if j = 7 then 27 else if j = 8 then 24 else if j = 9 then 25 else if j = 10 then 20 else if j = 11 then 21 else 22
def prJ (j : Int) (a b : PR) : PR := if b.1 = 0 then (0, b.2.1, a.2.2.1 ++ (b.2.2.1 ++ [(j, 0)]), a.2.2.2.1 ++ (cdK j :: b.2.2.2.1), fun w r e d => jnW j (a.2.2.2.2 w r e d) (b.2.2.2.2 w r e d)) else b
def lop (y : Tp) (r : Int) (sub : Int → PR) : Nat → PR → PR
  | 0, a => a
  | f + 1, a => if a.1 = 0 then (if jnK y r a.2.1 = -1 then a else if r = 1 then prJ (jnK y r a.2.1) a (sub (a.2.1 + 1)) else lop y r sub f (prJ (jnK y r a.2.1) a (sub (a.2.1 + 1)))) else a
def rkk (y : Tp) (pp : Int → PR) : Nat → Int → PR
  | 0, k => pp k
  | c + 1, k => lop y (3 - c) (rkk y pp c) 1001 (rkk y pp c k)
def prN (a : PR) : PR := if a.1 = 0 then (0, a.2.1, a.2.2.1 ++ [(5, 0)], 30 :: a.2.2.2.1, fun w r e d => if a.2.2.2.2 w r e d = 0 then 1 else 0) else a
def prO (y : Tp) (a : PR) : PR := if a.1 = 0 then (if isS y a.2.1 41 then (0, a.2.1 + 1, a.2.2.1, 28 :: (a.2.2.2.1 ++ [29]), a.2.2.2.2) else pF (fl y 1 a.2.1) a.2.1) else a
def prt (y : Tp) : Nat → Int → PR
  | 0, k => if fcK y k = -1 ∧ isW y k 10631 = false ∧ isS y k 40 = false then pF (fl y 1 k) k else pF (fl y 5 k) k
  | D + 1, k => if fcK y k = -1 then (if isW y k 10631 then prN (prt y D (k + 1)) else if isS y k 40 then prO y (rkk y (prt y D) 4 (k + 1)) else pF (fl y 1 k) k)
    else (0, k + 1, [(fcK y k, if fcK y k = 0 then tN y k else 0)], [if fcK y k = 0 then 100 + tN y k else fcK y k], vf (fcK y k) (tN y k))
def gof (g : Int) (a : PR) : Int := if g = 0 then a.1 else g
def PrOk (p : Int → PR) : Prop := ∀ k, (p k).1 = 0 → k < (p k).2.1 ∧ ((p k).2.2.1.length : Int) ≤ (p k).2.1 - k
theorem jnK_nz {y : Tp} {r k : Int} (h : jnK y r k ≠ -1) : tK y k ≠ 0 := by
  unfold jnK at h
  refine Classical.byContradiction (fun hz => h ?_)
  have hz : tK y k = 0 := Classical.not_not.mp hz
  have hw : ∀ c, isW y k c = false := fun c => by
    cases hh : isW y k c
    · rfl
    · exact absurd hz (isW_nz hh)
  have hs : ∀ c, isS y k c = false := fun c => by
    cases hh : isS y k c
    · rfl
    · exact absurd hz (isS_nz hh)
  simp only [hw, hs]
  repeat' split
  all_goals first | rfl | contradiction
theorem lop_ok {y : Tp} {r : Int} {sub : Int → PR} (hs : PrOk sub) : ∀ (f : Nat) (a : PR) (k0 : Int), (a.1 = 0 → k0 < a.2.1 ∧ (a.2.2.1.length : Int) ≤ a.2.1 - k0) → (lop y r sub f a).1 = 0 → k0 < (lop y r sub f a).2.1 ∧ ((lop y r sub f a).2.2.1.length : Int) ≤ (lop y r sub f a).2.1 - k0
  | 0, a, k0, h, h0 => h h0
  | f + 1, a, k0, h, h0 => by
    have step : a.1 = 0 → (prJ (jnK y r a.2.1) a (sub (a.2.1 + 1))).1 = 0 → k0 < (prJ (jnK y r a.2.1) a (sub (a.2.1 + 1))).2.1 ∧ ((prJ (jnK y r a.2.1) a (sub (a.2.1 + 1))).2.2.1.length : Int) ≤ (prJ (jnK y r a.2.1) a (sub (a.2.1 + 1))).2.1 - k0 := by
      intro ha hb
      have h1 := h ha
      unfold prJ at hb ⊢
      by_cases hb0 : (sub (a.2.1 + 1)).1 = 0
      · rw [if_pos hb0]
        have h2 := hs _ hb0
        simp only [List.length_append, List.length_cons, List.length_nil]
        omega
      · rw [if_neg hb0] at hb
        exact absurd hb hb0
    unfold lop at h0 ⊢
    by_cases ha : a.1 = 0
    · rw [if_pos ha] at h0 ⊢
      by_cases hj : jnK y r a.2.1 = -1
      · rw [if_pos hj] at h0 ⊢
        exact h h0
      · rw [if_neg hj] at h0 ⊢
        by_cases hr : r = 1
        · rw [if_pos hr] at h0 ⊢
          exact step ha h0
        · rw [if_neg hr] at h0 ⊢
          exact lop_ok hs f _ k0 (step ha) h0
    · rw [if_neg ha] at h0
      exact absurd h0 ha
theorem rkk_ok {y : Tp} {pp : Int → PR} (h : PrOk pp) : ∀ c : Nat, PrOk (rkk y pp c)
  | 0 => h
  | c + 1 => fun k h0 => lop_ok (rkk_ok h c) 1001 _ k (rkk_ok h c k) h0
theorem prt_ok {y : Tp} (hW : WfT y) : ∀ D : Nat, PrOk (prt y D)
  | 0 => fun k h0 => by
    unfold prt at h0
    split at h0
    · exact absurd h0 (fl_ne hW (by decide) (by decide))
    · exact absurd h0 (fl_ne hW (by decide) (by decide))
  | D + 1 => fun k h0 => by
    unfold prt at h0 ⊢
    by_cases hf : fcK y k = -1
    · rw [if_pos hf] at h0 ⊢
      by_cases hn : isW y k 10631 = true
      · rw [if_pos hn] at h0 ⊢
        unfold prN at h0 ⊢
        by_cases ha : (prt y D (k + 1)).1 = 0
        · rw [if_pos ha] at h0 ⊢
          have := prt_ok hW D (k + 1) ha
          simp only [List.length_append, List.length_cons, List.length_nil]
          omega
        · rw [if_neg ha] at h0
          exact absurd h0 ha
      · rw [if_neg hn] at h0 ⊢
        by_cases ho : isS y k 40 = true
        · rw [if_pos ho] at h0 ⊢
          unfold prO at h0 ⊢
          by_cases ha : (rkk y (prt y D) 4 (k + 1)).1 = 0
          · rw [if_pos ha] at h0 ⊢
            have := rkk_ok (prt_ok hW D) 4 (k + 1) ha
            by_cases hc : isS y (rkk y (prt y D) 4 (k + 1)).2.1 41 = true
            · rw [if_pos hc] at h0 ⊢
              dsimp only
              omega
            · rw [if_neg hc] at h0
              exact absurd h0 (fl_ne hW (by decide) (by decide))
          · rw [if_neg ha] at h0
            exact absurd h0 ha
        · rw [if_neg ho] at h0
          exact absurd h0 (fl_ne hW (by decide) (by decide))
    · rw [if_neg hf]
      simp only [List.length_cons, List.length_nil]
      omega
/-! the class -/
def LawS (σ : St) (ss : List (Int × Int)) : Prop := σ 2 1 3 = ss.length ∧ ∀ i : Nat, i < ss.length → σ 300 1 i = (ss.getD i (0, 0)).1 ∧ σ 301 1 i = (ss.getD i (0, 0)).2
def rdE : List Reg := [(10, 0, some 5), (10, 0, some 6), (2, 1, some 3), (300, 1, none), (301, 1, none)]
def ldA : List Reg := [(2, 1, some 3), (300, 1, none), (301, 1, none)]
theorem DS_keep {A : List Reg} {σ τ : St} (h : Sm A σ τ) (hn : noT A [8, 903] 1 = true) (h2 : inR A 2 1 3 = false) (h3 : inR A 3 1 3 = false) (c : DS σ) : DS τ := by
  unfold DS at c ⊢
  rw [noT_row h hn (t := 8) (by decide), noT_row h hn (t := 903) (by decide), h 2 1 3 h2, h 3 1 3 h3]
  exact c
theorem LawS_keep {A : List Reg} {σ τ : St} {ss : List (Int × Int)} (h : Sm A σ τ) (hn : noT A [2, 300, 301] 1 = true) (c : LawS σ ss) : LawS τ ss := by
  unfold LawS at c ⊢
  rw [noT_row h hn (t := 2) (by decide), noT_row h hn (t := 300) (by decide), noT_row h hn (t := 301) (by decide)]
  exact c
section
variable {σ : St}
theorem t_X2_add {g a b : Int} {ss : List (Int × Int)} {Q : St → Prop} (hD : DS σ) (hL : g = 0 → LawS σ ss ∧ (ss.length : Int) < 1000)
    (k : ∀ σ', Sm ldA σ σ' → DS σ' → (g = 0 → LawS σ' (ss ++ [(a, b)])) → Q σ') : P_X2_add 1 a b σ Q := by
  obtain ⟨d1, d2, d3, d4, d5, d6⟩ := id hD
  unfold P_X2_add
  by_cases h : 1000 ≤ σ 2 1 3
  · rw [if_pos h]
    refine k σ Sm.rf hD (fun g0 => ?_)
    obtain ⟨h1, h2⟩ := hL g0
    have := h1.1
    omega
  · rw [if_neg h]
    simp only [up_nt (t' := 2) (t := 300) rfl, up_nt (t' := 2) (t := 301) rfl]
    rw [wi_id (z := σ 2 1 3 + 1) (by omega) (by omega)]
    refine ⟨d4.1, by omega, d4.1, by omega, ?_⟩
    have s : Sm ldA σ (up (up (up σ 300 1 (σ 2 1 3) a) 301 1 (σ 2 1 3) b) 2 1 3 (σ 2 1 3 + 1)) := Sm_up (Sm_up (Sm_up Sm.rf rfl) rfl) rfl
    refine k _ s ?_ (fun g0 => ?_)
    · unfold DS
      rw [up_oth (t' := 8) (Or.inl rfl), up_oth (t' := 8) (Or.inl rfl), up_oth (t' := 8) (Or.inl rfl), up_oth (t' := 3) (Or.inl rfl), up_oth (t' := 3) (Or.inl rfl), up_oth (t' := 3) (Or.inl rfl), up_oth (t' := 903) (Or.inl rfl), up_oth (t' := 903) (Or.inl rfl), up_oth (t' := 903) (Or.inl rfl), up_at]
      exact ⟨d1, d2, d3, by omega, d5, d6⟩
    · obtain ⟨⟨h1, h2⟩, h3⟩ := hL g0
      refine ⟨?_, fun i hi => ?_⟩
      · rw [up_at, h1]
        simp
      · rw [up_nt (t' := 300) (t := 2) rfl, up_nt (t' := 300) (t := 301) rfl, up_nt (t' := 301) (t := 2) rfl]
        simp only [List.length_append, List.length_cons, List.length_nil] at hi
        by_cases e : i = ss.length
        · subst e
          rw [h1, up_at, up_at]
          simp [List.getD_eq_getElem?_getD]
        · have hlt : i < ss.length := by omega
          have := h2 i hlt
          rw [h1, up_nx (by omega), up_nx (by omega), up_nt rfl, this.1, this.2]
          simp [List.getD_eq_getElem?_getD, List.getElem?_append_left hlt]
theorem t_joiner {y : Tp} {N g r k : Int} {Q : Int → St → Prop} (h : RS y N g k σ) (r0 : 0 ≤ r) (r3 : r ≤ 3)
    (kk : ∀ j, (g = 0 → j = jnK y r k) → (g ≠ 0 → j = -1) → Q j σ) : P_X6_joiner r σ Q := by
  unfold P_X6_joiner P_X10_isSound
  rw [h.2.1]
  by_cases g0 : g = 0
  · rw [if_pos g0]
    dsimp only
    rw [if_neg one_no]
    have kk : ∀ j, j = jnK y r k → Q j σ := fun j hj => kk j (fun _ => hj) (fun q => absurd g0 q)
    unfold jnK at kk
    by_cases hr0 : r = 0
    · rw [if_pos hr0] at kk ⊢
      refine t_isWord h (by decide) (by decide) (by decide) (fun w => ?_) (fun w => ?_)
      · rw [if_neg one_no]
        exact kk 6 (by rw [if_pos (show isW y k 1111 = true from w g0)])
      · rw [if_pos rfl]
        have w1 : isW y k 1111 = false := w g0
        refine t_isWord h (by decide) (by decide) (by decide) (fun w => ?_) (fun w => ?_)
        · rw [if_neg one_no]
          exact kk 7 (by rw [w1, if_neg (by decide), if_pos (show isW y k 423 = true from w g0)])
        · rw [if_pos rfl]
          exact kk (-1) (by rw [w1, if_neg (by decide), show isW y k 423 = false from w g0, if_neg (by decide)])
    · rw [if_neg hr0] at kk ⊢
      by_cases hr1 : r = 1
      · rw [if_pos hr1] at kk ⊢
        refine t_isSign h (fun w => ?_) (fun w => ?_)
        · rw [if_neg one_no]
          exact kk 8 (by rw [if_pos (w g0)])
        · rw [if_pos rfl]
          have w1 := w g0
          refine t_isSign h (fun w => ?_) (fun w => ?_)
          · rw [if_neg one_no]
            exact kk 9 (by rw [w1, if_neg (by decide), if_pos (w g0)])
          · rw [if_pos rfl]
            exact kk (-1) (by rw [w1, if_neg (by decide), w g0, if_neg (by decide)])
      · rw [if_neg hr1] at kk ⊢
        by_cases hr2 : r = 2
        · rw [if_pos hr2] at kk ⊢
          refine t_isSign h (fun w => ?_) (fun w => ?_)
          · rw [if_neg one_no]
            exact kk 10 (by rw [if_pos (w g0)])
          · rw [if_pos rfl]
            have w1 := w g0
            refine t_isSign h (fun w => ?_) (fun w => ?_)
            · rw [if_neg one_no]
              exact kk 11 (by rw [w1, if_neg (by decide), if_pos (w g0)])
            · rw [if_pos rfl]
              exact kk (-1) (by rw [w1, if_neg (by decide), w g0, if_neg (by decide)])
        · rw [if_neg hr2] at kk ⊢
          have hr3 : r = 3 := by omega
          rw [if_pos hr3] at kk ⊢
          refine t_isSign h (fun w => ?_) (fun w => ?_)
          · rw [if_neg one_no]
            exact kk 12 (by rw [if_pos (w g0)])
          · rw [if_pos rfl]
            exact kk (-1) (by rw [w g0, if_neg (by decide)])
  · rw [if_neg g0]
    dsimp only
    rw [if_pos rfl]
    exact kk (-1) (fun q => absurd q g0) (fun _ => rfl)
/-- what a reader of the class does -/
def SpC (y : Tp) (N : Int) (R : St → (St → Prop) → Prop) (p : Int → PR) : Prop := ∀ (g k : Int) (ss : List (Int × Int)) (σ : St) (Q : St → Prop), RS y N g k σ → DS σ → (g = 0 → LawS σ ss ∧ (ss.length : Int) ≤ k) →
  (∀ σ', Sm rdE σ σ' → DS σ' → RS y N (gof g (p k)) (p k).2.1 σ' → (gof g (p k) = 0 → LawS σ' (ss ++ (p k).2.2.1)) → Q σ') → R σ Q
theorem gof_0 {g : Int} {a : PR} (h : gof g a = 0) : g = 0 ∧ a.1 = 0 := by
  unfold gof at h
  split at h
  · rename_i h1
    exact ⟨h1, h⟩
  · rename_i h1
    exact absurd h h1
theorem t_rankL {y : Tp} {N g r d : Int} {RK : Int → Int → Nat → St → (St → Prop) → Prop} {PT : Int → Nat → St → (St → Prop) → Prop} {sub : Int → PR} {ss : List (Int × Int)} {Q : St → Prop} (hs : SpC y N (RK (r + 1) d 1) sub) (ho : PrOk sub) (hN : N ≤ 1000) (r0 : 0 ≤ r) (r3 : r ≤ 3) {k0 : Int} {σ0 : St} :
    ∀ (f : Nat) (a : PR) (j i : Int) (n : Nat) (σ : St), Sm rdE σ0 σ → RS y N (gof g a) a.2.1 σ → DS σ → (gof g a = 0 → LawS σ (ss ++ a.2.2.1) ∧ (ss.length : Int) ≤ k0 ∧ (k0 < a.2.1 ∧ (a.2.2.1.length : Int) ≤ a.2.1 - k0) ∧ N - a.2.1 < f ∧ i ≤ a.2.1) →
      (gof g a = 0 → j = jnK y r a.2.1) → (gof g a ≠ 0 → j = -1) → 0 ≤ i → i ≤ 1000 → 1001 - i < n →
      (∀ σ', Sm rdE σ0 σ' → DS σ' → RS y N (gof g (lop y r sub f a)) (lop y r sub f a).2.1 σ' → (gof g (lop y r sub f a) = 0 → LawS σ' (ss ++ (lop y r sub f a).2.2.1)) → Q σ') → P_X6_readRank_L31 RK PT r d 1 Q n j i σ := by
  intro f
  induction f with
  | zero =>
    intro a j i n σ hsm hR hD hL hj1 hj0 i0 i1 hn kk
    obtain ⟨n, rfl, -⟩ := fu_ex (m := 0) (n := n) (by omega)
    have hne : gof g a ≠ 0 := fun q => by
      have h1 := (hL q).2.2.2.1
      have h2 := hR.2.2.2 q
      have h3 := hR.2.2.1
      omega
    unfold P_X6_readRank_L31
    have fin : Q σ := kk σ hsm hD hR (fun q => absurd q hne)
    split
    · exact fin
    · rw [if_pos (hj0 hne)]
      exact fin
  | succ f ih =>
    intro a j i n σ hsm hR hD hL hj1 hj0 i0 i1 hn kk
    obtain ⟨n, rfl, -⟩ := fu_ex (m := 0) (n := n) (by omega)
    -- ends here
    have fin : j = -1 → Q σ := by
      intro hj
      have e : lop y r sub (f + 1) a = a ∨ gof g a ≠ 0 := by
        by_cases hz : gof g a = 0
        · left
          unfold lop
          rw [if_pos (gof_0 hz).2, if_pos (by rw [← hj1 hz]; exact hj)]
        · exact Or.inr hz
      rcases e with e | e
      · rw [e] at kk
        exact kk σ hsm hD hR (fun q => (hL q).1)
      · by_cases g0 : g = 0
        · have ha : a.1 ≠ 0 := fun q => e (by unfold gof; rw [if_pos g0]; exact q)
          have e2 : lop y r sub (f + 1) a = a := by unfold lop; rw [if_neg ha]
          rw [e2] at kk
          exact kk σ hsm hD hR (fun q => absurd q e)
        · have e2 : gof g (lop y r sub (f + 1) a) = gof g a := by unfold gof; rw [if_neg g0, if_neg g0]
          rw [e2] at kk
          exact kk σ hsm hD (RS_k e hR) (fun q => absurd q e)
    unfold P_X6_readRank_L31
    by_cases h1000 : 1000 ≤ i
    · rw [if_pos h1000]
      refine fin ?_
      by_cases hz : gof g a = 0
      · have h1 := hL hz
        have h2 := hR.2.2.2 hz
        have h3 := hR.2.2.1
        rw [hj1 hz]
        refine Classical.byContradiction (fun q => jnK_nz q ?_)
        exact (tK_end hR.1 (by omega) (by omega)).mpr (by omega)
      · exact hj0 hz
    · rw [if_neg h1000]
      by_cases hj : j = -1
      · rw [if_pos hj]
        exact fin hj
      · rw [if_neg hj]
        have hz : gof g a = 0 := Classical.byContradiction (fun q => hj (hj0 q))
        obtain ⟨g0, ha⟩ := gof_0 hz
        have hjj := hj1 hz
        obtain ⟨l1, l2, l3, l4, l5⟩ := hL hz
        have elop : lop y r sub (f + 1) a = if r = 1 then prJ j a (sub (a.2.1 + 1)) else lop y r sub f (prJ j a (sub (a.2.1 + 1))) := by
          conv => lhs; unfold lop
          rw [if_pos ha, if_neg (by rw [← hjj]; exact hj), ← hjj]
        rw [elop] at kk
        have hgb : ∀ b : PR, gof 0 b = gof g (prJ j a b) := fun b => by
          unfold gof
          rw [if_pos rfl, if_pos g0]
          unfold prJ
          split
          · assumption
          · rfl
        rw [hz] at hR
        refine t_next hR (fun _ => jnK_nz (by rw [← hjj]; exact hj)) (fun σ1 s1 h1 => ?_)
        rw [wi_id (z := r + 1) (by omega) (by omega), wi_id (z := i + 1) (by omega) (by omega)]
        have s1' := mem_sub (A := pkA) (B := rdE) rfl s1
        refine hs 0 (a.2.1 + 1) (ss ++ a.2.2.1) σ1 _ h1 (DS_keep s1 rfl rfl rfl hD) (fun _ => ⟨LawS_keep s1 rfl l1, by rw [List.length_append]; omega⟩) (fun σ2 s2 d2 h2 L2 => ?_)
        have hob := ho (a.2.1 + 1)
        generalize sub (a.2.1 + 1) = b at kk hob h2 L2 hgb
        refine t_X2_add (g := gof 0 b) (ss := ss ++ a.2.2.1 ++ b.2.2.1) d2 (fun q => ⟨L2 q, ?_⟩) (fun σ3 s3 d3 L3 => ?_)
        · have hb := hob (gof_0 q).2
          have h5 := h2.2.2.2 q
          have h6 := h2.2.2.1
          simp only [List.length_append]
          omega
        · have h3 : RS y N (gof g (prJ j a b)) (prJ j a b).2.1 σ3 := by
            rw [← hgb]
            have e : b.2.1 = (prJ j a b).2.1 := by
              unfold prJ
              split <;> rfl
            rw [← e]
            exact RS_keep s3 rfl rfl rfl h2
          have L3' : gof g (prJ j a b) = 0 → LawS σ3 (ss ++ (prJ j a b).2.2.1) := fun q => by
            rw [← hgb] at q
            have hb := (gof_0 q).2
            have := L3 q
            have e : ss ++ a.2.2.1 ++ b.2.2.1 ++ [(j, 0)] = ss ++ (prJ j a b).2.2.1 := by
              unfold prJ
              rw [if_pos hb]
              simp only [List.append_assoc]
            rwa [e] at this
          have s03 : Sm rdE σ0 σ3 := hsm.tr (s1'.tr (s2.tr (mem_sub (B := rdE) rfl s3)))
          by_cases hr1 : r = 1
          · rw [if_pos hr1] at kk ⊢
            obtain ⟨n, rfl, -⟩ := fu_ex (m := 0) (n := n) (by omega)
            unfold P_X6_readRank_L31
            have fin2 : Q σ3 := kk σ3 s03 d3 h3 L3'
            split
            · exact fin2
            · rw [if_pos rfl]
              exact fin2
          · rw [if_neg hr1] at kk ⊢
            refine t_joiner h3 r0 r3 (fun j' hj1' hj0' => ?_)
            refine ih (prJ j a b) j' (i + 1) n σ3 s03 h3 d3 (fun q => ⟨L3' q, l2, ?_⟩) hj1' hj0' (by omega) (by omega) (by omega) kk
            have q' := q
            rw [← hgb] at q'
            have hb := (gof_0 q').2
            have hbb := hob hb
            unfold prJ
            rw [if_pos hb]
            simp only [List.length_append, List.length_cons, List.length_nil]
            omega
theorem t_rank {y : Tp} {N r d : Int} {RK : Int → Int → Nat → St → (St → Prop) → Prop} {PT : Int → Nat → St → (St → Prop) → Prop} {sub : Int → PR} (hs : SpC y N (RK (r + 1) d 1) sub) (ho : PrOk sub) (hN : N ≤ 1000) (r0 : 0 ≤ r) (r3 : r ≤ 3) : SpC y N (P_X6_readRank_F RK PT r d 1) (fun k => lop y r sub 1001 (sub k)) := by
  intro g k ss σ Q hR hD hL kk
  unfold P_X6_readRank_F
  rw [if_pos (by omega), wi_id (z := r + 1) (by omega) (by omega)]
  refine hs g k ss σ _ hR hD hL (fun σ1 s1 d1 h1 L1 => ?_)
  refine t_joiner h1 r0 r3 (fun j hj1 hj0 => ?_)
  refine t_rankL (k0 := k) hs ho hN r0 r3 1001 (sub k) j 0 FU σ1 s1 h1 d1 (fun q => ⟨L1 q, (hL (gof_0 q).1).2, ?_⟩) hj1 hj0 (Int.le_refl 0) (by omega) (FU_pos (m := 2000) (by omega) |> fun h => by omega) kk
  have := ho k (gof_0 q).2
  have h5 := h1.2.2.2 q
  have h6 := h1.2.2.1
  have h7 := hR.2.2.2 (gof_0 q).1
  have h8 := hR.2.2.1
  omega
end
