/-! 95: what the class's steps are worth -/
theorem jnK_in {y : Tp} {r k : Int} (h : jnK y r k ≠ -1) : 6 ≤ jnK y r k ∧ jnK y r k ≤ 12 := by
  unfold jnK at h ⊢
  split
  · rename_i hr
    rw [if_pos hr] at h
    split
    · decide
    · rename_i h1
      rw [if_neg h1] at h
      split
      · decide
      · rename_i h2
        rw [if_neg h2] at h
        exact absurd rfl h
  · rename_i hr
    rw [if_neg hr] at h
    split
    · rename_i hr1
      rw [if_pos hr1] at h
      split
      · decide
      · rename_i h1
        rw [if_neg h1] at h
        split
        · decide
        · rename_i h2
          rw [if_neg h2] at h
          exact absurd rfl h
    · rename_i hr1
      rw [if_neg hr1] at h
      split
      · rename_i hr2
        rw [if_pos hr2] at h
        split
        · decide
        · rename_i h1
          rw [if_neg h1] at h
          split
          · decide
          · rename_i h2
            rw [if_neg h2] at h
            exact absurd rfl h
      · rename_i hr2
        rw [if_neg hr2] at h
        split
        · rename_i hr3
          rw [if_pos hr3] at h
          split
          · decide
          · rename_i h1
            rw [if_neg h1] at h
            exact absurd rfl h
        · rename_i hr3
          rw [if_neg hr3] at h
          exact absurd rfl h
theorem jnW_i32 (j a b : Int) : i32 (jnW j a b) := by
  unfold jnW
  repeat' split
  all_goals first | exact wi_i32 _ | exact ⟨by decide, by decide⟩
/-- every worth is an int -/
def PrI (a : PR) : Prop := a.1 = 0 → ∀ w r e d : Int, i32 w → i32 r → i32 e → i32 d → i32 (a.2.2.2.2 w r e d)
theorem PrI_J {j : Int} {a b : PR} (hb : PrI b) : PrI (prJ j a b) := by
  intro h0 w r e d hw hr he hd
  unfold prJ at h0 ⊢
  by_cases h : b.1 = 0
  · rw [if_pos h]
    exact jnW_i32 _ _ _
  · rw [if_neg h] at h0
    exact absurd h0 h
theorem PrI_lop {y : Tp} {r : Int} {sub : Int → PR} (hs : ∀ k, PrI (sub k)) : ∀ (f : Nat) (a : PR), PrI a → PrI (lop y r sub f a)
  | 0, a, h => h
  | f + 1, a, h => by
    unfold lop
    split
    · split
      · exact h
      · split
        · exact PrI_J (hs _)
        · exact PrI_lop hs f _ (PrI_J (hs _))
    · exact h
theorem PrI_rkk {y : Tp} {pp : Int → PR} (h : ∀ k, PrI (pp k)) : ∀ (c : Nat) (k : Int), PrI (rkk y pp c k)
  | 0, k => h k
  | c + 1, k => PrI_lop (fun k => PrI_rkk h c k) 1001 _ (PrI_rkk h c k)
theorem PrI_F {g k : Int} (h : g ≠ 0) : PrI (pF g k) := fun h0 => absurd h0 h
theorem PrI_prt {y : Tp} (hW : WfT y) : ∀ (D : Nat) (k : Int), PrI (prt y D k)
  | 0, k => by
    unfold prt
    split
    · exact PrI_F (fl_ne hW (by decide) (by decide))
    · exact PrI_F (fl_ne hW (by decide) (by decide))
  | D + 1, k => by
    unfold prt
    split
    · split
      · unfold prN
        split
        · intro _ w r e d _ _ _ _
          dsimp only
          split <;> exact ⟨by decide, by decide⟩
        · exact PrI_prt hW D (k + 1)
      · split
        · unfold prO
          split
          · rename_i h0
            split
            · exact fun _ => PrI_rkk (PrI_prt hW D) 4 (k + 1) h0
            · exact PrI_F (fl_ne hW (by decide) (by decide))
          · exact PrI_rkk (PrI_prt hW D) 4 (k + 1)
        · exact PrI_F (fl_ne hW (by decide) (by decide))
    · rename_i hf
      intro _ w r e d hw hr he hd
      dsimp only
      unfold vf
      split
      · exact hw
      · split
        · exact hr
        · split
          · exact he
          · split
            · exact hd
            · by_cases h0 : isN y k = true
              · have hnum := of_decide_eq_true h0
                have hr := nu_ok hnum
                have hr : 0 ≤ tN y k ∧ tN y k ≤ 9999 := hr
                exact i32_of_rng (by omega) (by omega)
              · exfalso
                have hr := fcK_rng (y := y) (k := k)
                have : fcK y k ≠ 0 := fun q => h0 (fcK_num q)
                omega
def StM (τ : St) (o : Nat) (ss : List (Int × Int)) (i : Int) : Prop := ∀ j : Nat, j < ss.length → τ 300 o (i + j) = (ss.getD j (0, 0)).1 ∧ τ 301 o (i + j) = (ss.getD j (0, 0)).2
theorem StM_app {τ : St} {o : Nat} {a b : List (Int × Int)} {i : Int} (h : StM τ o (a ++ b) i) : StM τ o a i ∧ StM τ o b (i + a.length) := by
  refine ⟨fun j hj => ?_, fun j hj => ?_⟩
  · have := h j (by rw [List.length_append]; omega)
    rw [List.getD_eq_getElem?_getD, List.getElem?_append_left hj, ← List.getD_eq_getElem?_getD] at this
    exact this
  · have := h (a.length + j) (by rw [List.length_append]; omega)
    rw [List.getD_eq_getElem?_getD, List.getElem?_append_right (by omega), Nat.add_sub_cancel_left, ← List.getD_eq_getElem?_getD] at this
    rw [show i + (a.length : Int) + j = i + ((a.length + j : Nat) : Int) by omega]
    exact this
theorem StM_sm {τ υ : St} {o : Nat} {ss : List (Int × Int)} {i : Int} (h : Sm [(302, o, none)] τ υ) (c : StM τ o ss i) : StM υ o ss i := by
  intro j hj
  rw [h.tag (t := 300) (i := o) rfl, h.tag (t := 301) (i := o) rfl]
  exact c j hj
abbrev wL (o : Nat) (w r e d : Int) (K : Int → St → Prop) (Q : Int → St → Prop) (n : Nat) (t i : Int) (τ : St) : Prop := P_X2_worth_L6 o w r e d K Q n t i τ
/-- the steps of a, done with room for m numbers more, put its worth on the pile -/
def EV (a : PR) (m : Nat) : Prop := a.1 = 0 → ∀ (o : Nat) (w r e d : Int) (K : Int → St → Prop) (Q : Int → St → Prop) (n : Nat) (t i : Int) (τ : St), 0 ≤ t → t + m ≤ 64 → StM τ o a.2.2.1 i → 0 ≤ i → i + a.2.2.1.length ≤ τ 2 o 3 → τ 2 o 3 ≤ 1000 → 1001 - i ≤ n →
  (∀ (n' : Nat) (τ' : St), Sm [(302, o, none)] τ τ' → (∀ x : Int, x < t → τ' 302 o x = τ 302 o x) → τ' 302 o t = a.2.2.2.2 w r e d → 1001 - (i + a.2.2.1.length) ≤ n' → wL o w r e d K Q n' (t + 1) (i + a.2.2.1.length) τ') → wL o w r e d K Q n t i τ
theorem EV_mono {a : PR} {m m' : Nat} (h : EV a m) (hm : m ≤ m') : EV a m' := fun h0 o w r e d K Q n t i τ t0 tm hs i0 il h1000 hn k => h h0 o w r e d K Q n t i τ t0 (by omega) hs i0 il h1000 hn k
theorem EV_bad {a : PR} {m : Nat} (h : a.1 ≠ 0) : EV a m := fun h0 => absurd h0 h
theorem t_joined {j a b : Int} {τ : St} {Q : Int → St → Prop} (k : Q (jnW j a b) τ) : P_X2_joined j a b τ Q := by
  unfold P_X2_joined P_X2_joined_J52 P_X2_joined_J62
  unfold jnW at k
  by_cases h6 : j = 6
  · rw [if_pos h6] at k ⊢
    by_cases ha : a = 0
    · rw [if_pos ha] at k ⊢; exact k
    · rw [if_neg ha] at k ⊢
      by_cases hb : b = 0
      · rw [if_pos hb] at k ⊢; exact k
      · rw [if_neg hb] at k ⊢; exact k
  · rw [if_neg h6] at k ⊢
    by_cases h7 : j = 7
    · rw [if_pos h7] at k ⊢
      by_cases ha : a = 0
      · rw [if_pos ha] at k ⊢
        by_cases hb : b = 0
        · rw [if_pos hb] at k ⊢; exact k
        · rw [if_neg hb] at k ⊢; exact k
      · rw [if_neg ha] at k ⊢; exact k
    · rw [if_neg h7] at k ⊢
      by_cases h8 : j = 8
      · rw [if_pos h8] at k ⊢
        by_cases hb : a < b
        · rw [if_pos hb] at k
          rw [if_neg (by omega)]; exact k
        · rw [if_neg hb] at k
          rw [if_pos (by omega)]; exact k
      · rw [if_neg h8] at k ⊢
        by_cases h9 : j = 9
        · rw [if_pos h9] at k ⊢
          by_cases hb : a = b
          · rw [if_pos hb] at k ⊢; exact k
          · rw [if_neg hb] at k ⊢; exact k
        · rw [if_neg h9] at k ⊢
          by_cases h10 : j = 10
          · rw [if_pos h10] at k ⊢; exact k
          · rw [if_neg h10] at k ⊢
            by_cases h11 : j = 11
            · rw [if_pos h11] at k ⊢; exact k
            · rw [if_neg h11] at k ⊢; exact k
/-- one step that joins -/
theorem w_join {o : Nat} {w r e d : Int} {K : Int → St → Prop} {Q : Int → St → Prop} {n : Nat} {t i j : Int} {τ : St} (t0 : 0 ≤ t) (t64 : t + 2 ≤ 64) (i0 : 0 ≤ i) (il : i < τ 2 o 3) (h1000 : τ 2 o 3 ≤ 1000) (hj : τ 300 o i = j) (j6 : 6 ≤ j) (hn : 0 < n)
    (k : ∀ n', n = n' + 1 → wL o w r e d K Q n' (t + 1) (i + 1) (up τ 302 o t (jnW j (τ 302 o t) (τ 302 o (t + 1))))) : wL o w r e d K Q n (t + 2) i τ := by
  obtain ⟨n, rfl, -⟩ := fu_ex (m := 0) (n := n) hn
  show P_X2_worth_L6 o w r e d K Q (n + 1) (t + 2) i τ
  unfold P_X2_worth_L6
  rw [if_neg (by omega), hj, if_pos (by omega)]
  refine ⟨i0, by omega, ?_⟩
  unfold P_X2_worth_J61 P_X2_worth_J102
  rw [if_neg (by omega), if_neg (by omega), show t + 2 + (-1) = t + 1 by omega, wi_id (z := t + 1) (by omega) (by omega), show t + 1 - 1 = t by omega, wi_id (z := t) (by omega) (by omega), wi_id (z := i + 1) (by omega) (by omega)]
  refine ⟨t0, by omega, by omega, by omega, t_joined ⟨t0, by omega, k n rfl⟩⟩
theorem w_not {o : Nat} {w r e d : Int} {K : Int → St → Prop} {Q : Int → St → Prop} {n : Nat} {t i : Int} {τ : St} (t0 : 0 ≤ t) (t64 : t + 1 ≤ 64) (i0 : 0 ≤ i) (il : i < τ 2 o 3) (h1000 : τ 2 o 3 ≤ 1000) (hj : τ 300 o i = 5) (hn : 0 < n)
    (k : ∀ n', n = n' + 1 → wL o w r e d K Q n' (t + 1) (i + 1) (up τ 302 o t (if τ 302 o t = 0 then 1 else 0))) : wL o w r e d K Q n (t + 1) i τ := by
  obtain ⟨n, rfl, -⟩ := fu_ex (m := 0) (n := n) hn
  have k := k n rfl
  show P_X2_worth_L6 o w r e d K Q (n + 1) (t + 1) i τ
  unfold P_X2_worth_L6
  rw [if_neg (by omega), hj, if_pos (by decide)]
  refine ⟨i0, by omega, ?_⟩
  unfold P_X2_worth_J61 P_X2_worth_J98
  rw [if_pos rfl, if_neg (by omega), show t + 1 - 1 = t by omega, wi_id (z := t) (by omega) (by omega), wi_id (z := i + 1) (by omega) (by omega)]
  refine ⟨t0, by omega, ?_⟩
  by_cases h : τ 302 o t = 0
  · rw [if_pos h] at k ⊢
    exact ⟨t0, by omega, k⟩
  · rw [if_neg h] at k ⊢
    exact ⟨t0, by omega, k⟩
theorem w_push {o : Nat} {w r e d : Int} {K : Int → St → Prop} {Q : Int → St → Prop} {n : Nat} {t i c x : Int} {τ : St} (t0 : 0 ≤ t) (t64 : t + 1 ≤ 64) (i0 : 0 ≤ i) (il : i < τ 2 o 3) (h1000 : τ 2 o 3 ≤ 1000) (hj : τ 300 o i = c) (hx : τ 301 o i = x) (c4 : c ≤ 4) (hn : 0 < n)
    (k : ∀ n', n = n' + 1 → wL o w r e d K Q n' (t + 1) (i + 1) (up τ 302 o t (vf c x w r e d))) : wL o w r e d K Q n t i τ := by
  obtain ⟨n, rfl, -⟩ := fu_ex (m := 0) (n := n) hn
  have k := k n rfl
  show P_X2_worth_L6 o w r e d K Q (n + 1) t i τ
  unfold P_X2_worth_L6
  rw [if_neg (by omega), hj, if_neg (by omega), if_neg (by omega), wi_id (z := t + 1) (by omega) (by omega), wi_id (z := i + 1) (by omega) (by omega)]
  refine ⟨i0, by omega, ?_⟩
  unfold P_X2_fact
  rw [hj, hx]
  refine ⟨i0, by omega, ?_⟩
  unfold vf at k
  by_cases c1 : c = 1
  · rw [if_pos c1] at k ⊢; exact ⟨t0, by omega, k⟩
  · rw [if_neg c1] at k ⊢
    by_cases c2 : c = 2
    · rw [if_pos c2] at k ⊢; exact ⟨t0, by omega, k⟩
    · rw [if_neg c2] at k ⊢
      by_cases c3 : c = 3
      · rw [if_pos c3] at k ⊢; exact ⟨t0, by omega, k⟩
      · rw [if_neg c3] at k ⊢
        by_cases c4 : c = 4
        · rw [if_pos c4] at k ⊢; exact ⟨t0, by omega, k⟩
        · rw [if_neg c4] at k ⊢; exact ⟨i0, by omega, t0, by omega, k⟩
theorem EV_J {j : Int} {a b : PR} {m : Nat} (ha0 : a.1 = 0) (ha : EV a (m + 1)) (hb : EV b m) (m1 : 1 ≤ m) (j6 : 6 ≤ j) : EV (prJ j a b) (m + 1) := by
  by_cases hb0 : b.1 = 0
  · intro _ o w r e d K Q n t i τ t0 tm hs i0 il h1000 hn k
    unfold prJ at hs il k
    rw [if_pos hb0] at hs il k
    dsimp only at hs il k
    obtain ⟨hs1, hs23⟩ := StM_app hs
    obtain ⟨hs2, hs3⟩ := StM_app hs23
    simp only [List.length_append, List.length_cons, List.length_nil] at il k
    refine ha ha0 o w r e d K Q n t i τ t0 tm hs1 i0 (by omega) h1000 hn (fun n1 τ1 s1 l1 v1 hn1 => ?_)
    have c1 : τ1 2 o 3 = τ 2 o 3 := by rw [s1.tag (t := 2) (i := o) rfl]
    refine hb hb0 o w r e d K Q n1 (t + 1) _ τ1 (by omega) (by omega) (StM_sm s1 hs2) (by omega) (by rw [c1]; omega) (by rw [c1]; omega) hn1 (fun n2 τ2 s2 l2 v2 hn2 => ?_)
    have s12 := s1.tr s2
    have c2 : τ2 2 o 3 = τ 2 o 3 := by rw [s12.tag (t := 2) (i := o) rfl]
    have h3 := (StM_sm s12 hs3) 0 (by simp)
    rw [show i + (a.2.2.1.length : Int) + (b.2.2.1.length : Int) + ((0 : Nat) : Int) = i + (a.2.2.1.length : Int) + b.2.2.1.length by omega] at h3
    rw [show t + 1 + 1 = t + 2 by omega]
    refine w_join (j := j) t0 (by omega) (by omega) (by rw [c2]; omega) (by rw [c2]; omega) h3.1 j6 (by omega) (fun n3 hn3 => ?_)
    have e1 : τ2 302 o t = a.2.2.2.2 w r e d := by rw [l2 t (by omega), v1]
    rw [e1, v2]
    have := k n3 (up τ2 302 o t (jnW j (a.2.2.2.2 w r e d) (b.2.2.2.2 w r e d))) (Sm_up s12 (inm (.head _))) (fun x hx => by rw [up_px (by omega), l2 x (by omega), l1 x hx]) up_at (by omega)
    rw [show i + (a.2.2.1.length : Int) + (b.2.2.1.length : Int) + 1 = i + ((a.2.2.1.length + (b.2.2.1.length + (0 + 1)) : Nat) : Int) by omega]
    exact this
  · unfold prJ
    rw [if_neg hb0]
    exact EV_bad hb0
theorem EV_lop {y : Tp} {r : Int} {sub : Int → PR} {m : Nat} (m1 : 1 ≤ m) (hs : ∀ k, EV (sub k) m) : ∀ (f : Nat) (a : PR), EV a (m + 1) → EV (lop y r sub f a) (m + 1)
  | 0, a, h => h
  | f + 1, a, h => by
    unfold lop
    by_cases ha : a.1 = 0
    · rw [if_pos ha]
      by_cases hj : jnK y r a.2.1 = -1
      · rw [if_pos hj]
        exact h
      · rw [if_neg hj]
        have hJ := EV_J ha h (hs (a.2.1 + 1)) m1 (jnK_in hj).1
        split
        · exact hJ
        · exact EV_lop m1 hs f _ hJ
    · rw [if_neg ha]
      exact h
theorem EV_rkk {y : Tp} {pp : Int → PR} {m : Nat} (m1 : 1 ≤ m) (h : ∀ k, EV (pp k) m) : ∀ (c : Nat) (k : Int), EV (rkk y pp c k) (m + c)
  | 0, k => h k
  | c + 1, k => EV_lop (m := m + c) (by omega) (fun k => EV_rkk m1 h c k) 1001 _ (EV_mono (EV_rkk m1 h c k) (by omega))
theorem EV_prt {y : Tp} (hW : WfT y) : ∀ (D : Nat) (k : Int), EV (prt y D k) (4 * D + 1)
  | 0, k => by
    unfold prt
    split
    · exact EV_bad (fl_ne hW (by decide) (by decide))
    · exact EV_bad (fl_ne hW (by decide) (by decide))
  | D + 1, k => by
    unfold prt
    by_cases hf : fcK y k = -1
    · rw [if_pos hf]
      by_cases hn : isW y k 10631 = true
      · rw [if_pos hn]
        have ih := EV_prt hW D (k + 1)
        unfold prN
        by_cases h0 : (prt y D (k + 1)).1 = 0
        · rw [if_pos h0]
          generalize prt y D (k + 1) = b at ih h0
          intro _ o w r e d K Q n t i τ t0 tm hs i0 il h1000 hn k
          dsimp only at hs il k
          obtain ⟨hs1, hs2⟩ := StM_app hs
          simp only [List.length_append, List.length_cons, List.length_nil] at il k
          refine ih h0 o w r e d K Q n t i τ t0 (by omega) hs1 i0 (by omega) h1000 hn (fun n1 τ1 s1 l1 v1 hn1 => ?_)
          have c1 : τ1 2 o 3 = τ 2 o 3 := by rw [s1.tag (t := 2) (i := o) rfl]
          have h3 := (StM_sm s1 hs2) 0 (by simp)
          rw [show i + (b.2.2.1.length : Int) + ((0 : Nat) : Int) = i + (b.2.2.1.length : Int) by omega] at h3
          refine w_not t0 (by omega) (by omega) (by rw [c1]; omega) (by rw [c1]; omega) h3.1 (by omega) (fun n3 hn3 => ?_)
          rw [v1]
          have := k n3 (up τ1 302 o t (if b.2.2.2.2 w r e d = 0 then 1 else 0)) (Sm_up s1 (inm (.head _))) (fun x hx => by rw [up_px (by omega), l1 x hx]) up_at (by omega)
          rw [show i + (b.2.2.1.length : Int) + 1 = i + ((b.2.2.1.length + (0 + 1) : Nat) : Int) by omega]
          exact this
        · rw [if_neg h0]
          exact EV_mono ih (by omega)
      · rw [if_neg hn]
        by_cases ho : isS y k 40 = true
        · rw [if_pos ho]
          have ih := EV_rkk (y := y) (m := 4 * D + 1) (by omega) (EV_prt hW D) 4 (k + 1)
          unfold prO
          by_cases h0 : (rkk y (prt y D) 4 (k + 1)).1 = 0
          · rw [if_pos h0]
            split
            · intro _ o w r e d K Q n t i τ t0 tm hs i0 il h1000 hn k
              exact ih h0 o w r e d K Q n t i τ t0 (by omega) hs i0 il h1000 hn k
            · exact EV_bad (fl_ne hW (by decide) (by decide))
          · rw [if_neg h0]
            exact EV_bad h0
        · rw [if_neg ho]
          exact EV_bad (fl_ne hW (by decide) (by decide))
    · rw [if_neg hf]
      intro _ o w r e d K Q n t i τ t0 tm hs i0 il h1000 hn kk
      dsimp only at hs il kk
      have h3 := hs 0 (by simp)
      rw [show i + ((0 : Nat) : Int) = i by omega] at h3
      simp only [List.length_cons, List.length_nil] at il kk
      have hfr := fcK_rng (y := y) (k := k)
      refine w_push (c := fcK y k) (x := if fcK y k = 0 then tN y k else 0) t0 (by omega) i0 (by omega) h1000 h3.1 h3.2 hfr.2 (by omega) (fun n3 hn3 => ?_)
      have ev : vf (fcK y k) (if fcK y k = 0 then tN y k else 0) w r e d = vf (fcK y k) (tN y k) w r e d := by
        by_cases h0 : fcK y k = 0
        · rw [if_pos h0]
        · unfold vf
          split
          · rfl
          · split
            · rfl
            · split
              · rfl
              · split
                · rfl
                · omega
      rw [ev]
      exact kk n3 (up τ 302 o t (vf (fcK y k) (tN y k) w r e d)) (Sm_up Sm.rf (inm (.head _))) (fun x hx => by rw [up_px (by omega)]) up_at (by omega)
/-- the class's law of these steps is worth so -/
theorem LwC_of {a : PR} {σ : St} {o : Nat} (hE : EV a 25) (h0 : a.1 = 0) (hs : StM σ o a.2.2.1 0) (hc : σ 2 o 3 = a.2.2.1.length) (hl : (a.2.2.1.length : Int) ≤ 1000) : LwC a.2.2.2.2 σ o := by
  intro w r e d τ Q hw hr he hd ec em k
  unfold P_X2_worth
  refine hE h0 o w r e d _ Q FU 0 0 τ (Int.le_refl 0) (by decide) (fun j hj => ?_) (Int.le_refl 0) (by rw [ec, hc]; omega) (by rw [ec, hc]; exact hl) (by unfold FU; omega) (fun n' τ' s' _ v' hn' => ?_)
  · have := hs j hj
    have h2 := em (0 + j) (by omega) (by omega)
    rw [h2.1, h2.2]
    exact this
  · have c1 : τ' 2 o 3 = τ 2 o 3 := by rw [s'.tag (t := 2) (i := o) rfl]
    obtain ⟨n', rfl, -⟩ := fu_ex (m := 0) (n := n') (by omega)
    show P_X2_worth_L6 o w r e d _ Q (n' + 1) (0 + 1) (0 + _) τ'
    unfold P_X2_worth_L6
    rw [c1, ec, hc, if_pos (by omega), if_neg (by decide), v']
    exact k τ' s'
theorem LwC_none {σ : St} {o : Nat} (hc : σ 2 o 3 = 0) : LwC (fun _ _ _ _ => 0) σ o := by
  intro w r e d τ Q hw hr he hd ec em k
  unfold P_X2_worth
  have hF : FU = 8191 + 1 := rfl
  rw [hF]
  unfold P_X2_worth_L6
  rw [ec, hc, if_pos (Int.le_refl 0), if_pos (Int.le_refl 0)]
  exact k τ Sm.rf
