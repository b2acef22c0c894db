/-! 50: states taken and copied, what was done and undone -/
theorem up_px {σ : St} {t i t' i' : Nat} {x v x' : Int} (h : x' ≠ x) : up σ t i x v t' i' x' = σ t' i' x' := if_neg (fun e => h e.2.2)
theorem cp_at {σ : St} {t i t' i' : Nat} {m x : Int} (h0 : 0 ≤ x) (h1 : x < m) : cp σ t i 0 t' i' 0 m t' i' x = σ t i x := by
  unfold cp
  rw [if_pos ⟨rfl, rfl, h0, by omega⟩]
  congr 1
  omega
theorem cp_nt {σ : St} {t i t' i' a b : Nat} {sp dp m x : Int} (h : Nat.beq a t' = false) : cp σ t i sp t' i' dp m a b x = σ a b x := by
  unfold cp
  rw [if_neg]
  rintro ⟨rfl, -⟩
  rw [Nat.beq_refl] at h
  cases h
theorem Sm_cp {A : List Reg} {σ τ : St} {t i t' i' : Nat} {sp dp m : Int} (h : Sm A σ τ) (ha : (t', i', none) ∈ A) : Sm A σ (cp τ t i sp t' i' dp m) := by
  intro a b x hx
  rw [← h a b x hx]
  unfold cp
  rw [if_neg]
  rintro ⟨rfl, rfl, -⟩
  rw [inm ha] at hx
  cases hx
def tk1 (o0 o1 : Nat) (σ : St) : St := cp (cp (cp (cp (cp (cp (cp σ 1001 o1 0 1001 o0 0 6) 1002 o1 0 1002 o0 0 6) 1003 o1 0 1003 o0 0 6) 1004 o1 0 1004 o0 0 6) 1005 o1 0 1005 o0 0 6) 1006 o1 0 1006 o0 0 6) 1007 o1 0 1007 o0 0 6
def tk2 (o0 o1 : Nat) (x : Int) (σ : St) : St := up σ 9 o0 x (σ 9 o1 x)
theorem take_eq {o0 o1 : Nat} {σ : St} {Q : St → Prop} (k : Q (tk2 o0 o1 12 (tk2 o0 o1 11 (tk2 o0 o1 10 (tk2 o0 o1 9 (tk2 o0 o1 8 (tk1 o0 o1 σ))))))) : P_X9_take o0 o1 σ Q := k
def tkA (o : Nat) : List Reg := [(1001, o, none), (1002, o, none), (1003, o, none), (1004, o, none), (1005, o, none), (1006, o, none), (1007, o, none), (9, o, none)]
theorem t_X9_take {n m dk : Int} {o0 o1 : Nat} {z : Ab} {σ : St} {Q : St → Prop} (hs : SpW n m dk (spC σ 0)) (hW : WfZ n m dk z) (hC : StC n m σ o1 z)
    (k : ∀ σ', Sm (tkA o0) σ σ' → StC n m σ' o0 z → σ' 9 o0 12 = σ 9 o1 12 → Q σ') : P_X9_take o0 o1 σ Q := by
  have hmn := hW.many hs.2.2.2.2.1.1
  have hn6 := hs.2.2.2.1
  have hm6 := hs.2.2.2.2.1
  refine take_eq (k _ ?_ ?_ ?_)
  · unfold tk2 tk1
    refine Sm_up (Sm_up (Sm_up (Sm_up (Sm_up ?_ (inm ?_)) (inm ?_)) (inm ?_)) (inm ?_)) (inm ?_)
    · refine Sm_cp (Sm_cp (Sm_cp (Sm_cp (Sm_cp (Sm_cp (Sm_cp Sm.rf ?_) ?_) ?_) ?_) ?_) ?_) ?_ <;> (unfold tkA; simp)
    all_goals (unfold tkA; simp)
  · obtain ⟨c0, c1, c2, c3, cq, cg, cB⟩ := hC
    have e9 : ∀ x : Int, tk1 o0 o1 σ 9 o1 x = σ 9 o1 x := fun x => by unfold tk1; simp only [cp_nt (a := 9) (t' := 1001) rfl, cp_nt (a := 9) (t' := 1002) rfl, cp_nt (a := 9) (t' := 1003) rfl, cp_nt (a := 9) (t' := 1004) rfl, cp_nt (a := 9) (t' := 1005) rfl, cp_nt (a := 9) (t' := 1006) rfl, cp_nt (a := 9) (t' := 1007) rfl]
    have er : ∀ (t : Nat) (x : Int), Nat.beq t 9 = false → tk2 o0 o1 12 (tk2 o0 o1 11 (tk2 o0 o1 10 (tk2 o0 o1 9 (tk2 o0 o1 8 (tk1 o0 o1 σ))))) t o0 x = tk1 o0 o1 σ t o0 x := fun t x h => by
      unfold tk2
      rw [up_nt h, up_nt h, up_nt h, up_nt h, up_nt h]
    refine ⟨?_, ?_, ?_, ?_, fun j j0 j1 => ?_, fun c c0 c1 => ?_, fun b b0 b1 => ?_⟩
    · unfold tk2
      rw [up_px (by decide), up_px (by decide), up_at, up_px (by decide), up_px (by decide), e9]; exact c0
    · unfold tk2
      rw [up_px (by decide), up_at, up_px (by decide), up_px (by decide), up_px (by decide), e9]; exact c1
    · unfold tk2
      rw [up_px (by decide), up_px (by decide), up_px (by decide), up_at, up_px (by decide), e9]; exact c2
    · unfold tk2
      rw [up_px (by decide), up_px (by decide), up_px (by decide), up_px (by decide), up_at, e9]; exact c3
    · rw [er _ _ rfl]
      unfold tk1
      rw [cp_at j0 (by omega)]
      simp only [cp_nt (a := 1007) (t' := 1001) rfl, cp_nt (a := 1007) (t' := 1002) rfl, cp_nt (a := 1007) (t' := 1003) rfl, cp_nt (a := 1007) (t' := 1004) rfl, cp_nt (a := 1007) (t' := 1005) rfl, cp_nt (a := 1007) (t' := 1006) rfl]
      exact cq j j0 j1
    · rw [er _ _ rfl]
      unfold tk1
      simp only [cp_nt (a := 1001) (t' := 1002) rfl, cp_nt (a := 1001) (t' := 1003) rfl, cp_nt (a := 1001) (t' := 1004) rfl, cp_nt (a := 1001) (t' := 1005) rfl, cp_nt (a := 1001) (t' := 1006) rfl, cp_nt (a := 1001) (t' := 1007) rfl]
      rw [cp_at c0 (by omega)]
      exact cg c c0 c1
    · rw [er _ _ rfl, er _ _ rfl, er _ _ rfl, er _ _ rfl, er _ _ rfl]
      unfold tk1
      simp only [cp_nt (a := 1002) (t' := 1003) rfl, cp_nt (a := 1002) (t' := 1004) rfl, cp_nt (a := 1002) (t' := 1005) rfl, cp_nt (a := 1002) (t' := 1006) rfl, cp_nt (a := 1002) (t' := 1007) rfl,
        cp_nt (a := 1003) (t' := 1004) rfl, cp_nt (a := 1003) (t' := 1005) rfl, cp_nt (a := 1003) (t' := 1006) rfl, cp_nt (a := 1003) (t' := 1007) rfl,
        cp_nt (a := 1004) (t' := 1005) rfl, cp_nt (a := 1004) (t' := 1006) rfl, cp_nt (a := 1004) (t' := 1007) rfl, cp_nt (a := 1005) (t' := 1006) rfl, cp_nt (a := 1005) (t' := 1007) rfl, cp_nt (a := 1006) (t' := 1007) rfl]
      rw [cp_at b0 (by omega), cp_at b0 (by omega), cp_at b0 (by omega), cp_at b0 (by omega), cp_at b0 (by omega)]
      simp only [cp_nt (a := 1002) (t' := 1001) rfl, cp_nt (a := 1003) (t' := 1001) rfl, cp_nt (a := 1004) (t' := 1001) rfl, cp_nt (a := 1005) (t' := 1001) rfl, cp_nt (a := 1006) (t' := 1001) rfl,
        cp_nt (a := 1003) (t' := 1002) rfl, cp_nt (a := 1004) (t' := 1002) rfl, cp_nt (a := 1005) (t' := 1002) rfl, cp_nt (a := 1006) (t' := 1002) rfl, cp_nt (a := 1004) (t' := 1003) rfl, cp_nt (a := 1005) (t' := 1003) rfl, cp_nt (a := 1006) (t' := 1003) rfl,
        cp_nt (a := 1005) (t' := 1004) rfl, cp_nt (a := 1006) (t' := 1004) rfl, cp_nt (a := 1006) (t' := 1005) rfl]
      exact cB b b0 b1
  · unfold tk2
    rw [up_at, up_px (by decide), up_px (by decide), up_px (by decide), up_px (by decide)]
    unfold tk1
    simp only [cp_nt (a := 9) (t' := 1001) rfl, cp_nt (a := 9) (t' := 1002) rfl, cp_nt (a := 9) (t' := 1003) rfl, cp_nt (a := 9) (t' := 1004) rfl, cp_nt (a := 9) (t' := 1005) rfl, cp_nt (a := 9) (t' := 1006) rfl, cp_nt (a := 9) (t' := 1007) rfl]
/-- a row of the reference copied -/
theorem t_X12_copies {t0 o0 t2 o2 : Nat} {x1 x3 : Int} {L0 L2 : Nat} {σ : St} {Q : St → Prop} (hs0 : shp t0 = (0, L0)) (hs2 : shp t2 = (0, L2)) (h1 : 0 ≤ x1) (h1' : x1 + 46 ≤ L0) (h3 : 0 ≤ x3) (h3' : x3 + 46 ≤ L2) (hL0 : L0 ≤ 100000) (hL2 : L2 ≤ 100000) (hne : Nat.beq t0 t2 = false)
    (k : ∀ σ', Sm [(t2, o2, none)] σ σ' → (∀ j : Int, 0 ≤ j → j < 46 → σ' t2 o2 (x3 + j) = σ t0 o0 (x1 + j)) → (∀ x : Int, x < x3 ∨ x3 + 46 ≤ x → σ' t2 o2 x = σ t2 o2 x) → Q σ') : P_X12_copies t0 o0 x1 t2 o2 x3 σ Q := by
  unfold P_X12_copies
  refine loopI (X := St) (F := fun n i τ => P_X12_copies_L3 t0 o0 x1 t2 o2 x3 Q n i τ) (N := 46) (fun i τ => Sm [(t2, o2, none)] σ τ ∧ (∀ j : Int, 0 ≤ j → j < i → τ t2 o2 (x3 + j) = σ t0 o0 (x1 + j)) ∧ (∀ x : Int, x < x3 ∨ x3 + i ≤ x → τ t2 o2 x = σ t2 o2 x)) ?_ ?_ 46 0 σ FU (Int.le_refl 0) (by omega) (FU_pos (by omega)) ⟨Sm.rf, fun j j0 j1 => by omega, fun x hx => rfl⟩
  · rintro n i τ i0 i1 ⟨hs, hr, ho⟩ k'
    unfold P_X12_copies_L3
    rw [if_neg (by omega), hs0, hs2, wi_id (z := x1 + i) (by omega) (by omega), wi_id (z := x3 + i) (by omega) (by omega), wi_id (z := i + 1) (by omega) (by omega)]
    refine ⟨rfl, by omega, by show x1 + i < (L0 : Int); omega, rfl, by omega, by show x3 + i < (L2 : Int); omega, k' _ ⟨Sm_up hs (inm (.head _)), fun j j0 j1 => ?_, fun x hx => ?_⟩⟩
    · by_cases e : j = i
      · subst e
        rw [up_at]
        have : τ t0 o0 = σ t0 o0 := hs.row (by
          have : Nat.beq t2 t0 = false := by
            cases h : Nat.beq t2 t0
            · rfl
            · rw [Nat.eq_of_beq_eq_true h, Nat.beq_refl] at hne; cases hne
          show (!(Nat.beq t2 t0 && _) && true) = true
          rw [this]; rfl)
        rw [this]
      · rw [up_nx (by omega)]
        exact hr j j0 (by omega)
    · rw [up_nx (by omega)]
      exact ho x (by omega)
  · rintro n τ ⟨hs, hr, ho⟩
    unfold P_X12_copies_L3
    rw [if_pos (Int.le_refl 46)]
    exact k τ hs hr ho
theorem StA_ext {n m dk : Int} {R R' : Int → Int} {z : Ab} (hn : 0 ≤ n ∧ n ≤ 6) (hm : 0 ≤ m ∧ m ≤ 6) (hW : WfZ n m dk z) (h : ∀ x : Int, 0 ≤ x → x < 46 → R' x = R x) (c : StA n m R z) : StA n m R' z := by
  have hmn := hW.many hm.1
  obtain ⟨c0, c1, c2, c3, cq, cg, cB⟩ := c
  refine ⟨?_, ?_, ?_, ?_, fun j j0 j1 => ?_, fun c c0 c1 => ?_, fun b b0 b1 => ⟨?_, ?_, ?_, ?_, ?_⟩⟩
  · rw [h _ (by omega) (by omega)]; exact c0
  · rw [h _ (by omega) (by omega)]; exact c1
  · rw [h _ (by omega) (by omega)]; exact c2
  · rw [h _ (by omega) (by omega)]; exact c3
  · rw [h _ (by omega) (by omega)]; exact cq j j0 j1
  · rw [h _ (by omega) (by omega)]; exact cg c c0 c1
  · rw [h _ (by omega) (by omega)]; exact (cB b b0 b1).1
  · rw [h _ (by omega) (by omega)]; exact (cB b b0 b1).2.1
  · rw [h _ (by omega) (by omega)]; exact (cB b b0 b1).2.2.1
  · rw [h _ (by omega) (by omega)]; exact (cB b b0 b1).2.2.2.1
  · rw [h _ (by omega) (by omega)]; exact (cB b b0 b1).2.2.2.2
