/-! 51: what was done, kept and given back -/
def stT : List Nat := [9, 1001, 1002, 1003, 1004, 1005, 1006, 1007]
theorem StC_row {n m : Int} {i : Nat} {z : Ab} {σ τ : St} (h : ∀ t, t ∈ stT → τ t i = σ t i) (c : StC n m σ i z) : StC n m τ i z := by
  unfold StC at c ⊢
  rw [h 9 (by decide), h 1001 (by decide), h 1002 (by decide), h 1003 (by decide), h 1004 (by decide), h 1005 (by decide), h 1006 (by decide), h 1007 (by decide)]
  exact c
theorem StC_keep {A : List Reg} {n m : Int} {i : Nat} {z : Ab} {σ τ : St} (h : Sm A σ τ) (hn : noT A stT i = true) (c : StC n m σ i z) : StC n m τ i z := StC_row (fun t ht => noT_row h hn ht) c
theorem StC_other {n m : Int} {i j : Nat} {z : Ab} {σ τ : St} (h : Sm (tkA j) σ τ) (hn : j ≠ i) (c : StC n m σ i z) : StC n m τ i z := by
  refine StC_row (fun t ht => h.row ?_) c
  have e : Nat.beq j i = false := by
    cases h : Nat.beq j i
    · rfl
    · exact absurd (Nat.eq_of_beq_eq_true h) hn
  unfold tkA
  simp only [List.all_cons, List.all_nil, e, Bool.and_false, Bool.not_false, Bool.and_true]
/-- the class's past: c states -/
def PasC (n m : Int) (σ : St) (c : Int) (zs : Int → Ab) : Prop := σ 5 0 1 = c ∧ (0 ≤ c ∧ c ≤ 16) ∧ (∀ j : Int, 0 ≤ j → j < 16 → 2 ≤ σ 600 0 j ∧ σ 600 0 j ≤ 17) ∧
  (∀ i j : Int, 0 ≤ i → i < j → j < 16 → σ 600 0 i ≠ σ 600 0 j) ∧ ∀ j : Int, 0 ≤ j → j < c → StC n m σ (σ 600 0 j).toNat (zs j)
/-- the reference's -/
def PasA (n m : Int) (σ : St) (c : Int) (zs : Int → Ab) : Prop := σ 12 0 52 = c ∧ (0 ≤ c ∧ c ≤ 16) ∧ ∀ j : Int, 0 ≤ j → j < c → StA n m (fun x => σ 1350 0 (46 * j + x)) (zs j)
def Wfs (n m dk : Int) (c : Int) (zs : Int → Ab) : Prop := ∀ j : Int, 0 ≤ j → j < c → WfZ n m dk (zs j)
def puC (c : Int) : Int := if c < 16 then c + 1 else 16
def puZ (c : Int) (zs : Int → Ab) (z : Ab) : Int → Ab := fun j => if c < 16 then (if j = c then z else zs j) else (if j = 15 then z else zs (j + 1))
theorem Wfs_pu {n m dk c : Int} {zs : Int → Ab} {z : Ab} (hc : 0 ≤ c ∧ c ≤ 16) (h : Wfs n m dk c zs) (hz : WfZ n m dk z) : Wfs n m dk (puC c) (puZ c zs z) := by
  intro j j0 j1
  unfold puC at j1
  unfold puZ
  split
  · rename_i h1
    rw [if_pos h1] at j1
    split
    · exact hz
    · exact h j j0 (by omega)
  · rename_i h1
    rw [if_neg h1] at j1
    split
    · exact hz
    · exact h (j + 1) (by omega) (by omega)
def psS : List Reg := (List.range 16).flatMap (fun i => tkA (i + 2))
def psA : List Reg := (600, 0, none) :: (5, 0, some 1) :: psS
theorem tkA_psA {i : Nat} (h2 : 2 ≤ i) (h17 : i ≤ 17) : ∀ r ∈ tkA i, r ∈ psA := fun r hr => by
  refine .tail _ (.tail _ (List.mem_flatMap.mpr ⟨i - 2, List.mem_range.mpr (by omega), ?_⟩))
  rw [show i - 2 + 2 = i by omega]
  exact hr
/-- one more, with room -/
theorem t_X5_J58 {n m dk : Int} {c : Int} {zs : Int → Ab} {z : Ab} {σ0 σ : St} {Q : St → Prop} (h0 : Sm psA σ0 σ) (hX : Cxt n m dk σ) (hW : WfZ n m dk z) (hC : StC n m σ 0 z) (hP : PasC n m σ c zs) (hc : c < 16)
    (k : ∀ σ', Sm psA σ0 σ' → PasC n m σ' (c + 1) (fun j => if j = c then z else zs j) → Q σ') : P_X5_keep_J58 0 Q σ := by
  obtain ⟨h1, h2, h3, h4, h5⟩ := hP
  unfold P_X5_keep_J58
  rw [h1]
  refine ⟨h2.1, hc, ?_⟩
  have hi := h3 c h2.1 hc
  refine t_X9_take hX.spw hW hC (fun τ s1 c1 _ => ?_)
  have e5 : τ 5 0 = σ 5 0 := s1.row rfl
  have e6 : τ 600 0 = σ 600 0 := s1.row rfl
  rw [e5, h1, wi_id (z := c + 1) (by omega) (by omega)]
  have s2 : Sm psA σ0 (up τ 5 0 1 (c + 1)) := Sm_up (h0.tr (s1.mem (tkA_psA (by omega) (by omega)))) rfl
  have ek : ∀ t, t ∈ stT → ∀ i, (up τ 5 0 1 (c + 1)) t i = τ t i := fun t ht i => up_oth (Or.inl (by
    unfold stT at ht
    simp only [List.mem_cons, List.not_mem_nil, or_false] at ht
    rcases ht with rfl | rfl | rfl | rfl | rfl | rfl | rfl | rfl <;> rfl))
  refine k _ s2 ⟨up_at, by omega, fun j j0 j1 => ?_, fun i j i0 ij j1 => ?_, fun j j0 j1 => ?_⟩
  · rw [up_oth (Or.inl rfl), e6]; exact h3 j j0 j1
  · rw [up_oth (Or.inl rfl), e6]; exact h4 i j i0 ij j1
  · rw [up_oth (t' := 600) (Or.inl rfl), e6]
    refine StC_row (σ := τ) (fun t ht => ek t ht _) ?_
    dsimp only
    by_cases e : j = c
    · rw [if_pos e, e]
      exact c1
    · rw [if_neg e]
      have hj := h3 j j0 (by omega)
      have hne := h4 j c j0 (by omega) hc
      exact StC_other s1 (by omega) (h5 j j0 (by omega))
theorem t_X5_keep {n m dk : Int} {c : Int} {zs : Int → Ab} {z : Ab} {σ : St} {Q : St → Prop} (hX : Cxt n m dk σ) (hW : WfZ n m dk z) (hC : StC n m σ 0 z) (hP : PasC n m σ c zs)
    (k : ∀ σ', Sm psA σ σ' → StC n m σ' 0 z → PasC n m σ' (puC c) (puZ c zs z) → Q σ') : P_X5_keep 0 σ Q := by
  have k : ∀ σ', Sm psA σ σ' → PasC n m σ' (puC c) (puZ c zs z) → Q σ' := fun σ' s p => k σ' s (StC_keep s rfl hC) p
  unfold P_X5_keep
  rw [hP.1]
  by_cases hc : c < 16
  · rw [if_pos hc]
    refine t_X5_J58 Sm.rf hX hW hC hP hc (fun σ' s' p' => k σ' s' ?_)
    unfold puC puZ
    simp only [hc, if_true]
    exact p'
  · rw [if_neg hc]
    have h16 : c = 16 := by have := hP.2.1; omega
    subst h16
    obtain ⟨h1, h2, h3, h4, h5⟩ := hP
    have tn : ∀ j : Int, 0 ≤ j → j < 16 → (((σ 600 0 j).toNat : Nat) : Int) = σ 600 0 j := fun j j0 j1 => Int.toNat_of_nonneg (by have := h3 j j0 j1; omega)
    refine loopI (X := St) (F := fun n' i τ => P_X5_keep_L18 0 (σ 600 0 0).toNat (fun σ_2 => (((σ 600 0 0).toNat : Nat) : Int) ≤ 2147483647 ∧ P_X5_keep_J58 0 Q (up (up σ_2 600 0 15 (((σ 600 0 0).toNat : Nat) : Int)) 5 0 1 15)) Q n' i τ) (N := 16)
      (fun i τ => Sm [(600, 0, none)] σ τ ∧ 1 ≤ i ∧ (∀ j : Int, 0 ≤ j → j < 16 → τ 600 0 j = if j < i - 1 then σ 600 0 (j + 1) else σ 600 0 j)) ?_ ?_ 15 1 σ FU (by decide) (by omega) (FU_pos (by omega)) ?_
    · rintro n' i τ i0 i1 ⟨hs, ii, hr⟩ k'
      unfold P_X5_keep_L18
      have ei : τ 600 0 i = σ 600 0 i := by rw [hr i i0 i1, if_neg (by omega)]
      have hi := h3 i i0 i1
      rw [if_neg (by omega), wi_id (z := i - 1) (by omega) (by omega), wi_id (z := i + 1) (by omega) (by omega), ei, tn i i0 i1]
      refine ⟨i0, i1, by omega, by omega, by omega, k' _ ⟨Sm_up hs rfl, by omega, fun j j0 j1 => ?_⟩⟩
      by_cases e : j = i - 1
      · subst e
        rw [up_at, if_pos (by omega), show i - 1 + 1 = i by omega]
      · rw [up_nx e, hr j j0 j1]
        by_cases hj : j < i - 1
        · rw [if_pos hj, if_pos (by omega)]
        · rw [if_neg hj, if_neg (by omega)]
    · rintro n' τ ⟨hs, ii, hr⟩
      unfold P_X5_keep_L18
      rw [if_pos (Int.le_refl 16), tn 0 (by omega) (by omega)]
      have h00 := h3 0 (by omega) (by omega)
      refine ⟨by omega, ?_⟩
      have s2 : Sm psA σ (up (up τ 600 0 15 (σ 600 0 0)) 5 0 1 15) := Sm_up (Sm_up (hs.mem (fun r hr => by cases hr with | head => exact .head _ | tail _ h => cases h)) rfl) rfl
      have e6 : ∀ j : Int, 0 ≤ j → j < 16 → (up (up τ 600 0 15 (σ 600 0 0)) 5 0 1 15) 600 0 j = if j < 15 then σ 600 0 (j + 1) else σ 600 0 0 := fun j j0 j1 => by
        rw [up_nt rfl]
        by_cases e : j = 15
        · rw [e, up_at, if_neg (by omega)]
        · rw [up_nx e, hr j j0 j1, if_pos (by omega), if_pos (by omega)]
      refine t_X5_J58 (c := 15) (zs := fun j => zs (j + 1)) (z := z) s2 (Cxt_keep s2 rfl hX) hW (StC_keep s2 rfl hC) ⟨up_at, by omega, fun j j0 j1 => ?_, fun i j i0 ij j1 => ?_, fun j j0 j1 => ?_⟩ (by omega) (fun σ' s' p' => k σ' s' ?_)
      · rw [e6 j j0 j1]
        split
        · exact h3 _ (by omega) (by omega)
        · exact h00
      · rw [e6 i i0 (by omega), e6 j (by omega) j1, if_pos (by omega)]
        split
        · exact h4 _ _ (by omega) (by omega) (by omega)
        · exact fun e => h4 0 (i + 1) (by omega) (by omega) (by omega) e.symm
      · rw [e6 j j0 (by omega), if_pos j1]
        refine StC_row (σ := σ) (fun t ht => ?_) (h5 (j + 1) (by omega) (by omega))
        unfold stT at ht
        simp only [List.mem_cons, List.not_mem_nil, or_false] at ht
        rcases ht with rfl | rfl | rfl | rfl | rfl | rfl | rfl | rfl <;> exact (up_oth (Or.inl rfl)).trans ((up_oth (Or.inl rfl)).trans (hs.row rfl))
      · unfold puC puZ
        simp only [show ¬ (16 : Int) < 16 by omega, if_false]
        exact p'
    · refine ⟨Sm.rf, by omega, fun j j0 j1 => ?_⟩
      rw [if_neg (by omega)]
/-- the class gives back -/
theorem t_X5_giveBack {n m dk : Int} {c : Int} {zs : Int → Ab} {σ : St} {Q : Int → St → Prop} (hX : Cxt n m dk σ) (hWs : Wfs n m dk c zs) (hP : PasC n m σ c zs)
    (k0 : c = 0 → Q 0 σ) (k1 : 0 < c → ∀ σ', Sm ((5, 0, some 1) :: tkA 0) σ σ' → StC n m σ' 0 (zs (c - 1)) → PasC n m σ' (c - 1) zs → Q 1 σ') : P_X5_giveBack 0 σ Q := by
  obtain ⟨h1, h2, h3, h4, h5⟩ := hP
  unfold P_X5_giveBack
  rw [h1]
  by_cases hc : c = 0
  · rw [if_pos hc]
    exact k0 hc
  · rw [if_neg hc, up_at, wi_id (z := c - 1) (by omega) (by omega), up_nt (t' := 600) (t := 5) rfl]
    refine ⟨by omega, by omega, ?_⟩
    have s1 : Sm ((5, 0, some 1) :: tkA 0) σ (up σ 5 0 1 (c - 1)) := Sm_up Sm.rf rfl
    have hi := h3 (c - 1) (by omega) (by omega)
    have kp : ∀ {i : Nat} {z : Ab}, StC n m σ i z → StC n m (up σ 5 0 1 (c - 1)) i z := fun h => StC_row (fun t ht => up_oth (Or.inl (by
      unfold stT at ht
      simp only [List.mem_cons, List.not_mem_nil, or_false] at ht
      rcases ht with rfl | rfl | rfl | rfl | rfl | rfl | rfl | rfl <;> rfl))) h
    refine t_X9_take (Cxt_keep s1 rfl hX).spw (hWs (c - 1) (by omega) (by omega)) (kp (h5 (c - 1) (by omega) (by omega))) (fun τ s2 c2 _ => ?_)
    have e6 : τ 600 0 = σ 600 0 := (s2.row rfl).trans (up_oth (Or.inl rfl))
    refine k1 (by omega) τ (s1.tr (s2.mem (fun r hr => .tail _ hr))) c2 ⟨?_, by omega, fun j j0 j1 => ?_, fun i j i0 ij j1 => ?_, fun j j0 j1 => ?_⟩
    · rw [s2.row (t := 5) (i := 0) rfl, up_at]
    · rw [e6]; exact h3 j j0 j1
    · rw [e6]; exact h4 i j i0 ij j1
    · rw [e6]
      have hj := h3 j j0 (by omega)
      exact StC_other s2 (by omega) (kp (h5 j j0 (by omega)))
/-- the reference keeps -/
def kpA : List Reg := [(1350, 0, none), (12, 0, some 52)]
theorem t_X12_J49 {n m dk : Int} {c : Int} {zs : Int → Ab} {z : Ab} {σ0 σ : St} {Q : St → Prop} (h0 : Sm kpA σ0 σ) (hX : Cxt n m dk σ) (hW : WfZ n m dk z) (hWs : Wfs n m dk c zs) (hC : StA n m (σ 1346 0) z) (hP : PasA n m σ c zs) (hc : c < 16)
    (k : ∀ σ', Sm kpA σ0 σ' → PasA n m σ' (c + 1) (fun j => if j = c then z else zs j) → Q σ') : P_X12_keeps_J49 Q σ := by
  obtain ⟨h1, h2, h5⟩ := hP
  have hsp := hX.spw
  unfold P_X12_keeps_J49
  rw [h1, wi_id (z := 46 * c) (by omega) (by omega)]
  refine t_X12_copies (L0 := 46) (L2 := 736) rfl rfl (by omega) (by omega) (by omega) (by omega) (by omega) (by omega) rfl (fun τ s1 r1 o1 => ?_)
  have e12 : τ 12 0 = σ 12 0 := s1.row rfl
  rw [e12, h1, wi_id (z := c + 1) (by omega) (by omega)]
  refine k _ (Sm_up (h0.tr (s1.mem (fun r hr => by cases hr with | head => exact .head _ | tail _ h => cases h))) rfl) ⟨up_at, by omega, fun j j0 j1 => ?_⟩
  rw [up_oth (t' := 1350) (Or.inl rfl)]
  dsimp only
  by_cases e : j = c
  · rw [if_pos e]
    subst e
    refine StA_ext hsp.2.2.2.1 hsp.2.2.2.2.1 hW (fun x x0 x1 => ?_) hC
    rw [r1 x x0 x1, Int.zero_add]
  · rw [if_neg e]
    refine StA_ext hsp.2.2.2.1 hsp.2.2.2.2.1 (hWs j j0 (by omega)) (fun x x0 x1 => ?_) (h5 j j0 (by omega))
    rw [o1 _ (by omega)]
theorem t_X12_keeps {n m dk : Int} {c : Int} {zs : Int → Ab} {z : Ab} {σ : St} {Q : St → Prop} (hX : Cxt n m dk σ) (hW : WfZ n m dk z) (hWs : Wfs n m dk c zs) (hC : StA n m (σ 1346 0) z) (hP : PasA n m σ c zs)
    (k : ∀ σ', Sm kpA σ σ' → PasA n m σ' (puC c) (puZ c zs z) → Q σ') : P_X12_keeps σ Q := by
  unfold P_X12_keeps
  rw [hP.1]
  by_cases hc : c = 16
  · rw [if_pos hc]
    subst hc
    obtain ⟨h1, h2, h5⟩ := hP
    have hsp := hX.spw
    refine loopI (X := St) (F := fun n' i τ => P_X12_keeps_L11 (fun σ_2 => P_X12_keeps_J49 Q (up σ_2 12 0 52 (wi ((σ_2 12 0 52) - 1)))) Q n' i τ) (N := 690)
      (fun i τ => Sm [(1350, 0, none)] σ τ ∧ (∀ j : Int, 0 ≤ j → j < 736 → τ 1350 0 j = if j < i then σ 1350 0 (j + 46) else σ 1350 0 j)) ?_ ?_ 690 0 σ FU (by decide) (by omega) (FU_pos (by omega)) ?_
    · rintro n' i τ i0 i1 ⟨hs, hr⟩ k'
      unfold P_X12_keeps_L11
      rw [if_neg (by omega), wi_id (z := i + 46) (by omega) (by omega), wi_id (z := i + 1) (by omega) (by omega)]
      refine ⟨by omega, by omega, i0, by omega, k' _ ⟨Sm_up hs rfl, fun j j0 j1 => ?_⟩⟩
      by_cases e : j = i
      · subst e
        rw [up_at, if_pos (by omega), hr _ (by omega) (by omega), if_neg (by omega)]
      · rw [up_nx e, hr j j0 j1]
        by_cases hj : j < i
        · rw [if_pos hj, if_pos (by omega)]
        · rw [if_neg hj, if_neg (by omega)]
    · rintro n' τ ⟨hs, hr⟩
      unfold P_X12_keeps_L11
      have e12 : τ 12 0 = σ 12 0 := hs.row rfl
      rw [if_pos (Int.le_refl 690), e12, h1, wi_id (z := 16 - 1) (by omega) (by omega)]
      have s2 : Sm kpA σ (up τ 12 0 52 (16 - 1)) := Sm_up (hs.mem (fun r hr => by cases hr with | head => exact .head _ | tail _ h => cases h)) rfl
      refine t_X12_J49 (c := 15) (zs := fun j => zs (j + 1)) (z := z) s2 (Cxt_keep s2 rfl hX) hW (fun j j0 j1 => hWs (j + 1) (by omega) (by omega)) (by rw [s2.row (t := 1346) (i := 0) rfl]; exact hC) ⟨up_at, by omega, fun j j0 j1 => ?_⟩ (by omega) (fun σ' s' p' => k σ' s' ?_)
      · rw [up_oth (t' := 1350) (Or.inl rfl)]
        refine StA_ext hsp.2.2.2.1 hsp.2.2.2.2.1 (hWs (j + 1) (by omega) (by omega)) (fun x x0 x1 => ?_) (h5 (j + 1) (by omega) (by omega))
        rw [hr _ (by omega) (by omega), if_pos (by omega)]
        congr 1
        omega
      · unfold puC puZ
        simp only [show ¬ (16 : Int) < 16 by omega, if_false]
        exact p'
    · refine ⟨Sm.rf, fun j j0 j1 => ?_⟩
      rw [if_neg (by omega)]
  · rw [if_neg hc]
    have hc2 : c < 16 := by have := hP.2.1; omega
    refine t_X12_J49 Sm.rf hX hW hWs hC hP hc2 (fun σ' s' p' => k σ' s' ?_)
    unfold puC puZ
    simp only [hc2, if_true]
    exact p'
/-- the reference undoes -/
def unA : List Reg := [(1346, 0, none), (12, 0, some 0), (12, 0, some 52)]
theorem t_X12_undo {n m dk : Int} {c : Int} {zs : Int → Ab} {σ : St} {Q : Int → St → Prop} (hX : Cxt n m dk σ) (hWs : Wfs n m dk c zs) (hP : PasA n m σ c zs)
    (k0 : c = 0 → ∀ σ', Sm [(12, 0, some 0)] σ σ' → Q 0 σ') (k1 : 0 < c → ∀ σ', Sm unA σ σ' → StA n m (σ' 1346 0) (zs (c - 1)) → PasA n m σ' (c - 1) zs → Q 1 σ') : P_X12_undo σ Q := by
  obtain ⟨h1, h2, h5⟩ := hP
  have hsp := hX.spw
  unfold P_X12_undo
  rw [up_nx (show (52 : Int) ≠ 0 by omega), h1]
  by_cases hc : c = 0
  · rw [if_pos hc]
    exact k0 hc _ (Sm_up Sm.rf rfl)
  · rw [if_neg hc, up_at, wi_id (z := c - 1) (by omega) (by omega), wi_id (z := 46 * (c - 1)) (by omega) (by omega)]
    have s1 : Sm unA σ (up (up σ 12 0 0 0) 12 0 52 (c - 1)) := Sm_up (Sm_up Sm.rf rfl) rfl
    refine t_X12_copies (L0 := 736) (L2 := 46) rfl rfl (by omega) (by omega) (by omega) (by omega) (by omega) (by omega) rfl (fun τ s2 r2 o2 => ?_)
    have e0 : ∀ x : Int, (up (up σ 12 0 0 0) 12 0 52 (c - 1)) 1350 0 x = σ 1350 0 x := fun x => by rw [up_nt rfl, up_nt rfl]
    refine k1 (by omega) τ (s1.tr (s2.mem (fun r hr => by cases hr with | head => exact .head _ | tail _ h => cases h))) ?_ ⟨?_, by omega, fun j j0 j1 => ?_⟩
    · refine StA_ext hsp.2.2.2.1 hsp.2.2.2.2.1 (hWs (c - 1) (by omega) (by omega)) (fun x x0 x1 => ?_) (h5 (c - 1) (by omega) (by omega))
      have := r2 x x0 x1
      rw [Int.zero_add] at this
      rw [this, e0]
    · rw [s2.row (t := 12) (i := 0) rfl, up_at]
    · refine StA_ext hsp.2.2.2.1 hsp.2.2.2.2.1 (hWs j j0 (by omega)) (fun x x0 x1 => ?_) (h5 j j0 (by omega))
      rw [s2.row (t := 1350) (i := 0) rfl, e0]
