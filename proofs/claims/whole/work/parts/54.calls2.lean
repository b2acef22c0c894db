/-! 54: set, carry, undo -/
section
variable {n m dk c : Int} {z : Ab} {zs : Int → Ab} {σ : St} {Q : Int → St → Prop}
theorem t_X9_canSet {o : Nat} {x g : Int} (hn : σ 8 0 10 = n) (k1 : 0 ≤ x → x < n → 0 ≤ g → g ≤ 60 → Q 1 σ) (k0 : ¬ (0 ≤ x ∧ x < n ∧ 0 ≤ g ∧ g ≤ 60) → Q 0 σ) : P_X9_canSet o x g σ Q := by
  unfold P_X9_canSet P_X9_canSet_J25
  refine t_X8_hasCounter (fun a b => ?_) (fun h => ?_)
  · rw [if_neg one_no]
    rw [hn] at b
    refine t_X11_within (fun p q => ?_) (fun h => ?_)
    · rw [if_neg one_no]
      exact k1 a b p q
    · rw [if_pos rfl]
      exact k0 (fun q => h q.2.2)
  · rw [if_pos rfl]
    rw [hn] at h
    exact k0 (fun q => h ⟨q.1, q.2.1⟩)
theorem t_X11_set {x g : Int} (hX : Cxt n m dk σ) (hW : WfZ n m dk z) (hC : StC n m σ 0 z) (hP : PasC n m σ c zs)
    (k0 : ¬ (0 ≤ x ∧ x < n ∧ 0 ≤ g ∧ g ≤ 60) → Q (-1) σ) (k1 : 0 ≤ x → x < n → 0 ≤ g → g ≤ 60 → ∀ σ', Sm csA σ σ' → StC n m σ' 0 (setW x g z) → PasC n m σ' (puC c) (puZ c zs z) → Q (zGap z x) σ') : P_X11_set x g σ Q := by
  have n6 := hX.spw.2.2.2.1
  unfold P_X11_set
  refine t_X9_canSet hX.2.1 (fun a b p q => ?_) (fun h => ?_)
  · rw [if_neg one_no]
    refine t_X5_keep hX hW hC hP (fun σ1 s1 c1 p1 => ?_)
    refine ⟨a, by omega, ?_⟩
    unfold P_X9_setGap
    refine t_X9_canSet (Cxt_keep s1 rfl hX).2.1 (fun _ _ _ _ => ?_) (fun h => absurd ⟨a, b, p, q⟩ h)
    rw [if_neg one_no, c1.2.2.2.2.2.1 x a b]
    refine ⟨a, by omega, ?_⟩
    have s2 : Sm [(1001, 0, none)] σ1 (up σ1 1001 0 x g) := Sm_up Sm.rf rfl
    refine k1 a b p q _ (s1.l.tr (mem_sub (B := ctA) rfl s2).r) ?_ (PasC_keep s2 rfl p1)
    obtain ⟨c0, cb, c2, c3, cq, cg, cB⟩ := c1
    refine ⟨?_, ?_, ?_, ?_, fun j j0 j1 => ?_, fun c c0 c1 => ?_, fun b' b0' b1' => ?_⟩
    · rw [up_nt rfl]; exact c0
    · rw [up_nt rfl]; exact cb
    · rw [up_nt rfl]; exact c2
    · rw [up_nt rfl]; exact c3
    · rw [up_nt rfl]; exact cq j j0 j1
    · show _ = upr (zGap z) x g c
      by_cases e : c = x
      · subst e
        rw [up_at, upr_at]
      · rw [up_nx e, upr_ne e]; exact cg c c0 c1
    · rw [up_nt rfl, up_nt rfl, up_nt rfl, up_nt rfl, up_nt rfl]; exact cB b' b0' b1'
  · rw [if_pos rfl]
    exact k0 h
theorem t_X12_set {x g : Int} (hX : Cxt n m dk σ) (hE : ShE σ) (hW : WfZ n m dk z) (hWs : Wfs n m dk c zs) (hC : StA n m (σ 1346 0) z) (hP : PasA n m σ c zs)
    (k0 : ¬ (0 ≤ x ∧ x < n ∧ 0 ≤ g ∧ g ≤ 60) → ∀ σ', Sm rsA σ σ' → σ' 1346 0 = σ 1346 0 → PasA n m σ' c zs → Q (-1) σ')
    (k1 : 0 ≤ x → x < n → 0 ≤ g → g ≤ 60 → ∀ σ', Sm rsA σ σ' → StA n m (σ' 1346 0) (setW x g z) → PasA n m σ' (puC c) (puZ c zs z) → Q (zGap z x) σ') : P_X12_set x g σ Q := by
  have m6 := hX.spw.2.2.2.2.1
  have n6 := hX.spw.2.2.2.1
  have hmn := hW.many m6.1
  unfold P_X12_set
  have s0 : Sm rsA σ (up σ 12 0 0 0) := Sm_up Sm.rf rfl
  have s0' : Sm [(12, 0, some 0)] σ (up σ 12 0 0 0) := Sm_up Sm.rf rfl
  have hX0 := Cxt_keep s0 rfl hX
  have hE0 := ShE_keep s0 rfl hE
  have hC0 : StA n m ((up σ 12 0 0 0) 1346 0) z := by rw [s0'.row rfl]; exact hC
  have hP0 := PasA_keep s0' rfl rfl hP
  have no : ¬ (0 ≤ x ∧ x < n ∧ 0 ≤ g ∧ g ≤ 60) → Q (-1) (up σ 12 0 0 0) := fun h => k0 h _ s0 (s0'.row rfl) hP0
  refine t_X12_isCounter (n := n) (by rw [hE0.1]; exact hX0.2.1) (fun a b => ?_) (fun h => ?_)
  · rw [if_neg one_no]
    refine t_X12_within (fun p q => ?_) (fun h => ?_)
    · rw [if_neg one_no]
      refine t_X12_keeps hX0 hW hWs hC0 hP0 (fun σ1 s1 p1 => ?_)
      have e1 : σ1 1346 0 = (up σ 12 0 0 0) 1346 0 := s1.row rfl
      rw [wi_id (z := 10 + x) (by omega) (by omega), e1, hC0.2.2.2.2.2.1 x a b]
      have s2 : Sm [(1346, 0, none)] σ1 (up σ1 1346 0 (10 + x) g) := Sm_up Sm.rf rfl
      refine ⟨by omega, by omega, by omega, by omega, ?_⟩
      refine k1 a b p q _ (s0.tr ((mem_sub (B := rsA) rfl s1).tr (mem_sub (B := rsA) rfl s2))) ?_ (PasA_keep s2 rfl rfl p1)
      rw [← e1] at hC0
      obtain ⟨c0, cb, c2, c3, cq, cg, cB⟩ := hC0
      refine ⟨?_, ?_, ?_, ?_, fun j j0 j1 => ?_, fun c c0 c1 => ?_, fun b' b0' b1' => ?_⟩
      · rw [up_nx (by omega)]; exact c0
      · rw [up_nx (by omega)]; exact cb
      · rw [up_nx (by omega)]; exact c2
      · rw [up_nx (by omega)]; exact c3
      · have j1 : j < zMany z := j1
        rw [up_nx (by omega)]; exact cq j j0 j1
      · show _ = upr (zGap z) x g c
        by_cases e : c = x
        · subst e
          rw [up_at, upr_at]
        · rw [up_nx (by omega), upr_ne e]; exact cg c c0 c1
      · rw [up_nx (by omega), up_nx (by omega), up_nx (by omega), up_nx (by omega), up_nx (by omega)]; exact cB b' b0' b1'
    · rw [if_pos rfl]
      exact no (fun q => h q.2.2)
  · rw [if_pos rfl]
    exact no (fun q => h ⟨q.1, q.2.1⟩)
def caW (n m : Int) (z : Ab) (b x : Int) : Prop := (0 ≤ b ∧ b < m) ∧ (0 ≤ x ∧ x < n) ∧ zHow z b = 0 ∧ zAt z b ≠ x
theorem t_X9_canCarry {o : Nat} {b x : Int} (hn : σ 8 0 10 = n) (hm : σ 8 0 11 = m) (h6 : m ≤ 6) (hC : StC n m σ o z) (k1 : caW n m z b x → Q 1 σ) (k0 : ¬ caW n m z b x → Q 0 σ) : P_X9_canCarry o b x σ Q := by
  unfold P_X9_canCarry P_X9_canCarry_J45
  refine t_X8_hasBall (fun b0 b1 => ?_) (fun h => ?_)
  · rw [if_neg one_no]
    rw [hm] at b1
    refine t_X8_hasCounter (fun x0 x1 => ?_) (fun h => ?_)
    · rw [if_neg one_no]
      rw [hn] at x1
      obtain ⟨d2, d4, d3, d5, d6⟩ := hC.2.2.2.2.2.2 b b0 b1
      rw [d4, d3]
      refine ⟨b0, by omega, ?_⟩
      by_cases h : zHow z b = 0
      · rw [if_pos h]
        refine ⟨b0, by omega, ?_⟩
        by_cases h' : zAt z b = x
        · rw [if_pos h']
          exact k0 (fun q => q.2.2.2 h')
        · rw [if_neg h']
          exact k1 ⟨⟨b0, b1⟩, ⟨x0, x1⟩, h, h'⟩
      · rw [if_neg h]
        exact k0 (fun q => h q.2.2.1)
    · rw [if_pos rfl]
      rw [hn] at h
      exact k0 (fun q => h q.2.1)
  · rw [if_pos rfl]
    rw [hm] at h
    exact k0 (fun q => h q.1)
theorem t_X11_carry {b x : Int} (hX : Cxt n m dk σ) (hW : WfZ n m dk z) (hC : StC n m σ 0 z) (hP : PasC n m σ c zs)
    (k0 : ¬ caW n m z b x → Q (-1) σ) (k1 : caW n m z b x → ∀ σ', Sm csA σ σ' → StC n m σ' 0 (carW b x z) → PasC n m σ' (puC c) (puZ c zs z) → Q (zAt z b) σ') : P_X11_carry b x σ Q := by
  have m6 := hX.spw.2.2.2.2.1
  unfold P_X11_carry
  refine t_X9_canCarry hX.2.1 hX.2.2.1 m6.2 hC (fun h => ?_) (fun h => ?_)
  · rw [if_neg one_no]
    have h' := h
    obtain ⟨⟨b0, b1⟩, -⟩ := h'
    refine t_X5_keep hX hW hC hP (fun σ1 s1 c1 p1 => ?_)
    refine ⟨b0, by omega, ?_⟩
    have hX1 := Cxt_keep s1 rfl hX
    unfold P_X9_carryTo
    refine t_X9_canCarry hX1.2.1 hX1.2.2.1 m6.2 c1 (fun _ => ?_) (fun h' => absurd h h')
    rw [if_neg one_no, (c1.2.2.2.2.2.2 b b0 b1).2.2.1]
    refine ⟨b0, by omega, ?_⟩
    have s2 : Sm [(1003, 0, none)] σ1 (up σ1 1003 0 b x) := Sm_up Sm.rf rfl
    refine k1 h _ (s1.l.tr (mem_sub (B := ctA) rfl s2).r) ?_ (PasC_keep s2 rfl p1)
    obtain ⟨c0, cb, c2, c3, cq, cg, cB⟩ := c1
    refine ⟨?_, ?_, ?_, ?_, fun j j0 j1 => ?_, fun c c0 c1 => ?_, fun b' b0' b1' => ?_⟩
    · rw [up_nt rfl]; exact c0
    · rw [up_nt rfl]; exact cb
    · rw [up_nt rfl]; exact c2
    · rw [up_nt rfl]; exact c3
    · rw [up_nt rfl]; exact cq j j0 j1
    · rw [up_nt rfl]; exact cg c c0 c1
    · obtain ⟨g2, g4, g3, g5, g6⟩ := cB b' b0' b1'
      rw [up_nt (t' := 1002) rfl, up_nt (t' := 1004) rfl, up_nt (t' := 1005) rfl, up_nt (t' := 1006) rfl]
      refine ⟨g2, g4, ?_, g5, g6⟩
      show _ = upr (zAt z) b x b'
      by_cases e : b' = b
      · subst e
        rw [up_at, upr_at]
      · rw [up_nx e, upr_ne e]; exact g3
  · rw [if_pos rfl]
    exact k0 h
theorem t_X12_canCarry {b x : Int} (h6 : m ≤ 6) (hC : StA n m (σ 1346 0) z) (b0 : 0 ≤ b) (b1 : b < m) (k1 : zHow z b = 0 → zAt z b ≠ x → Q 1 σ) (k0 : ¬ (zHow z b = 0 ∧ zAt z b ≠ x) → Q 0 σ) : P_X12_canCarry b x σ Q := by
  obtain ⟨d2, d4, d3, d5, d6⟩ := hC.2.2.2.2.2.2 b b0 b1
  unfold P_X12_canCarry P_X12_canCarry_J29
  rw [wi_id (z := 22 + b) (by omega) (by omega), wi_id (z := 28 + b) (by omega) (by omega), d4, d3]
  refine ⟨by omega, by omega, ?_⟩
  by_cases h : zHow z b = 0
  · rw [if_pos h]
    refine ⟨by omega, by omega, ?_⟩
    by_cases h' : zAt z b = x
    · rw [if_pos h']
      exact k0 (fun q => q.2 h')
    · rw [if_neg h']
      exact k1 h h'
  · rw [if_neg h]
    exact k0 (fun q => h q.1)
theorem t_X12_carry {b x : Int} (hX : Cxt n m dk σ) (hE : ShE σ) (hW : WfZ n m dk z) (hWs : Wfs n m dk c zs) (hC : StA n m (σ 1346 0) z) (hP : PasA n m σ c zs)
    (k0 : ¬ caW n m z b x → ∀ σ', Sm rsA σ σ' → σ' 1346 0 = σ 1346 0 → PasA n m σ' c zs → Q (-1) σ')
    (k1 : caW n m z b x → ∀ σ', Sm rsA σ σ' → StA n m (σ' 1346 0) (carW b x z) → PasA n m σ' (puC c) (puZ c zs z) → Q (zAt z b) σ') : P_X12_carry b x σ Q := by
  have m6 := hX.spw.2.2.2.2.1
  have n6 := hX.spw.2.2.2.1
  have hmn := hW.many m6.1
  unfold P_X12_carry
  have s0 : Sm rsA σ (up σ 12 0 0 0) := Sm_up Sm.rf rfl
  have s0' : Sm [(12, 0, some 0)] σ (up σ 12 0 0 0) := Sm_up Sm.rf rfl
  have hX0 := Cxt_keep s0 rfl hX
  have hE0 := ShE_keep s0 rfl hE
  have hC0 : StA n m ((up σ 12 0 0 0) 1346 0) z := by rw [s0'.row rfl]; exact hC
  have hP0 := PasA_keep s0' rfl rfl hP
  have no : ¬ caW n m z b x → Q (-1) (up σ 12 0 0 0) := fun h => k0 h _ s0 (s0'.row rfl) hP0
  refine t_X12_isBall (m := m) (by rw [hE0.2.1]; exact hX0.2.2.1) (fun b0 b1 => ?_) (fun h => ?_)
  · rw [if_neg one_no]
    refine t_X12_isCounter (n := n) (by rw [hE0.1]; exact hX0.2.1) (fun x0 x1 => ?_) (fun h => ?_)
    · rw [if_neg one_no]
      refine t_X12_canCarry m6.2 hC0 b0 b1 (fun h1 h2 => ?_) (fun h => ?_)
      · rw [if_neg one_no]
        refine t_X12_keeps hX0 hW hWs hC0 hP0 (fun σ1 s1 p1 => ?_)
        have e1 : σ1 1346 0 = (up σ 12 0 0 0) 1346 0 := s1.row rfl
        rw [wi_id (z := 28 + b) (by omega) (by omega), e1, (hC0.2.2.2.2.2.2 b b0 b1).2.2.1]
        have s2 : Sm [(1346, 0, none)] σ1 (up σ1 1346 0 (28 + b) x) := Sm_up Sm.rf rfl
        refine ⟨by omega, by omega, by omega, by omega, ?_⟩
        refine k1 ⟨⟨b0, b1⟩, ⟨x0, x1⟩, h1, h2⟩ _ (s0.tr ((mem_sub (B := rsA) rfl s1).tr (mem_sub (B := rsA) rfl s2))) ?_ (PasA_keep s2 rfl rfl p1)
        rw [← e1] at hC0
        obtain ⟨c0, cb, c2, c3, cq, cg, cB⟩ := hC0
        refine ⟨?_, ?_, ?_, ?_, fun j j0 j1 => ?_, fun c c0 c1 => ?_, fun b' b0' b1' => ?_⟩
        · rw [up_nx (by omega)]; exact c0
        · rw [up_nx (by omega)]; exact cb
        · rw [up_nx (by omega)]; exact c2
        · rw [up_nx (by omega)]; exact c3
        · have j1 : j < zMany z := j1
          rw [up_nx (by omega)]; exact cq j j0 j1
        · rw [up_nx (by omega)]; exact cg c c0 c1
        · obtain ⟨g2, g4, g3, g5, g6⟩ := cB b' b0' b1'
          rw [up_nx (show (16 + b' : Int) ≠ 28 + b by omega), up_nx (show (22 + b' : Int) ≠ 28 + b by omega), up_nx (show (34 + b' : Int) ≠ 28 + b by omega), up_nx (show (40 + b' : Int) ≠ 28 + b by omega)]
          refine ⟨g2, g4, ?_, g5, g6⟩
          show _ = upr (zAt z) b x b'
          by_cases e : b' = b
          · subst e
            rw [up_at, upr_at]
          · rw [up_nx (by omega), upr_ne e]; exact g3
      · rw [if_pos rfl]
        exact no (fun q => h ⟨q.2.2.1, q.2.2.2⟩)
    · rw [if_pos rfl]
      exact no (fun q => h q.2.1)
  · rw [if_pos rfl]
    exact no (fun q => h q.1)
theorem t_X11_undo (hX : Cxt n m dk σ) (hWs : Wfs n m dk c zs) (hP : PasC n m σ c zs)
    (k0 : c = 0 → Q 0 σ) (k1 : 0 < c → ∀ σ', Sm ((5, 0, some 1) :: tkA 0) σ σ' → StC n m σ' 0 (zs (c - 1)) → PasC n m σ' (c - 1) zs → Q 1 σ') : P_X11_undo σ Q := by
  unfold P_X11_undo
  exact t_X5_giveBack hX hWs hP (fun h => ⟨Or.inl rfl, k0 h⟩) (fun h σ' s' c' p' => ⟨Or.inr rfl, k1 h σ' s' c' p'⟩)
end
