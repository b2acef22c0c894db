/-! 53: the calls that change the state: send, beat, set, carry, day, undo -/
def ctA : List Reg := tkA 0 ++ [(302, 0, none)]
def csA : List Reg := psA ++ ctA
def rsA : List Reg := [(1346, 0, none), (1350, 0, none), (12, 0, some 0), (12, 0, some 52), (12, 0, some 54)] ++ weA
def pasOk (A : List Reg) : Bool := noT A [5, 600] 0 && (List.range 16).all (fun i => noT A stT (i + 2))
theorem PasC_keep {A : List Reg} {n m c : Int} {zs : Int → Ab} {σ τ : St} (h : Sm A σ τ) (hn : pasOk A = true) (p : PasC n m σ c zs) : PasC n m τ c zs := by
  unfold pasOk at hn
  rw [Bool.and_eq_true] at hn
  obtain ⟨h1, h2, h3, h4, h5⟩ := p
  have e5 := noT_row h hn.1 (t := 5) (by decide)
  have e6 := noT_row h hn.1 (t := 600) (by decide)
  refine ⟨by rw [e5]; exact h1, h2, by rw [e6]; exact h3, by rw [e6]; exact h4, fun j j0 j1 => ?_⟩
  rw [e6]
  have hj := h3 j j0 (by omega)
  have hh := List.all_eq_true.mp hn.2 ((σ 600 0 j).toNat - 2) (List.mem_range.mpr (by omega))
  rw [show (σ 600 0 j).toNat - 2 + 2 = (σ 600 0 j).toNat by omega] at hh
  exact StC_keep h hh (h5 j j0 j1)
theorem PasA_keep {A : List Reg} {n m c : Int} {zs : Int → Ab} {σ τ : St} (h : Sm A σ τ) (hn : noT A [1350] 0 = true) (h52 : inR A 12 0 52 = false) (p : PasA n m σ c zs) : PasA n m τ c zs := by
  obtain ⟨h1, h2, h5⟩ := p
  refine ⟨by rw [h 12 0 52 h52]; exact h1, h2, fun j j0 j1 => ?_⟩
  rw [noT_row h hn (t := 1350) (by decide)]
  exact h5 j j0 j1
theorem t_X12_isBall {m x : Int} {σ : St} {Q : Int → St → Prop} (hm : σ 1310 0 1 = m) (k1 : 0 ≤ x → x < m → Q 1 σ) (k0 : ¬ (0 ≤ x ∧ x < m) → Q 0 σ) : P_X12_isBall x σ Q := by
  unfold P_X12_isBall P_X12_isBall_J18
  rw [hm]
  split
  · exact k0 (by omega)
  · split
    · exact k0 (by omega)
    · exact k1 (by omega) (by omega)
theorem t_X12_isCounter {n x : Int} {σ : St} {Q : Int → St → Prop} (hn : σ 1310 0 0 = n) (k1 : 0 ≤ x → x < n → Q 1 σ) (k0 : ¬ (0 ≤ x ∧ x < n) → Q 0 σ) : P_X12_isCounter x σ Q := by
  unfold P_X12_isCounter P_X12_isCounter_J18
  rw [hn]
  split
  · exact k0 (by omega)
  · split
    · exact k0 (by omega)
    · exact k1 (by omega) (by omega)
theorem t_X11_within {x a b : Int} {σ : St} {Q : Int → St → Prop} (k1 : a ≤ x → x ≤ b → Q 1 σ) (k0 : ¬ (a ≤ x ∧ x ≤ b) → Q 0 σ) : P_X11_within x a b σ Q := by
  unfold P_X11_within P_X11_within_J14
  split
  · exact k0 (by omega)
  · split
    · exact k0 (by omega)
    · exact k1 (by omega) (by omega)
theorem t_X12_within {x a b : Int} {σ : St} {Q : Int → St → Prop} (k1 : a ≤ x → x ≤ b → Q 1 σ) (k0 : ¬ (a ≤ x ∧ x ≤ b) → Q 0 σ) : P_X12_within x a b σ Q := by
  unfold P_X12_within P_X12_within_J14
  split
  · exact k0 (by omega)
  · split
    · exact k0 (by omega)
    · exact k1 (by omega) (by omega)
section
variable {n m dk c : Int} {z : Ab} {zs : Int → Ab} {σ : St} {Q : Int → St → Prop}
theorem t_X11_send {b : Int} (hX : Cxt n m dk σ) (hW : WfZ n m dk z) (hC : StC n m σ 0 z) (hP : PasC n m σ c zs)
    (k0 : ¬ (0 ≤ b ∧ b < m ∧ canW z b) → Q (-1) σ) (k1 : 0 ≤ b → b < m → canW z b → ∀ σ', Sm csA σ σ' → StC n m σ' 0 (sndW (spC σ 0) b z) → PasC n m σ' (puC c) (puZ c zs z) → Q (zAt z b) σ') : P_X11_send b σ Q := by
  have m6 := hX.spw.2.2.2.2.1
  unfold P_X11_send
  refine t_X9_canSend hX.2.2.1 m6.2 hC (fun b0 b1 hc => ?_) (fun h => ?_)
  · rw [if_neg one_no]
    refine t_X5_keep hX hW hC hP (fun σ1 s1 c1 p1 => ?_)
    refine ⟨b0, by omega, ?_⟩
    have hX1 := Cxt_keep s1 rfl hX
    rw [(c1.2.2.2.2.2.2 b b0 b1).2.2.1]
    refine t_X9_sendOff hX1 hW c1 (fun _ _ _ σ2 s2 c2 => ?_) (fun h => absurd ⟨b0, b1, hc⟩ h)
    rw [spC_keep s1 rfl] at c2
    exact k1 b0 b1 hc σ2 (s1.l.tr (mem_sub (B := ctA) rfl s2).r) c2 (PasC_keep s2 rfl p1)
  · rw [if_pos rfl]
    exact k0 h
theorem t_X12_send {b : Int} (hX : Cxt n m dk σ) (hE : ShE σ) (hW : WfZ n m dk z) (hWs : Wfs n m dk c zs) (hC : StA n m (σ 1346 0) z) (hP : PasA n m σ c zs)
    (k0 : ¬ (0 ≤ b ∧ b < m ∧ canW z b) → ∀ σ', Sm rsA σ σ' → σ' 1346 0 = σ 1346 0 → PasA n m σ' c zs → Q (-1) σ') (k1 : 0 ≤ b → b < m → canW z b → ∀ σ', Sm rsA σ σ' → StA n m (σ' 1346 0) (sndW (spC σ 0) b z) → PasA n m σ' (puC c) (puZ c zs z) → Q (zAt z b) σ') : P_X12_send b σ Q := by
  have m6 := hX.spw.2.2.2.2.1
  have n6 := hX.spw.2.2.2.1
  unfold P_X12_send
  have s0 : Sm rsA σ (up σ 12 0 0 0) := Sm_up Sm.rf rfl
  have s0' : Sm [(12, 0, some 0)] σ (up σ 12 0 0 0) := Sm_up Sm.rf rfl
  have hX0 := Cxt_keep s0 rfl hX
  have hE0 := ShE_keep s0 rfl hE
  have hC0 : StA n m ((up σ 12 0 0 0) 1346 0) z := by rw [s0'.row rfl]; exact hC
  have hP0 := PasA_keep s0' rfl rfl hP
  have sp0 : spC (up σ 12 0 0 0) 0 = spC σ 0 := spC_keep s0 rfl
  have no : ¬ (0 ≤ b ∧ b < m ∧ canW z b) → Q (-1) (up σ 12 0 0 0) := fun h => k0 h _ s0 (s0'.row rfl) hP0
  refine t_X12_isBall (m := m) (by rw [hE0.2.1]; exact hX0.2.2.1) (fun b0 b1 => ?_) (fun h => ?_)
  · rw [if_neg one_no]
    obtain ⟨w1, w2, w3, w4, w5, w6⟩ := hW.2.2.2.2.2.2.2 b b0 b1
    refine t_X12_canSend m6.2 hC0 (by omega) b0 b1 (fun hc => ?_) (fun h => ?_)
    · rw [if_neg one_no]
      refine t_X12_keeps hX0 hW hWs hC0 hP0 (fun σ1 s1 p1 => ?_)
      have e1 : σ1 1346 0 = (up σ 12 0 0 0) 1346 0 := s1.row rfl
      rw [wi_id (z := 28 + b) (by omega) (by omega), e1, (hC0.2.2.2.2.2.2 b b0 b1).2.2.1]
      refine ⟨by omega, by omega, ?_⟩
      refine t_X12_sends (Cxt_keep s1 rfl hX0) (ShE_keep s1 rfl hE0) hW (by rw [e1]; exact hC0) b0 b1 (fun σ2 s2 c2 => ?_)
      rw [spC_keep s1 rfl, sp0] at c2
      exact k1 b0 b1 hc σ2 (s0.tr ((mem_sub (B := rsA) rfl s1).tr (mem_sub (B := rsA) rfl s2))) c2 (PasA_keep s2 rfl rfl p1)
    · rw [if_pos rfl]
      exact no (fun q => h q.2.2)
  · rw [if_pos rfl]
    exact no (fun q => h ⟨q.1, q.2.1⟩)
theorem t_X11_beat (hX : Cxt n m dk σ) (hW : WfZ n m dk z) (hC : StC n m σ 0 z) (hP : PasC n m σ c zs)
    (k : ∀ σ', Sm csA σ σ' → StC n m σ' 0 (pasW (spC σ 0) z) → PasC n m σ' (puC c) (puZ c zs z) → Q (pasB (spC σ 0) z) σ') : P_X11_beat σ Q := by
  unfold P_X11_beat
  refine t_X5_keep hX hW hC hP (fun σ1 s1 c1 p1 => ?_)
  obtain ⟨hS1, hn1, hm1, hd1⟩ := Cxt_keep s1 rfl hX
  refine t_X9_passBeat hS1 hn1 hm1 hd1 hW c1 (fun σ2 s2 c2 _ => ?_)
  rw [spC_keep s1 rfl] at c2 ⊢
  exact k σ2 (s1.l.tr (mem_sub (A := paA 0) (B := ctA) rfl s2).r) c2 (PasC_keep s2 rfl p1)
theorem t_X12_beat (hX : Cxt n m dk σ) (hE : ShE σ) (hW : WfZ n m dk z) (hWs : Wfs n m dk c zs) (hC : StA n m (σ 1346 0) z) (hP : PasA n m σ c zs)
    (k : ∀ σ', Sm rsA σ σ' → StA n m (σ' 1346 0) (pasW (spC σ 0) z) → PasA n m σ' (puC c) (puZ c zs z) → Q (pasB (spC σ 0) z) σ') : P_X12_beat σ Q := by
  unfold P_X12_beat
  have s0 : Sm rsA σ (up σ 12 0 0 0) := Sm_up Sm.rf rfl
  have s0' : Sm [(12, 0, some 0)] σ (up σ 12 0 0 0) := Sm_up Sm.rf rfl
  have hX0 := Cxt_keep s0 rfl hX
  have hE0 := ShE_keep s0 rfl hE
  have hC0 : StA n m ((up σ 12 0 0 0) 1346 0) z := by rw [s0'.row rfl]; exact hC
  have hP0 := PasA_keep s0' rfl rfl hP
  have sp0 : spC (up σ 12 0 0 0) 0 = spC σ 0 := spC_keep s0 rfl
  refine t_X12_keeps hX0 hW hWs hC0 hP0 (fun σ1 s1 p1 => ?_)
  have e1 : σ1 1346 0 = (up σ 12 0 0 0) 1346 0 := s1.row rfl
  obtain ⟨hS1, hn1, hm1, hd1⟩ := Cxt_keep s1 rfl hX0
  refine t_X12_passes hS1 (ShE_keep s1 rfl hE0) hn1 hm1 hd1 hW (by rw [e1]; exact hC0) (fun σ2 s2 c2 => ?_)
  rw [spC_keep s1 rfl, sp0] at c2 ⊢
  exact k σ2 (s0.tr ((mem_sub (B := rsA) rfl s1).tr (mem_sub (B := rsA) rfl s2))) c2 (PasA_keep s2 rfl rfl p1)
theorem t_X11_day {v : V4} (hX : Cxt n m dk σ) (hW : WfZ n m dk z) (hC : StC n m σ 0 z) (hP : PasC n m σ c zs) (hL : LwC v σ 0) (hd : zDay z < 1000000)
    (k : ∀ σ', Sm csA σ σ' → StC n m σ' 0 (dayW (spC σ 0) m v (dmpW (σ 8 0 12) (σ 908 0) (zDay z)) z) → PasC n m σ' (puC c) (puZ c zs z) → Q (nAll (spC σ 0) m z) σ') : P_X11_day σ Q := by
  unfold P_X11_day
  refine t_X5_keep hX hW hC hP (fun σ1 s1 c1 p1 => ?_)
  refine t_X9_passDay (Cxt_keep s1 rfl hX) hW c1 (LwC_keep s1 rfl hL) hd (fun σ2 s2 c2 _ => ?_)
  rw [s1.row (t := 8) (i := 0) rfl, s1.row (t := 908) (i := 0) rfl, spC_keep s1 rfl] at c2
  rw [spC_keep s1 rfl]
  exact k σ2 (s1.l.tr (mem_sub (A := dyA 0) (B := ctA) rfl s2).r) c2 (PasC_keep s2 rfl p1)
theorem t_X12_day {v : V4} (hX : Cxt n m dk σ) (hE : ShE σ) (hW : WfZ n m dk z) (hWs : Wfs n m dk c zs) (hC : StA n m (σ 1346 0) z) (hP : PasA n m σ c zs) (hL : LwA v σ) (hd : zDay z < 1000000)
    (k : ∀ σ', Sm rsA σ σ' → StA n m (σ' 1346 0) (dayW (spC σ 0) m v (dmpW (σ 8 0 12) (σ 908 0) (zDay z)) z) → PasA n m σ' (puC c) (puZ c zs z) → Q (nAll (spC σ 0) m z) σ') : P_X12_day σ Q := by
  unfold P_X12_day
  have s0 : Sm rsA σ (up σ 12 0 0 0) := Sm_up Sm.rf rfl
  have s0' : Sm [(12, 0, some 0)] σ (up σ 12 0 0 0) := Sm_up Sm.rf rfl
  have hX0 := Cxt_keep s0 rfl hX
  have hE0 := ShE_keep s0 rfl hE
  have hC0 : StA n m ((up σ 12 0 0 0) 1346 0) z := by rw [s0'.row rfl]; exact hC
  have hP0 := PasA_keep s0' rfl rfl hP
  have sp0 : spC (up σ 12 0 0 0) 0 = spC σ 0 := spC_keep s0 rfl
  refine t_X12_keeps hX0 hW hWs hC0 hP0 (fun σ1 s1 p1 => ?_)
  have e1 : σ1 1346 0 = (up σ 12 0 0 0) 1346 0 := s1.row rfl
  have hX1 := Cxt_keep s1 rfl hX0
  have hE1 := ShE_keep s1 rfl hE0
  unfold P_X12_endsAsTold
  rw [e1, hC0.1]
  refine t_X12_dampOf hX1.1 hE1 hW.1.1 ?_
  rw [s1.row (t := 8) (i := 0) rfl, s1.row (t := 908) (i := 0) rfl, s0.row (t := 8) (i := 0) rfl, s0.row (t := 908) (i := 0) rfl]
  refine t_X12_ends hX1 hE1 hW (by rw [e1]; exact hC0) (LwA_keep s1 rfl (LwA_keep s0 rfl hL)) hd (dmpW_rng hX.1 hW.1.1) (fun σ2 s2 c2 _ => ?_)
  rw [spC_keep s1 rfl, sp0] at c2 ⊢
  exact k σ2 (s0.tr ((mem_sub (B := rsA) rfl s1).tr (mem_sub (B := rsA) rfl s2))) c2 (PasA_keep s2 rfl rfl p1)
end
