/-! 74: what is seen of an unknown ball: see, who, ask -/
/-- what is seen: how many, at which counters, behind how many days, fell -/
abbrev Sn : Type := Int × (Int → Int) × (Int → Int) × (Int → Int)
def SeC (σ : St) (o : Nat) (y : Sn) : Prop := σ 7 o 3 = y.1 ∧ ∀ j : Int, 0 ≤ j → j < y.1 → σ 800 o j = y.2.1 j ∧ σ 801 o j = y.2.2.1 j ∧ σ 802 o j = y.2.2.2 j
def SeA (σ : St) (u : Int) (y : Sn) : Prop := σ 1342 0 u = y.1 ∧ ∀ j : Int, 0 ≤ j → j < y.1 → σ 1343 0 (8 * u + j) = y.2.1 j ∧ σ 1344 0 (8 * u + j) = y.2.2.1 j ∧ σ 1345 0 (8 * u + j) = y.2.2.2 j
def WfS (n : Int) (y : Sn) : Prop := (0 ≤ y.1 ∧ y.1 ≤ 8) ∧ ∀ j : Int, 0 ≤ j → j < y.1 → (0 ≤ y.2.1 j ∧ y.2.1 j < n) ∧ (0 ≤ y.2.2.1 j ∧ y.2.2.1 j ≤ 30) ∧ (y.2.2.2 j = 0 ∨ y.2.2.2 j = 1)
def Z01 (σ : St) : Prop := ∀ x : Int, 0 ≤ x → x < 40 → σ 1345 0 x = 0 ∨ σ 1345 0 x = 1
def addS (y : Sn) (x d f : Int) : Sn := (y.1 + 1, upr y.2.1 y.1 x, upr y.2.2.1 y.1 d, upr y.2.2.2 y.1 f)
theorem WfS_add {n : Int} {y : Sn} {x d f : Int} (h : WfS n y) (h8 : y.1 < 8) (hx : 0 ≤ x ∧ x < n) (hd : 0 ≤ d ∧ d ≤ 30) (hf : f = 0 ∨ f = 1) : WfS n (addS y x d f) := by
  obtain ⟨h1, h2⟩ := h
  refine ⟨by show 0 ≤ y.1 + 1 ∧ y.1 + 1 ≤ 8; omega, fun j j0 j1 => ?_⟩
  have j1 : j < y.1 + 1 := j1
  show (0 ≤ upr y.2.1 y.1 x j ∧ upr y.2.1 y.1 x j < n) ∧ (0 ≤ upr y.2.2.1 y.1 d j ∧ upr y.2.2.1 y.1 d j ≤ 30) ∧ (upr y.2.2.2 y.1 f j = 0 ∨ upr y.2.2.2 y.1 f j = 1)
  by_cases e : j = y.1
  · rw [e, upr_at, upr_at, upr_at]
    exact ⟨hx, hd, hf⟩
  · rw [upr_ne e, upr_ne e, upr_ne e]
    exact h2 j j0 (by omega)
def seA11 : List Reg := [(7, 0, some 3), (800, 0, none), (801, 0, none), (802, 0, none)]
def seA12 : List Reg := [(12, 0, some 0), (1342, 0, some 0), (1343, 0, none), (1344, 0, none), (1345, 0, none)]
section
variable {n m dk : Int} {z : Ab} {σ : St}
theorem t_X11_see {x d f : Int} {y : Sn} {Q : Int → St → Prop} (hX : Cxt n m dk σ) (hS : SeC σ 0 y) (hW : WfS n y) (hf : f = 0 ∨ f = 1)
    (k0 : ¬ (0 ≤ x ∧ x < n ∧ 0 ≤ d ∧ d ≤ 30 ∧ y.1 < 8) → Q 0 σ)
    (k1 : 0 ≤ x → x < n → 0 ≤ d → d ≤ 30 → y.1 < 8 → ∀ σ', Sm seA11 σ σ' → SeC σ' 0 (addS y x d f) → Q 1 σ') : P_X11_see x d f σ Q := by
  obtain ⟨h0, h1⟩ := hW
  obtain ⟨c1, c2⟩ := hS
  unfold P_X11_see
  refine t_X8_hasCounter (fun a b => ?_) (fun h => ?_)
  · rw [hX.2.1] at b
    rw [if_neg one_no]
    refine t_X11_within (fun p q => ?_) (fun h => ?_)
    · rw [if_neg one_no]
      unfold P_X7_note
      rw [c1]
      by_cases h8 : y.1 < 8
      · rw [if_pos h8]
        simp only [up_nt (t' := 7) (t := 800) rfl, up_nt (t' := 7) (t := 801) rfl, up_nt (t' := 7) (t := 802) rfl, c1]
        rw [wi_id (z := y.1 + 1) (by omega) (by omega)]
        refine ⟨h0.1, h8, h0.1, h8, h0.1, h8, hf, by simp, ?_⟩
        refine k1 a b p q h8 _ (Sm_up (Sm_up (Sm_up (Sm_up Sm.rf rfl) rfl) rfl) rfl) ⟨up_at, fun j j0 j1 => ?_⟩
        have j1 : j < y.1 + 1 := j1
        show _ = upr y.2.1 y.1 x j ∧ _ = upr y.2.2.1 y.1 d j ∧ _ = upr y.2.2.2 y.1 f j
        simp only [up_nt (t' := 800) (t := 7) rfl, up_nt (t' := 801) (t := 7) rfl, up_nt (t' := 802) (t := 7) rfl, up_nt (t' := 800) (t := 802) rfl, up_nt (t' := 800) (t := 801) rfl, up_nt (t' := 801) (t := 802) rfl]
        by_cases e : j = y.1
        · rw [e, up_at, up_at, up_at, upr_at, upr_at, upr_at]
          exact ⟨rfl, rfl, rfl⟩
        · rw [up_nx e, up_nx e, up_nx e, upr_ne e, upr_ne e, upr_ne e, up_nt rfl, up_nt rfl, up_nt rfl]
          exact c2 j j0 (by omega)
      · rw [if_neg h8]
        exact ⟨Or.inl rfl, k0 (fun q => h8 q.2.2.2.2)⟩
    · rw [if_pos rfl]
      exact k0 (fun q => h ⟨q.2.2.1, q.2.2.2.1⟩)
  · rw [hX.2.1] at h
    rw [if_pos rfl]
    exact k0 (fun q => h ⟨q.1, q.2.1⟩)
theorem t_X12_see {x d f : Int} {y : Sn} {Q : Int → St → Prop} (hX : Cxt n m dk σ) (hE : ShE σ) (hS : SeA σ 0 y) (hW : WfS n y) (hZ : Z01 σ) (hf : f = 0 ∨ f = 1)
    (k0 : ¬ (0 ≤ x ∧ x < n ∧ 0 ≤ d ∧ d ≤ 30 ∧ y.1 < 8) → ∀ σ', Sm q0A σ σ' → Q 0 σ')
    (k1 : 0 ≤ x → x < n → 0 ≤ d → d ≤ 30 → y.1 < 8 → ∀ σ', Sm seA12 σ σ' → SeA σ' 0 (addS y x d f) → Z01 σ' → (∀ (u : Int) (y' : Sn), 1 ≤ u → SeA σ u y' → SeA σ' u y') → Q 1 σ') : P_X12_see x d f σ Q := by
  obtain ⟨h0, h1⟩ := hW
  obtain ⟨c1, c2⟩ := hS
  have s0 : Sm q0A σ (up σ 12 0 0 0) := Sm_up Sm.rf rfl
  have hE0 := ShE_keep s0 rfl hE
  have hX0 := Cxt_keep s0 rfl hX
  have c10 : (up σ 12 0 0 0) 1342 0 0 = y.1 := by rw [up_nt rfl]; exact c1
  unfold P_X12_see
  refine t_X12_isCounter (n := n) (by rw [hE0.1]; exact hX0.2.1) (fun a b => ?_) (fun h => ?_)
  · rw [if_neg one_no]
    refine t_X12_within (fun p q => ?_) (fun h => ?_)
    · rw [if_neg one_no, c10]
      by_cases h8 : y.1 = 8
      · rw [if_pos h8]
        exact k0 (fun q => by omega) _ s0
      · rw [if_neg h8]
        simp only [up_nt (t' := 1342) (t := 1343) rfl, up_nt (t' := 1342) (t := 1344) rfl, up_nt (t' := 1342) (t := 1345) rfl, c10]
        rw [wi_id (z := y.1 + 1) (by omega) (by omega)]
        refine ⟨h0.1, by omega, h0.1, by omega, h0.1, by omega, hf, ?_⟩
        refine k1 a b p q (by omega) _ (Sm_up (Sm_up (Sm_up (Sm_up (Sm_up Sm.rf rfl) rfl) rfl) rfl) rfl) ⟨up_at, fun j j0 j1 => ?_⟩ (fun w w0 w1 => ?_) (fun u y' u1 hy => ?_)
        · have j1 : j < y.1 + 1 := j1
          show _ = upr y.2.1 y.1 x j ∧ _ = upr y.2.2.1 y.1 d j ∧ _ = upr y.2.2.2 y.1 f j
          rw [show 8 * 0 + j = j by omega]
          simp only [up_nt (t' := 1343) (t := 1342) rfl, up_nt (t' := 1344) (t := 1342) rfl, up_nt (t' := 1345) (t := 1342) rfl, up_nt (t' := 1343) (t := 1345) rfl, up_nt (t' := 1343) (t := 1344) rfl, up_nt (t' := 1344) (t := 1345) rfl]
          by_cases e : j = y.1
          · rw [e, up_at, up_at, up_at, upr_at, upr_at, upr_at]
            exact ⟨rfl, rfl, rfl⟩
          · have := c2 j j0 (by omega)
            rw [show 8 * 0 + j = j by omega] at this
            rw [up_nx e, up_nx e, up_nx e, upr_ne e, upr_ne e, upr_ne e, up_nt rfl, up_nt rfl, up_nt rfl, up_nt rfl, up_nt rfl, up_nt rfl]
            exact this
        · rw [up_nt rfl]
          by_cases e : w = y.1
          · rw [e, up_at]; exact hf
          · rw [up_nx e, up_nt rfl, up_nt rfl, up_nt rfl]; exact hZ w w0 w1
        · obtain ⟨g1, g2⟩ := hy
          refine ⟨?_, fun j j0 j1 => ?_⟩
          · rw [up_nx (by omega), up_nt rfl, up_nt rfl, up_nt rfl, up_nt rfl]; exact g1
          · have e : (8 * u + j : Int) ≠ y.1 := by omega
            have := g2 j j0 j1
            rw [up_nt rfl, up_nt rfl, up_nt rfl, up_nx e, up_nt rfl, up_nt rfl, up_nt rfl, up_nx e, up_nt rfl, up_nt rfl, up_nt rfl, up_nx e, up_nt rfl, up_nt rfl, up_nt rfl]
            exact this
    · rw [if_pos rfl]
      exact k0 (fun q => h ⟨q.2.2.1, q.2.2.2.1⟩) _ s0
  · rw [if_pos rfl]
    exact k0 (fun q => h ⟨q.1, q.2.1⟩) _ s0
/-- ball b is as all is that was seen: F b d is where it falls behind d days -/
def agP (F : Int → Int → Int) (y : Sn) (b : Int) : Bool := (fnd (fun j => decide ((if F b (y.2.2.1 j) = y.2.1 j then (1 : Int) else 0) ≠ y.2.2.2 j)) y.1.toNat 0).isNone
theorem t_X7_agrees {v : V4} {b : Int} {y : Sn} {τ : St} {Q : Int → St → Prop} (hX : Cxt n m dk σ) (hC : StC n m σ 0 z) (hs : Sm foA σ τ) (hS : SeC σ 0 y) (hW : WfS n y) (b0 : 0 ≤ b) (b1 : b < m)
    (hr : ∀ j : Int, 0 ≤ j → j ≤ 30 → τ 152 b.toNat j = fsz (spC σ 0) v (dmpW (σ 8 0 12) (σ 908 0)) z b j.toNat)
    (k1 : agP (fld (spC σ 0) v (dmpW (σ 8 0 12) (σ 908 0)) z) y b = true → Q 1 τ) (k0 : agP (fld (spC σ 0) v (dmpW (σ 8 0 12) (σ 908 0)) z) y b = false → Q 0 τ) : P_X7_agrees 0 b τ Q := by
  have hX1 := Cxt_keep hs rfl hX
  have hC1 : StC n m τ 0 z := StC_keep hs rfl hC
  have es : spC τ 0 = spC σ 0 := spC_keep hs rfl
  obtain ⟨⟨h0, h8⟩, h1⟩ := hW
  have c1 : τ 7 0 3 = y.1 := by rw [hs.row (t := 7) (i := 0) rfl]; exact hS.1
  have c2 : ∀ j : Int, 0 ≤ j → j < y.1 → τ 800 0 j = y.2.1 j ∧ τ 801 0 j = y.2.2.1 j ∧ τ 802 0 j = y.2.2.2 j := fun j j0 j1 => by
    rw [hs.row (t := 800) (i := 0) rfl, hs.row (t := 801) (i := 0) rfl, hs.row (t := 802) (i := 0) rfl]
    exact hS.2 j j0 j1
  unfold P_X7_agrees
  unfold agP at k1 k0
  generalize hF : fld (spC σ 0) v (dmpW (σ 8 0 12) (σ 908 0)) z = F at k1 k0
  have hF' : ∀ d : Int, fllW (spC σ 0) z (fsz (spC σ 0) v (dmpW (σ 8 0 12) (σ 908 0)) z b d.toNat) = F b d := fun d => congrFun (congrFun hF b) d
  refine findF (F := fun n' i => P_X7_agrees_L2 0 b Q n' i τ) (N := y.1) (K0 := Q 1 τ) (K := fun _ => Q 0 τ) (p := fun j => decide ((if F b (y.2.2.1 j) = y.2.1 j then (1 : Int) else 0) ≠ y.2.2.2 j)) (fun n' i i0 i1 => ?_) (fun n' k => ?_) y.1.toNat 0 FU (Int.le_refl 0) (by omega) (FU_pos (by omega)) ?_
  · obtain ⟨d1, d2, d3⟩ := c2 i i0 i1
    obtain ⟨-, hd, -⟩ := h1 i i0 i1
    have go : ∀ K : Prop, (K → P_X7_agrees_J35 0 b i (if F b (y.2.2.1 i) = y.2.1 i then 1 else 0) (P_X7_agrees_L2 0 b Q n') Q τ) → K → P_X7_agrees_L2 0 b Q (n' + 1) i τ := by
      intro K hK k
      unfold P_X7_agrees_L2
      rw [c1, if_neg (by omega), d2]
      refine ⟨i0, by omega, ?_⟩
      refine t_X0_fallAfter hX1 hC1 b0 b1 hd.1 (by omega) (hr _ hd.1 hd.2) ?_
      rw [es, hF', d1]
      refine ⟨i0, by omega, ?_⟩
      have := hK k
      split <;> rename_i h
      · rw [if_pos h] at this; exact this
      · rw [if_neg h] at this; exact this
    refine ⟨fun hp => go _ (fun k => ?_), fun hp => go _ (fun k => ?_)⟩
    · have hp := of_decide_eq_true hp
      unfold P_X7_agrees_J35
      rw [d3, if_neg hp]
      exact ⟨i0, by omega, k⟩
    · have hp := Classical.not_not.mp (of_decide_eq_false hp)
      unfold P_X7_agrees_J35
      rw [d3, if_pos hp, wi_id (by omega) (by omega)]
      exact ⟨i0, by omega, k⟩
  · unfold P_X7_agrees_L2
    rw [c1, if_pos (Int.le_refl _)]
    exact k
  · split <;> rename_i h
    · exact k1 (by rw [h]; rfl)
    · exact k0 (by rw [h]; rfl)
theorem look_oth {b c : Int} {τ υ : St} (h : Sm [(302, 0, none), (152, b.toNat, none)] τ υ) (b0 : 0 ≤ b) (c0 : 0 ≤ c) (hne : c ≠ b) (j : Int) : υ 152 c.toNat j = τ 152 c.toNat j := by
  refine h 152 c.toNat j ?_
  have : Nat.beq b.toNat c.toNat = false := by
    cases e : Nat.beq b.toNat c.toNat
    · rfl
    · have := Nat.eq_of_beq_eq_true e; omega
  unfold inR
  simp only [List.any_cons, List.any_nil, this, Bool.or_false, Bool.false_and, Bool.and_false]
  rfl
theorem t_X7_agreeing {v : V4} {y : Sn} {Q : Int → St → Prop} (hX : Cxt n m dk σ) (hW : WfZ n m dk z) (hC : StC n m σ 0 z) (hL : LwC v σ 0) (hd : zDay z < 900000) (hS : SeC σ 0 y) (hY : WfS n y)
    (k : ∀ σ', Sm foA σ σ' → (∀ b j : Int, 0 ≤ b → b < m → 0 ≤ j → j ≤ 30 → σ' 152 b.toNat j = fsz (spC σ 0) v (dmpW (σ 8 0 12) (σ 908 0)) z b j.toNat) → Q (bts (agP (fld (spC σ 0) v (dmpW (σ 8 0 12) (σ 908 0)) z) y) m.toNat) σ') : P_X7_agreeing 0 σ Q := by
  have m6 := hX.spw.2.2.2.2.1
  unfold P_X7_agreeing
  refine loopI (X := Int × St) (F := fun n' i a => P_X7_agreeing_L4 0 Q n' a.1 i a.2) (N := m) (fun i a => Sm foA σ a.2 ∧ (∀ b j : Int, 0 ≤ b → b < i → 0 ≤ j → j ≤ 30 → a.2 152 b.toNat j = fsz (spC σ 0) v (dmpW (σ 8 0 12) (σ 908 0)) z b j.toNat) ∧ a.1 = bts (agP (fld (spC σ 0) v (dmpW (σ 8 0 12) (σ 908 0)) z) y) i.toNat) ?_ ?_ m.toNat 0 (0, σ) FU (Int.le_refl 0) (by omega) (FU_pos (by omega)) ⟨Sm.rf, fun b j b0 b1 => by omega, rfl⟩
  · rintro n' i ⟨x, τ⟩ i0 i1 ⟨hs, hr, hx⟩ k'
    dsimp only at hs hr hx k' ⊢
    have hX1 := Cxt_keep hs rfl hX
    have hC1 : StC n m τ 0 z := StC_keep hs rfl hC
    unfold P_X7_agreeing_L4
    rw [hX1.2.2.1, if_neg (by omega), wi_id (z := i + 1) (by omega) (by omega)]
    refine t_X0_look hX1 hW hC1 (LwC_keep hs rfl hL) hd i0 i1 (by omega) (by omega) (fun υ su' r => ?_)
    have su := hs.tr (sm_look i0 (by omega) su')
    rw [show spC τ 0 = spC σ 0 from spC_keep hs rfl, hs.row (t := 8) (i := 0) rfl, hs.row (t := 908) (i := 0) rfl] at r
    have hr2 : ∀ b j : Int, 0 ≤ b → b < i + 1 → 0 ≤ j → j ≤ 30 → υ 152 b.toNat j = fsz (spC σ 0) v (dmpW (σ 8 0 12) (σ 908 0)) z b j.toNat := fun b j b0 b1 j0 j1 => by
      by_cases e : b = i
      · rw [e]; exact r j j0 j1
      · rw [look_oth su' i0 b0 e]; exact hr b j b0 (by omega) j0 j1
    refine t_X7_agrees hX hC su hS hY i0 i1 r (fun h => ?_) (fun h => ?_)
    · rw [if_neg one_no]
      exact k' (bO x (bL 1 i), υ) ⟨su, hr2, by dsimp only; rw [bts_i i0, h, if_pos rfl, hx]⟩
    · rw [if_pos rfl]
      exact k' (x, υ) ⟨su, hr2, by dsimp only; rw [bts_i i0, h, if_neg (by decide), hx]⟩
  · rintro n' ⟨x, τ⟩ ⟨hs, hr, hx⟩
    dsimp only at hs hr hx ⊢
    unfold P_X7_agreeing_L4
    rw [(Cxt_keep hs rfl hX).2.2.1, if_pos (Int.le_refl m), hx]
    exact k τ hs hr
theorem t_X11_who {v : V4} {y : Sn} {Q : Int → St → Prop} (hX : Cxt n m dk σ) (hW : WfZ n m dk z) (hC : StC n m σ 0 z) (hL : LwC v σ 0) (hd : zDay z < 900000) (hS : SeC σ 0 y) (hY : WfS n y)
    (k : ∀ σ', Sm qcB σ σ' → Q (bts (agP (fld (spC σ 0) v (dmpW (σ 8 0 12) (σ 908 0)) z) y) m.toNat) σ') : P_X11_who σ Q := by
  unfold P_X11_who
  exact t_X7_agreeing hX hW hC hL hd hS hY (fun σ1 s1 _ => k σ1 (mem_sub (A := foA) (B := qcB) rfl s1))
/-- which question parts them best: of, F, all -/
def asT (F : Int → Int → Int) (p : Int → Bool) (m d c : Int) : Int := cnt (fun b => p b && decide (F b d = c)) m.toNat
def asF (F : Int → Int → Int) (p : Int → Bool) (m : Int) (d c : Int) (a : Int × Int) : Int × Int :=
  if a.1 ≤ max (asT F p m d c) (cnt p m.toNat - asT F p m d c) then a else (max (asT F p m d c) (cnt p m.toNat - asT F p m d c), 8 * d + c)
def asW (F : Int → Int → Int) (p : Int → Bool) (n m : Int) : Int := (itr (fun d a => itr (fun c a => asF F p m d c a) n.toNat 0 a) 31 0 (cnt p m.toNat, -1)).2
theorem asT_rng {F : Int → Int → Int} {p : Int → Bool} {m d c : Int} (h0 : 0 ≤ m) : 0 ≤ asT F p m d c ∧ asT F p m d c ≤ m := by
  have := cnt_nonneg (fun b => p b && decide (F b d = c)) m.toNat
  unfold asT
  omega
theorem t_fallersAfter {v : V4} {p : Int → Bool} {d c : Int} {Q : Int → St → Prop} (hX : Cxt n m dk σ) (hC : StC n m σ 0 z) {F : Int → Int → Int}
    (hr : ∀ b : Int, 0 ≤ b → b < m → fllW (spC σ 0) z (σ 152 b.toNat d) = F b d) (d0 : 0 ≤ d) (d1 : d ≤ 30) (k : Q (asT F p m d c) σ) : P_X0_fallersAfter (bts p m.toNat) d c σ Q := by
  have m6 := hX.spw.2.2.2.2.1
  unfold P_X0_fallersAfter
  refine loopI (X := Int) (F := fun n' i a => P_X0_fallersAfter_L6 (bts p m.toNat) d c Q n' a i σ) (N := m) (fun i a => a = cnt (fun b => p b && decide (F b d = c)) i.toNat) ?_ ?_ m.toNat 0 0 FU (Int.le_refl 0) (by omega) (FU_pos (by omega)) rfl
  · rintro n' i a i0 i1 ha k'
    have hc := cnt_nonneg (fun b => p b && decide (F b d = c)) i.toNat
    unfold P_X0_fallersAfter_L6
    rw [hX.2.2.1, if_neg (by omega), bts_bit m6.2 i0 i1, wi_id (z := i + 1) (by omega) (by omega), wi_id (z := a + 1) (by omega) (by omega)]
    rw [cnt_i i0] at k'
    cases hp : p i
    · rw [if_neg (by decide)]
      rw [hp] at k'
      exact k' _ (by rw [ha]; simp)
    · rw [if_pos rfl]
      rw [hp] at k'
      refine t_X0_fallAfter hX hC i0 i1 d0 (by omega) rfl ?_
      rw [hr i i0 i1]
      by_cases h : F i d = c
      · rw [if_pos h]
        exact k' _ (by rw [ha, decide_eq_true h]; rfl)
      · rw [if_neg h]
        exact k' _ (by rw [ha, decide_eq_false h]; simp)
  · rintro n' a ha
    unfold P_X0_fallersAfter_L6
    rw [hX.2.2.1, if_pos (Int.le_refl m), ha]
    exact k
theorem t_X11_ask {v : V4} {y : Sn} {Q : Int → St → Prop} (hX : Cxt n m dk σ) (hW : WfZ n m dk z) (hC : StC n m σ 0 z) (hL : LwC v σ 0) (hd : zDay z < 900000) (hS : SeC σ 0 y) (hY : WfS n y)
    (k : ∀ σ', Sm qcB σ σ' → Q (asW (fld (spC σ 0) v (dmpW (σ 8 0 12) (σ 908 0)) z) (agP (fld (spC σ 0) v (dmpW (σ 8 0 12) (σ 908 0)) z) y) n m) σ') : P_X11_ask σ Q := by
  have m6 := hX.spw.2.2.2.2.1
  have n6 := hX.spw.2.2.2.1
  unfold P_X11_ask
  refine t_X7_agreeing hX hW hC hL hd hS hY (fun σ1 s1 r1 => ?_)
  have k := k σ1 (mem_sub (A := foA) (B := qcB) rfl s1)
  have hX1 := Cxt_keep s1 rfl hX
  have hC1 : StC n m σ1 0 z := StC_keep s1 rfl hC
  have es : spC σ1 0 = spC σ 0 := spC_keep s1 rfl
  have hr : ∀ b d : Int, 0 ≤ b → b < m → 0 ≤ d → d ≤ 30 → fllW (spC σ1 0) z (σ1 152 b.toNat d) = fld (spC σ 0) v (dmpW (σ 8 0 12) (σ 908 0)) z b d := fun b d b0 b1 d0 d1 => by
    rw [es, r1 b d b0 b1 d0 d1]
    rfl
  unfold P_X0_bestQuestion
  refine t_bitCount m6.1 m6.2 ?_
  generalize fld (spC σ 0) v (dmpW (σ 8 0 12) (σ 908 0)) z = F at k hr ⊢
  generalize agP F y = p at k ⊢
  unfold asW at k
  have hcp := cnt_nonneg p m.toNat
  refine loopI (X := Int × Int) (F := fun n' i a => P_X0_bestQuestion_L13 (bts p m.toNat) (cnt p m.toNat) (fun r_4 σ_3 => Q r_4 σ_3) n' a.1 a.2 i σ1) (N := 31) (fun i a => a = itr (fun d a => itr (fun c a => asF F p m d c a) n.toNat 0 a) (i - 0).toNat 0 (cnt p m.toNat, -1)) ?_ ?_ 31 0 (cnt p m.toNat, -1) FU (Int.le_refl 0) (by omega) (FU_pos (by omega)) rfl
  · rintro n' i a i0 i1 ha k'
    rw [itr_i i0, ← ha] at k'
    unfold P_X0_bestQuestion_L13
    rw [if_neg (by omega), wi_id (z := i + 1) (by omega) (by omega)]
    refine loopI (X := Int × Int) (F := fun n2 j a => P_X0_bestQuestion_L23 (bts p m.toNat) (cnt p m.toNat) i (fun x3_5 x4_6 σ_7 => (P_X0_bestQuestion_L13 (bts p m.toNat) (cnt p m.toNat) (fun r_4 σ_3 => Q r_4 σ_3) n') x3_5 x4_6 (i + 1) σ_7) (fun r_4 σ_3 => Q r_4 σ_3) n2 a.1 a.2 j σ1) (N := n) (fun j b => b = itr (fun c a => asF F p m i c a) (j - 0).toNat 0 a) ?_ ?_ n.toNat 0 a FU (Int.le_refl 0) (by omega) (FU_pos (by omega)) rfl
    · rintro n2 j b j0 j1 hb k2
      rw [itr_i j0, ← hb] at k2
      have hT := asT_rng (F := F) (p := p) (d := i) (c := j) m6.1
      unfold P_X0_bestQuestion_L23
      rw [hX1.2.1, if_neg (by omega)]
      refine t_fallersAfter (v := v) hX1 hC1 (fun b b0 b1 => hr b i b0 b1 i0 (by omega)) i0 (by omega) ?_
      rw [wi_id (z := cnt p m.toNat - _) (by omega) (by omega), wi_id (z := 8 * i) (by omega) (by omega), wi_id (z := 8 * i + j) (by omega) (by omega), wi_id (z := j + 1) (by omega) (by omega)]
      by_cases h : b.1 ≤ max (asT F p m i j) (cnt p m.toNat - asT F p m i j)
      · rw [if_pos h]
        exact k2 b (by unfold asF; rw [if_pos h])
      · rw [if_neg h]
        exact k2 (_, _) (by unfold asF; rw [if_neg h])
    · rintro n2 b hb
      unfold P_X0_bestQuestion_L23
      rw [hX1.2.1, if_pos (Int.le_refl n)]
      exact k' b (by rw [hb, show n - 0 = n by omega])
  · rintro n' a ha
    unfold P_X0_bestQuestion_L13
    rw [if_pos (by omega), ha]
    exact k
end
