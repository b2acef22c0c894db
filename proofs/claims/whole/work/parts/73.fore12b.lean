/-! 73: stray, first, safe, wide, over of the reference -/
theorem findI {X : Type} {F : Nat → Int → X → Prop} {N : Int} {p : Int → Bool} {K0 : X → Prop} {K : Int → X → Prop} (J : Int → X → Prop)
    (hs : ∀ (n : Nat) (i : Int) (a : X), 0 ≤ i → i < N → J i a → (p i = true → K i a → F (n + 1) i a) ∧ (p i = false → (∀ a', J (i + 1) a' → F n (i + 1) a') → F (n + 1) i a))
    (hb : ∀ (n : Nat) (a : X), J N a → K0 a → F (n + 1) N a) :
    ∀ (m : Nat) (i : Int) (a : X) (n : Nat), 0 ≤ i → i + m = N → m < n → J i a → (match fnd p m i with | none => ∀ a, J N a → K0 a | some j => ∀ a, J j a → K j a) → F n i a
  | 0, i, a, n, h0, hN, hn, hJ, k => by
    obtain ⟨q, rfl, -⟩ := fu_ex hn
    have e : i = N := by omega
    subst e
    exact hb q a hJ (k a hJ)
  | m + 1, i, a, n, h0, hN, hn, hJ, k => by
    obtain ⟨q, rfl, hq⟩ := fu_ex hn
    obtain ⟨h1, h2⟩ := hs q i a h0 (by omega) hJ
    unfold fnd at k
    cases hp : p i with
    | true =>
      rw [hp] at k
      exact h1 hp (k a hJ)
    | false =>
      rw [hp] at k
      exact h2 hp (fun a' hJ' => findI J hs hb m (i + 1) a' q (by omega) (by omega) (by omega) hJ' k)
theorem fnd_is {p : Int → Bool} {m : Nat} {i d : Int} (h0 : i ≤ d) (h1 : d < i + m) (hd : p d = true) (hb : ∀ k : Int, i ≤ k → k < d → p k = false) : fnd p m i = some d := by
  cases h : fnd p m i with
  | none => rw [fnd_none h d h0 h1] at hd; cases hd
  | some j =>
    obtain ⟨q1, q2, q3, q4⟩ := fnd_some h
    rcases Int.lt_trichotomy j d with e | e | e
    · rw [hb j q1 e] at q3; cases q3
    · rw [e]
    · rw [q4 d h0 e] at hd; cases hd
theorem fnd_iff {p : Int → Bool} {m : Nat} {i : Int} : (fnd p m i).isNone = true ↔ ∀ k : Int, i ≤ k → k < i + m → p k = false := by
  refine ⟨fun h => ?_, fun h => ?_⟩
  · cases e : fnd p m i with
    | none => exact fnd_none e
    | some j => rw [e] at h; cases h
  · cases e : fnd p m i with
    | none => rfl
    | some j =>
      obtain ⟨q1, q2, q3, q4⟩ := fnd_some e
      rw [h j q1 q2] at q3; cases q3
section
variable {n m dk : Int} {z : Ab} {σ : St}
def foW (s : Sp) (m : Int) (v : V4) (dm hm : Int → Int) (z : Ab) (x : Int) (i : Int) : Int := bA (bts (saP s v dm hm z i) m.toNat) x
theorem t_X12_strayOf {v : V4} {x : Int} {Q : Int → St → Prop} (hB : Bas n m dk v z σ)
    (k : ∀ σ', Sm qrB σ σ' → StA n m (σ' 1346 0) z → (match fnd (fun i => decide (foW (spC σ 0) m v (dmpW (σ 8 0 12) (σ 908 0)) (σ 906 0) z x i ≠ 0)) 61 0 with | none => Q (-1) σ' | some d => σ' 12 0 56 = foW (spC σ 0) m v (dmpW (σ 8 0 12) (σ 908 0)) (σ 906 0) z x d → Q d σ')) : P_X12_strayOf x σ Q := by
  unfold P_X12_strayOf
  refine t_Bas_aside hB (fun σ1 s1 hB1 c1 => ?_)
  have s01 : Sm qrB σ σ1 := mem_sub (B := qrB) rfl s1
  have es : spC σ1 0 = spC σ 0 := spC_keep s01 rfl
  have e8 : σ1 8 0 = σ 8 0 := s01.row rfl
  have e908 : σ1 908 0 = σ 908 0 := s01.row rfl
  have e906 : σ1 906 0 = σ 906 0 := s01.row rfl
  refine t_Dy_strays (i := 0) hB1 (Dy_0 hB1) ?_
  rw [es, e8, e908, e906]
  generalize hfo : foW (spC σ 0) m v (dmpW (σ 8 0 12) (σ 908 0)) (σ 906 0) z x = fo at k
  have efo : ∀ i, bA (bts (saP (spC σ 0) v (dmpW (σ 8 0 12) (σ 908 0)) (σ 906 0) z i) m.toNat) x = fo i := fun i => congrFun hfo i
  rw [efo]
  have back : ∀ (d : Int) (τ : St), Dy n m dk v z σ1 d τ → τ 12 0 56 = fo d → (∀ σ', Sm qrB σ σ' → StA n m (σ' 1346 0) z → σ' 12 0 56 = fo d → (if d ≤ 60 then Q d σ' else Q (-1) σ')) → P_X12_strayOf_J59 d Q τ := by
    intro d τ hD hv kk
    unfold P_X12_strayOf_J59
    refine t_Dy_back (v := v) hB1 c1 (mem_sub (A := deB) (B := qrB) rfl hD.1) (hD.1.row rfl) (fun σ2 s2 s3 c2 => ?_)
    exact kk σ2 (s01.tr s2) c2 (by rw [s3 12 0 56 rfl, hv])
  refine findI (X := St) (F := fun n' i τ => P_X12_strayOf_L25 x (fun x2_8 σ_9 => P_X12_strayOf_J59 x2_8 Q σ_9) Q n' i τ) (N := 61) (p := fun i => decide (fo i ≠ 0)) (K0 := fun τ => P_X12_strayOf_J59 61 Q τ) (K := fun d τ => P_X12_strayOf_J59 d Q τ)
    (fun i τ => Dy n m dk v z σ1 i τ ∧ τ 12 0 56 = fo i) (fun n' i τ i0 i1 hJ => ⟨fun hp k => ?_, fun hp k' => ?_⟩) (fun n' τ hJ k => ?_) 61 0 _ FU (Int.le_refl 0) (by omega) (FU_pos (by omega)) ⟨Dy_up (Dy_0 hB1) rfl rfl, up_at⟩ ?_
  · have hp := of_decide_eq_true hp
    unfold P_X12_strayOf_L25
    rw [if_neg (by omega), hJ.2, if_neg hp]
    exact k
  · have hp := Classical.not_not.mp (of_decide_eq_false hp)
    unfold P_X12_strayOf_L25
    rw [if_neg (by omega), hJ.2, if_pos hp, wi_id (z := i + 1) (by omega) (by omega)]
    refine t_Dy hB1 hJ.1 i0 (by omega) (fun σ2 h2 _ => ?_)
    refine t_Dy_strays hB1 h2 ?_
    rw [es, e8, e908, e906, efo]
    exact k' _ ⟨Dy_up h2 rfl rfl, up_at⟩
  · unfold P_X12_strayOf_L25
    rw [if_pos (by omega)]
    exact k
  · cases h : fnd (fun i => decide (fo i ≠ 0)) 61 0 with
    | none =>
      rw [h] at k
      intro τ hJ
      refine back 61 τ hJ.1 hJ.2 (fun σ' s' c' _ => ?_)
      rw [if_neg (by omega)]
      exact k σ' s' c'
    | some d =>
      rw [h] at k
      have := fnd_some h
      intro τ hJ
      refine back d τ hJ.1 hJ.2 (fun σ' s' c' e' => ?_)
      rw [if_pos (by omega)]
      exact k σ' s' c' e'
theorem t_X12_stray {v : V4} {b : Int} {Q : Int → St → Prop} (hB : Bas n m dk v z σ)
    (k : ∀ σ', Sm qrB σ σ' → StA n m (σ' 1346 0) z → Q (stdW (spC σ 0) m v (dmpW (σ 8 0 12) (σ 908 0)) (σ 906 0) z b) σ') : P_X12_stray b σ Q := by
  have m6 := hB.1.spw.2.2.2.2.1
  obtain ⟨hB0, s0⟩ := Bas_look hB
  unfold P_X12_stray
  unfold stdW at k
  refine t_X12_isBall (m := m) (by rw [hB0.2.1.2.1]; exact hB0.1.2.2.1) (fun b0 b1 => ?_) (fun h => ?_)
  · rw [if_neg one_no]
    refine t_X12_strayOf hB0 (fun σ1 s1 c1 => ?_)
    rw [show spC (up σ 12 0 0 0) 0 = spC σ 0 from spC_keep s0 rfl, s0.row (t := 8) (i := 0) rfl, s0.row (t := 908) (i := 0) rfl, s0.row (t := 906) (i := 0) rfl]
    have k := k σ1 ((mem_sub (B := qrB) rfl s0).tr s1) c1
    rw [if_pos ⟨b0, b1⟩] at k
    have e : fnd (fun i => decide (foW (spC σ 0) m v (dmpW (σ 8 0 12) (σ 908 0)) (σ 906 0) z (bL 1 b) i ≠ 0)) 61 0 = asd (spC σ 0) v (dmpW (σ 8 0 12) (σ 908 0)) (σ 906 0) z b := fnd_congr _ _ (fun i _ _ => by
      have h := bts_no (p := saP (spC σ 0) v (dmpW (σ 8 0 12) (σ 908 0)) (σ 906 0) z i) m6.2 b0 b1
      show decide (bA _ _ ≠ 0) = saP (spC σ 0) v (dmpW (σ 8 0 12) (σ 908 0)) (σ 906 0) z i b
      cases hp : saP (spC σ 0) v (dmpW (σ 8 0 12) (σ 908 0)) (σ 906 0) z i b
      · exact decide_eq_false (fun q => q (h.mpr hp))
      · refine decide_eq_true (fun q => ?_)
        rw [h.mp q] at hp
        cases hp)
    rw [e]
    cases h : asd (spC σ 0) v (dmpW (σ 8 0 12) (σ 908 0)) (σ 906 0) z b with
    | none => rw [h] at k; exact k
    | some d => rw [h] at k; exact fun _ => k
  · have k := k _ (mem_sub (B := qrB) rfl s0) hB0.2.2.2.1
    rw [if_neg h] at k
    rw [if_pos rfl]
    exact k
theorem t_X12_first {v : V4} {Q : Int → St → Prop} (hB : Bas n m dk v z σ)
    (k : ∀ r σ', isFst (asd (spC σ 0) v (dmpW (σ 8 0 12) (σ 908 0)) (σ 906 0) z) m r → Sm qrB σ σ' → StA n m (σ' 1346 0) z → Q r σ') : P_X12_first σ Q := by
  have m6 := hB.1.spw.2.2.2.2.1
  obtain ⟨hB0, s0⟩ := Bas_look hB
  unfold P_X12_first
  refine t_X12_strayOf hB0 (fun σ1 s1 c1 => ?_)
  rw [show spC (up σ 12 0 0 0) 0 = spC σ 0 from spC_keep s0 rfl, s0.row (t := 8) (i := 0) rfl, s0.row (t := 908) (i := 0) rfl, s0.row (t := 906) (i := 0) rfl]
  have k := fun r h => k r σ1 h ((mem_sub (B := qrB) rfl s0).tr s1) c1
  unfold foW
  simp only [bts_63 m6.2]
  unfold asd at k
  have hsa : ∀ (b d : Int), decide (fld (spC σ 0) v (dmpW (σ 8 0 12) (σ 908 0)) z b d ≠ σ 906 0 b) = saP (spC σ 0) v (dmpW (σ 8 0 12) (σ 908 0)) (σ 906 0) z d b := fun _ _ => rfl
  simp only [hsa] at k
  generalize saP (spC σ 0) v (dmpW (σ 8 0 12) (σ 908 0)) (σ 906 0) z = S at k ⊢
  cases h : fnd (fun i => decide (bts (S i) m.toNat ≠ 0)) 61 0 with
  | none =>
    rw [if_neg (by decide)]
    refine k (-1) (Or.inl ⟨rfl, fun b b0 b1 => ?_⟩)
    cases h2 : fnd (fun d => S d b) 61 0 with
    | none => exact h2
    | some d =>
      obtain ⟨q1, q2, q3, -⟩ := fnd_some h2
      have h3 := Classical.not_not.mp (of_decide_eq_false (fnd_none h d q1 q2))
      rw [(bts_zero m6.2).mp h3 b b0 b1] at q3
      cases q3
  | some d =>
    obtain ⟨d0, d1, d2, d3⟩ := fnd_some h
    have d2 := of_decide_eq_true d2
    have lo : ∀ b d' : Int, 0 ≤ b → b < m → fnd (fun d => S d b) 61 0 = some d' → d ≤ d' := by
      intro b d' b0 b1 hd'
      obtain ⟨q1, q2, q3, -⟩ := fnd_some hd'
      refine Classical.byContradiction (fun hlt => ?_)
      have h3 := Classical.not_not.mp (of_decide_eq_false (d3 d' q1 (by omega)))
      rw [(bts_zero m6.2).mp h3 b b0 b1] at q3
      cases q3
    intro e56
    rw [if_pos d0]
    cases h2 : fnd (fun b => S d b) m.toNat 0 with
    | none => exact absurd ((bts_zero m6.2).mpr (fun b b0 b1 => fnd_none h2 b b0 (by omega))) d2
    | some r =>
      obtain ⟨r0, r1, r2, r3⟩ := fnd_some h2
      have k := k r (Or.inr ⟨⟨r0, by omega⟩, d, fnd_is d0 d1 r2 (fun q q0 q1 => by
        have h3 := Classical.not_not.mp (of_decide_eq_false (d3 q q0 q1))
        exact (bts_zero m6.2).mp h3 r r0 (by omega)), lo, fun b d' b0 b1 hd' => by
          have h4 := lo b d' b0 (by omega) hd'
          obtain ⟨q1, q2, q3, -⟩ := fnd_some hd'
          by_cases e : d' = d
          · rw [e, r3 b b0 b1] at q3; cases q3
          · omega⟩)
      refine findF (F := fun n' i => P_X12_first_L18 Q n' i σ1) (N := m) (K0 := False) (K := fun i => Q i σ1) (p := fun b => S d b) (fun n' i i0 i1 => ?_) (fun n' k => k.elim) m.toNat 0 FU (Int.le_refl 0) (by omega) (FU_pos (by omega)) (by rw [h2]; exact k)
      refine ⟨fun hp k => ?_, fun hp k => ?_⟩
      · unfold P_X12_first_L18
        rw [e56, bts_bit m6.2 i0 i1, hp, if_neg (by decide)]
        exact k
      · unfold P_X12_first_L18
        rw [e56, bts_bit m6.2 i0 i1, hp, if_pos (by decide), wi_id (by omega) (by omega)]
        exact k
def sfQ (S : Int → Int → Bool) (i b : Int) : Bool := (fnd (fun d => S d b) (i + 1).toNat 0).isNone
theorem sfQ_step {S : Int → Int → Bool} {i b : Int} (i0 : 0 ≤ i) : sfQ S (i + 1) b = (sfQ S i b && !S (i + 1) b) := by
  unfold sfQ
  rw [Bool.eq_iff_iff, Bool.and_eq_true, fnd_iff, fnd_iff, Bool.not_eq_true']
  refine ⟨fun h => ⟨fun k k0 k1 => h k k0 (by omega), h (i + 1) (by omega) (by omega)⟩, fun ⟨h1, h2⟩ k k0 k1 => ?_⟩
  by_cases e : k = i + 1
  · rw [e]; exact h2
  · exact h1 k k0 (by omega)
theorem sfQ_fin {s : Sp} {v : V4} {dm hm : Int → Int} {z : Ab} {d b : Int} (d0 : 0 ≤ d) (d1 : d ≤ 60) : sfQ (saP s v dm hm z) d b = safP (asd s v dm hm z) d b := by
  rw [Bool.eq_iff_iff]
  unfold sfQ safP
  rw [fnd_iff]
  have hsa : ∀ d : Int, decide (fld s v dm z b d ≠ hm b) = saP s v dm hm z d b := fun _ => rfl
  cases h : asd s v dm hm z b with
  | none =>
    refine ⟨fun _ => rfl, fun _ k k0 k1 => ?_⟩
    exact fnd_none h k k0 (by omega)
  | some e =>
    obtain ⟨q1, q2, q3, q4⟩ := fnd_some h
    refine ⟨fun h1 => decide_eq_true (Classical.byContradiction (fun hlt => ?_)), fun h1 k k0 k1 => ?_⟩
    · have := h1 e q1 (by omega)
      rw [← hsa, q3] at this
      cases this
    · have h1 : d < e := of_decide_eq_true h1
      exact q4 k k0 (by omega)
theorem t_X12_safe {v : V4} {d : Int} {Q : Int → St → Prop} (hB : Bas n m dk v z σ)
    (k : ∀ σ', Sm qrB σ σ' → StA n m (σ' 1346 0) z → Q (safW (asd (spC σ 0) v (dmpW (σ 8 0 12) (σ 908 0)) (σ 906 0) z) m d) σ') : P_X12_safe d σ Q := by
  have m6 := hB.1.spw.2.2.2.2.1
  obtain ⟨hB0, s0⟩ := Bas_look hB
  unfold P_X12_safe
  unfold safW at k
  refine t_X12_within (fun d0 d1 => ?_) (fun h => ?_)
  · rw [if_neg one_no]
    refine t_Bas_aside hB0 (fun σ1 s1 hB1 c1 => ?_)
    have s01 : Sm qrB σ σ1 := (mem_sub (B := qrB) rfl s0).tr (mem_sub (B := qrB) rfl s1)
    have es : spC σ1 0 = spC σ 0 := spC_keep s01 rfl
    have e8 : σ1 8 0 = σ 8 0 := s01.row rfl
    have e908 : σ1 908 0 = σ 908 0 := s01.row rfl
    have e906 : σ1 906 0 = σ 906 0 := s01.row rfl
    refine t_Dy_strays (i := 0) hB1 (Dy_0 hB1) ?_
    rw [es, e8, e908, e906, hB1.2.1.2.1, hB1.1.2.2.1, bts_mask m6.1 m6.2, bts_andn m6.2]
    generalize hS : saP (spC σ 0) v (dmpW (σ 8 0 12) (σ 908 0)) (σ 906 0) z = S
    refine loopI (X := Int × St) (F := fun n' i a => P_X12_safe_L50 d (fun x2_10 σ_11 => P_X12_copies 1348 0 0 1346 0 0 σ_11 (fun σ_12 => Q x2_10 σ_12)) Q n' a.1 i a.2) (N := d) (fun i a => Dy n m dk v z σ1 i a.2 ∧ a.1 = bts (sfQ S i) m.toNat) ?_ ?_ d.toNat 0 (_, σ1) FU (Int.le_refl 0) (by omega) (FU_pos (by omega)) ⟨Dy_0 hB1, bts_congr' (fun b b0 b1 => ?_)⟩
    · rintro n' i ⟨x, τ⟩ i0 i1 ⟨hD, hx⟩ k'
      dsimp only at hD hx k' ⊢
      unfold P_X12_safe_L50
      rw [if_neg (by omega), wi_id (z := i + 1) (by omega) (by omega)]
      refine t_Dy hB1 hD i0 (by omega) (fun σ2 h2 _ => ?_)
      refine t_Dy_strays hB1 h2 ?_
      rw [es, e8, e908, e906, hS, hx, bts_andn m6.2]
      exact k' (_, σ2) ⟨h2, bts_congr' (fun b b0 b1 => (sfQ_step i0).symm)⟩
    · rintro n' ⟨x, τ⟩ ⟨hD, hx⟩
      dsimp only at hD hx ⊢
      unfold P_X12_safe_L50
      rw [if_pos (Int.le_refl d), hx]
      refine t_Dy_back (v := v) hB1 c1 (mem_sub (A := deB) (B := qrB) rfl hD.1) (hD.1.row rfl) (fun σ2 s2 _ c2 => ?_)
      have k := k σ2 (s01.tr s2) c2
      rw [if_pos ⟨d0, d1⟩] at k
      rw [← hS, bts_congr' (q := safP (asd (spC σ 0) v (dmpW (σ 8 0 12) (σ 908 0)) (σ 906 0) z) d) (fun b _ _ => sfQ_fin d0 d1)]
      exact k
    · rw [Bool.true_and, Bool.eq_iff_iff, Bool.not_eq_true']
      unfold sfQ
      rw [fnd_iff]
      refine ⟨fun h q q0 q1 => ?_, fun h => h 0 (Int.le_refl 0) (by decide)⟩
      rw [show q = 0 by omega]
      exact h
  · have k := k _ (mem_sub (B := qrB) rfl s0) hB0.2.2.2.1
    rw [if_neg h] at k
    rw [if_pos rfl]
    exact k
theorem t_X12_wide {v : V4} {d : Int} {Q : Int → St → Prop} (hB : Bas n m dk v z σ)
    (k : ∀ σ', Sm qrB σ σ' → StA n m (σ' 1346 0) z → Q (widW (fun b => fsz (spC σ 0) v (dmpW (σ 8 0 12) (σ 908 0)) z b d.toNat) m d) σ') : P_X12_wide d σ Q := by
  have m6 := hB.1.spw.2.2.2.2.1
  obtain ⟨hB0, s0⟩ := Bas_look hB
  have hW := hB.2.2.1
  unfold P_X12_wide
  have hf1 : ∀ b : Int, 0 ≤ b → b < m → 1 ≤ fsz (spC σ 0) v (dmpW (σ 8 0 12) (σ 908 0)) z b d.toNat := fun b b0 b1 => (fsz_rng hW b0 b1 _).1
  unfold widW at k
  refine t_X12_within (fun d0 d1 => ?_) (fun h => ?_)
  · rw [if_neg one_no]
    refine t_Bas_aside hB0 (fun σ1 s1 hB1 c1 => ?_)
    have s01 : Sm qrB σ σ1 := (mem_sub (B := qrB) rfl s0).tr (mem_sub (B := qrB) rfl s1)
    have es : spC σ1 0 = spC σ 0 := spC_keep s01 rfl
    have e8 : σ1 8 0 = σ 8 0 := s01.row rfl
    have e908 : σ1 908 0 = σ 908 0 := s01.row rfl
    generalize hf : (fun b => fsz (spC σ 0) v (dmpW (σ 8 0 12) (σ 908 0)) z b d.toNat) = f at k
    have ef : ∀ b : Int, fsz (spC σ 0) v (dmpW (σ 8 0 12) (σ 908 0)) z b d.toNat = f b := fun b => congrFun hf b
    refine loopI (X := St) (F := fun n' i τ => P_X12_wide_L32 d (fun σ_6 => P_X12_wide_L52 (fun x2_7 σ_8 => P_X12_copies 1348 0 0 1346 0 0 σ_8 (fun σ_9 => Q x2_7 σ_9)) Q FU (-1) 0 σ_6) Q n' i τ) (N := d) (fun i τ => Dy n m dk v z σ1 i τ) ?_ ?_ d.toNat 0 σ1 FU (Int.le_refl 0) (by omega) (FU_pos (by omega)) (Dy_0 hB1)
    · rintro n' i τ i0 i1 hD k'
      unfold P_X12_wide_L32
      rw [if_neg (by omega), wi_id (z := i + 1) (by omega) (by omega)]
      exact t_Dy hB1 hD i0 (by omega) (fun σ2 h2 _ => k' σ2 h2)
    · rintro n' τ hD
      unfold P_X12_wide_L32
      rw [if_pos (Int.le_refl d)]
      obtain ⟨x, e, es1, -⟩ := Dy_cxt hB1 hD
      have hsz : ∀ b : Int, 0 ≤ b → b < m → τ 1346 0 (16 + b) = f b := fun b b0 b1 => by
        rw [(hD.2.2.2.2.2.2.2 b b0 b1).1, dyN_size, es, e8, e908, ef]
      have hf1 : ∀ b : Int, 0 ≤ b → b < m → 1 ≤ f b := fun b b0 b1 => by rw [← ef]; exact hf1 b b0 b1
      refine loopI (X := Int) (F := fun n' i y => P_X12_wide_L52 (fun x2_7 σ_8 => P_X12_copies 1348 0 0 1346 0 0 σ_8 (fun σ_9 => Q x2_7 σ_9)) Q n' y i τ) (N := m) (fun i y => (itr (wdF f) (i - 0).toNat 0 (0, -1)).2 = y ∧ ((y = -1 ∧ i = 0) ∨ ((0 ≤ y ∧ y < i) ∧ (itr (wdF f) (i - 0).toNat 0 (0, -1)).1 = f y))) ?_ ?_ m.toNat 0 (-1) FU (Int.le_refl 0) (by omega) (FU_pos (by omega)) ⟨rfl, Or.inl ⟨rfl, rfl⟩⟩
      · rintro n' i y i0 i1 ⟨hy, hJ⟩ k'
        rw [itr_i i0] at k'
        unfold P_X12_wide_L52 P_X12_wide_J87
        rw [e.2.1, x.2.2.1, if_neg (by omega), wi_id (z := 16 + i) (by omega) (by omega), wi_id (z := i + 1) (by omega) (by omega), hsz i i0 i1]
        have h1 := hf1 i i0 i1
        rcases hJ with ⟨rfl, rfl⟩ | ⟨⟨y0, y1⟩, hm⟩
        · rw [if_pos (by decide)]
          have e0 : wdF f 0 (itr (wdF f) ((0 : Int) - 0).toNat 0 (0, -1)) = (f 0, 0) := by
            show wdF f 0 (0, -1) = _
            unfold wdF
            rw [if_neg (by show ¬ f 0 ≤ 0; omega)]
          rw [e0] at k'
          exact k' 0 ⟨rfl, Or.inr ⟨by omega, rfl⟩⟩
        · rw [if_neg (by omega), wi_id (z := 16 + y) (by omega) (by omega), hsz y y0 (by omega)]
          refine ⟨by omega, by omega, by omega, by omega, ?_⟩
          generalize itr (wdF f) (i - 0).toNat 0 (0, -1) = a at hy hm k'
          unfold wdF at k'
          by_cases hle : f i ≤ f y
          · rw [if_pos hle]
            rw [if_pos (by rw [hm]; exact hle)] at k'
            exact k' y ⟨hy, Or.inr ⟨by omega, hm⟩⟩
          · rw [if_neg hle]
            rw [if_neg (by rw [hm]; exact hle)] at k'
            exact k' i ⟨rfl, Or.inr ⟨by omega, rfl⟩⟩
      · rintro n' y ⟨hy, -⟩
        unfold P_X12_wide_L52
        rw [e.2.1, x.2.2.1, if_pos (Int.le_refl m)]
        refine t_Dy_back (v := v) hB1 c1 (mem_sub (A := deB) (B := qrB) rfl hD.1) (hD.1.row rfl) (fun σ2 s2 _ c2 => ?_)
        have k := k σ2 (s01.tr s2) c2
        rw [if_pos ⟨d0, d1⟩, show m.toNat = (m - 0).toNat by omega, hy] at k
        exact k
  · have k := k _ (mem_sub (B := qrB) rfl s0) hB0.2.2.2.1
    rw [if_neg h] at k
    rw [if_pos rfl]
    exact k
theorem t_X12_over {v : V4} {b w : Int} {Q : Int → St → Prop} (hB : Bas n m dk v z σ)
    (k : ∀ σ', Sm qrB σ σ' → StA n m (σ' 1346 0) z → Q (ovrW (spC σ 0) m v (dmpW (σ 8 0 12) (σ 908 0)) z b w) σ') : P_X12_over b w σ Q := by
  have m6 := hB.1.spw.2.2.2.2.1
  obtain ⟨hB0, s0⟩ := Bas_look hB
  unfold P_X12_over
  unfold ovrW ovd at k
  refine t_X12_isBall (m := m) (by rw [hB0.2.1.2.1]; exact hB0.1.2.2.1) (fun b0 b1 => ?_) (fun h => ?_)
  · rw [if_neg one_no]
    refine t_X12_within (fun d0 d1 => ?_) (fun h => ?_)
    · rw [if_neg one_no]
      refine t_Bas_aside hB0 (fun σ1 s1 hB1 c1 => ?_)
      have s01 : Sm qrB σ σ1 := (mem_sub (B := qrB) rfl s0).tr (mem_sub (B := qrB) rfl s1)
      have es : spC σ1 0 = spC σ 0 := spC_keep s01 rfl
      have e8 : σ1 8 0 = σ 8 0 := s01.row rfl
      have e908 : σ1 908 0 = σ 908 0 := s01.row rfl
      have k := fun σ' s' c' => k σ' s' c'
      simp only [if_pos (show (0 ≤ b ∧ b < m) ∧ 1 ≤ w ∧ w ≤ 60 from ⟨⟨b0, b1⟩, d0, d1⟩)] at k
      have back : ∀ (d : Int) (τ : St), Dy n m dk v z σ1 d τ → (∀ σ', Sm qrB σ σ' → StA n m (σ' 1346 0) z → (if d ≤ 60 then Q d σ' else Q (-1) σ')) → P_X12_over_J70 d Q τ := by
        intro d τ hD kk
        unfold P_X12_over_J70
        exact t_Dy_back (v := v) hB1 c1 (mem_sub (A := deB) (B := qrB) rfl hD.1) (hD.1.row rfl) (fun σ2 s2 s3 c2 => kk σ2 (s01.tr s2) c2)
      have hsz : ∀ (i : Int) (τ : St), Dy n m dk v z σ1 i τ → τ 1346 0 (16 + b) = fsz (spC σ 0) v (dmpW (σ 8 0 12) (σ 908 0)) z b i.toNat := fun i τ hD => by
        rw [(hD.2.2.2.2.2.2.2 b b0 b1).1, dyN_size, es, e8, e908]
      refine findI (X := St) (F := fun n' i τ => P_X12_over_L40 b w (fun x3_8 σ_9 => P_X12_over_J70 x3_8 Q σ_9) Q n' i τ) (N := 61) (p := fun d => decide (w ≤ fsz (spC σ 0) v (dmpW (σ 8 0 12) (σ 908 0)) z b d.toNat)) (K0 := fun τ => P_X12_over_J70 61 Q τ) (K := fun d τ => P_X12_over_J70 d Q τ)
        (fun i τ => Dy n m dk v z σ1 i τ) (fun n' i τ i0 i1 hJ => ⟨fun hp k => ?_, fun hp k' => ?_⟩) (fun n' τ hJ k => ?_) 61 0 _ FU (Int.le_refl 0) (by omega) (FU_pos (by omega)) (Dy_0 hB1) ?_
      · have hp := of_decide_eq_true hp
        unfold P_X12_over_L40
        rw [if_neg (by omega), wi_id (z := 16 + b) (by omega) (by omega), hsz i τ hJ, if_pos hp]
        exact ⟨by omega, by omega, k⟩
      · have hp := of_decide_eq_false hp
        unfold P_X12_over_L40
        rw [if_neg (by omega), wi_id (z := 16 + b) (by omega) (by omega), hsz i τ hJ, if_neg hp, wi_id (z := i + 1) (by omega) (by omega)]
        exact ⟨by omega, by omega, t_Dy hB1 hJ i0 (by omega) (fun σ2 h2 _ => k' σ2 h2)⟩
      · unfold P_X12_over_L40
        rw [if_pos (by omega)]
        exact k
      · cases h : fnd (fun d => decide (w ≤ fsz (spC σ 0) v (dmpW (σ 8 0 12) (σ 908 0)) z b d.toNat)) 61 0 with
        | none =>
          rw [h] at k
          intro τ hJ
          refine back 61 τ hJ (fun σ' s' c' => ?_)
          rw [if_neg (by omega)]
          exact k σ' s' c'
        | some d =>
          rw [h] at k
          have := fnd_some h
          intro τ hJ
          refine back d τ hJ (fun σ' s' c' => ?_)
          rw [if_pos (by omega)]
          exact k σ' s' c'
    · have k := k _ (mem_sub (B := qrB) rfl s0) hB0.2.2.2.1
      rw [if_neg (fun q => h q.2)] at k
      rw [if_pos rfl]
      exact k
  · have k := k _ (mem_sub (B := qrB) rfl s0) hB0.2.2.2.1
    rw [if_neg (fun q => h q.1)] at k
    rw [if_pos rfl]
    exact k
end
