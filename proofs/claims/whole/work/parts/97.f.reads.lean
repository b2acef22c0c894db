/-! 97.f: the reference reads clauses of a shop -/
def loT : List Nat := [1310, 1311, 1312, 1313, 1314, 1315, 1316, 1317, 1318, 1319, 1320, 1321]
def lob (t : Nat) : Int := if t = 1310 then 4 else if t = 1318 then 12 else if t = 1319 then 1 else if t = 1320 then 1 else if t = 1321 then 1000 else 6
def rrA : List Reg := [(12, 0, some 4), (12, 0, some 5), (12, 0, some 6), (12, 0, some 7), (12, 0, some 8), (12, 0, some 9), (12, 0, some 22), (12, 0, some 23), (12, 0, some 36), (12, 0, some 37), (1310, 0, none), (1311, 0, none), (1312, 0, none), (1313, 0, none), (1314, 0, none), (1315, 0, none), (1316, 0, none), (1317, 0, none), (1318, 0, none), (1319, 0, none), (1320, 0, none), (1321, 0, none), (1324, 0, none), (1325, 0, none)]
/-- what stands in force is kept -/
def LoR (σ τ : St) : Prop := ∀ t : Nat, t ∈ loT → ∀ x : Int, x < lob t → τ t 0 x = σ t 0 x
def FR (σ τ : St) : Prop := Sm rrA σ τ ∧ LoR σ τ
theorem FR.tr {σ τ υ : St} (h : FR σ τ) (h' : FR τ υ) : FR σ υ := ⟨h.1.tr h'.1, fun t ht x hx => (h'.2 t ht x hx).trans (h.2 t ht x hx)⟩
theorem FR.rf {σ : St} : FR σ σ := ⟨Sm.rf, fun _ _ _ _ => rfl⟩
theorem FR_of {A : List Reg} {σ τ : St} (s : Sm A σ τ) (s' : Sm rrA σ τ) (hn : noT A loT 0 = true) : FR σ τ := ⟨s', fun t ht x _ => by rw [noT_row s hn ht]⟩
theorem FR_up {σ : St} {t : Nat} {x v : Int} (hx : lob t ≤ x) (hr : inR rrA t 0 x = true) : FR σ (up σ t 0 x v) := ⟨Sm_up Sm.rf hr, fun t' _ x' hx' => by
  unfold up
  rw [if_neg]
  rintro ⟨rfl, -, rfl⟩
  omega⟩
theorem FR_law {σ τ : St} (s : Sm reA σ τ) (l : lo1 σ τ) : FR σ τ := ⟨mem_sub rfl s, fun t ht x hx => by
  by_cases e : t = 1321
  · subst e
    exact l x hx
  · unfold loT at ht
    have hb : ∀ t : Nat, t ∈ [1310, 1311, 1312, 1313, 1314, 1315, 1316, 1317, 1318, 1319, 1320, 1321] → t ≠ 1321 → reA.all (fun a => !(Nat.beq a.1 t && Nat.beq a.2.1 0)) = true := by decide
    rw [s.row (t := t) (i := 0) (hb t ht e)]⟩
def DrA (σ : St) (d : Dr) : Prop :=
  (σ 1310 0 4 = d.1 0 0 ∧ σ 1310 0 5 = d.1 0 1 ∧ σ 1310 0 7 = d.1 0 2 ∧ σ 1310 0 6 = d.1 0 3 ∧ σ 12 0 23 = d.1 0 4) ∧
  NmA σ 1311 1 (d.1 1) (d.1 0 0) ∧ (∀ i : Int, 0 ≤ i → i < d.1 0 0 → σ 1313 0 (6 + i) = d.1 2 i ∧ σ 1314 0 (6 + i) = d.1 3 i) ∧
  NmA σ 1312 1 (d.1 4) (d.1 0 1) ∧ (∀ b : Int, 0 ≤ b → b < d.1 0 1 → σ 1315 0 (6 + b) = d.1 5 b ∧ σ 1316 0 (6 + b) = d.1 6 b ∧ σ 1317 0 (6 + b) = d.1 7 b) ∧
  (∀ i : Int, 0 ≤ i → i < d.1 0 2 → σ 1318 0 (12 + i) = d.1 8 i) ∧ σ 1319 0 1 = 1000 ∧ σ 1320 0 1 = 1000 + d.2.2.2.2.1.length ∧ CdA σ d.2.2.2.2.1
theorem DrA_keep {A : List Reg} {σ τ : St} {d : Dr} (h : Sm A σ τ) (hn : noT A loT 0 = true) (h2 : inR A 12 0 22 = false) (h3 : inR A 12 0 23 = false) (c : DrA σ d) : DrA τ d := by
  obtain ⟨c1, c2, c3, c4, c5, c6, c7, c8, c9⟩ := c
  have hn1 : noT A [1321] 0 = true := by
    unfold noT at hn ⊢
    rw [List.all_eq_true] at hn ⊢
    intro t ht
    refine hn t ?_
    rw [List.mem_singleton.mp ht]
    decide
  have hC := CdA_keep h hn1 h2 c9
  unfold DrA
  unfold NmA at c2 c4 ⊢
  rw [h 12 0 23 h3, noT_row h hn (t := 1310) (by decide), noT_row h hn (t := 1311) (by decide), noT_row h hn (t := 1312) (by decide), noT_row h hn (t := 1313) (by decide), noT_row h hn (t := 1314) (by decide), noT_row h hn (t := 1315) (by decide), noT_row h hn (t := 1316) (by decide), noT_row h hn (t := 1317) (by decide), noT_row h hn (t := 1318) (by decide), noT_row h hn (t := 1319) (by decide), noT_row h hn (t := 1320) (by decide)]
  exact ⟨c1, c2, c3, c4, c5, c6, c7, c8, hC⟩
section
variable {σ : St} {y : Tp} {k : Int} {d : Dr}
def bbA : List Reg := (12, 0, some 9) :: nnA
theorem a_needsBoth {c a b : Int} {Q : Int → St → Prop} (hW : WfT y) (h : RA y k σ)
    (k0 : numG y (st 0 (isW y k c) (fl y 1 k)) (k + 1) a b ≠ 0 → ∀ σ', Sm bbA σ σ' → σ' 12 0 9 = numG y (st 0 (isW y k c) (fl y 1 k)) (k + 1) a b → Q 0 σ')
    (k1 : isW y k c = true → numG y 0 (k + 1) a b = 0 → ∀ σ', Sm bbA σ σ' → RA y (k + 1 + 1) σ' → σ' 12 0 36 = tN y (k + 1) → Q 1 σ') : P_X12_needsBoth c a b σ Q := by
  have F : ∀ j : Int, fl y 1 j ≠ 0 := fun j => fl_ne hW (by decide) (by decide)
  unfold P_X12_needsBoth P_X12_needsBoth_J22
  refine a_needsWord hW h (fun hf σ' s' e => ?_) (fun hw σ1 s1 h1 => ?_)
  · rw [if_pos rfl]
    rw [st_e hf, numG_ne (F k)] at k0
    exact k0 (F k) σ' (mem_sub rfl s') e
  · rw [if_neg one_no]
    rw [st_t hw] at k0
    refine a_needsNumber hW h1 (fun hf σ' s' e => ?_) (fun hn σ' s' h' e => ?_)
    · rw [if_pos rfl]
      exact k0 hf σ' ((mem_sub (B := bbA) rfl s1).tr (mem_sub (B := bbA) rfl s')) e
    · rw [if_neg one_no]
      exact k1 hw hn σ' ((mem_sub (B := bbA) rfl s1).tr (mem_sub (B := bbA) rfl s')) h' e
theorem a_L81 {n x : Int} {pl : Int → Int} {K0 K1 : St → Prop} {Q : Int → St → Prop} (n0 : 0 ≤ n) (n6 : n ≤ 6) (hx : σ 12 0 8 = x) (hp : ∀ i : Int, 0 ≤ i → i < n → σ 1313 0 (6 + i) = pl i)
    (k0 : plT pl n x = false → K0 σ) (k1 : plT pl n x = true → K1 σ) : P_X12_readsCounter_L81 (6 + n) K0 K1 Q FU 6 σ := by
  have e : plT (fun i => σ 1313 0 (6 + i)) n x = plT pl n x := plT_con hp
  rw [← e] at k0 k1
  unfold plT at k0 k1
  refine findF (F := fun n' i => P_X12_readsCounter_L81 (6 + n) K0 K1 Q n' (6 + i) σ) (N := n) (K0 := K0 σ) (K := fun _ => K1 σ) (p := fun i => decide (σ 1313 0 (6 + i) = x)) (fun n' i i0 i1 => ⟨fun hp k => ?_, fun hp k => ?_⟩) (fun n' k => ?_) n.toNat 0 FU (Int.le_refl 0) (by omega) (FU_pos (by omega)) ?_ |> fun h => by rwa [Int.add_zero] at h
  · unfold P_X12_readsCounter_L81
    rw [if_neg (by omega), hx, if_pos (of_decide_eq_true hp)]
    exact ⟨by omega, by omega, k⟩
  · unfold P_X12_readsCounter_L81
    rw [if_neg (by omega), hx, if_neg (of_decide_eq_false hp), wi_id (z := 6 + i + 1) (by omega) (by omega), show 6 + i + 1 = 6 + (i + 1) by omega]
    exact ⟨by omega, by omega, k⟩
  · unfold P_X12_readsCounter_L81
    rw [if_pos (Int.le_refl _)]
    exact k
  · cases h : fnd (fun i => decide (σ 1313 0 (6 + i) = x)) n.toNat 0 with
    | none => exact k0 (by rw [h]; rfl)
    | some j => exact k1 (by rw [h]; rfl)
theorem a_counter {Q : Int → St → Prop} (hW : WfT y) (hV : WfD y d) (h : RA y k σ) (hD : DrA σ d) (hz : tK y k ≠ 0)
    (k0 : st (coG y d 0 k) (isS y (k + 1 + 1 + 1 + 1 + 1 + 1) 59) (fl y 1 (k + 1 + 1 + 1 + 1 + 1 + 1)) ≠ 0 → ∀ σ', FR σ σ' → σ' 12 0 9 = st (coG y d 0 k) (isS y (k + 1 + 1 + 1 + 1 + 1 + 1) 59) (fl y 1 (k + 1 + 1 + 1 + 1 + 1 + 1)) → Q 0 σ')
    (k1 : st (coG y d 0 k) (isS y (k + 1 + 1 + 1 + 1 + 1 + 1) 59) (fl y 1 (k + 1 + 1 + 1 + 1 + 1 + 1)) = 0 → ∀ σ', FR σ σ' → RA y (k + 1 + 1 + 1 + 1 + 1 + 1 + 1) σ' → DrA σ' (adC d (tW y (k + 1)) (tN y (k + 1 + 1 + 1)) (tN y (k + 1 + 1 + 1 + 1 + 1))) → Q 1 σ') : P_X12_readsCounter σ Q := by
  have F : ∀ {c j : Int}, 1 ≤ c → c ≤ 5 → fl y c j ≠ 0 := fun c0 c1 => fl_ne hW c0 c1
  have F1 : ∀ j : Int, fl y 1 j ≠ 0 := fun j => F (by decide) (by decide)
  have F3 : ∀ j : Int, fl y 3 j ≠ 0 := fun j => F (by decide) (by decide)
  have F4 : ∀ j : Int, fl y 4 j ≠ 0 := fun j => F (by decide) (by decide)
  have F5 : ∀ j : Int, fl y 5 j ≠ 0 := fun j => F (by decide) (by decide)
  obtain ⟨⟨n0, n6⟩, ⟨m0, m6⟩, -⟩ := id hV
  unfold coG at k0 k1
  unfold P_X12_readsCounter
  rw [hD.1.1, wi_id (z := 6 + d.1 0 0) (by omega) (by omega)]
  by_cases h6 : d.1 0 0 < 6
  · rw [if_neg (by omega)]
    rw [st_t (decide_eq_true h6)] at k0 k1
    refine a_next hW h hz (fun σ1 s1 h1 => ?_)
    have f1 : FR σ σ1 := FR_of s1 (mem_sub rfl s1) rfl
    have d1 := DrA_keep s1 rfl rfl rfl hD
    refine a_needsNew hW h1 d1.1.1 d1.1.2.1 n0 n6 m0 m6 d1.2.1 d1.2.2.2.1 (fun hf σ' s' e => ?_) (fun hn σ2 s2 h2 e37 => ?_)
    · rw [if_pos rfl]
      simp only [st_ne hf, numG_ne hf] at k0
      exact k0 hf σ' (f1.tr (FR_of s' (mem_sub rfl s') rfl)) e
    rw [if_neg one_no]
    rw [hn] at k0 k1
    have f2 : FR σ σ2 := f1.tr (FR_of s2 (mem_sub rfl s2) rfl)
    have d2 := DrA_keep s2 rfl rfl rfl d1
    refine a_needsWord hW h2 (fun hf σ' s' e => ?_) (fun hw σ3 s3 h3 => ?_)
    · rw [if_pos rfl]
      simp only [st_e hf, st_ne (F1 _), numG_ne (F1 _)] at k0
      exact k0 (F1 _) σ' (f2.tr (FR_of s' (mem_sub rfl s') rfl)) e
    rw [if_neg one_no]
    rw [st_t hw] at k0 k1
    have f3 : FR σ σ3 := f2.tr (FR_of s3 (mem_sub rfl s3) rfl)
    have d3 := DrA_keep s3 rfl rfl rfl d2
    have e37' : σ3 12 0 37 = tW y (k + 1) := by rw [s3 12 0 37 rfl, e37]
    by_cases hN : isN y (k + 1 + 1 + 1) = true
    · rw [if_pos ((a_num h3).mpr hN)]
      have e8 : σ3 12 0 8 = tN y (k + 1 + 1 + 1) := h3.2.2.2.2.2.1 (of_decide_eq_true hN)
      rw [numG_t hN] at k0 k1
      rw [e8]
      refine t_X12_within (fun p q => ?_) (fun hno => ?_)
      · rw [if_neg one_no]
        rw [st_t (b := inB (tN y (k + 1 + 1 + 1)) 1 20) (decide_eq_true ⟨p, q⟩)] at k0 k1
        refine a_L81 n0 n6 e8 (fun i i0 i1 => (d3.2.2.1 i i0 i1).1) (fun hp => ?_) (fun hp => ?_)
        · have hp' : (!plT (d.1 2) (d.1 0 0) (tN y (k + 1 + 1 + 1))) = true := by rw [hp]; rfl
          rw [st_t hp'] at k0 k1
          rw [e8]
          refine ⟨by omega, by omega, ?_⟩
          have su : Sm [(1313, 0, none)] σ3 (up σ3 1313 0 (6 + d.1 0 0) (tN y (k + 1 + 1 + 1))) := Sm_up Sm.rf rfl
          have fu : FR σ3 (up σ3 1313 0 (6 + d.1 0 0) (tN y (k + 1 + 1 + 1))) := FR_up (show (6 : Int) ≤ _ by omega) rfl
          have ru : (up σ3 1313 0 (6 + d.1 0 0) (tN y (k + 1 + 1 + 1))) 1313 0 = upr (σ3 1313 0) (6 + d.1 0 0) (tN y (k + 1 + 1 + 1)) := up_row
          have hu := RA_keep su rfl rfl rfl rfl rfl rfl rfl h3
          generalize (up σ3 1313 0 (6 + d.1 0 0) (tN y (k + 1 + 1 + 1))) = υ3 at su fu ru hu
          refine a_next hW hu (isN_nz hN) (fun σ4 s4 h4 => ?_)
          have f4 : FR σ σ4 := (f3.tr fu).tr (FR_of s4 (mem_sub rfl s4) rfl)
          refine a_needsBoth hW h4 (fun hf σ' s' e => ?_) (fun hw5 hn5 σ5 s5 h5 e36 => ?_)
          · rw [if_pos rfl]
            simp only [st_ne hf] at k0
            exact k0 hf σ' (f4.tr (FR_of s' (mem_sub rfl s') rfl)) e
          rw [if_neg one_no]
          rw [st_t hw5, hn5] at k0 k1
          have f5 : FR σ σ5 := f4.tr (FR_of s5 (mem_sub rfl s5) rfl)
          have e37 : σ5 12 0 37 = tW y (k + 1) := by rw [s5 12 0 37 rfl, s4 12 0 37 rfl, su 12 0 37 rfl, e37']
          have e10 : σ5 1310 0 4 = d.1 0 0 := by rw [s5.row (t := 1310) (i := 0) rfl, s4.row (t := 1310) (i := 0) rfl, su.row (t := 1310) (i := 0) rfl, d3.1.1]
          have eu : ∀ (τ : St) (t : Nat) (i v : Int), Nat.beq 1310 t = false → (up τ t 0 i v) 1310 0 4 = τ 1310 0 4 := fun _ _ _ _ h => up_nt h
          have eu2 : ∀ (τ : St) (t : Nat) (i v : Int), Nat.beq 12 t = false → (up τ t 0 i v) 12 0 37 = τ 12 0 37 := fun _ _ _ _ h => up_nt h
          simp only [eu _ 1311 _ _ rfl, eu _ 1314 _ _ rfl, eu2 _ 1314 _ _ rfl]
          rw [e10, e36, e37, wi_id (z := d.1 0 0 + 1) (by omega) (by omega)]
          refine ⟨by omega, by omega, by omega, by omega, ?_⟩
          have sF : Sm [(1314, 0, none), (1311, 0, none), (1310, 0, some 4)] σ5 (up (up (up σ5 1314 0 (6 + d.1 0 0) (tN y (k + 1 + 1 + 1 + 1 + 1))) 1311 0 (6 + d.1 0 0) (tW y (k + 1))) 1310 0 4 (d.1 0 0 + 1)) := Sm_up (Sm_up (Sm_up Sm.rf rfl) rfl) rfl
          have fF : FR σ5 (up (up (up σ5 1314 0 (6 + d.1 0 0) (tN y (k + 1 + 1 + 1 + 1 + 1))) 1311 0 (6 + d.1 0 0) (tW y (k + 1))) 1310 0 4 (d.1 0 0 + 1)) := ((FR_up (show (6 : Int) ≤ _ by omega) rfl).tr (FR_up (show (6 : Int) ≤ _ by omega) rfl)).tr (FR_up (show (4 : Int) ≤ 4 by decide) rfl)
          have r1314 : (up (up (up σ5 1314 0 (6 + d.1 0 0) (tN y (k + 1 + 1 + 1 + 1 + 1))) 1311 0 (6 + d.1 0 0) (tW y (k + 1))) 1310 0 4 (d.1 0 0 + 1)) 1314 0 = upr (σ5 1314 0) (6 + d.1 0 0) (tN y (k + 1 + 1 + 1 + 1 + 1)) := by rw [up_oth (Or.inl rfl), up_oth (Or.inl rfl), up_row]
          have r1311 : (up (up (up σ5 1314 0 (6 + d.1 0 0) (tN y (k + 1 + 1 + 1 + 1 + 1))) 1311 0 (6 + d.1 0 0) (tW y (k + 1))) 1310 0 4 (d.1 0 0 + 1)) 1311 0 = upr (σ5 1311 0) (6 + d.1 0 0) (tW y (k + 1)) := by rw [up_oth (Or.inl rfl), up_row, up_oth (Or.inl rfl)]
          have r1310 : (up (up (up σ5 1314 0 (6 + d.1 0 0) (tN y (k + 1 + 1 + 1 + 1 + 1))) 1311 0 (6 + d.1 0 0) (tW y (k + 1))) 1310 0 4 (d.1 0 0 + 1)) 1310 0 = upr (σ5 1310 0) 4 (d.1 0 0 + 1) := by rw [up_row, up_oth (Or.inl rfl), up_oth (Or.inl rfl)]
          generalize (up (up (up σ5 1314 0 (6 + d.1 0 0) (tN y (k + 1 + 1 + 1 + 1 + 1))) 1311 0 (6 + d.1 0 0) (tW y (k + 1))) 1310 0 4 (d.1 0 0 + 1)) = υ5 at sF fF r1314 r1311 r1310
          have g5 : FR σ υ5 := f5.tr fF
          refine a_closes hW (RA_keep sF rfl rfl rfl rfl rfl rfl rfl h5) (fun hf σ' s' e => ⟨Or.inl rfl, ?_⟩) (fun hs σ6 s6 h6 => ⟨Or.inr rfl, ?_⟩)
          · rw [st_e hf] at k0
            exact k0 (F1 _) σ' (g5.tr (FR_of s' (mem_sub rfl s') rfl)) e
          · refine k1 (st_t hs) σ6 (g5.tr (FR_of s6 (mem_sub rfl s6) rfl)) h6 (DrA_keep s6 rfl rfl rfl ?_)
            -- the draft
            have sA : Sm ((1313, 0, none) :: bbA) σ3 σ5 := ((mem_sub rfl su).tr (mem_sub rfl s4)).tr (mem_sub rfl s5)
            have r1313 : σ5 1313 0 = upr (σ3 1313 0) (6 + d.1 0 0) (tN y (k + 1 + 1 + 1)) := by rw [s5.row (t := 1313) (i := 0) rfl, s4.row (t := 1313) (i := 0) rfl, ru]
            obtain ⟨⟨q1, q2, q3, q4, q5⟩, qn, qc, qb, qB, qd, ql, qr, qC⟩ := d3
            obtain ⟨a0, a1, a2, a3, a4, a5, a6, a7, a8, a9⟩ := f_adC (d := d) (w := tW y (k + 1)) (x := tN y (k + 1 + 1 + 1)) (v := tN y (k + 1 + 1 + 1 + 1 + 1))
            have hC : CdA υ5 d.2.2.2.2.1 := CdA_keep sF rfl rfl (CdA_keep sA rfl rfl qC)
            unfold DrA NmA
            unfold NmA at qn qb
            rw [a0, a1, a2, a3, a4, a5, a6, a7, a8, a9, upr_at, upr_ne (by decide), upr_ne (by decide), upr_ne (by decide), upr_ne (by decide), r1310, upr_at, upr_ne (by decide), upr_ne (by decide), upr_ne (by decide), r1311, r1314, sF.row (t := 1313) (i := 0) rfl, r1313, sF.row (t := 1312) (i := 0) rfl, sF.row (t := 1315) (i := 0) rfl, sF.row (t := 1316) (i := 0) rfl, sF.row (t := 1317) (i := 0) rfl, sF.row (t := 1318) (i := 0) rfl, sF.row (t := 1319) (i := 0) rfl, sF.row (t := 1320) (i := 0) rfl, sF 12 0 23 rfl,
              sA.row (t := 1310) (i := 0) rfl, sA.row (t := 1311) (i := 0) rfl, sA.row (t := 1314) (i := 0) rfl, sA.row (t := 1312) (i := 0) rfl, sA.row (t := 1315) (i := 0) rfl, sA.row (t := 1316) (i := 0) rfl, sA.row (t := 1317) (i := 0) rfl, sA.row (t := 1318) (i := 0) rfl, sA.row (t := 1319) (i := 0) rfl, sA.row (t := 1320) (i := 0) rfl, sA 12 0 23 rfl]
            refine ⟨⟨rfl, q2, q3, q4, q5⟩, fun i i0 i1 => ?_, fun i i0 i1 => ?_, qb, qB, qd, ql, qr, hC⟩
            · by_cases e : i = d.1 0 0
              · rw [e, show (6 : Int) * 1 + d.1 0 0 = 6 + d.1 0 0 by omega, upr_at, upr_at]
              · rw [upr_ne (show (6 : Int) * 1 + i ≠ 6 + d.1 0 0 by omega), upr_ne e]
                exact qn i i0 (by omega)
            · by_cases e : i = d.1 0 0
              · rw [e, upr_at, upr_at, upr_at, upr_at]
                exact ⟨rfl, rfl⟩
              · rw [upr_ne (show (6 : Int) + i ≠ 6 + d.1 0 0 by omega), upr_ne (show (6 : Int) + i ≠ 6 + d.1 0 0 by omega), upr_ne e, upr_ne e]
                exact qc i i0 (by omega)
        · have hp' : (!plT (d.1 2) (d.1 0 0) (tN y (k + 1 + 1 + 1))) = false := by rw [hp]; rfl
          simp only [st_e hp', st_ne (F3 _), numG_ne (F3 _)] at k0
          exact a_failsB hW h3 (by decide) (by decide) (fun σ' s' e => k0 (F3 _) σ' (f3.tr (FR_of s' (mem_sub rfl s') rfl)) e)
      · rw [if_pos rfl]
        have hno' : inB (tN y (k + 1 + 1 + 1)) 1 20 = false := decide_eq_false hno
        simp only [st_e hno', st_ne (F4 _), numG_ne (F4 _)] at k0
        exact a_failsB hW h3 (by decide) (by decide) (fun σ' s' e => k0 (F4 _) σ' (f3.tr (FR_of s' (mem_sub rfl s') rfl)) e)
    · rw [if_neg (fun q => hN ((a_num h3).mp q))]
      have hN' : isN y (k + 1 + 1 + 1) = false := by simpa using hN
      have e0 : numG y 0 (k + 1 + 1 + 1) 1 20 = fl y 1 (k + 1 + 1 + 1) := by
        unfold numG
        rw [st_e hN', st_ne (F1 _)]
      rw [e0] at k0
      simp only [st_ne (F1 _), numG_ne (F1 _)] at k0
      exact a_failsB hW h3 (by decide) (by decide) (fun σ' s' e => k0 (F1 _) σ' (f3.tr (FR_of s' (mem_sub rfl s') rfl)) e)
  · rw [if_pos (by omega)]
    have h6' : decide (d.1 0 0 < 6) = false := decide_eq_false h6
    simp only [st_e h6', st_ne (F5 _), numG_ne (F5 _), newG_ne (F5 _)] at k0
    exact a_failsB hW h (by decide) (by decide) (fun σ' s' e => k0 (F5 _) σ' (FR_of s' (mem_sub rfl s') rfl) e)
end
