/-! 97.g: the reference reads balls, desk, damp, wear -/
section
variable {σ : St} {y : Tp} {k : Int} {d : Dr}
theorem a_ball {Q : Int → St → Prop} (hW : WfT y) (hV : WfD y d) (h : RA y k σ) (hD : DrA σ d) (hz : tK y k ≠ 0)
    (k0 : st (baG y d 0 k) (isS y (k + 1 + 1 + 1 + 1 + 1 + 1 + 1) 59) (fl y 1 (k + 1 + 1 + 1 + 1 + 1 + 1 + 1)) ≠ 0 → ∀ σ', FR σ σ' → σ' 12 0 9 = st (baG y d 0 k) (isS y (k + 1 + 1 + 1 + 1 + 1 + 1 + 1) 59) (fl y 1 (k + 1 + 1 + 1 + 1 + 1 + 1 + 1)) → Q 0 σ')
    (k1 : st (baG y d 0 k) (isS y (k + 1 + 1 + 1 + 1 + 1 + 1 + 1) 59) (fl y 1 (k + 1 + 1 + 1 + 1 + 1 + 1 + 1)) = 0 → ∀ σ', FR σ σ' → RA y (k + 1 + 1 + 1 + 1 + 1 + 1 + 1 + 1) σ' → DrA σ' (adB d (tW y (k + 1)) (knW y (k + 1 + 1)) (tN y (k + 1 + 1 + 1 + 1)) (ixN (d.1 1) (d.1 0 0) (tW y (k + 1 + 1 + 1 + 1 + 1 + 1)))) → Q 1 σ') : P_X12_readsBall σ Q := by
  have F : ∀ {c j : Int}, 1 ≤ c → c ≤ 5 → fl y c j ≠ 0 := fun c0 c1 => fl_ne hW c0 c1
  have F1 : ∀ j : Int, fl y 1 j ≠ 0 := fun j => F (by decide) (by decide)
  have F5 : ∀ j : Int, fl y 5 j ≠ 0 := fun j => F (by decide) (by decide)
  obtain ⟨⟨n0, n6⟩, ⟨m0, m6⟩, -⟩ := id hV
  unfold baG at k0 k1
  unfold P_X12_readsBall
  rw [hD.1.2.1, wi_id (z := 6 + d.1 0 1) (by omega) (by omega)]
  by_cases h6 : d.1 0 1 < 6
  · rw [if_neg (by omega)]
    rw [st_t (decide_eq_true h6)] at k0 k1
    refine a_next hW h hz (fun σ1 s1 h1 => ?_)
    have f1 : FR σ σ1 := FR_of s1 (mem_sub rfl s1) rfl
    have d1 := DrA_keep s1 rfl rfl rfl hD
    refine a_needsNew hW h1 d1.1.1 d1.1.2.1 n0 n6 m0 m6 d1.2.1 d1.2.2.2.1 (fun hf σ' s' e => ?_) (fun hn σ2 s2 h2 e37 => ?_)
    · rw [if_pos rfl]
      simp only [st_ne hf, numG_ne hf, kinG_ne hf, tolG_ne hf] at k0
      exact k0 hf σ' (f1.tr (FR_of s' (mem_sub rfl s') rfl)) e
    rw [if_neg one_no]
    rw [hn] at k0 k1
    have f2 : FR σ σ2 := f1.tr (FR_of s2 (mem_sub rfl s2) rfl)
    have d2 := DrA_keep s2 rfl rfl rfl d1
    -- after the kind
    have body : knW y (k + 1 + 1) = -1 ∨ (0 ≤ knW y (k + 1 + 1) ∧ tK y (k + 1 + 1) ≠ 0) → P_X12_readsBall_J97 (6 + d.1 0 1) (knW y (k + 1 + 1)) (6 + d.1 0 1) Q σ2 := by
      intro hkn
      unfold P_X12_readsBall_J97
      refine ⟨by omega, by omega, by omega, by omega, ?_⟩
      have su : Sm [(1315, 0, none)] σ2 (up σ2 1315 0 (6 + d.1 0 1) (knW y (k + 1 + 1))) := Sm_up Sm.rf rfl
      have fu : FR σ2 (up σ2 1315 0 (6 + d.1 0 1) (knW y (k + 1 + 1))) := FR_up (show (6 : Int) ≤ _ by omega) rfl
      have ru : (up σ2 1315 0 (6 + d.1 0 1) (knW y (k + 1 + 1))) 1315 0 = upr (σ2 1315 0) (6 + d.1 0 1) (knW y (k + 1 + 1)) := up_row
      have hu := RA_keep su rfl rfl rfl rfl rfl rfl rfl h2
      rw [up_at]
      generalize (up σ2 1315 0 (6 + d.1 0 1) (knW y (k + 1 + 1))) = υ2 at su fu ru hu
      by_cases hk0 : 0 ≤ knW y (k + 1 + 1)
      · rw [if_pos hk0]
        have hkz : tK y (k + 1 + 1) ≠ 0 := by
          rcases hkn with q | q
          · omega
          · exact q.2
        have ek : kinG y 0 (k + 1 + 1) = 0 := by unfold kinG; exact st_t (decide_eq_true hk0)
        rw [ek] at k0 k1
        refine a_next hW hu hkz (fun σ3 s3 h3 => ?_)
        have f3 : FR σ σ3 := (f2.tr fu).tr (FR_of s3 (mem_sub rfl s3) rfl)
        refine a_needsBoth hW h3 (fun hf σ' s' e => ?_) (fun hw4 hn4 σ4 s4 h4 e36 => ?_)
        · rw [if_pos rfl]
          simp only [st_ne hf, tolG_ne hf] at k0
          exact k0 hf σ' (f3.tr (FR_of s' (mem_sub rfl s') rfl)) e
        rw [if_neg one_no]
        rw [st_t hw4, hn4] at k0 k1
        have f4 : FR σ σ4 := f3.tr (FR_of s4 (mem_sub rfl s4) rfl)
        rw [e36]
        refine ⟨by omega, by omega, ?_⟩
        have sv : Sm [(1316, 0, none)] σ4 (up σ4 1316 0 (6 + d.1 0 1) (tN y (k + 1 + 1 + 1 + 1))) := Sm_up Sm.rf rfl
        have fv : FR σ4 (up σ4 1316 0 (6 + d.1 0 1) (tN y (k + 1 + 1 + 1 + 1))) := FR_up (show (6 : Int) ≤ _ by omega) rfl
        have rv : (up σ4 1316 0 (6 + d.1 0 1) (tN y (k + 1 + 1 + 1 + 1))) 1316 0 = upr (σ4 1316 0) (6 + d.1 0 1) (tN y (k + 1 + 1 + 1 + 1)) := up_row
        have hv := RA_keep sv rfl rfl rfl rfl rfl rfl rfl h4
        generalize (up σ4 1316 0 (6 + d.1 0 1) (tN y (k + 1 + 1 + 1 + 1))) = υ4 at sv fv rv hv
        have g4 : FR σ υ4 := f4.tr fv
        refine a_needsWord hW hv (fun hf σ' s' e => ?_) (fun hw5 σ5 s5 h5 => ?_)
        · rw [if_pos rfl]
          simp only [st_e hf, st_ne (F1 _), tolG_ne (F1 _)] at k0
          exact k0 (F1 _) σ' (g4.tr (FR_of s' (mem_sub rfl s') rfl)) e
        rw [if_neg one_no]
        rw [st_t hw5] at k0 k1
        have f5 : FR σ σ5 := g4.tr (FR_of s5 (mem_sub rfl s5) rfl)
        -- all that changed since σ2
        have sA : Sm ((1315, 0, none) :: (1316, 0, none) :: bbA) σ2 σ5 := ((((mem_sub rfl su).tr (mem_sub rfl s3)).tr (mem_sub rfl s4)).tr (mem_sub rfl sv)).tr (mem_sub rfl s5)
        have r1315 : σ5 1315 0 = upr (σ2 1315 0) (6 + d.1 0 1) (knW y (k + 1 + 1)) := by rw [s5.row (t := 1315) (i := 0) rfl, sv.row (t := 1315) (i := 0) rfl, s4.row (t := 1315) (i := 0) rfl, s3.row (t := 1315) (i := 0) rfl, ru]
        have r1316 : σ5 1316 0 = upr (σ2 1316 0) (6 + d.1 0 1) (tN y (k + 1 + 1 + 1 + 1)) := by rw [s5.row (t := 1316) (i := 0) rfl, rv, s4.row (t := 1316) (i := 0) rfl, s3.row (t := 1316) (i := 0) rfl, su.row (t := 1316) (i := 0) rfl]
        have e37' : σ5 12 0 37 = tW y (k + 1) := by rw [sA 12 0 37 rfl, e37]
        have e10 : σ5 1310 0 = σ2 1310 0 := sA.row rfl
        have e11 : σ5 1311 0 = σ2 1311 0 := sA.row rfl
        have hN5 : ∀ i : Int, 0 ≤ i → i < d.1 0 0 → σ5 1311 0 (6 * 1 + i) = d.1 1 i := fun i i0 i1 => by rw [e11]; exact d2.2.1 i i0 i1
        refine a_counterNamed (Or.inr rfl) (show σ5 1310 0 (4 * 1) = d.1 0 0 by rw [e10]; exact d2.1.1) n0 n6 ?_
        rw [ixN_con hN5]
        refine a_passesFound (nm := d.1 1) (n := d.1 0 0) hW h5 (fun hm => by rw [a_wd h5 hm]) (fun hf σ' s' e => ?_) (fun hn6 σ6 s6 h6 e36' => ?_)
        · rw [if_pos rfl]
          simp only [st_ne hf] at k0
          exact k0 hf σ' (f5.tr (FR_of s' (mem_sub rfl s') rfl)) e
        rw [if_neg one_no]
        rw [hn6] at k0 k1
        have f6 : FR σ σ6 := f5.tr (FR_of s6 (mem_sub rfl s6) rfl)
        have e37 : σ6 12 0 37 = tW y (k + 1) := by rw [s6 12 0 37 rfl, e37']
        have e10' : σ6 1310 0 5 = d.1 0 1 := by rw [s6.row (t := 1310) (i := 0) rfl, e10]; exact d2.1.2.1
        have eu : ∀ (τ : St) (t : Nat) (i v : Int), Nat.beq 1310 t = false → (up τ t 0 i v) 1310 0 5 = τ 1310 0 5 := fun _ _ _ _ h => up_nt h
        have eu2 : ∀ (τ : St) (t : Nat) (i v : Int), Nat.beq 12 t = false → (up τ t 0 i v) 12 0 37 = τ 12 0 37 := fun _ _ _ _ h => up_nt h
        simp only [eu _ 1312 _ _ rfl, eu _ 1317 _ _ rfl, eu2 _ 1317 _ _ rfl]
        rw [e10', e36', e37, wi_id (z := d.1 0 1 + 1) (by omega) (by omega)]
        refine ⟨by omega, by omega, by omega, by omega, ?_⟩
        generalize hu' : ixN (d.1 1) (d.1 0 0) (tW y (k + 1 + 1 + 1 + 1 + 1 + 1)) = u at k1 ⊢
        have sF : Sm [(1317, 0, none), (1312, 0, none), (1310, 0, some 5)] σ6 (up (up (up σ6 1317 0 (6 + d.1 0 1) u) 1312 0 (6 + d.1 0 1) (tW y (k + 1))) 1310 0 5 (d.1 0 1 + 1)) := Sm_up (Sm_up (Sm_up Sm.rf rfl) rfl) rfl
        have fF : FR σ6 (up (up (up σ6 1317 0 (6 + d.1 0 1) u) 1312 0 (6 + d.1 0 1) (tW y (k + 1))) 1310 0 5 (d.1 0 1 + 1)) := ((FR_up (show (6 : Int) ≤ _ by omega) rfl).tr (FR_up (show (6 : Int) ≤ _ by omega) rfl)).tr (FR_up (show (4 : Int) ≤ 5 by decide) rfl)
        have r1317 : (up (up (up σ6 1317 0 (6 + d.1 0 1) u) 1312 0 (6 + d.1 0 1) (tW y (k + 1))) 1310 0 5 (d.1 0 1 + 1)) 1317 0 = upr (σ6 1317 0) (6 + d.1 0 1) u := by rw [up_oth (Or.inl rfl), up_oth (Or.inl rfl), up_row]
        have r1312 : (up (up (up σ6 1317 0 (6 + d.1 0 1) u) 1312 0 (6 + d.1 0 1) (tW y (k + 1))) 1310 0 5 (d.1 0 1 + 1)) 1312 0 = upr (σ6 1312 0) (6 + d.1 0 1) (tW y (k + 1)) := by rw [up_oth (Or.inl rfl), up_row, up_oth (Or.inl rfl)]
        have r1310 : (up (up (up σ6 1317 0 (6 + d.1 0 1) u) 1312 0 (6 + d.1 0 1) (tW y (k + 1))) 1310 0 5 (d.1 0 1 + 1)) 1310 0 = upr (σ6 1310 0) 5 (d.1 0 1 + 1) := by rw [up_row, up_oth (Or.inl rfl), up_oth (Or.inl rfl)]
        generalize (up (up (up σ6 1317 0 (6 + d.1 0 1) u) 1312 0 (6 + d.1 0 1) (tW y (k + 1))) 1310 0 5 (d.1 0 1 + 1)) = υ6 at sF fF r1317 r1312 r1310
        have g6 : FR σ υ6 := f6.tr fF
        refine a_closes hW (RA_keep sF rfl rfl rfl rfl rfl rfl rfl h6) (fun hf σ' s' e => ⟨Or.inl rfl, ?_⟩) (fun hs σ7 s7 h7 => ⟨Or.inr rfl, ?_⟩)
        · rw [st_e hf] at k0
          exact k0 (F1 _) σ' (g6.tr (FR_of s' (mem_sub rfl s') rfl)) e
        · refine k1 (st_t hs) σ7 (g6.tr (FR_of s7 (mem_sub rfl s7) rfl)) h7 (DrA_keep s7 rfl rfl rfl ?_)
          have sB : Sm ((1315, 0, none) :: (1316, 0, none) :: bbA) σ2 σ6 := sA.tr (mem_sub rfl s6)
          have r1315' : σ6 1315 0 = upr (σ2 1315 0) (6 + d.1 0 1) (knW y (k + 1 + 1)) := by rw [s6.row (t := 1315) (i := 0) rfl, r1315]
          have r1316' : σ6 1316 0 = upr (σ2 1316 0) (6 + d.1 0 1) (tN y (k + 1 + 1 + 1 + 1)) := by rw [s6.row (t := 1316) (i := 0) rfl, r1316]
          obtain ⟨⟨q1, q2, q3, q4, q5⟩, qn, qc, qb, qB, qd, ql, qr, qC⟩ := d2
          obtain ⟨a0, a1, a2, a3, a4, a5, a6, a7, a8, a9⟩ := f_adB (d := d) (w := tW y (k + 1)) (x := knW y (k + 1 + 1)) (v := tN y (k + 1 + 1 + 1 + 1)) (u := u)
          have hC : CdA υ6 d.2.2.2.2.1 := CdA_keep sF rfl rfl (CdA_keep sB rfl rfl qC)
          unfold DrA NmA
          unfold NmA at qn qb
          rw [a0, a1, a2, a3, a4, a5, a6, a7, a8, a9, upr_at, upr_ne (by decide), upr_ne (by decide), upr_ne (by decide), upr_ne (by decide), r1310, upr_at, upr_ne (by decide), upr_ne (by decide), upr_ne (by decide), r1312, r1317, sF.row (t := 1313) (i := 0) rfl, sF.row (t := 1311) (i := 0) rfl, sF.row (t := 1314) (i := 0) rfl, sF.row (t := 1315) (i := 0) rfl, sF.row (t := 1316) (i := 0) rfl, sF.row (t := 1318) (i := 0) rfl, sF.row (t := 1319) (i := 0) rfl, sF.row (t := 1320) (i := 0) rfl, sF 12 0 23 rfl,
            r1315', r1316', sB.row (t := 1310) (i := 0) rfl, sB.row (t := 1311) (i := 0) rfl, sB.row (t := 1314) (i := 0) rfl, sB.row (t := 1312) (i := 0) rfl, sB.row (t := 1313) (i := 0) rfl, sB.row (t := 1317) (i := 0) rfl, sB.row (t := 1318) (i := 0) rfl, sB.row (t := 1319) (i := 0) rfl, sB.row (t := 1320) (i := 0) rfl, sB 12 0 23 rfl]
          refine ⟨⟨q1, rfl, q3, q4, q5⟩, qn, qc, fun i i0 i1 => ?_, fun i i0 i1 => ?_, qd, ql, qr, hC⟩
          · by_cases e : i = d.1 0 1
            · rw [e, show (6 : Int) * 1 + d.1 0 1 = 6 + d.1 0 1 by omega, upr_at, upr_at]
            · rw [upr_ne (show (6 : Int) * 1 + i ≠ 6 + d.1 0 1 by omega), upr_ne e]
              exact qb i i0 (by omega)
          · by_cases e : i = d.1 0 1
            · rw [e, upr_at, upr_at, upr_at, upr_at, upr_at, upr_at]
              exact ⟨rfl, rfl, rfl⟩
            · have hne : (6 : Int) + i ≠ 6 + d.1 0 1 := by omega
              rw [upr_ne hne, upr_ne hne, upr_ne hne, upr_ne e, upr_ne e, upr_ne e]
              exact qB i i0 (by omega)
      · rw [if_neg hk0]
        have ek : kinG y 0 (k + 1 + 1) = fl y 1 (k + 1 + 1) := by unfold kinG; exact st_e (decide_eq_false hk0)
        rw [ek] at k0
        simp only [st_ne (F1 _), numG_ne (F1 _), tolG_ne (F1 _)] at k0
        exact a_failsB hW hu (by decide) (by decide) (fun σ' s' e => k0 (F1 _) σ' ((f2.tr fu).tr (FR_of s' (mem_sub rfl s') rfl)) e)
    -- which kind
    refine a_isWord h2 (fun w => ?_) (fun w0 => ?_)
    · rw [if_neg one_no]
      have e : knW y (k + 1 + 1) = 0 := by
        unfold knW
        rw [isW_one w (c' := 10973) (by decide), isW_one w (c' := 335053202) (by decide), isW_one w (c' := 70481) (by decide), w]; rfl
      rw [e] at body
      exact body (Or.inr ⟨Int.le_refl 0, isW_nz w⟩)
    · rw [if_pos rfl]
      refine a_isWord h2 (fun w => ?_) (fun w1 => ?_)
      · rw [if_neg one_no]
        have e : knW y (k + 1 + 1) = 1 := by unfold knW; rw [w]; rfl
        rw [e] at body
        exact body (Or.inr ⟨by decide, isW_nz w⟩)
      · rw [if_pos rfl]
        refine a_isWord h2 (fun w => ?_) (fun w2 => ?_)
        · rw [if_neg one_no]
          have e : knW y (k + 1 + 1) = 2 := by unfold knW; rw [w1, w]; rfl
          rw [e] at body
          exact body (Or.inr ⟨by decide, isW_nz w⟩)
        · rw [if_pos rfl]
          refine a_isWord h2 (fun w => ?_) (fun w3 => ?_)
          · rw [if_neg one_no]
            have e : knW y (k + 1 + 1) = 3 := by unfold knW; rw [w1, w2, w]; rfl
            rw [e] at body
            exact body (Or.inr ⟨by decide, isW_nz w⟩)
          · rw [if_pos rfl]
            have e : knW y (k + 1 + 1) = -1 := by unfold knW; rw [w1, w2, w3, w0]; rfl
            rw [e] at body
            exact body (Or.inl rfl)
  · rw [if_pos (by omega)]
    have h6' : decide (d.1 0 1 < 6) = false := decide_eq_false h6
    simp only [st_e h6', st_ne (F5 _), numG_ne (F5 _), newG_ne (F5 _), kinG_ne (F5 _), tolG_ne (F5 _)] at k0
    exact a_failsB hW h (by decide) (by decide) (fun σ' s' e => k0 (F5 _) σ' (FR_of s' (mem_sub rfl s') rfl) e)
theorem a_desk {Q : Int → St → Prop} (hW : WfT y) (h : RA y k σ) (hD : DrA σ d) (hz : tK y k ≠ 0)
    (k0 : st (dkG y d 0 k) (isS y (k + 1 + 1) 59) (fl y 1 (k + 1 + 1)) ≠ 0 → ∀ σ', FR σ σ' → σ' 12 0 9 = st (dkG y d 0 k) (isS y (k + 1 + 1) 59) (fl y 1 (k + 1 + 1)) → Q 0 σ')
    (k1 : st (dkG y d 0 k) (isS y (k + 1 + 1) 59) (fl y 1 (k + 1 + 1)) = 0 → ∀ σ', FR σ σ' → RA y (k + 1 + 1 + 1) σ' → DrA σ' (adK d (tN y (k + 1))) → Q 1 σ') : P_X12_readsDesk σ Q := by
  have F1 : ∀ j : Int, fl y 1 j ≠ 0 := fun j => fl_ne hW (by decide) (by decide)
  have F3 : ∀ j : Int, fl y 3 j ≠ 0 := fun j => fl_ne hW (by decide) (by decide)
  unfold dkG at k0 k1
  unfold P_X12_readsDesk
  rw [hD.1.2.2.2.2]
  by_cases h4 : d.1 0 4 = 0
  · rw [if_pos h4]
    rw [st_t (decide_eq_true h4)] at k0 k1
    have su : Sm [(12, 0, some 23)] σ (up σ 12 0 23 1) := Sm_up Sm.rf rfl
    refine a_next hW (RA_keep su rfl rfl rfl rfl rfl rfl rfl h) hz (fun σ1 s1 h1 => ?_)
    have f1 : FR σ σ1 := (FR_of su (mem_sub rfl su) rfl).tr (FR_of s1 (mem_sub rfl s1) rfl)
    have e23 : σ1 12 0 23 = 1 := by rw [s1 12 0 23 rfl, up_at]
    refine a_needsNumber hW h1 (fun hf σ' s' e => ?_) (fun hn σ2 s2 h2 e36 => ?_)
    · rw [if_pos rfl]
      simp only [st_ne hf] at k0
      exact k0 hf σ' (f1.tr (FR_of s' (mem_sub rfl s') rfl)) e
    rw [if_neg one_no]
    rw [hn] at k0 k1
    rw [e36]
    have sF : Sm [(1310, 0, some 6)] σ2 (up σ2 1310 0 6 (tN y (k + 1))) := Sm_up Sm.rf rfl
    have fF : FR σ (up σ2 1310 0 6 (tN y (k + 1))) := (f1.tr (FR_of s2 (mem_sub rfl s2) rfl)).tr (FR_up (show (4 : Int) ≤ 6 by decide) rfl)
    refine a_closes hW (RA_keep sF rfl rfl rfl rfl rfl rfl rfl h2) (fun hf σ' s' e => ⟨Or.inl rfl, ?_⟩) (fun hs σ3 s3 h3 => ⟨Or.inr rfl, ?_⟩)
    · rw [st_e hf] at k0
      exact k0 (F1 _) σ' (fF.tr (FR_of s' (mem_sub rfl s') rfl)) e
    · refine k1 (st_t hs) σ3 (fF.tr (FR_of s3 (mem_sub rfl s3) rfl)) h3 (DrA_keep s3 rfl rfl rfl ?_)
      have sA : Sm ((12, 0, some 23) :: (1310, 0, some 6) :: nnA) σ (up σ2 1310 0 6 (tN y (k + 1))) := (((mem_sub rfl su).tr (mem_sub rfl s1)).tr (mem_sub rfl s2)).tr (mem_sub rfl sF)
      have e23' : (up σ2 1310 0 6 (tN y (k + 1))) 12 0 23 = 1 := by rw [up_nt rfl, s2 12 0 23 rfl, e23]
      have r10 : (up σ2 1310 0 6 (tN y (k + 1))) 1310 0 = upr (σ 1310 0) 6 (tN y (k + 1)) := by rw [up_row, s2.row (t := 1310) (i := 0) rfl, s1.row (t := 1310) (i := 0) rfl, su.row (t := 1310) (i := 0) rfl]
      obtain ⟨⟨q1, q2, q3, q4, q5⟩, qn, qc, qb, qB, qd, ql, qr, qC⟩ := hD
      obtain ⟨a0, ao, a9⟩ := f_adK (d := d) (x := tN y (k + 1))
      have hC : CdA (up σ2 1310 0 6 (tN y (k + 1))) d.2.2.2.2.1 := CdA_keep sA rfl rfl qC
      have u : ∀ j : Int, j ≠ 3 → j ≠ 4 → upr (upr (d.1 0) 4 1) 3 (tN y (k + 1)) j = d.1 0 j := fun j h1 h2 => by rw [upr_ne h1, upr_ne h2]
      unfold DrA NmA
      unfold NmA at qn qb
      rw [a0, ao 1 rfl, ao 2 rfl, ao 3 rfl, ao 4 rfl, ao 5 rfl, ao 6 rfl, ao 7 rfl, ao 8 rfl, a9, e23', r10, u 0 (by decide) (by decide), u 1 (by decide) (by decide), u 2 (by decide) (by decide), upr_at, upr_ne (by decide), upr_at, upr_ne (by decide), upr_ne (by decide), upr_ne (by decide), upr_at, sA.row (t := 1311) (i := 0) rfl, sA.row (t := 1312) (i := 0) rfl, sA.row (t := 1313) (i := 0) rfl, sA.row (t := 1314) (i := 0) rfl, sA.row (t := 1315) (i := 0) rfl, sA.row (t := 1316) (i := 0) rfl, sA.row (t := 1317) (i := 0) rfl, sA.row (t := 1318) (i := 0) rfl, sA.row (t := 1319) (i := 0) rfl, sA.row (t := 1320) (i := 0) rfl]
      exact ⟨⟨q1, q2, q3, rfl, rfl⟩, qn, qc, qb, qB, qd, ql, qr, hC⟩
  · rw [if_neg h4]
    have h4' : decide (d.1 0 4 = 0) = false := decide_eq_false h4
    simp only [st_e h4', st_ne (F3 _), numG_ne (F3 _)] at k0
    exact a_failsB hW h (by decide) (by decide) (fun σ' s' e => k0 (F3 _) σ' (FR_of s' (mem_sub rfl s') rfl) e)
end
