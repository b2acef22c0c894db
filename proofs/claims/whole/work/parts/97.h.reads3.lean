/-! 97.h: the reference reads damp days, wear, a whole shop -/
def dmK (c : Int) (Q : Int → St → Prop) : St → Prop := fun σ => P_X12_fails c σ (fun r σ' => (r = 0 ∨ r = 1) ∧ Q r σ')
def dmE (Q : Int → St → Prop) : St → Prop := fun σ => P_X12_closes σ (fun r σ' => (r = 0 ∨ r = 1) ∧ Q r σ')
section
variable {σ : St} {y : Tp} {k : Int} {d : Dr}
theorem a_dampJ {R : St → Prop} {Q : Int → St → Prop} (hW : WfT y) (hV : WfD y d) (h : RA y k σ) (hD : DrA σ d) (hN : isN y k = true)
    (k0 : dpH y d k ≠ 0 → ∀ σ', FR σ σ' → σ' 12 0 9 = dpH y d k → Q 0 σ') (k1 : dpH y d k = 0 → ∀ σ', FR σ σ' → RA y (k + 1) σ' → DrA σ' (adP d (tN y k)) → R σ') : P_X12_readsDamp_J38 R (dmE Q) (dmK 1 Q) (dmK 4 Q) (dmK 5 Q) Q σ := by
  have F1 : ∀ j : Int, fl y 1 j ≠ 0 := fun j => fl_ne hW (by decide) (by decide)
  have F4 : ∀ j : Int, fl y 4 j ≠ 0 := fun j => fl_ne hW (by decide) (by decide)
  have F5 : ∀ j : Int, fl y 5 j ≠ 0 := fun j => fl_ne hW (by decide) (by decide)
  have e8 : σ 12 0 8 = tN y k := h.2.2.2.2.2.1 (of_decide_eq_true hN)
  have hr : 0 ≤ tN y k ∧ tN y k ≤ 9999 := nu_ok (of_decide_eq_true hN)
  have hq := hV.2.2.1
  unfold dpH at k0 k1
  rw [numG_t hN] at k0 k1
  unfold P_X12_readsDamp_J38
  rw [if_pos ((a_num h).mpr hN), e8, hD.1.2.2.1]
  by_cases h9 : tN y k ≤ 9
  · rw [if_pos h9]
    rw [st_t (b := inB (tN y k) 0 9) (decide_eq_true ⟨hr.1, h9⟩)] at k0 k1
    by_cases h12 : d.1 0 2 = 12
    · rw [if_pos h12]
      rw [st_e (b := decide (d.1 0 2 < 12)) (decide_eq_false (by omega))] at k0
      exact a_failsB hW h (by decide) (by decide) (fun σ' s' e => k0 (F5 _) σ' (FR_of s' (mem_sub rfl s') rfl) e)
    · rw [if_neg h12, wi_id (z := 12 + d.1 0 2) (by omega) (by omega)]
      have e10 : (up σ 1318 0 (12 + d.1 0 2) (tN y k)) 1310 0 7 = d.1 0 2 := by rw [up_nt rfl, hD.1.2.2.1]
      rw [e10, wi_id (z := d.1 0 2 + 1) (by omega) (by omega)]
      refine ⟨by omega, by omega, ?_⟩
      have sF : Sm [(1318, 0, none), (1310, 0, some 7)] σ (up (up σ 1318 0 (12 + d.1 0 2) (tN y k)) 1310 0 7 (d.1 0 2 + 1)) := Sm_up (Sm_up Sm.rf rfl) rfl
      have fF : FR σ (up (up σ 1318 0 (12 + d.1 0 2) (tN y k)) 1310 0 7 (d.1 0 2 + 1)) := (FR_up (show (12 : Int) ≤ _ by omega) rfl).tr (FR_up (show (4 : Int) ≤ 7 by decide) rfl)
      have r18 : (up (up σ 1318 0 (12 + d.1 0 2) (tN y k)) 1310 0 7 (d.1 0 2 + 1)) 1318 0 = upr (σ 1318 0) (12 + d.1 0 2) (tN y k) := by rw [up_oth (Or.inl rfl), up_row]
      have r10 : (up (up σ 1318 0 (12 + d.1 0 2) (tN y k)) 1310 0 7 (d.1 0 2 + 1)) 1310 0 = upr (σ 1310 0) 7 (d.1 0 2 + 1) := by rw [up_row, up_oth (Or.inl rfl)]
      generalize (up (up σ 1318 0 (12 + d.1 0 2) (tN y k)) 1310 0 7 (d.1 0 2 + 1)) = υ at sF fF r18 r10
      refine a_next hW (RA_keep sF rfl rfl rfl rfl rfl rfl rfl h) (isN_nz hN) (fun σ1 s1 h1 => ?_)
      refine k1 (st_t (decide_eq_true (by omega))) σ1 (fF.tr (FR_of s1 (mem_sub rfl s1) rfl)) h1 (DrA_keep s1 rfl rfl rfl ?_)
      obtain ⟨⟨q1, q2, q3, q4, q5⟩, qn, qc, qb, qB, qd, ql, qr, qC⟩ := hD
      obtain ⟨a0, a1, a2, a3, a4, a5, a6, a7, a8, a9⟩ := f_adP (d := d) (x := tN y k)
      have hC : CdA υ d.2.2.2.2.1 := CdA_keep sF rfl rfl qC
      unfold DrA NmA
      unfold NmA at qn qb
      rw [a0, a1, a2, a3, a4, a5, a6, a7, a8, a9, upr_at, upr_ne (by decide), upr_ne (by decide), upr_ne (by decide), upr_ne (by decide), r10, upr_at, upr_ne (by decide), upr_ne (by decide), upr_ne (by decide), r18, sF.row (t := 1313) (i := 0) rfl, sF.row (t := 1311) (i := 0) rfl, sF.row (t := 1312) (i := 0) rfl, sF.row (t := 1314) (i := 0) rfl, sF.row (t := 1315) (i := 0) rfl, sF.row (t := 1316) (i := 0) rfl, sF.row (t := 1317) (i := 0) rfl, sF.row (t := 1319) (i := 0) rfl, sF.row (t := 1320) (i := 0) rfl, sF 12 0 23 rfl]
      refine ⟨⟨q1, q2, rfl, q4, q5⟩, qn, qc, qb, qB, fun i i0 i1 => ?_, ql, qr, hC⟩
      by_cases e : i = d.1 0 2
      · rw [e, upr_at, upr_at]
      · rw [upr_ne (show (12 : Int) + i ≠ 12 + d.1 0 2 by omega), upr_ne e]
        exact qd i i0 (by omega)
  · rw [if_neg h9]
    have hno : inB (tN y k) 0 9 = false := decide_eq_false (fun q => h9 q.2)
    simp only [st_e hno, st_ne (F4 _)] at k0
    exact a_failsB hW h (by decide) (by decide) (fun σ' s' e => k0 (F4 _) σ' (FR_of s' (mem_sub rfl s') rfl) e)
theorem a_dampL {Q : Int → St → Prop} (hW : WfT y) : ∀ (f : Nat) (k : Int) (d : Dr) (σ : St) (n : Nat), RA y k σ → DrA σ d → WfD y d → 1 ≤ d.1 0 2 → 13 - d.1 0 2 ≤ f → 14 - d.1 0 2 ≤ n →
    (clG y (dpL y f k d) ≠ 0 → ∀ σ', FR σ σ' → σ' 12 0 9 = clG y (dpL y f k d) → Q 0 σ') →
    (clG y (dpL y f k d) = 0 → ∀ σ', FR σ σ' → RA y ((dpL y f k d).2.1 + 1) σ' → DrA σ' (dpL y f k d).2.2 → Q 1 σ') → P_X12_readsDamp_L20 (dmE Q) (dmK 1 Q) (dmK 4 Q) (dmK 5 Q) Q n σ := by
  have F1 : ∀ j : Int, fl y 1 j ≠ 0 := fun j => fl_ne hW (by decide) (by decide)
  intro f
  induction f with
  | zero =>
    intro k d σ n h hD hV q1 hf
    have := hV.2.2.1
    omega
  | succ f ih =>
    intro k d σ n h hD hV q1 hf hn k0 k1
    have hq := hV.2.2.1
    obtain ⟨n, rfl, -⟩ := fu_ex (m := 0) (n := n) (by omega)
    unfold P_X12_readsDamp_L20
    rw [hD.1.2.2.1, if_neg (by omega)]
    unfold dpL at k0 k1
    by_cases hN : isN y k = true
    · rw [if_pos ((a_num h).mpr hN)]
      rw [if_pos hN] at k0 k1
      refine a_dampJ hW hV h hD hN (fun hne σ' f' e => ?_) (fun hz σ1 f1 h1 d1 => ?_)
      · rw [if_neg hne] at k0
        unfold clG at k0
        dsimp only at k0
        rw [st_ne hne] at k0
        exact k0 hne σ' f' e
      · rw [if_pos hz] at k0 k1
        have hz1 := st_0 (fl_ne hW (by decide) (by decide)) hz
        have hl := of_decide_eq_true hz1.2
        have hb := of_decide_eq_true (numG_0 hW hz1.1).2.2
        have e2 : (adP d (tN y k)).1 0 2 = d.1 0 2 + 1 := by rw [f_adP.1, upr_at]
        exact ih (k + 1) (adP d (tN y k)) σ1 n h1 d1 (WfD_adP hV hl hb) (by omega) (by omega) (by omega) (fun hne σ' f' e => k0 hne σ' (f1.tr f') e) (fun hz σ' f' h' d' => k1 hz σ' (f1.tr f') h' d')
    · rw [if_neg (fun q => hN ((a_num h).mp q))]
      rw [if_neg hN] at k0 k1
      unfold clG at k0 k1
      dsimp only at k0 k1
      unfold dmE
      refine a_closes hW h (fun hf σ' s' e => ⟨Or.inl rfl, ?_⟩) (fun hs σ' s' h' => ⟨Or.inr rfl, ?_⟩)
      · rw [st_e hf] at k0
        exact k0 (F1 _) σ' (FR_of s' (mem_sub rfl s') rfl) e
      · exact k1 (st_t hs) σ' (FR_of s' (mem_sub rfl s') rfl) h' (DrA_keep s' rfl rfl rfl hD)
theorem a_damp {Q : Int → St → Prop} (hW : WfT y) (hV : WfD y d) (h : RA y k σ) (hD : DrA σ d) (hz : tK y k ≠ 0)
    (k0 : clG y (dpW y d k) ≠ 0 → ∀ σ', FR σ σ' → σ' 12 0 9 = clG y (dpW y d k) → Q 0 σ')
    (k1 : clG y (dpW y d k) = 0 → ∀ σ', FR σ σ' → RA y ((dpW y d k).2.1 + 1) σ' → DrA σ' (dpW y d k).2.2 → Q 1 σ') : P_X12_readsDamp σ Q := by
  have F1 : ∀ j : Int, fl y 1 j ≠ 0 := fun j => fl_ne hW (by decide) (by decide)
  have F3 : ∀ j : Int, fl y 3 j ≠ 0 := fun j => fl_ne hW (by decide) (by decide)
  have hq := hV.2.2.1
  unfold P_X12_readsDamp
  rw [hD.1.2.2.1]
  unfold dpW at k0 k1
  by_cases h2 : d.1 0 2 ≤ 0
  · rw [if_pos h2]
    have eG : dpG y d 0 k = numG y 0 (k + 1) 0 9 := by unfold dpG; rw [st_t (decide_eq_true h2)]
    have eH : dpH y d (k + 1) = numG y 0 (k + 1) 0 9 := by unfold dpH; exact st_g (fun _ => decide_eq_true (by omega))
    rw [eG] at k0 k1
    refine a_next hW h hz (fun σ1 s1 h1 => ?_)
    have f1 : FR σ σ1 := FR_of s1 (mem_sub rfl s1) rfl
    have d1 := DrA_keep s1 rfl rfl rfl hD
    obtain ⟨m, hm, -⟩ := fu_ex (m := 0) (n := FU) (FU_pos (by decide))
    have hm14 : 14 ≤ m := by unfold FU at hm; omega
    rw [hm]
    show P_X12_readsDamp_L20 (dmE Q) (dmK 1 Q) (dmK 4 Q) (dmK 5 Q) Q (m + 1) σ1
    unfold P_X12_readsDamp_L20
    rw [d1.1.2.2.1, if_pos (by omega)]
    by_cases hN : isN y (k + 1) = true
    · refine a_dampJ hW hV h1 d1 hN (fun hne σ' f' e => ?_) (fun hz σ2 f2 h2' d2 => ?_)
      · rw [eH] at hne e
        rw [if_neg hne] at k0
        unfold clG at k0
        dsimp only at k0
        rw [st_ne hne] at k0
        exact k0 hne σ' (f1.tr f') e
      · rw [eH] at hz
        rw [if_pos hz] at k0 k1
        have hb := of_decide_eq_true (numG_0 hW hz).2.2
        have e2 : (adP d (tN y (k + 1))).1 0 2 = d.1 0 2 + 1 := by rw [f_adP.1, upr_at]
        exact a_dampL hW 13 (k + 1 + 1) (adP d (tN y (k + 1))) σ2 m h2' d2 (WfD_adP hV (by omega) hb) (by omega) (by omega) (by omega) (fun hne σ' f' e => k0 hne σ' ((f1.tr f2).tr f') e) (fun hz σ' f' h' d' => k1 hz σ' ((f1.tr f2).tr f') h' d')
    · unfold P_X12_readsDamp_J38
      rw [if_neg (fun q => hN ((a_num h1).mp q))]
      have hN' : isN y (k + 1) = false := by simpa using hN
      have e0 : numG y 0 (k + 1) 0 9 = fl y 1 (k + 1) := by
        unfold numG
        rw [st_e hN', st_ne (F1 _)]
      rw [e0, if_neg (F1 _)] at k0
      unfold clG at k0
      dsimp only at k0
      rw [st_ne (F1 _)] at k0
      exact a_failsB hW h1 (by decide) (by decide) (fun σ' s' e => k0 (F1 _) σ' (f1.tr (FR_of s' (mem_sub rfl s') rfl)) e)
  · rw [if_neg h2]
    have h2' : decide (d.1 0 2 ≤ 0) = false := decide_eq_false h2
    have e0 : dpG y d 0 k = fl y 3 k := by unfold dpG; rw [st_e h2', numG_ne (F3 _)]
    rw [e0, if_neg (F3 _)] at k0
    unfold clG at k0
    dsimp only at k0
    rw [st_ne (F3 _)] at k0
    exact a_failsB hW h (by decide) (by decide) (fun σ' s' e => k0 (F3 _) σ' (FR_of s' (mem_sub rfl s') rfl) e)
/-- a law read has codes -/
theorem ex_len (hW : WfT y) {j : Int} (h0 : (exW y j).1 = 0) : 1 ≤ ((exW y j).2.2.2.1.length : Int) ∧ ((exW y j).2.2.2.1.length : Int) = (exW y j).2.1 - j ∧ ((exW y j).2.2.1.length : Int) ≤ (exW y j).2.1 - j := by
  have h1 := rkk_ok (prt_ok hW 5) 4 j h0
  have h2 := rkk_cs (prt_cs hW 5) 4 j h0
  have h1 : j < (exW y j).2.1 ∧ ((exW y j).2.2.1.length : Int) ≤ (exW y j).2.1 - j := h1
  have h2 : ((exW y j).2.2.2.1.length : Int) = (exW y j).2.1 - j := h2
  omega
theorem a_wears {Q : Int → St → Prop} (hW : WfT y) (hV : WfD y d) (h : RA y k σ) (hD : DrA σ d) (hz : tK y k ≠ 0)
    (k0 : st (weG y d k) (isS y (exW y (k + 1)).2.1 59) (fl y 1 (exW y (k + 1)).2.1) ≠ 0 → ∀ σ', FR σ σ' → σ' 12 0 9 = st (weG y d k) (isS y (exW y (k + 1)).2.1 59) (fl y 1 (exW y (k + 1)).2.1) → Q 0 σ')
    (k1 : st (weG y d k) (isS y (exW y (k + 1)).2.1 59) (fl y 1 (exW y (k + 1)).2.1) = 0 → ∀ σ', FR σ σ' → RA y ((exW y (k + 1)).2.1 + 1) σ' → DrA σ' (adW d (exW y (k + 1))) → Q 1 σ') : P_X12_readsWears σ Q := by
  have F3 : ∀ j : Int, fl y 3 j ≠ 0 := fun j => fl_ne hW (by decide) (by decide)
  obtain ⟨v1, v2, v3, v4, v5, v6, v7, v8, v9⟩ := hV
  unfold P_X12_readsWears
  rw [hD.2.2.2.2.2.2.1, hD.2.2.2.2.2.2.2.1]
  unfold weG at k0 k1
  by_cases h5 : d.1 0 5 = 0
  · have e2 : d.2 = pF 0 0 := by
      rcases v9 with q | q
      · exact q.2
      · omega
    have e3 : d.2.2.2.2.1 = [] := by rw [e2]; rfl
    rw [e3]
    rw [if_pos (by decide)]
    rw [st_t (decide_eq_true h5)] at k0 k1
    refine a_next hW h hz (fun σ1 s1 h1 => ?_)
    have f1 : FR σ σ1 := FR_of s1 (mem_sub rfl s1) rfl
    have d1 := DrA_keep s1 rfl rfl rfl hD
    have e22 : σ1 12 0 22 = 1000 := by
      have := d1.2.2.2.2.2.2.2.2.1
      rw [e3] at this
      exact this
    rw [e22]
    have su : Sm [(1319, 0, some 1)] σ1 (up σ1 1319 0 1 1000) := Sm_up Sm.rf rfl
    have fu : FR σ1 (up σ1 1319 0 1 1000) := FR_up (show (1 : Int) ≤ 1 by decide) rfl
    have ru : (up σ1 1319 0 1 1000) 1319 0 1 = 1000 := up_at
    refine a_law hW (RA_keep su rfl rfl rfl rfl rfl rfl rfl h1) (by rw [up_nt rfl]; exact e22) (fun hne σ' s' l' e9 => ?_) (fun hG h0 σ2 s2 l2 h2 c2 => ?_)
    · rw [if_pos rfl]
      exact k0 hne σ' ((f1.tr fu).tr (FR_law s' l')) e9
    · rw [if_neg one_no]
      rw [c2.1]
      have sF : Sm [(1320, 0, some 1)] σ2 (up σ2 1320 0 1 (1000 + (exW y (k + 1)).2.2.2.1.length)) := Sm_up Sm.rf rfl
      have fF : FR σ2 (up σ2 1320 0 1 (1000 + (exW y (k + 1)).2.2.2.1.length)) := FR_up (show (1 : Int) ≤ 1 by decide) rfl
      have rF : (up σ2 1320 0 1 (1000 + (exW y (k + 1)).2.2.2.1.length)) 1320 0 1 = 1000 + (exW y (k + 1)).2.2.2.1.length := up_at
      refine k1 hG _ (((f1.tr fu).tr (FR_law s2 l2)).tr fF) (RA_keep sF rfl rfl rfl rfl rfl rfl rfl h2) ?_
      have hC : CdA (up σ2 1320 0 1 (1000 + (exW y (k + 1)).2.2.2.1.length)) (exW y (k + 1)).2.2.2.1 := CdA_keep sF rfl rfl c2
      generalize (up σ2 1320 0 1 (1000 + (exW y (k + 1)).2.2.2.1.length)) = υ at sF fF rF hC
      have sA : Sm ((1319, 0, some 1) :: (1320, 0, some 1) :: reA) σ1 υ := ((mem_sub rfl su).tr (mem_sub rfl s2)).tr (mem_sub rfl sF)
      have r19 : υ 1319 0 1 = 1000 := by rw [sF 1319 0 1 rfl, s2 1319 0 1 rfl, ru]
      obtain ⟨⟨q1, q2, q3, q4, q5⟩, qn, qc, qb, qB, qd, ql, qr, qC⟩ := d1
      obtain ⟨a0, ao, a9⟩ := f_adW (d := d) (a := exW y (k + 1))
      unfold DrA NmA
      unfold NmA at qn qb
      rw [a0, ao 1 rfl, ao 2 rfl, ao 3 rfl, ao 4 rfl, ao 5 rfl, ao 6 rfl, ao 7 rfl, ao 8 rfl, a9, upr_ne (by decide), upr_ne (by decide), upr_ne (by decide), upr_ne (by decide), upr_ne (by decide), r19, rF, sA.row (t := 1310) (i := 0) rfl, sA.row (t := 1311) (i := 0) rfl, sA.row (t := 1312) (i := 0) rfl, sA.row (t := 1313) (i := 0) rfl, sA.row (t := 1314) (i := 0) rfl, sA.row (t := 1315) (i := 0) rfl, sA.row (t := 1316) (i := 0) rfl, sA.row (t := 1317) (i := 0) rfl, sA.row (t := 1318) (i := 0) rfl, sA 12 0 23 rfl]
      exact ⟨⟨q1, q2, q3, q4, q5⟩, qn, qc, qb, qB, qd, rfl, rfl, hC⟩
  · have hl : 1 ≤ (d.2.2.2.2.1.length : Int) := by
      rcases v9 with q | ⟨-, j, -, e, h0, -⟩
      · exact absurd q.1 h5
      · rw [e]; exact (ex_len hW h0).1
    rw [if_neg (by omega)]
    have h5' : decide (d.1 0 5 = 0) = false := decide_eq_false h5
    have eg : gof (fl y 3 k) (exW y (k + 1)) = fl y 3 k := if_neg (F3 k)
    rw [st_e h5', eg, st_ne (F3 _)] at k0
    exact a_failsB hW h (by decide) (by decide) (fun σ' s' e => k0 (F3 _) σ' (FR_of s' (mem_sub rfl s') rfl) e)
end
