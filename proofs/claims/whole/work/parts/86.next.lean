/-! 86: the reference's next token -/
def TaA (τ : St) (y : Tp) : Prop := τ 12 0 3 = y.1 ∧ ∀ j : Int, 0 ≤ j → j < y.1 → τ 1302 0 j = y.2 j
def mK (k : Int) : Int := if k = 0 then 0 else if k = 2 then 1 else if k = 3 then 2 else if k = 4 then 3 else 4
def ntA : List Reg := [(12, 0, some 4), (12, 0, some 5), (12, 0, some 6), (12, 0, some 7), (12, 0, some 8)]
theorem TaA_keep {A : List Reg} {σ τ : St} {y : Tp} (h : Sm A σ τ) (h3 : inR A 12 0 3 = false) (hn : noT A [1302] 0 = true) (c : TaA σ y) : TaA τ y := by
  unfold TaA at c ⊢
  rw [h 12 0 3 h3, noT_row h hn (t := 1302) (by decide)]
  exact c
section
variable {σ : St}
theorem t_signAt {y : Tp} {p : Int} {Q : Int → St → Prop} (hT : TaA σ y) (hW : WfT y) (h0 : 0 ≤ p) (h1 : p ≤ y.1) (k : Q (if p < y.1 then y.2 p else 0) σ) : P_X12_signAt p σ Q := by
  obtain ⟨hw0, hw1⟩ := hW
  unfold P_X12_signAt
  rw [hT.1]
  by_cases h : p < y.1
  · rw [if_pos h] at k
    rw [if_neg (by omega), hT.2 p h0 h]
    exact ⟨h0, by omega, k⟩
  · rw [if_neg h] at k
    rw [if_pos (by omega)]
    exact k
theorem t_X12_nextToken {y : Tp} {p : Int} {Q : St → Prop} (hT : TaA σ y) (hW : WfT y) (h4 : σ 12 0 4 = p) (p0 : 0 ≤ p) (p1 : p ≤ y.1)
    (k : ∀ σ', Sm ntA σ σ' → σ' 12 0 4 = (if rnE isBk y p < y.1 then enC y (rnE isBk y p) else y.1) → σ' 12 0 5 = rnE isBk y p → σ' 12 0 6 = mK (kdC y (rnE isBk y p)) → (kdC y (rnE isBk y p) = 2 → σ' 12 0 7 = woW y (rnE isBk y p)) → (kdC y (rnE isBk y p) = 3 → σ' 12 0 8 = nuW y (rnE isBk y p)) → Q σ') : P_X12_nextToken σ Q := by
  obtain ⟨hw0, hw1⟩ := id hW
  have hbr := rnE_rng (p := isBk) p1
  have hbk := fun h => rnE_stop (p := isBk) (y := y) (i := p) h
  unfold P_X12_nextToken
  refine runI (X := St) (F := fun n' i τ => P_X12_nextToken_L0 (fun σ_1 => P_X12_nextToken_J52 Q σ_1) Q n' τ) (y := y) (p := isBk) (KK := fun _ τ => P_X12_nextToken_J52 Q τ) (fun i τ => Sm ntA σ τ ∧ τ 12 0 4 = i) (fun n' i τ i0 i1 hJ => ?_) (fun n' τ hJ k => ?_) p0 p1 (FU_pos (by omega)) ⟨Sm.rf, h4⟩ (fun τ hJ => ?_)
  · obtain ⟨hs, h4'⟩ := hJ
    have hT' := TaA_keep hs rfl rfl hT
    refine ⟨fun hp k => ?_, fun hp k' => ?_⟩
    · have hp := of_decide_eq_false hp
      unfold P_X12_nextToken_L0
      rw [hT'.1, h4', if_neg (by omega), hT'.2 i i0 i1, if_neg (fun h => hp (Or.inr h)), if_neg (fun h => hp (Or.inl h))]
      exact ⟨i0, by omega, i0, by omega, k⟩
    · have hp := of_decide_eq_true hp
      have go : P_X12_nextToken_J39 (P_X12_nextToken_L0 (fun σ_1 => P_X12_nextToken_J52 Q σ_1) Q n') (fun σ_1 => P_X12_nextToken_J52 Q σ_1) Q τ := by
        unfold P_X12_nextToken_J39
        rw [h4', wi_id (z := i + 1) (by omega) (by omega)]
        exact k' _ ⟨Sm_up hs rfl, up_at⟩
      unfold P_X12_nextToken_L0
      rw [hT'.1, h4', if_neg (by omega), hT'.2 i i0 i1]
      refine ⟨i0, by omega, ?_⟩
      by_cases h32 : y.2 i = 32
      · rw [if_pos h32]
        exact go
      · rw [if_neg h32, if_pos (by rcases hp with h | h; exact h; exact absurd h h32)]
        exact ⟨i0, by omega, go⟩
  · have hT' := TaA_keep hJ.1 rfl rfl hT
    unfold P_X12_nextToken_L0
    rw [hT'.1, hJ.2, if_pos (Int.le_refl _)]
    exact k
  · obtain ⟨hs, h4'⟩ := hJ
    generalize rnE isBk y p = b at k h4' hbr hbk
    have s1 : Sm ntA σ (up (up (up τ 12 0 5 (τ 12 0 4)) 12 0 7 0) 12 0 8 0) := Sm_up (Sm_up (Sm_up hs rfl) rfl) rfl
    have f4 : (up (up (up τ 12 0 5 (τ 12 0 4)) 12 0 7 0) 12 0 8 0) 12 0 4 = b := by rw [up_nx (by decide), up_nx (by decide), up_nx (by decide), h4']
    have f5 : (up (up (up τ 12 0 5 (τ 12 0 4)) 12 0 7 0) 12 0 8 0) 12 0 5 = b := by rw [up_nx (by decide), up_nx (by decide), up_at, h4']
    have f7 : (up (up (up τ 12 0 5 (τ 12 0 4)) 12 0 7 0) 12 0 8 0) 12 0 7 = 0 := by rw [up_nx (by decide), up_at]
    have f8 : (up (up (up τ 12 0 5 (τ 12 0 4)) 12 0 7 0) 12 0 8 0) 12 0 8 = 0 := up_at
    unfold P_X12_nextToken_J52
    generalize (up (up (up τ 12 0 5 (τ 12 0 4)) 12 0 7 0) 12 0 8 0) = τ1 at s1 f4 f5 f7 f8 ⊢
    have hT1 := TaA_keep s1 rfl rfl hT
    rw [f4, hT1.1]
    by_cases hend : b = y.1
    · rw [if_pos hend]
      rw [if_neg (by omega)] at k
      have hk : kdC y b = 0 := by unfold kdC; rw [if_pos (by omega)]
      rw [hk] at k
      refine k _ (Sm_up s1 rfl) (by rw [up_nx (by decide), f4, hend]) (by rw [up_nx (by decide), f5]) (by rw [up_at]; rfl) (fun h => by cases h) (fun h => by cases h)
    · rw [if_neg hend]
      have hb1 : b < y.1 := by omega
      rw [if_pos hb1] at k
      have hbk := hbk hb1
      have hen := enC_rng hb1
      have hcb := hw1 b (by omega) hb1
      rw [hT1.2 b (by omega) hb1]
      refine ⟨by omega, by omega, ?_⟩
      -- neither a letter
      have other : isLt (y.2 b) = false → P_X12_nextToken_J212 (y.2 b) Q τ1 := by
        intro hl
        have nolt := of_decide_eq_false hl
        unfold P_X12_nextToken_J212
        -- nor a digit
        have sign : isDg (y.2 b) = false → P_X12_nextToken_J322 (y.2 b) Q τ1 := by
          intro hd
          have he : enC y b = b + 1 := by unfold enC; rw [if_neg (by rw [hl]; decide), if_neg (by rw [hd]; decide)]
          have hk : kdC y b = if isSg (y.2 b) then 4 else 1 := by unfold kdC; rw [if_neg (by omega), if_neg (by rw [hl]; decide), if_neg (by rw [hd]; decide)]
          have s2 : Sm ntA σ (up τ1 12 0 4 (b + 1)) := Sm_up s1 rfl
          have yes : isSg (y.2 b) = true → P_X12_nextToken_J363 Q (up τ1 12 0 4 (b + 1)) := by
            intro hg
            rw [hg, if_pos rfl] at hk
            unfold P_X12_nextToken_J363 P_X12_nextToken_J368
            rw [hk] at k
            exact k _ (Sm_up s2 rfl) (by rw [up_nx (by decide), up_at, he]) (by rw [up_nx (by decide), up_nx (by decide), f5]) (by rw [up_at]; rfl) (fun h => by cases h) (fun h => by cases h)
          have no : isSg (y.2 b) = false → P_X12_nextToken_J367 Q (up τ1 12 0 4 (b + 1)) := by
            intro hg
            rw [hg, if_neg (by decide)] at hk
            unfold P_X12_nextToken_J367 P_X12_nextToken_J368
            rw [hk] at k
            exact k _ (Sm_up s2 rfl) (by rw [up_nx (by decide), up_at, he]) (by rw [up_nx (by decide), up_nx (by decide), f5]) (by rw [up_at]; rfl) (fun h => by cases h) (fun h => by cases h)
          have j345 : ¬ (40 ≤ y.2 b ∧ y.2 b ≤ 43) → P_X12_nextToken_J345 (y.2 b) Q (up τ1 12 0 4 (b + 1)) := by
            intro hn
            unfold P_X12_nextToken_J345
            by_cases h45 : y.2 b = 45
            · rw [if_pos h45]
              exact yes (decide_eq_true (by omega))
            · rw [if_neg h45]
              by_cases h59 : y.2 b < 59
              · rw [if_pos h59]
                exact no (decide_eq_false (by omega))
              · rw [if_neg h59]
                by_cases h61 : 61 < y.2 b
                · rw [if_pos h61]
                  exact no (decide_eq_false (by omega))
                · rw [if_neg h61]
                  exact yes (decide_eq_true (by omega))
          unfold P_X12_nextToken_J322
          rw [f4, wi_id (z := b + 1) (by omega) (by omega)]
          by_cases h40 : y.2 b < 40
          · rw [if_pos h40]
            exact j345 (by omega)
          · rw [if_neg h40]
            by_cases h43 : y.2 b ≤ 43
            · rw [if_pos h43]
              exact yes (decide_eq_true (by omega))
            · rw [if_neg h43]
              exact j345 (by omega)
        by_cases h48 : y.2 b < 48
        · rw [if_pos h48]
          exact sign (decide_eq_false (by omega))
        · rw [if_neg h48]
          by_cases h57 : 57 < y.2 b
          · rw [if_pos h57]
            exact sign (decide_eq_false (by omega))
          · rw [if_neg h57]
            have hd : isDg (y.2 b) = true := decide_eq_true (by omega)
            have he : enC y b = rnE isDg y b := by unfold enC; rw [if_neg (by rw [hl]; decide), if_pos hd]
            have hk : kdC y b = if enC y b - b ≤ 4 then 3 else 1 := by unfold kdC; rw [if_neg (by omega), if_neg (by rw [hl]; decide), if_pos hd]
            refine runI (X := St) (F := fun n' i υ => P_X12_nextToken_L224 (fun σ_8 => P_X12_nextToken_J299 Q σ_8) Q n' υ) (y := y) (p := isDg) (KK := fun _ υ => P_X12_nextToken_J299 Q υ)
              (fun i υ => Sm ntA σ υ ∧ υ 12 0 4 = i ∧ υ 12 0 5 = b ∧ b ≤ i ∧ (∀ j : Int, b ≤ j → j < i → isDg (y.2 j) = true) ∧ υ 12 0 8 = itr (nuF y) (min (i - b) 4).toNat b 0) (fun n' i υ i0 i1 hJ => ?_) (fun n' υ hJ k => ?_) (by omega) (by omega) (FU_pos (by omega)) ⟨s1, f4, f5, Int.le_refl b, fun j j0 j1 => by omega, by rw [Int.sub_self]; exact f8⟩ (fun υ hJ => ?_)
            · obtain ⟨hs2, g4, g5, bi, hall, g8⟩ := hJ
              have hT2 := TaA_keep hs2 rfl rfl hT
              have hsg : ∀ (R : Int → St → Prop), R (y.2 i) υ → P_X12_signAt i υ R := fun R hR => t_signAt hT2 hW i0 (by omega) (by rw [if_pos i1]; exact hR)
              have hci := hw1 i i0 i1
              refine ⟨fun hp k => ?_, fun hp k' => ?_⟩
              · have hp := of_decide_eq_false hp
                unfold P_X12_nextToken_L224
                rw [g4]
                refine hsg _ ?_
                by_cases q : y.2 i < 48
                · rw [if_pos q]; exact k
                · rw [if_neg q, g4]
                  refine hsg _ ?_
                  rw [if_pos (by omega)]
                  exact k
              · have hall' : ∀ j : Int, b ≤ j → j < i + 1 → isDg (y.2 j) = true := fun j j0 j1 => by
                  by_cases e : j = i
                  · rw [e]; exact hp
                  · exact hall j j0 (by omega)
                have hpd := of_decide_eq_true hp
                unfold P_X12_nextToken_L224
                rw [g4]
                refine hsg _ ?_
                rw [if_neg (by omega), g4]
                refine hsg _ ?_
                rw [if_neg (by omega), g4, g5, wi_id (z := i - b) (by omega) (by omega)]
                unfold P_X12_nextToken_J286
                by_cases h4 : 4 ≤ i - b
                · rw [if_pos h4, g4, wi_id (z := i + 1) (by omega) (by omega)]
                  refine k' _ ⟨Sm_up hs2 rfl, up_at, by rw [up_nx (by decide)]; exact g5, by omega, hall', ?_⟩
                  rw [up_nx (by decide), g8, show min (i + 1 - b) 4 = min (i - b) 4 by omega]
                · rw [if_neg h4]
                  refine hsg _ ?_
                  rw [up_nx (show (4 : Int) ≠ 8 by decide), g4, wi_id (z := i + 1) (by omega) (by omega)]
                  refine k' _ ⟨Sm_up (Sm_up hs2 rfl) rfl, up_at, by rw [up_nx (by decide), up_nx (by decide)]; exact g5, by omega, hall', ?_⟩
                  have em : (min (i + 1 - b) 4).toNat = (i + 1 - b).toNat := by omega
                  have em2 : (min (i - b) 4).toNat = (i - b).toNat := by omega
                  rw [em2] at g8
                  have hnr := nu_rng (y := y) (p := b) (i - b).toNat (fun j j0 j1 => hall j j0 (by omega))
                  have h10 := ten_le (i - b).toNat (by omega)
                  rw [← g8] at hnr
                  rw [up_nx (by decide), up_at, em, itr_i bi, ← g8, wi_id (z := υ 12 0 8 * 10) (by omega) (by omega), wi_id (z := υ 12 0 8 * 10 + _) (by omega) (by omega), wi_id (by omega) (by omega)]
                  rfl
            · have hT2 := TaA_keep hJ.1 rfl rfl hT
              unfold P_X12_nextToken_L224
              rw [hJ.2.1]
              refine t_signAt hT2 hW (by omega) (Int.le_refl _) ?_
              rw [if_neg (Int.lt_irrefl _), if_pos (by decide)]
              exact k
            · rw [← he] at hJ
              obtain ⟨hs2, g4, g5, bi, hall, g8⟩ := hJ
              unfold P_X12_nextToken_J299 P_X12_nextToken_J318
              rw [g4, g5, wi_id (z := enC y b - b) (by omega) (by omega)]
              by_cases h4 : enC y b - b ≤ 4
              · rw [if_pos h4] at hk
                rw [if_pos h4]
                rw [hk] at k
                refine k _ (Sm_up hs2 rfl) (by rw [up_nx (by decide)]; exact g4) (by rw [up_nx (by decide)]; exact g5) (by rw [up_at]; rfl) (fun h => by cases h) (fun _ => ?_)
                rw [up_nx (by decide), g8, show min (enC y b - b) 4 = enC y b - b by omega]
                rfl
              · rw [if_neg h4] at hk
                rw [if_neg h4]
                rw [hk] at k
                exact k _ (Sm_up hs2 rfl) (by rw [up_nx (by decide)]; exact g4) (by rw [up_nx (by decide)]; exact g5) (by rw [up_at]; rfl) (fun h => by cases h) (fun h => by cases h)
      by_cases h97 : y.2 b < 97
      · rw [if_pos h97]
        exact other (decide_eq_false (by omega))
      · rw [if_neg h97]
        by_cases h122 : 122 < y.2 b
        · rw [if_pos h122]
          exact other (decide_eq_false (by omega))
        · rw [if_neg h122]
          have hl : isLt (y.2 b) = true := decide_eq_true (by omega)
          have he : enC y b = rnE isLt y b := by unfold enC; rw [if_pos hl]
          have hk : kdC y b = if enC y b - b ≤ 8 then 2 else 1 := by unfold kdC; rw [if_neg (by omega), if_pos hl]
          refine runI (X := St) (F := fun n' i υ => P_X12_nextToken_L109 (fun σ_15 => P_X12_nextToken_J188 Q σ_15) Q n' υ) (y := y) (p := isLt) (KK := fun _ υ => P_X12_nextToken_J188 Q υ)
            (fun i υ => Sm ntA σ υ ∧ υ 12 0 4 = i ∧ υ 12 0 5 = b ∧ b ≤ i ∧ (∀ j : Int, b ≤ j → j < i → isLt (y.2 j) = true) ∧ υ 12 0 7 = itr (woF y) (min (i - b) 8).toNat b 0) (fun n' i υ i0 i1 hJ => ?_) (fun n' υ hJ k => ?_) (by omega) (by omega) (FU_pos (by omega)) ⟨s1, f4, f5, Int.le_refl b, fun j j0 j1 => by omega, by rw [Int.sub_self]; exact f7⟩ (fun υ hJ => ?_)
          · obtain ⟨hs2, g4, g5, bi, hall, g8⟩ := hJ
            have hT2 := TaA_keep hs2 rfl rfl hT
            have hsg : ∀ (R : Int → St → Prop), R (y.2 i) υ → P_X12_signAt i υ R := fun R hR => t_signAt hT2 hW i0 (by omega) (by rw [if_pos i1]; exact hR)
            have hci := hw1 i i0 i1
            refine ⟨fun hp k => ?_, fun hp k' => ?_⟩
            · have hp := of_decide_eq_false hp
              unfold P_X12_nextToken_L109
              rw [g4]
              refine hsg _ ?_
              by_cases q : y.2 i < 97
              · rw [if_pos q]; exact k
              · rw [if_neg q, g4]
                refine hsg _ ?_
                rw [if_pos (by omega)]
                exact k
            · have hall' : ∀ j : Int, b ≤ j → j < i + 1 → isLt (y.2 j) = true := fun j j0 j1 => by
                by_cases e : j = i
                · rw [e]; exact hp
                · exact hall j j0 (by omega)
              have hpd := of_decide_eq_true hp
              unfold P_X12_nextToken_L109
              rw [g4]
              refine hsg _ ?_
              rw [if_neg (by omega), g4]
              refine hsg _ ?_
              rw [if_neg (by omega), g4, g5, wi_id (z := i - b) (by omega) (by omega)]
              unfold P_X12_nextToken_J175
              by_cases h4 : 8 ≤ i - b
              · rw [if_pos h4, g4, wi_id (z := i + 1) (by omega) (by omega)]
                refine k' _ ⟨Sm_up hs2 rfl, up_at, by rw [up_nx (by decide)]; exact g5, by omega, hall', ?_⟩
                rw [up_nx (by decide), g8, show min (i + 1 - b) 8 = min (i - b) 8 by omega]
              · rw [if_neg h4]
                refine hsg _ ?_
                rw [up_nx (show (4 : Int) ≠ 7 by decide), g4, wi_id (z := i + 1) (by omega) (by omega)]
                refine k' _ ⟨Sm_up (Sm_up hs2 rfl) rfl, up_at, by rw [up_nx (by decide), up_nx (by decide)]; exact g5, by omega, hall', ?_⟩
                have em : (min (i + 1 - b) 8).toNat = (i + 1 - b).toNat := by omega
                have em2 : (min (i - b) 8).toNat = (i - b).toNat := by omega
                rw [em2] at g8
                have hnr := wd_rng (y := y) (p := b) (i - b).toNat (fun j j0 j1 => hall j j0 (by omega))
                have h10 := p27_le (i - b).toNat (by omega)
                have e27 : (27 : Int) ^ 8 = 282429536481 := by decide
                rw [← g8] at hnr
                rw [up_nx (by decide), up_at, em, itr_i bi, ← g8, wj_id (z := υ 12 0 7 * 27) (by omega) (by omega), wj_id (z := υ 12 0 7 * 27 + _) (by omega) (by omega), wj_id (by omega) (by omega)]
                rfl
          · have hT2 := TaA_keep hJ.1 rfl rfl hT
            unfold P_X12_nextToken_L109
            rw [hJ.2.1]
            refine t_signAt hT2 hW (by omega) (Int.le_refl _) ?_
            rw [if_neg (Int.lt_irrefl _), if_pos (by decide)]
            exact k
          · rw [← he] at hJ
            obtain ⟨hs2, g4, g5, bi, hall, g8⟩ := hJ
            unfold P_X12_nextToken_J188 P_X12_nextToken_J208
            rw [g4, g5, wi_id (z := enC y b - b) (by omega) (by omega)]
            by_cases h4 : enC y b - b ≤ 8
            · rw [if_pos h4] at hk
              rw [if_pos h4]
              rw [hk] at k
              refine k _ (Sm_up hs2 rfl) (by rw [up_nx (by decide)]; exact g4) (by rw [up_nx (by decide)]; exact g5) (by rw [up_at]; rfl) (fun _ => ?_) (fun h => by cases h)
              rw [up_nx (by decide), g8, show min (enC y b - b) 8 = enC y b - b by omega]
              rfl
            · rw [if_neg h4] at hk
              rw [if_neg h4]
              rw [hk] at k
              exact k _ (Sm_up hs2 rfl) (by rw [up_nx (by decide)]; exact g4) (by rw [up_nx (by decide)]; exact g5) (by rw [up_at]; rfl) (fun h => by cases h) (fun h => by cases h)
end
