/-! 94: parts of a law of wear, read by the reference; the whole law -/
section
variable {σ : St}
theorem a_fact {y : Tp} {k : Int} {Q : Int → St → Prop} (h : RA y k σ) (kk : ∀ f, f = (if 1 ≤ fcK y k then fcK y k else 0) → Q f σ) : P_X12_fact σ Q := by
  have h' := h
  obtain ⟨h1, h2, h3, h4, h5, h6, h7⟩ := h'
  have hr := tK_rng (y := y) (k := k)
  unfold P_X12_fact
  rw [h4]
  by_cases hK : tK y k = 2
  · have hn : isN y k = false := decide_eq_false (by omega)
    have hw : ∀ c, isW y k c = decide (tW y k = c) := fun c => by unfold isW; rw [decide_eq_true hK, Bool.true_and]
    rw [if_pos (by rw [hK]; rfl), h5 hK]
    unfold fcK at kk
    rw [hn] at kk
    simp only [hw, Bool.false_eq_true, if_false, decide_eq_true_eq] at kk
    simp only [lC_0]
    by_cases c1 : tW y k = 12403754
    · rw [if_pos c1]; exact kk 1 (by rw [if_pos c1]; rfl)
    · rw [if_neg c1]
      by_cases c2 : tW y k = 370000
      · rw [if_pos c2]; exact kk 2 (by rw [if_neg c1, if_pos c2]; rfl)
      · rw [if_neg c2]
        by_cases c3 : tW y k = 16922
        · rw [if_pos c3]; exact kk 3 (by rw [if_neg c1, if_neg c2, if_pos c3]; rfl)
        · rw [if_neg c3]
          by_cases c4 : tW y k = 80006
          · rw [if_pos c4]; exact kk 4 (by rw [if_neg c1, if_neg c2, if_neg c3, if_pos c4]; rfl)
          · rw [if_neg c4]; exact kk 0 (by rw [if_neg c1, if_neg c2, if_neg c3, if_neg c4]; rfl)
  · rw [if_neg (show ¬ mK (tK y k) = 1 from fun q => hK ((mK_inj hr (c := 2) (by omega)).mp q))]
    refine kk 0 ?_
    have hw : ∀ c, isW y k c = false := fun c => by unfold isW; rw [decide_eq_false hK, Bool.false_and]
    unfold fcK
    simp only [hw]
    split <;> rfl
theorem a_part {y : Tp} {D : Nat} {d : Int} (hW : WfT y) (hd : d = 5 - D) (hD5 : D ≤ 5)
    (hP : ∀ D', D = D' + 1 → SpP y (prt y D') (d + 1) ∧ SpK y (rkk y (prt y D') 4) 4 (d + 1)) : SpP y (prt y D) d := by
  intro Q n k cs σ hR hC hl hF kk kb
  have hk0 := hR.2.1
  obtain ⟨hF1, hF2⟩ := id hF
  obtain ⟨n, rfl, -⟩ := fu_ex (m := 0) (n := n) (by omega)
  have fail : ∀ c, 1 ≤ c → c ≤ 5 → prt y D k = pF (fl y c k) k → P_X12_fails c σ (fun r_45 σ_44 => (r_45 = 0 ∨ r_45 = 1) ∧ Q r_45 σ_44) := by
    intro c c0 c1 e
    rw [e] at kb
    exact a_failsB hW hR c0 c1 (fun σ' s' e9 => kb (fl_ne hW c0 c1) σ' (mem_sub (B := reA) rfl s') (lo1_sm s' rfl) e9)
  -- a part may begin here
  have j65 : ∀ f x4 x5 : Int, f = (if 1 ≤ fcK y k then fcK y k else 0) → (x4 = 0 ∨ x4 = 1) → (x5 = 0 ∨ x5 = 1) → (x4 = 1 ↔ isW y k 10631 = true) → (x5 = 1 ↔ isS y k 40 = true) → ¬ (fcK y k = -1 ∧ isW y k 10631 = false ∧ isS y k 40 = false) →
      P_X12_reads_J65 d 1 f x4 x5 (P_X12_reads_L11 (rK0 Q) (rK1 Q) (rK2 Q) Q n) (rK0 Q) (rK1 Q) (rK2 Q) Q σ := by
    intro f x4 x5 hf hx4 hx5 h4 h5 hok
    unfold P_X12_reads_J65
    match D, hd, hD5, hP, kk, kb, fail with
    | 0, hd, hD5, hP, kk, kb, fail =>
      rw [if_pos (by omega)]
      refine fail 5 (by decide) (by decide) ?_
      show (if _ then _ else _) = _
      rw [if_neg hok]
    | D' + 1, hd, hD5, hP, kk, kb, fail =>
    obtain ⟨hPT, hRK⟩ := hP D' rfl
    have hz : tK y k ≠ 0 := by
      by_cases hf1 : fcK y k = -1
      · cases hw : isW y k 10631
        · cases hs : isS y k 40
          · exact absurd ⟨hf1, hw, hs⟩ hok
          · exact isS_nz hs
        · exact isW_nz hw
      · exact fcK_nz hf1
    have hk1000 := tK_1000 hW hk0 hz
    have hF' : Fu (k + 1) n := ⟨by omega, by omega⟩
    rw [if_neg (by omega)]
    have eun : prt y (D' + 1) k = if fcK y k = -1 then (if isW y k 10631 then prN (prt y D' (k + 1)) else if isS y k 40 then prO y (rkk y (prt y D') 4 (k + 1)) else pF (fl y 1 k) k)
        else (0, k + 1, [(fcK y k, if fcK y k = 0 then tN y k else 0)], [if fcK y k = 0 then 100 + tN y k else fcK y k], vf (fcK y k) (tN y k)) := rfl
    -- one deeper
    have deep : ∀ (c o : Int), (x4 = 0 → c = 28 ∧ o = 2) → (x4 ≠ 0 → c = 30 ∧ o = 1) → (∀ τ, Sm reA σ τ → lo1 σ τ → (∀ e : Int, e ≤ d → τ 1324 0 e = σ 1324 0 e ∧ τ 1325 0 e = σ 1325 0 e) → τ 1324 0 (d + 1) = o → τ 1325 0 (d + 1) = 0 → RA y (k + 1) τ → CdA τ (cs ++ [c]) → rdL Q n (d + 1) 1 τ) →
        P_X12_reads_J86 d 1 x4 (P_X12_reads_L11 (rK0 Q) (rK1 Q) (rK2 Q) Q n) (rK0 Q) (rK1 Q) (rK2 Q) Q σ := by
      intro c o h0 h1' hh
      have j120 : ∀ τ, Sm puA σ τ → CdA τ (cs ++ [c]) → lo1 σ τ → P_X12_reads_J120 (wi (d + 1)) 1 o (wi (d + 1)) (P_X12_reads_L11 (rK0 Q) (rK1 Q) (rK2 Q) Q n) (rK0 Q) (rK1 Q) (rK2 Q) Q τ := by
        intro τ s1 c1 l1
        unfold P_X12_reads_J120 P_X12_reads_J172
        rw [wi_id (z := d + 1) (by omega) (by omega)]
        refine ⟨by omega, by omega, by omega, by omega, ?_⟩
        have s2 : Sm [(1324, 0, none), (1325, 0, none)] τ (up (up τ 1324 0 (d + 1) o) 1325 0 (d + 1) 0) := Sm_up (Sm_up Sm.rf rfl) rfl
        refine a_next hW (RA_keep s2 rfl rfl rfl rfl rfl rfl rfl (RA_keep s1 rfl rfl rfl rfl rfl rfl rfl hR)) hz (fun υ s3 h3 => ?_)
        refine hh υ ((mem_sub (B := reA) rfl s1).tr ((mem_sub (B := reA) rfl s2).tr (mem_sub (B := reA) rfl s3))) (l1.tr ((lo1_sm s2 rfl).tr (lo1_sm s3 rfl))) (fun e he => ⟨?_, ?_⟩) ?_ ?_ h3 (CdA_keep s3 rfl rfl (CdA_keep s2 rfl rfl c1))
        · rw [s3.row (t := 1324) (i := 0) rfl, up_nt rfl, up_nx (by omega), s1.row (t := 1324) (i := 0) rfl]
        · rw [s3.row (t := 1325) (i := 0) rfl, up_nx (by omega), up_nt rfl, s1.row (t := 1325) (i := 0) rfl]
        · rw [s3.row (t := 1324) (i := 0) rfl, up_nt rfl, up_at]
        · rw [s3.row (t := 1325) (i := 0) rfl, up_at]
      unfold P_X12_reads_J86
      by_cases hx : x4 = 0
      · obtain ⟨rfl, rfl⟩ := h0 hx
        rw [if_pos hx]
        unfold P_X12_reads_J99
        refine a_puts hC (by omega) (fun τ s1 c1 l1 => ?_)
        rw [if_pos hx]
        exact j120 τ s1 c1 l1
      · obtain ⟨rfl, rfl⟩ := h1' hx
        rw [if_neg hx]
        unfold P_X12_reads_J99
        refine a_puts hC (by omega) (fun τ s1 c1 l1 => ?_)
        rw [if_neg hx]
        exact j120 τ s1 c1 l1
    have edn : (d + 1).toNat = d.toNat + 1 := by omega
    have ebs : ∀ op : Int → Int, bs op (d + 1).toNat = if op (d + 1) = 1 then bs op d.toNat else d + 1 := fun op => by
      rw [edn]
      show (if op ((d.toNat + 1 : Nat) : Int) = 1 then bs op d.toNat else ((d.toNat + 1 : Nat) : Int)) = _
      rw [show ((d.toNat + 1 : Nat) : Int) = d + 1 by omega]
    by_cases hnot : isW y k 10631 = true
    · have hx1 := h4.mpr hnot
      rw [if_neg (by omega)]
      have e1 : prt y (D' + 1) k = prN (prt y D' (k + 1)) := by rw [eun, if_pos (isW_fc hnot).1, if_pos hnot]
      rw [e1] at kk kb
      refine deep 30 1 (fun q => by omega) (fun _ => ⟨rfl, rfl⟩) (fun τ s1 l1 he ho hc h1 c1 => ?_)
      refine hPT Q n (k + 1) (cs ++ [30]) τ h1 c1 (by simp only [List.length_append, List.length_cons, List.length_nil]; omega) hF' (fun hb0 n' σ' s' l' he' h' c' f' => ?_) (fun hb0 σ' s' l' e9 => ?_)
      · have ep : prN (prt y D' (k + 1)) = (0, (prt y D' (k + 1)).2.1, (prt y D' (k + 1)).2.2.1 ++ [(5, 0)], 30 :: (prt y D' (k + 1)).2.2.2.1, fun w r e d => if (prt y D' (k + 1)).2.2.2.2 w r e d = 0 then 1 else 0) := by unfold prN; rw [if_pos hb0]
        rw [ep] at kk
        have c'' : CdA σ' (cs ++ (30 :: (prt y D' (k + 1)).2.2.2.1)) := by
          have : cs ++ [30] ++ (prt y D' (k + 1)).2.2.2.1 = cs ++ (30 :: (prt y D' (k + 1)).2.2.2.1) := by simp [List.append_assoc]
          rw [this] at c'
          exact c'
        have := kk rfl n' σ' (s1.tr s') (l1.tr l') (fun e q => ⟨by rw [(he' e (by omega)).1, (he e q).1], by rw [(he' e (by omega)).2, (he e q).2]⟩) h' c'' f'
        rw [ebs, ho, if_pos rfl, bs_con (op' := σ 1324 0) d.toNat (fun e q => (he e (by omega)).1)]
        exact this
      · have ep : prN (prt y D' (k + 1)) = prt y D' (k + 1) := by unfold prN; rw [if_neg hb0]
        rw [ep] at kb
        exact kb hb0 σ' (s1.tr s') (l1.tr l') e9
    · rw [if_pos (hx4.elim (fun q => q) (fun q => absurd (h4.mp q) hnot))]
      by_cases hop : isS y k 40 = true
      · have hx1 := h5.mpr hop
        have hx0 : x4 = 0 := hx4.elim (fun q => q) (fun q => absurd (h4.mp q) hnot)
        rw [if_neg (by omega)]
        have e1 : prt y (D' + 1) k = prO y (rkk y (prt y D') 4 (k + 1)) := by rw [eun, if_pos (isS_fc hop).1, if_neg hnot, if_pos hop]
        rw [e1] at kk kb
        refine deep 28 2 (fun _ => ⟨rfl, rfl⟩) (fun q => absurd hx0 q) (fun τ s1 l1 he ho hc h1 c1 => ?_)
        refine hRK Q n (k + 1) (cs ++ [28]) τ h1 c1 (by simp only [List.length_append, List.length_cons, List.length_nil]; omega) hF' (fun _ => hc) (by rw [ebs, ho, if_neg (by decide)]) (fun hb0 n' σ' s' l' i24 i25 iv2 iv3 iex h' c' f' => ?_) (fun hb0 σ' s' l' e9 => ?_)
        · have hcsb := rkk_cs (prt_cs hW D') 4 (k + 1) hb0
          generalize rkk y (prt y D') 4 (k + 1) = b at kk kb hb0 iex h' c' f' hcsb
          obtain ⟨f1, f2⟩ := id f'
          have hkb := h'.2.1
          obtain ⟨m, rfl, -⟩ := fu_ex (m := 0) (n := n') (by omega)
          refine a_other hW h' (by omega) (by omega) iex (fun q41 _ => ?_) (fun q => ?_)
          · have ep : prO y b = (0, b.2.1 + 1, b.2.2.1, 28 :: (b.2.2.2.1 ++ [29]), b.2.2.2.2) := by unfold prO; rw [if_pos hb0, if_pos q41]
            rw [ep] at kk
            have hz41 := isS_nz q41
            have h1000 := tK_1000 hW hkb hz41
            refine a_puts c' (by simp only [List.length_append, List.length_cons, List.length_nil]; omega) (fun υ s2 c2 l2 => ?_)
            rw [show d + 1 + (-1) = ((d.toNat : Nat) : Int) by omega, wi_id (z := ((d.toNat : Nat) : Int)) (by omega) (by omega)]
            refine a_pop2 d.toNat FU (by omega) (FU_pos (by omega)) ?_
            unfold P_X12_reads_J424
            refine a_next hW (RA_keep s2 rfl rfl rfl rfl rfl rfl rfl h') hz41 (fun ω s3 h3 => ?_)
            have t24 : ∀ e : Int, e ≤ d → υ 1324 0 e = σ 1324 0 e := fun e q => by rw [s2.row (t := 1324) (i := 0) rfl, i24 e (by omega), (he e q).1]
            rw [bs_con (op' := σ 1324 0) d.toNat (fun e q => t24 e (by omega))]
            have c3 : CdA ω (cs ++ (28 :: (b.2.2.2.1 ++ [29]))) := by
              have : cs ++ [28] ++ b.2.2.2.1 ++ [29] = cs ++ (28 :: (b.2.2.2.1 ++ [29])) := by simp [List.append_assoc]
              rw [this] at c2
              exact CdA_keep s3 rfl rfl c2
            refine kk rfl m ω (s1.tr (s'.tr ((mem_sub (B := reA) rfl s2).tr (mem_sub (B := reA) rfl s3)))) (l1.tr (l'.tr (l2.tr (lo1_sm s3 rfl)))) (fun e q => ⟨?_, ?_⟩) h3 c3 ⟨by omega, by dsimp only; omega⟩
            · rw [s3.row (t := 1324) (i := 0) rfl, t24 e q]
            · rw [s3.row (t := 1325) (i := 0) rfl, s2.row (t := 1325) (i := 0) rfl, i25 e (by omega), (he e q).2]
          · have q41 : isS y b.2.1 41 = false := q.elim (fun q => q) (fun q => by omega)
            have ep : prO y b = pF (fl y 1 b.2.1) b.2.1 := by unfold prO; rw [if_pos hb0, if_neg (by rw [q41]; decide)]
            rw [ep] at kb
            unfold P_X12_reads_J399 P_X12_reads_J418
            rw [if_neg (by omega)]
            exact a_failsB hW h' (by decide) (by decide) (fun υ s2 e9 => kb (fl_ne hW (by decide) (by decide)) υ (s1.tr (s'.tr (mem_sub (B := reA) rfl s2))) (l1.tr (l'.tr (lo1_sm s2 rfl))) e9)
        · have ep : prO y (rkk y (prt y D') 4 (k + 1)) = rkk y (prt y D') 4 (k + 1) := by unfold prO; rw [if_neg hb0]
          rw [ep] at kb
          exact kb hb0 σ' (s1.tr s') (l1.tr l') e9
      · rw [if_pos (hx5.elim (fun q => q) (fun q => absurd (h5.mp q) hop))]
        have hfc : fcK y k ≠ -1 := fun q => hok ⟨q, by simpa using hnot, by simpa using hop⟩
        have hfr := fcK_rng (y := y) (k := k)
        have e1 : prt y (D' + 1) k = (0, k + 1, [(fcK y k, if fcK y k = 0 then tN y k else 0)], [if fcK y k = 0 then 100 + tN y k else fcK y k], vf (fcK y k) (tN y k)) := by rw [eun, if_neg hfc]
        rw [e1] at kk
        have j147 : ∀ c, c = (if fcK y k = 0 then 100 + tN y k else fcK y k) → P_X12_reads_J147 d c (P_X12_reads_L11 (rK0 Q) (rK1 Q) (rK2 Q) Q n) (rK0 Q) (rK1 Q) (rK2 Q) Q σ := by
          intro c hc
          unfold P_X12_reads_J147
          refine a_puts hC (by omega) (fun τ s1 c1 l1 => ?_)
          have ed : d = ((d.toNat : Nat) : Int) := by omega
          have hpop := a_pop1 (σ := τ) (K := fun x1_41 σ_42 => P_X12_reads_J172 x1_41 0 (P_X12_reads_L11 (rK0 Q) (rK1 Q) (rK2 Q) Q n) (rK0 Q) (rK1 Q) (rK2 Q) Q σ_42) (Q := Q) (w := 0) d.toNat FU (by omega) (FU_pos (by omega)) ?_
          · rw [← ed] at hpop
            exact hpop
          unfold P_X12_reads_J172
          refine a_next hW (RA_keep s1 rfl rfl rfl rfl rfl rfl rfl hR) hz (fun υ s2 h2 => ?_)
          rw [s1.row (t := 1324) (i := 0) rfl]
          refine kk rfl n υ ((mem_sub (B := reA) rfl s1).tr (mem_sub (B := reA) rfl s2)) (l1.tr (lo1_sm s2 rfl)) (fun e q => ⟨?_, ?_⟩) h2 ?_ hF'
          · rw [s2.row (t := 1324) (i := 0) rfl, s1.row (t := 1324) (i := 0) rfl]
          · rw [s2.row (t := 1325) (i := 0) rfl, s1.row (t := 1325) (i := 0) rfl]
          · rw [← hc]
            exact CdA_keep s2 rfl rfl c1
        by_cases hf0 : f ≤ 0
        · rw [if_pos hf0]
          have h0 : fcK y k = 0 := by
            rw [hf] at hf0
            split at hf0 <;> omega
          have hnum := of_decide_eq_true (fcK_num h0)
          have hr := nu_ok hnum
          have hr : 0 ≤ tN y k ∧ tN y k ≤ 9999 := hr
          rw [hR.2.2.2.2.2.1 hnum, wi_id (z := 100 + tN y k) (by omega) (by omega)]
          exact j147 _ (by rw [if_pos h0])
        · rw [if_neg hf0]
          have h1 : 1 ≤ fcK y k := by
            rw [hf] at hf0
            split at hf0 <;> omega
          have e : f = fcK y k := by rw [hf, if_pos h1]
          exact j147 _ (by rw [e, if_neg (by omega)])
  show P_X12_reads_L11 (rK0 Q) (rK1 Q) (rK2 Q) Q (n + 1) d 1 σ
  unfold P_X12_reads_L11
  rw [if_neg one_no]
  refine a_fact hR (fun f hf => ?_)
  have main : ∀ x4 x5 : Int, (x4 = 0 ∨ x4 = 1) → (x5 = 0 ∨ x5 = 1) → (x4 = 1 ↔ isW y k 10631 = true) → (x5 = 1 ↔ isS y k 40 = true) →
      (if f = 0 then (if x4 = 0 then (if x5 = 0 then (if (σ 12 0 6) = 2 then P_X12_reads_J65 d 1 f x4 x5 (P_X12_reads_L11 (rK0 Q) (rK1 Q) (rK2 Q) Q n) (rK0 Q) (rK1 Q) (rK2 Q) Q σ else rK0 Q σ) else P_X12_reads_J65 d 1 f x4 x5 (P_X12_reads_L11 (rK0 Q) (rK1 Q) (rK2 Q) Q n) (rK0 Q) (rK1 Q) (rK2 Q) Q σ) else P_X12_reads_J65 d 1 f x4 x5 (P_X12_reads_L11 (rK0 Q) (rK1 Q) (rK2 Q) Q n) (rK0 Q) (rK1 Q) (rK2 Q) Q σ) else P_X12_reads_J65 d 1 f x4 x5 (P_X12_reads_L11 (rK0 Q) (rK1 Q) (rK2 Q) Q n) (rK0 Q) (rK1 Q) (rK2 Q) Q σ) := by
    intro x4 x5 hx4 hx5 h4 h5
    have go := j65 f x4 x5 hf hx4 hx5 h4 h5
    by_cases hf0 : f = 0
    · rw [if_pos hf0]
      by_cases h40 : x4 = 0
      · rw [if_pos h40]
        by_cases h50 : x5 = 0
        · rw [if_pos h50]
          have hw : isW y k 10631 = false := by
            cases hh : isW y k 10631
            · rfl
            · have := h4.mpr hh; omega
          have hs : isS y k 40 = false := by
            cases hh : isS y k 40
            · rfl
            · have := h5.mpr hh; omega
          by_cases hn : (σ 12 0 6) = 2
          · rw [if_pos hn]
            refine go (fun q => ?_)
            have := (a_num hR).mp hn
            have q := q.1
            unfold fcK at q
            rw [if_pos this] at q
            cases q
          · rw [if_neg hn]
            have hnum : isN y k = false := by
              cases hh : isN y k
              · rfl
              · exact absurd ((a_num hR).mpr hh) hn
            have hfc : fcK y k = -1 := by
              have h1 : ¬ 1 ≤ fcK y k := fun q => by
                rw [if_pos q] at hf
                omega
              have h2 := fcK_rng (y := y) (k := k)
              have h3 : fcK y k ≠ 0 := fun q => by
                have := fcK_num q
                rw [hnum] at this
                cases this
              omega
            refine fail 1 (by decide) (by decide) ?_
            match D with
            | 0 =>
              show (if _ then _ else _) = _
              rw [if_pos ⟨hfc, hw, hs⟩]
            | D' + 1 =>
              show (if fcK y k = -1 then _ else _) = _
              rw [if_pos hfc, hw, if_neg (by decide), hs, if_neg (by decide)]
        · rw [if_neg h50]
          refine go (fun q => ?_)
          have : isS y k 40 = true := h5.mp (by omega)
          rw [this] at q
          cases q.2.2
      · rw [if_neg h40]
        refine go (fun q => ?_)
        have : isW y k 10631 = true := h4.mp (by omega)
        rw [this] at q
        cases q.2.1
    · rw [if_neg hf0]
      refine go (fun q => hf0 ?_)
      rw [hf, q.1]
      rfl
  refine a_isWord hR (fun w => ?_) (fun w => ?_)
  · refine a_isSign hW hR (fun s => ?_) (fun s => ?_)
    · exact main 1 1 (Or.inr rfl) (Or.inr rfl) ⟨fun _ => w, fun _ => rfl⟩ ⟨fun _ => s, fun _ => rfl⟩
    · exact main 1 0 (Or.inr rfl) (Or.inl rfl) ⟨fun _ => w, fun _ => rfl⟩ ⟨fun q => absurd q (by decide), fun q => by rw [s] at q; cases q⟩
  · refine a_isSign hW hR (fun s => ?_) (fun s => ?_)
    · exact main 0 1 (Or.inl rfl) (Or.inr rfl) ⟨fun q => absurd q (by decide), fun q => by rw [w] at q; cases q⟩ ⟨fun _ => s, fun _ => rfl⟩
    · exact main 0 0 (Or.inl rfl) (Or.inl rfl) ⟨fun q => absurd q (by decide), fun q => by rw [w] at q; cases q⟩ ⟨fun q => absurd q (by decide), fun q => by rw [s] at q; cases q⟩
theorem a_parts {y : Tp} (hW : WfT y) : ∀ D : Nat, D ≤ 5 → SpP y (prt y D) (5 - D)
  | 0, _ => a_part (D := 0) hW rfl (by decide) (fun D' h => by cases h)
  | D + 1, hD => by
    refine a_part (D := D + 1) hW rfl hD (fun D' h => ?_)
    have e : D' = D := by omega
    subst e
    have e2 : (5 : Int) - ((D' + 1 : Nat) : Int) + 1 = 5 - D' := by omega
    rw [e2]
    have hp := a_parts hW D' (by omega)
    exact ⟨hp, a_ranks hW hp (prt_ok hW D') (prt_cs hW D') (by omega) (by omega) 4 (by decide)⟩
/-- the law, up to its semicolon, gone past -/
def exG (y : Tp) (g k : Int) : Int := st (gof g (exW y k)) (isS y (exW y k).2.1 59) (fl y 1 (exW y k).2.1)
theorem a_law {y : Tp} {k : Int} {Q : Int → St → Prop} (hW : WfT y) (h : RA y k σ) (h22 : σ 12 0 22 = 1000)
    (k0 : exG y 0 k ≠ 0 → ∀ σ', Sm reA σ σ' → lo1 σ σ' → σ' 12 0 9 = exG y 0 k → Q 0 σ')
    (k1 : exG y 0 k = 0 → (exW y k).1 = 0 → ∀ σ', Sm reA σ σ' → lo1 σ σ' → RA y ((exW y k).2.1 + 1) σ' → CdA σ' (exW y k).2.2.2.1 → Q 1 σ') : P_X12_reads σ Q := by
  have hk0 := h.2.1
  have hp := a_parts hW 5 (by decide)
  rw [show (5 : Int) - ((5 : Nat) : Int) = 0 from rfl] at hp
  have hK := a_ranks hW hp (prt_ok hW 5) (prt_cs hW 5) (Int.le_refl 0) (by decide) 4 (by decide)
  have s1 : Sm [(1325, 0, none)] σ (up σ 1325 0 0 0) := Sm_up Sm.rf rfl
  have s1' := mem_sub (A := [(1325, 0, none)]) (B := reA) rfl s1
  have hR1 := RA_keep s1 rfl rfl rfl rfl rfl rfl rfl h
  have eg : ∀ a : PR, gof 0 a = a.1 := fun a => by unfold gof; rw [if_pos rfl]
  unfold exG at k0 k1
  rw [eg] at k0 k1
  show rdL Q FU 0 1 (up σ 1325 0 0 0)
  refine hK Q FU k [] _ hR1 ⟨by rw [up_nt rfl, h22]; rfl, fun i hi => absurd hi (Nat.not_lt_zero i)⟩ (by show (0 : Int) ≤ k; omega) ⟨by unfold FU; omega, by unfold FU; omega⟩ (fun _ => up_at) rfl (fun hb0 n' σ' s' l' i24 i25 iv2 iv3 iex h' c' f' => ?_) (fun hb0 σ' s' l' e9 => ?_)
  · have hb0' : (exW y k).1 = 0 := hb0
    have iex : exC y 4 (exW y k).2.1 (σ' 1325 0 0) := iex
    have h' : RA y (exW y k).2.1 σ' := h'
    have c' : CdA σ' ([] ++ (exW y k).2.2.2.1) := c'
    have f' : Fu (exW y k).2.1 n' := f'
    rw [hb0'] at k0 k1
    generalize exW y k = b at k0 k1 iex h' c' f'
    obtain ⟨f1, f2⟩ := f'
    obtain ⟨m, rfl, -⟩ := fu_ex (m := 0) (n := n') (by omega)
    refine a_other hW h' (Int.le_refl 0) (by decide) iex (fun _ q => absurd q (by decide)) (fun _ => ?_)
    unfold P_X12_reads_J399 P_X12_reads_J418
    rw [if_pos rfl]
    refine a_isSign hW h' (fun q => ?_) (fun q => ?_)
    · rw [if_neg one_no]
      refine a_next hW h' (isS_nz q) (fun υ s2 h2 => ?_)
      refine k1 (st_t q) rfl υ (s1'.tr (s'.tr (mem_sub (B := reA) rfl s2))) ((lo1_sm s1 rfl).tr (l'.tr (lo1_sm s2 rfl))) h2 ?_
      have c' : CdA σ' b.2.2.2.1 := c'
      exact CdA_keep s2 rfl rfl c'
    · rw [if_pos rfl]
      rw [st_e q] at k0
      exact a_failsB hW h' (by decide) (by decide) (fun υ s2 e9 => k0 (fl_ne hW (by decide) (by decide)) υ (s1'.tr (s'.tr (mem_sub (B := reA) rfl s2))) ((lo1_sm s1 rfl).tr (l'.tr (lo1_sm s2 rfl))) e9)
  · have hb0' : (exW y k).1 ≠ 0 := hb0
    rw [st_ne hb0'] at k0
    exact k0 hb0' σ' (s1'.tr s') ((lo1_sm s1 rfl).tr l') e9
end
