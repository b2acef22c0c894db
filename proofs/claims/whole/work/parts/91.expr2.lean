/-! 91: parts of a law of wear, read by the class -/
section
variable {σ : St}
theorem t_factHere {y : Tp} {N g k : Int} {Q : Int → St → Prop} (h : RS y N g k σ) (kk : ∀ f, (g = 0 → f = fcK y k) → Q f σ) : P_X6_factHere σ Q := by
  unfold P_X6_factHere
  unfold fcK at kk
  refine t_isNumber h (fun w => ?_) (fun w => ?_)
  · rw [if_neg one_no]
    exact kk 0 (fun g0 => by rw [if_pos (w g0)])
  · rw [if_pos rfl]
    refine t_isWord h (by decide) (by decide) (by decide) (fun w1 => ?_) (fun w1 => ?_)
    · rw [if_neg one_no]
      exact kk 1 (fun g0 => by rw [w g0, if_neg (by decide), if_pos (show isW y k 12403754 = true from w1 g0)])
    · rw [if_pos rfl]
      refine t_isWord h (by decide) (by decide) (by decide) (fun w2 => ?_) (fun w2 => ?_)
      · rw [if_neg one_no]
        exact kk 2 (fun g0 => by rw [w g0, if_neg (by decide), show isW y k 12403754 = false from w1 g0, if_neg (by decide), if_pos (show isW y k 370000 = true from w2 g0)])
      · rw [if_pos rfl]
        refine t_isWord h (by decide) (by decide) (by decide) (fun w3 => ?_) (fun w3 => ?_)
        · rw [if_neg one_no]
          exact kk 3 (fun g0 => by rw [w g0, if_neg (by decide), show isW y k 12403754 = false from w1 g0, if_neg (by decide), show isW y k 370000 = false from w2 g0, if_neg (by decide), if_pos (show isW y k 16922 = true from w3 g0)])
        · rw [if_pos rfl]
          refine t_isWord h (by decide) (by decide) (by decide) (fun w4 => ?_) (fun w4 => ?_)
          · rw [if_neg one_no]
            exact kk 4 (fun g0 => by rw [w g0, if_neg (by decide), show isW y k 12403754 = false from w1 g0, if_neg (by decide), show isW y k 370000 = false from w2 g0, if_neg (by decide), show isW y k 16922 = false from w3 g0, if_neg (by decide), if_pos (show isW y k 80006 = true from w4 g0)])
          · rw [if_pos rfl]
            exact kk (-1) (fun g0 => by rw [w g0, if_neg (by decide), show isW y k 12403754 = false from w1 g0, if_neg (by decide), show isW y k 370000 = false from w2 g0, if_neg (by decide), show isW y k 16922 = false from w3 g0, if_neg (by decide), show isW y k 80006 = false from w4 g0, if_neg (by decide)])
theorem fcK_nz {y : Tp} {k : Int} (h : fcK y k ≠ -1) : tK y k ≠ 0 := by
  refine Classical.byContradiction (fun hz => h ?_)
  have hz : tK y k = 0 := Classical.not_not.mp hz
  have hw : ∀ c, isW y k c = false := fun c => by
    cases hh : isW y k c
    · rfl
    · exact absurd hz (isW_nz hh)
  have hn : isN y k = false := by
    cases hh : isN y k
    · rfl
    · exact absurd hz (isN_nz hh)
  unfold fcK
  simp only [hw, hn]
  rfl
theorem fcK_rng {y : Tp} {k : Int} : -1 ≤ fcK y k ∧ fcK y k ≤ 4 := by
  unfold fcK
  repeat' split
  all_goals decide
theorem fcK_num {y : Tp} {k : Int} (h : fcK y k = 0) : isN y k = true := by
  unfold fcK at h
  split at h
  · assumption
  · split at h
    · cases h
    · split at h
      · cases h
      · split at h
        · cases h
        · split at h <;> cases h
/-- what stands at a token: one of them -/
theorem isW_fc {y : Tp} {k : Int} (h : isW y k 10631 = true) : fcK y k = -1 ∧ isS y k 40 = false := by
  unfold isW at h
  rw [Bool.and_eq_true] at h
  have h1 := of_decide_eq_true h.1
  have h2 := of_decide_eq_true h.2
  unfold fcK isN isW isS
  rw [h1, h2]
  exact ⟨rfl, rfl⟩
theorem isS_fc {y : Tp} {k : Int} (h : isS y k 40 = true) : fcK y k = -1 ∧ isW y k 10631 = false := by
  unfold isS at h
  rw [Bool.and_eq_true] at h
  have h1 := of_decide_eq_true h.1
  unfold fcK isN isW
  rw [h1]
  exact ⟨rfl, rfl⟩
theorem t_part {y : Tp} {N : Int} {D : Nat} {d : Int} {RK : Int → Int → Nat → St → (St → Prop) → Prop} {PT : Int → Nat → St → (St → Prop) → Prop} (hW : WfT y) (hN : N ≤ 1000) (hd : d = 5 - D) (hD5 : D ≤ 5)
    (hP : ∀ D', D = D' + 1 → SpC y N (PT (d + 1) 1) (prt y D') ∧ SpC y N (RK 0 (d + 1) 1) (rkk y (prt y D') 4)) : SpC y N (P_X6_readPart_F RK PT d 1) (prt y D) := by
  intro g k ss σ Q hR hD hL kk
  -- what is done once a fault is there
  have bad : ∀ (f a b c : Int) (τ : St), Sm rdE σ τ → DS τ → RS y N f k τ → f ≠ 0 → gof g (prt y D k) = f → P_X6_readPart_J66 RK PT d 1 a b c Q τ := by
    intro f a b c τ s' d' h' hf he
    unfold P_X6_readPart_J66 P_X10_isSound
    rw [h'.2.1, if_neg hf]
    dsimp only
    rw [if_pos rfl]
    refine kk τ s' d' ?_ (fun q => ?_)
    · rw [he]; exact RS_k hf h'
    · rw [he] at q; exact absurd q hf
  unfold P_X6_readPart_F
  refine t_factHere hR (fun f hf => ?_)
  -- not and open
  have main : ∀ x4 x5 : Int, (x4 = 0 ∨ x4 = 1) → (x5 = 0 ∨ x5 = 1) → (g = 0 → (x4 = 1 ↔ isW y k 10631 = true)) → (g = 0 → (x5 = 1 ↔ isS y k 40 = true)) →
      (if f = (-1) then (if x4 = 0 then (if x5 = 0 then P_X10_wrong 1 σ (fun σ_18 => P_X6_readPart_J66 RK PT d 1 f x4 x5 Q σ_18) else P_X6_readPart_J53 RK PT d 1 f x4 x5 Q σ) else P_X6_readPart_J53 RK PT d 1 f x4 x5 Q σ) else P_X6_readPart_J53 RK PT d 1 f x4 x5 Q σ) := by
    intro x4 x5 hx4 hx5 h4 h5
    by_cases g0 : g = 0
    · have hf := hf g0
      have h4 := h4 g0
      have h5 := h5 g0
      obtain ⟨hLs, hLk⟩ := hL g0
      have eg : ∀ a : PR, gof g a = a.1 := fun a => by unfold gof; rw [if_pos g0]
      have wr1 : ∀ c, 1 ≤ c → c ≤ 5 → prt y D k = pF (fl y c k) k → P_X10_wrong c σ (fun σ_18 => P_X6_readPart_J66 RK PT d 1 f x4 x5 Q σ_18) := by
        intro c c0 c1 e
        refine t_wrong hW hR c0 c1 (fun σ1 s1 h1 => ?_)
        rw [if_pos g0] at h1
        exact bad (fl y c k) f x4 x5 σ1 (mem_sub (B := rdE) rfl s1) (DS_keep s1 rfl rfl rfl hD) (RS_k (fl_ne hW c0 c1) h1) (fl_ne hW c0 c1) (by rw [eg, e]; rfl)
      -- a part may begin here
      have j53 : ¬ (fcK y k = -1 ∧ isW y k 10631 = false ∧ isS y k 40 = false) → P_X6_readPart_J53 RK PT d 1 f x4 x5 Q σ := by
        intro hok
        unfold P_X6_readPart_J53
        match D, hd, hD5, hP, kk, wr1, bad with
        | 0, hd, hD5, hP, kk, wr1, bad =>
          rw [if_neg (by omega)]
          refine wr1 5 (by decide) (by decide) ?_
          show (if _ then _ else _) = _
          rw [if_neg hok]
        | D' + 1, hd, hD5, hP, kk, wr1, bad =>
          obtain ⟨hPT, hRK⟩ := hP D' rfl
          have hz : tK y k ≠ 0 := by
            by_cases hf1 : fcK y k = -1
            · cases hw : isW y k 10631
              · cases hs : isS y k 40
                · exact absurd ⟨hf1, hw, hs⟩ hok
                · exact isS_nz hs
              · exact isW_nz hw
            · exact fcK_nz hf1
          rw [if_pos (by omega)]
          unfold P_X6_readPart_J66 P_X10_isSound
          rw [hR.2.1, if_pos g0]
          dsimp only
          rw [if_neg one_no]
          have eun : prt y (D' + 1) k = if fcK y k = -1 then (if isW y k 10631 then prN (prt y D' (k + 1)) else if isS y k 40 then prO y (rkk y (prt y D') 4 (k + 1)) else pF (fl y 1 k) k)
              else (0, k + 1, [(fcK y k, if fcK y k = 0 then tN y k else 0)], [if fcK y k = 0 then 100 + tN y k else fcK y k], vf (fcK y k) (tN y k)) := rfl
          rw [g0] at hR
          have j93 : ∀ x : Int, (fcK y k ≠ -1 → x = if fcK y k = 0 then tN y k else 0) → P_X6_readPart_J93 RK PT d 1 f x4 x5 x Q σ := by
            intro x hx
            have hlen : k < N := by
              have h1 := hR.2.2.2 rfl
              have h2 := hR.2.2.1
              refine Classical.byContradiction (fun q => hz ?_)
              exact (tK_end hR.1 (by omega) (by omega)).mpr (by omega)
            unfold P_X6_readPart_J93
            refine t_next hR (fun _ => hz) (fun σ1 s1 h1 => ?_)
            have d1 := DS_keep s1 rfl rfl rfl hD
            have L1 := LawS_keep s1 rfl hLs
            have s1' := mem_sub (A := pkA) (B := rdE) rfl s1
            rw [wi_id (z := d + 1) (by omega) (by omega)]
            by_cases hnot : isW y k 10631 = true
            · have hx1 := h4.mpr hnot
              rw [if_neg (by omega)]
              have e1 : prt y (D' + 1) k = prN (prt y D' (k + 1)) := by rw [eun, if_pos (isW_fc hnot).1, if_pos hnot]
              rw [e1] at kk
              refine hPT 0 (k + 1) ss σ1 _ h1 d1 (fun _ => ⟨L1, by omega⟩) (fun σ2 s2 d2 h2 L2 => ?_)
              have hob := prt_ok hW D' (k + 1)
              generalize prt y D' (k + 1) = b at kk h2 L2 hob
              have egb : gof g (prN b) = gof 0 b := by
                rw [eg]
                unfold prN gof
                rw [if_pos rfl]
                split
                · rename_i q; rw [q]
                · rfl
              refine t_X2_add (g := gof 0 b) (ss := ss ++ b.2.2.1) d2 (fun q => ⟨L2 q, ?_⟩) (fun σ3 s3 d3 L3 => ?_)
              · have := hob (gof_0 q).2
                have h5 := h2.2.2.2 q
                have h6 := h2.2.2.1
                rw [List.length_append]
                omega
              · refine kk σ3 (s1'.tr (s2.tr (mem_sub (B := rdE) rfl s3))) d3 ?_ (fun q => ?_)
                · rw [egb]
                  have e2 : (prN b).2.1 = b.2.1 := by unfold prN; split <;> rfl
                  rw [e2]
                  exact RS_keep s3 rfl rfl rfl h2
                · rw [egb] at q
                  have := L3 q
                  unfold prN
                  rw [if_pos (gof_0 q).2]
                  rwa [List.append_assoc] at this
            · rw [if_pos (by rcases hx4 with q | q; exact q; exact absurd (h4.mp q) hnot)]
              by_cases hop : isS y k 40 = true
              · have hx1 := h5.mpr hop
                rw [if_neg (by omega)]
                have e1 : prt y (D' + 1) k = prO y (rkk y (prt y D') 4 (k + 1)) := by rw [eun, if_pos (isS_fc hop).1, if_neg hnot, if_pos hop]
                rw [e1] at kk
                refine hRK 0 (k + 1) ss σ1 _ h1 d1 (fun _ => ⟨L1, by omega⟩) (fun σ2 s2 d2 h2 L2 => ?_)
                generalize rkk y (prt y D') 4 (k + 1) = b at kk h2 L2
                refine t_takeSign hW h2 (fun σ3 s3 h3 => ?_)
                have s13 := s1'.tr (s2.tr (mem_sub (A := pkA) (B := rdE) rfl s3))
                have d3 := DS_keep s3 rfl rfl rfl d2
                by_cases hb : b.1 = 0
                · have hgb : gof 0 b = 0 := by unfold gof; rw [if_pos rfl]; exact hb
                  rw [hgb] at h3
                  by_cases hc : isS y b.2.1 41 = true
                  · have e2 : prO y b = (0, b.2.1 + 1, b.2.2.1, 28 :: (b.2.2.2.1 ++ [29]), b.2.2.2.2) := by unfold prO; rw [if_pos hb, if_pos hc]
                    rw [st_t hc] at h3
                    rw [e2] at kk
                    refine kk σ3 s13 d3 ?_ (fun q => LawS_keep s3 rfl (L2 hgb))
                    rw [eg]
                    exact h3
                  · have hc : isS y b.2.1 41 = false := by simpa using hc
                    have e2 : prO y b = pF (fl y 1 b.2.1) b.2.1 := by unfold prO; rw [if_pos hb, if_neg (by rw [hc]; decide)]
                    rw [st_e hc] at h3
                    rw [e2] at kk
                    have hne : fl y 1 b.2.1 ≠ 0 := fl_ne hW (by decide) (by decide)
                    refine kk σ3 s13 d3 ?_ (fun q => ?_)
                    · rw [eg]
                      exact RS_k hne h3
                    · rw [eg] at q
                      exact absurd q hne
                · have hgb : gof 0 b = b.1 := by unfold gof; rw [if_pos rfl]
                  rw [hgb, st_ne hb] at h3
                  have e2 : prO y b = b := by unfold prO; rw [if_neg hb]
                  rw [e2] at kk
                  refine kk σ3 s13 d3 ?_ (fun q => ?_)
                  · rw [eg]
                    exact RS_k hb h3
                  · rw [eg] at q
                    exact absurd q hb
              · rw [if_pos (by rcases hx5 with q | q; exact q; exact absurd (h5.mp q) hop)]
                have hfc : fcK y k ≠ -1 := fun q => hok ⟨q, by simpa using hnot, by simpa using hop⟩
                have e1 : prt y (D' + 1) k = (0, k + 1, [(fcK y k, if fcK y k = 0 then tN y k else 0)], [if fcK y k = 0 then 100 + tN y k else fcK y k], vf (fcK y k) (tN y k)) := by rw [eun, if_neg hfc]
                rw [e1] at kk
                rw [hf, hx hfc]
                refine t_X2_add (g := 0) (ss := ss) d1 (fun _ => ⟨L1, by omega⟩) (fun σ2 s2 d2 L2 => ?_)
                refine kk σ2 (s1'.tr (mem_sub (B := rdE) rfl s2)) d2 ?_ (fun _ => L2 rfl)
                rw [eg]
                exact RS_keep s2 rfl rfl rfl h1
          by_cases hf0 : f = 0
          · rw [if_pos hf0]
            have hnum := fcK_num (by rw [← hf]; exact hf0)
            have hK := of_decide_eq_true hnum
            have hr := nu_ok hK
            have hr : 0 ≤ tN y k ∧ tN y k ≤ 9999 := hr
            have h1 := hR.2.2.2 rfl
            have h2 := hR.2.2.1
            have e : σ 1103 0 (σ 10 0 5) = tN y k := by
              rw [h1]
              exact (hR.1.2.2.2 k (by omega) (by omega)).2.2.2.1 hK
            have hN1 := hR.1.1.2
            unfold P_X10_value
            refine ⟨h2.1, by omega, ?_⟩
            rw [e]
            dsimp only
            rw [wi_id (z := tN y k) (by omega) (by omega)]
            exact j93 _ (fun _ => by rw [← hf, if_pos hf0])
          · rw [if_neg hf0]
            exact j93 _ (fun _ => by rw [← hf, if_neg hf0])
      by_cases hf1 : f = -1
      · rw [if_pos hf1]
        by_cases h40 : x4 = 0
        · rw [if_pos h40]
          have hw : isW y k 10631 = false := by
            cases hh : isW y k 10631
            · rfl
            · have := h4.mpr hh; omega
          by_cases h50 : x5 = 0
          · rw [if_pos h50]
            have hs : isS y k 40 = false := by
              cases hh : isS y k 40
              · rfl
              · have := h5.mpr hh; omega
            refine wr1 1 (by decide) (by decide) ?_
            have hfc : fcK y k = -1 := by rw [← hf]; exact hf1
            match D with
            | 0 =>
              show (if _ then _ else _) = _
              rw [if_pos ⟨hfc, hw, hs⟩]
            | D' + 1 =>
              show (if fcK y k = -1 then _ else _) = _
              rw [if_pos hfc, hw, if_neg (by decide), hs, if_neg (by decide)]
          · rw [if_neg h50]
            refine j53 (fun q => ?_)
            have : isS y k 40 = true := h5.mp (by omega)
            rw [this] at q
            cases q.2.2
        · rw [if_neg h40]
          refine j53 (fun q => ?_)
          have : isW y k 10631 = true := h4.mp (by omega)
          rw [this] at q
          cases q.2.1
      · rw [if_neg hf1]
        exact j53 (fun q => hf1 (by rw [hf]; exact q.1))
    · -- a fault is there
      have he : gof g (prt y D k) = g := by unfold gof; rw [if_neg g0]
      have hb0 : ∀ τ, Sm rdE σ τ → DS τ → RS y N g k τ → P_X6_readPart_J66 RK PT d 1 f x4 x5 Q τ := fun τ s' d' h' => bad g f x4 x5 τ s' d' h' g0 he
      have hb5 : ∀ c, 1 ≤ c → c ≤ 5 → P_X10_wrong c σ (fun σ_18 => P_X6_readPart_J66 RK PT d 1 f x4 x5 Q σ_18) := fun c c0 c1 => t_wrong hW hR c0 c1 (fun σ1 s1 h1 => by
        rw [if_neg g0] at h1
        exact hb0 σ1 (mem_sub (B := rdE) rfl s1) (DS_keep s1 rfl rfl rfl hD) (RS_k g0 h1))
      have hb6 : P_X6_readPart_J53 RK PT d 1 f x4 x5 Q σ := by
        unfold P_X6_readPart_J53
        split
        · exact hb0 σ Sm.rf hD hR
        · exact hb5 5 (by decide) (by decide)
      split
      · split
        · split
          · exact hb5 1 (by decide) (by decide)
          · exact hb6
        · exact hb6
      · exact hb6
  refine t_isWord hR (by decide) (by decide) (by decide) (fun w => ?_) (fun w => ?_)
  · refine t_isSign hR (fun s => ?_) (fun s => ?_)
    · exact main 1 1 (Or.inr rfl) (Or.inr rfl) (fun g0 => ⟨fun _ => w g0, fun _ => rfl⟩) (fun g0 => ⟨fun _ => s g0, fun _ => rfl⟩)
    · exact main 1 0 (Or.inr rfl) (Or.inl rfl) (fun g0 => ⟨fun _ => w g0, fun _ => rfl⟩) (fun g0 => ⟨fun q => absurd q (by decide), fun q => by rw [s g0] at q; cases q⟩)
  · refine t_isSign hR (fun s => ?_) (fun s => ?_)
    · exact main 0 1 (Or.inl rfl) (Or.inr rfl) (fun g0 => ⟨fun q => absurd q (by decide), fun q => by have := w g0; rw [show isW y k (cw 19) = true from q] at this; cases this⟩) (fun g0 => ⟨fun _ => s g0, fun _ => rfl⟩)
    · exact main 0 0 (Or.inl rfl) (Or.inl rfl) (fun g0 => ⟨fun q => absurd q (by decide), fun q => by have := w g0; rw [show isW y k (cw 19) = true from q] at this; cases this⟩) (fun g0 => ⟨fun q => absurd q (by decide), fun q => by rw [s g0] at q; cases q⟩)
theorem rkk_1 {y : Tp} {pp : Int → PR} : rkk y pp 1 = fun k => lop y 3 (rkk y pp 0) 1001 (rkk y pp 0 k) := by
  funext k
  have e : (3 : Int) - ((0 : Nat) : Int) = 3 := rfl
  rw [← e]
  exact (rkk.eq_2 y pp k 0)
theorem rkk_2 {y : Tp} {pp : Int → PR} : rkk y pp 2 = fun k => lop y 2 (rkk y pp 1) 1001 (rkk y pp 1 k) := by
  funext k
  have e : (3 : Int) - ((1 : Nat) : Int) = 2 := rfl
  rw [← e]
  exact (rkk.eq_2 y pp k 1)
theorem rkk_3 {y : Tp} {pp : Int → PR} : rkk y pp 3 = fun k => lop y 1 (rkk y pp 2) 1001 (rkk y pp 2 k) := by
  funext k
  have e : (3 : Int) - ((2 : Nat) : Int) = 1 := rfl
  rw [← e]
  exact (rkk.eq_2 y pp k 2)
theorem rkk_4 {y : Tp} {pp : Int → PR} : rkk y pp 4 = fun k => lop y 0 (rkk y pp 3) 1001 (rkk y pp 3 k) := by
  funext k
  have e : (3 : Int) - ((3 : Nat) : Int) = 0 := rfl
  rw [← e]
  exact (rkk.eq_2 y pp k 3)
theorem PRP_1 (f : Nat) : (PRP (f + 1)).1 = P_X6_readRank_F (PRP f).1 (PRP f).2 := rfl
theorem PRP_2 (f : Nat) : (PRP (f + 1)).2 = P_X6_readPart_F (PRP f).1 (PRP f).2 := rfl
/-- all ranks, over parts -/
theorem t_ranks {y : Tp} {N d : Int} {pp : Int → PR} (hN : N ≤ 1000) (f : Nat) (hp : SpC y N ((PRP f).2 d 1) pp) (ho : PrOk pp) : SpC y N ((PRP (f + 5)).1 0 d 1) (rkk y pp 4) := by
  have r4 : SpC y N ((PRP (f + 1)).1 4 d 1) (rkk y pp 0) := by
    rw [PRP_1]
    intro g k ss σ Q hR hD hL kk
    unfold P_X6_readRank_F
    rw [if_neg (by decide)]
    exact hp g k ss σ Q hR hD hL kk
  have o0 := rkk_ok (y := y) ho 0
  have o1 := rkk_ok (y := y) ho 1
  have o2 := rkk_ok (y := y) ho 2
  have o3 := rkk_ok (y := y) ho 3
  have e4 := rkk_4 (y := y) (pp := pp)
  have e3 := rkk_3 (y := y) (pp := pp)
  have e2 := rkk_2 (y := y) (pp := pp)
  have e1 := rkk_1 (y := y) (pp := pp)
  rw [e4]
  generalize rkk y pp 3 = p3 at e3 o3 ⊢
  generalize rkk y pp 2 = p2 at e3 e2 o2
  generalize rkk y pp 1 = p1 at e2 e1 o1
  generalize rkk y pp 0 = p0 at e1 o0 r4
  have r3 := t_rank (y := y) (N := N) (r := 3) (d := d) (RK := (PRP (f + 1)).1) (PT := (PRP (f + 1)).2) (sub := p0) r4 o0 hN (by decide) (by decide)
  rw [← PRP_1, ← e1] at r3
  have r2 := t_rank (y := y) (N := N) (r := 2) (d := d) (RK := (PRP (f + 1 + 1)).1) (PT := (PRP (f + 1 + 1)).2) (sub := p1) r3 o1 hN (by decide) (by decide)
  rw [← PRP_1, ← e2] at r2
  have r1 := t_rank (y := y) (N := N) (r := 1) (d := d) (RK := (PRP (f + 1 + 1 + 1)).1) (PT := (PRP (f + 1 + 1 + 1)).2) (sub := p2) r2 o2 hN (by decide) (by decide)
  rw [← PRP_1, ← e3] at r1
  have r0 := t_rank (y := y) (N := N) (r := 0) (d := d) (RK := (PRP (f + 1 + 1 + 1 + 1)).1) (PT := (PRP (f + 1 + 1 + 1 + 1)).2) (sub := p3) r1 o3 hN (by decide) (by decide)
  rw [← PRP_1] at r0
  exact r0
theorem t_parts {y : Tp} {N : Int} (hW : WfT y) (hN : N ≤ 1000) : ∀ (D f : Nat), D ≤ 5 → 6 * D + 1 ≤ f → SpC y N ((PRP f).2 (5 - D) 1) (prt y D)
  | 0, f, hD, hf => by
    obtain ⟨f, rfl, -⟩ := fu_ex (m := 0) (n := f) (by omega)
    rw [PRP_2]
    exact t_part (D := 0) hW hN rfl (by decide) (fun D' h => by cases h)
  | D + 1, f, hD, hf => by
    obtain ⟨f, rfl, -⟩ := fu_ex (m := 0) (n := f) (by omega)
    rw [PRP_2]
    refine t_part (D := D + 1) hW hN rfl hD (fun D' h => ?_)
    have e : D' = D := by omega
    subst e
    have e2 : (5 : Int) - ((D' + 1 : Nat) : Int) + 1 = 5 - D' := by omega
    rw [e2]
    refine ⟨t_parts hW hN D' f (by omega) (by omega), ?_⟩
    have := t_ranks hN (f - 5) (t_parts hW hN D' (f - 5) (by omega) (by omega)) (prt_ok hW D')
    rw [show f - 5 + 5 = f by omega] at this
    exact this
/-- the whole law -/
def exW (y : Tp) (k : Int) : PR := rkk y (prt y 5) 4 k
theorem t_law {y : Tp} {N : Int} (hW : WfT y) (hN : N ≤ 1000) : SpC y N (P_X6_readRank 0 0 1) (exW y) := by
  have h := t_ranks hN 59 (t_parts hW hN 5 59 (by decide) (by decide)) (prt_ok hW 5)
  intro g k ss σ Q hR hD hL kk
  unfold P_X6_readRank
  exact h g k ss σ Q hR hD hL kk
end
