/-! 97.o: the reference reads a run -/
section
variable {σ : St} {y : Tp} {k : Int} {e : Nt} {l : Ln}
theorem m_line {Q : Int → St → Prop} (hW : WfT y) (h : RA y k σ) (hN : NA σ e) (hL : LnA σ 5 l) (hw : 0 ≤ l.1 ∧ l.1 ≤ 40)
    (k0 : lnG y (lnR y e l k) ≠ 0 → ∀ σ', FLn σ σ' → σ' 12 0 9 = lnG y (lnR y e l k) → Q 0 σ')
    (k1 : lnG y (lnR y e l k) = 0 → ∀ σ', FLn σ σ' → RA y ((lnR y e l k).2.1 + 1) σ' → LnA σ' 5 (lnR y e l k).2.2 → Q 1 σ') : P_X12_readsLine σ Q := by
  have F : ∀ {c j : Int}, 1 ≤ c → c ≤ 5 → fl y c j ≠ 0 := fun c0 c1 => fl_ne hW c0 c1
  have F1 : ∀ j : Int, fl y 1 j ≠ 0 := fun j => F (by decide) (by decide)
  have F5 : ∀ j : Int, fl y 5 j ≠ 0 := fun j => F (by decide) (by decide)
  have e5 : σ 1338 0 5 = l.1 := hL.1
  have body : P_X12_readsLine_J71 (ddW y k) Q σ := by
    have hr := ddW_rng (y := y) (k := k)
    unfold P_X12_readsLine_J71
    by_cases hd : 0 ≤ ddW y k
    · rw [if_pos hd]
      have e1 : ln1 y l k = st 0 (decide (l.1 < 40)) (fl y 5 k) := by unfold ln1; rw [if_neg (by omega)]
      rw [e5]
      by_cases h40 : l.1 = 40
      · rw [if_pos h40]
        have e2 : ln1 y l k = fl y 5 k := by rw [e1]; exact st_e (decide_eq_false (by omega))
        have eG : lnG y (lnR y e l k) = fl y 5 k := by
          unfold lnG lnR
          rw [e2]
          split
          · dsimp only; rw [tolG_ne (F5 _), st_ne (F5 _)]
          · split
            · dsimp only; rw [tolG_ne (F5 _), tolG_ne (F5 _), st_ne (F5 _)]
            · split
              · dsimp only; rw [tolG_ne (F5 _), numG_ne (F5 _), st_ne (F5 _)]
              · dsimp only; rw [st_ne (F5 _)]
        rw [eG] at k0
        exact a_failsB hW h (by decide) (by decide) (fun σ' s' e9 => k0 (F5 _) σ' ((FB_of (c := 0) s' (mem_sub rfl s') rfl).fl (Int.le_refl 0)) e9)
      · rw [if_neg h40]
        have h0 : 0 ≤ l.1 ∧ l.1 < 40 := by omega
        have e2 : ln1 y l k = 0 := by rw [e1]; exact st_t (decide_eq_true (by omega))
        refine a_next hW h (ddW_nz (by omega)) (fun σ1 s1 h1 => ?_)
        have f1 : FB l.1 σ σ1 := FB_of s1 (mem_sub rfl s1) rfl
        have e51 : σ1 1338 0 5 = l.1 := by rw [f1.2.1, e5]
        rw [e51, wi_id (z := 200 + l.1) (by omega) (by omega)]
        refine ⟨by omega, by omega, ?_⟩
        have su : Sm [(1339, 0, none)] σ1 (up σ1 1339 0 (200 + l.1) (ddW y k)) := Sm_up Sm.rf rfl
        have fu : FB l.1 σ (up σ1 1339 0 (200 + l.1) (ddW y k)) := f1.tr (FB_up (Int.le_refl _) rfl rfl)
        have ru : (up σ1 1339 0 (200 + l.1) (ddW y k)) 1339 0 (200 + l.1) = ddW y k := up_at
        have hu := RA_keep su rfl rfl rfl rfl rfl rfl rfl h1
        have nu := NA_keep su rfl (NA_keep s1 rfl hN)
        generalize (up σ1 1339 0 (200 + l.1) (ddW y k)) = υ at fu ru hu nu su
        unfold lnG lnR at k0 k1
        rw [e2] at k0 k1
        by_cases d1 : ddW y k = 1
        · rw [if_pos d1] at k0 k1 ⊢
          dsimp only at k0 k1
          unfold P_X12_readsLine_J131
          refine m_ball hW hu nu (fun hf σ' s' e9 => ?_) (fun hn σ2 s2 h2 e36 => ?_)
          · rw [if_pos rfl]
            rw [st_ne hf] at k0
            exact k0 hf σ' ((fu.tr (FB_of s' (mem_sub rfl s') rfl)).fl h0.1) e9
          · rw [if_neg one_no]
            rw [hn] at k0 k1
            rw [e36]
            refine ⟨by omega, by omega, ?_⟩
            have sv : Sm [(1340, 0, none)] σ2 (up σ2 1340 0 (200 + l.1) (ixN e.2.2.1 e.2.2.2 (tW y (k + 1)))) := Sm_up Sm.rf rfl
            have fv : FB l.1 σ (up σ2 1340 0 (200 + l.1) (ixN e.2.2.1 e.2.2.2 (tW y (k + 1)))) := (fu.tr (FB_of s2 (mem_sub rfl s2) rfl)).tr (FB_up (Int.le_refl _) rfl rfl)
            unfold P_X12_readsLine_J155
            rw [if_neg (by omega), if_neg (by omega)]
            unfold P_X12_readsLine_J189
            rw [if_neg (by omega)]
            refine m_end (a := 1) (b := ixN e.2.2.1 e.2.2.2 (tW y (k + 1))) (c := 0) hW (RA_keep sv rfl rfl rfl rfl rfl rfl rfl h2) h0 hL fv ?_ (fun _ => up_at) (fun q => absurd q (by decide)) (fun q => absurd q (by decide)) k0 k1
            rw [up_nt rfl, s2.row (t := 1339) (i := 0) rfl, ru, d1]
        · rw [if_neg d1] at k0 k1 ⊢
          by_cases d3 : ddW y k = 3
          · rw [if_pos d3] at k0 k1 ⊢
            dsimp only at k0 k1
            unfold P_X12_readsLine_J131
            refine m_ball hW hu nu (fun hf σ' s' e9 => ?_) (fun hn σ2 s2 h2 e36 => ?_)
            · rw [if_pos rfl]
              rw [tolG_ne hf, st_ne hf] at k0
              exact k0 hf σ' ((fu.tr (FB_of s' (mem_sub rfl s') rfl)).fl h0.1) e9
            · rw [if_neg one_no]
              rw [hn] at k0 k1
              rw [e36]
              refine ⟨by omega, by omega, ?_⟩
              have sv : Sm [(1340, 0, none)] σ2 (up σ2 1340 0 (200 + l.1) (ixN e.2.2.1 e.2.2.2 (tW y (k + 1)))) := Sm_up Sm.rf rfl
              have fv : FB l.1 σ (up σ2 1340 0 (200 + l.1) (ixN e.2.2.1 e.2.2.2 (tW y (k + 1)))) := (fu.tr (FB_of s2 (mem_sub rfl s2) rfl)).tr (FB_up (Int.le_refl _) rfl rfl)
              have rv : (up σ2 1340 0 (200 + l.1) (ixN e.2.2.1 e.2.2.2 (tW y (k + 1)))) 1340 0 (200 + l.1) = ixN e.2.2.1 e.2.2.2 (tW y (k + 1)) := up_at
              have r9 : (up σ2 1340 0 (200 + l.1) (ixN e.2.2.1 e.2.2.2 (tW y (k + 1)))) 1339 0 (200 + l.1) = 3 := by rw [up_nt rfl, s2.row (t := 1339) (i := 0) rfl, ru, d3]
              have hv := RA_keep sv rfl rfl rfl rfl rfl rfl rfl h2
              have nv := NA_keep sv rfl (NA_keep s2 rfl nu)
              generalize (up σ2 1340 0 (200 + l.1) (ixN e.2.2.1 e.2.2.2 (tW y (k + 1)))) = υ2 at fv rv r9 hv nv
              unfold P_X12_readsLine_J155
              rw [if_neg (by omega), if_pos d3]
              unfold P_X12_readsLine_J165
              refine m_counter hW hv nv (fun hf σ' s' e9 => ?_) (fun hn2 σ3 s3 h3 e36 => ?_)
              · rw [if_pos rfl]
                rw [st_ne hf] at k0
                exact k0 hf σ' ((fv.tr (FB_of s' (mem_sub rfl s') rfl)).fl h0.1) e9
              · rw [if_neg one_no]
                rw [hn2] at k0 k1
                rw [e36]
                refine ⟨by omega, by omega, ?_⟩
                have sx : Sm [(1341, 0, none)] σ3 (up σ3 1341 0 (200 + l.1) (ixN e.1 e.2.1 (tW y (k + 1 + 1)))) := Sm_up Sm.rf rfl
                have fx : FB l.1 σ (up σ3 1341 0 (200 + l.1) (ixN e.1 e.2.1 (tW y (k + 1 + 1)))) := (fv.tr (FB_of s3 (mem_sub rfl s3) rfl)).tr (FB_up (Int.le_refl _) rfl rfl)
                unfold P_X12_readsLine_J189
                rw [if_neg (by omega)]
                refine m_end (a := 3) (b := ixN e.2.2.1 e.2.2.2 (tW y (k + 1))) (c := ixN e.1 e.2.1 (tW y (k + 1 + 1))) hW (RA_keep sx rfl rfl rfl rfl rfl rfl rfl h3) h0 hL fx ?_ (fun _ => ?_) (fun _ => up_at) (fun q => absurd q (by decide)) k0 k1
                · rw [up_nt rfl, s3.row (t := 1339) (i := 0) rfl, r9]
                · rw [up_nt rfl, s3.row (t := 1340) (i := 0) rfl, rv]
          · rw [if_neg d3] at k0 k1 ⊢
            unfold P_X12_readsLine_J155
            by_cases d2 : ddW y k = 2
            · rw [if_pos d2] at k0 k1 ⊢
              dsimp only at k0 k1
              unfold P_X12_readsLine_J165
              refine m_counter hW hu nu (fun hf σ' s' e9 => ?_) (fun hn σ2 s2 h2 e36 => ?_)
              · rw [if_pos rfl]
                rw [numG_ne hf, st_ne hf] at k0
                exact k0 hf σ' ((fu.tr (FB_of s' (mem_sub rfl s') rfl)).fl h0.1) e9
              · rw [if_neg one_no]
                rw [hn] at k0 k1
                rw [e36]
                refine ⟨by omega, by omega, ?_⟩
                have sv : Sm [(1341, 0, none)] σ2 (up σ2 1341 0 (200 + l.1) (ixN e.1 e.2.1 (tW y (k + 1)))) := Sm_up Sm.rf rfl
                have fv : FB l.1 σ (up σ2 1341 0 (200 + l.1) (ixN e.1 e.2.1 (tW y (k + 1)))) := (fu.tr (FB_of s2 (mem_sub rfl s2) rfl)).tr (FB_up (Int.le_refl _) rfl rfl)
                have rv : (up σ2 1341 0 (200 + l.1) (ixN e.1 e.2.1 (tW y (k + 1)))) 1341 0 (200 + l.1) = ixN e.1 e.2.1 (tW y (k + 1)) := up_at
                have r9 : (up σ2 1341 0 (200 + l.1) (ixN e.1 e.2.1 (tW y (k + 1)))) 1339 0 (200 + l.1) = 2 := by rw [up_nt rfl, s2.row (t := 1339) (i := 0) rfl, ru, d2]
                have hv := RA_keep sv rfl rfl rfl rfl rfl rfl rfl h2
                generalize (up σ2 1341 0 (200 + l.1) (ixN e.1 e.2.1 (tW y (k + 1)))) = υ2 at fv rv r9 hv
                unfold P_X12_readsLine_J189
                rw [if_pos d2]
                refine a_needsNumber hW hv (fun hf σ' s' e9 => ?_) (fun hn2 σ3 s3 h3 e36 => ?_)
                · rw [if_pos rfl]
                  rw [st_ne hf] at k0
                  exact k0 hf σ' ((fv.tr (FB_of s' (mem_sub rfl s') rfl)).fl h0.1) e9
                · rw [if_neg one_no]
                  rw [hn2] at k0 k1
                  rw [e36]
                  refine ⟨by omega, by omega, ?_⟩
                  have sx : Sm [(1340, 0, none)] σ3 (up σ3 1340 0 (200 + l.1) (tN y (k + 1 + 1))) := Sm_up Sm.rf rfl
                  have fx : FB l.1 σ (up σ3 1340 0 (200 + l.1) (tN y (k + 1 + 1))) := (fv.tr (FB_of s3 (mem_sub rfl s3) rfl)).tr (FB_up (Int.le_refl _) rfl rfl)
                  refine m_end (a := 2) (b := ixN e.1 e.2.1 (tW y (k + 1))) (c := tN y (k + 1 + 1)) hW (RA_keep sx rfl rfl rfl rfl rfl rfl rfl h3) h0 hL fx ?_ (fun q => absurd q (by decide)) (fun q => absurd q (by decide)) (fun _ => ⟨?_, up_at⟩) k0 k1
                  · rw [up_nt rfl, s3.row (t := 1339) (i := 0) rfl, r9]
                  · rw [up_nt rfl, s3.row (t := 1341) (i := 0) rfl, rv]
            · rw [if_neg d2] at k0 k1 ⊢
              dsimp only at k0 k1
              rw [if_neg d3]
              unfold P_X12_readsLine_J189
              rw [if_neg d2]
              exact m_end (a := ddW y k) (b := 0) (c := 0) hW hu h0 hL fu ru (fun q => by omega) (fun q => by omega) (fun q => by omega) k0 k1
    · rw [if_neg hd]
      have ed : ddW y k = -1 := by omega
      have e1 : ln1 y l k = fl y 1 k := by unfold ln1; rw [if_pos ed]
      have eG : lnG y (lnR y e l k) = fl y 1 k := by
        unfold lnG lnR
        rw [ed, if_neg (by decide), if_neg (by decide), if_neg (by decide), e1]
        dsimp only
        rw [st_ne (F1 _)]
      rw [eG] at k0
      exact a_failsB hW h (by decide) (by decide) (fun σ' s' e9 => k0 (F1 _) σ' ((FB_of (c := 0) s' (mem_sub rfl s') rfl).fl (Int.le_refl 0)) e9)
  unfold P_X12_readsLine
  refine a_isWord h (fun w0 => ?_) (fun w0 => ?_)
  · rw [if_neg one_no]
    have ed : ddW y k = 0 := by unfold ddW; rw [if_pos w0]
    rw [ed] at body; exact body
  · rw [if_pos rfl]
    have n0 : ¬ isW y k 43058 = true := fun q => by rw [w0] at q; cases q
    refine a_isWord h (fun w1 => ?_) (fun w1 => ?_)
    · rw [if_neg one_no]
      have ed : ddW y k = 1 := by unfold ddW; rw [if_neg n0, if_pos w1]
      rw [ed] at body; exact body
    · rw [if_pos rfl]
      have n1 : ¬ isW y k 378004 = true := fun q => by rw [w1] at q; cases q
      refine a_isWord h (fun w2 => ?_) (fun w2 => ?_)
      · rw [if_neg one_no]
        have ed : ddW y k = 2 := by unfold ddW; rw [if_neg n0, if_neg n1, if_pos w2]
        rw [ed] at body; exact body
      · rw [if_pos rfl]
        have n2 : ¬ isW y k 14006 = true := fun q => by rw [w2] at q; cases q
        refine a_isWord h (fun w3 => ?_) (fun w3 => ?_)
        · rw [if_neg one_no]
          have ed : ddW y k = 3 := by unfold ddW; rw [if_neg n0, if_neg n1, if_neg n2, if_pos w3]
          rw [ed] at body; exact body
        · rw [if_pos rfl]
          have n3 : ¬ isW y k 1627639 = true := fun q => by rw [w3] at q; cases q
          refine a_isWord h (fun w4 => ?_) (fun w4 => ?_)
          · rw [if_neg one_no]
            have ed : ddW y k = 4 := by unfold ddW; rw [if_neg n0, if_neg n1, if_neg n2, if_neg n3, if_pos w4]
            rw [ed] at body; exact body
          · rw [if_pos rfl]
            have n4 : ¬ isW y k 2968 = true := fun q => by rw [w4] at q; cases q
            have ed : ddW y k = -1 := by unfold ddW; rw [if_neg n0, if_neg n1, if_neg n2, if_neg n3, if_neg n4]
            rw [ed] at body; exact body
theorem NA_fl {σ' : St} (f : FLn σ σ') (h : NA σ e) : NA σ' e := NA_keep f.1 rfl h
end
theorem m_run_L {y : Tp} {e : Nt} {K : St → Prop} {Q : Int → St → Prop} (hW : WfT y) : ∀ (f : Nat) (k : Int) (l : Ln) (σ : St) (n : Nat), RA y k σ → NA σ e → LnA σ 5 l → WfL e.2.1 e.2.2.2 l → 1001 - k ≤ f → Fu k n →
    ((ruL y e f k l).1 ≠ 0 → ∀ σ', FLn σ σ' → Q (ruL y e f k l).1 σ') →
    ((ruL y e f k l).1 = 0 → ∀ σ', FLn σ σ' → LnA σ' 5 (ruL y e f k l).2 → WfL e.2.1 e.2.2.2 (ruL y e f k l).2 → K σ') → P_X12_run_L16 K Q n σ := by
  intro f
  induction f with
  | zero =>
    intro k l σ n h hN hL hV hf hn k0 k1
    unfold Fu at hn
    obtain ⟨n, rfl, -⟩ := fu_ex (m := 0) (n := n) (by omega)
    unfold P_X12_run_L16
    have hz : tK y k = 0 := Classical.byContradiction (fun hne => by
      have := tK_1000 hW h.2.1 hne
      omega)
    rw [if_pos ((a_end h).mpr hz)]
    exact k1 rfl σ FLn.rf hL hV
  | succ f ih =>
    intro k l σ n h hN hL hV hf hn k0 k1
    unfold Fu at hn
    obtain ⟨n, rfl, -⟩ := fu_ex (m := 0) (n := n) (by omega)
    unfold ruL at k0 k1
    unfold P_X12_run_L16
    by_cases hz : tK y k = 0
    · rw [if_pos ((a_end h).mpr hz)]
      rw [if_pos hz] at k1
      exact k1 rfl σ FLn.rf hL hV
    · rw [if_neg (fun q => hz ((a_end h).mp q))]
      rw [if_neg hz] at k0 k1
      have hk := tK_1000 hW h.2.1 hz
      refine m_line hW h hN hL hV.1 (fun hne σ1 f1 e9 => ?_) (fun hg σ1 f1 h1 l1 => ?_)
      · rw [if_pos rfl, e9]
        rw [if_neg hne] at k0
        exact k0 hne σ1 f1
      · rw [if_neg one_no]
        rw [if_pos hg] at k0 k1
        have hok := lnR_ok hW hV (st_z (fl_ne hW (by decide) (by decide)) hg)
        exact ih ((lnR y e l k).2.1 + 1) (lnR y e l k).2.2 σ1 n h1 (NA_fl f1 hN) l1 hok.1 (by omega) (by unfold Fu; omega) (fun hne σ' f' => k0 hne σ' (f1.tr f')) (fun hz σ' f' l' v' => k1 hz σ' (f1.tr f') l' v')
theorem LnA_fl {σ τ : St} {w : Int} {l : Ln} (f : FLn σ τ) (w0 : 0 ≤ w) (w1 : w < 5) (hl : l.1 ≤ 40) (h : LnA σ w l) : LnA τ w l := by
  obtain ⟨h1, h2⟩ := h
  refine ⟨by rw [f.2.1 w w1]; exact h1, fun j j0 j1 => ?_⟩
  rw [f.2.2 1339 (by decide) _ (by omega), f.2.2 1340 (by decide) _ (by omega), f.2.2 1341 (by decide) _ (by omega)]
  exact h2 j j0 j1
def rlS : List Reg := (12, 0, some 0) :: (12, 0, some 1) :: (12, 0, some 3) :: rlA
theorem t_X12_run {y : Tp} {e : Nt} {σ : St} {Q : Int → St → Prop} (hT : TpA σ y) (hW : WfT y) (hN : NA σ e)
    (kf : (runT y e).1 ≠ 0 → ∀ σ', Sm rlS σ σ' → (∀ (w : Int) (l' : Ln), 0 ≤ w → w < 5 → l'.1 ≤ 40 → LnA σ w l' → LnA σ' w l') → σ' 12 0 1 = 0 → Q (runT y e).1 σ')
    (ks : (runT y e).1 = 0 → ∀ σ', Sm rlS σ σ' → (∀ (w : Int) (l' : Ln), 1 ≤ w → w < 5 → l'.1 ≤ 40 → LnA σ w l' → LnA σ' w l') → σ' 12 0 1 = 0 → LnA σ' 0 (runT y e).2 → Q 0 σ') : P_X12_run σ Q := by
  unfold P_X12_run
  have su : Sm [(12, 0, some 0), (1338, 0, some 5)] σ (up (up σ 12 0 0 0) 1338 0 5 0) := Sm_up (Sm_up Sm.rf rfl) rfl
  have r5 : (up (up σ 12 0 0 0) 1338 0 5 0) 1338 0 5 = 0 := up_at
  generalize (up (up σ 12 0 0 0) 1338 0 5 0) = σ1 at su r5
  have hT1 : TpA σ1 y := by
    unfold TpA at hT ⊢
    rw [su 12 0 1 rfl, su.row (t := 1302) (i := 0) rfl]
    exact hT
  refine a_begins hT1 hW (fun σ2 s2 h2 e1 => ?_)
  have sl : Sm rlS σ σ2 := (mem_sub (B := rlS) rfl su).tr (mem_sub (B := rlS) rfl s2)
  have kp : ∀ (w : Int) (l' : Ln), 0 ≤ w → w < 5 → LnA σ w l' → LnA σ2 w l' := by
    intro w l' w0 w1 h
    refine LnA_keep s2 rfl ?_
    unfold LnA at h ⊢
    rw [su 1338 0 w (by
      show (decide ((5 : Int) = w) || false) = false
      rw [decide_eq_false (by omega)]; rfl), su.row (t := 1339) (i := 0) rfl, su.row (t := 1340) (i := 0) rfl, su.row (t := 1341) (i := 0) rfl]
    exact h
  have hN2 := NA_keep s2 rfl (NA_keep su rfl hN)
  have hL0 : LnA σ2 5 ln0 := ⟨by rw [s2.row (t := 1338) (i := 0) rfl, r5]; rfl, fun j j0 j1 => by have : j < (0 : Int) := j1; omega⟩
  have hV0 : WfL e.2.1 e.2.2.2 ln0 := ⟨by decide, fun j j0 j1 => by have : j < (0 : Int) := j1; omega⟩
  refine m_run_L hW 1001 0 ln0 σ2 FU h2 hN2 hL0 hV0 (by decide) (by unfold Fu FU; omega) (fun hne σ' f' => ?_) (fun hz σ' f' l' v' => ?_)
  · exact kf hne σ' (sl.tr (mem_sub (B := rlS) rfl f'.1)) (fun w l' w0 w1 hl h => LnA_fl f' w0 w1 hl (kp w l' w0 w1 h)) (by rw [f'.1 12 0 1 rfl, e1])
  · refine t_X12_laysLines (by decide) (by decide) (by decide) (by decide) (by decide) l' v'.1.2 (fun τ sτ lτ kτ => ?_)
    exact ks hz τ ((sl.tr (mem_sub (B := rlS) rfl f'.1)).tr (mem_sub (B := rlS) rfl sτ)) (fun w l' w0 w1 hl h => kτ w l' (by omega) hl (LnA_fl f' (by omega) w1 hl (kp w l' (by omega) w1 h))) (by rw [sτ 12 0 1 rfl, f'.1 12 0 1 rfl, e1]) lτ
