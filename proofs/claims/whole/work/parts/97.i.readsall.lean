/-! 97.i: the reference reads a whole shop -/
theorem a_shop_L {y : Tp} {Q : Int → St → Prop} (hW : WfT y) : ∀ (f : Nat) (k : Int) (d : Dr) (σ : St) (n : Nat), RA y k σ → DrA σ d → WfD y d → 1001 - k ≤ f → Fu k n →
    ((shL y f k d).1 ≠ 0 → ∀ σ', FR σ σ' → σ' 12 0 9 = (shL y f k d).1 → Q 0 σ') →
    ((shL y f k d).1 = 0 → ∀ σ', FR σ σ' → DrA σ' (shL y f k d).2 → WfD y (shL y f k d).2 → Q 1 σ') → P_X12_readsAll_L65 Q n σ := by
  intro f
  induction f with
  | zero =>
    intro k d σ n h hD hV hf hn k0 k1
    unfold Fu at hn
    obtain ⟨n, rfl, -⟩ := fu_ex (m := 0) (n := n) (by omega)
    unfold P_X12_readsAll_L65
    have hz : tK y k = 0 := Classical.byContradiction (fun hne => by
      have := tK_1000 hW h.2.1 hne
      omega)
    rw [if_pos ((a_end h).mpr hz)]
    exact k1 rfl σ FR.rf hD hV
  | succ f ih =>
    intro k d σ n h hD hV hf hn k0 k1
    unfold Fu at hn
    obtain ⟨n, rfl, -⟩ := fu_ex (m := 0) (n := n) (by omega)
    unfold shL at k0 k1
    unfold P_X12_readsAll_L65
    by_cases hz : tK y k = 0
    · rw [if_pos ((a_end h).mpr hz)]
      rw [if_pos hz] at k1
      exact k1 rfl σ FR.rf hD hV
    · rw [if_neg (fun q => hz ((a_end h).mp q))]
      rw [if_neg hz] at k0 k1
      have hk := tK_1000 hW h.2.1 hz
      have t0 : ∀ σ1, FR σ σ1 → σ1 12 0 9 = clG y (cl y d k) → clG y (cl y d k) ≠ 0 → P_X12_readsAll_J162 0 (P_X12_readsAll_L65 Q n) Q σ1 := by
        intro σ1 f1 e9 hne
        unfold P_X12_readsAll_J162
        rw [if_pos rfl]
        rw [if_neg hne] at k0
        exact k0 hne σ1 f1 e9
      have t1 : clG y (cl y d k) = 0 → ∀ σ1, FR σ σ1 → RA y ((cl y d k).2.1 + 1) σ1 → DrA σ1 (cl y d k).2.2 → P_X12_readsAll_J162 1 (P_X12_readsAll_L65 Q n) Q σ1 := by
        intro hg σ1 f1 h1 d1
        unfold P_X12_readsAll_J162
        rw [if_neg one_no]
        rw [if_pos hg] at k0 k1
        have hok := cl_ok hW hV h.2.1 hg
        exact ih ((cl y d k).2.1 + 1) (cl y d k).2.2 σ1 n h1 d1 hok.1 (by omega) (by unfold Fu; omega) (fun hne σ' f' e => k0 hne σ' (f1.tr f') e) (fun hz σ' f' d' v' => k1 hz σ' (f1.tr f') d' v')
      refine a_isWord h (fun w1 => ?_) (fun w1 => ?_)
      · rw [if_neg one_no]
        have e : cl y d k = (coG y d 0 k, k + 1 + 1 + 1 + 1 + 1 + 1, adC d (tW y (k + 1)) (tN y (k + 1 + 1 + 1)) (tN y (k + 1 + 1 + 1 + 1 + 1))) := by unfold cl; rw [if_pos w1]
        rw [e] at t0 t1
        exact a_counter hW hV h hD hz (fun hne σ' f' e9 => t0 σ' f' e9 hne) (fun hg σ' f' h' d' => t1 hg σ' f' h' d')
      · rw [if_pos rfl]
        have n1 : ¬ isW y k 1388945628 = true := fun q => by rw [w1] at q; cases q
        refine a_isWord h (fun w2 => ?_) (fun w2 => ?_)
        · rw [if_neg one_no]
          have e : cl y d k = (baG y d 0 k, k + 1 + 1 + 1 + 1 + 1 + 1 + 1, adB d (tW y (k + 1)) (knW y (k + 1 + 1)) (tN y (k + 1 + 1 + 1 + 1)) (ixN (d.1 1) (d.1 0 0) (tW y (k + 1 + 1 + 1 + 1 + 1 + 1)))) := by unfold cl; rw [if_neg n1, if_pos w2]
          rw [e] at t0 t1
          exact a_ball hW hV h hD hz (fun hne σ' f' e9 => t0 σ' f' e9 hne) (fun hg σ' f' h' d' => t1 hg σ' f' h' d')
        · rw [if_pos rfl]
          have n2 : ¬ isW y k 40431 = true := fun q => by rw [w2] at q; cases q
          refine a_isWord h (fun w3 => ?_) (fun w3 => ?_)
          · rw [if_neg one_no]
            have e : cl y d k = (dkG y d 0 k, k + 1 + 1, adK d (tN y (k + 1))) := by unfold cl; rw [if_neg n1, if_neg n2, if_pos w3]
            rw [e] at t0 t1
            exact a_desk hW h hD hz (fun hne σ' f' e9 => t0 σ' f' e9 hne) (fun hg σ' f' h' d' => t1 hg σ' f' h' d')
          · rw [if_pos rfl]
            have n3 : ¬ isW y k 82901 = true := fun q => by rw [w3] at q; cases q
            refine a_isWord h (fun w4 => ?_) (fun w4 => ?_)
            · rw [if_neg one_no]
              have e : cl y d k = dpW y d k := by unfold cl; rw [if_neg n1, if_neg n2, if_neg n3, if_pos w4]
              rw [e] at t0 t1
              exact a_damp hW hV h hD hz (fun hne σ' f' e9 => t0 σ' f' e9 hne) (fun hg σ' f' h' d' => t1 hg σ' f' h' d')
            · rw [if_pos rfl]
              have n4 : ¬ isW y k 79828 = true := fun q => by rw [w4] at q; cases q
              refine a_isWord h (fun w5 => ?_) (fun w5 => ?_)
              · rw [if_neg one_no]
                have e : cl y d k = (weG y d k, (exW y (k + 1)).2.1, adW d (exW y (k + 1))) := by unfold cl; rw [if_neg n1, if_neg n2, if_neg n3, if_neg n4, if_pos w5]
                rw [e] at t0 t1
                exact a_wears hW hV h hD hz (fun hne σ' f' e9 => t0 σ' f' e9 hne) (fun hg σ' f' h' d' => t1 hg σ' f' h' d')
              · rw [if_pos rfl]
                have n5 : ¬ isW y k 12322792 = true := fun q => by rw [w5] at q; cases q
                have e : cl y d k = (fl y 1 k, k + 1, d) := by unfold cl; rw [if_neg n1, if_neg n2, if_neg n3, if_neg n4, if_neg n5]
                have hf1 : fl y 1 k ≠ 0 := fl_ne hW (by decide) (by decide)
                have eg : clG y (cl y d k) = fl y 1 k := by
                  rw [e]
                  unfold clG
                  dsimp only
                  rw [st_ne hf1]
                refine a_fails hW h (by decide) (by decide) (fun σ' s' e9 => ?_)
                exact t0 σ' (FR_of s' (mem_sub rfl s') rfl) (by rw [e9, eg]) (by rw [eg]; exact hf1)
/-- a tape is begun -/
theorem a_begins {y : Tp} {σ : St} {Q : St → Prop} (hT : TpA σ y) (hW : WfT y) (k : ∀ σ', Sm ((12, 0, some 1) :: (12, 0, some 3) :: ntA) σ σ' → RA y 0 σ' → σ' 12 0 1 = 0 → Q σ') : P_X12_begins σ Q := by
  unfold P_X12_begins
  rw [hT.1]
  have s1 : Sm [(12, 0, some 1), (12, 0, some 3), (12, 0, some 4)] σ (up (up (up σ 12 0 3 y.1) 12 0 1 0) 12 0 4 0) := Sm_up (Sm_up (Sm_up Sm.rf rfl) rfl) rfl
  have f3 : (up (up (up σ 12 0 3 y.1) 12 0 1 0) 12 0 4 0) 12 0 3 = y.1 := by rw [up_nx (by decide), up_nx (by decide), up_at]
  have f1 : (up (up (up σ 12 0 3 y.1) 12 0 1 0) 12 0 4 0) 12 0 1 = 0 := by rw [up_nx (by decide), up_at]
  have f4 : (up (up (up σ 12 0 3 y.1) 12 0 1 0) 12 0 4 0) 12 0 4 = 0 := up_at
  generalize (up (up (up σ 12 0 3 y.1) 12 0 1 0) 12 0 4 0) = σ1 at s1 f3 f1 f4
  have hT1 : TaA σ1 y := ⟨f3, by rw [s1.row (t := 1302) (i := 0) rfl]; exact hT.2⟩
  refine t_X12_nextToken hT1 hW f4 (Int.le_refl 0) hW.1.1 (fun σ2 s2 q4 q5 q6 q7 q8 => ?_)
  have hR : RA y 0 σ2 := ⟨TaA_keep s2 rfl rfl hT1, Int.le_refl 0, q5, q6, q7, q8, q4⟩
  exact k σ2 ((mem_sub rfl s1).tr (mem_sub rfl s2)) hR (by rw [s2 12 0 1 rfl, f1])
def rsB : List Reg := (12, 0, some 1) :: (12, 0, some 3) :: rrA
/-- what stands in force is kept; a tape was begun -/
def FS (σ τ : St) : Prop := Sm rsB σ τ ∧ LoR σ τ
theorem FR.fs {σ τ : St} (h : FR σ τ) : FS σ τ := ⟨mem_sub rfl h.1, h.2⟩
theorem FS.tr {σ τ υ : St} (h : FS σ τ) (h' : FS τ υ) : FS σ υ := ⟨h.1.tr h'.1, fun t ht x hx => (h'.2 t ht x hx).trans (h.2 t ht x hx)⟩
theorem FS_of {A : List Reg} {σ τ : St} (s : Sm A σ τ) (s' : Sm rsB σ τ) (hn : noT A loT 0 = true) : FS σ τ := ⟨s', fun t ht x _ => by rw [noT_row s hn ht]⟩
theorem t_readsAll {y : Tp} {σ : St} {Q : Int → St → Prop} (hT : TpA σ y) (hW : WfT y)
    (k0 : (shW y).1 ≠ 0 → ∀ σ', FS σ σ' → σ' 12 0 1 = 0 → σ' 12 0 9 = (shW y).1 → Q 0 σ')
    (k1 : (shW y).1 = 0 → ∀ σ', FS σ σ' → σ' 12 0 1 = 0 → DrA σ' (shW y).2 → WfD y (shW y).2 → Q 1 σ') : P_X12_readsAll σ Q := by
  unfold P_X12_readsAll
  obtain ⟨m, hm, -⟩ := fu_ex (m := 6) (n := FU) (FU_pos (by decide))
  obtain ⟨m, rfl, -⟩ := fu_ex (m := 5) (n := m) (by unfold FU at hm; omega)
  obtain ⟨m, rfl, -⟩ := fu_ex (m := 4) (n := m) (by unfold FU at hm; omega)
  obtain ⟨m, rfl, -⟩ := fu_ex (m := 3) (n := m) (by unfold FU at hm; omega)
  obtain ⟨m, rfl, -⟩ := fu_ex (m := 2) (n := m) (by unfold FU at hm; omega)
  have w4 : wi (4 + 0) = 4 := rfl
  have w5 : wi (4 + 1) = 5 := by decide +kernel
  have w6 : wi (4 + 2) = 6 := by decide +kernel
  have w7 : wi (4 + 3) = 7 := by decide +kernel
  have v1 : wi (0 + 1) = 1 := by decide +kernel
  have v2 : wi (1 + 1) = 2 := by decide +kernel
  have v3 : wi (2 + 1) = 3 := by decide +kernel
  have v4 : wi (3 + 1) = 4 := by decide +kernel
  suffices H : P_X12_begins (up (up (up (up (up (up (up (up σ 1310 0 4 0) 1310 0 5 0) 1310 0 6 2) 1310 0 7 0) 12 0 23 0) 1319 0 1 1000) 1320 0 1 1000) 12 0 22 1000) (fun σ_2 => P_X12_readsAll_L65 Q FU σ_2) by
    rw [hm] at H ⊢
    unfold P_X12_readsAll_L2 P_X12_readsAll_J24
    rw [if_neg (by decide), if_neg (by decide), w4, v1]
    refine ⟨by decide, by decide, ?_⟩
    unfold P_X12_readsAll_L2 P_X12_readsAll_J24
    rw [if_neg (by decide), if_neg (by decide), w5, v2]
    refine ⟨by decide, by decide, ?_⟩
    unfold P_X12_readsAll_L2 P_X12_readsAll_J24
    rw [if_neg (by decide), if_pos rfl, w6, v3]
    refine ⟨by decide, by decide, ?_⟩
    unfold P_X12_readsAll_L2 P_X12_readsAll_J24
    rw [if_neg (by decide), if_neg (by decide), w7, v4]
    refine ⟨by decide, by decide, ?_⟩
    unfold P_X12_readsAll_L2
    rw [if_pos (by decide)]
    exact H
  have s1 : Sm [(1310, 0, none), (12, 0, some 23), (12, 0, some 22), (1319, 0, none), (1320, 0, none)] σ (up (up (up (up (up (up (up (up σ 1310 0 4 0) 1310 0 5 0) 1310 0 6 2) 1310 0 7 0) 12 0 23 0) 1319 0 1 1000) 1320 0 1 1000) 12 0 22 1000) := Sm_up (Sm_up (Sm_up (Sm_up (Sm_up (Sm_up (Sm_up (Sm_up Sm.rf rfl) rfl) rfl) rfl) rfl) rfl) rfl) rfl
  have f4 : FR σ (up (up (up (up (up (up (up (up σ 1310 0 4 0) 1310 0 5 0) 1310 0 6 2) 1310 0 7 0) 12 0 23 0) 1319 0 1 1000) 1320 0 1 1000) 12 0 22 1000) := by
    have u23 : ∀ τ : St, FR τ (up τ 12 0 23 0) := fun τ => FR_of (A := [(12, 0, some 23)]) (Sm_up Sm.rf rfl) (Sm_up Sm.rf rfl) rfl
    have u22 : ∀ τ : St, FR τ (up τ 12 0 22 1000) := fun τ => FR_of (A := [(12, 0, some 22)]) (Sm_up Sm.rf rfl) (Sm_up Sm.rf rfl) rfl
    exact (((((((FR_up (show (4 : Int) ≤ 4 by decide) rfl).tr (FR_up (show (4 : Int) ≤ 5 by decide) rfl)).tr (FR_up (show (4 : Int) ≤ 6 by decide) rfl)).tr (FR_up (show (4 : Int) ≤ 7 by decide) rfl)).tr (u23 _)).tr (FR_up (show (1 : Int) ≤ 1 by decide) rfl)).tr (FR_up (show (1 : Int) ≤ 1 by decide) rfl)).tr (u22 _)
  have r10 : (up (up (up (up (up (up (up (up σ 1310 0 4 0) 1310 0 5 0) 1310 0 6 2) 1310 0 7 0) 12 0 23 0) 1319 0 1 1000) 1320 0 1 1000) 12 0 22 1000) 1310 0 = upr (upr (upr (upr (σ 1310 0) 4 0) 5 0) 6 2) 7 0 := by rw [up_oth (Or.inl rfl), up_oth (Or.inl rfl), up_oth (Or.inl rfl), up_oth (Or.inl rfl), up_row, up_row, up_row, up_row]
  have r23 : (up (up (up (up (up (up (up (up σ 1310 0 4 0) 1310 0 5 0) 1310 0 6 2) 1310 0 7 0) 12 0 23 0) 1319 0 1 1000) 1320 0 1 1000) 12 0 22 1000) 12 0 23 = 0 := by rw [up_nx (by decide), up_nt rfl, up_nt rfl, up_at]
  have r22 : (up (up (up (up (up (up (up (up σ 1310 0 4 0) 1310 0 5 0) 1310 0 6 2) 1310 0 7 0) 12 0 23 0) 1319 0 1 1000) 1320 0 1 1000) 12 0 22 1000) 12 0 22 = 1000 := up_at
  have r19 : (up (up (up (up (up (up (up (up σ 1310 0 4 0) 1310 0 5 0) 1310 0 6 2) 1310 0 7 0) 12 0 23 0) 1319 0 1 1000) 1320 0 1 1000) 12 0 22 1000) 1319 0 1 = 1000 := by rw [up_nt rfl, up_nt rfl, up_at]
  have r20 : (up (up (up (up (up (up (up (up σ 1310 0 4 0) 1310 0 5 0) 1310 0 6 2) 1310 0 7 0) 12 0 23 0) 1319 0 1 1000) 1320 0 1 1000) 12 0 22 1000) 1320 0 1 = 1000 := by rw [up_nt rfl, up_at]
  generalize (up (up (up (up (up (up (up (up σ 1310 0 4 0) 1310 0 5 0) 1310 0 6 2) 1310 0 7 0) 12 0 23 0) 1319 0 1 1000) 1320 0 1 1000) 12 0 22 1000) = σ1 at s1 f4 r10 r23 r22 r19 r20
  have hT1 : TpA σ1 y := by
    unfold TpA at hT ⊢
    rw [s1 12 0 1 rfl, s1.row (t := 1302) (i := 0) rfl]
    exact hT
  refine a_begins hT1 hW (fun σ2 s2 h2 e1 => ?_)
  have hD1 : DrA σ1 dr0 := by
    have e0 : dr0.1 0 0 = 0 := rfl
    have e1 : dr0.1 0 1 = 0 := rfl
    have e2 : dr0.1 0 2 = 0 := rfl
    have e3 : dr0.1 0 3 = 2 := rfl
    have e4 : dr0.1 0 4 = 0 := rfl
    have e6 : dr0.2.2.2.2.1 = [] := rfl
    unfold DrA NmA CdA
    rw [e0, e1, e2, e3, e4, e6, r10, r23, r22, r19, r20]
    refine ⟨⟨?_, ?_, ?_, ?_, rfl⟩, fun i i0 i1 => by omega, fun i i0 i1 => by omega, fun i i0 i1 => by omega, fun i i0 i1 => by omega, fun i i0 i1 => by omega, rfl, rfl, rfl, fun i hi => absurd hi (Nat.not_lt_zero i)⟩
    · rw [upr_ne (by decide), upr_ne (by decide), upr_ne (by decide), upr_at]
    · rw [upr_ne (by decide), upr_ne (by decide), upr_at]
    · rw [upr_at]
    · rw [upr_ne (by decide), upr_at]
  have f2 : FS σ σ2 := f4.fs.tr (FS_of s2 (mem_sub rfl s2) rfl)
  have r1 : ∀ {τ : St}, FR σ2 τ → τ 12 0 1 = 0 := fun h => (h.1 12 0 1 rfl).trans e1
  exact a_shop_L hW 1001 0 dr0 σ2 FU h2 (DrA_keep s2 rfl rfl rfl hD1) WfD_dr0 (by decide) (by unfold Fu FU; omega) (fun hne σ' f' e9 => k0 hne σ' (f2.tr f'.fs) (r1 f') e9) (fun hz σ' f' d' v' => k1 hz σ' (f2.tr f'.fs) (r1 f') d' v')
