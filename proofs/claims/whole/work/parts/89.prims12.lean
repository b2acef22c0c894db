/-! 89: the reference at a token -/
def RA (y : Tp) (k : Int) (σ : St) : Prop := TaA σ y ∧ 0 ≤ k ∧ σ 12 0 5 = tB y k ∧ σ 12 0 6 = mK (tK y k) ∧ (tK y k = 2 → σ 12 0 7 = tW y k) ∧ (tK y k = 3 → σ 12 0 8 = tN y k) ∧ σ 12 0 4 = if tB y k < y.1 then enC y (tB y k) else y.1
theorem RA_keep {A : List Reg} {σ τ : St} {y : Tp} {k : Int} (h : Sm A σ τ) (hn : noT A [1302] 0 = true) (h3 : inR A 12 0 3 = false) (h4 : inR A 12 0 4 = false) (h5 : inR A 12 0 5 = false) (h6 : inR A 12 0 6 = false) (h7 : inR A 12 0 7 = false) (h8 : inR A 12 0 8 = false) (c : RA y k σ) : RA y k τ := by
  obtain ⟨c1, c2, c3⟩ := c
  unfold RA
  rw [h 12 0 4 h4, h 12 0 5 h5, h 12 0 6 h6, h 12 0 7 h7, h 12 0 8 h8]
  exact ⟨TaA_keep h h3 hn c1, c2, c3⟩
theorem mK_inj {k c : Int} (hk : 0 ≤ k ∧ k ≤ 4) (hc : 0 ≤ c ∧ c ≤ 4) : mK k = mK c ↔ k = c := by
  have h : ∀ a b : Fin 5, mK (a.val : Int) = mK (b.val : Int) ↔ a = b := by decide +kernel
  have := h ⟨k.toNat, by omega⟩ ⟨c.toNat, by omega⟩
  dsimp only at this
  rw [Int.toNat_of_nonneg hk.1, Int.toNat_of_nonneg hc.1] at this
  rw [this]
  refine ⟨fun q => ?_, fun q => by subst q; rfl⟩
  have := congrArg Fin.val q
  dsimp only at this
  omega
theorem kdC_rng {y : Tp} {p : Int} : 0 ≤ kdC y p ∧ kdC y p ≤ 4 := by
  unfold kdC
  repeat' split
  all_goals omega
theorem tK_rng {y : Tp} {k : Int} : 0 ≤ tK y k ∧ tK y k ≤ 4 := kdC_rng
theorem tK_lt {y : Tp} {k : Int} (h : tK y k ≠ 0) : tB y k < y.1 := by
  refine Classical.byContradiction (fun hn => h ?_)
  unfold tB at hn
  unfold tK kdC
  rw [if_pos (by omega)]
theorem if_cs {P A B : Prop} [Decidable P] (h1 : P → A) (h2 : ¬ P → B) : if P then A else B := by
  split
  · exact h1 ‹_›
  · exact h2 ‹_›
section
variable {σ : St}
theorem a_next {y : Tp} {k : Int} {Q : St → Prop} (hW : WfT y) (h : RA y k σ) (hz : tK y k ≠ 0) (kk : ∀ σ', Sm ntA σ σ' → RA y (k + 1) σ' → Q σ') : P_X12_nextToken σ Q := by
  obtain ⟨h1, h2, h3, h4, h5, h6, h7⟩ := h
  have hb := tK_lt hz
  rw [if_pos hb] at h7
  have hen := enC_rng hb
  have hb0 := tB_rng hW k
  refine t_X12_nextToken h1 hW h7 (by omega) hen.2 (fun σ' s' q4 q5 q6 q7 q8 => ?_)
  have eb : tB y (k + 1) = rnE isBk y (enC y (tB y k)) := by
    unfold tB at hb ⊢
    rw [show (k + 1).toNat = k.toNat + 1 by omega]
    show (if bgn y k.toNat < y.1 then rnE isBk y (enC y (bgn y k.toNat)) else y.1) = _
    rw [if_pos hb]
  rw [← eb] at q4 q5 q6 q7 q8
  exact kk σ' s' ⟨TaA_keep s' rfl rfl h1, by omega, q5, q6, q7, q8, q4⟩
theorem a_isWord {y : Tp} {k c : Int} {Q : Int → St → Prop} (h : RA y k σ) (k1 : isW y k c = true → Q 1 σ) (k0 : isW y k c = false → Q 0 σ) : P_X12_isWord c σ Q := by
  obtain ⟨h1, h2, h3, h4, h5, h6, h7⟩ := h
  unfold P_X12_isWord P_X12_isWord_J21
  unfold isW at k1 k0
  rw [h4]
  have hr := tK_rng (y := y) (k := k)
  by_cases hK : tK y k = 2
  · rw [if_pos (by rw [hK]; rfl), h5 hK]
    rw [decide_eq_true hK, Bool.true_and] at k1 k0
    by_cases he : tW y k = c
    · rw [if_pos (lC_0.mpr he)]
      exact k1 (decide_eq_true he)
    · rw [if_neg (fun q => he (lC_0.mp q))]
      exact k0 (decide_eq_false he)
  · rw [if_neg (show ¬ mK (tK y k) = 1 from fun q => hK ((mK_inj hr (c := 2) (by omega)).mp q))]
    exact k0 (by rw [decide_eq_false hK, Bool.false_and])
theorem a_isSign {y : Tp} {k c : Int} {Q : Int → St → Prop} (hW : WfT y) (h : RA y k σ) (k1 : isS y k c = true → Q 1 σ) (k0 : isS y k c = false → Q 0 σ) : P_X12_isSign c σ Q := by
  obtain ⟨h1, h2, h3, h4, h5, h6, h7⟩ := h
  unfold P_X12_isSign P_X12_isSign_J25
  unfold isS at k1 k0
  rw [h4]
  have hr := tK_rng (y := y) (k := k)
  by_cases hK : tK y k = 4
  · have hb := tK_lt (y := y) (k := k) (by omega)
    have hb0 := tB_rng hW k
    have hL := hW.1
    rw [if_pos (by rw [hK]; rfl), h3, h1.2 _ hb0.1 hb]
    rw [decide_eq_true hK, Bool.true_and] at k1 k0
    refine ⟨hb0.1, by omega, ?_⟩
    have e : y.2 (tB y k) = tS y k := rfl
    rw [e]
    by_cases he : tS y k = c
    · rw [if_pos he]
      exact k1 (decide_eq_true he)
    · rw [if_neg he]
      exact k0 (decide_eq_false he)
  · rw [if_neg (show ¬ mK (tK y k) = 3 from fun q => hK ((mK_inj hr (c := 4) (by omega)).mp q))]
    exact k0 (by rw [decide_eq_false hK, Bool.false_and])
theorem a_num {y : Tp} {k : Int} (h : RA y k σ) : (σ 12 0 6 = 2) ↔ isN y k = true := by
  obtain ⟨h1, h2, h3, h4, h5, h6, h7⟩ := h
  rw [h4]
  unfold isN
  have hr := tK_rng (y := y) (k := k)
  refine ⟨fun q => decide_eq_true ((mK_inj hr (c := 3) (by omega)).mp q), fun q => by rw [of_decide_eq_true q]; rfl⟩
theorem a_end {y : Tp} {k : Int} (h : RA y k σ) : (σ 12 0 6 = 0) ↔ tK y k = 0 := by
  obtain ⟨h1, h2, h3, h4, h5, h6, h7⟩ := h
  rw [h4]
  have hr := tK_rng (y := y) (k := k)
  refine ⟨fun q => (mK_inj hr (c := 0) (by omega)).mp q, fun q => by rw [q]; rfl⟩
theorem a_isKept {y : Tp} {k : Int} {Q : Int → St → Prop} (h : RA y k σ) (k0 : isM y k = true → Q 0 σ) (k1 : isM y k = false → Q 1 σ) : P_X12_isKept σ Q := by
  obtain ⟨h1, h2, h3, h4, h5, h6, h7⟩ := h
  unfold P_X12_isKept P_X12_isKept_J241
  unfold isM at k1 k0
  rw [h4]
  have hr := tK_rng (y := y) (k := k)
  by_cases hK : tK y k = 2
  · rw [if_pos (by rw [hK]; rfl), h5 hK]
    rw [decide_eq_true hK, Bool.true_and] at k1 k0
    simp only [lC_0]
    generalize tW y k = w at k1 k0
    have hin : ∀ c ∈ rsL, w = c → Q 1 σ := fun c hc e => k1 (by rw [e, List.contains_iff_mem.mpr hc]; rfl)
    iterate 21 (refine if_cs (fun e => hin _ (by unfold rsL; decide) e) (fun _ => ?_))
    refine k0 ?_
    rw [Bool.not_eq_true']
    cases hc : rsL.contains w
    · rfl
    · exfalso
      have := List.contains_iff_mem.mp hc
      unfold rsL at this
      simp only [List.mem_cons, List.not_mem_nil, or_false] at this
      omega
  · rw [if_neg (show ¬ mK (tK y k) = 1 from fun q => hK ((mK_inj hr (c := 2) (by omega)).mp q))]
    exact k1 (by rw [decide_eq_false hK, Bool.false_and])
def faA : List Reg := [(12, 0, some 9)]
theorem a_fails {y : Tp} {k c : Int} {Q : Int → St → Prop} (hW : WfT y) (h : RA y k σ) (c0 : 1 ≤ c) (c1 : c ≤ 5) (kk : ∀ σ', Sm faA σ σ' → σ' 12 0 9 = fl y c k → Q 0 σ') : P_X12_fails c σ Q := by
  have hb := tB_rng hW k
  unfold P_X12_fails
  rw [h.2.2.1, wi_id (z := 16 * tB y k) (by omega) (by omega), wi_id (z := c + 16 * tB y k) (by omega) (by omega)]
  exact kk _ (Sm_up Sm.rf rfl) up_at
theorem a_failsB {y : Tp} {k c : Int} {Q : Int → St → Prop} (hW : WfT y) (h : RA y k σ) (c0 : 1 ≤ c) (c1 : c ≤ 5) (kk : ∀ σ', Sm faA σ σ' → σ' 12 0 9 = fl y c k → Q 0 σ') : P_X12_fails c σ (fun r σ' => (r = 0 ∨ r = 1) ∧ Q r σ') :=
  a_fails hW h c0 c1 (fun σ' s' e => ⟨Or.inl rfl, kk σ' s' e⟩)
theorem st_t {b : Bool} {f : Int} (h : b = true) : st 0 b f = 0 := by rw [h]; rfl
theorem st_e {b : Bool} {f : Int} (h : b = false) : st 0 b f = f := by rw [h]; rfl
theorem a_needsWord {y : Tp} {k c : Int} {Q : Int → St → Prop} (hW : WfT y) (h : RA y k σ)
    (k0 : isW y k c = false → ∀ σ', Sm faA σ σ' → σ' 12 0 9 = fl y 1 k → Q 0 σ') (k1 : isW y k c = true → ∀ σ', Sm ntA σ σ' → RA y (k + 1) σ' → Q 1 σ') : P_X12_needsWord c σ Q := by
  unfold P_X12_needsWord
  refine a_isWord h (fun hw => ?_) (fun hw => ?_)
  · rw [if_neg one_no]
    exact a_next hW h (isW_nz hw) (k1 hw)
  · rw [if_pos rfl]
    exact a_failsB hW h (by decide) (by decide) (k0 hw)
theorem a_closes {y : Tp} {k : Int} {Q : Int → St → Prop} (hW : WfT y) (h : RA y k σ)
    (k0 : isS y k 59 = false → ∀ σ', Sm faA σ σ' → σ' 12 0 9 = fl y 1 k → Q 0 σ') (k1 : isS y k 59 = true → ∀ σ', Sm ntA σ σ' → RA y (k + 1) σ' → Q 1 σ') : P_X12_closes σ Q := by
  unfold P_X12_closes
  refine a_isSign hW h (fun hw => ?_) (fun hw => ?_)
  · rw [if_neg one_no]
    exact a_next hW h (isS_nz hw) (k1 hw)
  · rw [if_pos rfl]
    exact a_failsB hW h (by decide) (by decide) (k0 hw)
def nnA : List Reg := (12, 0, some 36) :: ntA
def nwA : List Reg := (12, 0, some 37) :: ntA
theorem numG_t {y : Tp} {k a b : Int} (h : isN y k = true) : numG y 0 k a b = st 0 (inB (tN y k) a b) (fl y 4 k) := by unfold numG; rw [st_t h]
theorem a_needsNumber {y : Tp} {k a b : Int} {Q : Int → St → Prop} (hW : WfT y) (h : RA y k σ)
    (k0 : numG y 0 k a b ≠ 0 → ∀ σ', Sm faA σ σ' → σ' 12 0 9 = numG y 0 k a b → Q 0 σ') (k1 : numG y 0 k a b = 0 → ∀ σ', Sm nnA σ σ' → RA y (k + 1) σ' → σ' 12 0 36 = tN y k → Q 1 σ') : P_X12_needsNumber a b σ Q := by
  unfold P_X12_needsNumber
  by_cases hN : isN y k = true
  · rw [if_pos ((a_num h).mpr hN), h.2.2.2.2.2.1 (of_decide_eq_true hN)]
    have e := numG_t (a := a) (b := b) hN
    refine t_X12_within (fun p q => ?_) (fun hno => ?_)
    · rw [if_neg one_no]
      have s1 : Sm [(12, 0, some 36)] σ (up σ 12 0 36 (tN y k)) := Sm_up Sm.rf rfl
      have e8 : σ 12 0 8 = tN y k := h.2.2.2.2.2.1 (of_decide_eq_true hN)
      rw [e8]
      refine a_next hW (RA_keep s1 rfl rfl rfl rfl rfl rfl rfl h) (isN_nz hN) (fun σ2 s2 h2 => ?_)
      refine k1 (by rw [e]; exact st_t (decide_eq_true ⟨p, q⟩)) σ2 ((mem_sub (B := nnA) rfl s1).tr (mem_sub (B := nnA) rfl s2)) h2 ?_
      rw [s2 12 0 36 rfl, up_at]
    · rw [if_pos rfl]
      have e2 : numG y 0 k a b = fl y 4 k := by rw [e]; exact st_e (decide_eq_false hno)
      rw [e2] at k0
      exact a_failsB hW h (by decide) (by decide) (k0 (fl_ne hW (by decide) (by decide)))
  · rw [if_neg (fun q => hN ((a_num h).mp q))]
    have hN : isN y k = false := by simpa using hN
    have e2 : numG y 0 k a b = fl y 1 k := by
      unfold numG
      rw [st_e hN, st_ne (fl_ne hW (by decide) (by decide))]
    rw [e2] at k0
    exact a_failsB hW h (by decide) (by decide) (k0 (fl_ne hW (by decide) (by decide)))
theorem a_counterNamed {r n : Int} {Q : Int → St → Prop} (hr : r = 0 ∨ r = 1) (hn : σ 1310 0 (4 * r) = n) (n0 : 0 ≤ n) (n6 : n ≤ 6) (k : Q (ixN (fun i => σ 1311 0 (6 * r + i)) n (σ 12 0 7)) σ) : P_X12_counterNamed r σ Q := by
  unfold P_X12_counterNamed
  unfold ixN at k
  have w4 : wi (4 * r) = 4 * r := wi_id (by omega) (by omega)
  have w40 : wi (4 * r + 0) = 4 * r := by rw [Int.add_zero]; exact w4
  have w6 : wi (6 * r) = 6 * r := wi_id (by omega) (by omega)
  rw [w6]
  refine findF (F := fun n' i => P_X12_counterNamed_L5 r Q n' (6 * r + i) σ) (N := n) (K0 := Q (-1) σ) (K := fun i => Q i σ) (p := fun i => decide (σ 1311 0 (6 * r + i) = σ 12 0 7)) (fun n' i i0 i1 => ⟨fun hp k => ?_, fun hp k => ?_⟩) (fun n' k => ?_) n.toNat 0 FU (Int.le_refl 0) (by omega) (FU_pos (by omega)) ?_ |> fun h => by rwa [Int.add_zero] at h
  · unfold P_X12_counterNamed_L5
    rw [w4, w40, w6, hn, wi_id (z := 6 * r + n) (by omega) (by omega), if_neg (by omega), if_pos (lC_0.mpr (of_decide_eq_true hp)), show 6 * r + i - 6 * r = i by omega, wi_id (z := i) (by omega) (by omega)]
    exact ⟨by omega, by omega, by omega, by omega, k⟩
  · unfold P_X12_counterNamed_L5
    rw [w4, w40, w6, hn, wi_id (z := 6 * r + n) (by omega) (by omega), if_neg (by omega), if_neg (fun q => of_decide_eq_false hp (lC_0.mp q)), wi_id (z := 6 * r + i + 1) (by omega) (by omega), show 6 * r + i + 1 = 6 * r + (i + 1) by omega]
    exact ⟨by omega, by omega, by omega, by omega, k⟩
  · unfold P_X12_counterNamed_L5
    rw [w4, w40, w6, hn, wi_id (z := 6 * r + n) (by omega) (by omega), if_pos (Int.le_refl _)]
    exact ⟨by omega, by omega, k⟩
  · cases h : fnd (fun i => decide (σ 1311 0 (6 * r + i) = σ 12 0 7)) n.toNat 0 with
    | none => rw [h] at k; exact k
    | some j => rw [h] at k; exact k
theorem a_ballNamed {r n : Int} {Q : Int → St → Prop} (hr : r = 0 ∨ r = 1) (hn : σ 1310 0 (4 * r + 1) = n) (n0 : 0 ≤ n) (n6 : n ≤ 6) (k : Q (ixN (fun i => σ 1312 0 (6 * r + i)) n (σ 12 0 7)) σ) : P_X12_ballNamed r σ Q := by
  unfold P_X12_ballNamed
  unfold ixN at k
  have w4 : wi (4 * r) = 4 * r := wi_id (by omega) (by omega)
  have w40 : wi (4 * r + 1) = 4 * r + 1 := wi_id (by omega) (by omega)
  have w6 : wi (6 * r) = 6 * r := wi_id (by omega) (by omega)
  rw [w6]
  refine findF (F := fun n' i => P_X12_ballNamed_L5 r Q n' (6 * r + i) σ) (N := n) (K0 := Q (-1) σ) (K := fun i => Q i σ) (p := fun i => decide (σ 1312 0 (6 * r + i) = σ 12 0 7)) (fun n' i i0 i1 => ⟨fun hp k => ?_, fun hp k => ?_⟩) (fun n' k => ?_) n.toNat 0 FU (Int.le_refl 0) (by omega) (FU_pos (by omega)) ?_ |> fun h => by rwa [Int.add_zero] at h
  · unfold P_X12_ballNamed_L5
    rw [w4, w40, w6, hn, wi_id (z := 6 * r + n) (by omega) (by omega), if_neg (by omega), if_pos (lC_0.mpr (of_decide_eq_true hp)), show 6 * r + i - 6 * r = i by omega, wi_id (z := i) (by omega) (by omega)]
    exact ⟨by omega, by omega, by omega, by omega, k⟩
  · unfold P_X12_ballNamed_L5
    rw [w4, w40, w6, hn, wi_id (z := 6 * r + n) (by omega) (by omega), if_neg (by omega), if_neg (fun q => of_decide_eq_false hp (lC_0.mp q)), wi_id (z := 6 * r + i + 1) (by omega) (by omega), show 6 * r + i + 1 = 6 * r + (i + 1) by omega]
    exact ⟨by omega, by omega, by omega, by omega, k⟩
  · unfold P_X12_ballNamed_L5
    rw [w4, w40, w6, hn, wi_id (z := 6 * r + n) (by omega) (by omega), if_pos (Int.le_refl _)]
    exact ⟨by omega, by omega, k⟩
  · cases h : fnd (fun i => decide (σ 1312 0 (6 * r + i) = σ 12 0 7)) n.toNat 0 with
    | none => rw [h] at k; exact k
    | some j => rw [h] at k; exact k
theorem ixN_con {f nm : Int → Int} {n w : Int} (h : ∀ i : Int, 0 ≤ i → i < n → f i = nm i) : ixN f n w = ixN nm n w := by
  unfold ixN
  congr 1
  exact fnd_congr _ _ (fun j j0 j1 => by rw [h j j0 (by omega)])
/-- names of the reference: r 0 in force, 1 as told -/
def NmA (σ : St) (t : Nat) (r : Int) (nm : Int → Int) (n : Int) : Prop := ∀ i : Int, 0 ≤ i → i < n → σ t 0 (6 * r + i) = nm i
theorem a_wd {y : Tp} {k : Int} (h : RA y k σ) (hm : isM y k = true) : σ 12 0 7 = tW y k := by
  unfold isM at hm
  rw [Bool.and_eq_true] at hm
  exact h.2.2.2.2.1 (of_decide_eq_true hm.1)
theorem a_needsNew {y : Tp} {k n m : Int} {nm bn : Int → Int} {Q : Int → St → Prop} (hW : WfT y) (h : RA y k σ) (hn : σ 1310 0 4 = n) (hm : σ 1310 0 5 = m) (n0 : 0 ≤ n) (n6 : n ≤ 6) (m0 : 0 ≤ m) (m6 : m ≤ 6) (hN : NmA σ 1311 1 nm n) (hM : NmA σ 1312 1 bn m)
    (k0 : newG y 0 k nm n bn m ≠ 0 → ∀ σ', Sm faA σ σ' → σ' 12 0 9 = newG y 0 k nm n bn m → Q 0 σ') (k1 : newG y 0 k nm n bn m = 0 → ∀ σ', Sm nwA σ σ' → RA y (k + 1) σ' → σ' 12 0 37 = tW y k → Q 1 σ') : P_X12_needsNew σ Q := by
  unfold P_X12_needsNew P_X12_needsNew_J29
  refine a_isKept h (fun hk => ?_) (fun hk => ?_)
  · rw [if_pos rfl]
    have ew := a_wd h hk
    have en : newG y 0 k nm n bn m = st 0 (decide (ixN nm n (tW y k) < 0) && decide (ixN bn m (tW y k) < 0)) (fl y 3 k) := by unfold newG; rw [st_t hk]
    have bad : (decide (ixN nm n (tW y k) < 0) && decide (ixN bn m (tW y k) < 0)) = false → P_X12_fails 3 σ (fun r_6 σ_5 => (r_6 = 0 ∨ r_6 = 1) ∧ Q r_6 σ_5) := by
      intro hf
      rw [en, st_e hf] at k0
      exact a_failsB hW h (by decide) (by decide) (k0 (fl_ne hW (by decide) (by decide)))
    refine a_counterNamed (Or.inr rfl) hn n0 n6 ?_
    rw [ixN_con hN, ew]
    by_cases hx : 0 ≤ ixN nm n (tW y k)
    · rw [if_pos hx]
      exact bad (by rw [decide_eq_false (show ¬ ixN nm n (tW y k) < 0 by omega), Bool.false_and])
    · rw [if_neg hx]
      refine a_ballNamed (Or.inr rfl) hm m0 m6 ?_
      rw [ixN_con hM, ew]
      by_cases hx2 : ixN bn m (tW y k) < 0
      · rw [if_pos hx2]
        have s1 : Sm [(12, 0, some 37)] σ (up σ 12 0 37 (tW y k)) := Sm_up Sm.rf rfl
        refine a_next hW (RA_keep s1 rfl rfl rfl rfl rfl rfl rfl h) (isM_nz hk) (fun σ2 s2 h2 => ?_)
        refine k1 ?_ σ2 ((mem_sub (B := nwA) rfl s1).tr (mem_sub (B := nwA) rfl s2)) h2 ?_
        · rw [en]
          exact st_t (by rw [decide_eq_true (show ixN nm n (tW y k) < 0 by omega), decide_eq_true hx2]; rfl)
        · rw [s2 12 0 37 rfl, up_at]
      · rw [if_neg hx2]
        exact bad (by rw [decide_eq_false hx2, Bool.and_false])
  · rw [if_neg one_no]
    have en : newG y 0 k nm n bn m = fl y 1 k := by
      unfold newG
      rw [st_e hk, st_ne (fl_ne hW (by decide) (by decide))]
    rw [en] at k0
    exact a_failsB hW h (by decide) (by decide) (k0 (fl_ne hW (by decide) (by decide)))
theorem a_passesFound {y : Tp} {k n x : Int} {nm : Int → Int} {Q : Int → St → Prop} (hW : WfT y) (h : RA y k σ) (hx : isM y k = true → x = ixN nm n (tW y k))
    (k0 : tolG y 0 k nm n ≠ 0 → ∀ σ', Sm faA σ σ' → σ' 12 0 9 = tolG y 0 k nm n → Q 0 σ') (k1 : tolG y 0 k nm n = 0 → ∀ σ', Sm nnA σ σ' → RA y (k + 1) σ' → σ' 12 0 36 = ixN nm n (tW y k) → Q 1 σ') : P_X12_passesFound x σ Q := by
  unfold P_X12_passesFound
  refine a_isKept h (fun hk => ?_) (fun hk => ?_)
  · rw [if_pos rfl, hx hk]
    have en : tolG y 0 k nm n = st 0 (decide (0 ≤ ixN nm n (tW y k))) (fl y 2 k) := by unfold tolG; rw [st_t hk]
    by_cases h0 : 0 ≤ ixN nm n (tW y k)
    · rw [if_pos h0]
      have s1 : Sm [(12, 0, some 36)] σ (up σ 12 0 36 (ixN nm n (tW y k))) := Sm_up Sm.rf rfl
      refine a_next hW (RA_keep s1 rfl rfl rfl rfl rfl rfl rfl h) (isM_nz hk) (fun σ2 s2 h2 => ?_)
      refine k1 (by rw [en]; exact st_t (decide_eq_true h0)) σ2 ((mem_sub (B := nnA) rfl s1).tr (mem_sub (B := nnA) rfl s2)) h2 ?_
      rw [s2 12 0 36 rfl, up_at]
    · rw [if_neg h0]
      rw [en, st_e (decide_eq_false h0)] at k0
      exact a_failsB hW h (by decide) (by decide) (k0 (fl_ne hW (by decide) (by decide)))
  · rw [if_neg one_no]
    have en : tolG y 0 k nm n = fl y 1 k := by
      unfold tolG
      rw [st_e hk, st_ne (fl_ne hW (by decide) (by decide))]
    rw [en] at k0
    exact a_failsB hW h (by decide) (by decide) (k0 (fl_ne hW (by decide) (by decide)))
end
