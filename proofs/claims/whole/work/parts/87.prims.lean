/-! 87: the class at a token -/
def tK (y : Tp) (k : Int) : Int := kdC y (bgn y k.toNat)
def tW (y : Tp) (k : Int) : Int := woW y (bgn y k.toNat)
def tN (y : Tp) (k : Int) : Int := nuW y (bgn y k.toNat)
def tS (y : Tp) (k : Int) : Int := y.2 (bgn y k.toNat)
def tB (y : Tp) (k : Int) : Int := bgn y k.toNat
def isW (y : Tp) (k c : Int) : Bool := decide (tK y k = 2) && decide (tW y k = c)
def isS (y : Tp) (k c : Int) : Bool := decide (tK y k = 4) && decide (tS y k = c)
def isN (y : Tp) (k : Int) : Bool := decide (tK y k = 3)
def rsL : List Int := [1388945628, 47, 5146, 40431, 381245, 168755, 82901, 79828, 12322792, 43058, 378004, 14006, 1627639, 2968, 8740238, 10973, 335053202, 70481, 10631, 1111, 423]
def isM (y : Tp) (k : Int) : Bool := decide (tK y k = 2) && !(rsL.contains (tW y k))
def cwL : List Int := [0, 1388945628, 0, 47, 5146, 40431, 10973, 335053202, 70481, 8740238, 381245, 168755, 82901, 79828, 12322792, 12403754, 370000, 16922, 80006, 10631, 1111, 423, 43058, 378004, 14006, 1627639, 2968]
def cw (o : Nat) : Int := cwL.getD o 0
/-- the draft is safe -/
def DS (σ : St) : Prop := (0 ≤ σ 8 1 10 ∧ σ 8 1 10 ≤ 6) ∧ (0 ≤ σ 8 1 11 ∧ σ 8 1 11 ≤ 6) ∧ (0 ≤ σ 8 1 12 ∧ σ 8 1 12 ≤ 12) ∧ (0 ≤ σ 2 1 3 ∧ σ 2 1 3 ≤ 1000) ∧ (0 ≤ σ 3 1 3 ∧ σ 3 1 3 ≤ 40) ∧ ∀ i : Int, 0 ≤ i → i < σ 8 1 10 → 0 ≤ σ 903 1 i ∧ σ 903 1 i < 6
/-- the class reads: the fault so far (0: none), at the k-th token -/
def RS (y : Tp) (N g k : Int) (σ : St) : Prop := TkC σ y N ∧ σ 10 0 6 = g ∧ (0 ≤ σ 10 0 5 ∧ σ 10 0 5 ≤ N) ∧ (g = 0 → σ 10 0 5 = k)
def st (g : Int) (b : Bool) (f : Int) : Int := if g = 0 then (if b then 0 else f) else g
def pkA : List Reg := [(10, 0, some 5), (10, 0, some 6)]
theorem TkC_keep {A : List Reg} {σ τ : St} {y : Tp} {N : Int} (h : Sm A σ τ) (hn : noT A [1101, 1102, 1103] 0 = true) (c : TkC σ y N) : TkC τ y N := by
  unfold TkC at c ⊢
  rw [noT_row h hn (t := 1101) (by decide), noT_row h hn (t := 1102) (by decide), noT_row h hn (t := 1103) (by decide)]
  exact c
theorem RS_keep {A : List Reg} {σ τ : St} {y : Tp} {N g k : Int} (h : Sm A σ τ) (hn : noT A [1101, 1102, 1103] 0 = true) (h5 : inR A 10 0 5 = false) (h6 : inR A 10 0 6 = false) (c : RS y N g k σ) : RS y N g k τ := by
  obtain ⟨c1, c2, c3, c4⟩ := c
  unfold RS
  rw [h 10 0 5 h5, h 10 0 6 h6]
  exact ⟨TkC_keep h hn c1, c2, c3, c4⟩
theorem lC_0 {a b : Int} : lC a b = 0 ↔ a = b := by
  unfold lC
  split
  · refine ⟨fun h => (by cases h), fun h => by omega⟩
  · split
    · rename_i h
      exact ⟨fun _ => h, fun _ => rfl⟩
    · rename_i h
      exact ⟨fun q => (by cases q), fun q => absurd q h⟩
/-! letters of String constants -/
def chr (o : Nat) (j : Int) : Int := ic (bA (sb o j) 255)
def lng (w c : Int) : Int := wj (wj (wj (wj (w * 32) + c) - 97) + 1)
theorem chr_rng (o : Nat) (j : Int) : 0 ≤ chr o j ∧ chr o j < 65536 := by
  unfold chr bA
  rw [i32_low, ic_id (by omega) (by omega)]
  omega
theorem len_all : ∀ o : Fin 27, bR (sl o.val) 0 = sl o.val := by decide +kernel
theorem sl_all : ∀ o : Fin 27, 0 ≤ sl o.val ∧ sl o.val ≤ 200 := by decide +kernel
theorem strw_all : ∀ o : Fin 27, o.val ≠ 0 → o.val ≠ 2 → itr (fun j w => lng w (chr o.val j)) (sl o.val).toNat 0 0 = cvN 9 (cw o.val) := by decide +kernel
theorem cw_rng : ∀ o : Fin 27, 0 ≤ cw o.val ∧ cw o.val < 27 ^ 8 := by decide +kernel
section
variable {σ : St}
theorem t_length {o : Nat} {Q : Int → St → Prop} (ho : o < 27) (k : Q (sl o) σ) : P_J0_length_8abf5 o σ Q := by
  have h := len_all ⟨o, ho⟩
  dsimp only at h
  unfold P_J0_length_8abf5 P_J0_coder_7d493
  refine ⟨ho, ho, ho, ho, ?_⟩
  dsimp only
  rw [h]
  exact k
theorem t_charAt {o : Nat} {j : Int} {Q : Int → St → Prop} (ho : o < 27) (j0 : 0 ≤ j) (j1 : j < sl o) (k : Q (chr o j) σ) : P_J0_charAt_5068e o j σ Q := by
  have hc := chr_rng o j
  unfold P_J0_charAt_5068e P_J0_isLatin1_aae02
  refine ⟨ho, ho, ?_⟩
  dsimp only
  rw [if_neg one_no]
  refine ⟨ho, ?_⟩
  unfold P_J1_charAt_3b067 P_J0_checkIndex_df160
  exact ⟨ho, j0, j1, ho, j0, j1, hc.1, hc.2, hc.1, hc.2, k⟩
theorem t_isWord {y : Tp} {N g k : Int} {o : Nat} {Q : Int → St → Prop} (h : RS y N g k σ) (ho : o < 27) (h0 : o ≠ 0) (h2 : o ≠ 2)
    (k1 : (g = 0 → isW y k (cw o) = true) → Q 1 σ) (k0 : (g = 0 → isW y k (cw o) = false) → Q 0 σ) : P_X10_isWord o σ Q := by
  obtain ⟨hT, hg, ⟨a0, a1⟩, hk⟩ := h
  obtain ⟨⟨N0, N1⟩, hN, hlt, hall⟩ := hT
  have hsl := sl_all ⟨o, ho⟩
  dsimp only at hsl
  have hstr := strw_all ⟨o, ho⟩ h0 h2
  dsimp only at hstr
  have hcw := cw_rng ⟨o, ho⟩
  dsimp only at hcw
  unfold P_X10_isWord
  refine loopI (X := Int) (F := fun n' i w => P_X10_isWord_L5 o (fun x2_7 σ_8 => 0 ≤ σ_8 10 0 5 ∧ σ_8 10 0 5 < 1001 ∧ (if (σ_8 1101 0 (σ_8 10 0 5)) = 2 then 0 ≤ σ_8 10 0 5 ∧ σ_8 10 0 5 < 1001 ∧ (if (lC (σ_8 1103 0 (σ_8 10 0 5)) x2_7) = 0 then Q 1 σ_8 else P_X10_isWord_J62 Q σ_8) else P_X10_isWord_J62 Q σ_8)) Q n' w i σ) (N := sl o) (fun i w => w = itr (fun j w => lng w (chr o j)) (i - 0).toNat 0 0) ?_ ?_ (sl o).toNat 0 0 FU (Int.le_refl 0) (by omega) (FU_pos (by omega)) rfl
  · rintro n' i w i0 i1 hw k'
    rw [itr_i i0, ← hw] at k'
    unfold P_X10_isWord_L5 P_X10_longer
    refine ⟨ho, t_length ho ?_⟩
    rw [if_neg (by omega)]
    refine ⟨ho, t_charAt ho i0 i1 ?_⟩
    rw [wi_id (z := i + 1) (by omega) (by omega)]
    exact k' _ rfl
  · rintro n' w hw
    rw [Int.sub_zero, hstr] at hw
    obtain ⟨q1, q2, q3, q4, q5⟩ := hall (σ 10 0 5) a0 a1
    unfold P_X10_isWord_L5 P_X10_isWord_J62
    refine ⟨ho, t_length ho ?_⟩
    rw [if_pos (Int.le_refl _)]
    refine ⟨a0, by omega, ?_⟩
    rw [q1]
    by_cases hK : kdC y (bgn y (σ 10 0 5).toNat) = 2
    · rw [if_pos hK]
      refine ⟨a0, by omega, ?_⟩
      have hwo := wd_ok hK
      rw [q3 hK, hw]
      have e9 : (27 : Int) ^ 8 < 27 ^ 9 := by decide
      by_cases he : woW y (bgn y (σ 10 0 5).toNat) = cw o
      · rw [he, if_pos (lC_0.mpr rfl)]
        refine k1 (fun hg0 => ?_)
        unfold isW tK tW
        rw [hk hg0] at hK he
        rw [decide_eq_true hK, decide_eq_true he]
        rfl
      · rw [if_neg (fun q => he (cvN_inj 9 _ _ hwo.1 (by omega) hcw.1 (by omega) (lC_0.mp q)))]
        refine k0 (fun hg0 => ?_)
        unfold isW tK tW
        rw [hk hg0] at hK he
        rw [decide_eq_false he, Bool.and_false]
    · rw [if_neg hK]
      refine k0 (fun hg0 => ?_)
      unfold isW tK
      rw [hk hg0] at hK
      rw [decide_eq_false hK, Bool.false_and]
theorem t_isSign {y : Tp} {N g k c : Int} {Q : Int → St → Prop} (h : RS y N g k σ)
    (k1 : (g = 0 → isS y k c = true) → Q 1 σ) (k0 : (g = 0 → isS y k c = false) → Q 0 σ) : P_X10_isSign c σ Q := by
  obtain ⟨hT, hg, ⟨a0, a1⟩, hk⟩ := h
  obtain ⟨⟨N0, N1⟩, hN, hlt, hall⟩ := hT
  obtain ⟨q1, q2, q3, q4, q5⟩ := hall (σ 10 0 5) a0 a1
  unfold P_X10_isSign P_X10_isSign_J32
  refine ⟨a0, by omega, ?_⟩
  rw [q1]
  by_cases hK : kdC y (bgn y (σ 10 0 5).toNat) = 4
  · rw [if_pos hK, q5 hK]
    refine ⟨a0, by omega, ?_⟩
    by_cases he : y.2 (bgn y (σ 10 0 5).toNat) = c
    · rw [if_pos (lC_0.mpr he)]
      refine k1 (fun hg0 => ?_)
      unfold isS tK tS
      rw [hk hg0] at hK he
      rw [decide_eq_true hK, decide_eq_true he]
      rfl
    · rw [if_neg (fun q => he (lC_0.mp q))]
      refine k0 (fun hg0 => ?_)
      unfold isS tK tS
      rw [hk hg0] at hK he
      rw [decide_eq_false he, Bool.and_false]
  · rw [if_neg hK]
    refine k0 (fun hg0 => ?_)
    unfold isS tK
    rw [hk hg0] at hK
    rw [decide_eq_false hK, Bool.false_and]
theorem t_isNumber {y : Tp} {N g k : Int} {Q : Int → St → Prop} (h : RS y N g k σ)
    (k1 : (g = 0 → isN y k = true) → Q 1 σ) (k0 : (g = 0 → isN y k = false) → Q 0 σ) : P_X10_isNumber σ Q := by
  obtain ⟨hT, hg, ⟨a0, a1⟩, hk⟩ := h
  obtain ⟨⟨N0, N1⟩, hN, hlt, hall⟩ := hT
  obtain ⟨q1, q2, q3, q4, q5⟩ := hall (σ 10 0 5) a0 a1
  unfold P_X10_isNumber
  refine ⟨a0, by omega, ?_⟩
  rw [q1]
  by_cases hK : kdC y (bgn y (σ 10 0 5).toNat) = 3
  · rw [if_pos hK]
    refine k1 (fun hg0 => ?_)
    rw [hk hg0] at hK
    exact decide_eq_true hK
  · rw [if_neg hK]
    refine k0 (fun hg0 => ?_)
    rw [hk hg0] at hK
    exact decide_eq_false hK
/-! words kept -/
def emi : Nat → Int → Int → List Int
  | 0, _, _ => []
  | n + 1, w, j => if sl 2 ≤ j then [] else if chr 2 j = 32 then w :: emi n 0 (j + 1) else emi n (lng w (chr 2 j)) (j + 1)
theorem emi_all : emi 104 0 0 = rsL.map (cvN 9) := by decide +kernel
theorem t_rsv_L {x0 : Int} {Q : Int → St → Prop} : ∀ (n m : Nat) (w j : Int), 0 ≤ j → sl 2 - j < n → 0 < m → sl 2 - j < m → (x0 ∈ emi n w j → Q 1 σ) → (x0 ∉ emi n w j → Q 0 σ) → P_X10_isReserved_L5 x0 Q m w j σ := by
  have hs := sl_all ⟨2, by decide⟩
  dsimp only at hs
  intro n
  induction n with
  | zero =>
    intro m w j j0 hn hm0 hm k1 k0
    have e0 : emi 0 w j = [] := rfl
    obtain ⟨m, rfl, -⟩ := fu_ex hm0
    unfold P_X10_isReserved_L5
    refine t_length (by decide) ?_
    rw [if_pos (by omega)]
    exact k0 (by rw [e0]; simp)
  | succ n ih =>
    intro m w j j0 hn hm0 hm k1 k0
    obtain ⟨m, rfl, -⟩ := fu_ex hm0
    unfold P_X10_isReserved_L5 P_X10_longer
    refine t_length (by decide) ?_
    unfold emi at k1 k0
    by_cases hj : sl 2 ≤ j
    · rw [if_pos hj] at k1 k0 ⊢
      exact k0 (by simp)
    · rw [if_neg hj] at k1 k0 ⊢
      refine t_charAt (by decide) j0 (by omega) ?_
      rw [wi_id (z := j + 1) (by omega) (by omega)]
      by_cases h32 : chr 2 j = 32
      · rw [if_pos h32] at k1 k0 ⊢
        by_cases he : w = x0
        · rw [if_pos (lC_0.mpr he)]
          exact k1 (by rw [he]; exact .head _)
        · rw [if_neg (fun q => he (lC_0.mp q))]
          refine ih m 0 (j + 1) (by omega) (by omega) (by omega) (by omega) (fun h => k1 (.tail _ h)) (fun h => k0 (fun q => ?_))
          cases q with
          | head => exact he rfl
          | tail _ q => exact h q
      · rw [if_neg h32] at k1 k0 ⊢
        exact ih m _ (j + 1) (by omega) (by omega) (by omega) (by omega) k1 k0
theorem rs_rng : ∀ w ∈ rsL, 0 ≤ w ∧ w < 27 ^ 9 := by decide +kernel
theorem t_isReserved {w : Int} {Q : Int → St → Prop} (w0 : 0 ≤ w) (w1 : w < 27 ^ 8) (k1 : rsL.contains w = true → Q 1 σ) (k0 : rsL.contains w = false → Q 0 σ) : P_X10_isReserved (cvN 9 w) σ Q := by
  have l2 : sl 2 = 103 := by decide +kernel
  have e9 : (27 : Int) ^ 8 < 27 ^ 9 := by decide
  unfold P_X10_isReserved
  refine t_rsv_L 104 FU 0 0 (Int.le_refl 0) (by rw [l2]; decide) (FU_pos (by omega)) (by rw [l2]; decide) (fun h => ?_) (fun h => ?_)
  · rw [emi_all] at h
    obtain ⟨v, hv, he⟩ := List.mem_map.mp h
    have hr := rs_rng v hv
    have : v = w := cvN_inj 9 v w hr.1 hr.2 w0 (by omega) he
    rw [this] at hv
    exact k1 (List.contains_iff_mem.mpr hv)
  · refine k0 ?_
    cases hc : rsL.contains w
    · rfl
    · exfalso
      rw [emi_all] at h
      exact h (List.mem_map.mpr ⟨w, List.contains_iff_mem.mp hc, rfl⟩)
theorem t_isName {y : Tp} {N g k : Int} {Q : Int → St → Prop} (h : RS y N g k σ)
    (k1 : (g = 0 → isM y k = true) → Q 1 σ) (k0 : (g = 0 → isM y k = false) → Q 0 σ) : P_X10_isName σ Q := by
  obtain ⟨hT, hg, ⟨a0, a1⟩, hk⟩ := h
  obtain ⟨⟨N0, N1⟩, hN, hlt, hall⟩ := hT
  obtain ⟨q1, q2, q3, q4, q5⟩ := hall (σ 10 0 5) a0 a1
  unfold P_X10_isName P_X10_isName_J32
  refine ⟨a0, by omega, ?_⟩
  rw [q1]
  by_cases hK : kdC y (bgn y (σ 10 0 5).toNat) = 2
  · rw [if_pos hK, q3 hK]
    have hwo := wd_ok hK
    refine ⟨a0, by omega, t_isReserved hwo.1 hwo.2 (fun hc => ?_) (fun hc => ?_)⟩
    · rw [if_neg one_no]
      refine k0 (fun hg0 => ?_)
      unfold isM tK tW
      rw [hk hg0] at hK hc
      rw [hc, Bool.not_true, Bool.and_false]
    · rw [if_pos rfl]
      refine k1 (fun hg0 => ?_)
      unfold isM tK tW
      rw [hk hg0] at hK hc
      rw [hc, decide_eq_true hK]
      rfl
  · rw [if_neg hK]
    refine k0 (fun hg0 => ?_)
    unfold isM tK
    rw [hk hg0] at hK
    rw [decide_eq_false hK, Bool.false_and]
theorem tB_rng {y : Tp} (h : WfT y) (k : Int) : 0 ≤ tB y k ∧ tB y k ≤ 1000 := by
  have := bgn_rng h.1.1 k.toNat
  have := h.1.2
  unfold tB
  omega
/-- a fault's number -/
def fl (y : Tp) (c k : Int) : Int := c + 16 * tB y k
theorem fl_rng {y : Tp} (h : WfT y) {c k : Int} (c0 : 1 ≤ c) (c1 : c ≤ 5) : 1 ≤ fl y c k ∧ fl y c k ≤ 16005 := by
  have := tB_rng h k
  unfold fl
  omega
theorem t_wrong {y : Tp} {N g k c : Int} {Q : St → Prop} (hW : WfT y) (h : RS y N g k σ) (c0 : 1 ≤ c) (c1 : c ≤ 5) (kk : ∀ σ', Sm pkA σ σ' → RS y N (if g = 0 then fl y c k else g) (k + 1) σ' → Q σ') : P_X10_wrong c σ Q := by
  have h' := h
  obtain ⟨hT, hg, ⟨a0, a1⟩, hk⟩ := h'
  have hT' := hT
  obtain ⟨⟨N0, N1⟩, hN, hlt, hall⟩ := hT'
  obtain ⟨q1, q2, q3, q4, q5⟩ := hall (σ 10 0 5) a0 a1
  have hb := tB_rng hW k
  unfold P_X10_wrong
  rw [hg]
  by_cases g0 : g = 0
  · have hfl := fl_rng hW (k := k) c0 c1
    rw [if_pos g0] at kk ⊢
    have e : σ 1102 0 (σ 10 0 5) = tB y k := by rw [q2, hk g0]; rfl
    rw [e, wi_id (z := 16 * tB y k) (by omega) (by omega), wi_id (z := c + 16 * tB y k) (by omega) (by omega)]
    have s1 : Sm pkA σ (up σ 10 0 6 (c + 16 * tB y k)) := Sm_up Sm.rf rfl
    refine ⟨a0, by omega, kk _ s1 ⟨TkC_keep s1 rfl hT, up_at, ?_, fun q => ?_⟩⟩
    · rw [up_nx (by decide)]; exact ⟨a0, a1⟩
    · omega
  · rw [if_neg g0] at kk ⊢
    exact kk σ Sm.rf ⟨hT, hg, ⟨a0, a1⟩, fun q => absurd q g0⟩
theorem tK_end {y : Tp} {N : Int} (hT : TkC σ y N) {k : Int} (k0 : 0 ≤ k) (k1 : k ≤ N) : tK y k = 0 ↔ k = N := by
  obtain ⟨⟨N0, N1⟩, hN, hlt, hall⟩ := hT
  unfold tK
  refine ⟨fun h => Classical.byContradiction (fun hne => ?_), fun h => ?_⟩
  · have := hlt k k0 (by omega)
    unfold kdC at h
    rw [if_neg (by omega)] at h
    split at h
    · split at h <;> cases h
    · split at h
      · split at h <;> cases h
      · split at h <;> cases h
  · rw [h, hN]
    unfold kdC
    rw [if_pos (Int.le_refl _)]
theorem t_goesOn {y : Tp} {N g k : Int} {Q : Int → St → Prop} (h : RS y N g k σ)
    (k1 : g = 0 → tK y k ≠ 0 → Q 1 σ) (k0 : ¬ (g = 0 ∧ tK y k ≠ 0) → Q 0 σ) : P_X10_goesOn σ Q := by
  obtain ⟨hT, hg, ⟨a0, a1⟩, hk⟩ := h
  have hT' := hT
  obtain ⟨⟨N0, N1⟩, hN, hlt, hall⟩ := hT'
  obtain ⟨q1, q2, q3, q4, q5⟩ := hall (σ 10 0 5) a0 a1
  unfold P_X10_goesOn P_X10_goesOn_J23
  rw [hg]
  by_cases g0 : g = 0
  · rw [if_pos g0, q1]
    refine ⟨a0, by omega, ?_⟩
    have e : kdC y (bgn y (σ 10 0 5).toNat) = tK y k := by rw [hk g0]; rfl
    rw [e]
    by_cases hz : tK y k = 0
    · rw [if_pos hz]
      exact k0 (fun q => q.2 hz)
    · rw [if_neg hz]
      exact k1 g0 hz
  · rw [if_neg g0]
    exact k0 (fun q => g0 q.1)
/-- on to the next token; at a token that isn't the end -/
theorem t_next {y : Tp} {N g k : Int} {Q : St → Prop} (h : RS y N g k σ) (hz : g = 0 → tK y k ≠ 0) (kk : ∀ σ', Sm pkA σ σ' → RS y N g (k + 1) σ' → Q σ') : P_X10_next σ Q := by
  unfold P_X10_next
  refine t_goesOn h (fun g0 hk0 => ?_) (fun hn => ?_)
  · obtain ⟨hT, hg, ⟨a0, a1⟩, hk⟩ := h
    have hk := hk g0
    have hT' := hT
    obtain ⟨⟨N0, N1⟩, hN, hlt, hall⟩ := hT'
    have hne : k ≠ N := fun e => hk0 ((tK_end hT (by omega) (by omega)).mpr e)
    rw [if_neg one_no, if_neg (by omega), hk, wi_id (z := k + 1) (by omega) (by omega)]
    have s1 : Sm pkA σ (up σ 10 0 5 (k + 1)) := Sm_up Sm.rf rfl
    refine kk _ s1 ⟨TkC_keep s1 rfl hT, by rw [up_nx (by decide)]; exact hg, by rw [up_at]; omega, fun _ => up_at⟩
  · rw [if_pos rfl]
    have g0 : g ≠ 0 := fun q => hn ⟨q, hz q⟩
    obtain ⟨hT, hg, ha, hk⟩ := h
    exact kk σ Sm.rf ⟨hT, hg, ha, fun q => absurd q g0⟩
theorem isW_nz {y : Tp} {k c : Int} (h : isW y k c = true) : tK y k ≠ 0 := by
  unfold isW at h
  rw [Bool.and_eq_true] at h
  have := of_decide_eq_true h.1
  omega
theorem isS_nz {y : Tp} {k c : Int} (h : isS y k c = true) : tK y k ≠ 0 := by
  unfold isS at h
  rw [Bool.and_eq_true] at h
  have := of_decide_eq_true h.1
  omega
theorem isN_nz {y : Tp} {k : Int} (h : isN y k = true) : tK y k ≠ 0 := by
  have := of_decide_eq_true h
  omega
theorem isM_nz {y : Tp} {k : Int} (h : isM y k = true) : tK y k ≠ 0 := by
  unfold isM at h
  rw [Bool.and_eq_true] at h
  have := of_decide_eq_true h.1
  omega
theorem st_g {g : Int} {b : Bool} {f : Int} (h : g = 0 → b = true) : st g b f = g := by
  unfold st
  split
  · rename_i g0
    rw [h g0, if_pos rfl, g0]
  · rfl
theorem st_f {g : Int} {b : Bool} {f : Int} (h : g = 0 → b = false) : st g b f = if g = 0 then f else g := by
  unfold st
  split
  · rename_i g0
    rw [h g0, if_neg (by decide)]
  · rfl
theorem t_takeWord {y : Tp} {N g k : Int} {o : Nat} {Q : St → Prop} (hW : WfT y) (h : RS y N g k σ) (ho : o < 27) (h0 : o ≠ 0) (h2 : o ≠ 2)
    (kk : ∀ σ', Sm pkA σ σ' → RS y N (st g (isW y k (cw o)) (fl y 1 k)) (k + 1) σ' → Q σ') : P_X10_takeWord o σ Q := by
  unfold P_X10_takeWord
  refine t_isWord h ho h0 h2 (fun hw => ?_) (fun hw => ?_)
  · rw [if_neg one_no]
    rw [st_g hw] at kk
    exact t_next h (fun g0 => isW_nz (hw g0)) kk
  · rw [if_pos rfl]
    rw [st_f hw] at kk
    exact t_wrong hW h (by decide) (by decide) kk
theorem t_takeSign {y : Tp} {N g k c : Int} {Q : St → Prop} (hW : WfT y) (h : RS y N g k σ)
    (kk : ∀ σ', Sm pkA σ σ' → RS y N (st g (isS y k c) (fl y 1 k)) (k + 1) σ' → Q σ') : P_X10_takeSign c σ Q := by
  unfold P_X10_takeSign
  refine t_isSign h (fun hw => ?_) (fun hw => ?_)
  · rw [if_neg one_no]
    rw [st_g hw] at kk
    exact t_next h (fun g0 => isS_nz (hw g0)) kk
  · rw [if_pos rfl]
    rw [st_f hw] at kk
    exact t_wrong hW h (by decide) (by decide) kk
end
