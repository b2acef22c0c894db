/-! 92: the reference reads a law of wear: its steps -/
def rK0 (Q : Int → St → Prop) : St → Prop := fun σ_43 => P_X12_fails 1 σ_43 (fun r_45 σ_44 => (r_45 = 0 ∨ r_45 = 1) ∧ Q r_45 σ_44)
def rK1 (Q : Int → St → Prop) : St → Prop := fun σ_46 => P_X12_fails 5 σ_46 (fun r_48 σ_47 => (r_48 = 0 ∨ r_48 = 1) ∧ Q r_48 σ_47)
def rK2 (Q : Int → St → Prop) : Int → St → Prop := fun x1_49 σ_50 => P_X12_reads_J399 x1_49 Q σ_50
def rdL (Q : Int → St → Prop) (n : Nat) (d w : Int) (σ : St) : Prop := P_X12_reads_L11 (rK0 Q) (rK1 Q) (rK2 Q) Q n d w σ
def reA : List Reg := [(12, 0, some 4), (12, 0, some 5), (12, 0, some 6), (12, 0, some 7), (12, 0, some 8), (12, 0, some 9), (12, 0, some 22), (1321, 0, none), (1324, 0, none), (1325, 0, none)]
def lo1 (σ τ : St) : Prop := ∀ x : Int, x < 1000 → τ 1321 0 x = σ 1321 0 x
def CdA (σ : St) (cs : List Int) : Prop := σ 12 0 22 = 1000 + cs.length ∧ ∀ i : Nat, i < cs.length → σ 1321 0 (1000 + i) = cs.getD i 0
theorem lo1.tr {σ τ υ : St} (h : lo1 σ τ) (h' : lo1 τ υ) : lo1 σ υ := fun x hx => (h' x hx).trans (h x hx)
theorem lo1.rf {σ : St} : lo1 σ σ := fun _ _ => rfl
theorem lo1_sm {A : List Reg} {σ τ : St} (h : Sm A σ τ) (hn : noT A [1321] 0 = true) : lo1 σ τ := fun x _ => by rw [noT_row h hn (t := 1321) (by decide)]
theorem CdA_keep {A : List Reg} {σ τ : St} {cs : List Int} (h : Sm A σ τ) (hn : noT A [1321] 0 = true) (h22 : inR A 12 0 22 = false) (c : CdA σ cs) : CdA τ cs := by
  unfold CdA at c ⊢
  rw [h 12 0 22 h22, noT_row h hn (t := 1321) (by decide)]
  exact c
def Fu (k : Int) (n : Nat) : Prop := 1 ≤ (n : Int) ∧ 1002 - k ≤ n
theorem bgn_ge {y : Tp} (h0 : 0 ≤ y.1) : ∀ k : Nat, bgn y k < y.1 → (k : Int) ≤ bgn y k
  | 0, _ => (bgn_rng h0 0).1
  | k + 1, h => by
    unfold bgn at h ⊢
    split at h
    · rename_i h2
      rw [if_pos h2]
      have h3 := bgn_ge h0 k h2
      have h4 := enC_rng h2
      have h5 := rnE_rng (p := isBk) h4.2
      omega
    · exact absurd h (Int.lt_irrefl _)
theorem tK_1000 {y : Tp} (hW : WfT y) {k : Int} (h0 : 0 ≤ k) (h : tK y k ≠ 0) : k < 1000 := by
  have h1 := tK_lt h
  have h2 := bgn_ge hW.1.1 k.toNat h1
  have h3 := hW.1.2
  unfold tB at h1
  omega
theorem isS_one {y : Tp} {k c c' : Int} (h : isS y k c = true) (hne : c' ≠ c) : isS y k c' = false := by
  unfold isS at h ⊢
  rw [Bool.and_eq_true] at h
  have h2 := of_decide_eq_true h.2
  rw [h2, decide_eq_false (show ¬ c = c' from fun q => hne q.symm), Bool.and_false]
theorem isW_one {y : Tp} {k c c' : Int} (h : isW y k c = true) (hne : c' ≠ c) : isW y k c' = false := by
  unfold isW at h ⊢
  rw [Bool.and_eq_true] at h
  have h2 := of_decide_eq_true h.2
  rw [h2, decide_eq_false (show ¬ c = c' from fun q => hne q.symm), Bool.and_false]
theorem isW_noS {y : Tp} {k c c' : Int} (h : isW y k c = true) : isS y k c' = false := by
  unfold isW at h
  unfold isS
  rw [Bool.and_eq_true] at h
  rw [of_decide_eq_true h.1]
  rfl
theorem isS_noW {y : Tp} {k c c' : Int} (h : isS y k c = true) : isW y k c' = false := by
  unfold isS at h
  unfold isW
  rw [Bool.and_eq_true] at h
  rw [of_decide_eq_true h.1]
  rfl
section
variable {σ : St}
theorem a_isSignF {y : Tp} {k c : Int} {Q : Int → St → Prop} (hW : WfT y) (h : RA y k σ) (hs : isS y k c = false) (k0 : Q 0 σ) : P_X12_isSign c σ Q := a_isSign hW h (fun q => by rw [hs] at q; cases q) (fun _ => k0)
theorem a_isSignT {y : Tp} {k c : Int} {Q : Int → St → Prop} (hW : WfT y) (h : RA y k σ) (hs : isS y k c = true) (k1 : Q 1 σ) : P_X12_isSign c σ Q := a_isSign hW h (fun _ => k1) (fun q => by rw [hs] at q; cases q)
theorem a_isWordF {y : Tp} {k c : Int} {Q : Int → St → Prop} (h : RA y k σ) (hs : isW y k c = false) (k0 : Q 0 σ) : P_X12_isWord c σ Q := a_isWord h (fun q => by rw [hs] at q; cases q) (fun _ => k0)
theorem a_isWordT {y : Tp} {k c : Int} {Q : Int → St → Prop} (h : RA y k σ) (hs : isW y k c = true) (k1 : Q 1 σ) : P_X12_isWord c σ Q := a_isWord h (fun _ => k1) (fun q => by rw [hs] at q; cases q)
def puA : List Reg := [(12, 0, some 22), (1321, 0, none)]
theorem a_puts {c : Int} {cs : List Int} {Q : St → Prop} (h : CdA σ cs) (hl : (cs.length : Int) < 1000) (k : ∀ σ', Sm puA σ σ' → CdA σ' (cs ++ [c]) → lo1 σ σ' → Q σ') : P_X12_puts c σ Q := by
  obtain ⟨h1, h2⟩ := h
  unfold P_X12_puts
  rw [up_nt (t' := 12) (t := 1321) rfl, h1, wi_id (z := 1000 + (cs.length : Int) + 1) (by omega) (by omega)]
  refine ⟨by omega, by omega, k _ (Sm_up (Sm_up Sm.rf rfl) rfl) ⟨?_, fun i hi => ?_⟩ (fun x hx => ?_)⟩
  · rw [up_at]
    simp only [List.length_append, List.length_cons, List.length_nil]
    omega
  · rw [up_nt rfl]
    simp only [List.length_append, List.length_cons, List.length_nil] at hi
    by_cases e : i = cs.length
    · subst e
      rw [up_at]
      simp [List.getD_eq_getElem?_getD]
    · have hlt : i < cs.length := by omega
      rw [up_nx (by omega), h2 i hlt]
      simp [List.getD_eq_getElem?_getD, List.getElem?_append_left hlt]
  · rw [up_nt rfl, up_nx (by omega)]
/-- a sign or word that joins, met at depth d -/
theorem a_join {y : Tp} {k d r : Int} {n : Nat} {cs : List Int} {Q : Int → St → Prop} (hW : WfT y) (h : RA y k σ) (hC : CdA σ cs) (hl : (cs.length : Int) < 1000) (d0 : 0 ≤ d) (d6 : d < 7) (r0 : 0 ≤ r) (r3 : r ≤ 3) (hj : jnK y r k ≠ -1) (hc1 : r = 1 → σ 1325 0 d = 0)
    (kk : ∀ σ', Sm reA σ σ' → lo1 σ σ' → (∀ e : Int, σ' 1324 0 e = σ 1324 0 e) → (∀ e : Int, e ≠ d → σ' 1325 0 e = σ 1325 0 e) → σ' 1325 0 d = (if r = 1 then 1 else if r = 0 then 0 else σ 1325 0 d) → RA y (k + 1) σ' → CdA σ' (cs ++ [cdK (jnK y r k)]) → rdL Q n d 1 σ') : rdL Q (n + 1) d 0 σ := by
  have hz := jnK_nz hj
  have nx : ∀ τ, RA y k τ → (∀ τ', Sm ntA τ τ' → RA y (k + 1) τ' → rdL Q n d 1 τ') → P_X12_reads_J424 d 1 (P_X12_reads_L11 (rK0 Q) (rK1 Q) (rK2 Q) Q n) (rK0 Q) (rK1 Q) (rK2 Q) Q τ := by
    intro τ h' hh
    unfold P_X12_reads_J424
    exact a_next hW h' hz hh
  have j237 : ∀ c, c = cdK (jnK y r k) → r = 2 ∨ r = 3 → P_X12_reads_J237 d c (P_X12_reads_L11 (rK0 Q) (rK1 Q) (rK2 Q) Q n) (rK0 Q) (rK1 Q) (rK2 Q) Q σ := by
    intro c hc hr
    unfold P_X12_reads_J237
    refine a_puts hC hl (fun τ s1 c1 l1 => ?_)
    refine nx τ (RA_keep s1 rfl rfl rfl rfl rfl rfl rfl h) (fun υ s2 h2 => ?_)
    refine kk υ ((mem_sub (B := reA) rfl s1).tr (mem_sub (B := reA) rfl s2)) (l1.tr (lo1_sm s2 rfl)) (fun e => ?_) (fun e _ => ?_) ?_ h2 ?_
    · rw [s2.row (t := 1324) (i := 0) rfl, s1.row (t := 1324) (i := 0) rfl]
    · rw [s2.row (t := 1325) (i := 0) rfl, s1.row (t := 1325) (i := 0) rfl]
    · rw [s2.row (t := 1325) (i := 0) rfl, s1.row (t := 1325) (i := 0) rfl, if_neg (by omega), if_neg (by omega)]
    · rw [← hc]
      exact CdA_keep s2 rfl rfl c1
  have j289 : ∀ c, c = cdK (jnK y r k) → r = 1 → P_X12_reads_J289 d c (P_X12_reads_L11 (rK0 Q) (rK1 Q) (rK2 Q) Q n) (rK0 Q) (rK1 Q) (rK2 Q) Q σ := by
    intro c hc hr
    unfold P_X12_reads_J289
    refine a_puts hC hl (fun τ s1 c1 l1 => ?_)
    refine ⟨d0, d6, ?_⟩
    have s1b : Sm reA σ (up τ 1325 0 d 1) := Sm_up (mem_sub (B := reA) rfl s1) rfl
    have s1c : Sm [(1325, 0, none)] τ (up τ 1325 0 d 1) := Sm_up Sm.rf rfl
    refine nx _ (RA_keep s1c rfl rfl rfl rfl rfl rfl rfl (RA_keep s1 rfl rfl rfl rfl rfl rfl rfl h)) (fun υ s2 h2 => ?_)
    refine kk υ (s1b.tr (mem_sub (B := reA) rfl s2)) (l1.tr ((lo1_sm s1c rfl).tr (lo1_sm s2 rfl))) (fun e => ?_) (fun e he => ?_) ?_ h2 ?_
    · rw [s2.row (t := 1324) (i := 0) rfl, up_nt rfl, s1.row (t := 1324) (i := 0) rfl]
    · rw [s2.row (t := 1325) (i := 0) rfl, up_nx he, s1.row (t := 1325) (i := 0) rfl]
    · rw [s2.row (t := 1325) (i := 0) rfl, up_at, if_pos hr]
    · rw [← hc]
      exact CdA_keep s2 rfl rfl (CdA_keep s1c rfl rfl c1)
  have j342 : ∀ c, c = cdK (jnK y r k) → r = 0 → P_X12_reads_J342 d c (P_X12_reads_L11 (rK0 Q) (rK1 Q) (rK2 Q) Q n) (rK0 Q) (rK1 Q) (rK2 Q) Q σ := by
    intro c hc hr
    unfold P_X12_reads_J342
    refine a_puts hC hl (fun τ s1 c1 l1 => ?_)
    refine ⟨d0, d6, ?_⟩
    have s1b : Sm reA σ (up τ 1325 0 d 0) := Sm_up (mem_sub (B := reA) rfl s1) rfl
    have s1c : Sm [(1325, 0, none)] τ (up τ 1325 0 d 0) := Sm_up Sm.rf rfl
    refine nx _ (RA_keep s1c rfl rfl rfl rfl rfl rfl rfl (RA_keep s1 rfl rfl rfl rfl rfl rfl rfl h)) (fun υ s2 h2 => ?_)
    refine kk υ (s1b.tr (mem_sub (B := reA) rfl s2)) (l1.tr ((lo1_sm s1c rfl).tr (lo1_sm s2 rfl))) (fun e => ?_) (fun e he => ?_) ?_ h2 ?_
    · rw [s2.row (t := 1324) (i := 0) rfl, up_nt rfl, s1.row (t := 1324) (i := 0) rfl]
    · rw [s2.row (t := 1325) (i := 0) rfl, up_nx he, s1.row (t := 1325) (i := 0) rfl]
    · rw [s2.row (t := 1325) (i := 0) rfl, up_at, if_neg (by omega), if_pos hr]
    · rw [← hc]
      exact CdA_keep s2 rfl rfl (CdA_keep s1c rfl rfl c1)
  show P_X12_reads_L11 (rK0 Q) (rK1 Q) (rK2 Q) Q (n + 1) d 0 σ
  unfold P_X12_reads_L11
  rw [if_pos rfl]
  have hr : r = 0 ∨ r = 1 ∨ r = 2 ∨ r = 3 := by omega
  rcases hr with hr | hr | hr | hr
  · -- and, or
    subst hr
    have hw : isW y k 1111 = true ∨ (isW y k 1111 = false ∧ isW y k 423 = true) := by
      unfold jnK at hj
      rw [if_pos rfl] at hj
      cases h1 : isW y k 1111
      · cases h2 : isW y k 423
        · rw [h1, h2] at hj; exact absurd rfl hj
        · exact Or.inr ⟨rfl, rfl⟩
      · exact Or.inl rfl
    have hs : ∀ c, isS y k c = false := fun c => hw.elim (fun q => isW_noS q) (fun q => isW_noS q.2)
    refine a_isSignF hW h (hs _) ?_
    rw [if_pos rfl]
    refine a_isSignF hW h (hs _) ?_
    rw [if_pos rfl]
    refine a_isSignF hW h (hs _) ?_
    rw [if_pos rfl]
    refine a_isSignF hW h (hs _) ?_
    rw [if_pos rfl]
    refine a_isSignF hW h (hs _) ?_
    rw [if_pos rfl]
    unfold P_X12_reads_J304 P_X12_reads_J324
    rcases hw with q | ⟨q1, q2⟩
    · refine a_isWordT h q ?_
      rw [if_neg one_no]
      refine a_isWordT h q ?_
      rw [if_neg one_no]
      exact j342 26 (by unfold jnK; rw [if_pos rfl, if_pos q]; rfl) rfl
    · refine a_isWordF h q1 ?_
      rw [if_pos rfl]
      refine a_isWordT h q2 ?_
      rw [if_neg one_no]
      refine a_isWordF h q1 ?_
      rw [if_pos rfl]
      exact j342 27 (by unfold jnK; rw [if_pos rfl, q1, if_neg (by decide), if_pos q2]; rfl) rfl
  · subst hr
    have hw : isS y k 60 = true ∨ (isS y k 60 = false ∧ isS y k 61 = true) := by
      unfold jnK at hj
      rw [if_neg (by decide), if_pos rfl] at hj
      cases h1 : isS y k 60
      · cases h2 : isS y k 61
        · rw [h1, h2] at hj; exact absurd rfl hj
        · exact Or.inr ⟨rfl, rfl⟩
      · exact Or.inl rfl
    have hs : ∀ c, c ≠ 60 → c ≠ 61 → isS y k c = false := fun c h60 h61 => hw.elim (fun q => isS_one q h60) (fun q => isS_one q.2 h61)
    refine a_isSignF hW h (hs _ (by decide) (by decide)) ?_
    rw [if_pos rfl]
    refine a_isSignF hW h (hs _ (by decide) (by decide)) ?_
    rw [if_pos rfl]
    refine a_isSignF hW h (hs _ (by decide) (by decide)) ?_
    rw [if_pos rfl]
    rcases hw with q | ⟨q1, q2⟩
    · refine a_isSignT hW h q ?_
      rw [if_neg one_no]
      unfold P_X12_reads_J263
      rw [hc1 rfl, if_pos rfl]
      refine ⟨d0, d6, a_isSignT hW h q ?_⟩
      rw [if_neg one_no]
      exact j289 24 (by unfold jnK; rw [if_neg (by decide), if_pos rfl, if_pos q]; rfl) rfl
    · refine a_isSignF hW h q1 ?_
      rw [if_pos rfl]
      refine a_isSignT hW h q2 ?_
      rw [if_neg one_no]
      unfold P_X12_reads_J263
      rw [hc1 rfl, if_pos rfl]
      refine ⟨d0, d6, a_isSignF hW h q1 ?_⟩
      rw [if_pos rfl]
      exact j289 25 (by unfold jnK; rw [if_neg (by decide), if_pos rfl, q1, if_neg (by decide), if_pos q2]; rfl) rfl
  · subst hr
    have hw : isS y k 43 = true ∨ (isS y k 43 = false ∧ isS y k 45 = true) := by
      unfold jnK at hj
      rw [if_neg (by decide), if_neg (by decide), if_pos rfl] at hj
      cases h1 : isS y k 43
      · cases h2 : isS y k 45
        · rw [h1, h2] at hj; exact absurd rfl hj
        · exact Or.inr ⟨rfl, rfl⟩
      · exact Or.inl rfl
    rcases hw with q | ⟨q1, q2⟩
    · refine a_isSignT hW h q ?_
      rw [if_neg one_no]
      unfold P_X12_reads_J206
      refine a_isSignT hW h q ?_
      rw [if_neg one_no]
      exact j237 20 (by unfold jnK; rw [if_neg (by decide), if_neg (by decide), if_pos rfl, if_pos q]; rfl) (Or.inl rfl)
    · refine a_isSignF hW h q1 ?_
      rw [if_pos rfl]
      refine a_isSignT hW h q2 ?_
      rw [if_neg one_no]
      unfold P_X12_reads_J206
      refine a_isSignF hW h q1 ?_
      rw [if_pos rfl]
      refine a_isSignT hW h q2 ?_
      rw [if_neg one_no]
      exact j237 21 (by unfold jnK; rw [if_neg (by decide), if_neg (by decide), if_pos rfl, q1, if_neg (by decide), if_pos q2]; rfl) (Or.inl rfl)
  · subst hr
    have q : isS y k 42 = true := by
      unfold jnK at hj
      rw [if_neg (by decide), if_neg (by decide), if_neg (by decide), if_pos rfl] at hj
      cases h1 : isS y k 42
      · rw [h1] at hj; exact absurd rfl hj
      · rfl
    refine a_isSignF hW h (isS_one q (by decide)) ?_
    rw [if_pos rfl]
    refine a_isSignF hW h (isS_one q (by decide)) ?_
    rw [if_pos rfl]
    refine a_isSignT hW h q ?_
    rw [if_neg one_no]
    unfold P_X12_reads_J206
    refine a_isSignF hW h (isS_one q (by decide)) ?_
    rw [if_pos rfl]
    refine a_isSignF hW h (isS_one q (by decide)) ?_
    rw [if_pos rfl]
    exact j237 22 (by unfold jnK; rw [if_neg (by decide), if_neg (by decide), if_neg (by decide), if_pos rfl, if_pos q]; rfl) (Or.inr rfl)
/-- what is left of a depth once its nots are gone -/
def bs (op : Int → Int) : Nat → Int
  | 0 => 0
  | d + 1 => if op ((d + 1 : Nat) : Int) = 1 then bs op d else ((d + 1 : Nat) : Int)
theorem bs_rng (op : Int → Int) : ∀ d : Nat, 0 ≤ bs op d ∧ bs op d ≤ d
  | 0 => ⟨Int.le_refl 0, Int.le_refl 0⟩
  | d + 1 => by
    have := bs_rng op d
    unfold bs
    split <;> omega
theorem bs_con {op op' : Int → Int} : ∀ d : Nat, (∀ e : Int, e ≤ d → op e = op' e) → bs op d = bs op' d
  | 0, _ => rfl
  | d + 1, h => by
    unfold bs
    rw [h _ (Int.le_refl _), bs_con d (fun e he => h e (by omega))]
theorem a_pop1 {K : Int → St → Prop} {Q : Int → St → Prop} {w : Int} : ∀ (d n : Nat), d ≤ 6 → d < n → K (bs (σ 1324 0) d) σ → P_X12_reads_L152 w K Q n d σ
  | 0, n, _, hn, k => by
    obtain ⟨n, rfl, -⟩ := fu_ex hn
    unfold P_X12_reads_L152
    rw [if_pos (by decide)]
    exact k
  | d + 1, n, hd, hn, k => by
    obtain ⟨n, rfl, hn'⟩ := fu_ex hn
    unfold P_X12_reads_L152
    unfold bs at k
    rw [if_neg (by omega)]
    refine ⟨by omega, by omega, ?_⟩
    by_cases h : σ 1324 0 ((d + 1 : Nat) : Int) = 1
    · rw [if_pos h] at k ⊢
      rw [show ((d + 1 : Nat) : Int) + (-1) = d by omega, wi_id (z := (d : Int)) (by omega) (by omega)]
      exact a_pop1 d n (by omega) (by omega) k
    · rw [if_neg h] at k ⊢
      exact k
theorem a_pop2 {K : Int → St → Prop} {Q : Int → St → Prop} {w : Int} : ∀ (d n : Nat), d ≤ 6 → d < n → K (bs (σ 1324 0) d) σ → P_X12_reads_L379 w K Q n d σ
  | 0, n, _, hn, k => by
    obtain ⟨n, rfl, -⟩ := fu_ex hn
    unfold P_X12_reads_L379
    rw [if_pos (by decide)]
    exact k
  | d + 1, n, hd, hn, k => by
    obtain ⟨n, rfl, hn'⟩ := fu_ex hn
    unfold P_X12_reads_L379
    unfold bs at k
    rw [if_neg (by omega)]
    refine ⟨by omega, by omega, ?_⟩
    by_cases h : σ 1324 0 ((d + 1 : Nat) : Int) = 1
    · rw [if_pos h] at k ⊢
      rw [show ((d + 1 : Nat) : Int) + (-1) = d by omega, wi_id (z := (d : Int)) (by omega) (by omega)]
      exact a_pop2 d n (by omega) (by omega) k
    · rw [if_neg h] at k ⊢
      exact k
/-- what joins nothing, met at depth d -/
def exC (y : Tp) (c : Nat) (k v : Int) : Prop := (1 ≤ c → jnK y 3 k = -1) ∧ (2 ≤ c → jnK y 2 k = -1) ∧ (3 ≤ c → jnK y 1 k = -1 ∨ v = 1) ∧ (4 ≤ c → jnK y 0 k = -1)
theorem a_other {y : Tp} {k d : Int} {n : Nat} {Q : Int → St → Prop} (hW : WfT y) (h : RA y k σ) (d0 : 0 ≤ d) (d6 : d < 7) (he : exC y 4 k (σ 1325 0 d))
    (k1 : isS y k 41 = true → 0 < d → P_X12_puts 29 σ (fun σ_24 => P_X12_reads_L379 0 (fun x1_25 σ_26 => P_X12_reads_J424 x1_25 0 (P_X12_reads_L11 (rK0 Q) (rK1 Q) (rK2 Q) Q n) (rK0 Q) (rK1 Q) (rK2 Q) Q σ_26) Q FU (wi (d + (-1))) σ_24))
    (k0 : isS y k 41 = false ∨ d = 0 → P_X12_reads_J399 d Q σ) : rdL Q (n + 1) d 0 σ := by
  obtain ⟨e3, e2, e1, e0⟩ := he
  have e3 := e3 (by decide)
  have e2 := e2 (by decide)
  have e1 := e1 (by decide)
  have e0 := e0 (by decide)
  have s42 : isS y k 42 = false := by
    cases q : isS y k 42
    · rfl
    · unfold jnK at e3
      rw [if_neg (by decide), if_neg (by decide), if_neg (by decide), if_pos rfl, if_pos q] at e3
      cases e3
  have s43 : isS y k 43 = false := by
    cases q : isS y k 43
    · rfl
    · unfold jnK at e2
      rw [if_neg (by decide), if_neg (by decide), if_pos rfl, if_pos q] at e2
      cases e2
  have s45 : isS y k 45 = false := by
    cases q : isS y k 45
    · rfl
    · unfold jnK at e2
      rw [if_neg (by decide), if_neg (by decide), if_pos rfl, s43, if_neg (by decide), if_pos q] at e2
      cases e2
  have w1 : isW y k 1111 = false := by
    cases q : isW y k 1111
    · rfl
    · unfold jnK at e0
      rw [if_pos rfl, if_pos q] at e0
      cases e0
  have w2 : isW y k 423 = false := by
    cases q : isW y k 423
    · rfl
    · unfold jnK at e0
      rw [if_pos rfl, w1, if_neg (by decide), if_pos q] at e0
      cases e0
  have j304 : P_X12_reads_J304 d 0 (P_X12_reads_L11 (rK0 Q) (rK1 Q) (rK2 Q) Q n) (rK0 Q) (rK1 Q) (rK2 Q) Q σ := by
    unfold P_X12_reads_J304
    refine a_isWordF h w1 ?_
    rw [if_pos rfl]
    refine a_isWordF h w2 ?_
    rw [if_pos rfl]
    refine a_isSign hW h (fun q => ?_) (fun q => ?_)
    · rw [if_neg one_no]
      by_cases hd : d ≤ 0
      · rw [if_pos hd]
        exact k0 (Or.inr (by omega))
      · rw [if_neg hd]
        exact k1 q (by omega)
    · rw [if_pos rfl]
      exact k0 (Or.inl q)
  have j263 : (isS y k 60 = true ∨ isS y k 61 = true) → P_X12_reads_J263 d 0 (P_X12_reads_L11 (rK0 Q) (rK1 Q) (rK2 Q) Q n) (rK0 Q) (rK1 Q) (rK2 Q) Q σ := by
    intro hq
    have hv : σ 1325 0 d = 1 := by
      rcases e1 with q | q
      · exfalso
        unfold jnK at q
        rw [if_neg (by decide), if_pos rfl] at q
        rcases hq with hq | hq
        · rw [if_pos hq] at q; cases q
        · cases h60 : isS y k 60
          · rw [h60, if_neg (by decide), if_pos hq] at q; cases q
          · rw [if_pos h60] at q; cases q
      · exact q
    unfold P_X12_reads_J263
    rw [hv, if_neg one_no]
    exact ⟨d0, d6, j304⟩
  show P_X12_reads_L11 (rK0 Q) (rK1 Q) (rK2 Q) Q (n + 1) d 0 σ
  unfold P_X12_reads_L11
  rw [if_pos rfl]
  refine a_isSignF hW h s43 ?_
  rw [if_pos rfl]
  refine a_isSignF hW h s45 ?_
  rw [if_pos rfl]
  refine a_isSignF hW h s42 ?_
  rw [if_pos rfl]
  refine a_isSign hW h (fun q => ?_) (fun q => ?_)
  · rw [if_neg one_no]
    exact j263 (Or.inl q)
  · rw [if_pos rfl]
    refine a_isSign hW h (fun q => ?_) (fun q => ?_)
    · rw [if_neg one_no]
      exact j263 (Or.inr q)
    · rw [if_pos rfl]
      exact j304
end
