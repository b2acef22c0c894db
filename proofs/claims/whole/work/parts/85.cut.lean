/-! 85: the class cuts its tokens -/
theorem loopW {X : Type} {F : Nat → X → Prop} (μ : X → Nat) (J : X → Prop) (hs : ∀ (n : Nat) (a : X), J a → (∀ a', J a' → μ a' < μ a → F n a') → F (n + 1) a) : ∀ (n : Nat) (a : X), J a → μ a < n → F n a
  | 0, a, _, h => by omega
  | n + 1, a, hJ, h => hs n a hJ (fun a' hJ' hm => loopW μ J hs n a' hJ' (by omega))
theorem ix_sg : ∀ c : Fin 128, (fnd (fun i => decide (sb 0 i = ib (c.val : Int))) 8 0).isSome = isSg (c.val : Int) := by decide +kernel
theorem t_signs {c : Int} {σ : St} {Q : Int → St → Prop} (c0 : 0 ≤ c) (c1 : c ≤ 126) (k1 : isSg c = true → ∀ r, 0 ≤ r → Q r σ) (k0 : isSg c = false → Q (-1) σ) : P_J0_indexOf_0f7a4 0 c σ Q := by
  have hs := ix_sg ⟨c.toNat, by omega⟩
  dsimp only at hs
  rw [Int.toNat_of_nonneg c0] at hs
  have e8 : bR (sl 0) 0 = 8 := by decide +kernel
  have l8 : sl 0 = 8 := by decide +kernel
  unfold P_J0_indexOf_0f7a4 P_J0_indexOf_7cf53 P_J0_isLatin1_aae02
  refine ⟨by decide, by decide, by decide, ?_⟩
  dsimp only
  rw [if_neg one_no]
  unfold P_J0_length_8abf5 P_J0_coder_7d493
  refine ⟨by decide, by decide, by decide, by decide, by decide, by decide, ?_⟩
  dsimp only
  rw [e8]
  unfold P_J1_indexOf_4cfef P_J1_canEncode_9a6ad
  rw [if_neg (by omega), if_neg (by omega)]
  dsimp only
  rw [if_neg one_no, l8]
  refine ⟨by decide, ?_⟩
  rw [if_pos (by decide)]
  unfold P_J1_indexOfChar_4cfef
  refine findF (F := fun n' i => P_J1_indexOfChar_4cfef_L7 0 (min 8 8) (ib c) (fun r_4 σ_3 => Q r_4 σ_3) n' i σ) (N := 8) (K0 := Q (-1) σ) (K := fun i => Q i σ) (p := fun i => decide (sb 0 i = ib c)) (fun n' i i0 i1 => ⟨fun hp k => ?_, fun hp k => ?_⟩) (fun n' k => ?_) 8 0 FU (Int.le_refl 0) (by omega) (FU_pos (by omega)) ?_
  · unfold P_J1_indexOfChar_4cfef_L7
    rw [if_neg (by omega), if_pos (of_decide_eq_true hp), l8]
    exact ⟨by decide, i0, i1, k⟩
  · unfold P_J1_indexOfChar_4cfef_L7
    rw [if_neg (by omega), if_neg (of_decide_eq_false hp), l8, wi_id (by omega) (by omega)]
    exact ⟨by decide, i0, i1, k⟩
  · unfold P_J1_indexOfChar_4cfef_L7
    rw [if_pos (by omega)]
    exact k
  · cases h : fnd (fun i => decide (sb 0 i = ib c)) 8 0 with
    | none => rw [h] at hs; exact k0 hs.symm
    | some j =>
      rw [h] at hs
      have := fnd_some h
      exact k1 hs.symm j this.1
theorem t_X10_put {T a b c : Int} {σ : St} {Q : St → Prop} (h0 : 0 ≤ T) (h1 : T ≤ 1000) (k : Q (up (up (up σ 1101 0 T a) 1102 0 T b) 1103 0 T c)) : P_X10_put T a b c σ Q := by
  unfold P_X10_put
  rw [if_neg (by omega), if_neg (by omega)]
  exact ⟨h0, by omega, h0, by omega, h0, by omega, k⟩
theorem t_X10_cutOne {y : Tp} {T p : Int} {τ : St} {Q : Int → St → Prop} (hT : TpC τ y) (hW : WfT y) (T0 : 0 ≤ T) (T1 : T ≤ 1000) (p0 : 0 ≤ p) (p1 : p < y.1) (hb : isBk (y.2 p) = false)
    (k : ∀ v, (kdC y p = 2 → v = cvN 9 (woW y p)) → (kdC y p = 3 → v = nuW y p) → (kdC y p = 4 → v = y.2 p) → Q (enC y p) (up (up (up τ 1101 0 T (kdC y p)) 1102 0 T p) 1103 0 T v)) : P_X10_cutOne T p τ Q := by
  obtain ⟨hw0, hw1⟩ := hW
  have hc := hw1 p p0 p1
  have hb := of_decide_eq_false hb
  have hen := enC_rng p1
  have hs : ∀ j : Int, 0 ≤ j → j < y.1 → τ 1100 0 j = y.2 j := hT.2
  unfold P_X10_cutOne
  rw [hs p p0 p1]
  refine ⟨p0, by omega, ?_⟩
  refine t_X11_within (fun a b => ?_) (fun h => ?_)
  · rw [if_neg one_no]
    have hl : isLt (y.2 p) = true := decide_eq_true ⟨a, b⟩
    have he : enC y p = rnE isLt y p := by unfold enC; rw [if_pos hl]
    have hk : kdC y p = if enC y p - p ≤ 8 then 2 else 1 := by unfold kdC; rw [if_neg (by omega), if_pos hl]
    unfold P_X10_cutWord
    refine runI (F := fun n' i w => P_X10_cutWord_L5 T p (fun x3_5 x5_6 σ_7 => P_X10_cutWord_J49 T p x3_5 x5_6 (fun r_11 σ_10 => Q r_11 σ_10) σ_7) (fun r_11 σ_10 => Q r_11 σ_10) n' w i τ) (y := y) (p := isLt) (KK := fun e w => P_X10_cutWord_J49 T p w e (fun r_11 σ_10 => Q r_11 σ_10) τ)
      (fun i w => p ≤ i ∧ w = itr (fun j w => wj (wj (wj (wj (w * 32) + y.2 j) - 97) + 1)) (i - p).toNat p 0) (fun n' i w i0 i1 hJ => ⟨fun hp k => ?_, fun hp k' => ?_⟩) (fun n' w hJ k => ?_) p0 (by omega) (FU_pos (by omega)) ⟨Int.le_refl p, by rw [Int.sub_self]; rfl⟩ (fun w hJ => ?_)
    · have hp := of_decide_eq_false hp
      unfold P_X10_cutWord_L5
      rw [hT.1, if_neg (by omega), hs i i0 i1]
      refine ⟨i0, by omega, t_X11_within (fun a b => absurd ⟨a, b⟩ hp) (fun _ => ?_)⟩
      rw [if_pos rfl]
      exact k
    · have hp := of_decide_eq_true hp
      unfold P_X10_cutWord_L5 P_X10_longer
      rw [hT.1, if_neg (by omega), hs i i0 i1]
      refine ⟨i0, by omega, t_X11_within (fun a b => ?_) (fun h => absurd hp h)⟩
      rw [if_neg one_no, hs i i0 i1, wi_id (z := i + 1) (by omega) (by omega)]
      refine ⟨i0, by omega, k' _ ⟨by omega, ?_⟩⟩
      rw [itr_i hJ.1, ← hJ.2]
    · unfold P_X10_cutWord_L5
      rw [hT.1, if_pos (Int.le_refl _)]
      exact k
    · rw [← he] at hJ ⊢
      unfold P_X10_cutWord_J49 P_X10_cutWord_J65
      rw [wi_id (z := enC y p - p) (by omega) (by omega)]
      by_cases h8 : enC y p - p ≤ 8
      · rw [if_pos h8] at hk
        rw [if_neg (by omega)]
        have hv : w = cvN 9 (woW y p) := by
          rw [hJ.2]
          have hall : ∀ j : Int, p ≤ j → j < p + ((enC y p - p).toNat : Int) → isLt (y.2 j) = true := fun j j0 j1 => rnE_all j0 (by rw [← he]; omega)
          have hr := wd_rng (enC y p - p).toNat hall
          rw [wd_cv _ (by omega) hall]
          exact (cvN_9 (by omega) hr.1 hr.2).symm
        refine t_X10_put T0 T1 ?_
        have k := k w (fun _ => hv) (fun h => by rw [hk] at h; cases h) (fun h => by rw [hk] at h; cases h)
        rwa [hk] at k
      · rw [if_neg h8] at hk
        rw [if_pos (by omega)]
        refine t_X10_put T0 T1 ?_
        have k := k w (fun h => by rw [hk] at h; cases h) (fun h => by rw [hk] at h; cases h) (fun h => by rw [hk] at h; cases h)
        rwa [hk] at k
  · rw [if_pos rfl]
    have hl : isLt (y.2 p) = false := decide_eq_false h
    refine t_X11_within (fun a b => ?_) (fun h2 => ?_)
    · rw [if_neg one_no]
      have hd : isDg (y.2 p) = true := decide_eq_true ⟨a, b⟩
      have he : enC y p = rnE isDg y p := by unfold enC; rw [if_neg (by rw [hl]; decide), if_pos hd]
      have hk : kdC y p = if enC y p - p ≤ 4 then 3 else 1 := by unfold kdC; rw [if_neg (by omega), if_neg (by rw [hl]; decide), if_pos hd]
      unfold P_X10_cutNumber
      refine runI (F := fun n' i w => P_X10_cutNumber_L5 T p (fun x3_3 x5_4 σ_5 => P_X10_cutNumber_J56 T p x3_3 x5_4 (fun r_9 σ_8 => Q r_9 σ_8) σ_5) (fun r_9 σ_8 => Q r_9 σ_8) n' w i τ) (y := y) (p := isDg) (KK := fun e w => P_X10_cutNumber_J56 T p w e (fun r_9 σ_8 => Q r_9 σ_8) τ)
        (fun i w => p ≤ i ∧ w = itr (fun j w => wj (wj (wj (w * 10) + y.2 j) - 48)) (i - p).toNat p 0) (fun n' i w i0 i1 hJ => ⟨fun hp k => ?_, fun hp k' => ?_⟩) (fun n' w hJ k => ?_) p0 (by omega) (FU_pos (by omega)) ⟨Int.le_refl p, by rw [Int.sub_self]; rfl⟩ (fun w hJ => ?_)
      · have hp := of_decide_eq_false hp
        unfold P_X10_cutNumber_L5
        rw [hT.1, if_neg (by omega), hs i i0 i1]
        refine ⟨i0, by omega, t_X11_within (fun a b => absurd ⟨a, b⟩ hp) (fun _ => ?_)⟩
        rw [if_pos rfl]
        exact k
      · have hp := of_decide_eq_true hp
        unfold P_X10_cutNumber_L5
        rw [hT.1, if_neg (by omega), hs i i0 i1]
        refine ⟨i0, by omega, t_X11_within (fun a b => ?_) (fun h => absurd hp h)⟩
        rw [if_neg one_no, hs i i0 i1, wi_id (z := i + 1) (by omega) (by omega)]
        refine ⟨i0, by omega, k' _ ⟨by omega, ?_⟩⟩
        rw [itr_i hJ.1, ← hJ.2]
      · unfold P_X10_cutNumber_L5
        rw [hT.1, if_pos (Int.le_refl _)]
        exact k
      · rw [← he] at hJ ⊢
        unfold P_X10_cutNumber_J56 P_X10_cutNumber_J71
        rw [wi_id (z := enC y p - p) (by omega) (by omega)]
        by_cases h8 : enC y p - p ≤ 4
        · rw [if_pos h8] at hk
          rw [if_neg (by omega)]
          have hv : w = nuW y p := by
            rw [hJ.2]
            have hall : ∀ j : Int, p ≤ j → j < p + ((enC y p - p).toNat : Int) → isDg (y.2 j) = true := fun j j0 j1 => rnE_all j0 (by rw [← he]; omega)
            exact nu_cv _ (by omega) hall
          refine t_X10_put T0 T1 ?_
          have k := k w (fun h => by rw [hk] at h; cases h) (fun _ => hv) (fun h => by rw [hk] at h; cases h)
          rwa [hk] at k
        · rw [if_neg h8] at hk
          rw [if_pos (by omega)]
          refine t_X10_put T0 T1 ?_
          have k := k w (fun h => by rw [hk] at h; cases h) (fun h => by rw [hk] at h; cases h) (fun h => by rw [hk] at h; cases h)
          rwa [hk] at k
    · rw [if_pos rfl]
      have hd : isDg (y.2 p) = false := decide_eq_false h2
      have he : enC y p = p + 1 := by unfold enC; rw [if_neg (by rw [hl]; decide), if_neg (by rw [hd]; decide)]
      have hk : kdC y p = if isSg (y.2 p) then 4 else 1 := by unfold kdC; rw [if_neg (by omega), if_neg (by rw [hl]; decide), if_neg (by rw [hd]; decide)]
      refine t_signs (by omega) (by omega) (fun hg r r0 => ?_) (fun hg => ?_)
      · rw [hg, if_pos rfl] at hk
        rw [if_neg (by omega)]
        unfold P_X10_cutOne_J59
        refine t_X10_put T0 T1 ?_
        rw [wi_id (z := p + 1) (by omega) (by omega), ← he]
        have k := k (y.2 p) (fun h => by rw [hk] at h; cases h) (fun h => by rw [hk] at h; cases h) (fun _ => rfl)
        rwa [hk] at k
      · rw [hg, if_neg (by decide)] at hk
        rw [if_pos (by omega)]
        unfold P_X10_cutOne_J59
        refine t_X10_put T0 T1 ?_
        rw [wi_id (z := p + 1) (by omega) (by omega), ← he]
        have k := k (y.2 p) (fun h => by rw [hk] at h; cases h) (fun h => by rw [hk] at h; cases h) (fun _ => rfl)
        rwa [hk] at k
def tkT : List Reg := [(1101, 0, none), (1102, 0, none), (1103, 0, none)]
def ctA11 : List Reg := [(1101, 0, none), (1102, 0, none), (1103, 0, none), (10, 0, some 4), (10, 0, some 5), (10, 0, some 6)]
/-- the token stored at j -/
def tkS (τ : St) (y : Tp) (j : Int) : Prop := τ 1101 0 j = kdC y (bgn y j.toNat) ∧ τ 1102 0 j = bgn y j.toNat ∧ (kdC y (bgn y j.toNat) = 2 → τ 1103 0 j = cvN 9 (woW y (bgn y j.toNat))) ∧ (kdC y (bgn y j.toNat) = 3 → τ 1103 0 j = nuW y (bgn y j.toNat)) ∧ (kdC y (bgn y j.toNat) = 4 → τ 1103 0 j = y.2 (bgn y j.toNat))
theorem tkS_ne {τ : St} {y : Tp} {j T a b c : Int} (h : j ≠ T) (hj : tkS τ y j) : tkS (up (up (up τ 1101 0 T a) 1102 0 T b) 1103 0 T c) y j := by
  unfold tkS at hj ⊢
  rw [up_nt (t' := 1101) (t := 1103) rfl, up_nt (t' := 1101) (t := 1102) rfl, up_nx h, up_nt (t' := 1102) (t := 1103) rfl, up_nx h, up_nt (t' := 1102) (t := 1101) rfl, up_nx h, up_nt (t' := 1103) (t := 1102) rfl, up_nt (t' := 1103) (t := 1101) rfl]
  exact hj
theorem t_X10_cut {y : Tp} {σ : St} {Q : St → Prop} (hT : TpC σ y) (hW : WfT y) (k : ∀ N σ', Sm ctA11 σ σ' → TkC σ' y N → σ' 10 0 4 = 0 → σ' 10 0 5 = 0 → σ' 10 0 6 = 0 → Q σ') : P_X10_cut σ Q := by
  obtain ⟨hw0, hw1⟩ := id hW
  unfold P_X10_cut
  refine loopW (X := Int × Int × Int × St) (F := fun n' a => P_X10_cut_L6 (fun x1_3 σ_4 => P_X10_cut_J65 x1_3 Q σ_4) Q n' a.1 a.2.1 a.2.2.1 a.2.2.2) (fun a => (y.1 - a.2.1).toNat)
    (fun a => Sm tkT σ a.2.2.2 ∧ (0 ≤ a.1 ∧ a.1 ≤ a.2.2.1) ∧ (a.2.2.1 ≤ a.2.1 ∧ a.2.1 ≤ y.1) ∧ bgn y a.1.toNat = rnE isBk y a.2.1 ∧ ∀ j : Int, 0 ≤ j → j < a.1 → bgn y j.toNat < y.1 ∧ tkS a.2.2.2 y j) ?_ FU (0, 0, 0, σ) ⟨Sm.rf, ⟨Int.le_refl 0, Int.le_refl 0⟩, ⟨Int.le_refl 0, hw0.1⟩, rfl, fun j j0 j1 => by dsimp only at j1; omega⟩ (FU_pos (by dsimp only; omega))
  rintro n' ⟨T, p, i, τ⟩ ⟨hs, ⟨T0, T1⟩, ⟨p0, p1⟩, hb, hr⟩ k'
  dsimp only at hs T0 T1 p0 p1 hb hr k' ⊢
  have hTp : TpC τ y := ⟨by rw [hs.row (t := 10) (i := 0) rfl]; exact hT.1, fun j j0 j1 => by rw [hs.row (t := 1100) (i := 0) rfl]; exact hT.2 j j0 j1⟩
  have fin : p = y.1 → P_X10_cut_J65 T Q τ := by
    intro hp
    rw [hp, rnE_ge (Int.le_refl _)] at hb
    unfold P_X10_cut_J65
    rw [hTp.1]
    refine t_X10_put T0 (by omega) ?_
    refine k T _ (Sm_up (Sm_up (Sm_up ((mem_sub (A := tkT) (B := ctA11) rfl (Sm_up (Sm_up (Sm_up hs rfl) rfl) rfl))) rfl) rfl) rfl) ⟨⟨T0, by omega⟩, hb, fun j j0 j1 => (hr j j0 j1).1, fun j j0 j1 => ?_⟩ ?_ ?_ up_at
    · have e : ∀ (t : Nat) (h : Nat.beq t 10 = false) (x : Int), (up (up (up (up (up (up τ 1101 0 T 0) 1102 0 T y.1) 1103 0 T 0) 10 0 4 0) 10 0 5 0) 10 0 6 0) t 0 x = (up (up (up τ 1101 0 T 0) 1102 0 T y.1) 1103 0 T 0) t 0 x := fun t h x => by rw [up_nt h, up_nt h, up_nt h]
      rw [e 1101 rfl, e 1102 rfl, e 1103 rfl]
      by_cases ej : j = T
      · have hk : kdC y (bgn y j.toNat) = 0 := by
          rw [ej, hb]
          unfold kdC
          rw [if_pos (Int.le_refl _)]
        rw [hk, ej, hb]
        refine ⟨?_, ?_, fun h => (by cases h), fun h => (by cases h), fun h => (by cases h)⟩
        · rw [up_nt rfl, up_nt rfl, up_at]
        · rw [up_nt rfl, up_at]
      · exact tkS_ne ej (hr j j0 (by omega)).2
    · rw [up_nx (by decide), up_nx (by decide), up_at]
    · rw [up_nx (by decide), up_at]
  unfold P_X10_cut_L6
  by_cases h1000 : 1000 ≤ i
  · rw [if_pos h1000]
    exact fin (by omega)
  · rw [if_neg h1000, hTp.1]
    by_cases hp : y.1 ≤ p
    · rw [if_pos hp]
      exact fin (by omega)
    · rw [if_neg hp, hTp.2 p (by omega) (by omega)]
      have bk : isBk (y.2 p) = true → P_X10_cut_J43 T p i (P_X10_cut_L6 (fun x1_3 σ_4 => P_X10_cut_J65 x1_3 Q σ_4) Q n') (fun x1_3 σ_4 => P_X10_cut_J65 x1_3 Q σ_4) Q τ := by
        intro h
        unfold P_X10_cut_J43
        rw [wi_id (z := p + 1) (by omega) (by omega), wi_id (z := i + 1) (by omega) (by omega)]
        refine k' (T, p + 1, i + 1, τ) ⟨hs, ⟨T0, by dsimp only; omega⟩, by dsimp only; omega, ?_, hr⟩ (by dsimp only; omega)
        dsimp only
        rw [hb, rnE_go (by omega) h]
      refine ⟨by omega, by omega, ?_⟩
      by_cases h10 : y.2 p = 10
      · rw [if_pos h10]
        exact bk (decide_eq_true (Or.inl h10))
      · rw [if_neg h10]
        refine ⟨by omega, by omega, ?_⟩
        by_cases h32 : y.2 p = 32
        · rw [if_pos h32]
          exact bk (decide_eq_true (Or.inr h32))
        · rw [if_neg h32]
          have hbk : isBk (y.2 p) = false := decide_eq_false (fun q => q.elim h10 h32)
          have hbp : bgn y T.toNat = p := by rw [hb, rnE_no (by omega) hbk]
          have hen := enC_rng (y := y) (p := p) (by omega)
          refine t_X10_cutOne hTp hW T0 (by omega) (by omega) (by omega) hbk (fun v v2 v3 v4 => ?_)
          rw [wi_id (z := T + 1) (by omega) (by omega), wi_id (z := i + 1) (by omega) (by omega)]
          refine k' (T + 1, enC y p, i + 1, up (up (up τ 1101 0 T (kdC y p)) 1102 0 T p) 1103 0 T v) ⟨Sm_up (Sm_up (Sm_up hs rfl) rfl) rfl, by dsimp only; omega, by dsimp only; omega, ?_, fun j j0 j1 => ?_⟩ (by dsimp only; omega)
          · dsimp only
            rw [show (T + 1).toNat = T.toNat + 1 by omega]
            show (if bgn y T.toNat < y.1 then rnE isBk y (enC y (bgn y T.toNat)) else y.1) = _
            rw [hbp, if_pos (by omega)]
          · dsimp only at j1
            by_cases ej : j = T
            · rw [ej]
              refine ⟨by rw [hbp]; omega, ?_⟩
              unfold tkS
              rw [hbp]
              refine ⟨?_, ?_, fun h => ?_, fun h => ?_, fun h => ?_⟩
              · show up (up (up τ 1101 0 T (kdC y p)) 1102 0 T p) 1103 0 T v 1101 0 T = _
                rw [up_nt rfl, up_nt rfl, up_at]
              · show up (up (up τ 1101 0 T (kdC y p)) 1102 0 T p) 1103 0 T v 1102 0 T = _
                rw [up_nt rfl, up_at]
              · exact up_at.trans (v2 h)
              · exact up_at.trans (v3 h)
              · exact up_at.trans (v4 h)
            · exact ⟨(hr j j0 (by omega)).1, tkS_ne ej (hr j j0 (by omega)).2⟩
