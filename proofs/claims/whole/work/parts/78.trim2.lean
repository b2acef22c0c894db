/-! 78: trim of the class -/
section
variable {n m dk : Int} {z : Ab} {σ : St}
theorem t_X1_choose {hm sz : Int → Int} {i w : Int} {τ : St} {Q : St → Prop} (i0 : 0 ≤ i) (i1 : i < n) (n6 : n ≤ 6) (m0 : 0 ≤ m) (m6 : m ≤ 6) (w0 : 0 ≤ w) (w1 : w ≤ 60) (hc0 : 0 ≤ τ 903 0 i) (hc1 : τ 903 0 i < n)
    (hO : ∀ s : Int, 0 ≤ s → s ≤ 60 → τ 256 (τ 903 0 i).toNat s = ocW hm sz m (τ 903 0 i) s) (hB : ∀ w' : Int, 0 ≤ w' → w' ≤ 60 → τ 254 (i + 1).toNat w' = (bpK n (τ 903 0) (hoW hm sz m) (n - 1 - i).toNat w').1)
    (k : Q (up (up τ 254 i.toNat w (bpK n (τ 903 0) (hoW hm sz m) (n - i).toNat w).1) 255 i.toNat w (bpK n (τ 903 0) (hoW hm sz m) (n - i).toNat w).2)) : P_X1_choose i w τ Q := by
  have hrg := fun k w => bpK_rng (n := n) (r := τ 903 0) (ho := hoW hm sz m) (m := m) (fun c lo hi => hoW_rng m0) k w
  have ek : (n - i).toNat = (n - 1 - i).toNat + 1 := by omega
  have en : n - 1 - (((n - 1 - i).toNat : Nat) : Int) = i := by omega
  rw [ek] at k
  unfold bpK at k
  rw [en] at k
  generalize hk : (n - 1 - i).toNat = K at k hB
  have hK : (K : Int) ≤ 6 := by omega
  have hmK : m * (K : Int) ≤ 6 * 6 := Int.mul_le_mul m6 hK (by omega) (by decide)
  generalize hcc : τ 903 0 i = c at k hO hc0 hc1
  unfold P_X1_choose
  rw [wi_id (z := i + 1) (by omega) (by omega), wi_id (z := w + 1) (by omega) (by omega), hcc, hB w w0 w1]
  refine ⟨i0, by omega, hc0, by omega, by omega, by omega, w0, by omega, ?_⟩
  refine loopI (X := Int × Int × Int) (F := fun n' j a => P_X1_choose_L38 i w c.toNat (fun x4_1 x5_2 σ_3 => 0 ≤ i ∧ i < 7 ∧ 0 ≤ w ∧ w < 61 ∧ 0 ≤ i ∧ i < 6 ∧ 0 ≤ w ∧ w < 61 ∧ Q (up (up σ_3 254 i.toNat w x4_1) 255 i.toNat w x5_2)) Q n' a.1 a.2.1 a.2.2 j τ) (N := 61)
    (fun j a => w + 1 ≤ j ∧ (a.1, a.2.1) = itr (bpF (fun to => hoW hm sz m c w to + (bpK n (τ 903 0) (hoW hm sz m) K to).1)) (j - (w + 1)).toNat (w + 1) ((bpK n (τ 903 0) (hoW hm sz m) K w).1, 0) ∧ a.2.2 = hoW hm sz m c w (j - 1)) ?_ ?_ (60 - w).toNat (w + 1) ((bpK n (τ 903 0) (hoW hm sz m) K w).1, 0, 0) FU (by omega) (by omega) (FU_pos (by omega)) ⟨Int.le_refl _, by rw [Int.sub_self]; rfl, by dsimp only; rw [hoW_0 (by omega)]⟩
  · rintro n' j ⟨a1, a2, a3⟩ j0 j1 ⟨wj', ha, ha3⟩ k'
    dsimp only at ha ha3 k' ⊢
    have h1 := hoW_rng (hm := hm) (sz := sz) (c := c) (lo := w) (hi := j) m0
    have h2 := hrg K j
    have hs := hoW_s (hm := hm) (sz := sz) (m := m) (c := c) (lo := w) (hi := j - 1) (by omega)
    rw [show j - 1 + 1 = j by omega] at hs
    unfold P_X1_choose_L38
    rw [if_neg (by omega), wi_id (z := i + 1) (by omega) (by omega), hO j j0 (by omega), hB j j0 (by omega), wi_id (z := j + 1) (by omega) (by omega), ha3, ← hs, wi_id (z := hoW hm sz m c w j) (by omega) (by omega), wi_id (by omega) (by omega)]
    refine ⟨j0, by omega, by omega, by omega, j0, by omega, ?_⟩
    rw [itr_i wj', ← ha] at k'
    unfold bpF at k'
    by_cases h : hoW hm sz m c w j + (bpK n (τ 903 0) (hoW hm sz m) K j).1 ≤ a1
    · rw [if_pos h]
      rw [if_pos h] at k'
      exact k' (a1, a2, hoW hm sz m c w j) ⟨by omega, rfl, by dsimp only; rw [show j + 1 - 1 = j by omega]⟩
    · rw [if_neg h]
      rw [if_neg h] at k'
      exact k' (hoW hm sz m c w j + (bpK n (τ 903 0) (hoW hm sz m) K j).1, j, hoW hm sz m c w j) ⟨by omega, rfl, by dsimp only; rw [show j + 1 - 1 = j by omega]⟩
  · rintro n' ⟨a1, a2, a3⟩ ⟨wj', ha, ha3⟩
    dsimp only at ha ⊢
    unfold P_X1_choose_L38
    rw [if_pos (by omega)]
    refine ⟨i0, by omega, w0, by omega, i0, by omega, w0, by omega, ?_⟩
    rw [show (61 - (w + 1)).toNat = (60 - w).toNat by omega] at ha
    rw [← ha] at k
    exact k
/-- planned -/
def plW (n : Int) (r : Int → Int) (ho : Int → Int → Int → Int) : Int × (Int → Int) := itr (plF n r ho) n.toNat 0 (0, fun _ => 0)
theorem t_X1_plan {Q : Int → St → Prop} (hX : Cxt n m dk σ) (hW : WfZ n m dk z) (hC : StC n m σ 0 z)
    (k : ∀ σ', Sm plA σ σ' → (∀ c : Int, (∃ i : Int, 0 ≤ i ∧ i < n ∧ σ 903 0 i = c) → σ' 202 0 c = (plW n (σ 903 0) (hoW (σ 906 0) (zSize z) m)).2 c) → Q (bpK n (σ 903 0) (hoW (σ 906 0) (zSize z) m) n.toNat 0).1 σ') : P_X1_plan σ Q := by
  have m6 := hX.spw.2.2.2.2.1
  have n6 := hX.spw.2.2.2.1
  have hrl := fun i i0 i1 => (hX.1.2.2.2.2.1 i i0 (by rw [hX.2.1]; exact i1)).2.2
  rw [hX.2.1] at hrl
  unfold P_X1_plan
  refine t_X1_sort hX hW hC (fun σ1 s1 r1 => ?_)
  generalize σ 906 0 = hm at k r1
  generalize zSize z = sz at k r1
  have ho1 : ∀ (τ : St) (i s : Int), 0 ≤ i → i < n → 0 ≤ s → s ≤ 60 → τ 256 (σ 903 0 i).toNat s = σ1 256 (σ 903 0 i).toNat s → τ 256 (σ 903 0 i).toNat s = ocW hm sz m (σ 903 0 i) s := fun τ i s i0 i1 s0 s1 e => by rw [e, r1 _ s (hrl i i0 i1).1 (hrl i i0 i1).2 s0 s1]
  -- row n is 0
  refine loopI (X := St) (F := fun n' i τ => P_X1_plan_L6 (fun σ_2 => P_X1_plan_L43 (fun σ_5 => P_X1_plan_L77 Q FU 0 0 σ_5) Q FU (wi ((σ_2 8 0 10) - 1)) σ_2) Q n' i τ) (N := 61) (fun i τ => Sm plA σ τ ∧ (∀ c s : Int, 0 ≤ c → c < n → 0 ≤ s → s ≤ 60 → τ 256 c.toNat s = ocW hm sz m c s) ∧ ∀ w : Int, 0 ≤ w → w < i → τ 254 n.toNat w = 0) ?_ ?_ 61 0 σ1 FU (Int.le_refl 0) (by omega) (FU_pos (by omega)) ⟨s1, r1, fun w w0 w1 => by omega⟩
  · rintro n' i τ i0 i1 ⟨hs, hr, hr2⟩ k'
    unfold P_X1_plan_L6
    rw [if_neg (by omega), (Cxt_keep hs rfl hX).2.1, wi_id (z := i + 1) (by omega) (by omega)]
    refine ⟨by omega, by omega, i0, by omega, k' _ ⟨Sm_up hs (in254 n6.1 (by omega)), fun c s c0 c1 s0 s1 => ?_, fun w w0 w1 => ?_⟩⟩
    · rw [up_nt rfl]; exact hr c s c0 c1 s0 s1
    · by_cases e : w = i
      · rw [e, up_at]
      · rw [up_nx e]; exact hr2 w w0 (by omega)
  · rintro n' τ ⟨hs, hr, hr2⟩
    unfold P_X1_plan_L6
    rw [if_pos (by omega), (Cxt_keep hs rfl hX).2.1, wi_id (z := n - 1) (by omega) (by omega)]
    refine loopD (X := St) (F := fun n' i τ => P_X1_plan_L43 (fun σ_5 => P_X1_plan_L77 Q FU 0 0 σ_5) Q n' i τ) (N := n) (fun i τ => Sm plA σ τ ∧ (∀ c s : Int, 0 ≤ c → c < n → 0 ≤ s → s ≤ 60 → τ 256 c.toNat s = ocW hm sz m c s) ∧
      (∀ j w : Int, i < j → 0 ≤ j → j ≤ n → 0 ≤ w → w ≤ 60 → τ 254 j.toNat w = (bpK n (σ 903 0) (hoW hm sz m) (n - j).toNat w).1) ∧ ∀ j w : Int, i < j → 0 ≤ j → j < n → 0 ≤ w → w ≤ 60 → τ 255 j.toNat w = (bpK n (σ 903 0) (hoW hm sz m) (n - j).toNat w).2) ?_ ?_ n.toNat (n - 1) τ FU (by omega) (by omega) (FU_pos (by omega)) ⟨hs, hr, fun j w j0 _ j1 w0 w1 => ?_, fun j w j0 _ j1 => by omega⟩
    · rintro n' i τ i0 i1 ⟨hs, hr, hb, hc⟩ k'
      have e903 : τ 903 0 = σ 903 0 := hs.row rfl
      unfold P_X1_plan_L43
      rw [if_neg (by omega), show i + (-1) = i - 1 by omega, wi_id (z := i - 1) (by omega) (by omega)]
      refine loopI (X := St) (F := fun n2 w υ => P_X1_plan_L49 i (fun σ_4 => (P_X1_plan_L43 (fun σ_5 => P_X1_plan_L77 Q FU 0 0 σ_5) Q n') (i - 1) σ_4) Q n2 w υ) (N := 61) (fun w' υ => Sm plA σ υ ∧ (∀ c s : Int, 0 ≤ c → c < n → 0 ≤ s → s ≤ 60 → υ 256 c.toNat s = ocW hm sz m c s) ∧
        (∀ j w : Int, i < j → 0 ≤ j → j ≤ n → 0 ≤ w → w ≤ 60 → υ 254 j.toNat w = (bpK n (σ 903 0) (hoW hm sz m) (n - j).toNat w).1) ∧ (∀ j w : Int, i < j → 0 ≤ j → j < n → 0 ≤ w → w ≤ 60 → υ 255 j.toNat w = (bpK n (σ 903 0) (hoW hm sz m) (n - j).toNat w).2) ∧
        ∀ w : Int, 0 ≤ w → w < w' → υ 254 i.toNat w = (bpK n (σ 903 0) (hoW hm sz m) (n - i).toNat w).1 ∧ υ 255 i.toNat w = (bpK n (σ 903 0) (hoW hm sz m) (n - i).toNat w).2) ?_ ?_ 61 0 τ FU (Int.le_refl 0) (by omega) (FU_pos (by omega)) ⟨hs, hr, hb, hc, fun w w0 w1 => by omega⟩
      · rintro n2 w υ w0 w1 ⟨hs2, hr2, hb2, hc2, hi2⟩ k2
        have e2 : υ 903 0 = σ 903 0 := hs2.row rfl
        have hri := hrl i i0 i1
        unfold P_X1_plan_L49
        rw [if_neg (by omega), wi_id (z := w + 1) (by omega) (by omega)]
        refine t_X1_choose (hm := hm) (sz := sz) i0 i1 n6.2 m6.1 m6.2 w0 (by omega) (by rw [e2]; exact hri.1) (by rw [e2]; exact hri.2) (fun s s0 s1 => by rw [e2]; exact hr2 _ s hri.1 hri.2 s0 s1) (fun w' w0' w1' => by rw [e2, hb2 (i + 1) w' (by omega) (by omega) (by omega) w0' w1', show n - (i + 1) = n - 1 - i by omega]) ?_
        rw [e2]
        refine k2 _ ⟨Sm_up (Sm_up hs2 (in254 i0 (by omega))) (in255 i0 (by omega)), fun c s c0 c1 s0 s1 => ?_, fun j w' j0 j0' j1 w0' w1' => ?_, fun j w' j0 j0' j1 w0' w1' => ?_, fun w' w0' w1' => ?_⟩
        · rw [up_nt rfl, up_nt rfl]; exact hr2 c s c0 c1 s0 s1
        · rw [up_nt rfl, up_ni (Or.inl (by omega))]; exact hb2 j w' j0 j0' j1 w0' w1'
        · rw [up_ni (Or.inl (by omega)), up_nt rfl]; exact hc2 j w' j0 j0' j1 w0' w1'
        · by_cases e : w' = w
          · rw [e, up_nt rfl, up_at, up_at]
            exact ⟨rfl, rfl⟩
          · rw [up_nt rfl, up_nx e, up_nx e, up_nt rfl]
            exact hi2 w' w0' (by omega)
      · rintro n2 υ ⟨hs2, hr2, hb2, hc2, hi2⟩
        unfold P_X1_plan_L49
        rw [if_pos (by omega)]
        refine k' υ ⟨hs2, hr2, fun j w j0 j0' j1 w0 w1 => ?_, fun j w j0 j0' j1 w0 w1 => ?_⟩
        · by_cases e : j = i
          · rw [e]; exact (hi2 w w0 (by omega)).1
          · exact hb2 j w (by omega) j0' j1 w0 w1
        · by_cases e : j = i
          · rw [e]; exact (hi2 w w0 (by omega)).2
          · exact hc2 j w (by omega) j0' j1 w0 w1
    · rintro n' τ ⟨hs, hr, hb, hc⟩
      unfold P_X1_plan_L43
      rw [if_pos (by omega)]
      refine loopI (X := Int × St) (F := fun n2 i a => P_X1_plan_L77 Q n2 a.1 i a.2) (N := n) (fun i a => (0 ≤ a.1 ∧ a.1 ≤ 60) ∧ Sm plA σ a.2 ∧ (∀ t, t = 254 ∨ t = 255 → ∀ j x, a.2 t j x = τ t j x) ∧ a.1 = (itr (plF n (σ 903 0) (hoW hm sz m)) (i - 0).toNat 0 (0, fun _ => 0)).1 ∧
        ∀ c : Int, (∃ j : Int, 0 ≤ j ∧ j < i ∧ σ 903 0 j = c) → a.2 202 0 c = (itr (plF n (σ 903 0) (hoW hm sz m)) (i - 0).toNat 0 (0, fun _ => 0)).2 c) ?_ ?_ n.toNat 0 (0, τ) FU (Int.le_refl 0) (by omega) (FU_pos (by omega)) ⟨⟨Int.le_refl 0, by show (0 : Int) ≤ 60; decide⟩, hs, fun t _ j x => rfl, rfl, fun c ⟨j, j0, j1, _⟩ => by omega⟩
      · rintro n2 i ⟨w, υ⟩ i0 i1 ⟨hw, hs2, ht, hwe, hp⟩ k2
        dsimp only at hw hs2 ht hwe hp k2 ⊢
        have e2 : υ 903 0 = σ 903 0 := hs2.row rfl
        have hri := hrl i i0 i1
        have hch := bpK_ch (n := n) (r := σ 903 0) (ho := hoW hm sz m) (k := (n - i).toNat) hw.2 hw.1
        rw [itr_i i0] at k2
        unfold P_X1_plan_L77
        rw [(Cxt_keep hs2 rfl hX).2.1, if_neg (by omega), e2, ht 255 (Or.inr rfl), hc i w (by omega) i0 i1 hw.1 hw.2, wi_id (z := i + 1) (by omega) (by omega)]
        refine ⟨i0, by omega, hw.1, by omega, i0, by omega, hri.1, by omega, ?_⟩
        generalize itr (plF n (σ 903 0) (hoW hm sz m)) (i - 0).toNat 0 (0, fun _ => 0) = a at hwe hp k2
        refine k2 (max w (bpK n (σ 903 0) (hoW hm sz m) (n - i).toNat w).2, up υ 202 0 (σ 903 0 i) (bpK n (σ 903 0) (hoW hm sz m) (n - i).toNat w).2) ⟨by dsimp only; omega, Sm_up hs2 rfl, fun t h j x => ?_, ?_, fun c hcj => ?_⟩
        · have : Nat.beq t 202 = false := by rcases h with rfl | rfl <;> rfl
          show up υ 202 0 _ _ t j x = _
          rw [up_nt this]
          exact ht t h j x
        · show max w _ = max a.1 _
          rw [hwe]
        · show up υ 202 0 _ _ 202 0 c = upr a.2 (σ 903 0 i) _ c
          by_cases e : c = σ 903 0 i
          · rw [e, up_at, upr_at, hwe]
          · rw [up_nx e, upr_ne e]
            obtain ⟨j, j0, j1, j2⟩ := hcj
            refine hp c ⟨j, j0, ?_, j2⟩
            rcases Int.lt_trichotomy j i with q | q | q
            · exact q
            · rw [q] at j2; exact absurd j2.symm e
            · omega
      · rintro n2 ⟨w, υ⟩ ⟨hw, hs2, ht, hwe, hp⟩
        dsimp only at hs2 ht hp ⊢
        unfold P_X1_plan_L77
        rw [(Cxt_keep hs2 rfl hX).2.1, if_pos (Int.le_refl n), ht 254 (Or.inl rfl), hb 0 0 (by omega) (Int.le_refl 0) n6.1 (by omega) (by omega), Int.sub_zero]
        refine k υ hs2 (fun c hc => ?_)
        rw [hp c hc, Int.sub_zero]
        rfl
    · have : j = n := by omega
      rw [this, hr2 w w0 (by omega), Int.sub_self]
      rfl
def triW' (n : Int) (r : Int → Int) (ho : Int → Int → Int → Int) (x : Int) : Int := if x = -1 then (bpK n r ho n.toNat 0).1 else if 0 ≤ x ∧ x < n then (plW n r ho).2 x else -2
theorem rail_on (hX : Cxt n m dk σ) (hR : RaC σ 0) {c : Int} (c0 : 0 ≤ c) (c1 : c < n) : ∃ i : Int, 0 ≤ i ∧ i < n ∧ σ 903 0 i = c := by
  have hrl := fun i i0 i1 => (hX.1.2.2.2.2.1 i i0 (by rw [hX.2.1]; exact i1)).2.2
  rw [hX.2.1] at hrl
  obtain ⟨i, hi, he⟩ := pig n.toNat (fun i => (σ 903 0 i).toNat) (fun i hi => by have := hrl i (by omega) (by omega); show (σ 903 0 i).toNat < n.toNat; omega) (fun i j hij hj h => by
    have h : (σ 903 0 i).toNat = (σ 903 0 j).toNat := h
    have a := hrl i (by omega) (by omega)
    have b := hrl j (by omega) (by omega)
    have := hR i j (by omega) (by omega) (by rw [hX.2.1]; omega)
    rw [show σ 903 0 i = σ 903 0 j by omega] at this
    omega) c.toNat (by omega)
  have a := hrl i (by omega) (by omega)
  have he : (σ 903 0 i).toNat = c.toNat := he
  exact ⟨i, by omega, by omega, by omega⟩
theorem t_X11_trim {x : Int} {Q : Int → St → Prop} (hX : Cxt n m dk σ) (hR : RaC σ 0) (hW : WfZ n m dk z) (hC : StC n m σ 0 z)
    (k : ∀ σ', Sm qcB σ σ' → Q (triW' n (σ 903 0) (hoW (σ 906 0) (zSize z) m) x) σ') : P_X11_trim x σ Q := by
  have n6 := hX.spw.2.2.2.1
  unfold P_X11_trim P_X11_trim_J19
  unfold triW' at k
  by_cases h1 : x = -1
  · rw [if_pos h1]
    refine t_X1_plan hX hW hC (fun σ1 s1 r1 => ?_)
    have k := k σ1 (mem_sub (A := plA) (B := qcB) rfl s1)
    rw [if_pos h1] at k ⊢
    exact k
  · rw [if_neg h1]
    refine t_X8_hasCounter (fun a b => ?_) (fun h => ?_)
    · rw [hX.2.1] at b
      rw [if_neg one_no]
      refine t_X1_plan hX hW hC (fun σ1 s1 r1 => ?_)
      have k := k σ1 (mem_sub (A := plA) (B := qcB) rfl s1)
      rw [if_neg h1, if_pos ⟨a, b⟩, ← r1 x (rail_on hX hR a b)] at k
      rw [if_neg h1]
      exact ⟨a, by omega, k⟩
    · rw [hX.2.1] at h
      have k := k σ Sm.rf
      rw [if_neg h1, if_neg h] at k
      rw [if_pos rfl]
      exact k
end
