/-! 79: trim of the reference -/
section
variable {n m dk : Int} {z : Ab} {σ : St}
theorem t_X12_homeAt {hm sz : Int → Int} {c lo hi : Int} {τ : St} {Q : Int → St → Prop} (e1 : τ 1310 0 1 = m) (m0 : 0 ≤ m) (m6 : m ≤ 6) (hh : ∀ b : Int, 0 ≤ b → b < m → τ 1317 0 b = hm b ∧ τ 1346 0 (16 + b) = sz b)
    (k : Q (hoW hm sz m c lo hi) τ) : P_X12_homeAt c lo hi τ Q := by
  unfold P_X12_homeAt
  refine loopI (X := Int) (F := fun n' i a => P_X12_homeAt_L6 c lo hi Q n' a i τ) (N := m) (fun i a => a = cnt (fun b => decide (hm b = c) && (decide (lo < sz b) && decide (sz b ≤ hi))) i.toNat) ?_ ?_ m.toNat 0 0 FU (Int.le_refl 0) (by omega) (FU_pos (by omega)) rfl
  · rintro n' i a i0 i1 ha k'
    obtain ⟨h1, h2⟩ := hh i i0 i1
    have hc := cnt_nonneg (fun b => decide (hm b = c) && (decide (lo < sz b) && decide (sz b ≤ hi))) i.toNat
    rw [cnt_i i0] at k'
    unfold P_X12_homeAt_L6 P_X12_homeAt_J62
    rw [e1, if_neg (by omega), h1, wi_id (z := 16 + i) (by omega) (by omega), h2, wi_id (z := a + 0) (by omega) (by omega), wi_id (z := a + 1) (by omega) (by omega), wi_id (z := i + 1) (by omega) (by omega)]
    refine ⟨i0, by omega, ?_⟩
    by_cases q1 : hm i = c
    · rw [if_pos q1]
      refine ⟨by omega, by omega, ?_⟩
      by_cases q2 : sz i ≤ lo
      · rw [if_pos q2]
        exact k' _ (by rw [ha, decide_eq_false (show ¬ lo < sz i by omega), Bool.false_and, Bool.and_false, if_neg (by decide)])
      · rw [if_neg q2]
        refine ⟨by omega, by omega, ?_⟩
        by_cases q3 : hi < sz i
        · rw [if_pos q3]
          exact k' _ (by rw [ha, decide_eq_false (show ¬ sz i ≤ hi by omega), Bool.and_false, Bool.and_false, if_neg (by decide)])
        · rw [if_neg q3]
          exact k' _ (by rw [ha, decide_eq_true q1, decide_eq_true (show lo < sz i by omega), decide_eq_true (show sz i ≤ hi by omega)]; rfl)
    · rw [if_neg q1]
      exact k' _ (by rw [ha, decide_eq_false q1, Bool.false_and, if_neg (by decide)])
  · rintro n' a ha
    unfold P_X12_homeAt_L6
    rw [e1, if_pos (Int.le_refl m), ha]
    exact k
/-- what the reference lays -/
def layA : List Reg := [(1355, 0, none)]
/-- the shop and sizes as trim looks at them -/
def TrC (n m : Int) (hm sz r : Int → Int) (τ : St) : Prop := τ 1310 0 0 = n ∧ τ 1310 0 1 = m ∧ (∀ b : Int, 0 ≤ b → b < m → τ 1317 0 b = hm b ∧ τ 1346 0 (16 + b) = sz b) ∧ ∀ i : Int, 0 ≤ i → i < n → τ 1353 0 i = r i
theorem TrC_keep {hm sz r : Int → Int} {τ : St} (h : Sm layA σ τ) (c : TrC n m hm sz r σ) : TrC n m hm sz r τ := by
  unfold TrC at c ⊢
  rw [h.row (t := 1310) (i := 0) rfl, h.row (t := 1317) (i := 0) rfl, h.row (t := 1346) (i := 0) rfl, h.row (t := 1353) (i := 0) rfl]
  exact c
theorem bpK_succ {n : Int} {r : Int → Int} {ho : Int → Int → Int → Int} {k : Nat} {w : Int} : bpK n r ho (k + 1) w = itr (bpF (fun to => ho (r (n - 1 - k)) w to + (bpK n r ho k to).1)) (60 - w).toNat (w + 1) ((bpK n r ho k w).1, 0) := rfl
theorem max_bp {a b : Int} {x to : Int} : max a b = (if b ≤ a then (a, x) else (b, to)).1 := by
  split
  · show max a b = a; omega
  · show max a b = b; omega
theorem t_X12_laysHome {hm sz r : Int → Int} {Q : St → Prop} (n0 : 0 ≤ n) (n6 : n ≤ 6) (m0 : 0 ≤ m) (m6 : m ≤ 6) (hT : TrC n m hm sz r σ)
    (k : ∀ σ', Sm layA σ σ' → (∀ j w : Int, 0 ≤ j → j ≤ n → 0 ≤ w → w ≤ 60 → σ' 1355 0 (61 * j + w) = (bpK n r (hoW hm sz m) (n - j).toNat w).1) → Q σ') : P_X12_laysHome σ Q := by
  have hrg := fun k w => bpK_rng (n := n) (r := r) (ho := hoW hm sz m) (m := m) (fun c lo hi => hoW_rng m0) k w
  unfold P_X12_laysHome
  refine loopI (X := St) (F := fun n' i τ => P_X12_laysHome_L2 (fun σ_1 => P_X12_laysHome_L40 Q FU (wi ((σ_1 1310 0 0) - 1)) σ_1) Q n' i τ) (N := 61) (fun i τ => Sm layA σ τ ∧ ∀ w : Int, 0 ≤ w → w < i → τ 1355 0 (61 * n + w) = 0) ?_ ?_ 61 0 σ FU (Int.le_refl 0) (by omega) (FU_pos (by omega)) ⟨Sm.rf, fun w w0 w1 => by omega⟩
  · rintro n' i τ i0 i1 ⟨hs, hr⟩ k'
    unfold P_X12_laysHome_L2
    rw [if_neg (by omega), (TrC_keep hs hT).1, wi_id (z := i + 1) (by omega) (by omega), wi_id (z := 61 * n) (by omega) (by omega), wi_id (z := 61 * n + i) (by omega) (by omega)]
    refine ⟨by omega, by omega, k' _ ⟨Sm_up hs rfl, fun w w0 w1 => ?_⟩⟩
    by_cases e : w = i
    · rw [e, up_at]
    · rw [up_nx (by omega)]; exact hr w w0 (by omega)
  · rintro n' τ ⟨hs, hr⟩
    unfold P_X12_laysHome_L2
    rw [if_pos (by omega), (TrC_keep hs hT).1, wi_id (z := n - 1) (by omega) (by omega)]
    refine loopD (X := St) (F := fun n' i τ => P_X12_laysHome_L40 Q n' i τ) (N := n) (fun i τ => Sm layA σ τ ∧ ∀ j w : Int, i < j → 0 ≤ j → j ≤ n → 0 ≤ w → w ≤ 60 → τ 1355 0 (61 * j + w) = (bpK n r (hoW hm sz m) (n - j).toNat w).1) ?_ ?_ n.toNat (n - 1) τ FU (by omega) (by omega) (FU_pos (by omega)) ⟨hs, fun j w j0 _ j1 w0 w1 => ?_⟩
    · rintro n' i τ i0 i1 ⟨hs, hb⟩ k'
      unfold P_X12_laysHome_L40
      rw [if_neg (by omega), show i + (-1) = i - 1 by omega, wi_id (z := i - 1) (by omega) (by omega)]
      have ek : (n - i).toNat = (n - 1 - i).toNat + 1 := by omega
      have en : n - 1 - (((n - 1 - i).toNat : Nat) : Int) = i := by omega
      have hK : (((n - 1 - i).toNat : Nat) : Int) ≤ 6 := by omega
      have hmK : m * (((n - 1 - i).toNat : Nat) : Int) ≤ 6 * 6 := Int.mul_le_mul m6 hK (by omega) (by decide)
      have hb1 : ∀ w : Int, 0 ≤ w → w ≤ 60 → τ 1355 0 (61 * i + 61 + w) = (bpK n r (hoW hm sz m) (n - 1 - i).toNat w).1 := fun w w0 w1 => by
        have := hb (i + 1) w (by omega) (by omega) (by omega) w0 w1
        rw [show n - (i + 1) = n - 1 - i by omega, show 61 * (i + 1) + w = 61 * i + 61 + w by omega] at this
        exact this
      refine loopI (X := St) (F := fun n2 w υ => P_X12_laysHome_L46 i (fun σ_6 => (P_X12_laysHome_L40 Q n') (i - 1) σ_6) Q n2 w υ) (N := 61) (fun w' υ => Sm layA σ υ ∧ (∀ x : Int, 61 * i + 61 ≤ x → υ 1355 0 x = τ 1355 0 x) ∧ ∀ w : Int, 0 ≤ w → w < w' → υ 1355 0 (61 * i + w) = (bpK n r (hoW hm sz m) (n - i).toNat w).1) ?_ ?_ 61 0 τ FU (Int.le_refl 0) (by omega) (FU_pos (by omega)) ⟨hs, fun x _ => rfl, fun w w0 w1 => by omega⟩
      · rintro n2 w υ w0 w1 ⟨hs2, hx2, hi2⟩ k2
        have hT2 := TrC_keep hs2 hT
        have hbw := hrg (n - 1 - i).toNat w
        unfold P_X12_laysHome_L46
        rw [if_neg (by omega), wi_id (z := 61 * i) (by omega) (by omega), wi_id (z := 61 * i + 61) (by omega) (by omega), wi_id (z := 61 * i + 61 + w) (by omega) (by omega), wi_id (z := 61 * i + w) (by omega) (by omega), wi_id (z := w + 1) (by omega) (by omega), hx2 _ (by omega), hb1 w w0 (by omega)]
        refine ⟨by omega, by omega, ?_⟩
        refine loopI (X := Int) (F := fun n3 j a => P_X12_laysHome_L72 i w (fun x3_4 σ_5 => 0 ≤ 61 * i + w ∧ 61 * i + w < 427 ∧ (P_X12_laysHome_L46 i (fun σ_6 => (P_X12_laysHome_L40 Q n') (i - 1) σ_6) Q n2) (w + 1) (up σ_5 1355 0 (61 * i + w) x3_4)) Q n3 a j υ) (N := 61)
          (fun j a => w + 1 ≤ j ∧ a = (itr (bpF (fun to => hoW hm sz m (r i) w to + (bpK n r (hoW hm sz m) (n - 1 - i).toNat to).1)) (j - (w + 1)).toNat (w + 1) ((bpK n r (hoW hm sz m) (n - 1 - i).toNat w).1, 0)).1) ?_ ?_ (60 - w).toNat (w + 1) _ FU (by omega) (by omega) (FU_pos (by omega)) ⟨Int.le_refl _, by rw [Int.sub_self]; rfl⟩
        · rintro n3 j a j0 j1 ⟨wj', ha⟩ k3
          have h1 := hoW_rng (hm := hm) (sz := sz) (c := r i) (lo := w) (hi := j) m0
          have h2 := hrg (n - 1 - i).toNat j
          unfold P_X12_laysHome_L72
          rw [if_neg (by omega), hT2.2.2.2 i i0 i1]
          refine ⟨i0, by omega, t_X12_homeAt hT2.2.1 m0 m6 hT2.2.2.1 ?_⟩
          rw [wi_id (z := 61 * i) (by omega) (by omega), wi_id (z := 61 * i + 61) (by omega) (by omega), wi_id (z := 61 * i + 61 + j) (by omega) (by omega), wi_id (z := j + 1) (by omega) (by omega), hx2 _ (by omega), hb1 j j0 (by omega), wi_id (by omega) (by omega)]
          refine ⟨by omega, by omega, k3 _ ⟨by omega, ?_⟩⟩
          rw [itr_i wj', ha]
          generalize itr (bpF (fun to => hoW hm sz m (r i) w to + (bpK n r (hoW hm sz m) (n - 1 - i).toNat to).1)) (j - (w + 1)).toNat (w + 1) ((bpK n r (hoW hm sz m) (n - 1 - i).toNat w).1, 0) = p
          exact max_bp
        · rintro n3 a ⟨-, ha⟩
          unfold P_X12_laysHome_L72
          rw [if_pos (by omega)]
          refine ⟨by omega, by omega, k2 _ ⟨Sm_up hs2 rfl, fun x hx => ?_, fun w' w0' w1' => ?_⟩⟩
          · rw [up_nx (by omega)]; exact hx2 x hx
          · by_cases e : w' = w
            · rw [e, up_at, ha, ek]
              rw [bpK_succ, en, show (61 - (w + 1)).toNat = (60 - w).toNat by omega]
            · rw [up_nx (by omega)]; exact hi2 w' w0' (by omega)
      · rintro n2 υ ⟨hs2, hx2, hi2⟩
        unfold P_X12_laysHome_L46
        rw [if_pos (by omega)]
        refine k' υ ⟨hs2, fun j w j0 j0' j1 w0 w1 => ?_⟩
        by_cases e : j = i
        · rw [e]; exact hi2 w w0 (by omega)
        · rw [hx2 _ (by omega)]; exact hb j w (by omega) j0' j1 w0 w1
    · rintro n' τ ⟨hs, hb⟩
      unfold P_X12_laysHome_L40
      rw [if_pos (by omega)]
      exact k τ hs (fun j w j0 j1 w0 w1 => hb j w (by omega) j0 j1 w0 w1)
    · have : j = n := by omega
      rw [this, hr w w0 (by omega), Int.sub_self]
      rfl
theorem t_X12_L54 {hm sz r : Int → Int} {x w i : Int} {K : Int → St → Prop} {Q : Int → St → Prop} (n6 : n ≤ 6) (m0 : 0 ≤ m) (m6 : m ≤ 6) (hT : TrC n m hm sz r σ) (i0 : 0 ≤ i) (i1 : i < n) (w0 : 0 ≤ w) (w1 : w ≤ 60)
    (hb : ∀ j w : Int, 0 ≤ j → j ≤ n → 0 ≤ w → w ≤ 60 → σ 1355 0 (61 * j + w) = (bpK n r (hoW hm sz m) (n - j).toNat w).1)
    (k : K (bpK n r (hoW hm sz m) (n - i).toNat w).2 σ) : P_X12_trim_L54 x w i K Q FU 0 σ := by
  have hrg := fun k w => bpK_rng (n := n) (r := r) (ho := hoW hm sz m) (m := m) (fun c lo hi => hoW_rng m0) k w
  have ek : (n - i).toNat = (n - 1 - i).toNat + 1 := by omega
  have en : n - 1 - (((n - 1 - i).toNat : Nat) : Int) = i := by omega
  have hK : (((n - 1 - i).toNat : Nat) : Int) ≤ 6 := by omega
  have hmK : m * (((n - 1 - i).toNat : Nat) : Int) ≤ 6 * 6 := Int.mul_le_mul m6 hK (by omega) (by decide)
  have hbi : σ 1355 0 (61 * i + w) = (bpK n r (hoW hm sz m) ((n - 1 - i).toNat + 1) w).1 := by rw [← ek]; exact hb i w i0 (by omega) w0 w1
  have hb1 : ∀ t : Int, 0 ≤ t → t ≤ 60 → σ 1355 0 (61 * i + 61 + t) = (bpK n r (hoW hm sz m) (n - 1 - i).toNat t).1 := fun t t0 t1 => by
    have := hb (i + 1) t (by omega) (by omega) t0 t1
    rw [show n - (i + 1) = n - 1 - i by omega, show 61 * (i + 1) + t = 61 * i + 61 + t by omega] at this
    exact this
  have hsp := bpK_spec (g := fun to => hoW hm sz m (r i) w to + (bpK n r (hoW hm sz m) (n - 1 - i).toNat to).1) (w := w) (base := (bpK n r (hoW hm sz m) (n - 1 - i).toNat w).1) (60 - w).toNat
  have hun : itr (bpF (fun to => hoW hm sz m (r i) w to + (bpK n r (hoW hm sz m) (n - 1 - i).toNat to).1)) (60 - w).toNat (w + 1) ((bpK n r (hoW hm sz m) (n - 1 - i).toNat w).1, 0) = bpK n r (hoW hm sz m) ((n - 1 - i).toNat + 1) w := by
    conv => rhs; unfold bpK
    rw [en]
  rw [hun] at hsp
  rw [ek] at k
  have hM := hrg ((n - 1 - i).toNat + 1) w
  generalize bpK n r (hoW hm sz m) ((n - 1 - i).toNat + 1) w = M at hsp k hbi hM
  generalize hkk : (n - 1 - i).toNat = kk at hsp hb1 hmK
  have hbase := hrg kk w
  have fin : fnd (fun to => decide (M.1 ≤ hoW hm sz m (r i) w to + (bpK n r (hoW hm sz m) kk (max w to)).1)) 61 0 = some M.2 := by
    rcases hsp.2 with h | ⟨h1, h2, h3, h4⟩
    · rw [h]
      refine fnd_is (Int.le_refl 0) (by dsimp only; omega) (decide_eq_true ?_) (fun t t0 t1 => by dsimp only at t1; omega)
      rw [hoW_0 (by dsimp only; omega), show max w ((bpK n r (hoW hm sz m) kk w).1, (0 : Int)).2 = w by show max w 0 = w; omega]
      dsimp only
      omega
    · refine fnd_is (by omega) (by omega) (decide_eq_true ?_) (fun t t0 t1 => decide_eq_false ?_)
      · rw [show max w M.2 = M.2 by omega]
        omega
      · by_cases ht : t ≤ w
        · rw [hoW_0 ht, show max w t = w by omega]
          omega
        · have := h4 t (by omega) t1
          rw [show max w t = t by omega]
          omega
  refine findF (F := fun n' to => P_X12_trim_L54 x w i K Q n' to σ) (N := 61) (K0 := False) (K := fun to => K to σ) (p := fun to => decide (M.1 ≤ hoW hm sz m (r i) w to + (bpK n r (hoW hm sz m) kk (max w to)).1)) (fun n' to t0 t1 => ?_) (fun n' k => k.elim) 61 0 FU (Int.le_refl 0) (by omega) (FU_pos (by omega)) (by rw [fin]; exact k)
  have h1 := hoW_rng (hm := hm) (sz := sz) (c := r i) (lo := w) (hi := to) m0
  have h2 := hrg kk (max w to)
  have go : ∀ P : Prop, (P → (if M.1 ≤ hoW hm sz m (r i) w to + (bpK n r (hoW hm sz m) kk (max w to)).1 then K to σ else (P_X12_trim_L54 x w i K Q n') (to + 1) σ)) → P → P_X12_trim_L54 x w i K Q (n' + 1) to σ := by
    intro P hP p
    unfold P_X12_trim_L54
    rw [hT.2.2.2 i i0 i1]
    refine ⟨i0, by omega, t_X12_homeAt hT.2.1 m0 m6 hT.2.2.1 ?_⟩
    rw [wi_id (z := 61 * i) (by omega) (by omega), wi_id (z := 61 * i + 61) (by omega) (by omega), wi_id (z := 61 * i + 61 + max w to) (by omega) (by omega), wi_id (z := 61 * i + w) (by omega) (by omega), wi_id (z := to + 1) (by omega) (by omega), hbi, hb1 _ (by omega) (by omega), wi_id (by omega) (by omega)]
    exact ⟨by omega, by omega, by omega, by omega, hP p⟩
  refine ⟨fun hp => go _ (fun k => ?_), fun hp => go _ (fun k => ?_)⟩
  · rw [if_pos (of_decide_eq_true hp)]
    exact k
  · rw [if_neg (of_decide_eq_false hp)]
    exact k
theorem t_X12_trim {x : Int} {Q : Int → St → Prop} (hX : Cxt n m dk σ) (hE : ShE σ) (hR : RaC σ 0) (hC : StA n m (σ 1346 0) z)
    (k : ∀ σ', Sm qrB σ σ' → σ' 1346 0 = σ 1346 0 → Q (triW' n (σ 903 0) (hoW (σ 906 0) (zSize z) m) x) σ') : P_X12_trim x σ Q := by
  have m6 := hX.spw.2.2.2.2.1
  have n6 := hX.spw.2.2.2.1
  obtain ⟨hX0, hE0, hC0, s0⟩ := look0 hX hE hC
  have hT : TrC n m (σ 906 0) (zSize z) (σ 903 0) (up σ 12 0 0 0) := by
    refine ⟨by rw [hE0.1]; exact hX0.2.1, by rw [hE0.2.1]; exact hX0.2.2.1, fun b b0 b1 => ⟨?_, (hC0.2.2.2.2.2.2 b b0 b1).1⟩, fun i i0 i1 => ?_⟩
    · rw [(hE0.2.2.2.2.2.1 b b0 (by rw [hX0.2.2.1]; exact b1)).2.2, s0.row (t := 906) (i := 0) rfl]
    · rw [(hE0.2.2.2.2.1 i i0 (by rw [hX0.2.1]; exact i1)).2.2, s0.row (t := 903) (i := 0) rfl]
  have s0b : Sm qrB σ (up σ 12 0 0 0) := mem_sub (B := qrB) rfl s0
  unfold triW' at k
  have rest : (x = -1 ∨ (0 ≤ x ∧ x < n)) → P_X12_trim_J21 x Q (up σ 12 0 0 0) := by
    intro hx
    unfold P_X12_trim_J21
    refine t_X12_laysHome n6.1 n6.2 m6.1 m6.2 hT (fun σ1 s1 hb => ?_)
    have k := k σ1 (s0b.tr (mem_sub (A := layA) (B := qrB) rfl s1)) (by rw [s1.row (t := 1346) (i := 0) rfl, s0.row (t := 1346) (i := 0) rfl])
    have hT1 := TrC_keep s1 hT
    by_cases h1 : x = -1
    · rw [if_pos h1] at k ⊢
      have := hb 0 0 (Int.le_refl 0) n6.1 (Int.le_refl 0) (by decide)
      rw [show (61 * 0 + 0 : Int) = 0 from rfl, Int.sub_zero] at this
      rw [this]
      exact k
    · have hx : 0 ≤ x ∧ x < n := hx.elim (fun h => absurd h h1) (fun h => h)
      rw [if_neg h1, if_pos hx] at k
      rw [if_neg h1]
      obtain ⟨p, p0, p1, p2⟩ := rail_on hX hR hx.1 hx.2
      have inj : ∀ j : Int, 0 ≤ j → j < n → σ 903 0 j = x → j = p := fun j j0 j1 h => by
        rcases Int.lt_trichotomy j p with q | q | q
        · have := hR j p j0 q (by rw [hX.2.1]; exact p1); rw [h, p2] at this; omega
        · exact q
        · have := hR p j p0 q (by rw [hX.2.1]; exact j1); rw [h, p2] at this; omega
      -- what is planned at x stays as it was laid at p
      have plx : ∀ (d : Nat) (a : Int × (Int → Int)), ((p + 1 + d : Int) ≤ n) → (itr (plF n (σ 903 0) (hoW (σ 906 0) (zSize z) m)) d (p + 1) a).2 x = a.2 x := by
        intro d a hd
        refine itr_inv (f := plF n (σ 903 0) (hoW (σ 906 0) (zSize z) m)) (fun _ b => b.2 x = a.2 x) d (p + 1) a rfl (fun j b j0 j1 hb => ?_)
        show upr b.2 (σ 903 0 j) _ x = _
        rw [upr_ne (fun e => by have := inj j (by omega) (by omega) e.symm; omega)]
        exact hb
      have split : plW n (σ 903 0) (hoW (σ 906 0) (zSize z) m) = itr (plF n (σ 903 0) (hoW (σ 906 0) (zSize z) m)) (n - (p + 1)).toNat (p + 1) (plF n (σ 903 0) (hoW (σ 906 0) (zSize z) m) p (itr (plF n (σ 903 0) (hoW (σ 906 0) (zSize z) m)) p.toNat 0 (0, fun _ => 0))) := by
        have app : ∀ (A : Type) (f : Int → A → A) (u v : Nat) (i : Int) (a : A), itr f (u + v) i a = itr f v (i + u) (itr f u i a) := by
          intro A f u
          induction u with
          | zero => intro v i a; rw [Nat.zero_add]; simp [itr]
          | succ u ih =>
            intro v i a
            rw [show u + 1 + v = (u + v) + 1 by omega]
            show itr f (u + v) (i + 1) (f i a) = _
            rw [ih]
            congr 1
            omega
        unfold plW
        rw [show n.toNat = p.toNat + ((n - (p + 1)).toNat + 1) by omega, app]
        rw [show (0 : Int) + ((p.toNat : Nat) : Int) = p by omega]
        rfl
      have plv : (plW n (σ 903 0) (hoW (σ 906 0) (zSize z) m)).2 x = (bpK n (σ 903 0) (hoW (σ 906 0) (zSize z) m) (n - p).toNat (itr (plF n (σ 903 0) (hoW (σ 906 0) (zSize z) m)) p.toNat 0 (0, fun _ => 0)).1).2 := by
        rw [split, plx _ _ (by omega)]
        show upr _ (σ 903 0 p) _ x = _
        rw [p2, upr_at]
      rw [plv] at k
      refine findI (X := Int) (F := fun n' i w => P_X12_trim_L41 x Q n' w i σ1) (N := n) (K0 := fun _ => False) (K := fun i w => Q (bpK n (σ 903 0) (hoW (σ 906 0) (zSize z) m) (n - i).toNat w).2 σ1) (p := fun i => decide (σ 903 0 i = x)) (fun i w => (0 ≤ w ∧ w ≤ 60) ∧ w = (itr (plF n (σ 903 0) (hoW (σ 906 0) (zSize z) m)) (i - 0).toNat 0 (0, fun _ => 0)).1)
        (fun n' i w i0 i1 hJ => ?_) (fun n' w _ k => k.elim) n.toNat 0 0 FU (Int.le_refl 0) (by omega) (FU_pos (by omega)) ⟨⟨Int.le_refl 0, by decide⟩, rfl⟩ ?_
      · obtain ⟨hw, hwe⟩ := hJ
        have hch := bpK_ch (n := n) (r := σ 903 0) (ho := hoW (σ 906 0) (zSize z) m) (k := (n - i).toNat) hw.2 hw.1
        refine ⟨fun hp k => ?_, fun hp k' => ?_⟩
        · have hp := of_decide_eq_true hp
          unfold P_X12_trim_L41
          rw [hT1.1, if_neg (by omega)]
          refine t_X12_L54 n6.2 m6.1 m6.2 hT1 i0 i1 hw.1 hw.2 hb ?_
          refine ⟨i0, by omega, ?_⟩
          rw [hT1.2.2.2 i i0 i1, if_pos hp]
          exact k
        · have hp := of_decide_eq_false hp
          unfold P_X12_trim_L41
          rw [hT1.1, if_neg (by omega)]
          refine t_X12_L54 n6.2 m6.1 m6.2 hT1 i0 i1 hw.1 hw.2 hb ?_
          refine ⟨i0, by omega, ?_⟩
          rw [hT1.2.2.2 i i0 i1, if_neg hp, wi_id (z := i + 1) (by omega) (by omega)]
          refine k' _ ⟨by omega, ?_⟩
          rw [itr_i i0, hwe]
          rfl
      · have hfn : fnd (fun i => decide (σ 903 0 i = x)) n.toNat 0 = some p := fnd_is p0 (by omega) (decide_eq_true p2) (fun j j0 j1 => decide_eq_false (fun e => by have := inj j j0 (by omega) e; omega))
        rw [hfn]
        intro w hw
        rw [hw.2, Int.sub_zero]
        exact k
  unfold P_X12_trim
  by_cases h1 : x = -1
  · rw [if_pos h1]
    exact rest (Or.inl h1)
  · rw [if_neg h1]
    refine t_X12_isCounter (n := n) hT.1 (fun a b => ?_) (fun h => ?_)
    · rw [if_neg one_no]
      exact rest (Or.inr ⟨a, b⟩)
    · rw [if_pos rfl]
      have k := k _ s0b (s0.row rfl)
      rw [if_neg h1, if_neg h] at k
      exact k
end
