/-! 60: swap -/
section
variable {n m dk : Int} {z : Ab} {σ : St} {Q : Int → St → Prop}
/-- how many go home by gaps g -/
def gohP (s : Sp) (hm : Int → Int) (z : Ab) (g : Int → Int) (b : Int) : Bool := decide (falW s.1 s.2.2.2.2.1 g (zSize z b) = hm b)
def gohW (s : Sp) (hm : Int → Int) (m : Int) (z : Ab) (g : Int → Int) : Int := cnt (gohP s hm z g) m.toNat
def exch (g : Int → Int) (i j : Int) : Int → Int := fun c => if c = j then g i else if c = i then g j else g c
def swI (s : Sp) (hm : Int → Int) (m : Int) (z : Ab) (i : Int) (j : Int) (a : Int × Int) : Int × Int := if gohW s hm m z (exch (zGap z) i j) ≤ a.1 then a else (gohW s hm m z (exch (zGap z) i j), 8 * i + j)
def swO (s : Sp) (hm : Int → Int) (n m : Int) (z : Ab) (i : Int) (a : Int × Int) : Int × Int := itr (swI s hm m z i) (n - (i + 1)).toNat (i + 1) a
def swpW (s : Sp) (hm : Int → Int) (n m : Int) (z : Ab) : Int := (itr (swO s hm n m z) n.toNat 0 (gohW s hm m z (zGap z), -1)).2
theorem itr_i {A : Type} {f : Int → A → A} {a : A} {i0 i : Int} (h : i0 ≤ i) : itr f (i + 1 - i0).toNat i0 a = f i (itr f (i - i0).toNat i0 a) := by
  have e : (i + 1 - i0).toNat = (i - i0).toNat + 1 := by omega
  rw [e, itr_succ]
  congr 1
  omega
theorem t_X1_goingHome {t o : Nat} {g : Int → Int} (hs : shp t = (0, 6)) (hX : Cxt n m dk σ) (hC : ∀ b : Int, 0 ≤ b → b < m → σ 1002 0 b = zSize z b) (hg : ∀ c : Int, 0 ≤ c → c < n → σ t o c = g c) (k : Q (gohW (spC σ 0) (σ 906 0) m z g) σ) : P_X1_goingHome t o σ Q := by
  have m6 := hX.spw.2.2.2.2.1
  unfold P_X1_goingHome
  refine loopI (X := Int) (F := fun n' i a => P_X1_goingHome_L4 t o Q n' a i σ) (N := m) (fun i a => a = cnt (gohP (spC σ 0) (σ 906 0) z g) i.toNat) ?_ ?_ m.toNat 0 0 FU (Int.le_refl 0) (by omega) (FU_pos (by omega)) rfl
  · rintro n' i a i0 i1 ha k'
    have hcn := cnt_nonneg (gohP (spC σ 0) (σ 906 0) z g) i.toNat
    unfold P_X1_goingHome_L4
    rw [hX.2.2.1, if_neg (by omega), wi_id (z := i + 1) (by omega) (by omega), hC i i0 i1]
    refine ⟨i0, by omega, t_X8_fall hX.1 hs ?_⟩
    have e : falW (σ 8 0 10) (σ 903 0) (σ t o) (zSize z i) = falW (spC σ 0).1 (spC σ 0).2.2.2.2.1 g (zSize z i) := falW_congr (fun j j0 j1 => ⟨rfl, by
      have := (hX.1.2.2.2.2.1 j j0 j1).2.2
      exact hg _ this.1 (by rw [← hX.2.1]; exact this.2)⟩)
    rw [e]
    refine ⟨i0, by omega, ?_⟩
    split <;> rename_i h
    · rw [wi_id (z := a + 1) (by omega) (by omega)]
      exact k' _ (by rw [cnt_i i0, ha, if_pos (by unfold gohP; exact decide_eq_true h)])
    · exact k' _ (by rw [cnt_i i0, ha, if_neg (by unfold gohP; rw [decide_eq_false h]; decide), Int.add_zero])
  · rintro n' a ha
    unfold P_X1_goingHome_L4
    rw [hX.2.2.1, if_pos (Int.le_refl m), ha]
    exact k
theorem t_X12_homeNow {g : Int → Int} {hm : Int → Int} (hX : Cxt n m dk σ) (hE : ShE σ) (hh : ∀ b : Int, 0 ≤ b → b < m → σ 906 0 b = hm b) (hC : ∀ b : Int, 0 ≤ b → b < m → σ 1346 0 (16 + b) = zSize z b) (hg : ∀ c : Int, 0 ≤ c → c < n → σ 1346 0 (10 + c) = g c) (k : Q (gohW (spC σ 0) hm m z g) σ) : P_X12_homeNow σ Q := by
  have m6 := hX.spw.2.2.2.2.1
  unfold P_X12_homeNow
  refine loopI (X := Int) (F := fun n' i a => P_X12_homeNow_L4 Q n' a i σ) (N := m) (fun i a => a = cnt (gohP (spC σ 0) hm z g) i.toNat) ?_ ?_ m.toNat 0 0 FU (Int.le_refl 0) (by omega) (FU_pos (by omega)) rfl
  · rintro n' i a i0 i1 ha k'
    have hcn := cnt_nonneg (gohP (spC σ 0) hm z g) i.toNat
    unfold P_X12_homeNow_L4 P_X12_fallOf
    rw [hE.2.1, hX.2.2.1, if_neg (by omega), wi_id (z := i + 1) (by omega) (by omega), wi_id (z := 16 + i) (by omega) (by omega), hC i i0 i1]
    refine ⟨by omega, by omega, t_X12_fallsBy hX.1 hE ?_⟩
    have e : falW (σ 8 0 10) (σ 903 0) (fun c => σ 1346 0 (10 + c)) (zSize z i) = falW (spC σ 0).1 (spC σ 0).2.2.2.2.1 g (zSize z i) := falW_congr (fun j j0 j1 => ⟨rfl, by
      have := (hX.1.2.2.2.2.1 j j0 j1).2.2
      exact hg _ this.1 (by rw [← hX.2.1]; exact this.2)⟩)
    rw [e]
    dsimp only
    rw [(hE.2.2.2.2.2.1 i i0 (by rw [hX.2.2.1]; exact i1)).2.2, hh i i0 i1]
    refine ⟨i0, by omega, ?_⟩
    split <;> rename_i h
    · rw [wi_id (z := a + 1) (by omega) (by omega)]
      exact k' _ (by rw [cnt_i i0, ha, if_pos (by unfold gohP; exact decide_eq_true h)])
    · rw [Int.add_zero, wi_id (z := a) (by omega) (by omega)]
      exact k' _ (by rw [cnt_i i0, ha, if_neg (by unfold gohP; rw [decide_eq_false h]; decide), Int.add_zero])
  · rintro n' a ha
    unfold P_X12_homeNow_L4
    rw [hE.2.1, hX.2.2.1, if_pos (Int.le_refl m), ha]
    exact k
theorem t_X12_changes {i j : Int} {g : Int → Int} {σ : St} {Q : St → Prop} (n6 : n ≤ 6) (i0 : 0 ≤ i) (i1 : i < n) (j0 : 0 ≤ j) (j1 : j < n) (hg : ∀ c : Int, 0 ≤ c → c < n → σ 1346 0 (10 + c) = g c)
    (k : ∀ σ', Sm [(1346, 0, none)] σ σ' → (∀ c : Int, 0 ≤ c → c < n → σ' 1346 0 (10 + c) = exch g i j c) → (∀ x : Int, x < 10 ∨ 16 ≤ x → σ' 1346 0 x = σ 1346 0 x) → Q σ') : P_X12_changes i j σ Q := by
  unfold P_X12_changes
  rw [wi_id (z := 10 + i) (by omega) (by omega), wi_id (z := 10 + j) (by omega) (by omega), hg i i0 i1, hg j j0 j1]
  refine ⟨by omega, by omega, by omega, by omega, by omega, by omega, by omega, by omega, ?_⟩
  refine k _ (Sm_up (Sm_up Sm.rf rfl) rfl) (fun c c0 c1 => ?_) (fun x hx => ?_)
  · unfold exch
    by_cases e : c = j
    · rw [e, up_at, if_pos rfl]
    · rw [up_nx (by omega), if_neg e]
      by_cases e' : c = i
      · rw [e', up_at, if_pos rfl]
      · rw [up_nx (by omega), if_neg e']
        exact hg c c0 c1
  · rw [up_nx (by omega), up_nx (by omega)]
theorem exch_exch {g : Int → Int} {i j c : Int} (h : i ≠ j) : exch (exch g i j) i j c = g c := by
  unfold exch
  by_cases e : c = j
  · rw [if_pos e, if_neg h, if_pos rfl, e]
  · rw [if_neg e]
    by_cases e' : c = i
    · rw [if_pos e', if_pos rfl, e']
    · rw [if_neg e', if_neg e, if_neg e']
theorem gohW_congr {s : Sp} {hm : Int → Int} {g g' : Int → Int} (hs : SpW n m dk s) (hr : ∀ i : Int, 0 ≤ i → i < n → 0 ≤ s.2.2.2.2.1 i ∧ s.2.2.2.2.1 i < n) (h : ∀ c : Int, 0 ≤ c → c < n → g c = g' c) : gohW s hm m z g = gohW s hm m z g' := by
  unfold gohW
  refine cnt_congr _ (fun b _ _ => ?_)
  unfold gohP
  rw [falW_congr (g' := g') (r' := s.2.2.2.2.1) (fun i i0 i1 => ⟨rfl, h _ (hr i i0 (by rw [← hs.1]; exact i1)).1 (hr i i0 (by rw [← hs.1]; exact i1)).2⟩)]
theorem t_X11_swap (hX : Cxt n m dk σ) (hW : WfZ n m dk z) (hC : StC n m σ 0 z) (k : ∀ σ', Sm qcA σ σ' → Q (swpW (spC σ 0) (σ 906 0) n m z) σ') : P_X11_swap σ Q := by
  have m6 := hX.spw.2.2.2.2.1
  have n6 := hX.spw.2.2.2.1
  have hz : ∀ b : Int, 0 ≤ b → b < m → σ 1002 0 b = zSize z b := fun b b0 b1 => (hC.2.2.2.2.2.2 b b0 b1).1
  have hg := hC.2.2.2.2.2.1
  unfold P_X11_swap P_X1_bestExchange
  refine t_X1_goingHome (z := z) rfl hX hz hg ?_
  have s0 : Sm [(203, 0, none)] σ (cp σ 1001 0 0 203 0 0 6) := Sm_cp Sm.rf (.head _)
  unfold swpW at k
  refine loopI (X := (Int × Int) × St) (F := fun n' i a => P_X1_bestExchange_L34 Q n' a.1.1 a.1.2 i a.2) (N := n) (fun i a => a.1 = itr (swO (spC σ 0) (σ 906 0) n m z) (i - 0).toNat 0 (gohW (spC σ 0) (σ 906 0) m z (zGap z), -1) ∧ Sm [(203, 0, none)] σ a.2 ∧ ∀ c : Int, 0 ≤ c → c < n → a.2 203 0 c = zGap z c) ?_ ?_ n.toNat 0 ((gohW (spC σ 0) (σ 906 0) m z (zGap z), -1), cp σ 1001 0 0 203 0 0 6) FU (Int.le_refl 0) (by omega) (FU_pos (by omega)) ⟨rfl, s0, fun c c0 c1 => by dsimp only; rw [cp_at c0 (by omega)]; exact hg c c0 c1⟩
  · rintro n' i ⟨a, τ⟩ i0 i1 ⟨ha, hs, hr⟩ k'
    dsimp only at ha hs hr k' ⊢
    have e8 : τ 8 0 10 = n := by rw [hs.row (t := 8) (i := 0) rfl]; exact hX.2.1
    unfold P_X1_bestExchange_L34
    rw [e8, if_neg (by omega), wi_id (z := i + 1) (by omega) (by omega)]
    refine loopI (X := (Int × Int) × St) (F := fun n'' j b => P_X1_bestExchange_L50 i (fun x1_5 x2_6 σ_7 => (P_X1_bestExchange_L34 Q n') x1_5 x2_6 (i + 1) σ_7) Q n'' b.1.1 b.1.2 j b.2) (N := n) (fun j b => i + 1 ≤ j ∧ b.1 = itr (swI (spC σ 0) (σ 906 0) m z i) (j - (i + 1)).toNat (i + 1) a ∧ Sm [(203, 0, none)] σ b.2 ∧ ∀ c : Int, 0 ≤ c → c < n → b.2 203 0 c = zGap z c) ?_ ?_ (n - (i + 1)).toNat (i + 1) (a, τ) FU (by omega) (by omega) (FU_pos (by omega)) ⟨Int.le_refl _, by rw [Int.sub_self]; rfl, hs, hr⟩
    · rintro n'' j ⟨b, υ⟩ j0 j1 ⟨ij, hb, hs2, hr2⟩ k''
      dsimp only at hb hs2 hr2 k'' ⊢
      have f8 : υ 8 0 10 = n := by rw [hs2.row (t := 8) (i := 0) rfl]; exact hX.2.1
      have r1 : ∀ c : Int, υ 1001 0 c = σ 1001 0 c := fun c => by rw [hs2.row (t := 1001) (i := 0) rfl]
      unfold P_X1_bestExchange_L50
      rw [f8, if_neg (by omega), up_nt (t' := 1001) (t := 203) rfl, r1, r1, hg j j0 j1, hg i i0 i1]
      refine ⟨j0, by omega, i0, by omega, i0, by omega, j0, by omega, ?_⟩
      have s3 : Sm [(203, 0, none)] σ (up (up υ 203 0 i (zGap z j)) 203 0 j (zGap z i)) := Sm_up (Sm_up hs2 rfl) rfl
      refine t_X1_goingHome (z := z) (g := exch (zGap z) i j) rfl (Cxt_keep s3 rfl hX) (fun b b0 b1 => by rw [s3.row (t := 1002) (i := 0) rfl]; exact hz b b0 b1) (fun c c0 c1 => ?_) ?_
      · unfold exch
        by_cases e : c = j
        · rw [e, up_at, if_pos rfl]
        · rw [up_nx e, if_neg e]
          by_cases e' : c = i
          · rw [e', up_at, if_pos rfl]
          · rw [up_nx e', if_neg e']
            exact hr2 c c0 c1
      · rw [spC_keep s3 rfl, s3.row (t := 906) (i := 0) rfl]
        have J : ∀ b' : Int × Int, b' = swI (spC σ 0) (σ 906 0) m z i j b → P_X1_bestExchange_J121 b'.1 b'.2 i j (P_X1_bestExchange_L50 i (fun x1_5 x2_6 σ_7 => (P_X1_bestExchange_L34 Q n') x1_5 x2_6 (i + 1) σ_7) Q n'') (fun x1_5 x2_6 σ_7 => (P_X1_bestExchange_L34 Q n') x1_5 x2_6 (i + 1) σ_7) Q (up (up υ 203 0 i (zGap z j)) 203 0 j (zGap z i)) := by
          intro b' hb'
          unfold P_X1_bestExchange_J121
          simp only [up_nt (t' := 1001) (t := 203) rfl]
          rw [wi_id (z := j + 1) (by omega) (by omega), r1, r1, hg j j0 j1, hg i i0 i1]
          refine ⟨i0, by omega, i0, by omega, j0, by omega, j0, by omega, ?_⟩
          refine k'' (b', up (up (up (up υ 203 0 i (zGap z j)) 203 0 j (zGap z i)) 203 0 i (zGap z i)) 203 0 j (zGap z j)) ⟨by omega, ?_, Sm_up (Sm_up s3 rfl) rfl, fun c c0 c1 => ?_⟩
          · dsimp only
            rw [itr_i ij, ← hb, hb']
          · dsimp only
            by_cases e : c = j
            · rw [e, up_at]
            · rw [up_nx e]
              by_cases e' : c = i
              · rw [e', up_at]
              · rw [up_nx e', up_nx e, up_nx e']
                exact hr2 c c0 c1
        split <;> rename_i h
        · exact J b (by unfold swI; rw [if_pos h])
        · rw [wi_id (z := 8 * i) (by omega) (by omega), wi_id (z := 8 * i + j) (by omega) (by omega)]
          exact J (gohW (spC σ 0) (σ 906 0) m z (exch (zGap z) i j), 8 * i + j) (by unfold swI; rw [if_neg h])
    · rintro n'' ⟨b, υ⟩ ⟨ij, hb, hs2, hr2⟩
      dsimp only at hb hs2 hr2 ⊢
      have f8 : υ 8 0 10 = n := by rw [hs2.row (t := 8) (i := 0) rfl]; exact hX.2.1
      unfold P_X1_bestExchange_L50
      rw [f8, if_pos (Int.le_refl n)]
      refine k' (b, υ) ⟨?_, hs2, hr2⟩
      dsimp only
      rw [itr_i i0, ← ha, hb]
      rfl
  · rintro n' ⟨a, τ⟩ ⟨ha, hs, hr⟩
    dsimp only at ha hs hr ⊢
    have e8 : τ 8 0 10 = n := by rw [hs.row (t := 8) (i := 0) rfl]; exact hX.2.1
    unfold P_X1_bestExchange_L34
    rw [e8, if_pos (Int.le_refl n)]
    have k := k τ (mem_sub (B := qcA) rfl hs)
    rw [Int.sub_zero] at ha
    rw [← ha] at k
    exact k
theorem t_X12_swap (hX : Cxt n m dk σ) (hE : ShE σ) (hW : WfZ n m dk z) (hC : StA n m (σ 1346 0) z) (k : ∀ σ', Sm qrA σ σ' → StA n m (σ' 1346 0) z → Q (swpW (spC σ 0) (σ 906 0) n m z) σ') : P_X12_swap σ Q := by
  have m6 := hX.spw.2.2.2.2.1
  have n6 := hX.spw.2.2.2.1
  have hmn := hW.many m6.1
  obtain ⟨hX0, hE0, hC0, s0⟩ := look0 hX hE hC
  have hz : ∀ b : Int, 0 ≤ b → b < m → (up σ 12 0 0 0) 1346 0 (16 + b) = zSize z b := fun b b0 b1 => (hC0.2.2.2.2.2.2 b b0 b1).1
  have hg := hC0.2.2.2.2.2.1
  have hh : ∀ b : Int, 0 ≤ b → b < m → (up σ 12 0 0 0) 906 0 b = σ 906 0 b := fun b _ _ => by rw [s0.row (t := 906) (i := 0) rfl]
  have es : spC (up σ 12 0 0 0) 0 = spC σ 0 := spC_keep s0 rfl
  unfold P_X12_swap
  refine t_X12_homeNow (z := z) hX0 hE0 hh hz hg ?_
  rw [es]
  unfold swpW at k
  refine loopI (X := (Int × Int) × St) (F := fun n' i a => P_X12_swap_L14 Q n' a.1.1 a.1.2 i a.2) (N := n) (fun i a => a.1 = itr (swO (spC σ 0) (σ 906 0) n m z) (i - 0).toNat 0 (gohW (spC σ 0) (σ 906 0) m z (zGap z), -1) ∧ Sm [(1346, 0, none)] (up σ 12 0 0 0) a.2 ∧ (∀ c : Int, 0 ≤ c → c < n → a.2 1346 0 (10 + c) = zGap z c) ∧ ∀ x : Int, x < 10 ∨ 16 ≤ x → a.2 1346 0 x = (up σ 12 0 0 0) 1346 0 x) ?_ ?_ n.toNat 0 ((gohW (spC σ 0) (σ 906 0) m z (zGap z), -1), up σ 12 0 0 0) FU (Int.le_refl 0) (by omega) (FU_pos (by omega)) ⟨rfl, Sm.rf, hg, fun _ _ => rfl⟩
  · rintro n' i ⟨a, τ⟩ i0 i1 ⟨ha, hs, hr, ho⟩ k'
    dsimp only at ha hs hr ho k' ⊢
    have hE1 := ShE_keep hs rfl hE0
    have hX1 := Cxt_keep hs rfl hX0
    unfold P_X12_swap_L14
    rw [hE1.1, hX1.2.1, if_neg (by omega), wi_id (z := i + 1) (by omega) (by omega)]
    refine loopI (X := (Int × Int) × St) (F := fun n'' j b => P_X12_swap_L29 i (fun x1_7 x2_8 σ_9 => (P_X12_swap_L14 Q n') x1_7 x2_8 (i + 1) σ_9) Q n'' b.1.1 b.1.2 j b.2) (N := n) (fun j b => i + 1 ≤ j ∧ b.1 = itr (swI (spC σ 0) (σ 906 0) m z i) (j - (i + 1)).toNat (i + 1) a ∧ Sm [(1346, 0, none)] (up σ 12 0 0 0) b.2 ∧ (∀ c : Int, 0 ≤ c → c < n → b.2 1346 0 (10 + c) = zGap z c) ∧ ∀ x : Int, x < 10 ∨ 16 ≤ x → b.2 1346 0 x = (up σ 12 0 0 0) 1346 0 x) ?_ ?_ (n - (i + 1)).toNat (i + 1) (a, τ) FU (by omega) (by omega) (FU_pos (by omega)) ⟨Int.le_refl _, by rw [Int.sub_self]; rfl, hs, hr, ho⟩
    · rintro n'' j ⟨b, υ⟩ j0 j1 ⟨ij, hb, hs2, hr2, ho2⟩ k''
      dsimp only at hb hs2 hr2 ho2 k'' ⊢
      have hE2 := ShE_keep hs2 rfl hE0
      have hX2 := Cxt_keep hs2 rfl hX0
      unfold P_X12_swap_L29
      rw [hE2.1, hX2.2.1, if_neg (by omega), wi_id (z := j + 1) (by omega) (by omega)]
      refine t_X12_changes n6.2 i0 i1 j0 j1 hr2 (fun σ3 s3 g3 o3 => ?_)
      have s3' := hs2.tr s3
      refine t_X12_homeNow (z := z) (g := exch (zGap z) i j) (hm := σ 906 0) (Cxt_keep s3' rfl hX0) (ShE_keep s3' rfl hE0) (fun b b0 b1 => by rw [s3'.row (t := 906) (i := 0) rfl]; exact hh b b0 b1) (fun b b0 b1 => by rw [o3 _ (by omega), ho2 _ (by omega)]; exact hz b b0 b1) g3 ?_
      rw [spC_keep s3' rfl, es]
      refine t_X12_changes n6.2 i0 i1 j0 j1 g3 (fun σ4 s4 g4 o4 => ?_)
      have J : ∀ b' : Int × Int, b' = swI (spC σ 0) (σ 906 0) m z i j b → P_X12_swap_L29 i (fun x1_7 x2_8 σ_9 => (P_X12_swap_L14 Q n') x1_7 x2_8 (i + 1) σ_9) Q n'' b'.1 b'.2 (j + 1) σ4 := by
        intro b' hb'
        refine k'' (b', σ4) ⟨by omega, ?_, s3'.tr s4, fun c c0 c1 => ?_, fun x hx => ?_⟩
        · dsimp only
          rw [itr_i ij, ← hb, hb']
        · dsimp only
          rw [g4 c c0 c1, exch_exch (by omega)]
        · dsimp only
          rw [o4 x hx, o3 x hx, ho2 x hx]
      split <;> rename_i h
      · rw [wi_id (z := 8 * i) (by omega) (by omega), wi_id (z := 8 * i + j) (by omega) (by omega)]
        exact J (gohW (spC σ 0) (σ 906 0) m z (exch (zGap z) i j), 8 * i + j) (by unfold swI; rw [if_neg (by omega)])
      · exact J b (by unfold swI; rw [if_pos (by omega)])
    · rintro n'' ⟨b, υ⟩ ⟨ij, hb, hs2, hr2, ho2⟩
      dsimp only at hb hs2 hr2 ho2 ⊢
      have hE2 := ShE_keep hs2 rfl hE0
      have hX2 := Cxt_keep hs2 rfl hX0
      unfold P_X12_swap_L29
      rw [hE2.1, hX2.2.1, if_pos (Int.le_refl n)]
      refine k' (b, υ) ⟨?_, hs2, hr2, ho2⟩
      dsimp only
      rw [itr_i i0, ← ha, hb]
      rfl
  · rintro n' ⟨a, τ⟩ ⟨ha, hs, hr, ho⟩
    dsimp only at ha hs hr ho ⊢
    have hE1 := ShE_keep hs rfl hE0
    have hX1 := Cxt_keep hs rfl hX0
    unfold P_X12_swap_L14
    rw [hE1.1, hX1.2.1, if_pos (Int.le_refl n)]
    have hCt : StA n m (τ 1346 0) z := by
      obtain ⟨c0, cb, c2, c3, cq, cg, cB⟩ := hC0
      refine ⟨?_, ?_, ?_, ?_, fun j j0 j1 => ?_, hr, fun b b0 b1 => ⟨?_, ?_, ?_, ?_, ?_⟩⟩
      · rw [ho _ (by omega)]; exact c0
      · rw [ho _ (by omega)]; exact cb
      · rw [ho _ (by omega)]; exact c2
      · rw [ho _ (by omega)]; exact c3
      · rw [ho _ (by omega)]; exact cq j j0 j1
      · rw [ho _ (by omega)]; exact (cB b b0 b1).1
      · rw [ho _ (by omega)]; exact (cB b b0 b1).2.1
      · rw [ho _ (by omega)]; exact (cB b b0 b1).2.2.1
      · rw [ho _ (by omega)]; exact (cB b b0 b1).2.2.2.1
      · rw [ho _ (by omega)]; exact (cB b b0 b1).2.2.2.2
    have k := k τ ((mem_sub (B := qrA) rfl s0).tr (mem_sub (B := qrA) rfl hs)) hCt
    rw [Int.sub_zero] at ha
    rw [← ha] at k
    exact k
end
