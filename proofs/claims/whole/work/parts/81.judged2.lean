/-! 81: judged -/
def juF (s : Sp) (m : Int) (v : V4) (dm hm : Int → Int) (l : Ln) (j : Int) (a : Ab × Int × Int) : Ab × Int × Int :=
  ((doW s m v dm (l.2.1 j) (l.2.2.1 j) (l.2.2.2 j) a.1).2, (if (doW s m v dm (l.2.1 j) (l.2.2.1 j) (l.2.2.2 j) a.1).1 = 0 ∧ a.2.1 = -1 then j else a.2.1),
    if bts (astP hm (doW s m v dm (l.2.1 j) (l.2.2.1 j) (l.2.2.2 j) a.1).2) m.toNat ≠ 0 ∧ a.2.2 = -1 then j else a.2.2)
def juN (s : Sp) (m : Int) (v : V4) (dm hm g sz : Int → Int) (l : Ln) (i : Nat) : Ab × Int × Int := itr (juF s m v dm hm l) i 0 (opZ g sz hm, -1, -1)
def judW (s : Sp) (m : Int) (v : V4) (dm hm g sz : Int → Int) (l : Ln) (x : Int) : Int :=
  if 0 ≤ x ∧ x ≤ 2 then (if x = 2 then cnt (astP hm (juN s m v dm hm g sz l l.1.toNat).1) m.toNat else if x = 0 then (juN s m v dm hm g sz l l.1.toNat).2.1 else (juN s m v dm hm g sz l l.1.toNat).2.2) else -2
theorem juN_s {s : Sp} {m : Int} {v : V4} {dm hm g sz : Int → Int} {l : Ln} {i : Int} (i0 : 0 ≤ i) : juN s m v dm hm g sz l (i + 1).toNat = juF s m v dm hm l i (juN s m v dm hm g sz l i.toNat) := by
  have := itr_i (f := juF s m v dm hm l) (a := (opZ g sz hm, (-1 : Int), (-1 : Int))) i0
  rw [Int.sub_zero, Int.sub_zero] at this
  exact this
section
variable {n m dk : Int} {z : Ab} {σ : St}
theorem juN_ok {v : V4} {l : Ln} (hX : Cxt n m dk σ) (hl : WfL n m l) : ∀ i : Nat, (i : Int) ≤ l.1 → WfZ n m dk (juN (spC σ 0) m v (dmpW (σ 8 0 12) (σ 908 0)) (σ 906 0) (σ 901 0) (σ 905 0) l i).1 ∧ zDay (juN (spC σ 0) m v (dmpW (σ 8 0 12) (σ 908 0)) (σ 906 0) (σ 901 0) (σ 905 0) l i).1 ≤ i ∧
    -1 ≤ (juN (spC σ 0) m v (dmpW (σ 8 0 12) (σ 908 0)) (σ 906 0) (σ 901 0) (σ 905 0) l i).2.1 ∧ -1 ≤ (juN (spC σ 0) m v (dmpW (σ 8 0 12) (σ 908 0)) (σ 906 0) (σ 901 0) (σ 905 0) l i).2.2
  | 0, _ => ⟨WfZ_op hX, Int.le_refl 0, Int.le_refl _, Int.le_refl _⟩
  | i + 1, h => by
    have h1 := juN_ok (v := v) hX hl i (by omega)
    have e := juN_s (s := spC σ 0) (m := m) (v := v) (dm := dmpW (σ 8 0 12) (σ 908 0)) (hm := σ 906 0) (g := σ 901 0) (sz := σ 905 0) (l := l) (i := i) (by omega)
    rw [show ((i : Int) + 1).toNat = i + 1 by omega, Int.toNat_natCast] at e
    rw [e]
    generalize juN (spC σ 0) m v (dmpW (σ 8 0 12) (σ 908 0)) (σ 906 0) (σ 901 0) (σ 905 0) l i = a at h1
    obtain ⟨w1, w2, w3, w4⟩ := h1
    have hk := hl.2 i (by omega) (by omega)
    have h40 := hl.1.2
    have := WfZ_do (v := v) (dm := dmpW (σ 8 0 12) (σ 908 0)) hX.spw w1 hk (by omega)
    unfold juF
    refine ⟨this.1, ?_, ?_, ?_⟩
    · have := this.2
      dsimp only
      omega
    · dsimp only
      split <;> omega
    · dsimp only
      split <;> omega
theorem t_X11_judged {v : V4} {x : Int} {l : Ln} {Q : Int → St → Prop} (hX : Cxt n m dk σ) (hL : LwC v σ 0) (hl : LnC σ 0 l) (hw : WfL n m l)
    (k : ∀ σ', Sm qcB σ σ' → Q (judW (spC σ 0) m v (dmpW (σ 8 0 12) (σ 908 0)) (σ 906 0) (σ 901 0) (σ 905 0) l x) σ') : P_X11_judged x σ Q := by
  have m6 := hX.spw.2.2.2.2.1
  unfold P_X11_judged
  unfold judW at k
  refine t_X11_within (fun x0 x1 => ?_) (fun h => ?_)
  · rw [if_neg one_no]
    have k := fun σ' s => k σ' s
    simp only [if_pos (show 0 ≤ x ∧ x ≤ 2 from ⟨x0, x1⟩)] at k
    refine t_X9_open hX (fun σ1 s1 c1 => ?_)
    have s1 := mem_sub (A := tkA 1) (B := qcB) rfl s1
    have hok := fun i hi => juN_ok (v := v) hX hw i hi
    have hjs := fun i i0 => juN_s (s := spC σ 0) (m := m) (v := v) (dm := dmpW (σ 8 0 12) (σ 908 0)) (hm := σ 906 0) (g := σ 901 0) (sz := σ 905 0) (l := l) (i := i) i0
    have hj0 : juN (spC σ 0) m v (dmpW (σ 8 0 12) (σ 908 0)) (σ 906 0) (σ 901 0) (σ 905 0) l 0 = (opZ (σ 901 0) (σ 905 0) (σ 906 0), -1, -1) := rfl
    generalize juN (spC σ 0) m v (dmpW (σ 8 0 12) (σ 908 0)) (σ 906 0) (σ 901 0) (σ 905 0) l = A at k hok hjs hj0
    have h40 := hw.1
    refine loopI (X := Int × Int × St) (F := fun n' i a => P_X11_judged_L26 x (fun x2_8 x3_9 σ_10 => (if x = 2 then P_X9_astray 1 σ_10 (fun r_12 σ_11 => P_J6_bitCount_0f7a4 r_12 σ_11 (fun r_14 σ_13 => Q r_14 σ_13)) else (if x = 0 then Q x2_8 σ_10 else Q x3_9 σ_10))) Q n' a.1 a.2.1 i a.2.2) (N := l.1)
      (fun i a => Sm qcB σ a.2.2 ∧ StC n m a.2.2 1 (A i.toNat).1 ∧ a.1 = (A i.toNat).2.1 ∧ a.2.1 = (A i.toNat).2.2) ?_ ?_ l.1.toNat 0 (-1, -1, σ1) FU (Int.le_refl 0) (by omega) (FU_pos (by omega)) ⟨s1, by rw [show (0 : Int).toNat = 0 from rfl, hj0]; exact c1, by rw [show (0 : Int).toNat = 0 from rfl, hj0], by rw [show (0 : Int).toNat = 0 from rfl, hj0]⟩
    · rintro n' i ⟨b, f, τ⟩ i0 i1 ⟨hs, hc, hb, hf⟩ k'
      dsimp only at hs hc hb hf k' ⊢
      have ho := hok i.toNat (by omega)
      rw [hjs i i0] at k'
      generalize A i.toNat = a at ho hc hb hf k'
      obtain ⟨w1, w2, w3, w4⟩ := ho
      have hX1 := Cxt_keep hs rfl hX
      have e3 : τ 3 0 3 = l.1 := by rw [hs.row (t := 3) (i := 0) rfl]; exact hl.1
      have hli := hl.2 i i0 i1
      unfold P_X11_judged_L26
      rw [e3, if_neg (by omega)]
      refine t_X3_perform (v := v) hX1 w1 hc (LwC_keep hs rfl hL) (by omega) i0 (by omega) (by rw [hs.row (t := 400) (i := 0) rfl, hs.row (t := 401) (i := 0) rfl, hs.row (t := 402) (i := 0) rfl]; exact hli) (hw.2 i i0 i1) (fun υ su cu => ?_)
      rw [show spC τ 0 = spC σ 0 from spC_keep hs rfl, hs.row (t := 8) (i := 0) rfl, hs.row (t := 908) (i := 0) rfl] at cu ⊢
      have hX2 := Cxt_keep (hs.tr su) rfl hX
      have e906 : ∀ b : Int, 0 ≤ b → b < m → υ 906 0 b = σ 906 0 b := fun b _ _ => by rw [(hs.tr su).row (t := 906) (i := 0) rfl]
      -- the one who is astray first
      have fin : ∀ b' : Int, b' = (juF (spC σ 0) m v (dmpW (σ 8 0 12) (σ 908 0)) (σ 906 0) l i a).2.1 → P_X11_judged_J66 x b' f i (P_X11_judged_L26 x (fun x2_8 x3_9 σ_10 => (if x = 2 then P_X9_astray 1 σ_10 (fun r_12 σ_11 => P_J6_bitCount_0f7a4 r_12 σ_11 (fun r_14 σ_13 => Q r_14 σ_13)) else (if x = 0 then Q x2_8 σ_10 else Q x3_9 σ_10))) Q n')
          (fun x2_8 x3_9 σ_10 => (if x = 2 then P_X9_astray 1 σ_10 (fun r_12 σ_11 => P_J6_bitCount_0f7a4 r_12 σ_11 (fun r_14 σ_13 => Q r_14 σ_13)) else (if x = 0 then Q x2_8 σ_10 else Q x3_9 σ_10))) Q υ := by
        intro b' hb'
        unfold P_X11_judged_J66
        rw [wi_id (z := i + 1) (by omega) (by omega)]
        by_cases hf1 : f = -1
        · rw [if_pos hf1]
          refine t_X9_astray hX2 e906 cu ?_
          by_cases h0 : bts (astP (σ 906 0) (doW (spC σ 0) m v (dmpW (σ 8 0 12) (σ 908 0)) (l.2.1 i) (l.2.2.1 i) (l.2.2.2 i) a.1).2) m.toNat = 0
          · rw [if_pos h0]
            refine k' (b', f, υ) ⟨hs.tr su, cu, hb', ?_⟩
            show f = if _ ∧ _ then _ else _
            rw [if_neg (fun q => q.1 h0)]
            exact hf
          · rw [if_neg h0]
            refine k' (b', i, υ) ⟨hs.tr su, cu, hb', ?_⟩
            show i = if _ ∧ _ then _ else _
            rw [if_pos ⟨h0, by rw [← hf]; exact hf1⟩]
        · rw [if_neg hf1]
          refine k' (b', f, υ) ⟨hs.tr su, cu, hb', ?_⟩
          show f = if _ ∧ _ then _ else _
          rw [if_neg (fun q => hf1 (by rw [hf]; exact q.2))]
          exact hf
      by_cases hr : (doW (spC σ 0) m v (dmpW (σ 8 0 12) (σ 908 0)) (l.2.1 i) (l.2.2.1 i) (l.2.2.2 i) a.1).1 = 0
      · rw [if_pos hr]
        by_cases hb1 : b = -1
        · rw [if_pos hb1]
          refine fin i ?_
          show i = if _ ∧ _ then _ else _
          rw [if_pos ⟨hr, by rw [← hb]; exact hb1⟩]
        · rw [if_neg hb1]
          refine fin b ?_
          show b = if _ ∧ _ then _ else _
          rw [if_neg (fun q => hb1 (by rw [hb]; exact q.2))]
          exact hb
      · rw [if_neg hr]
        refine fin b ?_
        show b = if _ ∧ _ then _ else _
        rw [if_neg (fun q => hr q.1)]
        exact hb
    · rintro n' ⟨b, f, τ⟩ ⟨hs, hc, hb, hf⟩
      dsimp only at hs hc hb hf ⊢
      have hX1 := Cxt_keep hs rfl hX
      have e3 : τ 3 0 3 = l.1 := by rw [hs.row (t := 3) (i := 0) rfl]; exact hl.1
      have k := k τ hs
      unfold P_X11_judged_L26
      rw [e3, if_pos (Int.le_refl _)]
      by_cases h2 : x = 2
      · rw [if_pos h2] at k ⊢
        refine t_X9_astray hX1 (fun b _ _ => by rw [hs.row (t := 906) (i := 0) rfl]) hc ?_
        exact t_bitCount m6.1 m6.2 k
      · rw [if_neg h2] at k ⊢
        rw [← hb, ← hf] at k
        by_cases h0 : x = 0
        · rw [if_pos h0] at k ⊢
          exact k
        · rw [if_neg h0] at k ⊢
          exact k
  · have k := k σ Sm.rf
    rw [if_neg h] at k
    rw [if_pos rfl]
    exact k
theorem LnA_keep {A : List Reg} {u : Int} {l : Ln} {τ : St} (h : Sm A σ τ) (hn : noT A [1338, 1339, 1340, 1341] 0 = true) (c : LnA σ u l) : LnA τ u l := by
  unfold LnA at c ⊢
  rw [noT_row h hn (t := 1338) (by decide), noT_row h hn (t := 1339) (by decide), noT_row h hn (t := 1340) (by decide), noT_row h hn (t := 1341) (by decide)]
  exact c
theorem t_X12_judged {v : V4} {x : Int} {l : Ln} {Q : Int → St → Prop} (hB : Bas n m dk v z σ) (hl : LnA σ 0 l) (hw : WfL n m l)
    (k : ∀ σ', Sm qrB σ σ' → StA n m (σ' 1346 0) z → Q (judW (spC σ 0) m v (dmpW (σ 8 0 12) (σ 908 0)) (σ 906 0) (σ 901 0) (σ 905 0) l x) σ') : P_X12_judged x σ Q := by
  have m6 := hB.1.spw.2.2.2.2.1
  obtain ⟨hB0, s0⟩ := Bas_look hB
  have hX := hB.1
  have hE := hB.2.1
  have hW := hB.2.2.1
  have hL := hB.2.2.2.2.1
  unfold P_X12_judged
  unfold judW at k
  refine t_X12_within (fun x0 x1 => ?_) (fun h => ?_)
  · rw [if_neg one_no]
    have k := fun σ' s c => k σ' s c
    simp only [if_pos (show 0 ≤ x ∧ x ≤ 2 from ⟨x0, x1⟩)] at k
    refine t_aside (t := 1347) rfl rfl hB0.1 hW hB0.2.2.2.1 (fun σ1 s1 c1 d1 => ?_)
    have s01 : Sm qrB σ σ1 := (mem_sub (B := qrB) rfl s0).tr (mem_sub (B := qrB) rfl s1)
    refine t_X12_fresh0 (Cxt_keep s01 rfl hX) (ShE_keep s01 rfl hE) (fun σ2 s2 c2 => ?_)
    rw [s01.row (t := 901) (i := 0) rfl, s01.row (t := 905) (i := 0) rfl, s01.row (t := 906) (i := 0) rfl] at c2
    have s02 : Sm qrB σ σ2 := s01.tr (mem_sub (B := qrB) rfl s2)
    have e47 : σ2 1347 0 = σ1 1347 0 := s2.row rfl
    have hok := fun i hi => juN_ok (v := v) hX hw i hi
    have hjs := fun i i0 => juN_s (s := spC σ 0) (m := m) (v := v) (dm := dmpW (σ 8 0 12) (σ 908 0)) (hm := σ 906 0) (g := σ 901 0) (sz := σ 905 0) (l := l) (i := i) i0
    have hj0 : juN (spC σ 0) m v (dmpW (σ 8 0 12) (σ 908 0)) (σ 906 0) (σ 901 0) (σ 905 0) l 0 = (opZ (σ 901 0) (σ 905 0) (σ 906 0), -1, -1) := rfl
    generalize juN (spC σ 0) m v (dmpW (σ 8 0 12) (σ 908 0)) (σ 906 0) (σ 901 0) (σ 905 0) l = A at k hok hjs hj0
    have h40 := hw.1
    refine loopI (X := Int × Int × St) (F := fun n' i a => P_X12_judged_L41 x (fun x2_9 x3_10 σ_11 => P_X12_astrayNow σ_11 (fun r_13 σ_12 => P_X12_bits r_13 σ_12 (fun r_15 σ_14 => P_X12_copies 1347 0 0 1346 0 0 σ_14 (fun σ_16 => (if x = 0 then Q x2_9 σ_16 else (if x = 1 then Q x3_10 σ_16 else Q r_15 σ_16)))))) Q n' a.1 a.2.1 i a.2.2) (N := l.1)
      (fun i a => Sm qrB σ a.2.2 ∧ a.2.2 1347 0 = σ1 1347 0 ∧ StA n m (a.2.2 1346 0) (A i.toNat).1 ∧ a.1 = (A i.toNat).2.1 ∧ a.2.1 = (A i.toNat).2.2) ?_ ?_ l.1.toNat 0 (-1, -1, σ2) FU (Int.le_refl 0) (by omega) (FU_pos (by omega)) ⟨s02, e47, by rw [show (0 : Int).toNat = 0 from rfl, hj0]; exact c2, by rw [show (0 : Int).toNat = 0 from rfl, hj0], by rw [show (0 : Int).toNat = 0 from rfl, hj0]⟩
    · rintro n' i ⟨b, f, τ⟩ i0 i1 ⟨hs, h47, hc, hb, hf⟩ k'
      dsimp only at hs h47 hc hb hf k' ⊢
      have ho := hok i.toNat (by omega)
      rw [hjs i i0] at k'
      generalize A i.toNat = a at ho hc hb hf k'
      obtain ⟨w1, w2, w3, w4⟩ := ho
      have hX1 := Cxt_keep hs rfl hX
      have hl1 := LnA_keep hs rfl hl
      have hli := hl1.2 i i0 i1
      rw [show (40 * 0 + i : Int) = i by omega] at hli
      unfold P_X12_judged_L41
      rw [hl1.1, if_neg (by omega)]
      refine t_X12_isDone (v := v) hX1 (ShE_keep hs rfl hE) w1 hc (LwA_keep hs rfl hL) (by omega) i0 (by omega) hli (hw.2 i i0 i1) (fun υ su su2 cu => ?_)
      rw [show spC τ 0 = spC σ 0 from spC_keep hs rfl, hs.row (t := 8) (i := 0) rfl, hs.row (t := 908) (i := 0) rfl] at cu ⊢
      have hX2 := Cxt_keep (hs.tr su) rfl hX
      have hE2 := ShE_keep (hs.tr su) rfl hE
      have h472 : υ 1347 0 = σ1 1347 0 := by rw [su2.row (t := 1347) (i := 0) rfl]; exact h47
      have e906 : ∀ b : Int, 0 ≤ b → b < m → υ 906 0 b = σ 906 0 b := fun b _ _ => by rw [(hs.tr su).row (t := 906) (i := 0) rfl]
      have fin : ∀ b' : Int, b' = (juF (spC σ 0) m v (dmpW (σ 8 0 12) (σ 908 0)) (σ 906 0) l i a).2.1 → P_X12_judged_J68 x b' f i (P_X12_judged_L41 x (fun x2_9 x3_10 σ_11 => P_X12_astrayNow σ_11 (fun r_13 σ_12 => P_X12_bits r_13 σ_12 (fun r_15 σ_14 => P_X12_copies 1347 0 0 1346 0 0 σ_14 (fun σ_16 => (if x = 0 then Q x2_9 σ_16 else (if x = 1 then Q x3_10 σ_16 else Q r_15 σ_16)))))) Q n')
          (fun x2_9 x3_10 σ_11 => P_X12_astrayNow σ_11 (fun r_13 σ_12 => P_X12_bits r_13 σ_12 (fun r_15 σ_14 => P_X12_copies 1347 0 0 1346 0 0 σ_14 (fun σ_16 => (if x = 0 then Q x2_9 σ_16 else (if x = 1 then Q x3_10 σ_16 else Q r_15 σ_16)))))) Q υ := by
        intro b' hb'
        unfold P_X12_judged_J68
        rw [wi_id (z := i + 1) (by omega) (by omega)]
        refine t_X12_astrayNow hX2 hE2 e906 cu ?_
        by_cases h0 : bts (astP (σ 906 0) (doW (spC σ 0) m v (dmpW (σ 8 0 12) (σ 908 0)) (l.2.1 i) (l.2.2.1 i) (l.2.2.2 i) a.1).2) m.toNat = 0
        · rw [if_pos h0]
          refine k' (b', f, υ) ⟨hs.tr su, h472, cu, hb', ?_⟩
          show f = if _ ∧ _ then _ else _
          rw [if_neg (fun q => q.1 h0)]
          exact hf
        · rw [if_neg h0]
          by_cases hf1 : f = -1
          · rw [if_neg (by omega)]
            refine k' (b', i, υ) ⟨hs.tr su, h472, cu, hb', ?_⟩
            show i = if _ ∧ _ then _ else _
            rw [if_pos ⟨h0, by rw [← hf]; exact hf1⟩]
          · rw [if_pos (by omega)]
            refine k' (b', f, υ) ⟨hs.tr su, h472, cu, hb', ?_⟩
            show f = if _ ∧ _ then _ else _
            rw [if_neg (fun q => hf1 (by rw [hf]; exact q.2))]
            exact hf
      by_cases hr : (doW (spC σ 0) m v (dmpW (σ 8 0 12) (σ 908 0)) (l.2.1 i) (l.2.2.1 i) (l.2.2.2 i) a.1).1 = 0
      · rw [if_pos hr]
        by_cases hb1 : b = -1
        · rw [if_neg (by omega)]
          refine fin i ?_
          show i = if _ ∧ _ then _ else _
          rw [if_pos ⟨hr, by rw [← hb]; exact hb1⟩]
        · rw [if_pos (by omega)]
          refine fin b ?_
          show b = if _ ∧ _ then _ else _
          rw [if_neg (fun q => hb1 (by rw [hb]; exact q.2))]
          exact hb
      · rw [if_neg hr]
        refine fin b ?_
        show b = if _ ∧ _ then _ else _
        rw [if_neg (fun q => hr q.1)]
        exact hb
    · rintro n' ⟨b, f, τ⟩ ⟨hs, h47, hc, hb, hf⟩
      dsimp only at hs h47 hc hb hf ⊢
      have hX1 := Cxt_keep hs rfl hX
      have hE1 := ShE_keep hs rfl hE
      have hl1 := LnA_keep hs rfl hl
      unfold P_X12_judged_L41
      rw [hl1.1, if_pos (Int.le_refl _)]
      refine t_X12_astrayNow hX1 hE1 (fun b _ _ => by rw [hs.row (t := 906) (i := 0) rfl]) hc ?_
      refine t_X12_bits m6.1 m6.2 ?_
      refine t_asback (t := 1347) (z := z) rfl rfl hX1 hW (by rw [h47]; exact d1) (fun ω sω cω => ?_)
      have k := k ω (hs.tr (mem_sub (B := qrB) rfl sω)) cω
      by_cases h0 : x = 0
      · rw [if_neg (by omega), if_pos h0, ← hb] at k
        rw [if_pos h0]
        exact k
      · by_cases h1 : x = 1
        · rw [if_neg (by omega), if_neg h0, ← hf] at k
          rw [if_neg h0, if_pos h1]
          exact k
        · rw [if_pos (by omega)] at k
          rw [if_neg h0, if_neg h1]
          exact k
  · have k := k _ (mem_sub (B := qrB) rfl s0) hB0.2.2.2.1
    rw [if_neg h] at k
    rw [if_pos rfl]
    exact k
end
