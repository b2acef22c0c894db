/-! 97.l: the reference takes a shop -/
theorem law_len {y : Tp} {d : Dr} (hW : WfT y) (hV : WfD y d) : (d.2.2.2.2.1.length : Int) ≤ 1000 := by
  rcases hV.2.2.2.2.2.2.2.2 with ⟨-, e⟩ | ⟨-, k, k0, e, h0, h1⟩
  · rw [e]; show (0 : Int) ≤ 1000; decide
  · rw [e]
    have := ex_len hW h0
    omega
theorem LwA_law {y : Tp} {σ : St} {d : Dr} (hW : WfT y) (hV : WfD y d) (hf : σ 1319 0 0 = 0) (ht : σ 1320 0 0 = d.2.2.2.2.1.length) (hc : CM σ d.2.2.2.2.1 0) : LwA (tV d.2) σ := by
  have hl := law_len hW hV
  rcases hV.2.2.2.2.2.2.2.2 with ⟨-, e⟩ | ⟨-, k, k0, e, h0, h1⟩
  · rw [e] at ht ⊢
    exact LwA_none hf ht
  · rw [e] at hl ht hc ⊢
    have hE := ER_all (y := y) (pp := prt y 5) (m := 5) (fun j => EP_prt hW 5 j) (fun j => PrI_prt hW 5 j) k
    have hI := PrI_rkk (y := y) (pp := prt y 5) (fun j => PrI_prt hW 5 j) 4 k
    have := (ex_len hW h0).1
    exact LwA_of hE hI h0 hc hf ht hl (by omega)
def rsS : List Reg := (12, 0, some 0) :: (12, 0, some 52) :: (1346, 0, none) :: (1353, 0, none) :: (1338, 0, none) :: (1342, 0, none) :: (1351, 0, none) :: rsB
def rsF : List Reg := (12, 0, some 0) :: rsB
theorem t_X12_shop {y : Tp} {σ : St} {Q : Int → St → Prop} (hT : TpA σ y) (hW : WfT y) (hI : (shW y).1 = 0 → InD σ (shW y).2)
    (kf : (shW y).1 ≠ 0 → ∀ σ', Sm rsF σ σ' → LoR σ σ' → σ' 12 0 1 = 0 → Q (shW y).1 σ')
    (ks : (shW y).1 = 0 → ∀ σ', Sm rsS σ σ' → σ' 12 0 1 = 0 → WfD y (shW y).2 → ShE σ' → (∀ i : Int, 0 ≤ i → i < (shW y).2.1 0 0 → σ' 1311 0 i = (shW y).2.1 1 i) → (∀ b : Int, 0 ≤ b → b < (shW y).2.1 0 1 → σ' 1312 0 b = (shW y).2.1 4 b) →
      LwA (tV (shW y).2.2) σ' → σ' 1320 0 0 ≤ 1000 → StA ((shW y).2.1 0 0) ((shW y).2.1 0 1) (σ' 1346 0) (opZ (σ' 901 0) (σ' 905 0) (σ' 906 0)) →
      σ' 1338 0 0 = 0 → σ' 1342 0 0 = 0 → σ' 12 0 52 = 0 → (∀ u : Int, 0 ≤ u → u < 4 → σ' 1351 0 u = 0) → Q 0 σ') : P_X12_shop σ Q := by
  unfold P_X12_shop
  have su : Sm [(12, 0, some 0)] σ (up σ 12 0 0 0) := Sm_up Sm.rf rfl
  have hT1 : TpA (up σ 12 0 0 0) y := by
    unfold TpA at hT ⊢
    rw [su 12 0 1 rfl, su.row (t := 1302) (i := 0) rfl]
    exact hT
  have lu : LoR σ (up σ 12 0 0 0) := fun t ht x _ => by rw [noT_row su (T := loT) rfl ht]
  refine t_readsAll hT1 hW (fun hne σ1 f1 e1 e9 => ?_) (fun hz σ1 f1 e1 d1 hV => ?_)
  · rw [if_pos rfl, e9]
    exact kf hne σ1 ((mem_sub (B := rsF) rfl su).tr (mem_sub (B := rsF) rfl f1.1)) (fun t ht x hx => (f1.2 t ht x hx).trans (lu t ht x hx)) e1
  · have hI := hI hz
    have ks := ks hz
    rw [if_neg one_no]
    refine t_laysShop hV d1 (law_len hW hV) (fun σ2 s2 l2 => ?_)
    obtain ⟨⟨p1, p2, p3, p4⟩, pc, pb, pd, pf, pt, pm⟩ := l2
    obtain ⟨v1, v2, v3, v4, v5, v6, v7, v8, v9⟩ := id hV
    refine t_laysRail (pl := (shW y).2.1 2) p1 v1.1 v1.2 (fun i i0 i1 => (pc i i0 i1).2.1) v6 (fun σ3 s3 r3 => ?_)
    have s13 : Sm ((12, 0, some 0) :: (1353, 0, none) :: rsB) σ σ3 := (((mem_sub rfl su).tr (mem_sub rfl f1.1)).tr (mem_sub rfl s2)).tr (mem_sub rfl s3)
    have hI3 := InD_keep s13 rfl hI
    have hX := InD_cxt hI3 hV
    obtain ⟨⟨i1, i2, i3, i4⟩, -, ic, ir, -, iB, id'⟩ := id hI3
    have hE : ShE σ3 := by
      unfold ShE
      rw [i1, i2, i3, i4, s3.row (t := 1310) (i := 0) rfl, s3.row (t := 1313) (i := 0) rfl, s3.row (t := 1314) (i := 0) rfl, s3.row (t := 1315) (i := 0) rfl, s3.row (t := 1316) (i := 0) rfl, s3.row (t := 1317) (i := 0) rfl, s3.row (t := 1318) (i := 0) rfl]
      refine ⟨p1, p2, p3, p4, fun c c0 c1 => ⟨?_, ?_, ?_⟩, fun b b0 b1 => ⟨?_, ?_, ?_⟩, fun j j0 j1 => ?_⟩
      · rw [(pc c c0 c1).2.1, (ic c c0 c1).1]
      · rw [(pc c c0 c1).2.2, (ic c c0 c1).2.1]
      · have hr := (ic c c0 c1).2.2
        have hk := rkW_rail (n := (shW y).2.1 0 0) (pl := (shW y).2.1 2) (r := σ3 903 0) (fun i j0 j1 => (ic i j0 j1).2.2) (fun i j j0 j1 j2 => by
          have := ir i j j0 j1 (by rw [i1]; exact j2)
          have a := (ic i j0 (by omega)).2.2
          have b := (ic j (by omega) j2).2.2
          rw [(ic _ a.1 a.2).1, (ic _ b.1 b.2).1] at this
          exact this) c0 c1
        have := r3 (σ3 903 0 c) hr.1 hr.2
        rw [hk] at this
        exact this
      · rw [(pb b b0 b1).2.1, (iB b b0 b1).1]
      · rw [(pb b b0 b1).2.2.1, (iB b b0 b1).2.1]
      · rw [(pb b b0 b1).2.2.2, (iB b b0 b1).2.2]
      · rw [pd j j0 j1, id' j j0 j1]
    have hL : LwA (tV (shW y).2.2) σ3 := LwA_law hW hV (by rw [s3.row (t := 1319) (i := 0) rfl]; exact pf) (by rw [s3.row (t := 1320) (i := 0) rfl]; exact pt) (fun j hj => by rw [s3.row (t := 1321) (i := 0) rfl]; exact pm j hj)
    refine t_X12_fresh0 hX hE (fun σ4 s4 a4 => ?_)
    have sN : Sm [(1338, 0, none), (1342, 0, none), (12, 0, some 52), (1351, 0, none)] σ4 (up (up (up (up (up (up (up σ4 1338 0 0 0) 1342 0 0 0) 12 0 52 0) 1351 0 0 0) 1351 0 1 0) 1351 0 2 0) 1351 0 3 0) := Sm_up (Sm_up (Sm_up (Sm_up (Sm_up (Sm_up (Sm_up Sm.rf rfl) rfl) rfl) rfl) rfl) rfl) rfl
    suffices H : Q 0 (up (up (up (up (up (up (up σ4 1338 0 0 0) 1342 0 0 0) 12 0 52 0) 1351 0 0 0) 1351 0 1 0) 1351 0 2 0) 1351 0 3 0) by
      obtain ⟨m, hm, -⟩ := fu_ex (m := 6) (n := FU) (FU_pos (by decide))
      obtain ⟨m, rfl, -⟩ := fu_ex (m := 5) (n := m) (by unfold FU at hm; omega)
      obtain ⟨m, rfl, -⟩ := fu_ex (m := 4) (n := m) (by unfold FU at hm; omega)
      obtain ⟨m, rfl, -⟩ := fu_ex (m := 3) (n := m) (by unfold FU at hm; omega)
      obtain ⟨m, rfl, -⟩ := fu_ex (m := 2) (n := m) (by unfold FU at hm; omega)
      have v1 : wi (0 + 1) = 1 := by decide +kernel
      have v2 : wi (1 + 1) = 2 := by decide +kernel
      have v3 : wi (2 + 1) = 3 := by decide +kernel
      have v4 : wi (3 + 1) = 4 := by decide +kernel
      rw [hm]
      unfold P_X12_shop_L50
      rw [if_neg (by decide), v1]
      refine ⟨by decide, by decide, ?_⟩
      unfold P_X12_shop_L50
      rw [if_neg (by decide), v2]
      refine ⟨by decide, by decide, ?_⟩
      unfold P_X12_shop_L50
      rw [if_neg (by decide), v3]
      refine ⟨by decide, by decide, ?_⟩
      unfold P_X12_shop_L50
      rw [if_neg (by decide), v4]
      refine ⟨by decide, by decide, ?_⟩
      unfold P_X12_shop_L50
      rw [if_pos (by decide)]
      exact H
    have g38 : (up (up (up (up (up (up (up σ4 1338 0 0 0) 1342 0 0 0) 12 0 52 0) 1351 0 0 0) 1351 0 1 0) 1351 0 2 0) 1351 0 3 0) 1338 0 0 = 0 := by rw [up_nt rfl, up_nt rfl, up_nt rfl, up_nt rfl, up_nt rfl, up_nt rfl, up_at]
    have g42 : (up (up (up (up (up (up (up σ4 1338 0 0 0) 1342 0 0 0) 12 0 52 0) 1351 0 0 0) 1351 0 1 0) 1351 0 2 0) 1351 0 3 0) 1342 0 0 = 0 := by rw [up_nt rfl, up_nt rfl, up_nt rfl, up_nt rfl, up_nt rfl, up_at]
    have g52 : (up (up (up (up (up (up (up σ4 1338 0 0 0) 1342 0 0 0) 12 0 52 0) 1351 0 0 0) 1351 0 1 0) 1351 0 2 0) 1351 0 3 0) 12 0 52 = 0 := by rw [up_nt rfl, up_nt rfl, up_nt rfl, up_nt rfl, up_at]
    have g51 : ∀ u : Int, 0 ≤ u → u < 4 → (up (up (up (up (up (up (up σ4 1338 0 0 0) 1342 0 0 0) 12 0 52 0) 1351 0 0 0) 1351 0 1 0) 1351 0 2 0) 1351 0 3 0) 1351 0 u = 0 := by
      intro u u0 u1
      by_cases e3 : u = 3
      · rw [e3, up_at]
      · rw [up_nx e3]
        by_cases e2 : u = 2
        · rw [e2, up_at]
        · rw [up_nx e2]
          by_cases e1 : u = 1
          · rw [e1, up_at]
          · rw [up_nx e1, show u = 0 by omega, up_at]
    generalize (up (up (up (up (up (up (up σ4 1338 0 0 0) 1342 0 0 0) 12 0 52 0) 1351 0 0 0) 1351 0 1 0) 1351 0 2 0) 1351 0 3 0) = τ at sN g38 g42 g52 g51
    have eO : opZ (τ 901 0) (τ 905 0) (τ 906 0) = opZ (σ3 901 0) (σ3 905 0) (σ3 906 0) := by
      rw [sN.row (t := 901) (i := 0) rfl, sN.row (t := 905) (i := 0) rfl, sN.row (t := 906) (i := 0) rfl, s4.row (t := 901) (i := 0) rfl, s4.row (t := 905) (i := 0) rfl, s4.row (t := 906) (i := 0) rfl]
    have sT : Sm rsS σ τ := ((mem_sub (B := rsS) rfl s13).tr (mem_sub (B := rsS) rfl s4)).tr (mem_sub (B := rsS) rfl sN)
    have e12 : τ 12 0 1 = 0 := by rw [sN 12 0 1 rfl, s4 12 0 1 rfl, s3 12 0 1 rfl, s2 12 0 1 rfl, e1]
    refine ks τ sT e12 hV (ShE_keep sN rfl (ShE_keep s4 rfl hE)) (fun i i0 i1 => ?_) (fun b b0 b1 => ?_) (LwA_keep sN rfl (LwA_keep s4 rfl hL)) (by rw [sN.row (t := 1320) (i := 0) rfl, s4.row (t := 1320) (i := 0) rfl, s3.row (t := 1320) (i := 0) rfl, pt]; exact law_len hW hV) ?_ g38 g42 g52 g51
    · rw [sN.row (t := 1311) (i := 0) rfl, s4.row (t := 1311) (i := 0) rfl, s3.row (t := 1311) (i := 0) rfl]
      exact (pc i i0 i1).1
    · rw [sN.row (t := 1312) (i := 0) rfl, s4.row (t := 1312) (i := 0) rfl, s3.row (t := 1312) (i := 0) rfl]
      exact (pb b b0 b1).1
    · rw [eO, sN.row (t := 1346) (i := 0) rfl]
      exact a4
