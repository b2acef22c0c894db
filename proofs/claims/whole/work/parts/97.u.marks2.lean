/-! 97.u: marks keep what holds -/
def hlN (A : List Reg) : Bool := noT A enT 0 && (noT A [8, 903] 1 && (!inR A 2 1 3 && (!inR A 3 1 3 && (noT A noR 0 && (noT A [1100, 1302, 1346, 1349, 1350, 1351] 0 && (!inR A 10 0 4 && (!inR A 12 0 1 && (!inR A 12 0 52 && (pasOk A && noT A stT 0)))))))))
theorem ml_ok : ∀ u : Nat, u < 4 → hlN (mlA u) = true := by decide
def mlO (u w : Nat) : Bool := noT (mlA u) [4] w && (noT (mlA u) stT (w + 18) && (noT (mlA u) [3, 400, 401, 402] (w + 2) && noT (mlA u) [7, 800, 801, 802] (w + 1)))
theorem ml_ot : ∀ u : Nat, u < 4 → ∀ w : Nat, w < 4 → w ≠ u → mlO u w = true := by decide
theorem mb_ok : mkOk mbA = true := by decide
theorem mr_ps : pasOk mrA = true := by decide
theorem mr_mk : (List.range 4).all (fun u => noT mrA [4] u && (noT mrA stT (u + 18) && (noT mrA [3, 400, 401, 402] (u + 2) && noT mrA [7, 800, 801, 802] (u + 1)))) = true := by decide
section
variable {K : Int}
theorem sI_mark {a b : Int} : StpI K (P_X11_mark a b) (P_X12_mark a b) := by
  rintro σ ⟨n, m, dk, v, e, l, s, ms, y, z, c, zs, hA⟩ G hG
  have hA : Al n m dk K v e l s ms y z c zs σ := hA
  obtain ⟨⟨hE, hD, ⟨n1, n2, n3, n4, n5, n6, n7⟩, hM, ⟨t1, t2, t3⟩⟩, ⟨w1, w2, w3, w4⟩, hP⟩ := id hA
  have ea : ∀ {τ : St}, 0 ≤ a → τ 1351 0 ((a.toNat : Nat) : Int) = τ 1351 0 a := fun h => by rw [Int.toNat_of_nonneg h]
  have hm : 0 ≤ a → a ≤ 3 → b ≠ 0 → σ 4 a.toNat 3 ≠ 0 → _ := fun a0 a1 _ h => (hM a.toNat (by omega)).2.resolve_left h
  refine t_X11_mark (b := b) (zm := (ms a.toNat).1) (lm := (ms a.toNat).2.1) (sm' := (ms a.toNat).2.2) hE.1 w1 w3 n1 n3 n4 n6 (fun a0 a1 b0 h => ?_) (fun hno => hG _ _ (fun Q2 k2 => ?_)) (fun a0 a1 b0 σ1 s1 c1 c2 c3 c4 => hG _ _ (fun Q2 k2 => ?_)) (fun a0 a1 b0 h σ1 s1 c1 c2 c3 c4 => hG _ _ (fun Q2 k2 => ?_))
  · obtain ⟨q0, q1, q2, q3, q4, q5, q6, q7, q8, q9, q10⟩ := hm a0 a1 b0 h
    exact ⟨q1, q3, q5, q7, q8, q10⟩
  · have nope : ∀ {P : Prop}, 0 ≤ a → a ≤ 3 → (b = 0 ∨ σ 1351 0 a ≠ 0) → P := fun a0 a1 hb => by
      exfalso
      rcases hno with q | ⟨q1, q2⟩
      · exact q ⟨a0, a1⟩
      · rcases hb with r | r
        · exact q1 r
        · refine r ?_
          rw [← ea (τ := σ) a0, ← (hM a.toNat (by omega)).1]
          exact q2
    exact t_X12_mark (zm := z) (lm := l) (sm' := s) hE.1 w1 w4 n2 n3 n5 n6 n7 (fun a0 a1 _ h => nope a0 a1 (Or.inr h)) (fun _ σ' s' => k2 σ' (q_fin hA (mem_sub rfl s') (by rw [s'.row (t := 1346) (i := 0) rfl]; exact w4))) (fun a0 a1 b0 => nope a0 a1 (Or.inl b0)) (fun a0 a1 _ h => nope a0 a1 (Or.inr h))
  · -- a mark laid
    have hu : a.toNat < 4 := by omega
    have eu : ((a.toNat : Nat) : Int) = a := Int.toNat_of_nonneg a0
    generalize hg : a.toNat = u at hu eu s1 c1 c2 c3 c4
    have ok := ml_ok u hu
    unfold hlN at ok
    simp only [Bool.and_eq_true, Bool.not_eq_true'] at ok
    obtain ⟨g1, g2, g3, g4, g5, g6, g7, g8, g9, g10, g11⟩ := ok
    have hE1 := EnvI_keep s1 g1 hE
    have r : ∀ t, t ∈ [1100, 1302, 1346, 1349, 1350, 1351] → σ1 t 0 = σ t 0 := fun t ht => noT_row s1 g6 ht
    have nr := fun (T : List Nat) (h : ∀ t, t ∈ T → t ∈ noR ∨ t ∈ enT ∨ t ∈ [1100, 1302, 1346, 1349, 1350, 1351]) => h
    have L1 : ∀ (w : Int) (l' : Ln), LnA σ w l' → LnA σ1 w l' := fun w l' h => LnA_keep s1 (noT_sub g5 (by decide)) h
    have S1 : ∀ (w : Int) (y' : Sn), SeA σ w y' → SeA σ1 w y' := fun w y' h => SeA_keep s1 (noT_sub g5 (by decide)) h
    refine t_X12_mark (zm := z) (lm := l) (sm' := s) hE1.1 w1 (by rw [r 1346 (by decide)]; exact w4) (L1 _ _ n2) n3 (S1 _ _ n5) n6 (Z01_keep s1 (noT_sub g5 (by decide)) n7) (fun _ _ h => absurd b0 h) (fun hno => ?_) (fun _ _ _ σ' s' lA lO sA zA sO stA o9 e51 e46 e52 => k2 σ' ?_) (fun _ _ h => absurd b0 h)
    · exfalso
      rcases hno with q | q
      · exact q ⟨a0, a1⟩
      · exact q.1 b0
    · refine Inv_mono (K := K) (by omega) ⟨n, m, dk, v, e, l, s, fun w => if w = u then (z, l, s) else ms w, y, z, c, zs, ⟨EnvI_keep s' rfl hE1, DS_keep s' rfl rfl rfl (DS_keep s1 g2 g3 g4 hD), ⟨LnC_keep s' rfl (LnC_keep s1 (noT_sub g5 (by decide)) n1), lO 0 l (by omega) n3.1.2 (L1 _ _ n2), n3, SeC_keep s' rfl (SeC_keep s1 (noT_sub g5 (by decide)) n4), sO 0 s (by omega) n6.1.2 (S1 _ _ n5), n6, zA⟩, ?_, TpI_keep s' rfl rfl rfl (TpI_keep s1 (noT_sub g6 (by decide)) g7 g8 ⟨t1, t2, t3⟩)⟩, ⟨w1, w2, StC_keep s' rfl (StC_keep s1 g11 w3), ?_⟩, PasC_keep s' mr_ps (PasC_keep s1 g10 hP.1), ?_, hP.2.2⟩
      · intro w hw
        dsimp only
        have hmr := List.all_eq_true.mp mr_mk w (List.mem_range.mpr hw)
        rw [Bool.and_eq_true, Bool.and_eq_true, Bool.and_eq_true] at hmr
        obtain ⟨m1, m2, m3, m4⟩ := hmr
        have e4 : σ' 4 w = σ1 4 w := noT_row s' m1 (by decide)
        rw [e4, e51, r 1351 (by decide)]
        by_cases hwu : w = u
        · subst hwu
          rw [if_pos rfl, eu, upr_at]
          exact ⟨c4, Or.inr ⟨c4, w1, w2, StC_keep s' m2 c1, stA, LnC_keep s' m3 c2, lA, n3, SeC_keep s' m4 c3, sA, n6⟩⟩
        · rw [if_neg hwu, upr_ne (by omega)]
          have ho := ml_ot u hu w hw hwu
          unfold mlO at ho
          rw [Bool.and_eq_true, Bool.and_eq_true, Bool.and_eq_true] at ho
          obtain ⟨p1, p2, p3, p4⟩ := ho
          have e4' : σ1 4 w = σ 4 w := noT_row s1 p1 (by decide)
          rw [e4']
          obtain ⟨d1, d2⟩ := hM w hw
          refine ⟨d1, ?_⟩
          rcases d2 with q | ⟨q0, q1, q2, q3, q4, q5, q6, q7, q8, q9, q10⟩
          · exact Or.inl q
          · refine Or.inr ⟨q0, q1, q2, StC_keep s' m2 (StC_keep s1 p2 q3), StA_ext hE.1.spw.2.2.2.1 hE.1.spw.2.2.2.2.1 q1 (fun x x0 x1 => ?_) q4, LnC_keep s' m3 (LnC_keep s1 p3 q5), lO _ _ (by omega) q7.1.2 (L1 _ _ q6), q7, SeC_keep s' m4 (SeC_keep s1 p4 q8), sO _ _ (by omega) q10.1.2 (S1 _ _ q9), q10⟩
            rw [o9 _ (by omega), r 1349 (by decide)]
      · rw [e46, r 1346 (by decide)]; exact w4
      · obtain ⟨p1, p2, p3⟩ := hP.2.1
        refine ⟨by rw [e52, s1 12 0 52 g9]; exact p1, p2, ?_⟩
        rw [s'.row (t := 1350) (i := 0) rfl, r 1350 (by decide)]
        exact p3
  · -- back to a mark
    obtain ⟨q0, q1, q2, q3, q4, q5, q6, q7, q8, q9, q10⟩ := hm a0 a1 b0 h
    have eu : ((a.toNat : Nat) : Int) = a := Int.toNat_of_nonneg a0
    have h51 : σ 1351 0 a = 1 := by rw [← ea (τ := σ) a0, ← (hM a.toNat (by omega)).1]; exact q0
    have hE1 := EnvI_keep s1 rfl hE
    have hM1 := MkI_keep s1 mb_ok hM
    rw [eu] at q4 q6 q9
    refine t_X12_mark (zm := (ms a.toNat).1) (lm := (ms a.toNat).2.1) (sm' := (ms a.toNat).2.2) hE1.1 w1 (by rw [s1.row (t := 1346) (i := 0) rfl]; exact w4) (LnA_keep s1 rfl n2) n3 (SeA_keep s1 rfl n5) n6 (Z01_keep s1 rfl n7) (fun _ _ _ _ => ⟨q1, by rw [s1.row (t := 1349) (i := 0) rfl]; exact q4, LnA_keep s1 rfl q6, q7, SeA_keep s1 rfl q9, q10⟩) (fun hno => ?_) (fun _ _ h => absurd h b0) (fun _ _ _ _ σ' s' lA lO sA zA sO stA e49 e51 e52 => k2 σ' ?_)
    · exfalso
      rcases hno with q | q
      · exact q ⟨a0, a1⟩
      · rw [s1.row (t := 1351) (i := 0) rfl, h51] at q
        exact one_no q.2
    · refine Inv_mono (K := K) (by omega) ⟨n, m, dk, v, e, (ms a.toNat).2.1, (ms a.toNat).2.2, ms, y, (ms a.toNat).1, 0, zs, ⟨EnvI_keep s' rfl hE1, DS_keep s' rfl rfl rfl (DS_keep s1 rfl rfl rfl hD), ⟨LnC_keep s' rfl c2, lA, q7, SeC_keep s' rfl c3, sA, q10, zA⟩, ?_, TpI_keep s' rfl rfl rfl (TpI_keep s1 rfl rfl rfl ⟨t1, t2, t3⟩)⟩, ⟨q1, q2, StC_keep s' rfl c1, stA⟩, ?_, ⟨e52, by decide, fun j j0 j1 => by omega⟩, fun j j0 j1 => by omega, fun j j0 j1 => by omega⟩
      · have hmr : ∀ w : Nat, w < 4 → _ := fun w hw => List.all_eq_true.mp mr_mk w (List.mem_range.mpr hw)
        simp only [Bool.and_eq_true] at hmr
        refine MkI_gen (fun u hu => by rw [noT_row s' (hmr u hu).1 (t := 4) (by decide)]) (fun u hu => ?_) (fun u z hu c => StC_keep s' (hmr u hu).2.1 c) (fun u z hu _ c => by rw [e49]; exact c) (fun u l hu c => LnC_keep s' (hmr u hu).2.2.1 c) (fun u l hu hl c => lO _ _ (by omega) hl c) (fun u s hu c => SeC_keep s' (hmr u hu).2.2.2 c) (fun u s hu hs c => sO _ _ (by omega) hs c) hM1
        rw [e51]
        by_cases e : (u : Int) = a
        · rw [e, upr_at, s1.row (t := 1351) (i := 0) rfl, h51]
        · rw [upr_ne e]
      · obtain ⟨p1, p2, p3, p4, p5⟩ := hP.1
        refine ⟨by rw [s' 5 0 1 rfl]; exact c4, by decide, ?_, ?_, fun j j0 j1 => by omega⟩
        · rw [s'.row (t := 600) (i := 0) rfl, s1.row (t := 600) (i := 0) rfl]; exact p3
        · rw [s'.row (t := 600) (i := 0) rfl, s1.row (t := 600) (i := 0) rfl]; exact p4
end
