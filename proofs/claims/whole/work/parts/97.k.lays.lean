/-! 97.k: the reference lays a shop -/
theorem t_shifts {t o : Nat} {m : Int} {σ : St} {Q : St → Prop} (hs : (shp t).1 = 0) (m0 : 0 ≤ m) (m1 : m ≤ 1000) (hm : 2 * m ≤ ((shp t).2 : Int))
    (k : ∀ σ', Sm [(t, o, none)] σ σ' → (∀ x : Int, 0 ≤ x → x < m → σ' t o x = σ t o (m + x)) → Q σ') : P_X12_shifts t o m σ Q := by
  unfold P_X12_shifts
  have inr : ∀ x : Int, inR [(t, o, none)] t o x = true := fun x => inm (List.mem_singleton.mpr rfl)
  refine loopI (X := St) (F := fun n' i τ => P_X12_shifts_L2 t o m Q n' i τ) (N := m) (fun i τ => Sm [(t, o, none)] σ τ ∧ (∀ x : Int, 0 ≤ x → x < i → τ t o x = σ t o (m + x)) ∧ ∀ x : Int, i ≤ x → τ t o x = σ t o x) ?_ ?_ m.toNat 0 σ FU (Int.le_refl 0) (by omega) (FU_pos (by omega)) ⟨Sm.rf, fun x h0 h1 => by omega, fun _ _ => rfl⟩
  · rintro n' i τ i0 i1 ⟨h1, h2, h3⟩ kk
    show P_X12_shifts_L2 t o m Q (n' + 1) i τ
    unfold P_X12_shifts_L2
    rw [if_neg (by omega), wi_id (z := m + i) (by omega) (by omega), wi_id (z := i + 1) (by omega) (by omega)]
    refine ⟨hs, by omega, by omega, hs, i0, by omega, kk _ ⟨Sm_up h1 (inr i), fun x x0 x1 => ?_, fun x x0 => ?_⟩⟩
    · by_cases e : x = i
      · rw [e, up_at, h3 _ (by omega)]
      · rw [up_nx e]; exact h2 x x0 (by omega)
    · rw [up_nx (by omega)]; exact h3 x (by omega)
  · rintro n' τ ⟨h1, h2, h3⟩
    show P_X12_shifts_L2 t o m Q (n' + 1) m τ
    unfold P_X12_shifts_L2
    rw [if_pos (Int.le_refl _)]
    exact k τ h1 h2
theorem t_shiftsN {t o : Nat} {m : Int} {σ : St} {Q : St → Prop} (hs : (shp t).1 = 1) (m0 : 0 ≤ m) (m1 : m ≤ 1000) (hm : 2 * m ≤ ((shp t).2 : Int))
    (k : ∀ σ', Sm [(t, o, none)] σ σ' → (∀ x : Int, 0 ≤ x → x < m → σ' t o x = σ t o (m + x)) → Q σ') : P_X12_shiftsNames t o m σ Q := by
  unfold P_X12_shiftsNames
  have inr : ∀ x : Int, inR [(t, o, none)] t o x = true := fun x => inm (List.mem_singleton.mpr rfl)
  refine loopI (X := St) (F := fun n' i τ => P_X12_shiftsNames_L2 t o m Q n' i τ) (N := m) (fun i τ => Sm [(t, o, none)] σ τ ∧ (∀ x : Int, 0 ≤ x → x < i → τ t o x = σ t o (m + x)) ∧ ∀ x : Int, i ≤ x → τ t o x = σ t o x) ?_ ?_ m.toNat 0 σ FU (Int.le_refl 0) (by omega) (FU_pos (by omega)) ⟨Sm.rf, fun x h0 h1 => by omega, fun _ _ => rfl⟩
  · rintro n' i τ i0 i1 ⟨h1, h2, h3⟩ kk
    show P_X12_shiftsNames_L2 t o m Q (n' + 1) i τ
    unfold P_X12_shiftsNames_L2
    rw [if_neg (by omega), wi_id (z := m + i) (by omega) (by omega), wi_id (z := i + 1) (by omega) (by omega)]
    refine ⟨hs, by omega, by omega, hs, i0, by omega, kk _ ⟨Sm_up h1 (inr i), fun x x0 x1 => ?_, fun x x0 => ?_⟩⟩
    · by_cases e : x = i
      · rw [e, up_at, h3 _ (by omega)]
      · rw [up_nx e]; exact h2 x x0 (by omega)
    · rw [up_nx (by omega)]; exact h3 x (by omega)
  · rintro n' τ ⟨h1, h2, h3⟩
    show P_X12_shiftsNames_L2 t o m Q (n' + 1) m τ
    unfold P_X12_shiftsNames_L2
    rw [if_pos (Int.le_refl _)]
    exact k τ h1 h2
def laA : List Reg := [(1310, 0, none), (1311, 0, none), (1312, 0, none), (1313, 0, none), (1314, 0, none), (1315, 0, none), (1316, 0, none), (1317, 0, none), (1318, 0, none), (1319, 0, none), (1320, 0, none), (1321, 0, none)]
/-- the draft d stands in force in the reference, the rail aside -/
def LyA (σ : St) (d : Dr) : Prop :=
  (σ 1310 0 0 = d.1 0 0 ∧ σ 1310 0 1 = d.1 0 1 ∧ σ 1310 0 2 = d.1 0 3 ∧ σ 1310 0 3 = d.1 0 2) ∧
  (∀ i : Int, 0 ≤ i → i < d.1 0 0 → σ 1311 0 i = d.1 1 i ∧ σ 1313 0 i = d.1 2 i ∧ σ 1314 0 i = d.1 3 i) ∧
  (∀ b : Int, 0 ≤ b → b < d.1 0 1 → σ 1312 0 b = d.1 4 b ∧ σ 1315 0 b = d.1 5 b ∧ σ 1316 0 b = d.1 6 b ∧ σ 1317 0 b = d.1 7 b) ∧
  (∀ i : Int, 0 ≤ i → i < d.1 0 2 → σ 1318 0 i = d.1 8 i) ∧ σ 1319 0 0 = 0 ∧ σ 1320 0 0 = d.2.2.2.2.1.length ∧ CM σ d.2.2.2.2.1 0
theorem t_laysShop {y : Tp} {σ : St} {d : Dr} {Q : St → Prop} (hV : WfD y d) (hD : DrA σ d) (hl : (d.2.2.2.2.1.length : Int) ≤ 1000) (k : ∀ σ', Sm laA σ σ' → LyA σ' d → Q σ') : P_X12_lays σ Q := by
  obtain ⟨⟨q1, q2, q3, q4, q5⟩, qn, qc, qb, qB, qd, ql, qr, qC⟩ := hD
  obtain ⟨v1, v2, v3, v4, -⟩ := id hV
  unfold P_X12_lays
  refine t_shifts rfl (by decide) (by decide) (by decide) (fun a0 s0 r0 => ?_)
  refine t_shiftsN rfl (by decide) (by decide) (by decide) (fun a1 s1 r1 => ?_)
  refine t_shiftsN rfl (by decide) (by decide) (by decide) (fun a2 s2 r2 => ?_)
  refine t_shifts rfl (by decide) (by decide) (by decide) (fun a3 s3 r3 => ?_)
  refine t_shifts rfl (by decide) (by decide) (by decide) (fun a4 s4 r4 => ?_)
  refine t_shifts rfl (by decide) (by decide) (by decide) (fun a5 s5 r5 => ?_)
  refine t_shifts rfl (by decide) (by decide) (by decide) (fun a6 s6 r6 => ?_)
  refine t_shifts rfl (by decide) (by decide) (by decide) (fun a7 s7 r7 => ?_)
  refine t_shifts rfl (by decide) (by decide) (by decide) (fun a8 s8 r8 => ?_)
  refine t_shifts rfl (by decide) (by decide) (by decide) (fun a9 s9 r9 => ?_)
  have e19 : a9 1319 0 1 = 1000 := by rw [s9.row (t := 1319) (i := 0) rfl, s8.row (t := 1319) (i := 0) rfl, s7.row (t := 1319) (i := 0) rfl, s6.row (t := 1319) (i := 0) rfl, s5.row (t := 1319) (i := 0) rfl, s4.row (t := 1319) (i := 0) rfl, s3.row (t := 1319) (i := 0) rfl, s2.row (t := 1319) (i := 0) rfl, s1.row (t := 1319) (i := 0) rfl, s0.row (t := 1319) (i := 0) rfl, ql]
  have e20 : a9 1320 0 1 = 1000 + d.2.2.2.2.1.length := by rw [s9.row (t := 1320) (i := 0) rfl, s8.row (t := 1320) (i := 0) rfl, s7.row (t := 1320) (i := 0) rfl, s6.row (t := 1320) (i := 0) rfl, s5.row (t := 1320) (i := 0) rfl, s4.row (t := 1320) (i := 0) rfl, s3.row (t := 1320) (i := 0) rfl, s2.row (t := 1320) (i := 0) rfl, s1.row (t := 1320) (i := 0) rfl, s0.row (t := 1320) (i := 0) rfl, qr]
  rw [e19, show wi (1000 - 1000) = 0 from rfl]
  have e20' : (up a9 1319 0 0 0) 1320 0 1 = 1000 + d.2.2.2.2.1.length := by rw [up_nt rfl, e20]
  rw [e20', wi_id (z := 1000 + (d.2.2.2.2.1.length : Int) - 1000) (by omega) (by omega), show 1000 + (d.2.2.2.2.1.length : Int) - 1000 = d.2.2.2.2.1.length by omega]
  have sF : Sm [(1319, 0, none), (1320, 0, none)] a9 (up (up a9 1319 0 0 0) 1320 0 0 (d.2.2.2.2.1.length)) := Sm_up (Sm_up Sm.rf rfl) rfl
  have f19 : (up (up a9 1319 0 0 0) 1320 0 0 (d.2.2.2.2.1.length)) 1319 0 0 = 0 := by rw [up_nt rfl, up_at]
  have f20 : (up (up a9 1319 0 0 0) 1320 0 0 (d.2.2.2.2.1.length)) 1320 0 0 = d.2.2.2.2.1.length := up_at
  generalize (up (up a9 1319 0 0 0) 1320 0 0 (d.2.2.2.2.1.length)) = τ at sF f19 f20
  have b : ∀ {A : List Reg} {x z : St}, Sm A x z → A.all (fun a => laA.any (fun b => Nat.beq a.1 b.1 && (Nat.beq a.2.1 b.2.1 && (match b.2.2 with | none => true | some y => match a.2.2 with | none => false | some x => decide (x = y))))) = true → Sm laA x z := fun h hm => mem_sub hm h
  refine k τ ((((((((((((mem_sub (B := laA) rfl s0).tr (mem_sub (B := laA) rfl s1)).tr (mem_sub (B := laA) rfl s2)).tr (mem_sub (B := laA) rfl s3)).tr (mem_sub (B := laA) rfl s4)).tr (mem_sub (B := laA) rfl s5)).tr (mem_sub (B := laA) rfl s6)).tr (mem_sub (B := laA) rfl s7)).tr (mem_sub (B := laA) rfl s8)).tr (mem_sub (B := laA) rfl s9)).tr (mem_sub (B := laA) rfl sF))) ?_
  have g10 : τ 1310 0 = a0 1310 0 := by rw [sF.row (t := 1310) (i := 0) rfl, s9.row (t := 1310) (i := 0) rfl, s8.row (t := 1310) (i := 0) rfl, s7.row (t := 1310) (i := 0) rfl, s6.row (t := 1310) (i := 0) rfl, s5.row (t := 1310) (i := 0) rfl, s4.row (t := 1310) (i := 0) rfl, s3.row (t := 1310) (i := 0) rfl, s2.row (t := 1310) (i := 0) rfl, s1.row (t := 1310) (i := 0) rfl]
  have g11 : τ 1311 0 = a1 1311 0 := by rw [sF.row (t := 1311) (i := 0) rfl, s9.row (t := 1311) (i := 0) rfl, s8.row (t := 1311) (i := 0) rfl, s7.row (t := 1311) (i := 0) rfl, s6.row (t := 1311) (i := 0) rfl, s5.row (t := 1311) (i := 0) rfl, s4.row (t := 1311) (i := 0) rfl, s3.row (t := 1311) (i := 0) rfl, s2.row (t := 1311) (i := 0) rfl]
  have g12 : τ 1312 0 = a2 1312 0 := by rw [sF.row (t := 1312) (i := 0) rfl, s9.row (t := 1312) (i := 0) rfl, s8.row (t := 1312) (i := 0) rfl, s7.row (t := 1312) (i := 0) rfl, s6.row (t := 1312) (i := 0) rfl, s5.row (t := 1312) (i := 0) rfl, s4.row (t := 1312) (i := 0) rfl, s3.row (t := 1312) (i := 0) rfl]
  have g13 : τ 1313 0 = a3 1313 0 := by rw [sF.row (t := 1313) (i := 0) rfl, s9.row (t := 1313) (i := 0) rfl, s8.row (t := 1313) (i := 0) rfl, s7.row (t := 1313) (i := 0) rfl, s6.row (t := 1313) (i := 0) rfl, s5.row (t := 1313) (i := 0) rfl, s4.row (t := 1313) (i := 0) rfl]
  have g14 : τ 1314 0 = a4 1314 0 := by rw [sF.row (t := 1314) (i := 0) rfl, s9.row (t := 1314) (i := 0) rfl, s8.row (t := 1314) (i := 0) rfl, s7.row (t := 1314) (i := 0) rfl, s6.row (t := 1314) (i := 0) rfl, s5.row (t := 1314) (i := 0) rfl]
  have g15 : τ 1315 0 = a5 1315 0 := by rw [sF.row (t := 1315) (i := 0) rfl, s9.row (t := 1315) (i := 0) rfl, s8.row (t := 1315) (i := 0) rfl, s7.row (t := 1315) (i := 0) rfl, s6.row (t := 1315) (i := 0) rfl]
  have g16 : τ 1316 0 = a6 1316 0 := by rw [sF.row (t := 1316) (i := 0) rfl, s9.row (t := 1316) (i := 0) rfl, s8.row (t := 1316) (i := 0) rfl, s7.row (t := 1316) (i := 0) rfl]
  have g17 : τ 1317 0 = a7 1317 0 := by rw [sF.row (t := 1317) (i := 0) rfl, s9.row (t := 1317) (i := 0) rfl, s8.row (t := 1317) (i := 0) rfl]
  have g18 : τ 1318 0 = a8 1318 0 := by rw [sF.row (t := 1318) (i := 0) rfl, s9.row (t := 1318) (i := 0) rfl]
  have g21 : τ 1321 0 = a9 1321 0 := sF.row rfl
  have c11 : ∀ x : Int, a0 1311 0 x = σ 1311 0 x := fun x => by rw [s0.row (t := 1311) (i := 0) rfl]
  have c12 : ∀ x : Int, a1 1312 0 x = σ 1312 0 x := fun x => by rw [s1.row (t := 1312) (i := 0) rfl, s0.row (t := 1312) (i := 0) rfl]
  have c13 : ∀ x : Int, a2 1313 0 x = σ 1313 0 x := fun x => by rw [s2.row (t := 1313) (i := 0) rfl, s1.row (t := 1313) (i := 0) rfl, s0.row (t := 1313) (i := 0) rfl]
  have c14 : ∀ x : Int, a3 1314 0 x = σ 1314 0 x := fun x => by rw [s3.row (t := 1314) (i := 0) rfl, s2.row (t := 1314) (i := 0) rfl, s1.row (t := 1314) (i := 0) rfl, s0.row (t := 1314) (i := 0) rfl]
  have c15 : ∀ x : Int, a4 1315 0 x = σ 1315 0 x := fun x => by rw [s4.row (t := 1315) (i := 0) rfl, s3.row (t := 1315) (i := 0) rfl, s2.row (t := 1315) (i := 0) rfl, s1.row (t := 1315) (i := 0) rfl, s0.row (t := 1315) (i := 0) rfl]
  have c16 : ∀ x : Int, a5 1316 0 x = σ 1316 0 x := fun x => by rw [s5.row (t := 1316) (i := 0) rfl, s4.row (t := 1316) (i := 0) rfl, s3.row (t := 1316) (i := 0) rfl, s2.row (t := 1316) (i := 0) rfl, s1.row (t := 1316) (i := 0) rfl, s0.row (t := 1316) (i := 0) rfl]
  have c17 : ∀ x : Int, a6 1317 0 x = σ 1317 0 x := fun x => by rw [s6.row (t := 1317) (i := 0) rfl, s5.row (t := 1317) (i := 0) rfl, s4.row (t := 1317) (i := 0) rfl, s3.row (t := 1317) (i := 0) rfl, s2.row (t := 1317) (i := 0) rfl, s1.row (t := 1317) (i := 0) rfl, s0.row (t := 1317) (i := 0) rfl]
  have c18 : ∀ x : Int, a7 1318 0 x = σ 1318 0 x := fun x => by rw [s7.row (t := 1318) (i := 0) rfl, s6.row (t := 1318) (i := 0) rfl, s5.row (t := 1318) (i := 0) rfl, s4.row (t := 1318) (i := 0) rfl, s3.row (t := 1318) (i := 0) rfl, s2.row (t := 1318) (i := 0) rfl, s1.row (t := 1318) (i := 0) rfl, s0.row (t := 1318) (i := 0) rfl]
  have c21 : ∀ x : Int, a8 1321 0 x = σ 1321 0 x := fun x => by rw [s8.row (t := 1321) (i := 0) rfl, s7.row (t := 1321) (i := 0) rfl, s6.row (t := 1321) (i := 0) rfl, s5.row (t := 1321) (i := 0) rfl, s4.row (t := 1321) (i := 0) rfl, s3.row (t := 1321) (i := 0) rfl, s2.row (t := 1321) (i := 0) rfl, s1.row (t := 1321) (i := 0) rfl, s0.row (t := 1321) (i := 0) rfl]
  unfold LyA
  rw [g10, g11, g12, g13, g14, g15, g16, g17, g18]
  refine ⟨⟨?_, ?_, ?_, ?_⟩, fun i i0 i1 => ⟨?_, ?_, ?_⟩, fun i i0 i1 => ⟨?_, ?_, ?_, ?_⟩, fun i i0 i1 => ?_, f19, f20, fun j hj => ?_⟩
  · rw [r0 0 (by decide) (by decide)]; exact q1
  · rw [r0 1 (by decide) (by decide)]; exact q2
  · rw [r0 2 (by decide) (by decide)]; exact q4
  · rw [r0 3 (by decide) (by decide)]; exact q3
  · rw [r1 i i0 (by omega), c11]; exact qn i i0 i1
  · rw [r3 i i0 (by omega), c13]; exact (qc i i0 i1).1
  · rw [r4 i i0 (by omega), c14]; exact (qc i i0 i1).2
  · rw [r2 i i0 (by omega), c12]; exact qb i i0 i1
  · rw [r5 i i0 (by omega), c15]; exact (qB i i0 i1).1
  · rw [r6 i i0 (by omega), c16]; exact (qB i i0 i1).2.1
  · rw [r7 i i0 (by omega), c17]; exact (qB i i0 i1).2.2
  · rw [r8 i i0 (by omega), c18]; exact qd i i0 i1
  · rw [g21, Int.zero_add, r9 _ (by omega) (by omega), c21]
    exact qC.2 j hj
/-! the rail by rank -/
def rkW (n : Int) (pl : Int → Int) (c : Int) : Int := cnt (fun x => decide (pl x < pl c)) n.toNat
theorem cnt_sub {p q : Int → Bool} : ∀ i : Nat, (∀ b : Int, 0 ≤ b → b < i → p b = true → q b = true) → cnt p i ≤ cnt q i
  | 0, _ => Int.le_refl _
  | i + 1, h => by
    have := cnt_sub i (fun b b0 b1 => h b b0 (by omega))
    unfold cnt
    have hi := h i (by omega) (by omega)
    cases hp : p i with
    | false =>
      rw [if_neg (by decide)]
      split <;> omega
    | true =>
      rw [if_pos rfl, if_pos (hi hp)]
      omega
theorem cnt_sub1 {p q : Int → Bool} {a : Int} (a0 : 0 ≤ a) : ∀ i : Nat, a < i → (∀ b : Int, 0 ≤ b → b < i → p b = true → q b = true) → p a = false → q a = true → cnt p i + 1 ≤ cnt q i
  | 0, h, _, _, _ => by omega
  | i + 1, ha, h, hp, hq => by
    unfold cnt
    by_cases e : a = i
    · have := cnt_sub (p := p) (q := q) i (fun b b0 b1 => h b b0 (by omega))
      subst e
      rw [hp, hq, if_pos rfl, if_neg (by decide)]
      omega
    · have := cnt_sub1 (p := p) (q := q) a0 i (by omega) (fun b b0 b1 => h b b0 (by omega)) hp hq
      have hi := h i (by omega) (by omega)
      cases hpi : p i with
      | false =>
        rw [if_neg (by decide)]
        split <;> omega
      | true =>
        rw [if_pos rfl, if_pos (hi hpi)]
        omega
theorem rkW_lt {n : Int} {pl : Int → Int} {a c : Int} (a0 : 0 ≤ a) (a1 : a < n) (h : pl a < pl c) : rkW n pl a + 1 ≤ rkW n pl c := by
  refine cnt_sub1 a0 n.toNat (by omega) (fun b b0 b1 hb => decide_eq_true ?_) (decide_eq_false (by omega)) (decide_eq_true h)
  have := of_decide_eq_true hb
  omega
theorem rkW_rng {n : Int} {pl : Int → Int} {c : Int} (c0 : 0 ≤ c) (c1 : c < n) : 0 ≤ rkW n pl c ∧ rkW n pl c < n := by
  have h1 := cnt_nonneg (fun x => decide (pl x < pl c)) n.toNat
  have h2 : cnt (fun x => decide (pl x < pl c)) n.toNat + 1 ≤ cnt (fun _ => true) n.toNat := cnt_sub1 c0 n.toNat (by omega) (fun _ _ _ _ => rfl) (decide_eq_false (by omega)) rfl
  have h3 := cnt_nonneg (fun _ => true) n.toNat
  unfold rkW
  omega
theorem rkW_rail {n : Int} {pl r : Int → Int} (hr : ∀ i : Int, 0 ≤ i → i < n → 0 ≤ r i ∧ r i < n) (hp : ∀ i j : Int, 0 ≤ i → i < j → j < n → pl (r i) < pl (r j)) {i : Int} (i0 : 0 ≤ i) (i1 : i < n) : rkW n pl (r i) = i := by
  have up : ∀ k : Nat, (k : Int) < n → (k : Int) ≤ rkW n pl (r k) := by
    intro k
    induction k with
    | zero => intro h; exact (rkW_rng (hr 0 (Int.le_refl 0) h).1 (hr 0 (Int.le_refl 0) h).2).1
    | succ k ih =>
      intro h
      have h1 := ih (by omega)
      have h2 := hr k (by omega) (by omega)
      have h3 := rkW_lt (n := n) h2.1 h2.2 (hp k (k + 1 : Nat) (by omega) (by omega) h)
      omega
  have dn : ∀ k : Nat, (k : Int) < n → rkW n pl (r (n - 1 - k)) ≤ n - 1 - k := by
    intro k
    induction k with
    | zero =>
      intro h
      have h1 := hr (n - 1) (by omega) (by omega)
      have h2 := (rkW_rng (pl := pl) h1.1 h1.2).2
      have e : n - 1 - ((0 : Nat) : Int) = n - 1 := by omega
      rw [e]
      omega
    | succ k ih =>
      intro h
      have h1 := ih (by omega)
      have h2 := hr (n - 1 - (k + 1 : Nat)) (by omega) (by omega)
      have h3 := rkW_lt (n := n) h2.1 h2.2 (hp (n - 1 - (k + 1 : Nat)) (n - 1 - k) (by omega) (by omega) (by omega))
      omega
  have a := up i.toNat (by omega)
  have b := dn (n - 1 - i).toNat (by omega)
  rw [Int.toNat_of_nonneg i0] at a
  rw [Int.toNat_of_nonneg (by omega), show n - 1 - (n - 1 - i) = i by omega] at b
  omega
theorem t_laysRail {σ : St} {n : Int} {pl : Int → Int} {Q : St → Prop} (hn : σ 1310 0 0 = n) (n0 : 0 ≤ n) (n6 : n ≤ 6) (hpl : ∀ i : Int, 0 ≤ i → i < n → σ 1313 0 i = pl i) (hne : ∀ i j : Int, 0 ≤ i → i < j → j < n → pl i ≠ pl j)
    (k : ∀ σ', Sm [(1353, 0, none)] σ σ' → (∀ c : Int, 0 ≤ c → c < n → σ' 1353 0 (rkW n pl c) = c) → Q σ') : P_X12_laysRail σ Q := by
  unfold P_X12_laysRail
  refine loopI (X := St) (F := fun n' i τ => P_X12_laysRail_L2 Q n' i τ) (N := n) (fun i τ => Sm [(1353, 0, none)] σ τ ∧ ∀ c : Int, 0 ≤ c → c < i → τ 1353 0 (rkW n pl c) = c) ?_ ?_ n.toNat 0 σ FU (Int.le_refl 0) (by omega) (FU_pos (by omega)) ⟨Sm.rf, fun x h0 h1 => by omega⟩
  · rintro n' i τ i0 i1 ⟨h1, h2⟩ kk
    show P_X12_laysRail_L2 Q (n' + 1) i τ
    have en : τ 1310 0 0 = n := by rw [h1.row (t := 1310) (i := 0) rfl, hn]
    have ep : ∀ j : Int, 0 ≤ j → j < n → τ 1313 0 j = pl j := fun j j0 j1 => by rw [h1.row (t := 1313) (i := 0) rfl]; exact hpl j j0 j1
    unfold P_X12_laysRail_L2
    rw [en, if_neg (by omega), wi_id (z := i + 1) (by omega) (by omega)]
    have hrk := rkW_rng (n := n) (pl := pl) i0 i1
    refine loopI (X := Int) (F := fun m j x => P_X12_laysRail_L16 i (fun x2_1 σ_2 => 0 ≤ x2_1 ∧ x2_1 < 6 ∧ (P_X12_laysRail_L2 Q n') (i + 1) (up σ_2 1353 0 x2_1 i)) Q m x j τ) (N := n) (fun j x => x = cnt (fun c => decide (pl c < pl i)) j.toNat) ?_ ?_ n.toNat 0 0 FU (Int.le_refl 0) (by omega) (FU_pos (by omega)) rfl
    · rintro m j x j0 j1 hx kj
      have hc := cnt_nonneg (fun c => decide (pl c < pl i)) j.toNat
      show P_X12_laysRail_L16 i _ Q (m + 1) x j τ
      unfold P_X12_laysRail_L16
      rw [en, if_neg (by omega), ep i i0 i1, ep j j0 j1, wi_id (z := j + 1) (by omega) (by omega), wi_id (z := x + 0) (by omega) (by omega), wi_id (z := x + 1) (by omega) (by omega)]
      refine ⟨j0, by omega, i0, by omega, ?_⟩
      by_cases hle : pl i ≤ pl j
      · rw [if_pos hle]
        refine kj _ ?_
        rw [cnt_i j0, if_neg (show ¬ decide (pl j < pl i) = true from fun q => by have := of_decide_eq_true q; omega), ← hx]
      · rw [if_neg hle]
        refine kj _ ?_
        rw [cnt_i j0, if_pos (show decide (pl j < pl i) = true from decide_eq_true (by omega)), ← hx]
    · rintro m x hx
      show P_X12_laysRail_L16 i _ Q (m + 1) x n τ
      unfold P_X12_laysRail_L16
      rw [en, if_pos (Int.le_refl _)]
      have hx : x = rkW n pl i := hx
      rw [hx]
      refine ⟨hrk.1, by omega, kk _ ⟨Sm_up h1 rfl, fun c c0 c1 => ?_⟩⟩
      by_cases e : c = i
      · rw [e, up_at]
      · have hne' : rkW n pl c ≠ rkW n pl i := by
          have hd := hne c i c0 (by omega) i1
          rcases Int.lt_or_gt_of_ne hd with q | q
          · have := rkW_lt (n := n) c0 (by omega) q; omega
          · have := rkW_lt (n := n) i0 i1 q; omega
        rw [up_nx hne']
        exact h2 c c0 (by omega)
  · rintro n' τ ⟨h1, h2⟩
    show P_X12_laysRail_L2 Q (n' + 1) n τ
    have en : τ 1310 0 0 = n := by rw [h1.row (t := 1310) (i := 0) rfl, hn]
    unfold P_X12_laysRail_L2
    rw [en, if_pos (Int.le_refl _)]
    exact k τ h1 h2
