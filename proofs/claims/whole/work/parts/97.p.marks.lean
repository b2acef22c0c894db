/-! 97.p: marks -/
section
variable {n m dk : Int} {z : Ab} {σ : St}
theorem t_X11_mark {a b : Int} {l lm : Ln} {s sm' : Sn} {zm : Ab} {Q : Int → St → Prop} (hX : Cxt n m dk σ) (hW : WfZ n m dk z) (hC : StC n m σ 0 z) (hl : LnC σ 0 l) (hwl : WfL n m l) (hy : SeC σ 0 s) (hwy : WfS n s)
    (hm : 0 ≤ a → a ≤ 3 → b ≠ 0 → σ 4 a.toNat 3 ≠ 0 → WfZ n m dk zm ∧ StC n m σ (a.toNat + 18) zm ∧ LnC σ (a.toNat + 2) lm ∧ WfL n m lm ∧ SeC σ (a.toNat + 1) sm' ∧ WfS n sm')
    (k0 : ¬ (0 ≤ a ∧ a ≤ 3) ∨ (b ≠ 0 ∧ σ 4 a.toNat 3 = 0) → Q 0 σ)
    (k1 : 0 ≤ a → a ≤ 3 → b = 0 → ∀ σ', Sm (mlA a.toNat) σ σ' → StC n m σ' (a.toNat + 18) z → LnC σ' (a.toNat + 2) l → SeC σ' (a.toNat + 1) s → σ' 4 a.toNat 3 = 1 → Q 1 σ')
    (k2 : 0 ≤ a → a ≤ 3 → b ≠ 0 → σ 4 a.toNat 3 ≠ 0 → ∀ σ', Sm mbA σ σ' → StC n m σ' 0 zm → LnC σ' 0 lm → SeC σ' 0 sm' → σ' 5 0 1 = 0 → Q 1 σ') : P_X11_mark a b σ Q := by
  unfold P_X11_mark
  refine t_X11_within (fun p q => ?_) (fun hno => ?_)
  · rw [if_neg one_no]
    by_cases hb : b = 0
    · rw [if_pos hb]
      exact ⟨p, by omega, t_X4_lay hX hW hC hl hwl hy hwy (fun σ' s' c1 c2 c3 c4 => k1 p q hb σ' s' c1 c2 c3 c4)⟩
    · rw [if_neg hb]
      refine ⟨p, by omega, ?_⟩
      by_cases hz : σ 4 a.toNat 3 = 0
      · rw [if_pos hz]
        exact k0 (Or.inr ⟨hb, hz⟩)
      · rw [if_neg hz]
        obtain ⟨m1, m2, m3, m4, m5, m6⟩ := hm p q hb hz
        refine ⟨p, by omega, t_X4_goBack hX m1 m2 m3 m4 m5 m6 (fun σ' s' c1 c2 c3 => ?_)⟩
        have su : Sm [(5, 0, some 1)] σ' (up σ' 5 0 1 0) := Sm_up Sm.rf rfl
        exact k2 p q hb hz _ ((mem_sub (B := mbA) rfl s').tr (mem_sub (B := mbA) rfl su)) (StC_keep su rfl c1) (LnC_keep su rfl c2) (SeC_row (fun t ht => su.row (by
          simp only [List.mem_cons, List.not_mem_nil, or_false] at ht
          rcases ht with rfl | rfl | rfl | rfl <;> rfl)) c3) up_at
  · rw [if_pos rfl]
    exact k0 (Or.inl hno)
theorem StA_cg {R R' : Int → Int} (hm : 0 ≤ m ∧ m ≤ 6) (hn : 0 ≤ n ∧ n ≤ 6) (hz : zMany z ≤ 6) (h : ∀ j : Int, 0 ≤ j → j < 46 → R' j = R j) (c : StA n m R z) : StA n m R' z := by
  obtain ⟨c0, c1, c2, c3, c4, c5, c6⟩ := c
  unfold StA
  rw [h 0 (by decide) (by decide), h 1 (by decide) (by decide), h 2 (by decide) (by decide), h 3 (by decide) (by decide)]
  refine ⟨c0, c1, c2, c3, fun j j0 j1 => ?_, fun j j0 j1 => ?_, fun b b0 b1 => ?_⟩
  · rw [h _ (by omega) (by omega)]; exact c4 j j0 j1
  · rw [h _ (by omega) (by omega)]; exact c5 j j0 j1
  · rw [h _ (by omega) (by omega), h _ (by omega) (by omega), h _ (by omega) (by omega), h _ (by omega) (by omega), h _ (by omega) (by omega)]
    exact c6 b b0 b1
def mrA : List Reg := [(12, 0, some 0), (12, 0, some 52), (1338, 0, none), (1339, 0, none), (1340, 0, none), (1341, 0, none), (1342, 0, none), (1343, 0, none), (1344, 0, none), (1345, 0, none), (1346, 0, none), (1349, 0, none), (1351, 0, none)]
theorem t_X12_mark {a b : Int} {l lm : Ln} {s sm' : Sn} {zm : Ab} {Q : Int → St → Prop} (hX : Cxt n m dk σ) (hW : WfZ n m dk z) (hC : StA n m (σ 1346 0) z) (hl : LnA σ 0 l) (hwl : WfL n m l) (hy : SeA σ 0 s) (hwy : WfS n s) (hZ : Z01 σ)
    (hm : 0 ≤ a → a ≤ 3 → b ≠ 0 → σ 1351 0 a ≠ 0 → WfZ n m dk zm ∧ StA n m (fun x => σ 1349 0 (46 * a + x)) zm ∧ LnA σ (1 + a) lm ∧ WfL n m lm ∧ SeA σ (1 + a) sm' ∧ WfS n sm')
    (k0 : ¬ (0 ≤ a ∧ a ≤ 3) ∨ (b ≠ 0 ∧ σ 1351 0 a = 0) → ∀ σ', Sm [(12, 0, some 0)] σ σ' → Q 0 σ')
    (k1 : 0 ≤ a → a ≤ 3 → b = 0 → ∀ σ', Sm mrA σ σ' → LnA σ' (1 + a) l → (∀ (w : Int) (l' : Ln), w ≠ 1 + a → l'.1 ≤ 40 → LnA σ w l' → LnA σ' w l') → SeA σ' (1 + a) s → Z01 σ' → (∀ (w : Int) (y' : Sn), w ≠ 1 + a → y'.1 ≤ 8 → SeA σ w y' → SeA σ' w y') →
      StA n m (fun x => σ' 1349 0 (46 * a + x)) z → (∀ x : Int, x < 46 * a ∨ 46 * a + 46 ≤ x → σ' 1349 0 x = σ 1349 0 x) → σ' 1351 0 = upr (σ 1351 0) a 1 → σ' 1346 0 = σ 1346 0 → σ' 12 0 52 = σ 12 0 52 → Q 1 σ')
    (k2 : 0 ≤ a → a ≤ 3 → b ≠ 0 → σ 1351 0 a ≠ 0 → ∀ σ', Sm mrA σ σ' → LnA σ' 0 lm → (∀ (w : Int) (l' : Ln), w ≠ 0 → l'.1 ≤ 40 → LnA σ w l' → LnA σ' w l') → SeA σ' 0 sm' → Z01 σ' → (∀ (w : Int) (y' : Sn), w ≠ 0 → y'.1 ≤ 8 → SeA σ w y' → SeA σ' w y') →
      StA n m (σ' 1346 0) zm → σ' 1349 0 = σ 1349 0 → σ' 1351 0 = upr (σ 1351 0) a 1 → σ' 12 0 52 = 0 → Q 1 σ') : P_X12_mark a b σ Q := by
  have m6 := hX.spw.2.2.2.2.1
  have n6 := hX.spw.2.2.2.1
  have many : ∀ {z : Ab}, WfZ n m dk z → zMany z ≤ 6 := fun h => by have := h.many m6.1; omega
  unfold P_X12_mark
  have su : Sm [(12, 0, some 0)] σ (up σ 12 0 0 0) := Sm_up Sm.rf rfl
  refine t_X12_within (fun p q => ?_) (fun hno => ?_)
  · rw [if_neg one_no]
    have w1 : wi (1 + a) = 1 + a := wi_id (by omega) (by omega)
    have w46 : wi (46 * a) = 46 * a := wi_id (by omega) (by omega)
    have sv : Sm [(12, 0, some 0), (1351, 0, none)] σ (up (up σ 12 0 0 0) 1351 0 a 1) := Sm_up (mem_sub rfl su) rfl
    have rv : (up (up σ 12 0 0 0) 1351 0 a 1) 1351 0 = upr (σ 1351 0) a 1 := by rw [up_row, up_oth (Or.inl rfl)]
    by_cases hb : b = 0
    · rw [if_pos hb]
      unfold P_X12_mark_J29
      refine ⟨p, by omega, ?_⟩
      rw [if_pos hb]
      unfold P_X12_mark_J47
      rw [if_pos hb, w1]
      unfold P_X12_mark_J59
      generalize (up (up σ 12 0 0 0) 1351 0 a 1) = σ1 at sv rv
      refine t_X12_laysLines (by decide) (by decide) (by omega) (by omega) (by omega) (LnA_keep sv rfl hl) hwl.1.2 (fun σ2 s2 c2 o2 => ?_)
      refine t_X12_laysSeen (by decide) (by decide) (by omega) (by omega) (by omega) (SeA_keep s2 rfl (SeA_keep sv rfl hy)) hwy.1.2 (fun x x0 x1 => by rw [s2.row (t := 1345) (i := 0) rfl, sv.row (t := 1345) (i := 0) rfl]; exact hZ x x0 x1) (fun σ3 s3 c3 z3 o3 => ?_)
      rw [if_pos hb, w46]
      refine t_X12_copies rfl rfl (by decide) (by decide) (by omega) (by omega) (by decide) (by decide) rfl (fun σ4 s4 c4 o4 => ?_)
      have s13 : Sm [(1338, 0, none), (1339, 0, none), (1340, 0, none), (1341, 0, none), (1342, 0, none), (1343, 0, none), (1344, 0, none), (1345, 0, none)] σ1 σ3 := (mem_sub rfl s2).tr (mem_sub rfl s3)
      have e46 : σ3 1346 0 = σ 1346 0 := by rw [s13.row (t := 1346) (i := 0) rfl, sv.row (t := 1346) (i := 0) rfl]
      refine k1 p q hb σ4 (((mem_sub (B := mrA) rfl sv).tr (mem_sub (B := mrA) rfl s13)).tr (mem_sub (B := mrA) rfl s4)) (LnA_keep s4 rfl (LnA_keep s3 rfl c2)) (fun w l' hw hl' h => LnA_keep s4 rfl (LnA_keep s3 rfl (o2 w l' hw hl' (LnA_keep sv rfl h)))) (SeA_keep s4 rfl c3) (fun x x0 x1 => by rw [s4.row (t := 1345) (i := 0) rfl]; exact z3 x x0 x1) (fun w y' hw hy' h => SeA_keep s4 rfl (o3 w y' hw hy' (SeA_keep s2 rfl (SeA_keep sv rfl h)))) ?_ (fun x hx => ?_) ?_ ?_ ?_
      · refine StA_cg m6 n6 (many hW) (fun j j0 j1 => ?_) hC
        show σ4 1349 0 (46 * a + j) = _
        rw [c4 j j0 j1, e46, Int.zero_add]
      · rw [o4 x hx, s13.row (t := 1349) (i := 0) rfl, sv.row (t := 1349) (i := 0) rfl]
      · rw [s4.row (t := 1351) (i := 0) rfl, s13.row (t := 1351) (i := 0) rfl, rv]
      · rw [s4.row (t := 1346) (i := 0) rfl, e46]
      · rw [s4 12 0 52 rfl, s13 12 0 52 rfl, sv 12 0 52 rfl]
    · rw [if_neg hb]
      refine ⟨p, by omega, ?_⟩
      have e51 : (up σ 12 0 0 0) 1351 0 a = σ 1351 0 a := up_nt rfl
      rw [e51]
      by_cases hz : σ 1351 0 a = 0
      · rw [if_pos hz]
        exact k0 (Or.inr ⟨hb, hz⟩) _ su
      · rw [if_neg hz]
        obtain ⟨h1, h2, h3, h4, h5, h6⟩ := hm p q hb hz
        unfold P_X12_mark_J29
        refine ⟨p, by omega, ?_⟩
        rw [if_neg hb, w1]
        unfold P_X12_mark_J47
        rw [if_neg hb]
        unfold P_X12_mark_J59
        generalize (up (up σ 12 0 0 0) 1351 0 a 1) = σ1 at sv rv
        refine t_X12_laysLines (by omega) (by omega) (by decide) (by decide) (by omega) (LnA_keep sv rfl h3) h4.1.2 (fun σ2 s2 c2 o2 => ?_)
        refine t_X12_laysSeen (by omega) (by omega) (by decide) (by decide) (by omega) (SeA_keep s2 rfl (SeA_keep sv rfl h5)) h6.1.2 (fun x x0 x1 => by rw [s2.row (t := 1345) (i := 0) rfl, sv.row (t := 1345) (i := 0) rfl]; exact hZ x x0 x1) (fun σ3 s3 c3 z3 o3 => ?_)
        rw [if_neg hb, w46]
        refine t_X12_copies rfl rfl (by omega) (by omega) (by decide) (by decide) (by decide) (by decide) rfl (fun σ4 s4 c4 o4 => ?_)
        have s13 : Sm [(1338, 0, none), (1339, 0, none), (1340, 0, none), (1341, 0, none), (1342, 0, none), (1343, 0, none), (1344, 0, none), (1345, 0, none)] σ1 σ3 := (mem_sub rfl s2).tr (mem_sub rfl s3)
        have s5 : Sm [(12, 0, some 52)] σ4 (up σ4 12 0 52 0) := Sm_up Sm.rf rfl
        have s45 : Sm [(1346, 0, none), (12, 0, some 52)] σ3 (up σ4 12 0 52 0) := (mem_sub rfl s4).tr (mem_sub rfl s5)
        have e49 : σ3 1349 0 = σ 1349 0 := by rw [s13.row (t := 1349) (i := 0) rfl, sv.row (t := 1349) (i := 0) rfl]
        refine k2 p q hb hz _ (((mem_sub (B := mrA) rfl sv).tr (mem_sub (B := mrA) rfl s13)).tr (mem_sub (B := mrA) rfl s45)) (LnA_keep s45 rfl (LnA_keep s3 rfl c2)) (fun w l' hw hl' h => LnA_keep s45 rfl (LnA_keep s3 rfl (o2 w l' hw hl' (LnA_keep sv rfl h)))) (SeA_keep s45 rfl c3) (fun x x0 x1 => by rw [s45.row (t := 1345) (i := 0) rfl]; exact z3 x x0 x1) (fun w y' hw hy' h => SeA_keep s45 rfl (o3 w y' hw hy' (SeA_keep s2 rfl (SeA_keep sv rfl h)))) ?_ ?_ ?_ up_at
        · rw [up_oth (t' := 1346) (Or.inl rfl)]
          refine StA_cg m6 n6 (many h1) (fun j j0 j1 => ?_) h2
          have := c4 j j0 j1
          rw [Int.zero_add] at this
          rw [this, e49]
        · rw [s45.row (t := 1349) (i := 0) rfl, e49]
        · rw [s45.row (t := 1351) (i := 0) rfl, s13.row (t := 1351) (i := 0) rfl, rv]
  · rw [if_pos rfl]
    exact k0 (Or.inl hno) _ su
end
