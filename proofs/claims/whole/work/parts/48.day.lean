/-! 48: the law's worth, wear, days -/
abbrev V4 : Type := Int → Int → Int → Int → Int
/-- the class's law o is worth v -/
def LwC (v : V4) (σ : St) (o : Nat) : Prop := ∀ (w r e d : Int) (τ : St) (Q : Int → St → Prop), i32 w → i32 r → i32 e → i32 d → τ 2 o 3 = σ 2 o 3 →
  (∀ i : Int, 0 ≤ i → i < σ 2 o 3 → τ 300 o i = σ 300 o i ∧ τ 301 o i = σ 301 o i) → (∀ τ', Sm [(302, o, none)] τ τ' → Q (v w r e d) τ') → P_X2_worth o w r e d τ Q
def lwA : List Reg := [(1326, 0, none), (1327, 0, none), (1328, 0, none), (1329, 0, none), (1330, 0, none), (1331, 0, none), (1332, 0, none), (1333, 0, none), (1334, 0, none)]
/-- the reference's law in force is worth v -/
def LwA (v : V4) (σ : St) : Prop := (σ 1320 0 0 = σ 1319 0 0 → ∀ w r e d, v w r e d = 0) ∧ (∀ w r e d, i32 (v w r e d)) ∧
  ∀ (w r e d : Int) (τ : St) (Q : Int → St → Prop), σ 1320 0 0 ≠ σ 1319 0 0 → i32 w → i32 r → i32 e → i32 d → τ 1319 0 0 = σ 1319 0 0 → τ 1320 0 0 = σ 1320 0 0 →
  (∀ i : Int, σ 1319 0 0 ≤ i → i < σ 1320 0 0 → τ 1321 0 i = σ 1321 0 i) → τ 1335 0 1 = w → τ 1335 0 2 = r → τ 1335 0 3 = e → τ 1335 0 4 = d →
  (∀ τ', Sm lwA τ τ' → Q (v w r e d) τ') → P_X12_worked 0 τ Q
theorem LwC_keep {A : List Reg} {v : V4} {o : Nat} {σ τ : St} (h : Sm A σ τ) (hn : noT A [2, 300, 301] o = true) (c : LwC v σ o) : LwC v τ o := by
  unfold LwC at c ⊢
  rw [noT_row h hn (t := 2) (by decide), noT_row h hn (t := 300) (by decide), noT_row h hn (t := 301) (by decide)]
  exact c
theorem LwA_keep {A : List Reg} {v : V4} {σ τ : St} (h : Sm A σ τ) (hn : noT A [1319, 1320, 1321] 0 = true) (c : LwA v σ) : LwA v τ := by
  unfold LwA at c ⊢
  rw [noT_row h hn (t := 1319) (by decide), noT_row h hn (t := 1320) (by decide), noT_row h hn (t := 1321) (by decide)]
  exact c
def lim (x a b : Int) : Int := max a (min b x)
theorem lim_rng {x a b : Int} (h : a ≤ b) : a ≤ lim x a b ∧ lim x a b ≤ b := by unfold lim; omega
def wearW (kd v : Int) : Int := if kd = 1 then lim (lim v (-9) 9) (-1) 1 else if kd = 2 then 2 * lim v (-9) 9 else lim v (-9) 9
theorem wearW_rng {kd v : Int} : -18 ≤ wearW kd v ∧ wearW kd v ≤ 18 := by
  have := @lim_rng v (-9) 9 (by decide)
  have := @lim_rng (lim v (-9) 9) (-1) 1 (by decide)
  unfold wearW
  split
  · omega
  · split <;> omega
def wornW (kd v w : Int) : Int := lim (w - wearW kd v) 1 60
theorem wornW_rng {kd v w : Int} : 1 ≤ wornW kd v w ∧ wornW kd v w ≤ 60 := lim_rng (by decide)
theorem t_X8_worn {v : V4} {b w r e d : Int} {σ : St} {Q : Int → St → Prop} (hL : LwC v σ 0) (hw : i32 w) (hr : i32 r) (he : i32 e) (hd : i32 d) (hw60 : 1 ≤ w ∧ w ≤ 60) (b0 : 0 ≤ b) (b6 : b < 6)
    (k : ∀ τ', Sm [(302, 0, none)] σ τ' → Q (wornW (σ 904 0 b) (v w r e d) w) τ') : P_X8_worn 0 b w r e d σ Q := by
  unfold P_X8_worn
  refine hL w r e d σ _ hw hr he hd rfl (fun i _ _ => ⟨rfl, rfl⟩) (fun τ s => ?_)
  have ek : τ 904 0 b = σ 904 0 b := by rw [s.row (t := 904) (i := 0) rfl]
  unfold P_X11_limited
  dsimp only
  rw [ek]
  refine ⟨b0, b6, ?_⟩
  have k := k τ s
  unfold wornW wearW at k
  have h1 := @lim_rng (v w r e d) (-9) 9 (by decide)
  have h2 := @lim_rng (lim (v w r e d) (-9) 9) (-1) 1 (by decide)
  split
  · rename_i h
    rw [if_pos h] at k
    unfold P_X8_worn_J60 P_X11_limited
    rw [wi_id (by unfold lim at h2; omega) (by unfold lim at h2; omega)]
    exact k
  · rename_i h
    rw [if_neg h] at k
    refine ⟨b0, b6, ?_⟩
    unfold lim at h1
    split
    · rename_i h'
      rw [if_pos h'] at k
      unfold P_X8_worn_J60 P_X11_limited
      rw [wi_id (z := 2 * _) (by omega) (by omega), wi_id (by omega) (by omega)]
      exact k
    · rename_i h'
      rw [if_neg h'] at k
      unfold P_X8_worn_J60 P_X11_limited
      rw [wi_id (by omega) (by omega)]
      exact k
theorem t_X12_between {x a b : Int} {σ : St} {Q : Int → St → Prop} (h : a ≤ b) (k : Q (lim x a b) σ) : P_X12_between x a b σ Q := by
  unfold P_X12_between
  unfold lim at k
  split
  · split
    · rwa [show max a (min b x) = x by omega] at k
    · rwa [show max a (min b x) = b by omega] at k
  · rwa [show max a (min b x) = a by omega] at k
def weA : List Reg := (1335, 0, none) :: lwA
theorem t_X12_wearOf {v : V4} {n m : Int} {z : Ab} {b e : Int} {σ : St} {Q : Int → St → Prop} (hL : LwA v σ) (hE : ShE σ) (hm : σ 8 0 11 = m) (h6 : m ≤ 6) (hC : StA n m (σ 1346 0) z) (hw : i32 (zSize z b)) (hr : i32 (zRun z b)) (he : i32 e) (hd : i32 (zDay z)) (b0 : 0 ≤ b) (b1 : b < m)
    (k : ∀ τ', Sm weA σ τ' → Q (wearW (σ 904 0 b) (v (zSize z b) (zRun z b) e (zDay z))) τ') : P_X12_wearOf b e σ Q := by
  obtain ⟨hz, hv, hw'⟩ := hL
  obtain ⟨c0, c1, c2, c3, cq, cg, cB⟩ := hC
  obtain ⟨d2, d4, d3, d5, d6⟩ := cB b b0 b1
  unfold P_X12_wearOf
  by_cases h : σ 1320 0 0 = σ 1319 0 0
  · rw [if_pos h]
    have := k σ Sm.rf
    rw [hz h] at this
    have e0 : wearW (σ 904 0 b) 0 = 0 := by
      unfold wearW lim
      split
      · rfl
      · split <;> rfl
    rwa [e0] at this
  · rw [if_neg h, wi_id (z := 16 + b) (by omega) (by omega), wi_id (z := 40 + b) (by omega) (by omega), up_nt (t' := 1346) (t := 1335) rfl, up_nt (t' := 1346) (t := 1335) rfl, up_nt (t' := 1346) (t := 1335) rfl, up_nt (t' := 1346) (t := 1335) rfl, d2, d6, c0]
    refine ⟨by omega, by omega, by omega, by omega, ?_⟩
    have s4 : Sm weA σ (up (up (up (up σ 1335 0 1 (zSize z b)) 1335 0 2 (zRun z b)) 1335 0 3 e) 1335 0 4 (zDay z)) := Sm_up (Sm_up (Sm_up (Sm_up Sm.rf rfl) rfl) rfl) rfl
    refine hw' (zSize z b) (zRun z b) e (zDay z) _ _ h hw hr he hd (by rw [s4.row (t := 1319) (i := 0) rfl]) (by rw [s4.row (t := 1320) (i := 0) rfl]) (fun i _ _ => by rw [s4.row (t := 1321) (i := 0) rfl]) ?_ ?_ ?_ up_at (fun τ s => ?_)
    · rw [up_nx (by decide), up_nx (by decide), up_nx (by decide), up_at]
    · rw [up_nx (by decide), up_nx (by decide), up_at]
    · rw [up_nx (by decide), up_at]
    · have s5 : Sm weA σ τ := s4.tr (s.mem (fun r hr => .tail _ hr))
      have ek : τ 1315 0 b = σ 904 0 b := by rw [s5.row (t := 1315) (i := 0) rfl]; exact (hE.2.2.2.2.2.1 b b0 (by omega)).1
      have k := k τ s5
      unfold wearW at k
      have h1 := @lim_rng (v (zSize z b) (zRun z b) e (zDay z)) (-9) 9 (by decide)
      refine t_X12_between (by decide) ?_
      rw [ek]
      refine ⟨b0, by omega, ?_⟩
      split
      · rename_i h
        rw [if_pos h] at k
        exact t_X12_between (by decide) k
      · rename_i h
        rw [if_neg h] at k
        refine ⟨b0, by omega, ?_⟩
        split
        · rename_i h'
          rw [if_pos h'] at k
          rw [wi_id (by omega) (by omega)]
          exact k
        · rename_i h'
          rw [if_neg h'] at k
          exact k
/-- the day's end, all at rest: s the shop, v the law, e the damp -/
def dyW (s : Sp) (v : V4) (e : Int) (z : Ab) : Ab :=
  (zDay z + 1, 0, zSrv z, zMany z, zQ z, zGap z, (fun b => wornW (s.2.2.2.2.2 b) (v (zSize z b) (zRun z b) e (zDay z)) (zSize z b)), zHow z, zAt z, zLeft z, (fun _ => 0))
theorem i32_zero : i32 0 := ⟨by decide, by decide⟩
theorem WfZ_dy {n m dk : Int} {s : Sp} {v : V4} {e : Int} {z : Ab} (hW : WfZ n m dk z) (hd : zDay z < 1000000) : WfZ n m dk (dyW s v e z) := by
  obtain ⟨wd, wb, wv, wM, wq, wi1, wg, wB⟩ := hW
  refine ⟨?_, i32_zero, wv, wM, wq, wi1, wg, fun b b0 b1 => ?_⟩
  · show 0 ≤ zDay z + 1 ∧ zDay z + 1 ≤ 1000000
    omega
  · obtain ⟨w1, w2, w3, w4, w5, w6⟩ := wB b b0 b1
    exact ⟨wornW_rng, w2, w3, w4, w5, i32_zero⟩
theorem zDay_pasK {s : Sp} : ∀ (k : Nat) {z : Ab}, zDay (pasK s k z) = zDay z
  | 0, _ => rfl
  | k + 1, z => by
    show zDay (pasK s k (pasW s z)) = zDay z
    rw [zDay_pasK k]
    rfl
/-- a whole day -/
def dayW (s : Sp) (m : Int) (v : V4) (e : Int) (z : Ab) : Ab := dyW s v e (pasK s (nAll s m z) z)
theorem WfZ_day {n m dk : Int} {s : Sp} {v : V4} {e : Int} {z : Ab} (hs : SpW n m dk s) (hW : WfZ n m dk z) (hd : zDay z < 1000000) : WfZ n m dk (dayW s m v e z) := WfZ_dy (WfZ_pasK hs _ hW) (by rw [zDay_pasK]; exact hd)
theorem i32_of_rng {x : Int} (h1 : -1000000000 ≤ x) (h2 : x ≤ 1000000000) : i32 x := by unfold i32; omega
def dyA (o : Nat) : List Reg := paA o ++ [(1002, o, none), (1006, o, none), (9, o, some 10), (302, 0, none)]
theorem t_X9_passDay {n m dk : Int} {o : Nat} {v : V4} {z : Ab} {σ : St} {Q : Int → St → Prop} (hX : Cxt n m dk σ) (hW : WfZ n m dk z) (hC : StC n m σ o z) (hL : LwC v σ 0) (hd : zDay z < 1000000)
    (k : ∀ σ', Sm (dyA o) σ σ' → StC n m σ' o (dayW (spC σ 0) m v (dmpW (σ 8 0 12) (σ 908 0) (zDay z)) z) → (0 ≤ σ 9 o 12 → σ 9 o 12 + 3600 ≤ 1000000000 → σ' 9 o 12 = σ 9 o 12 + strL (spC σ 0) m.toNat (σ 906 0) (nAll (spC σ 0) m z) z) → Q (nAll (spC σ 0) m z) σ') : P_X9_passDay o σ Q := by
  unfold P_X9_passDay
  have hsp := hX.spw
  have m6 := hsp.2.2.2.2.1
  refine t_X9_passTillAllRest hX hW hC (fun σ1 s1 c1 st1 => ?_)
  have hX1 := Cxt_keep s1 rfl hX
  have hW1 := WfZ_pasK hsp (nAll (spC σ 0) m z) hW
  have hd1 : zDay (pasK (spC σ 0) (nAll (spC σ 0) m z) z) = zDay z := zDay_pasK _
  have hdr : 0 ≤ zDay z := hW.1.1
  have hL1 : LwC v σ1 0 := LwC_keep s1 rfl hL
  unfold dayW at k
  generalize pasK (spC σ 0) (nAll (spC σ 0) m z) z = z1 at k c1 hW1 hd1
  have e10 : σ1 9 o 10 = zDay z := by rw [c1.1, hd1]
  rw [e10]
  refine t_X8_dampOn hX1.1 hdr ?_
  rw [s1.row (t := 8) (i := 0) rfl, s1.row (t := 908) (i := 0) rfl]
  have hdm := dmpW_rng (σ := σ) (o := 0) (d := zDay z) hX.1 hdr
  generalize dmpW (σ 8 0 12) (σ 908 0) (zDay z) = e at k hdm
  have hk : ∀ b : Int, σ1 904 0 b = (spC σ 0).2.2.2.2.2 b := fun b => by rw [s1.row (t := 904) (i := 0) rfl]; rfl
  have hwB := hW1.2.2.2.2.2.2.2
  refine loopI (X := St) (F := fun n' i τ => P_X9_passDay_L19 o (nAll (spC σ 0) m z) e Q n' i τ) (N := m) (fun i τ => Sm [(1002, o, none), (1006, o, none), (302, 0, none)] σ1 τ ∧
    (∀ b : Int, 0 ≤ b → b < m → τ 1002 o b = (if b < i then wornW ((spC σ 0).2.2.2.2.2 b) (v (zSize z1 b) (zRun z1 b) e (zDay z1)) (zSize z1 b) else zSize z1 b) ∧ τ 1006 o b = if b < i then 0 else zRun z1 b)) ?_ ?_ m.toNat 0 σ1 FU (Int.le_refl 0) (by omega) (FU_pos (by omega)) ?_
  · rintro n' i τ i0 i1 ⟨hs, hr⟩ k'
    have e8 : τ 8 0 11 = m := by rw [hs.row (t := 8) (i := 0) rfl]; exact hX1.2.2.1
    have e9 : τ 9 o 10 = zDay z1 := by rw [hs.row (t := 9) (i := o) rfl, c1.1]
    obtain ⟨h2, h6⟩ := hr i i0 i1
    rw [if_neg (Int.lt_irrefl i)] at h2 h6
    obtain ⟨w1, w2, w3, w4, w5, w6⟩ := hwB i i0 i1
    unfold P_X9_passDay_L19
    rw [e8, if_neg (by omega), h2, h6, e9, wi_id (z := i + 1) (by omega) (by omega)]
    refine ⟨i0, by omega, i0, by omega, ?_⟩
    refine t_X8_worn (v := v) (LwC_keep hs rfl hL1) (i32_of_rng (by omega) (by omega)) w6 (i32_of_rng (by omega) (by omega)) (i32_of_rng (by omega) (by omega)) w1 i0 (by omega) (fun υ su => ?_)
    refine ⟨i0, by omega, i0, by omega, ?_⟩
    rw [hs.row (t := 904) (i := 0) rfl, hk]
    refine k' _ ⟨Sm_up (Sm_up (hs.tr (su.mem (fun r hr => by cases hr with | head => exact .tail _ (.tail _ (.head _)) | tail _ h => cases h))) (inm (.head _))) (inm (.tail _ (.head _))), fun b b0 b1 => ?_⟩
    rw [up_nt (t' := 1002) (t := 1006) rfl]
    by_cases eb : b = i
    · subst eb
      rw [up_at, up_at, if_pos (by omega), if_pos (by omega)]
      exact ⟨rfl, rfl⟩
    · rw [up_nx eb, up_nx eb, up_nt rfl, su.row (t := 1002) (i := o) rfl, su.row (t := 1006) (i := o) rfl]
      obtain ⟨g2, g6⟩ := hr b b0 b1
      rw [g2, g6]
      by_cases hb : b < i
      · rw [if_pos hb, if_pos hb, if_pos (by omega), if_pos (by omega)]
        exact ⟨rfl, rfl⟩
      · rw [if_neg hb, if_neg hb, if_neg (by omega), if_neg (by omega)]
        exact ⟨rfl, rfl⟩
  · rintro n' τ ⟨hs, hr⟩
    have e8 : τ 8 0 11 = m := by rw [hs.row (t := 8) (i := 0) rfl]; exact hX1.2.2.1
    have e9 : τ 9 o 10 = zDay z1 := by rw [hs.row (t := 9) (i := o) rfl, c1.1]
    unfold P_X9_passDay_L19
    rw [e8, if_pos (Int.le_refl m), e9, wi_id (z := zDay z1 + 1) (by omega) (by omega)]
    obtain ⟨c0, cb, c2, c3, cq, cg, cB⟩ := c1
    refine k _ ?_ ⟨?_, up_at, ?_, ?_, fun j j0 j1 => ?_, fun c c0 c1 => ?_, fun b b0 b1 => ?_⟩ (fun p0 p1 => ?_)
    · refine Sm_up (Sm_up (s1.l.tr (hs.mem (fun r hr => by
        simp only [List.mem_cons, List.not_mem_nil, or_false, List.mem_append] at hr ⊢
        rcases hr with rfl | rfl | rfl <;> simp))) ?_) ?_
      · exact inm1 (by unfold dyA; simp)
      · exact inm1 (by unfold dyA paA; simp)
    · rw [up_nx (by decide), up_at]; rfl
    · rw [up_nx (by decide), up_nx (by decide), hs.row (t := 9) (i := o) rfl]; exact c2
    · rw [up_nx (by decide), up_nx (by decide), hs.row (t := 9) (i := o) rfl]; exact c3
    · rw [up_nt rfl, up_nt rfl, hs.row (t := 1007) (i := o) rfl]; exact cq j j0 j1
    · rw [up_nt rfl, up_nt rfl, hs.row (t := 1001) (i := o) rfl]; exact cg c c0 c1
    · obtain ⟨g2, g6⟩ := hr b b0 b1
      rw [if_pos b1] at g2 g6
      simp only [up_nt (t' := 1002) (t := 9) rfl, up_nt (t' := 1003) (t := 9) rfl, up_nt (t' := 1004) (t := 9) rfl, up_nt (t' := 1005) (t := 9) rfl, up_nt (t' := 1006) (t := 9) rfl]
      rw [g2, g6, hs.row (t := 1003) (i := o) rfl, hs.row (t := 1004) (i := o) rfl, hs.row (t := 1005) (i := o) rfl]
      exact ⟨rfl, (cB b b0 b1).2.1, (cB b b0 b1).2.2.1, (cB b b0 b1).2.2.2.1, rfl⟩
    · rw [up_nx (by decide), up_nx (by decide), hs.row (t := 9) (i := o) rfl]
      exact st1 p0 p1
  · refine ⟨Sm.rf, fun b b0 b1 => ?_⟩
    rw [if_neg (by omega), if_neg (by omega)]
    exact ⟨(c1.2.2.2.2.2.2 b b0 b1).1, (c1.2.2.2.2.2.2 b b0 b1).2.2.2.2⟩
