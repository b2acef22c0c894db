/-! 52: sending, gaps set, balls carried -/
def canW (z : Ab) (b : Int) : Prop := zHow z b = 0 ∧ zAt z b ≠ 6
def sndW (s : Sp) (b : Int) (z : Ab) : Ab :=
  (zDay z, zBeat z, zSrv z, zMany z, zQ z, zGap z, zSize z, upr (zHow z) b 1, zAt z, upr (zLeft z) b (btoW s.1 s.2.2.2.1 s.2.2.2.2.1 s.2.2.2.2.2 b (zAt z b)), upr (zRun z) b (wi (zRun z b + 1)))
def setW (c g : Int) (z : Ab) : Ab := (zDay z, zBeat z, zSrv z, zMany z, zQ z, upr (zGap z) c g, zSize z, zHow z, zAt z, zLeft z, zRun z)
def carW (b c : Int) (z : Ab) : Ab := (zDay z, zBeat z, zSrv z, zMany z, zQ z, zGap z, zSize z, zHow z, upr (zAt z) b c, zLeft z, zRun z)
theorem wi_i32 (z : Int) : i32 (wi z) := by
  unfold wi i32
  exact ⟨Int.le_bmod (by decide), by have := @Int.bmod_lt z 4294967296 (by decide); omega⟩
theorem WfZ_snd {n m dk : Int} {s : Sp} {b : Int} {z : Ab} (hs : SpW n m dk s) (hW : WfZ n m dk z) (hb : zHow z b = 0) (b0 : 0 ≤ b) (b1 : b < m) : WfZ n m dk (sndW s b z) := by
  obtain ⟨e1, e2, e3, ⟨n0, n6⟩, ⟨m0, m6⟩, ⟨d1, d9⟩, hf, hbt⟩ := hs
  obtain ⟨wd, wb, wv, wM, wq, wi1, wg, wB⟩ := hW
  refine ⟨wd, wb, wv, ?_, fun j j0 j1 => ?_, wi1, wg, fun b' b0' b1' => ?_⟩
  · show zMany z = cnt (fun b' => decide (upr (zHow z) b 1 b' = 2)) m.toNat
    rw [wM]
    refine cnt_congr _ (fun b' _ _ => ?_)
    by_cases e : b' = b
    · rw [e, upr_at, hb]; rfl
    · rw [upr_ne e]
  · obtain ⟨q1, q2⟩ := wq j j0 j1
    refine ⟨q1, ?_⟩
    show upr (zHow z) b 1 (zQ z j) = 2
    rw [upr_ne (fun e => by rw [e, hb] at q2; cases q2)]
    exact q2
  · obtain ⟨w1, w2, w3, w4, w5, w6⟩ := wB b' b0' b1'
    show (1 ≤ zSize z b' ∧ zSize z b' ≤ 60) ∧ (0 ≤ upr (zHow z) b 1 b' ∧ upr (zHow z) b 1 b' ≤ 3) ∧ (0 ≤ zAt z b' ∧ (zAt z b' < n ∨ zAt z b' = 6)) ∧ (0 ≤ upr (zLeft z) b _ b' ∧ upr (zLeft z) b _ b' ≤ 42) ∧ (upr (zHow z) b 1 b' = 1 ∨ upr (zHow z) b 1 b' = 3 → 1 ≤ upr (zLeft z) b _ b') ∧ i32 (upr (zRun z) b _ b')
    by_cases e : b' = b
    · subst e
      have := hbt b' (zAt z b') w3.1
      rw [upr_at, upr_at, upr_at, e1]
      exact ⟨w1, by omega, w3, by omega, fun _ => by omega, wi_i32 _⟩
    · rw [upr_ne e, upr_ne e, upr_ne e]
      exact ⟨w1, w2, w3, w4, w5, w6⟩
theorem WfZ_set {n m dk : Int} {c g : Int} {z : Ab} (hW : WfZ n m dk z) (hg : 0 ≤ g ∧ g ≤ 60) : WfZ n m dk (setW c g z) := by
  obtain ⟨wd, wb, wv, wM, wq, wi1, wg, wB⟩ := hW
  refine ⟨wd, wb, wv, wM, wq, wi1, fun c' c0 c1 => ?_, wB⟩
  show 0 ≤ upr (zGap z) c g c' ∧ upr (zGap z) c g c' ≤ 60
  by_cases e : c' = c
  · rw [e, upr_at]; exact hg
  · rw [upr_ne e]; exact wg c' c0 c1
theorem WfZ_car {n m dk : Int} {b c : Int} {z : Ab} (hW : WfZ n m dk z) (hc : 0 ≤ c ∧ c < n) : WfZ n m dk (carW b c z) := by
  obtain ⟨wd, wb, wv, wM, wq, wi1, wg, wB⟩ := hW
  refine ⟨wd, wb, wv, wM, wq, wi1, wg, fun b' b0' b1' => ?_⟩
  obtain ⟨w1, w2, w3, w4, w5, w6⟩ := wB b' b0' b1'
  refine ⟨w1, w2, ?_, w4, w5, w6⟩
  show 0 ≤ upr (zAt z) b c b' ∧ (upr (zAt z) b c b' < n ∨ upr (zAt z) b c b' = 6)
  by_cases e : b' = b
  · rw [e, upr_at]; omega
  · rw [upr_ne e]; exact w3
theorem t_X9_canSend {n m : Int} {o : Nat} {z : Ab} {b : Int} {σ : St} {Q : Int → St → Prop} (hm : σ 8 0 11 = m) (h6 : m ≤ 6) (hC : StC n m σ o z)
    (k1 : 0 ≤ b → b < m → canW z b → Q 1 σ) (k0 : ¬ (0 ≤ b ∧ b < m ∧ canW z b) → Q 0 σ) : P_X9_canSend o b σ Q := by
  unfold P_X9_canSend P_X9_canSend_J35
  refine t_X8_hasBall (fun b0 b1 => ?_) (fun h => ?_)
  · rw [hm] at b1
    obtain ⟨d2, d4, d3, d5, d6⟩ := hC.2.2.2.2.2.2 b b0 b1
    rw [if_neg one_no, d4, d3]
    refine ⟨b0, by omega, ?_⟩
    by_cases h : zHow z b = 0
    · rw [if_pos h]
      refine ⟨b0, by omega, ?_⟩
      by_cases h' : zAt z b = 6
      · rw [if_pos h']
        exact k0 (fun q => q.2.2.2 h')
      · rw [if_neg h']
        exact k1 b0 b1 ⟨h, h'⟩
    · rw [if_neg h]
      exact k0 (fun q => h q.2.2.1)
  · rw [if_pos rfl]
    rw [hm] at h
    exact k0 (fun q => h ⟨q.1, q.2.1⟩)
def soA (o : Nat) : List Reg := [(1004, o, none), (1005, o, none), (1006, o, none)]
theorem t_X9_sendOff {n m dk : Int} {o : Nat} {z : Ab} {b : Int} {σ : St} {Q : Int → St → Prop} (hX : Cxt n m dk σ) (hW : WfZ n m dk z) (hC : StC n m σ o z)
    (k1 : 0 ≤ b → b < m → canW z b → ∀ σ', Sm (soA o) σ σ' → StC n m σ' o (sndW (spC σ 0) b z) → Q 1 σ') (k0 : ¬ (0 ≤ b ∧ b < m ∧ canW z b) → Q 0 σ) : P_X9_sendOff o b σ Q := by
  have hsp := hX.spw
  have m6 := hsp.2.2.2.2.1
  unfold P_X9_sendOff
  refine t_X9_canSend hX.2.2.1 m6.2 hC (fun b0 b1 hc => ?_) (fun h => ?_)
  · obtain ⟨d2, d4, d3, d5, d6⟩ := hC.2.2.2.2.2.2 b b0 b1
    obtain ⟨w1, w2, w3, w4, w5, w6⟩ := hW.2.2.2.2.2.2.2 b b0 b1
    rw [if_neg one_no, up_nt (t' := 1003) (t := 1004) rfl, d3]
    refine ⟨b0, by omega, b0, by omega, ?_⟩
    have s1 : Sm (soA o) σ (up σ 1004 o b 1) := Sm_up Sm.rf (inm (.head _))
    have hX1 := Cxt_keep s1 rfl hX
    refine t_X8_beatsTo hX1.1 b0 (by omega) w3.1 ?_
    rw [s1.row (t := 8) (i := 0) rfl, s1.row (t := 900) (i := 0) rfl, s1.row (t := 903) (i := 0) rfl, s1.row (t := 904) (i := 0) rfl, up_nt (t' := 1006) (t := 1005) rfl, up_nt (t' := 1006) (t := 1004) rfl, d6]
    refine ⟨b0, by omega, b0, by omega, b0, by omega, ?_⟩
    refine k1 b0 b1 hc _ (Sm_up (Sm_up s1 (inm (.tail _ (.head _)))) (inm (.tail _ (.tail _ (.head _))))) ?_
    obtain ⟨c0, cb, c2, c3, cq, cg, cB⟩ := hC
    refine ⟨?_, ?_, ?_, ?_, fun j j0 j1 => ?_, fun c c0 c1 => ?_, fun b' b0' b1' => ?_⟩
    · rw [up_nt rfl, up_nt rfl, up_nt rfl]; exact c0
    · rw [up_nt rfl, up_nt rfl, up_nt rfl]; exact cb
    · rw [up_nt rfl, up_nt rfl, up_nt rfl]; exact c2
    · rw [up_nt rfl, up_nt rfl, up_nt rfl]; exact c3
    · rw [up_nt rfl, up_nt rfl, up_nt rfl]; exact cq j j0 j1
    · rw [up_nt rfl, up_nt rfl, up_nt rfl]; exact cg c c0 c1
    · obtain ⟨g2, g4, g3, g5, g6⟩ := cB b' b0' b1'
      simp only [up_nt (t' := 1002) (t := 1004) rfl, up_nt (t' := 1002) (t := 1005) rfl, up_nt (t' := 1002) (t := 1006) rfl, up_nt (t' := 1003) (t := 1004) rfl, up_nt (t' := 1003) (t := 1005) rfl, up_nt (t' := 1003) (t := 1006) rfl, up_nt (t' := 1004) (t := 1005) rfl, up_nt (t' := 1004) (t := 1006) rfl, up_nt (t' := 1005) (t := 1006) rfl]
      show _ ∧ _ = upr (zHow z) b 1 b' ∧ _ ∧ _ = upr (zLeft z) b _ b' ∧ _ = upr (zRun z) b _ b'
      by_cases e : b' = b
      · subst e
        rw [up_at, up_at, up_at, upr_at, upr_at, upr_at]
        exact ⟨g2, rfl, g3, rfl, rfl⟩
      · rw [up_nx e, up_nx e, up_nx e, up_nt rfl, up_nt rfl, up_nt rfl, upr_ne e, upr_ne e, upr_ne e]
        exact ⟨g2, g4, g3, g5, g6⟩
  · rw [if_pos rfl]
    exact k0 h
theorem t_X12_canSend {n m : Int} {z : Ab} {b : Int} {σ : St} {Q : Int → St → Prop} (h6 : m ≤ 6) (hC : StA n m (σ 1346 0) z) (hA : 0 ≤ zAt z b ∧ (zAt z b < 6 ∨ zAt z b = 6)) (b0 : 0 ≤ b) (b1 : b < m)
    (k1 : canW z b → Q 1 σ) (k0 : ¬ canW z b → Q 0 σ) : P_X12_canSend b σ Q := by
  obtain ⟨d2, d4, d3, d5, d6⟩ := hC.2.2.2.2.2.2 b b0 b1
  unfold P_X12_canSend P_X12_canSend_J30
  rw [wi_id (z := 22 + b) (by omega) (by omega), wi_id (z := 28 + b) (by omega) (by omega), d4, d3]
  refine ⟨by omega, by omega, ?_⟩
  by_cases h : zHow z b = 0
  · rw [if_pos h]
    refine ⟨by omega, by omega, ?_⟩
    by_cases h' : 6 ≤ zAt z b
    · rw [if_pos h']
      exact k0 (fun q => q.2 (by omega))
    · rw [if_neg h']
      exact k1 ⟨h, by omega⟩
  · rw [if_neg h]
    exact k0 (fun q => h q.1)
theorem t_X12_sends {n m dk : Int} {z : Ab} {b : Int} {σ : St} {Q : St → Prop} (hX : Cxt n m dk σ) (hE : ShE σ) (hW : WfZ n m dk z) (hC : StA n m (σ 1346 0) z) (b0 : 0 ≤ b) (b1 : b < m)
    (k : ∀ σ', Sm [(1346, 0, none)] σ σ' → StA n m (σ' 1346 0) (sndW (spC σ 0) b z) → Q σ') : P_X12_sends b σ Q := by
  have hsp := hX.spw
  have m6 := hsp.2.2.2.2.1
  have n6 := hsp.2.2.2.1
  have hmn := hW.many m6.1
  have hX' := hX
  obtain ⟨hS, hn, hm, hdk⟩ := hX'
  obtain ⟨d2, d4, d3, d5, d6⟩ := hC.2.2.2.2.2.2 b b0 b1
  obtain ⟨w1, w2, w3, w4, w5, w6⟩ := hW.2.2.2.2.2.2.2 b b0 b1
  unfold P_X12_sends
  rw [wi_id (z := 22 + b) (by omega) (by omega), wi_id (z := 28 + b) (by omega) (by omega), wi_id (z := 34 + b) (by omega) (by omega), wi_id (z := 40 + b) (by omega) (by omega), up_nx (show (28 + b : Int) ≠ 22 + b by omega), d3]
  refine ⟨by omega, by omega, by omega, by omega, ?_⟩
  have s1 : Sm [(1346, 0, none)] σ (up σ 1346 0 (22 + b) 1) := Sm_up Sm.rf rfl
  have e8 := s1.row (t := 8) (i := 0) rfl
  refine t_X12_beatsTo (ShC_keep s1 rfl hS) (ShE_keep s1 rfl hE) b0 (by rw [e8, hm]; exact b1) w3.1 (by rw [e8, hn]; exact w3.2) ?_
  rw [e8, s1.row (t := 900) (i := 0) rfl, s1.row (t := 903) (i := 0) rfl, s1.row (t := 904) (i := 0) rfl, up_nx (show (40 + b : Int) ≠ 34 + b by omega), up_nx (show (40 + b : Int) ≠ 22 + b by omega), d6]
  refine ⟨by omega, by omega, by omega, by omega, by omega, by omega, ?_⟩
  refine k _ (Sm_up (Sm_up s1 rfl) rfl) ?_
  obtain ⟨c0, cb, c2, c3, cq, cg, cB⟩ := hC
  refine ⟨?_, ?_, ?_, ?_, fun j j0 j1 => ?_, fun c c0 c1 => ?_, fun b' b0' b1' => ?_⟩
  · rw [up_nx (by omega), up_nx (by omega), up_nx (by omega)]; exact c0
  · rw [up_nx (by omega), up_nx (by omega), up_nx (by omega)]; exact cb
  · rw [up_nx (by omega), up_nx (by omega), up_nx (by omega)]; exact c2
  · rw [up_nx (by omega), up_nx (by omega), up_nx (by omega)]; exact c3
  · have j1 : j < zMany z := j1
    rw [up_nx (by omega), up_nx (by omega), up_nx (by omega)]; exact cq j j0 j1
  · rw [up_nx (by omega), up_nx (by omega), up_nx (by omega)]; exact cg c c0 c1
  · obtain ⟨g2, g4, g3, g5, g6⟩ := cB b' b0' b1'
    rw [up_nx (show (16 + b' : Int) ≠ 40 + b by omega), up_nx (show (16 + b' : Int) ≠ 34 + b by omega), up_nx (show (16 + b' : Int) ≠ 22 + b by omega)]
    rw [up_nx (show (28 + b' : Int) ≠ 40 + b by omega), up_nx (show (28 + b' : Int) ≠ 34 + b by omega), up_nx (show (28 + b' : Int) ≠ 22 + b by omega)]
    rw [up_nx (show (22 + b' : Int) ≠ 40 + b by omega), up_nx (show (22 + b' : Int) ≠ 34 + b by omega), up_nx (show (34 + b' : Int) ≠ 40 + b by omega)]
    show _ ∧ _ = upr (zHow z) b 1 b' ∧ _ ∧ _ = upr (zLeft z) b _ b' ∧ _ = upr (zRun z) b _ b'
    by_cases e : b' = b
    · subst e
      rw [up_at, up_at, up_at, upr_at, upr_at, upr_at]
      exact ⟨g2, rfl, g3, rfl, rfl⟩
    · rw [up_nx (by omega), up_nx (by omega), up_nx (by omega), up_nx (by omega), up_nx (by omega), up_nx (by omega), upr_ne e, upr_ne e, upr_ne e]
      exact ⟨g2, g4, g3, g5, g6⟩
