/-! 64: weeks -/
section
variable {n m dk : Int} {z : Ab} {σ : St} {Q : Int → St → Prop}
def wkF (s : Sp) (m : Int) (v : V4) (dm hm : Int → Int) (z : Ab) (x1 x2 : Int) : Lv := itr (fun _ => livW s m v dm hm) (if 0 < m then x2.toNat else 0) 0 (x1, z, 0)
def wkW (s : Sp) (m : Int) (v : V4) (dm hm : Int → Int) (z : Ab) (x1 x2 x3 : Int) : Int :=
  if (0 ≤ x1 ∧ x1 ≤ 9999) ∧ (1 ≤ x2 ∧ x2 ≤ 99) ∧ (0 ≤ x3 ∧ x3 ≤ 2) then
    (if x3 = 0 then (wkF s m v dm hm z x1 x2).2.2 else if x3 = 1 then bts (astP hm (wkF s m v dm hm z x1 x2).2.1) m.toNat else sm (zSize (wkF s m v dm hm z x1 x2).2.1) m.toNat) else -1
theorem sm_i {f : Int → Int} {i : Int} (h : 0 ≤ i) : sm f (i + 1).toNat = sm f i.toNat + f i := by
  have e : (i + 1).toNat = i.toNat + 1 := by omega
  have e2 : ((i.toNat : Nat) : Int) = i := Int.toNat_of_nonneg h
  rw [e]
  show sm f i.toNat + f (i.toNat : Nat) = _
  rw [e2]
theorem wkF_ok {v : V4} {dm hm : Int → Int} {s : Sp} {x1 x2 : Int} (hs : SpW n m dk s) (hW : WfZ n m dk z) (hd : zDay z < 900000) (h1 : 0 ≤ x1 ∧ x1 ≤ 9999) (h2 : x2 ≤ 99) : WfZ n m dk (wkF s m v dm hm z x1 x2).2.1 := by
  have h0 : LvW n m dk (zDay z) 0 (x1, z, 0) := ⟨⟨by show (0 : Int) ≤ x1; omega, by show x1 < 2147483648; omega⟩, hW, by show zDay z ≤ zDay z + 0; omega, Int.le_refl 0, by show (0 : Int) ≤ 3600 * 0; omega⟩
  unfold wkF
  by_cases m0 : 0 < m
  · rw [if_pos m0]
    have := itr_inv (f := fun _ => livW s m v dm hm) (fun i a => LvW n m dk (zDay z) i a) x2.toNat 0 (x1, z, 0) h0 (fun j b j0 j1 hb => LvW_step hs m0 (by omega) hb)
    exact this.2.1
  · rw [if_neg m0]
    exact hW
theorem t_X9_allSizes {o : Nat} {z : Ab} (hX : Cxt n m dk σ) (hW : WfZ n m dk z) (hC : StC n m σ o z) (k : Q (sm (zSize z) m.toNat) σ) : P_X9_allSizes o σ Q := by
  have m6 := hX.spw.2.2.2.2.1
  unfold P_X9_allSizes
  refine loopI (X := Int) (F := fun n i a => P_X9_allSizes_L4 o Q n a i σ) (N := m) (fun i a => a = sm (zSize z) i.toNat) ?_ ?_ m.toNat 0 0 FU (Int.le_refl 0) (by omega) (FU_pos (by omega)) rfl
  · rintro n' i a i0 i1 ha k'
    have hz := sm_rng (f := zSize z) (c := 60) i.toNat (fun b b0 b1 => by have := (hW.2.2.2.2.2.2.2 b b0 (by omega)).1; omega)
    have hzi := (hW.2.2.2.2.2.2.2 i i0 i1).1
    unfold P_X9_allSizes_L4
    rw [hX.2.2.1, if_neg (by omega), (hC.2.2.2.2.2.2 i i0 i1).1, wi_id (z := i + 1) (by omega) (by omega), wi_id (z := a + zSize z i) (by omega) (by omega)]
    exact ⟨i0, by omega, k' _ (by rw [sm_i i0, ha])⟩
  · rintro n' a ha
    unfold P_X9_allSizes_L4
    rw [hX.2.2.1, if_pos (Int.le_refl m), ha]
    exact k
theorem t_X11_weeks {v : V4} {x1 x2 x3 : Int} (hX : Cxt n m dk σ) (hW : WfZ n m dk z) (hC : StC n m σ 0 z) (hL : LwC v σ 0) (hd : zDay z < 900000)
    (k : ∀ σ', Sm qcA σ σ' → Q (wkW (spC σ 0) m v (dmpW (σ 8 0 12) (σ 908 0)) (σ 906 0) z x1 x2 x3) σ') : P_X11_weeks x1 x2 x3 σ Q := by
  unfold P_X11_weeks
  unfold wkW at k
  refine t_X11_within (fun a0 a1 => ?_) (fun h => ?_)
  · rw [if_neg one_no]
    refine t_X11_within (fun b0 b1 => ?_) (fun h => ?_)
    · rw [if_neg one_no]
      refine t_X11_within (fun c0 c1 => ?_) (fun h => ?_)
      · rw [if_neg one_no]
        rw [if_pos ⟨⟨a0, a1⟩, ⟨b0, b1⟩, ⟨c0, c1⟩⟩] at k
        refine t_X9_take hX.spw hW hC (fun σ1 s1 c1' _ => ?_)
        have s2 : Sm (tkA 1) σ (up σ1 9 1 12 0) := Sm_up s1 (inm (by unfold tkA; simp))
        have hX2 := Cxt_keep s2 rfl hX
        have hC2 : StC n m (up σ1 9 1 12 0) 1 z := by
          obtain ⟨q0, q1, q2, q3, qq, qg, qB⟩ := c1'
          refine ⟨?_, ?_, ?_, ?_, fun j j0 j1 => ?_, fun c c0 c1 => ?_, fun b b0 b1 => ?_⟩
          · rw [up_nx (by decide)]; exact q0
          · rw [up_nx (by decide)]; exact q1
          · rw [up_nx (by decide)]; exact q2
          · rw [up_nx (by decide)]; exact q3
          · rw [up_nt rfl]; exact qq j j0 j1
          · rw [up_nt rfl]; exact qg c c0 c1
          · rw [up_nt rfl, up_nt rfl, up_nt rfl, up_nt rfl, up_nt rfl]; exact qB b b0 b1
        refine t_X9_passByDraws (v := v) hX2 hW hC2 (LwC_keep s2 rfl hL) hd ⟨a0, a1⟩ ⟨b0, b1⟩ up_at (fun σ3 s3 cc3 cs3 => ?_)
        rw [spC_keep s2 rfl, s2.row (t := 8) (i := 0) rfl, s2.row (t := 908) (i := 0) rfl, s2.row (t := 906) (i := 0) rfl] at cc3 cs3
        have cc3 : StC n m σ3 1 (wkF (spC σ 0) m v (dmpW (σ 8 0 12) (σ 908 0)) (σ 906 0) z x1 x2).2.1 := cc3
        have cs3 : σ3 9 1 12 = (wkF (spC σ 0) m v (dmpW (σ 8 0 12) (σ 908 0)) (σ 906 0) z x1 x2).2.2 := cs3
        have s13 : Sm qcA σ σ3 := (mem_sub (A := tkA 1) (B := qcA) rfl s2).tr (mem_sub (A := wkA) (B := qcA) rfl s3)
        have hX3 := Cxt_keep s13 rfl hX
        have k := k σ3 s13
        split <;> rename_i h
        · rw [if_pos h, ← cs3] at k
          exact k
        · rw [if_neg h] at k
          split <;> rename_i h'
          · rw [if_pos h'] at k
            exact t_X9_astray hX3 (fun b _ _ => by rw [s13.row (t := 906) (i := 0) rfl]) cc3 k
          · rw [if_neg h'] at k
            exact t_X9_allSizes hX3 (wkF_ok hX.spw hW hd ⟨a0, a1⟩ b1) cc3 k
      · have k := k σ Sm.rf
        rw [if_neg (fun q => h q.2.2)] at k
        rw [if_pos rfl]
        exact k
    · have k := k σ Sm.rf
      rw [if_neg (fun q => h q.2.1)] at k
      rw [if_pos rfl]
      exact k
  · have k := k σ Sm.rf
    rw [if_neg (fun q => h q.1)] at k
    rw [if_pos rfl]
    exact k
end
