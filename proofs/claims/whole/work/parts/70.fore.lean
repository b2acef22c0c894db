/-! 70: days ahead: what the class foresees -/
/-- the size of ball b behind i days -/
def fsz (s : Sp) (v : V4) (dm : Int → Int) (z : Ab) (b : Int) : Nat → Int
  | 0 => zSize z b
  | i + 1 => wornW (s.2.2.2.2.2 b) (v (fsz s v dm z b i) (if i = 0 then zRun z b else 0) (dm (zDay z + i)) (zDay z + i)) (fsz s v dm z b i)
theorem fsz_rng {n m dk : Int} {s : Sp} {v : V4} {dm : Int → Int} {z : Ab} {b : Int} (hW : WfZ n m dk z) (b0 : 0 ≤ b) (b1 : b < m) : ∀ i : Nat, 1 ≤ fsz s v dm z b i ∧ fsz s v dm z b i ≤ 60
  | 0 => (hW.2.2.2.2.2.2.2 b b0 b1).1
  | _ + 1 => wornW_rng
/-- what a question of the class may change -/
def qcB : List Reg := tkA 1 ++ [(302, 0, none), (202, 0, none), (203, 0, none), (152, 0, none), (152, 1, none), (152, 2, none), (152, 3, none), (152, 4, none), (152, 5, none),
  (254, 0, none), (254, 1, none), (254, 2, none), (254, 3, none), (254, 4, none), (254, 5, none), (254, 6, none), (255, 0, none), (255, 1, none), (255, 2, none), (255, 3, none), (255, 4, none), (255, 5, none),
  (256, 0, none), (256, 1, none), (256, 2, none), (256, 3, none), (256, 4, none), (256, 5, none)]
def foA : List Reg := [(302, 0, none), (152, 0, none), (152, 1, none), (152, 2, none), (152, 3, none), (152, 4, none), (152, 5, none)]
theorem in6 {b : Int} (b0 : 0 ≤ b) (b1 : b < 6) : b.toNat = 0 ∨ b.toNat = 1 ∨ b.toNat = 2 ∨ b.toNat = 3 ∨ b.toNat = 4 ∨ b.toNat = 5 := by omega
theorem in152 {b x : Int} (b0 : 0 ≤ b) (b1 : b < 6) : inR foA 152 b.toNat x = true := by
  rcases in6 b0 b1 with h | h | h | h | h | h <;> rw [h] <;> rfl
section
variable {n m dk : Int} {z : Ab} {σ : St}
theorem t_X0_sizeNext {v : V4} {b w g e : Int} {Q : Int → St → Prop} (hC : StC n m σ 0 z) (hW : WfZ n m dk z) (hL : LwC v σ 0) (h6 : m ≤ 6) (b0 : 0 ≤ b) (b1 : b < m) (hw : 1 ≤ w ∧ w ≤ 60) (hg : 0 ≤ g) (hd : zDay z + g ≤ 1000000) (he : 0 ≤ e ∧ e ≤ 9)
    (k : ∀ τ, Sm [(302, 0, none)] σ τ → Q (wornW (σ 904 0 b) (v w (if g = 0 then zRun z b else 0) e (zDay z + g)) w) τ) : P_X0_sizeNext b w g e σ Q := by
  have hd0 := hW.1.1
  have hr := (hW.2.2.2.2.2.2.2 b b0 b1).2.2.2.2.2
  unfold P_X0_sizeNext P_X0_sizeNext_J17
  rw [hC.1, wi_id (z := zDay z + g) (by omega) (by omega), (hC.2.2.2.2.2.2 b b0 b1).2.2.2.2]
  by_cases hg0 : g = 0
  · rw [if_pos hg0] at k ⊢
    exact ⟨b0, by omega, t_X8_worn hL (i32_of_rng (by omega) (by omega)) hr (i32_of_rng (by omega) (by omega)) (i32_of_rng (by omega) (by omega)) hw b0 (by omega) k⟩
  · rw [if_neg hg0] at k ⊢
    exact t_X8_worn hL (i32_of_rng (by omega) (by omega)) i32_zero (i32_of_rng (by omega) (by omega)) (i32_of_rng (by omega) (by omega)) hw b0 (by omega) k
theorem t_X0_look {v : V4} {b d : Int} {Q : St → Prop} (hX : Cxt n m dk σ) (hW : WfZ n m dk z) (hC : StC n m σ 0 z) (hL : LwC v σ 0) (hd : zDay z < 900000) (b0 : 0 ≤ b) (b1 : b < m) (d0 : 0 ≤ d) (d1 : d ≤ 60)
    (k : ∀ σ', Sm [(302, 0, none), (152, b.toNat, none)] σ σ' → (∀ j : Int, 0 ≤ j → j ≤ d → σ' 152 b.toNat j = fsz (spC σ 0) v (dmpW (σ 8 0 12) (σ 908 0)) z b j.toNat) → Q σ') : P_X0_look b d σ Q := by
  have m6 := hX.spw.2.2.2.2.1
  have hd0 := hW.1.1
  unfold P_X0_look
  refine ⟨b0, by omega, b0, by omega, ?_⟩
  rw [(hC.2.2.2.2.2.2 b b0 b1).1]
  refine loopI (X := St) (F := fun n' i τ => P_X0_look_L22 b d b.toNat Q n' i τ) (N := d) (fun i τ => Sm [(302, 0, none), (152, b.toNat, none)] σ τ ∧ ∀ j : Int, 0 ≤ j → j ≤ i → τ 152 b.toNat j = fsz (spC σ 0) v (dmpW (σ 8 0 12) (σ 908 0)) z b j.toNat) ?_ ?_ d.toNat 0 _ FU (Int.le_refl 0) (by omega) (FU_pos (by omega)) ⟨Sm_up Sm.rf (inm (.tail _ (.head _))), fun j j0 j1 => ?_⟩
  · rintro n' i τ i0 i1 ⟨hs, hr⟩ k'
    have hs2 : Sm foA σ τ := fun t o x hx => hs t o x (by
      cases h : inR [(302, 0, none), (152, b.toNat, none)] t o x
      · rfl
      · exfalso
        obtain ⟨r, hr1, hr2⟩ := List.any_eq_true.mp h
        simp only [List.mem_cons, List.not_mem_nil, or_false] at hr1
        simp only [Bool.and_eq_true] at hr2
        have q1 := Nat.eq_of_beq_eq_true hr2.1
        have q2 := Nat.eq_of_beq_eq_true hr2.2.1
        rcases hr1 with rfl | rfl
        · rw [← q1, ← q2] at hx
          cases hx.symm.trans (show inR foA 302 0 x = true from rfl)
        · rw [← q1, ← q2] at hx
          cases hx.symm.trans (in152 b0 (by omega)))
    have hX1 := Cxt_keep hs2 rfl hX
    have hC1 : StC n m τ 0 z := StC_keep hs2 rfl hC
    have hdm := dmpW_rng (σ := σ) (o := 0) (d := zDay z + i) hX.1 (by omega)
    have hf := fsz_rng (s := spC σ 0) (v := v) (dm := dmpW (σ 8 0 12) (σ 908 0)) hW b0 b1 i.toNat
    have ei : ((i.toNat : Nat) : Int) = i := Int.toNat_of_nonneg i0
    unfold P_X0_look_L22
    rw [if_neg (by omega), if_neg (by omega), hC1.1, wi_id (z := zDay z + i) (by omega) (by omega), wi_id (z := i + 1) (by omega) (by omega)]
    refine ⟨i0, by omega, t_X8_dampOn hX1.1 (by omega) ?_⟩
    rw [hs2.row (t := 8) (i := 0) rfl, hs2.row (t := 908) (i := 0) rfl, hr i i0 (Int.le_refl i)]
    refine t_X0_sizeNext (v := v) hC1 hW (LwC_keep hs2 rfl hL) m6.2 b0 b1 hf i0 (by omega) hdm (fun υ su => ?_)
    refine ⟨by omega, by omega, ?_⟩
    refine k' _ ⟨Sm_up (hs.tr (su.mem (fun r hr => by cases hr with | head => exact .head _ | tail _ h => cases h))) (inm (.tail _ (.head _))), fun j j0 j1 => ?_⟩
    by_cases e : j = i + 1
    · rw [e, up_at, show (i + 1).toNat = i.toNat + 1 by omega, hs2.row (t := 904) (i := 0) rfl]
      show _ = wornW _ _ _
      rw [ei]
      have : (i.toNat = 0) = (i = 0) := propext ⟨fun h => by omega, fun h => by omega⟩
      simp only [this]
      rfl
    · rw [up_nx e, su.row (t := 152) (i := b.toNat) rfl]
      exact hr j j0 (by omega)
  · rintro n' τ ⟨hs, hr⟩
    unfold P_X0_look_L22
    rw [if_pos (Int.le_refl d)]
    exact k τ hs hr
  · rw [show j = 0 by omega, up_at]
    rfl
theorem sm_look {b : Int} {σ τ : St} (b0 : 0 ≤ b) (b1 : b < 6) (hs : Sm [(302, 0, none), (152, b.toNat, none)] σ τ) : Sm foA σ τ := fun t o x hx => hs t o x (by
  cases h : inR [(302, 0, none), (152, b.toNat, none)] t o x
  · rfl
  · exfalso
    obtain ⟨r, hr1, hr2⟩ := List.any_eq_true.mp h
    simp only [List.mem_cons, List.not_mem_nil, or_false] at hr1
    simp only [Bool.and_eq_true] at hr2
    have q1 := Nat.eq_of_beq_eq_true hr2.1
    have q2 := Nat.eq_of_beq_eq_true hr2.2.1
    rcases hr1 with rfl | rfl
    · rw [← q1, ← q2] at hx
      cases hx.symm.trans (show inR foA 302 0 x = true from rfl)
    · rw [← q1, ← q2] at hx
      cases hx.symm.trans (in152 b0 (by omega)))
/-- where ball b falls behind d days -/
def fld (s : Sp) (v : V4) (dm : Int → Int) (z : Ab) (b d : Int) : Int := fllW s z (fsz s v dm z b d.toNat)
theorem t_X0_fallAfter {w b d : Int} {Q : Int → St → Prop} (hX : Cxt n m dk σ) (hC : StC n m σ 0 z) (b0 : 0 ≤ b) (b1 : b < m) (d0 : 0 ≤ d) (d1 : d ≤ 60) (h : σ 152 b.toNat d = w) (k : Q (fllW (spC σ 0) z w) σ) : P_X0_fallAfter b d σ Q := by
  have m6 := hX.spw.2.2.2.2.1
  unfold P_X0_fallAfter
  rw [h]
  exact ⟨b0, by omega, d0, by omega, t_fall0 hX hC k⟩
def ltrW (s : Sp) (m : Int) (v : V4) (dm : Int → Int) (z : Ab) (b d : Int) : Int := if (0 ≤ b ∧ b < m) ∧ 0 ≤ d ∧ d ≤ 60 then fsz s v dm z b d.toNat else -1
theorem t_X11_later {v : V4} {b d : Int} {Q : Int → St → Prop} (hX : Cxt n m dk σ) (hW : WfZ n m dk z) (hC : StC n m σ 0 z) (hL : LwC v σ 0) (hd : zDay z < 900000)
    (k : ∀ σ', Sm qcB σ σ' → Q (ltrW (spC σ 0) m v (dmpW (σ 8 0 12) (σ 908 0)) z b d) σ') : P_X11_later b d σ Q := by
  have m6 := hX.spw.2.2.2.2.1
  unfold P_X11_later
  unfold ltrW at k
  refine t_X8_hasBall (fun b0 b1 => ?_) (fun h => ?_)
  · rw [hX.2.2.1] at b1
    rw [if_neg one_no]
    refine t_X11_within (fun d0 d1 => ?_) (fun h => ?_)
    · rw [if_neg one_no]
      refine t_X0_look hX hW hC hL hd b0 b1 d0 d1 (fun σ1 s1 r1 => ?_)
      refine ⟨b0, by omega, d0, by omega, ?_⟩
      rw [r1 d d0 (Int.le_refl d)]
      have k := k σ1 (mem_sub (A := foA) (B := qcB) rfl (sm_look b0 (by omega) s1))
      rwa [if_pos ⟨⟨b0, b1⟩, d0, d1⟩] at k
    · have k := k σ Sm.rf
      rw [if_neg (fun q => h q.2)] at k
      rw [if_pos rfl]
      exact k
  · rw [hX.2.2.1] at h
    have k := k σ Sm.rf
    rw [if_neg (fun q => h q.1)] at k
    rw [if_pos rfl]
    exact k
/-- the first day (to 60) on which it falls astray -/
def asd (s : Sp) (v : V4) (dm hm : Int → Int) (z : Ab) (b : Int) : Option Int := fnd (fun d => decide (fld s v dm z b d ≠ hm b)) 61 0
def oi : Option Int → Int
  | none => -1
  | some d => d
theorem t_X0_firstAstray {v : V4} {b : Int} {Q : Int → St → Prop} (hX : Cxt n m dk σ) (hW : WfZ n m dk z) (hC : StC n m σ 0 z) (hL : LwC v σ 0) (hd : zDay z < 900000) (b0 : 0 ≤ b) (b1 : b < m)
    (k : ∀ σ', Sm foA σ σ' → Q (oi (asd (spC σ 0) v (dmpW (σ 8 0 12) (σ 908 0)) (σ 906 0) z b)) σ') : P_X0_firstAstray b σ Q := by
  have m6 := hX.spw.2.2.2.2.1
  unfold P_X0_firstAstray
  refine t_X0_look hX hW hC hL hd b0 b1 (by omega) (Int.le_refl 60) (fun σ1 s1' r1 => ?_)
  have s1 := sm_look b0 (by omega) s1'
  have hX1 := Cxt_keep s1 rfl hX
  have hC1 : StC n m σ1 0 z := StC_keep s1 rfl hC
  have k := k σ1 s1
  refine findF (F := fun n' i => P_X0_firstAstray_L9 b Q n' i σ1) (N := 61) (K0 := Q (-1) σ1) (K := fun i => Q i σ1) (p := fun d => decide (fld (spC σ 0) v (dmpW (σ 8 0 12) (σ 908 0)) z b d ≠ σ 906 0 b)) (fun n' i i0 i1 => ?_) (fun n' k => ?_) 61 0 FU (Int.le_refl 0) (by omega) (FU_pos (by omega)) ?_
  · have e6 : σ1 906 0 b = σ 906 0 b := by rw [s1.row (t := 906) (i := 0) rfl]
    have es : spC σ1 0 = spC σ 0 := spC_keep s1 rfl
    refine ⟨fun hp k => ?_, fun hp k => ?_⟩
    · have hp := of_decide_eq_true hp
      unfold fld at hp
      unfold P_X0_firstAstray_L9
      rw [if_neg (by omega)]
      refine t_X0_fallAfter hX1 hC1 b0 b1 i0 (by omega) (r1 i i0 (by omega)) ?_
      rw [e6, es, if_neg hp]
      exact ⟨b0, by omega, k⟩
    · have hp := Classical.not_not.mp (of_decide_eq_false hp)
      unfold fld at hp
      unfold P_X0_firstAstray_L9
      rw [if_neg (by omega)]
      refine t_X0_fallAfter hX1 hC1 b0 b1 i0 (by omega) (r1 i i0 (by omega)) ?_
      rw [e6, es, if_pos hp, wi_id (by omega) (by omega)]
      exact ⟨b0, by omega, k⟩
  · unfold P_X0_firstAstray_L9
    rw [if_pos (by omega)]
    exact k
  · unfold asd at k
    split <;> rename_i h <;> rw [h] at k <;> exact k
def stdW (s : Sp) (m : Int) (v : V4) (dm hm : Int → Int) (z : Ab) (b : Int) : Int := if 0 ≤ b ∧ b < m then oi (asd s v dm hm z b) else -1
theorem t_X11_stray {v : V4} {b : Int} {Q : Int → St → Prop} (hX : Cxt n m dk σ) (hW : WfZ n m dk z) (hC : StC n m σ 0 z) (hL : LwC v σ 0) (hd : zDay z < 900000)
    (k : ∀ σ', Sm qcB σ σ' → Q (stdW (spC σ 0) m v (dmpW (σ 8 0 12) (σ 908 0)) (σ 906 0) z b) σ') : P_X11_stray b σ Q := by
  unfold P_X11_stray
  unfold stdW at k
  refine t_X8_hasBall (fun b0 b1 => ?_) (fun h => ?_)
  · rw [hX.2.2.1] at b1
    rw [if_neg one_no]
    refine t_X0_firstAstray hX hW hC hL hd b0 b1 (fun σ1 s1 => ?_)
    have k := k σ1 (mem_sub (A := foA) (B := qcB) rfl s1)
    rwa [if_pos ⟨b0, b1⟩] at k
  · rw [hX.2.2.1] at h
    have k := k σ Sm.rf
    rw [if_neg h] at k
    rw [if_pos rfl]
    exact k
/-- the first size day -/
def ovd (s : Sp) (v : V4) (dm : Int → Int) (z : Ab) (b w : Int) : Option Int := fnd (fun d => decide (w ≤ fsz s v dm z b d.toNat)) 61 0
def ovrW (s : Sp) (m : Int) (v : V4) (dm : Int → Int) (z : Ab) (b w : Int) : Int := if (0 ≤ b ∧ b < m) ∧ 1 ≤ w ∧ w ≤ 60 then oi (ovd s v dm z b w) else -1
theorem t_X11_over {v : V4} {b w : Int} {Q : Int → St → Prop} (hX : Cxt n m dk σ) (hW : WfZ n m dk z) (hC : StC n m σ 0 z) (hL : LwC v σ 0) (hd : zDay z < 900000)
    (k : ∀ σ', Sm qcB σ σ' → Q (ovrW (spC σ 0) m v (dmpW (σ 8 0 12) (σ 908 0)) z b w) σ') : P_X11_over b w σ Q := by
  have m6 := hX.spw.2.2.2.2.1
  unfold P_X11_over
  unfold ovrW at k
  refine t_X8_hasBall (fun b0 b1 => ?_) (fun h => ?_)
  · rw [hX.2.2.1] at b1
    rw [if_neg one_no]
    refine t_X11_within (fun d0 d1 => ?_) (fun h => ?_)
    · rw [if_neg one_no]
      unfold P_X0_firstAsLarge
      refine t_X0_look hX hW hC hL hd b0 b1 (by omega) (Int.le_refl 60) (fun σ1 s1' r1 => ?_)
      have s1 := sm_look b0 (by omega) s1'
      have k := k σ1 (mem_sub (A := foA) (B := qcB) rfl s1)
      rw [if_pos ⟨⟨b0, b1⟩, d0, d1⟩] at k
      refine findF (F := fun n' i => P_X0_firstAsLarge_L9 b w (fun r_6 σ_5 => Q r_6 σ_5) n' i σ1) (N := 61) (K0 := Q (-1) σ1) (K := fun i => Q i σ1) (p := fun d => decide (w ≤ fsz (spC σ 0) v (dmpW (σ 8 0 12) (σ 908 0)) z b d.toNat)) (fun n' i i0 i1 => ?_) (fun n' k => ?_) 61 0 FU (Int.le_refl 0) (by omega) (FU_pos (by omega)) ?_
      · refine ⟨fun hp k => ?_, fun hp k => ?_⟩
        · have hp := of_decide_eq_true hp
          unfold P_X0_firstAsLarge_L9
          rw [if_neg (by omega), r1 i i0 (by omega), if_neg (by omega)]
          exact ⟨b0, by omega, i0, by omega, k⟩
        · have hp := of_decide_eq_false hp
          unfold P_X0_firstAsLarge_L9
          rw [if_neg (by omega), r1 i i0 (by omega), if_pos (by omega), wi_id (by omega) (by omega)]
          exact ⟨b0, by omega, i0, by omega, k⟩
      · unfold P_X0_firstAsLarge_L9
        rw [if_pos (by omega)]
        exact k
      · unfold ovd at k
        split <;> rename_i h <;> rw [h] at k <;> exact k
    · have k := k σ Sm.rf
      rw [if_neg (fun q => h q.2)] at k
      rw [if_pos rfl]
      exact k
  · rw [hX.2.2.1] at h
    have k := k σ Sm.rf
    rw [if_neg (fun q => h q.1)] at k
    rw [if_pos rfl]
    exact k
end
