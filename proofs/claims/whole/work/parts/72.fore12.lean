/-! 72: days ahead: the reference goes there -/
/-- what a question of the reference may change -/
def qrB : List Reg := [(1346, 0, none), (1347, 0, none), (1348, 0, none), (1355, 0, none), (1357, 0, none), (12, 0, some 0), (12, 0, some 54), (12, 0, some 56), (12, 0, some 58)] ++ weA
def deB : List Reg := (12, 0, some 56) :: (1357, 0, none) :: deA
def dyN (s : Sp) (m : Int) (v : V4) (dm : Int → Int) (z : Ab) : Nat → Ab
  | 0 => z
  | i + 1 => dayW s m v (dm (zDay (dyN s m v dm z i))) (dyN s m v dm z i)
theorem zSize_pasK {s : Sp} : ∀ (k : Nat) {z : Ab}, zSize (pasK s k z) = zSize z
  | 0, _ => rfl
  | k + 1, z => by
    show zSize (pasK s k (pasW s z)) = zSize z
    rw [zSize_pasK k]
    rfl
theorem zRun_pasK {s : Sp} : ∀ (k : Nat) {z : Ab}, zRun (pasK s k z) = zRun z
  | 0, _ => rfl
  | k + 1, z => by
    show zRun (pasK s k (pasW s z)) = zRun z
    rw [zRun_pasK k]
    rfl
theorem zGap_pasK {s : Sp} : ∀ (k : Nat) {z : Ab}, zGap (pasK s k z) = zGap z
  | 0, _ => rfl
  | k + 1, z => by
    show zGap (pasK s k (pasW s z)) = zGap z
    rw [zGap_pasK k]
    rfl
theorem dy_day {s : Sp} {m : Int} {v : V4} {e : Int} {z : Ab} : zDay (dayW s m v e z) = zDay z + 1 := by
  show zDay (pasK s _ z) + 1 = _
  rw [zDay_pasK]
theorem dy_gap {s : Sp} {m : Int} {v : V4} {e : Int} {z : Ab} : zGap (dayW s m v e z) = zGap z := by
  show zGap (pasK s _ z) = _
  rw [zGap_pasK]
theorem dy_run {s : Sp} {m : Int} {v : V4} {e b : Int} {z : Ab} : zRun (dayW s m v e z) b = 0 := rfl
theorem dy_size {s : Sp} {m : Int} {v : V4} {e b : Int} {z : Ab} : zSize (dayW s m v e z) b = wornW (s.2.2.2.2.2 b) (v (zSize z b) (zRun z b) e (zDay z)) (zSize z b) := by
  show wornW (s.2.2.2.2.2 b) (v (zSize (pasK s _ z) b) (zRun (pasK s _ z) b) e (zDay (pasK s _ z))) (zSize (pasK s _ z) b) = _
  rw [zSize_pasK, zRun_pasK, zDay_pasK]
theorem dyN_day {s : Sp} {m : Int} {v : V4} {dm : Int → Int} {z : Ab} : ∀ i : Nat, zDay (dyN s m v dm z i) = zDay z + i
  | 0 => by show zDay z = _; simp
  | i + 1 => by
    show zDay (dayW s m v _ (dyN s m v dm z i)) = _
    rw [dy_day, dyN_day i]
    omega
theorem dyN_gap {s : Sp} {m : Int} {v : V4} {dm : Int → Int} {z : Ab} : ∀ i : Nat, zGap (dyN s m v dm z i) = zGap z
  | 0 => rfl
  | i + 1 => by
    show zGap (dayW s m v _ (dyN s m v dm z i)) = _
    rw [dy_gap, dyN_gap i]
theorem dyN_run {s : Sp} {m : Int} {v : V4} {dm : Int → Int} {z : Ab} {b : Int} : ∀ i : Nat, zRun (dyN s m v dm z i) b = if i = 0 then zRun z b else 0
  | 0 => rfl
  | i + 1 => rfl
theorem dyN_size {s : Sp} {m : Int} {v : V4} {dm : Int → Int} {z : Ab} {b : Int} : ∀ i : Nat, zSize (dyN s m v dm z i) b = fsz s v dm z b i
  | 0 => rfl
  | i + 1 => by
    show zSize (dayW s m v _ (dyN s m v dm z i)) b = _
    rw [dy_size, dyN_size i, dyN_run i, dyN_day i]
    rfl
theorem dyN_fld {s : Sp} {m : Int} {v : V4} {dm : Int → Int} {z : Ab} {b d : Int} : fllW s (dyN s m v dm z d.toNat) (zSize (dyN s m v dm z d.toNat) b) = fld s v dm z b d := by
  unfold fllW fld fllW
  rw [dyN_gap, dyN_size]
theorem WfZ_dyN {n m dk : Int} {s : Sp} {v : V4} {dm : Int → Int} {z : Ab} (hs : SpW n m dk s) (hW : WfZ n m dk z) : ∀ i : Nat, zDay z + i ≤ 1000000 → WfZ n m dk (dyN s m v dm z i)
  | 0, _ => hW
  | i + 1, h => WfZ_day hs (WfZ_dyN hs hW i (by omega)) (by rw [dyN_day]; omega)
section
variable {n m dk : Int} {z : Ab} {σ : St}
theorem t_told {v : V4} {Q : Int → St → Prop} (hX : Cxt n m dk σ) (hE : ShE σ) (hW : WfZ n m dk z) (hC : StA n m (σ 1346 0) z) (hL : LwA v σ) (hd : zDay z < 1000000)
    (k : ∀ σ', Sm deA σ σ' → StA n m (σ' 1346 0) (dayW (spC σ 0) m v (dmpW (σ 8 0 12) (σ 908 0) (zDay z)) z) → ∀ r, Q r σ') : P_X12_endsAsTold σ Q := by
  unfold P_X12_endsAsTold
  rw [hC.1]
  refine t_X12_dampOf hX.1 hE hW.1.1 ?_
  exact t_X12_ends hX hE hW hC hL hd (dmpW_rng hX.1 hW.1.1) (fun σ1 s1 c1 _ => k σ1 s1 c1 _)
/-- the i-th day tried -/
def Dy (n m dk : Int) (v : V4) (z : Ab) (σ : St) (i : Int) (τ : St) : Prop := Sm deB σ τ ∧ StA n m (τ 1346 0) (dyN (spC σ 0) m v (dmpW (σ 8 0 12) (σ 908 0)) z i.toNat)
/-- all that is known on that day -/
def Bas (n m dk : Int) (v : V4) (z : Ab) (σ : St) : Prop := Cxt n m dk σ ∧ ShE σ ∧ WfZ n m dk z ∧ StA n m (σ 1346 0) z ∧ LwA v σ ∧ zDay z < 900000
theorem Dy_0 {v : V4} (h : Bas n m dk v z σ) : Dy n m dk v z σ 0 σ := ⟨Sm.rf, h.2.2.2.1⟩
theorem t_Dy {v : V4} {i : Int} {τ : St} {Q : Int → St → Prop} (hB : Bas n m dk v z σ) (hD : Dy n m dk v z σ i τ) (i0 : 0 ≤ i) (i1 : i ≤ 90000)
    (k : ∀ σ', Dy n m dk v z σ (i + 1) σ' → ∀ r, Q r σ') : P_X12_endsAsTold τ Q := by
  obtain ⟨hX, hE, hW, hC, hL, hd⟩ := hB
  obtain ⟨hs, hc⟩ := hD
  have ei : ((i.toNat : Nat) : Int) = i := Int.toNat_of_nonneg i0
  refine t_told (Cxt_keep hs rfl hX) (ShE_keep hs rfl hE) (WfZ_dyN hX.spw hW i.toNat (by omega)) hc (LwA_keep hs rfl hL) (by rw [dyN_day]; omega) (fun σ1 s1 c1 r => ?_)
  rw [show spC τ 0 = spC σ 0 from spC_keep hs rfl, hs.row (t := 8) (i := 0) rfl, hs.row (t := 908) (i := 0) rfl] at c1
  refine k σ1 ⟨hs.tr (mem_sub (B := deB) rfl s1), ?_⟩ r
  rw [show (i + 1).toNat = i.toNat + 1 by omega]
  exact c1
theorem Dy_cxt {v : V4} {i : Int} {τ : St} (hB : Bas n m dk v z σ) (hD : Dy n m dk v z σ i τ) : Cxt n m dk τ ∧ ShE τ ∧ spC τ 0 = spC σ 0 ∧ ∀ b : Int, 0 ≤ b → b < m → τ 1317 0 b = σ 906 0 b := by
  obtain ⟨hX, hE, hW, hC, hL, hd⟩ := hB
  have e := ShE_keep hD.1 rfl hE
  have x := Cxt_keep hD.1 rfl hX
  refine ⟨x, e, spC_keep hD.1 rfl, fun b b0 b1 => ?_⟩
  rw [(e.2.2.2.2.2.1 b b0 (by rw [x.2.2.1]; exact b1)).2.2, hD.1.row (t := 906) (i := 0) rfl]
theorem t_Dy_fall {v : V4} {i b : Int} {τ : St} {Q : Int → St → Prop} (hB : Bas n m dk v z σ) (hD : Dy n m dk v z σ i τ) (b0 : 0 ≤ b) (b1 : b < m)
    (k : Q (fld (spC σ 0) v (dmpW (σ 8 0 12) (σ 908 0)) z b i) τ) : P_X12_fallOf b τ Q := by
  obtain ⟨x, e, es, -⟩ := Dy_cxt hB hD
  refine t_X12_fallOf x e hD.2 b0 b1 ?_
  rw [es, dyN_fld]
  exact k
/-- the day's state put aside for the trial, and back -/
theorem Bas_look {v : V4} (hB : Bas n m dk v z σ) : Bas n m dk v z (up σ 12 0 0 0) ∧ Sm q0A σ (up σ 12 0 0 0) := by
  obtain ⟨hX, hE, hW, hC, hL, hd⟩ := hB
  obtain ⟨hX0, hE0, hC0, s0⟩ := look0 hX hE hC
  exact ⟨⟨hX0, hE0, hW, hC0, LwA_keep s0 rfl hL, hd⟩, s0⟩
theorem t_Bas_aside {v : V4} {Q : St → Prop} (hB : Bas n m dk v z σ) (k : ∀ σ', Sm [(1348, 0, none)] σ σ' → Bas n m dk v z σ' → StA n m (σ' 1348 0) z → Q σ') : P_X12_copies 1346 0 0 1348 0 0 σ Q := by
  obtain ⟨hX, hE, hW, hC, hL, hd⟩ := hB
  exact t_aside (t := 1348) rfl rfl hX hW hC (fun σ1 s1 c1 d1 => k σ1 s1 ⟨Cxt_keep s1 rfl hX, ShE_keep s1 rfl hE, hW, c1, LwA_keep s1 rfl hL, hd⟩ d1)
theorem t_Dy_back {v : V4} {τ : St} {Q : St → Prop} (hB : Bas n m dk v z σ) (h48 : StA n m (σ 1348 0) z) (hs : Sm qrB σ τ) (e48 : τ 1348 0 = σ 1348 0) (k : ∀ σ', Sm qrB σ σ' → Sm [(1346, 0, none)] τ σ' → StA n m (σ' 1346 0) z → Q σ') : P_X12_copies 1348 0 0 1346 0 0 τ Q :=
  t_asback (t := 1348) (z := z) rfl rfl (Cxt_keep hs rfl hB.1) hB.2.2.1 (by rw [e48]; exact h48) (fun σ1 s1 c1 => k σ1 (hs.tr (mem_sub (B := qrB) rfl s1)) s1 c1)
theorem t_X12_later {v : V4} {b d : Int} {Q : Int → St → Prop} (hB : Bas n m dk v z σ)
    (k : ∀ σ', Sm qrB σ σ' → StA n m (σ' 1346 0) z → Q (ltrW (spC σ 0) m v (dmpW (σ 8 0 12) (σ 908 0)) z b d) σ') : P_X12_later b d σ Q := by
  have m6 := hB.1.spw.2.2.2.2.1
  obtain ⟨hB0, s0⟩ := Bas_look hB
  unfold P_X12_later
  unfold ltrW at k
  refine t_X12_isBall (m := m) (by rw [hB0.2.1.2.1]; exact hB0.1.2.2.1) (fun b0 b1 => ?_) (fun h => ?_)
  · rw [if_neg one_no]
    refine t_X12_within (fun d0 d1 => ?_) (fun h => ?_)
    · rw [if_neg one_no]
      refine t_Bas_aside hB0 (fun σ1 s1 hB1 c1 => ?_)
      have s01 : Sm qrB σ σ1 := (mem_sub (B := qrB) rfl s0).tr (mem_sub (B := qrB) rfl s1)
      refine loopI (X := St) (F := fun n' i τ => P_X12_later_L40 b d (fun σ_8 => 0 ≤ wi (16 + b) ∧ wi (16 + b) < 46 ∧ P_X12_copies 1348 0 0 1346 0 0 σ_8 (fun σ_9 => Q (σ_8 1346 0 (wi (16 + b))) σ_9)) Q n' i τ) (N := d) (fun i τ => Dy n m dk v z σ1 i τ) ?_ ?_ d.toNat 0 σ1 FU (Int.le_refl 0) (by omega) (FU_pos (by omega)) (Dy_0 hB1)
      · rintro n' i τ i0 i1 hD k'
        unfold P_X12_later_L40
        rw [if_neg (by omega), wi_id (z := i + 1) (by omega) (by omega)]
        exact t_Dy hB1 hD i0 (by omega) (fun σ2 h2 _ => k' σ2 h2)
      · rintro n' τ hD
        unfold P_X12_later_L40
        rw [if_pos (Int.le_refl d), wi_id (z := 16 + b) (by omega) (by omega), (hD.2.2.2.2.2.2.2 b b0 b1).1]
        refine ⟨by omega, by omega, t_Dy_back (v := v) hB1 c1 (mem_sub (A := deB) (B := qrB) rfl hD.1) (hD.1.row rfl) (fun σ2 s2 _ c2 => ?_)⟩
        have k := k σ2 (s01.tr s2) c2
        rw [if_pos ⟨⟨b0, b1⟩, d0, d1⟩] at k
        rw [dyN_size, show spC σ1 0 = spC σ 0 from spC_keep s01 rfl, s01.row (t := 8) (i := 0) rfl, s01.row (t := 908) (i := 0) rfl]
        exact k
    · have k := k _ (mem_sub (B := qrB) rfl s0) hB0.2.2.2.1
      rw [if_neg (fun q => h q.2)] at k
      rw [if_pos rfl]
      exact k
  · have k := k _ (mem_sub (B := qrB) rfl s0) hB0.2.2.2.1
    rw [if_neg (fun q => h q.1)] at k
    rw [if_pos rfl]
    exact k
/-- who strays on a day -/
def saP (s : Sp) (v : V4) (dm hm : Int → Int) (z : Ab) (d b : Int) : Bool := decide (fld s v dm z b d ≠ hm b)
theorem t_Dy_strays {v : V4} {i : Int} {τ : St} {Q : Int → St → Prop} (hB : Bas n m dk v z σ) (hD : Dy n m dk v z σ i τ)
    (k : Q (bts (saP (spC σ 0) v (dmpW (σ 8 0 12) (σ 908 0)) (σ 906 0) z i) m.toNat) τ) : P_X12_strays τ Q := by
  have m6 := hB.1.spw.2.2.2.2.1
  obtain ⟨x, e, es, e17⟩ := Dy_cxt hB hD
  unfold P_X12_strays
  refine loopI (X := Int) (F := fun n' j a => P_X12_strays_L4 Q n' a j τ) (N := m) (fun j a => a = bts (saP (spC σ 0) v (dmpW (σ 8 0 12) (σ 908 0)) (σ 906 0) z i) j.toNat) ?_ ?_ m.toNat 0 0 FU (Int.le_refl 0) (by omega) (FU_pos (by omega)) rfl
  · rintro n' j a j0 j1 ha k'
    have z0 : ∀ q : Int → Bool, bO (bts q j.toNat) 0 = bts q j.toNat := fun q => bO_zero (bts_i32 _ _).1 (bts_i32 _ _).2
    unfold P_X12_strays_L4
    rw [e.2.1, x.2.2.1, if_neg (by omega), wi_id (z := j + 1) (by omega) (by omega)]
    refine t_Dy_fall hB hD j0 j1 ?_
    rw [e17 j j0 j1]
    refine ⟨j0, by omega, ?_⟩
    by_cases h : fld (spC σ 0) v (dmpW (σ 8 0 12) (σ 908 0)) z j i = σ 906 0 j
    · rw [if_pos h]
      refine k' _ ?_
      have : saP (spC σ 0) v (dmpW (σ 8 0 12) (σ 908 0)) (σ 906 0) z i j = false := decide_eq_false (fun q => q h)
      rw [bts_i j0, this, if_neg (by decide), ha, z0]
    · rw [if_neg h]
      refine k' _ ?_
      have : saP (spC σ 0) v (dmpW (σ 8 0 12) (σ 908 0)) (σ 906 0) z i j = true := decide_eq_true h
      rw [bts_i j0, this, if_pos rfl, ha]
  · rintro n' a ha
    unfold P_X12_strays_L4
    rw [e.2.1, x.2.2.1, if_pos (Int.le_refl m), ha]
    exact k
theorem Dy_up {v : V4} {i w x : Int} {t : Nat} {τ : St} (hD : Dy n m dk v z σ i τ) (h : inR deB t 0 x = true) (ht : Nat.beq 1346 t = false) : Dy n m dk v z σ i (up τ t 0 x w) := ⟨Sm_up hD.1 h, by rw [up_oth (Or.inl ht)]; exact hD.2⟩
end
