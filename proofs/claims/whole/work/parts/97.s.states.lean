/-! 97.s: steps keep what holds -/
theorem ps_rs : pasOk rsA = true := by decide
section
variable {σ σ1 σ2 : St} {n m dk K : Int} {v : V4} {e : Nt} {l : Ln} {s : Sn} {ms : Nat → Ab × Ln × Sn} {y : Tp} {z z' : Ab} {c c' : Int} {zs zs' : Int → Ab}
theorem st_fin {A1 A2 : List Reg} (hA : Al n m dk K v e l s ms y z c zs σ) (s1 : Sm A1 σ σ1) (s2 : Sm A2 σ1 σ2) (o1 : hlOk A1 = true) (o2 : hlOk A2 = true) (o3 : noT A2 stT 0 = true) (o4 : pasOk A2 = true)
    (hz : WfZ n m dk z') (hd : zDay z' ≤ K + 1) (c1 : StC n m σ1 0 z') (p1 : PasC n m σ1 c' zs') (a2 : StA n m (σ2 1346 0) z') (p2 : PasA n m σ2 c' zs') (hw : Wfs n m dk c' zs') (hb : ∀ j : Int, 0 ≤ j → j < c' → zDay (zs' j) ≤ K + 1) : Inv (K + 1) σ2 := by
  obtain ⟨h1, -, -⟩ := hA
  obtain ⟨g1, g2, g3, g4, g5⟩ := Hld_keep s2 o2 (Hld_keep s1 o1 h1)
  exact ⟨n, m, dk, v, e, l, s, ms, y, z', c', zs', ⟨g1, g2, g3, MkI_mono (by omega) g4, g5⟩, ⟨hz, hd, StC_keep s2 o3 c1, a2⟩, PasC_keep s2 o4 p1, p2, hw, hb⟩
theorem st_no (hA : Al n m dk K v e l s ms y z c zs σ) (s2 : Sm rsA σ σ2) (e6 : σ2 1346 0 = σ 1346 0) (p2 : PasA n m σ2 c zs) : Inv (K + 1) σ2 := by
  obtain ⟨h1, ⟨w1, w2, w3, w4⟩, q1, q2, q3, q4⟩ := hA
  exact Inv_mono (by omega) ⟨n, m, dk, v, e, l, s, ms, y, z, c, zs, Hld_keep s2 ok_rs h1, ⟨w1, w2, StC_keep s2 rfl w3, by rw [e6]; exact w4⟩, PasC_keep s2 ps_rs q1, p2, q3, q4⟩
theorem pu_day (hA : Al n m dk K v e l s ms y z c zs σ) : ∀ j : Int, 0 ≤ j → j < puC c → zDay (puZ c zs z j) ≤ K + 1 := by
  obtain ⟨-, ⟨w1, w2, -⟩, q1, -, -, q4⟩ := hA
  intro j j0 j1
  have hc := q1.2.1
  unfold puC at j1
  unfold puZ
  split
  · rename_i h
    rw [if_pos h] at j1
    split
    · omega
    · have := q4 j j0 (by omega); omega
  · rename_i h
    rw [if_neg h] at j1
    split
    · omega
    · have := q4 (j + 1) (by omega) (by omega); omega
theorem cs_mid (hA : Al n m dk K v e l s ms y z c zs σ) (s1 : Sm csA σ σ1) : EnvI n m dk v e σ1 ∧ StA n m (σ1 1346 0) z ∧ PasA n m σ1 c zs :=
  ⟨(Hld_keep s1 ok_cs hA.1).1, by rw [s1.row (t := 1346) (i := 0) rfl]; exact hA.2.1.2.2.2, PasA_keep s1 rfl rfl hA.2.2.2.1⟩
theorem step_fin (hA : Al n m dk K v e l s ms y z c zs σ) (s1 : Sm csA σ σ1) (s2 : Sm rsA σ1 σ2) (hz : WfZ n m dk z') (hd : zDay z' ≤ K + 1) (c1 : StC n m σ1 0 z') (p1 : PasC n m σ1 (puC c) (puZ c zs z)) (a2 : StA n m (σ2 1346 0) z') (p2 : PasA n m σ2 (puC c) (puZ c zs z)) : Inv (K + 1) σ2 :=
  st_fin hA s1 s2 ok_cs ok_rs rfl ps_rs hz hd c1 p1 a2 p2 (Wfs_pu hA.2.2.1.2.1 hA.2.2.2.2.1 hA.2.1.1) (pu_day hA)
end
section
variable {K : Int}
theorem sI_send {b : Int} : StpI K (P_X11_send b) (P_X12_send b) := by
  rintro σ ⟨n, m, dk, v, e, l, s, ms, y, z, c, zs, hA⟩ G hG
  have hA : Al n m dk K v e l s ms y z c zs σ := hA
  have hX := hA.1.1.1
  refine t_X11_send hX hA.2.1.1 hA.2.1.2.2.1 hA.2.2.1 (fun hno => hG _ _ (fun Q2 k2 => ?_)) (fun b0 b1 hc σ1 s1 c1 p1 => hG _ _ (fun Q2 k2 => ?_))
  · exact t_X12_send hX hA.1.1.2.1 hA.2.1.1 hA.2.2.2.2.1 hA.2.1.2.2.2 hA.2.2.2.1 (fun _ σ' s' e6 p' => k2 σ' (st_no hA s' e6 p')) (fun b0 b1 hc => absurd ⟨b0, b1, hc⟩ hno)
  · obtain ⟨hE, a1, pa⟩ := cs_mid hA s1
    have es := spC_keep (o := 0) s1 rfl
    refine t_X12_send hE.1 hE.2.1 hA.2.1.1 hA.2.2.2.2.1 a1 pa (fun hno => absurd ⟨b0, b1, hc⟩ hno) (fun _ _ _ σ' s' a' p' => k2 σ' ?_)
    rw [es] at a'
    exact step_fin hA s1 s' (WfZ_snd hX.spw hA.2.1.1 hc.1 b0 b1) (by have := hA.2.1.2.1; show zDay z ≤ K + 1; omega) c1 p1 a' p'
theorem sI_set {x g : Int} : StpI K (P_X11_set x g) (P_X12_set x g) := by
  rintro σ ⟨n, m, dk, v, e, l, s, ms, y, z, c, zs, hA⟩ G hG
  have hA : Al n m dk K v e l s ms y z c zs σ := hA
  have hX := hA.1.1.1
  refine t_X11_set hX hA.2.1.1 hA.2.1.2.2.1 hA.2.2.1 (fun hno => hG _ _ (fun Q2 k2 => ?_)) (fun b0 b1 g0 g1 σ1 s1 c1 p1 => hG _ _ (fun Q2 k2 => ?_))
  · exact t_X12_set hX hA.1.1.2.1 hA.2.1.1 hA.2.2.2.2.1 hA.2.1.2.2.2 hA.2.2.2.1 (fun _ σ' s' e6 p' => k2 σ' (st_no hA s' e6 p')) (fun b0 b1 g0 g1 => absurd ⟨b0, b1, g0, g1⟩ hno)
  · obtain ⟨hE, a1, pa⟩ := cs_mid hA s1
    refine t_X12_set hE.1 hE.2.1 hA.2.1.1 hA.2.2.2.2.1 a1 pa (fun hno => absurd ⟨b0, b1, g0, g1⟩ hno) (fun _ _ _ _ σ' s' a' p' => k2 σ' ?_)
    exact step_fin hA s1 s' (WfZ_set hA.2.1.1 ⟨g0, g1⟩) (by have := hA.2.1.2.1; show zDay z ≤ K + 1; omega) c1 p1 a' p'
theorem sI_carry {b x : Int} : StpI K (P_X11_carry b x) (P_X12_carry b x) := by
  rintro σ ⟨n, m, dk, v, e, l, s, ms, y, z, c, zs, hA⟩ G hG
  have hA : Al n m dk K v e l s ms y z c zs σ := hA
  have hX := hA.1.1.1
  refine t_X11_carry hX hA.2.1.1 hA.2.1.2.2.1 hA.2.2.1 (fun hno => hG _ _ (fun Q2 k2 => ?_)) (fun hc σ1 s1 c1 p1 => hG _ _ (fun Q2 k2 => ?_))
  · exact t_X12_carry hX hA.1.1.2.1 hA.2.1.1 hA.2.2.2.2.1 hA.2.1.2.2.2 hA.2.2.2.1 (fun _ σ' s' e6 p' => k2 σ' (st_no hA s' e6 p')) (fun hc => absurd hc hno)
  · obtain ⟨hE, a1, pa⟩ := cs_mid hA s1
    refine t_X12_carry hE.1 hE.2.1 hA.2.1.1 hA.2.2.2.2.1 a1 pa (fun hno => absurd hc hno) (fun _ σ' s' a' p' => k2 σ' ?_)
    exact step_fin hA s1 s' (WfZ_car hA.2.1.1 hc.2.1) (by have := hA.2.1.2.1; show zDay z ≤ K + 1; omega) c1 p1 a' p'
theorem sI_beat : StpI K (P_X11_beat) (P_X12_beat) := by
  rintro σ ⟨n, m, dk, v, e, l, s, ms, y, z, c, zs, hA⟩ G hG
  have hA : Al n m dk K v e l s ms y z c zs σ := hA
  have hX := hA.1.1.1
  refine t_X11_beat hX hA.2.1.1 hA.2.1.2.2.1 hA.2.2.1 (fun σ1 s1 c1 p1 => hG _ _ (fun Q2 k2 => ?_))
  obtain ⟨hE, a1, pa⟩ := cs_mid hA s1
  have es := spC_keep (o := 0) s1 rfl
  rw [← es] at k2
  refine t_X12_beat hE.1 hE.2.1 hA.2.1.1 hA.2.2.2.2.1 a1 pa (fun σ' s' a' p' => k2 σ' ?_)
  rw [es] at a'
  have hd : zDay (pasW (spC σ 0) z) = zDay z := zDay_pasK (s := spC σ 0) 1
  exact step_fin hA s1 s' (WfZ_pas hX.spw hA.2.1.1) (by have := hA.2.1.2.1; omega) c1 p1 a' p'
theorem sI_day (hK : K < 900000) : StpI K (P_X11_day) (P_X12_day) := by
  rintro σ ⟨n, m, dk, v, e, l, s, ms, y, z, c, zs, hA⟩ G hG
  have hA : Al n m dk K v e l s ms y z c zs σ := hA
  have hX := hA.1.1.1
  have hd : zDay z < 1000000 := by have := hA.2.1.2.1; omega
  refine t_X11_day hX hA.2.1.1 hA.2.1.2.2.1 hA.2.2.1 hA.1.1.2.2.2.1 hd (fun σ1 s1 c1 p1 => hG _ _ (fun Q2 k2 => ?_))
  obtain ⟨hE, a1, pa⟩ := cs_mid hA s1
  have es := spC_keep (o := 0) s1 rfl
  have e8 := s1.row (t := 8) (i := 0) rfl
  have e9 := s1.row (t := 908) (i := 0) rfl
  rw [← es] at k2
  refine t_X12_day hE.1 hE.2.1 hA.2.1.1 hA.2.2.2.2.1 a1 pa hE.2.2.2.2.1 hd (fun σ' s' a' p' => k2 σ' ?_)
  rw [es, e8, e9] at a'
  exact step_fin hA s1 s' (WfZ_day hX.spw hA.2.1.1 hd) (by
    have := hA.2.1.2.1
    have h2 : zDay (dayW (spC σ 0) m v (dmpW (σ 8 0 12) (σ 908 0) (zDay z)) z) = zDay (pasK (spC σ 0) (nAll (spC σ 0) m z) z) + 1 := rfl
    rw [h2, zDay_pasK]
    omega) c1 p1 a' p'
theorem ok_u1 : hlOk ((5, 0, some 1) :: tkA 0) = true := by decide
theorem ok_u2 : hlOk unA = true := by decide
theorem ps_u2 : pasOk unA = true := by decide
theorem sI_undo : StpI K (P_X11_undo) (P_X12_undo) := by
  rintro σ ⟨n, m, dk, v, e, l, s, ms, y, z, c, zs, hA⟩ G hG
  have hA : Al n m dk K v e l s ms y z c zs σ := hA
  have hX := hA.1.1.1
  refine t_X11_undo hX hA.2.2.2.2.1 hA.2.2.1 (fun hc => hG _ _ (fun Q2 k2 => ?_)) (fun hc σ1 s1 c1 p1 => hG _ _ (fun Q2 k2 => ?_))
  · refine t_X12_undo hX hA.2.2.2.2.1 hA.2.2.2.1 (fun _ σ' s' => k2 σ' ?_) (fun h => by omega)
    exact st_no hA (mem_sub rfl s') (s'.row rfl) (PasA_keep s' rfl rfl hA.2.2.2.1)
  · have hE := (Hld_keep s1 ok_u1 hA.1).1
    have pa : PasA n m σ1 c zs := PasA_keep s1 rfl rfl hA.2.2.2.1
    refine t_X12_undo hE.1 hA.2.2.2.2.1 pa (fun h => by omega) (fun _ σ' s' a' p' => k2 σ' ?_)
    have hc16 := hA.2.2.1.2.1
    exact st_fin hA s1 s' ok_u1 ok_u2 rfl ps_u2 (hA.2.2.2.2.1 (c - 1) (by omega) (by omega)) (by have := hA.2.2.2.2.2 (c - 1) (by omega) (by omega); omega) c1 p1 a' p' (fun j j0 j1 => hA.2.2.2.2.1 j j0 (by omega)) (fun j j0 j1 => by have := hA.2.2.2.2.2 j j0 (by omega); omega)
end
