/-! 97.r: questions keep what holds -/
def StpI (K : Int) (P11 P12 : St → (Int → St → Prop) → Prop) : Prop := ∀ σ : St, Inv K σ → ∀ G : Int → St → Prop, (∀ (r : Int) (σ1 : St), (∀ Q2 : Int → St → Prop, (∀ σ', Inv (K + 1) σ' → Q2 r σ') → P12 σ1 Q2) → G r σ1) → P11 σ G
section
variable {σ σ1 σ2 : St} {n m dk K : Int} {v : V4} {e : Nt} {l : Ln} {s : Sn} {ms : Nat → Ab × Ln × Sn} {y : Tp} {z : Ab} {c : Int} {zs : Int → Ab}
def Al (n m dk K : Int) (v : V4) (e : Nt) (l : Ln) (s : Sn) (ms : Nat → Ab × Ln × Sn) (y : Tp) (z : Ab) (c : Int) (zs : Int → Ab) (σ : St) : Prop := Hld n m dk K v e l s ms y σ ∧ NwI n m dk K σ z ∧ PsI n m dk K σ c zs
def qcU : List Reg := qcA ++ qcB
theorem ok_qu : hlOk qcU = true := by decide
theorem ps_qu : pasOk qcU = true := by decide
theorem q_mid (h : Al n m dk K v e l s ms y z c zs σ) (s1 : Sm qcU σ σ1) : Al n m dk K v e l s ms y z c zs σ1 := by
  obtain ⟨h1, ⟨w1, w2, w3, w4⟩, h3⟩ := h
  exact ⟨Hld_keep s1 ok_qu h1, ⟨w1, w2, StC_keep s1 rfl w3, by rw [s1.row (t := 1346) (i := 0) rfl]; exact w4⟩, PsI_keep s1 ps_qu rfl rfl h3⟩
theorem ps_qr : pasOk qrB = true := by decide
theorem q_fin (h : Al n m dk K v e l s ms y z c zs σ1) (s2 : Sm qrB σ1 σ2) (hA : StA n m (σ2 1346 0) z) : Inv (K + 1) σ2 := by
  obtain ⟨h1, ⟨w1, w2, w3, w4⟩, h3⟩ := h
  exact Inv_mono (by omega) ⟨n, m, dk, v, e, l, s, ms, y, z, c, zs, Hld_keep s2 ok_qr h1, ⟨w1, w2, StC_keep s2 rfl w3, hA⟩, PsI_keep s2 ps_qr rfl rfl h3⟩
theorem Al_bas (h : Al n m dk K v e l s ms y z c zs σ) (hK : K < 900000) : Bas n m dk v z σ := by
  obtain ⟨⟨⟨c1, c2, c3, c4, c5, c6⟩, -⟩, ⟨w1, w2, w3, w4⟩, -⟩ := h
  exact ⟨c1, c2, w1, w4, c5, by omega⟩
end
section
variable {K : Int}
theorem sI_counter {a b : Int} : StpI K (P_X11_counter a b) (P_X12_counter a b) := by
  rintro σ ⟨n, m, dk, v, e, l, s, ms, y, z, c, zs, hA⟩ G hG
  have hA : Al n m dk K v e l s ms y z c zs σ := hA
  refine t_X11_counter hA.1.1.1 hA.2.1.2.2.1 (hG _ _ (fun Q2 k2 => ?_))
  exact t_X12_counter hA.1.1.1 hA.1.1.2.1 hA.2.1.2.2.2 (fun σ' s' => k2 σ' (q_fin hA (mem_sub rfl s') (by rw [s'.row (t := 1346) (i := 0) rfl]; exact hA.2.1.2.2.2)))
theorem sI_ball {a b : Int} : StpI K (P_X11_ball a b) (P_X12_ball a b) := by
  rintro σ ⟨n, m, dk, v, e, l, s, ms, y, z, c, zs, hA⟩ G hG
  have hA : Al n m dk K v e l s ms y z c zs σ := hA
  refine t_X11_ball hA.1.1.1 hA.2.1.2.2.1 (hG _ _ (fun Q2 k2 => ?_))
  exact t_X12_ball hA.1.1.1 hA.1.1.2.1 hA.2.1.2.2.2 (fun σ' s' => k2 σ' (q_fin hA (mem_sub rfl s') (by rw [s'.row (t := 1346) (i := 0) rfl]; exact hA.2.1.2.2.2)))
theorem sI_row {a : Int} : StpI K (P_X11_row a) (P_X12_row a) := by
  rintro σ ⟨n, m, dk, v, e, l, s, ms, y, z, c, zs, hA⟩ G hG
  have hA : Al n m dk K v e l s ms y z c zs σ := hA
  refine t_X11_row hA.1.1.1 hA.2.1.1 hA.2.1.2.2.1 (hG _ _ (fun Q2 k2 => ?_))
  exact t_X12_row hA.1.1.1 hA.1.1.2.1 hA.2.1.1 hA.2.1.2.2.2 (fun σ' s' => k2 σ' (q_fin hA (mem_sub rfl s') (by rw [s'.row (t := 1346) (i := 0) rfl]; exact hA.2.1.2.2.2)))
theorem sI_falls {a : Int} : StpI K (P_X11_falls a) (P_X12_falls a) := by
  rintro σ ⟨n, m, dk, v, e, l, s, ms, y, z, c, zs, hA⟩ G hG
  have hA : Al n m dk K v e l s ms y z c zs σ := hA
  refine t_X11_falls hA.1.1.1 hA.2.1.2.2.1 (hG _ _ (fun Q2 k2 => ?_))
  exact t_X12_falls hA.1.1.1 hA.1.1.2.1 hA.2.1.2.2.2 (fun σ' s' => k2 σ' (q_fin hA (mem_sub rfl s') (by rw [s'.row (t := 1346) (i := 0) rfl]; exact hA.2.1.2.2.2)))
theorem sI_catches {a : Int} : StpI K (P_X11_catches a) (P_X12_catches a) := by
  rintro σ ⟨n, m, dk, v, e, l, s, ms, y, z, c, zs, hA⟩ G hG
  have hA : Al n m dk K v e l s ms y z c zs σ := hA
  refine t_X11_catches hA.1.1.1 hA.2.1.2.2.1 (hG _ _ (fun Q2 k2 => ?_))
  exact t_X12_catches hA.1.1.1 hA.1.1.2.1 hA.2.1.2.2.2 (fun σ' s' => k2 σ' (q_fin hA (mem_sub rfl s') (by rw [s'.row (t := 1346) (i := 0) rfl]; exact hA.2.1.2.2.2)))
theorem sI_lost : StpI K (P_X11_lost ) (P_X12_lost ) := by
  rintro σ ⟨n, m, dk, v, e, l, s, ms, y, z, c, zs, hA⟩ G hG
  have hA : Al n m dk K v e l s ms y z c zs σ := hA
  refine t_X11_lost hA.1.1.1 hA.2.1.2.2.1 (hG _ _ (fun Q2 k2 => ?_))
  exact t_X12_lost hA.1.1.1 hA.1.1.2.1 hA.2.1.2.2.2 (fun σ' s' => k2 σ' (q_fin hA (mem_sub rfl s') (by rw [s'.row (t := 1346) (i := 0) rfl]; exact hA.2.1.2.2.2)))
theorem sI_crowd : StpI K (P_X11_crowd ) (P_X12_crowd ) := by
  rintro σ ⟨n, m, dk, v, e, l, s, ms, y, z, c, zs, hA⟩ G hG
  have hA : Al n m dk K v e l s ms y z c zs σ := hA
  refine t_X11_crowd hA.1.1.1 hA.2.1.2.2.1 (hG _ _ (fun Q2 k2 => ?_))
  exact t_X12_crowd hA.1.1.1 hA.1.1.2.1 hA.2.1.2.2.2 (fun σ' s' => k2 σ' (q_fin hA (mem_sub rfl s') (by rw [s'.row (t := 1346) (i := 0) rfl]; exact hA.2.1.2.2.2)))
theorem sI_span {a b : Int} : StpI K (P_X11_span a b) (P_X12_span a b) := by
  rintro σ ⟨n, m, dk, v, e, l, s, ms, y, z, c, zs, hA⟩ G hG
  have hA : Al n m dk K v e l s ms y z c zs σ := hA
  refine t_X11_span hA.1.1.1 hA.2.1.2.2.1 (hG _ _ (fun Q2 k2 => ?_))
  exact t_X12_span hA.1.1.1 hA.1.1.2.1 hA.2.1.2.2.2 (fun σ' s' => k2 σ' (q_fin hA (mem_sub rfl s') (by rw [s'.row (t := 1346) (i := 0) rfl]; exact hA.2.1.2.2.2)))
theorem sI_idle : StpI K (P_X11_idle ) (P_X12_idle ) := by
  rintro σ ⟨n, m, dk, v, e, l, s, ms, y, z, c, zs, hA⟩ G hG
  have hA : Al n m dk K v e l s ms y z c zs σ := hA
  refine t_X11_idle hA.1.1.1 hA.2.1.2.2.1 (hG _ _ (fun Q2 k2 => ?_))
  exact t_X12_idle hA.1.1.1 hA.1.1.2.1 hA.2.1.2.2.2 (fun σ' s' => k2 σ' (q_fin hA (mem_sub rfl s') (by rw [s'.row (t := 1346) (i := 0) rfl]; exact hA.2.1.2.2.2)))
theorem sI_twins : StpI K (P_X11_twins ) (P_X12_twins ) := by
  rintro σ ⟨n, m, dk, v, e, l, s, ms, y, z, c, zs, hA⟩ G hG
  have hA : Al n m dk K v e l s ms y z c zs σ := hA
  refine t_X11_twins hA.1.1.1 hA.2.1.2.2.1 (hG _ _ (fun Q2 k2 => ?_))
  exact t_X12_twins hA.1.1.1 hA.1.1.2.1 hA.2.1.2.2.2 (fun σ' s' => k2 σ' (q_fin hA (mem_sub rfl s') (by rw [s'.row (t := 1346) (i := 0) rfl]; exact hA.2.1.2.2.2)))
theorem sI_shave {a : Int} : StpI K (P_X11_shave a) (P_X12_shave a) := by
  rintro σ ⟨n, m, dk, v, e, l, s, ms, y, z, c, zs, hA⟩ G hG
  have hA : Al n m dk K v e l s ms y z c zs σ := hA
  refine t_X11_shave hA.1.1.1 hA.2.1.1 hA.2.1.2.2.1 (hG _ _ (fun Q2 k2 => ?_))
  exact t_X12_shave hA.1.1.1 hA.1.1.2.1 hA.2.1.1 hA.2.1.2.2.2 (fun σ' s' => k2 σ' (q_fin hA (mem_sub rfl s') (by rw [s'.row (t := 1346) (i := 0) rfl]; exact hA.2.1.2.2.2)))
theorem sI_back {a : Int} : StpI K (P_X11_back a) (P_X12_back a) := by
  rintro σ ⟨n, m, dk, v, e, l, s, ms, y, z, c, zs, hA⟩ G hG
  have hA : Al n m dk K v e l s ms y z c zs σ := hA
  skip
  refine t_X11_back hA.1.1.1 hA.2.1.1 hA.2.1.2.2.1 (fun σ1 s1 => hG _ _ (fun Q2 k2 => ?_))
  have s1 : Sm qcU σ σ1 := mem_sub rfl s1
  have hM := q_mid hA s1
  rw [← spC_keep (o := 0) s1 rfl] at k2
  exact t_X12_back hM.1.1.1 hM.1.1.2.1 hM.2.1.1 hM.2.1.2.2.2 (fun σ' s' hA' => k2 σ' (q_fin hM (mem_sub rfl s') hA'))
theorem sI_trip {a : Int} : StpI K (P_X11_trip a) (P_X12_trip a) := by
  rintro σ ⟨n, m, dk, v, e, l, s, ms, y, z, c, zs, hA⟩ G hG
  have hA : Al n m dk K v e l s ms y z c zs σ := hA
  skip
  refine t_X11_trip hA.1.1.1 hA.2.1.1 hA.2.1.2.2.1 (fun σ1 s1 => hG _ _ (fun Q2 k2 => ?_))
  have s1 : Sm qcU σ σ1 := mem_sub rfl s1
  have hM := q_mid hA s1
  rw [← spC_keep (o := 0) s1 rfl] at k2
  exact t_X12_trip hM.1.1.1 hM.1.1.2.1 hM.2.1.1 hM.2.1.2.2.2 (fun σ' s' hA' => k2 σ' (q_fin hM (mem_sub rfl s') hA'))
theorem sI_rest : StpI K (P_X11_rest ) (P_X12_rest ) := by
  rintro σ ⟨n, m, dk, v, e, l, s, ms, y, z, c, zs, hA⟩ G hG
  have hA : Al n m dk K v e l s ms y z c zs σ := hA
  skip
  refine t_X11_rest hA.1.1.1 hA.2.1.1 hA.2.1.2.2.1 (fun σ1 s1 => hG _ _ (fun Q2 k2 => ?_))
  have s1 : Sm qcU σ σ1 := mem_sub rfl s1
  have hM := q_mid hA s1
  rw [← spC_keep (o := 0) s1 rfl] at k2
  exact t_X12_rest hM.1.1.1 hM.1.1.2.1 hM.2.1.1 hM.2.1.2.2.2 (fun σ' s' hA' => k2 σ' (q_fin hM (mem_sub rfl s') hA'))
theorem sI_swap : StpI K (P_X11_swap ) (P_X12_swap ) := by
  rintro σ ⟨n, m, dk, v, e, l, s, ms, y, z, c, zs, hA⟩ G hG
  have hA : Al n m dk K v e l s ms y z c zs σ := hA
  skip
  refine t_X11_swap hA.1.1.1 hA.2.1.1 hA.2.1.2.2.1 (fun σ1 s1 => hG _ _ (fun Q2 k2 => ?_))
  have s1 : Sm qcU σ σ1 := mem_sub rfl s1
  have hM := q_mid hA s1
  rw [← spC_keep (o := 0) s1 rfl, ← s1.row (t := 906) (i := 0) rfl] at k2
  exact t_X12_swap hM.1.1.1 hM.1.1.2.1 hM.2.1.1 hM.2.1.2.2.2 (fun σ' s' hA' => k2 σ' (q_fin hM (mem_sub rfl s') hA'))
theorem sI_last : StpI K (P_X11_last ) (P_X12_last ) := by
  rintro σ ⟨n, m, dk, v, e, l, s, ms, y, z, c, zs, hA⟩ G hG
  have hA : Al n m dk K v e l s ms y z c zs σ := hA
  skip
  refine t_X11_last hA.1.1.1 hA.2.1.1 hA.2.1.2.2.1 (fun σ1 s1 => hG _ _ (fun Q2 k2 => ?_))
  have s1 : Sm qcU σ σ1 := mem_sub rfl s1
  have hM := q_mid hA s1
  rw [← spC_keep (o := 0) s1 rfl] at k2
  exact t_X12_last hM.1.1.1 hM.1.1.2.1 hM.2.1.1 hM.2.1.2.2.2 (fun σ' s' hA' => k2 σ' (q_fin hM (mem_sub rfl s') hA'))
theorem sI_weeks {a b d : Int} (hK : K < 900000) : StpI K (P_X11_weeks a b d) (P_X12_weeks a b d) := by
  rintro σ ⟨n, m, dk, v, e, l, s, ms, y, z, c, zs, hA⟩ G hG
  have hA : Al n m dk K v e l s ms y z c zs σ := hA
  have hd : zDay z < 900000 := by have := hA.2.1.2.1; omega
  refine t_X11_weeks hA.1.1.1 hA.2.1.1 hA.2.1.2.2.1 hA.1.1.2.2.2.1 hd (fun σ1 s1 => hG _ _ (fun Q2 k2 => ?_))
  have s1 : Sm qcU σ σ1 := mem_sub rfl s1
  have hM := q_mid hA s1
  rw [← spC_keep (o := 0) s1 rfl, ← s1.row (t := 8) (i := 0) rfl, ← s1.row (t := 908) (i := 0) rfl, ← s1.row (t := 906) (i := 0) rfl] at k2
  exact t_X12_weeks hM.1.1.1 hM.1.1.2.1 hM.2.1.1 hM.2.1.2.2.2 hM.1.1.2.2.2.2.1 hd (fun σ' s' hA' => k2 σ' (q_fin hM (mem_sub rfl s') hA'))
theorem sI_later {a b : Int} (hK : K < 900000) : StpI K (P_X11_later a b) (P_X12_later a b) := by
  rintro σ ⟨n, m, dk, v, e, l, s, ms, y, z, c, zs, hA⟩ G hG
  have hA : Al n m dk K v e l s ms y z c zs σ := hA
  have hd : zDay z < 900000 := by have := hA.2.1.2.1; omega
  refine t_X11_later hA.1.1.1 hA.2.1.1 hA.2.1.2.2.1 hA.1.1.2.2.2.1 hd (fun σ1 s1 => hG _ _ (fun Q2 k2 => ?_))
  have s1 : Sm qcU σ σ1 := mem_sub rfl s1
  have hM := q_mid hA s1
  have hB := Al_bas hM hK
  rw [← spC_keep (o := 0) s1 rfl, ← s1.row (t := 8) (i := 0) rfl, ← s1.row (t := 908) (i := 0) rfl] at k2
  exact t_X12_later hB (fun σ' s' hA' => k2 σ' (q_fin hM (mem_sub rfl s') hA'))
theorem sI_stray {a : Int} (hK : K < 900000) : StpI K (P_X11_stray a) (P_X12_stray a) := by
  rintro σ ⟨n, m, dk, v, e, l, s, ms, y, z, c, zs, hA⟩ G hG
  have hA : Al n m dk K v e l s ms y z c zs σ := hA
  have hd : zDay z < 900000 := by have := hA.2.1.2.1; omega
  refine t_X11_stray hA.1.1.1 hA.2.1.1 hA.2.1.2.2.1 hA.1.1.2.2.2.1 hd (fun σ1 s1 => hG _ _ (fun Q2 k2 => ?_))
  have s1 : Sm qcU σ σ1 := mem_sub rfl s1
  have hM := q_mid hA s1
  have hB := Al_bas hM hK
  rw [← spC_keep (o := 0) s1 rfl, ← s1.row (t := 8) (i := 0) rfl, ← s1.row (t := 908) (i := 0) rfl, ← s1.row (t := 906) (i := 0) rfl] at k2
  exact t_X12_stray hB (fun σ' s' hA' => k2 σ' (q_fin hM (mem_sub rfl s') hA'))
theorem sI_over {a b : Int} (hK : K < 900000) : StpI K (P_X11_over a b) (P_X12_over a b) := by
  rintro σ ⟨n, m, dk, v, e, l, s, ms, y, z, c, zs, hA⟩ G hG
  have hA : Al n m dk K v e l s ms y z c zs σ := hA
  have hd : zDay z < 900000 := by have := hA.2.1.2.1; omega
  refine t_X11_over hA.1.1.1 hA.2.1.1 hA.2.1.2.2.1 hA.1.1.2.2.2.1 hd (fun σ1 s1 => hG _ _ (fun Q2 k2 => ?_))
  have s1 : Sm qcU σ σ1 := mem_sub rfl s1
  have hM := q_mid hA s1
  have hB := Al_bas hM hK
  rw [← spC_keep (o := 0) s1 rfl, ← s1.row (t := 8) (i := 0) rfl, ← s1.row (t := 908) (i := 0) rfl] at k2
  exact t_X12_over hB (fun σ' s' hA' => k2 σ' (q_fin hM (mem_sub rfl s') hA'))
theorem sI_safe {a : Int} (hK : K < 900000) : StpI K (P_X11_safe a) (P_X12_safe a) := by
  rintro σ ⟨n, m, dk, v, e, l, s, ms, y, z, c, zs, hA⟩ G hG
  have hA : Al n m dk K v e l s ms y z c zs σ := hA
  have hd : zDay z < 900000 := by have := hA.2.1.2.1; omega
  refine t_X11_safe hA.1.1.1 hA.2.1.1 hA.2.1.2.2.1 hA.1.1.2.2.2.1 hd (fun σ1 s1 => hG _ _ (fun Q2 k2 => ?_))
  have s1 : Sm qcU σ σ1 := mem_sub rfl s1
  have hM := q_mid hA s1
  have hB := Al_bas hM hK
  rw [← spC_keep (o := 0) s1 rfl, ← s1.row (t := 8) (i := 0) rfl, ← s1.row (t := 908) (i := 0) rfl, ← s1.row (t := 906) (i := 0) rfl] at k2
  exact t_X12_safe hB (fun σ' s' hA' => k2 σ' (q_fin hM (mem_sub rfl s') hA'))
theorem sI_wide {a : Int} (hK : K < 900000) : StpI K (P_X11_wide a) (P_X12_wide a) := by
  rintro σ ⟨n, m, dk, v, e, l, s, ms, y, z, c, zs, hA⟩ G hG
  have hA : Al n m dk K v e l s ms y z c zs σ := hA
  have hd : zDay z < 900000 := by have := hA.2.1.2.1; omega
  refine t_X11_wide hA.1.1.1 hA.2.1.1 hA.2.1.2.2.1 hA.1.1.2.2.2.1 hd (fun σ1 s1 => hG _ _ (fun Q2 k2 => ?_))
  have s1 : Sm qcU σ σ1 := mem_sub rfl s1
  have hM := q_mid hA s1
  have hB := Al_bas hM hK
  rw [← spC_keep (o := 0) s1 rfl, ← s1.row (t := 8) (i := 0) rfl, ← s1.row (t := 908) (i := 0) rfl] at k2
  exact t_X12_wide hB (fun σ' s' hA' => k2 σ' (q_fin hM (mem_sub rfl s') hA'))
theorem sI_chance {a b d : Int} (hK : K < 900000) : StpI K (P_X11_chance a b d) (P_X12_chance a b d) := by
  rintro σ ⟨n, m, dk, v, e, l, s, ms, y, z, c, zs, hA⟩ G hG
  have hA : Al n m dk K v e l s ms y z c zs σ := hA
  have hd : zDay z < 900000 := by have := hA.2.1.2.1; omega
  refine t_X11_chance hA.1.1.1 hA.2.1.1 hA.2.1.2.2.1 hA.1.1.2.2.2.1 hd (fun σ1 s1 => hG _ _ (fun Q2 k2 => ?_))
  have s1 : Sm qcU σ σ1 := mem_sub rfl s1
  have hM := q_mid hA s1
  have hB := Al_bas hM hK
  rw [← spC_keep (o := 0) s1 rfl, ← s1.row (t := 906) (i := 0) rfl] at k2
  exact t_X12_chance hB (fun σ' s' hA' => k2 σ' (q_fin hM (mem_sub rfl s') hA'))
theorem sI_who (hK : K < 900000) : StpI K (P_X11_who ) (P_X12_who ) := by
  rintro σ ⟨n, m, dk, v, e, l, s, ms, y, z, c, zs, hA⟩ G hG
  have hA : Al n m dk K v e l s ms y z c zs σ := hA
  have hd : zDay z < 900000 := by have := hA.2.1.2.1; omega
  refine t_X11_who hA.1.1.1 hA.2.1.1 hA.2.1.2.2.1 hA.1.1.2.2.2.1 hd hA.1.2.2.1.2.2.2.1 hA.1.2.2.1.2.2.2.2.2.1 (fun σ1 s1 => hG _ _ (fun Q2 k2 => ?_))
  have s1 : Sm qcU σ σ1 := mem_sub rfl s1
  have hM := q_mid hA s1
  have hB := Al_bas hM hK
  rw [← spC_keep (o := 0) s1 rfl, ← s1.row (t := 8) (i := 0) rfl, ← s1.row (t := 908) (i := 0) rfl] at k2
  exact t_who12 hB hM.1.2.2.1.2.2.2.2.1 hM.1.2.2.1.2.2.2.2.2.1 (fun σ' s' hA' _ => k2 σ' (q_fin hM (mem_sub rfl s') hA'))
theorem sI_ask (hK : K < 900000) : StpI K (P_X11_ask ) (P_X12_ask ) := by
  rintro σ ⟨n, m, dk, v, e, l, s, ms, y, z, c, zs, hA⟩ G hG
  have hA : Al n m dk K v e l s ms y z c zs σ := hA
  have hd : zDay z < 900000 := by have := hA.2.1.2.1; omega
  refine t_X11_ask hA.1.1.1 hA.2.1.1 hA.2.1.2.2.1 hA.1.1.2.2.2.1 hd hA.1.2.2.1.2.2.2.1 hA.1.2.2.1.2.2.2.2.2.1 (fun σ1 s1 => hG _ _ (fun Q2 k2 => ?_))
  have s1 : Sm qcU σ σ1 := mem_sub rfl s1
  have hM := q_mid hA s1
  have hB := Al_bas hM hK
  rw [← spC_keep (o := 0) s1 rfl, ← s1.row (t := 8) (i := 0) rfl, ← s1.row (t := 908) (i := 0) rfl] at k2
  exact t_X12_ask hB hM.1.2.2.1.2.2.2.2.1 hM.1.2.2.1.2.2.2.2.2.1 (fun σ' s' hA' => k2 σ' (q_fin hM (mem_sub rfl s') hA'))
theorem sI_judged {a : Int} (hK : K < 900000) : StpI K (P_X11_judged a) (P_X12_judged a) := by
  rintro σ ⟨n, m, dk, v, e, l, s, ms, y, z, c, zs, hA⟩ G hG
  have hA : Al n m dk K v e l s ms y z c zs σ := hA
  have hd : zDay z < 900000 := by have := hA.2.1.2.1; omega
  refine t_X11_judged hA.1.1.1 hA.1.1.2.2.2.1 hA.1.2.2.1.1 hA.1.2.2.1.2.2.1 (fun σ1 s1 => hG _ _ (fun Q2 k2 => ?_))
  have s1 : Sm qcU σ σ1 := mem_sub rfl s1
  have hM := q_mid hA s1
  have hB := Al_bas hM hK
  rw [← spC_keep (o := 0) s1 rfl, ← s1.row (t := 8) (i := 0) rfl, ← s1.row (t := 908) (i := 0) rfl, ← s1.row (t := 906) (i := 0) rfl, ← s1.row (t := 901) (i := 0) rfl, ← s1.row (t := 905) (i := 0) rfl] at k2
  exact t_X12_judged hB hM.1.2.2.1.2.1 hM.1.2.2.1.2.2.1 (fun σ' s' hA' => k2 σ' (q_fin hM (mem_sub rfl s') hA'))
theorem sI_trim {a : Int} : StpI K (P_X11_trim a) (P_X12_trim a) := by
  rintro σ ⟨n, m, dk, v, e, l, s, ms, y, z, c, zs, hA⟩ G hG
  have hA : Al n m dk K v e l s ms y z c zs σ := hA
  refine t_X11_trim hA.1.1.1 hA.1.1.2.2.1 hA.2.1.1 hA.2.1.2.2.1 (fun σ1 s1 => hG _ _ (fun Q2 k2 => ?_))
  have s1 : Sm qcU σ σ1 := mem_sub rfl s1
  have hM := q_mid hA s1
  rw [← s1.row (t := 903) (i := 0) rfl, ← s1.row (t := 906) (i := 0) rfl] at k2
  exact t_X12_trim hM.1.1.1 hM.1.1.2.1 hM.1.1.2.2.1 hM.2.1.2.2.2 (fun σ' s' e' => k2 σ' (q_fin hM s' (by rw [e']; exact hM.2.1.2.2.2)))
theorem sI_first (hK : K < 900000) : StpI K (P_X11_first) (P_X12_first) := by
  rintro σ ⟨n, m, dk, v, e, l, s, ms, y, z, c, zs, hA⟩ G hG
  have hA : Al n m dk K v e l s ms y z c zs σ := hA
  have hd : zDay z < 900000 := by have := hA.2.1.2.1; omega
  refine t_X11_first hA.1.1.1 hA.2.1.1 hA.2.1.2.2.1 hA.1.1.2.2.2.1 hd (fun r σ1 hr s1 => hG _ _ (fun Q2 k2 => ?_))
  have s1 : Sm qcU σ σ1 := mem_sub rfl s1
  have hM := q_mid hA s1
  have hB := Al_bas hM hK
  rw [← spC_keep (o := 0) s1 rfl, ← s1.row (t := 8) (i := 0) rfl, ← s1.row (t := 908) (i := 0) rfl, ← s1.row (t := 906) (i := 0) rfl] at hr
  refine t_X12_first hB (fun r' σ' hr' s' hA' => ?_)
  rw [isFst_one hr' hr]
  exact k2 σ' (q_fin hM s' hA')
theorem sI_count {a : Int} : StpI K (P_X11_count a) (P_X12_count a) := by
  rintro σ ⟨n, m, dk, v, e, l, s, ms, y, z, c, zs, hA⟩ G hG
  have hA : Al n m dk K v e l s ms y z c zs σ := hA
  refine t_X11_count hA.1.1.1 hA.2.1.1 hA.2.1.2.2.1 hA.1.2.2.1.1.1 hA.1.2.2.1.2.2.2.1.1 hA.2.2.1.1 hA.1.2.2.2.2.1.1 (hG _ _ (fun Q2 k2 => ?_))
  exact t_X12_count hA.1.1.1 hA.1.1.2.1 hA.2.1.1 hA.2.1.2.2.2 hA.1.2.2.1.2.1.1 hA.1.2.2.1.2.2.2.2.1.1 hA.2.2.2.1.1 hA.1.2.2.2.2.2.1.1 (fun σ' s' => k2 σ' (q_fin hA (mem_sub rfl s') (by rw [s'.row (t := 1346) (i := 0) rfl]; exact hA.2.1.2.2.2)))
end
