/-! 97.t: seeing, feeding, runs keep what holds -/
def mkR (A : List Reg) : Bool := noT A [1349, 1351] 0 && (List.range 4).all (fun u => noT A [4] u && (noT A stT (u + 18) && (noT A [3, 400, 401, 402] (u + 2) && noT A [7, 800, 801, 802] (u + 1))))
section
variable {σ τ : St} {n m dk K : Int} {v : V4} {e : Nt} {l : Ln} {s : Sn} {ms : Nat → Ab × Ln × Sn} {y : Tp} {z : Ab} {c : Int} {zs : Int → Ab}
theorem MkI_gen (h4 : ∀ u : Nat, u < 4 → τ 4 u 3 = σ 4 u 3) (h51 : ∀ u : Nat, u < 4 → τ 1351 0 u = σ 1351 0 u) (gz : ∀ (u : Nat) (z : Ab), u < 4 → StC n m σ (u + 18) z → StC n m τ (u + 18) z)
    (ga : ∀ (u : Nat) (z : Ab), u < 4 → WfZ n m dk z → StA n m (fun x => σ 1349 0 (46 * (u : Int) + x)) z → StA n m (fun x => τ 1349 0 (46 * (u : Int) + x)) z)
    (g1 : ∀ (u : Nat) (l : Ln), u < 4 → LnC σ (u + 2) l → LnC τ (u + 2) l) (g2 : ∀ (u : Nat) (l : Ln), u < 4 → l.1 ≤ 40 → LnA σ (1 + (u : Int)) l → LnA τ (1 + (u : Int)) l)
    (g3 : ∀ (u : Nat) (s : Sn), u < 4 → SeC σ (u + 1) s → SeC τ (u + 1) s) (g5 : ∀ (u : Nat) (s : Sn), u < 4 → s.1 ≤ 8 → SeA σ (1 + (u : Int)) s → SeA τ (1 + (u : Int)) s)
    (h : MkI n m dk K σ ms) : MkI n m dk K τ ms := by
  intro u hu
  obtain ⟨c1, c2⟩ := h u hu
  rw [h4 u hu, h51 u hu]
  refine ⟨c1, ?_⟩
  rcases c2 with q | ⟨q0, q1, q2, q3, q4, q5, q6, q7, q8, q9, q10⟩
  · exact Or.inl q
  · exact Or.inr ⟨q0, q1, q2, gz u _ hu q3, ga u _ hu q1 q4, g1 u _ hu q5, g2 u _ hu q7.1.2 q6, q7, g3 u _ hu q8, g5 u _ hu q10.1.2 q9, q10⟩
/-- the reference changes its own notes -/
theorem MkI_ref {A : List Reg} (s1 : Sm A σ τ) (hn : mkR A = true) (g2 : ∀ (u : Nat) (l : Ln), u < 4 → l.1 ≤ 40 → LnA σ (1 + (u : Int)) l → LnA τ (1 + (u : Int)) l) (g5 : ∀ (u : Nat) (s : Sn), u < 4 → s.1 ≤ 8 → SeA σ (1 + (u : Int)) s → SeA τ (1 + (u : Int)) s)
    (h : MkI n m dk K σ ms) : MkI n m dk K τ ms := by
  unfold mkR at hn
  rw [Bool.and_eq_true, List.all_eq_true] at hn
  obtain ⟨hn1, hn2⟩ := hn
  have hh : ∀ u : Nat, u < 4 → noT A [4] u = true ∧ noT A stT (u + 18) = true ∧ noT A [3, 400, 401, 402] (u + 2) = true ∧ noT A [7, 800, 801, 802] (u + 1) = true := fun u hu => by
    have hu2 := hn2 u (List.mem_range.mpr hu)
    rw [Bool.and_eq_true, Bool.and_eq_true, Bool.and_eq_true] at hu2
    exact hu2
  refine MkI_gen (fun u hu => by rw [noT_row s1 (hh u hu).1 (t := 4) (by decide)]) (fun u hu => by rw [noT_row s1 hn1 (t := 1351) (by decide)]) (fun u z hu c => StC_keep s1 (hh u hu).2.1 c) (fun u z hu _ c => by rw [noT_row s1 hn1 (t := 1349) (by decide)]; exact c) (fun u l hu c => LnC_keep s1 (hh u hu).2.2.1 c) g2 (fun u s hu c => SeC_keep s1 (hh u hu).2.2.2 c) g5 h
end
section
variable {K : Int}
theorem sI_see {x d f : Int} (hf : f = 0 ∨ f = 1) : StpI K (P_X11_see x d f) (P_X12_see x d f) := by
  rintro σ ⟨n, m, dk, v, e, l, s, ms, y, z, c, zs, hA⟩ G hG
  have hA : Al n m dk K v e l s ms y z c zs σ := hA
  obtain ⟨⟨hE, hD, ⟨n1, n2, n3, n4, n5, n6, n7⟩, hM, hT⟩, ⟨w1, w2, w3, w4⟩, hP⟩ := id hA
  refine t_X11_see hE.1 n4 n6 hf (fun hno => hG _ _ (fun Q2 k2 => ?_)) (fun x0 x1 d0 d1 y8 σ1 s1 c1 => hG _ _ (fun Q2 k2 => ?_))
  · exact t_X12_see hE.1 hE.2.1 n5 n6 n7 hf (fun _ σ' s' => k2 σ' (q_fin hA (mem_sub rfl s') (by rw [s'.row (t := 1346) (i := 0) rfl]; exact w4))) (fun x0 x1 d0 d1 y8 => absurd ⟨x0, x1, d0, d1, y8⟩ hno)
  · have hE1 := EnvI_keep s1 rfl hE
    refine t_X12_see hE1.1 hE1.2.1 (SeA_keep s1 rfl n5) n6 (Z01_keep s1 rfl n7) hf (fun hno => absurd ⟨x0, x1, d0, d1, y8⟩ hno) (fun _ _ _ _ _ σ' s' a' z' o' => k2 σ' ?_)
    refine Inv_mono (by omega) ⟨n, m, dk, v, e, l, addS s x d f, ms, y, z, c, zs, ⟨EnvI_keep s' rfl hE1, DS_keep s' rfl rfl rfl (DS_keep s1 rfl rfl rfl hD), ⟨LnC_keep s' rfl (LnC_keep s1 rfl n1), LnA_keep s' rfl (LnA_keep s1 rfl n2), n3, SeC_keep s' rfl c1, a', WfS_add n6 y8 ⟨x0, x1⟩ ⟨d0, d1⟩ hf, z'⟩, ?_, TpI_keep s' rfl rfl rfl (TpI_keep s1 rfl rfl rfl hT)⟩, ⟨w1, w2, StC_keep s' rfl (StC_keep s1 rfl w3), ?_⟩, PsI_keep s' (by decide) rfl rfl (PsI_keep s1 (by decide) rfl rfl hP)⟩
    · exact MkI_ref s' (by decide) (fun u l' _ _ h => LnA_keep s' rfl h) (fun u s' _ _ h => o' _ _ (by omega) h) (MkI_keep s1 (by decide) hM)
    · rw [s'.row (t := 1346) (i := 0) rfl, s1.row (t := 1346) (i := 0) rfl]; exact w4
theorem sI_feed {a b d : Int} : StpI K (P_X11_feed a b d) (P_X12_feed a b d) := by
  rintro σ ⟨n, m, dk, v, e, l, s, ms, y, z, c, zs, hA⟩ G hG
  have hA : Al n m dk K v e l s ms y z c zs σ := hA
  obtain ⟨⟨hE, hD, hN, hM, ⟨t1, t2, t3⟩⟩, ⟨w1, w2, w3, w4⟩, hP⟩ := id hA
  refine t_X11_feed t1 t3 (fun σ1 s1 c1 => hG _ _ (fun Q2 k2 => ?_))
  have t2' : TpA σ1 y := by
    unfold TpA at t2 ⊢
    rw [s1 12 0 1 rfl, s1.row (t := 1302) (i := 0) rfl]
    exact t2
  refine t_X12_feed t2' t3 (fun σ' s' a' => k2 σ' ?_)
  have c2 : TpC σ' (fdW a b d y) := by
    unfold TpC at c1 ⊢
    rw [s' 10 0 4 rfl, s'.row (t := 1100) (i := 0) rfl]
    exact c1
  refine Inv_mono (by omega) ⟨n, m, dk, v, e, l, s, ms, fdW a b d y, z, c, zs, ⟨EnvI_keep s' rfl (EnvI_keep s1 rfl hE), DS_keep s' rfl rfl rfl (DS_keep s1 rfl rfl rfl hD), NoI_keep s' rfl (NoI_keep s1 rfl hN), MkI_keep s' (by decide) (MkI_keep s1 (by decide) hM), ⟨c2, a', WfT_8 (WfT_8 (WfT_8 t3))⟩⟩, ⟨w1, w2, StC_keep s' rfl (StC_keep s1 rfl w3), ?_⟩, PsI_keep s' (by decide) rfl rfl (PsI_keep s1 (by decide) rfl rfl hP)⟩
  rw [s'.row (t := 1346) (i := 0) rfl, s1.row (t := 1346) (i := 0) rfl]; exact w4
def emT (y : Tp) : Tp := (0, y.2)
theorem em_C {σ : St} {y : Tp} (h : σ 10 0 4 = 0) : TpC σ (emT y) := ⟨h, fun j j0 j1 => by have : j < (0 : Int) := j1; omega⟩
theorem em_A {σ : St} {y : Tp} (h : σ 12 0 1 = 0) : TpA σ (emT y) := ⟨h, fun j j0 j1 => by have : j < (0 : Int) := j1; omega⟩
theorem em_W {y : Tp} : WfT (emT y) := ⟨⟨Int.le_refl 0, show (0 : Int) ≤ 1000 by decide⟩, fun j j0 j1 => by have : j < (0 : Int) := j1; omega⟩
theorem sI_run : StpI K (P_X11_run) (P_X12_run) := by
  rintro σ ⟨n, m, dk, v, e, l, s, ms, y, z, c, zs, hA⟩ G hG
  have hA : Al n m dk K v e l s ms y z c zs σ := hA
  obtain ⟨⟨hE, hD, ⟨n1, n2, n3, n4, n5, n6, n7⟩, hM, ⟨t1, t2, t3⟩⟩, ⟨w1, w2, w3, w4⟩, hP⟩ := id hA
  obtain ⟨en, em, -⟩ := hE.2.2.2.2.2.2.2
  have tA : ∀ {A : List Reg} {σ1 : St}, Sm A σ σ1 → inR A 12 0 1 = false → noT A [1302] 0 = true → TpA σ1 y := fun s1 h1 h2 => by
    unfold TpA at t2 ⊢
    rw [s1 12 0 1 h1, noT_row s1 h2 (t := 1302) (by decide)]
    exact t2
  refine t_X11_run t1 t3 hE.2.2.2.2.2.1 hD (fun hne σ1 s1 d1 e1 => hG _ _ (fun Q2 k2 => ?_)) (fun hz σ1 s1 d1 e1 l1 v1 => hG _ _ (fun Q2 k2 => ?_))
  · have hE1 := EnvI_keep s1 rfl hE
    refine t_X12_run (tA s1 rfl rfl) t3 hE1.2.2.2.2.2.2.1 (fun _ σ' s' o' e2 => k2 σ' ?_) (fun hz => absurd hz hne)
    refine Inv_mono (by omega) ⟨n, m, dk, v, e, l, s, ms, emT y, z, c, zs, ⟨EnvI_keep s' rfl hE1, DS_keep s' rfl rfl rfl d1, ⟨LnC_keep s' rfl (LnC_keep s1 rfl n1), o' 0 l (by decide) (by decide) n3.1.2 (LnA_keep s1 rfl n2), n3, SeC_keep s' rfl (SeC_keep s1 rfl n4), SeA_keep s' rfl (SeA_keep s1 rfl n5), n6, Z01_keep s' rfl (Z01_keep s1 rfl n7)⟩, ?_, ⟨em_C (by rw [s' 10 0 4 rfl, e1]), em_A e2, em_W⟩⟩, ⟨w1, w2, StC_keep s' rfl (StC_keep s1 rfl w3), ?_⟩, PsI_keep s' (by decide) rfl rfl (PsI_keep s1 (by decide) rfl rfl hP)⟩
    · exact MkI_ref s' (by decide) (fun u l' hu hl h => o' _ _ (by omega) (by omega) hl h) (fun u s' _ _ h => SeA_keep (by assumption) rfl h) (MkI_keep s1 (by decide) hM)
    · rw [s'.row (t := 1346) (i := 0) rfl, s1.row (t := 1346) (i := 0) rfl]; exact w4
  · have hE1 := EnvI_keep s1 rfl hE
    rw [en, em] at v1
    refine t_X12_run (tA s1 rfl rfl) t3 hE1.2.2.2.2.2.2.1 (fun hne => absurd hz hne) (fun _ σ' s' o' e2 a2 => k2 σ' ?_)
    refine Inv_mono (by omega) ⟨n, m, dk, v, e, (runT y e).2, s, ms, emT y, z, c, zs, ⟨EnvI_keep s' rfl hE1, DS_keep s' rfl rfl rfl d1, ⟨LnC_keep s' rfl l1, a2, v1, SeC_keep s' rfl (SeC_keep s1 rfl n4), SeA_keep s' rfl (SeA_keep s1 rfl n5), n6, Z01_keep s' rfl (Z01_keep s1 rfl n7)⟩, ?_, ⟨em_C (by rw [s' 10 0 4 rfl, e1]), em_A e2, em_W⟩⟩, ⟨w1, w2, StC_keep s' rfl (StC_keep s1 rfl w3), ?_⟩, PsI_keep s' (by decide) rfl rfl (PsI_keep s1 (by decide) rfl rfl hP)⟩
    · exact MkI_ref s' (by decide) (fun u l' hu hl h => o' _ _ (by omega) (by omega) hl h) (fun u s' _ _ h => SeA_keep (by assumption) rfl h) (MkI_keep s1 (by decide) hM)
    · rw [s'.row (t := 1346) (i := 0) rfl, s1.row (t := 1346) (i := 0) rfl]; exact w4
end
