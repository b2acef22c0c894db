/-! 97.v: shops keep what holds -/
theorem lo_row {σ τ : St} (h : LoR σ τ) {t : Nat} (ht : t ∈ loT) {x b : Int} (hb : lob t = b) (hx : x < b) : τ t 0 x = σ t 0 x := h t ht x (by rw [hb]; exact hx)
theorem ShE_lo {A : List Reg} {σ τ : St} (s : Sm A σ τ) (hn : noT A [8, 900, 901, 903, 904, 905, 906, 908, 1353] 0 = true) (h : LoR σ τ) (hS : ShC σ 0) (c : ShE σ) : ShE τ := by
  obtain ⟨⟨n0, n6⟩, ⟨m0, m6⟩, ⟨d0, d12⟩, -⟩ := hS
  obtain ⟨c1, c2, c3, c4, c5, c6, c7⟩ := c
  unfold ShE
  rw [noT_row s hn (t := 8) (by decide), noT_row s hn (t := 900) (by decide), noT_row s hn (t := 901) (by decide), noT_row s hn (t := 903) (by decide), noT_row s hn (t := 904) (by decide), noT_row s hn (t := 905) (by decide), noT_row s hn (t := 906) (by decide), noT_row s hn (t := 908) (by decide), noT_row s hn (t := 1353) (by decide),
    lo_row h (t := 1310) (by decide) (x := 0) rfl (by decide), lo_row h (t := 1310) (by decide) (x := 1) rfl (by decide), lo_row h (t := 1310) (by decide) (x := 2) rfl (by decide), lo_row h (t := 1310) (by decide) (x := 3) rfl (by decide)]
  refine ⟨c1, c2, c3, c4, fun c h0 h1 => ?_, fun b h0 h1 => ?_, fun d h0 h1 => ?_⟩
  · rw [lo_row h (t := 1313) (by decide) (b := 6) rfl (by omega), lo_row h (t := 1314) (by decide) (b := 6) rfl (by omega)]
    exact c5 c h0 h1
  · rw [lo_row h (t := 1315) (by decide) (b := 6) rfl (by omega), lo_row h (t := 1316) (by decide) (b := 6) rfl (by omega), lo_row h (t := 1317) (by decide) (b := 6) rfl (by omega)]
    exact c6 b h0 h1
  · rw [lo_row h (t := 1318) (by decide) (b := 12) rfl (by omega)]
    exact c7 d h0 h1
theorem LwA_lo {v : V4} {σ τ : St} (h : LoR σ τ) (hl : σ 1320 0 0 ≤ 1000) (c : LwA v σ) : LwA v τ := by
  have e9 : τ 1319 0 0 = σ 1319 0 0 := lo_row h (by decide) rfl (by decide)
  have e0 : τ 1320 0 0 = σ 1320 0 0 := lo_row h (by decide) rfl (by decide)
  obtain ⟨c1, c2, c3⟩ := c
  unfold LwA
  rw [e9, e0]
  refine ⟨c1, c2, fun w r e d υ Q hne hw hr he hd q1 q2 q3 => c3 w r e d υ Q hne hw hr he hd q1 q2 (fun i i0 i1 => ?_)⟩
  rw [q3 i i0 i1]
  exact lo_row h (by decide) (b := 1000) rfl (by omega)
theorem NA_lo {e : Nt} {σ τ : St} (h : LoR σ τ) (c : NA σ e) : NA τ e := by
  obtain ⟨⟨c1, c2, c3⟩, ⟨c4, c5, c6⟩, c7, c8⟩ := c
  refine ⟨⟨by rw [lo_row h (by decide) (b := 4) rfl (by decide)]; exact c1, c2, c3⟩, ⟨by rw [lo_row h (by decide) (b := 4) rfl (by decide)]; exact c4, c5, c6⟩, fun i i0 i1 => ?_, fun i i0 i1 => ?_⟩
  · rw [lo_row h (by decide) (b := 6) rfl (by omega)]; exact c7 i i0 i1
  · rw [lo_row h (by decide) (b := 6) rfl (by omega)]; exact c8 i i0 i1
section
variable {K : Int}
theorem sI_shop (hK : 0 ≤ K) : StpI K (P_X11_shop) (P_X12_shop) := by
  rintro σ ⟨n, m, dk, v, e, l, s, ms, y, z, c, zs, hA⟩ G hG
  have hA : Al n m dk K v e l s ms y z c zs σ := hA
  obtain ⟨⟨hE, hD, hN, hM, ⟨t1, t2, t3⟩⟩, ⟨w1, w2, w3, w4⟩, hP⟩ := id hA
  have tA : ∀ {A : List Reg} {σ1 : St}, Sm A σ σ1 → inR A 12 0 1 = false → noT A [1302] 0 = true → TpA σ1 y := fun s1 h1 h2 => by
    unfold TpA at t2 ⊢
    rw [s1 12 0 1 h1, noT_row s1 h2 (t := 1302) (by decide)]
    exact t2
  refine t_X11_shop t1 t3 hD.2.2.2.2.1 (fun hne σ1 s1 d1 e1 => hG _ _ (fun Q2 k2 => ?_)) (fun hz σ1 s1 d1 e1 hV hI hL hO r3 r7 r5 r4 => hG _ _ (fun Q2 k2 => ?_))
  · have hE1 := EnvI_keep s1 rfl hE
    obtain ⟨x1, x2, x3, x4, x5, x6, x7, x8, x9, x10⟩ := hE1
    refine t_X12_shop (tA s1 rfl rfl) t3 (fun hz => absurd hz hne) (fun _ σ' s' lo e2 => k2 σ' ?_) (fun hz => absurd hz hne)
    refine Inv_mono (K := K) (by omega) ⟨n, m, dk, v, e, l, s, ms, emT y, z, c, zs, ⟨⟨Cxt_keep s' rfl x1, ShE_lo s' rfl lo x1.1 x2, RaC_keep s' rfl x3, LwC_keep s' rfl x4, LwA_lo lo x10 x5, NI_keep s' rfl x6, NA_lo lo x7, x8, x9, by rw [lo_row lo (t := 1320) (by decide) (b := 1) rfl (by decide)]; exact x10⟩, DS_keep s' rfl rfl rfl d1, NoI_keep s' rfl (NoI_keep s1 rfl hN), MkI_keep s' (by decide) (MkI_keep s1 (by decide) hM), ⟨em_C (by rw [s' 10 0 4 rfl, e1]), em_A e2, em_W⟩⟩, ⟨w1, w2, StC_keep s' rfl (StC_keep s1 rfl w3), ?_⟩, PsI_keep s' (by decide) rfl rfl (PsI_keep s1 (by decide) rfl rfl hP)⟩
    rw [s'.row (t := 1346) (i := 0) rfl, s1.row (t := 1346) (i := 0) rfl]; exact w4
  · refine t_X12_shop (tA s1 rfl rfl) t3 (fun _ => hI) (fun hne => absurd hz hne) (fun _ σ' s' e2 _ hSh hn hb hLA h1320 hSt g38 g42 g52 g51 => k2 σ' ?_)
    have hI' := InD_keep s' rfl hI
    have hX := InD_cxt hI' hV
    obtain ⟨v1, v2, -⟩ := id hV
    obtain ⟨⟨i1, i2, i3, i4⟩, inn, ic, ir, ib, iB, id'⟩ := id hI'
    obtain ⟨p1, p2, p3, p4, p5⟩ := hP.1
    have eO : opZ (σ' 901 0) (σ' 905 0) (σ' 906 0) = opZ (σ1 901 0) (σ1 905 0) (σ1 906 0) := by
      rw [s'.row (t := 901) (i := 0) rfl, s'.row (t := 905) (i := 0) rfl, s'.row (t := 906) (i := 0) rfl]
    refine Inv_mono (K := K) (by omega) ⟨(shW y).2.1 0 0, (shW y).2.1 0 1, (shW y).2.1 0 3, tV (shW y).2.2, ((shW y).2.1 1, (shW y).2.1 0 0, (shW y).2.1 4, (shW y).2.1 0 1), ln0, ln0, ms, emT y, opZ (σ' 901 0) (σ' 905 0) (σ' 906 0), 0, zs,
      ⟨⟨hX, hSh, ir, LwC_keep s' rfl hL, hLA, ⟨⟨i1, v1⟩, ⟨i2, v2⟩, inn, ib⟩, ⟨⟨hSh.1.trans i1, v1⟩, ⟨hSh.2.1.trans i2, v2⟩, fun i i0 j1 => ?_, fun i i0 j1 => ?_⟩, rfl, rfl, h1320⟩, DS_keep s' rfl rfl rfl d1, ⟨⟨by rw [s' 3 0 3 rfl]; exact r3, fun j j0 j1 => ?_⟩, ⟨g38, fun j j0 j1 => ?_⟩, ⟨by decide, fun j j0 j1 => ?_⟩, ⟨by rw [s' 7 0 3 rfl]; exact r7, fun j j0 j1 => ?_⟩, ⟨g42, fun j j0 j1 => ?_⟩, ⟨by decide, fun j j0 j1 => ?_⟩, ?_⟩, fun u hu => ?_, ⟨em_C (by rw [s' 10 0 4 rfl]; exact e1), em_A e2, em_W⟩⟩,
      ⟨WfZ_op hX, hK, ?_, hSt⟩, ⟨by rw [s' 5 0 1 rfl]; exact r5, by decide, ?_, ?_, fun j j0 j1 => by omega⟩, ⟨g52, by decide, fun j j0 j1 => by omega⟩, fun j j0 j1 => by omega, fun j j0 j1 => by omega⟩
    · show σ' 1311 0 (6 * 0 + i) = _
      rw [show (6 : Int) * 0 + i = i by omega]
      exact hn i i0 j1
    · show σ' 1312 0 (6 * 0 + i) = _
      rw [show (6 : Int) * 0 + i = i by omega]
      exact hb i i0 j1
    · have : j < (0 : Int) := j1
      omega
    · have : j < (0 : Int) := j1
      omega
    · have : j < (0 : Int) := j1
      omega
    · have : j < (0 : Int) := j1
      omega
    · have : j < (0 : Int) := j1
      omega
    · have : j < (0 : Int) := j1
      omega
    · have z1 : Z01 σ1 := Z01_keep s1 rfl hN.2.2.2.2.2.2
      exact Z01_keep s' rfl z1
    · have e4 : σ' 4 u 3 = 0 := by
        have : σ' 4 u = σ1 4 u := s'.tag rfl
        rw [this]
        exact r4 u hu
      exact ⟨by rw [e4, g51 u (by omega) (by omega)], Or.inl e4⟩
    · rw [eO]; exact StC_keep s' rfl hO
    · rw [s'.row (t := 600) (i := 0) rfl, s1.row (t := 600) (i := 0) rfl]; exact p3
    · rw [s'.row (t := 600) (i := 0) rfl, s1.row (t := 600) (i := 0) rfl]; exact p4
end
