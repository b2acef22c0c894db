/-! 97.q: what holds between two calls -/
def EnvI (n m dk : Int) (v : V4) (e : Nt) (σ : St) : Prop := Cxt n m dk σ ∧ ShE σ ∧ RaC σ 0 ∧ LwC v σ 0 ∧ LwA v σ ∧ NI σ e ∧ NA σ e ∧ e.2.1 = n ∧ e.2.2.2 = m ∧ σ 1320 0 0 ≤ 1000
def MkI (n m dk K : Int) (σ : St) (ms : Nat → Ab × Ln × Sn) : Prop := ∀ u : Nat, u < 4 → σ 4 u 3 = σ 1351 0 u ∧ (σ 4 u 3 = 0 ∨ (σ 4 u 3 = 1 ∧ WfZ n m dk (ms u).1 ∧ zDay (ms u).1 ≤ K ∧ StC n m σ (u + 18) (ms u).1 ∧
  StA n m (fun x => σ 1349 0 (46 * (u : Int) + x)) (ms u).1 ∧ LnC σ (u + 2) (ms u).2.1 ∧ LnA σ (1 + (u : Int)) (ms u).2.1 ∧ WfL n m (ms u).2.1 ∧ SeC σ (u + 1) (ms u).2.2 ∧ SeA σ (1 + (u : Int)) (ms u).2.2 ∧ WfS n (ms u).2.2))
def PsI (n m dk K : Int) (σ : St) (c : Int) (zs : Int → Ab) : Prop := PasC n m σ c zs ∧ PasA n m σ c zs ∧ Wfs n m dk c zs ∧ ∀ j : Int, 0 ≤ j → j < c → zDay (zs j) ≤ K
def NoI (n m : Int) (σ : St) (l : Ln) (s : Sn) : Prop := LnC σ 0 l ∧ LnA σ 0 l ∧ WfL n m l ∧ SeC σ 0 s ∧ SeA σ 0 s ∧ WfS n s ∧ Z01 σ
def TpI (σ : St) (y : Tp) : Prop := TpC σ y ∧ TpA σ y ∧ WfT y
def NwI (n m dk K : Int) (σ : St) (z : Ab) : Prop := WfZ n m dk z ∧ zDay z ≤ K ∧ StC n m σ 0 z ∧ StA n m (σ 1346 0) z
/-- the past may change -/
def Hld (n m dk K : Int) (v : V4) (e : Nt) (l : Ln) (s : Sn) (ms : Nat → Ab × Ln × Sn) (y : Tp) (σ : St) : Prop := EnvI n m dk v e σ ∧ DS σ ∧ NoI n m σ l s ∧ MkI n m dk K σ ms ∧ TpI σ y
def Inv (K : Int) (σ : St) : Prop := ∃ n m dk v e l s ms y z c zs, Hld n m dk K v e l s ms y σ ∧ NwI n m dk K σ z ∧ PsI n m dk K σ c zs
def enT : List Nat := [8, 900, 901, 902, 903, 904, 905, 906, 907, 908, 2, 300, 301, 1310, 1311, 1312, 1313, 1314, 1315, 1316, 1317, 1318, 1319, 1320, 1321, 1353]
def noR : List Nat := [3, 400, 401, 402, 7, 800, 801, 802, 1338, 1339, 1340, 1341, 1342, 1343, 1344, 1345]
theorem noT_sub {A : List Reg} {T T' : List Nat} {o : Nat} (h : noT A T o = true) (hs : ∀ t, t ∈ T' → t ∈ T) : noT A T' o = true := by
  unfold noT at h ⊢
  rw [List.all_eq_true] at h ⊢
  exact fun t ht => h t (hs t ht)
section
variable {σ τ : St} {A : List Reg} {n m dk K : Int} {v : V4} {e : Nt} {l : Ln} {s : Sn} {ms : Nat → Ab × Ln × Sn} {y : Tp} {z : Ab} {c : Int} {zs : Int → Ab}
theorem RaC_keep {o : Nat} (h : Sm A σ τ) (hn : noT A [8, 900, 903] o = true) (c : RaC σ o) : RaC τ o := by
  unfold RaC at c ⊢
  rw [noT_row h hn (t := 8) (by decide), noT_row h hn (t := 900) (by decide), noT_row h hn (t := 903) (by decide)]
  exact c
theorem EnvI_keep (h : Sm A σ τ) (hn : noT A enT 0 = true) (c : EnvI n m dk v e σ) : EnvI n m dk v e τ := by
  obtain ⟨c1, c2, c3, c4, c5, c6, c7, c8⟩ := c
  exact ⟨Cxt_keep h (noT_sub hn (by decide)) c1, ShE_keep h (noT_sub hn (by decide)) c2, RaC_keep h (noT_sub hn (by decide)) c3, LwC_keep h (noT_sub hn (by decide)) c4, LwA_keep h (noT_sub hn (by decide)) c5, NI_keep h (noT_sub hn (by decide)) c6, NA_keep h (noT_sub hn (by decide)) c7, c8.1, c8.2.1, by rw [noT_row h hn (t := 1320) (by decide)]; exact c8.2.2⟩
theorem SeC_keep {o : Nat} (h : Sm A σ τ) (hn : noT A [7, 800, 801, 802] o = true) (c : SeC σ o s) : SeC τ o s := SeC_row (fun _ ht => noT_row h hn ht) c
theorem Z01_keep (h : Sm A σ τ) (hn : noT A [1345] 0 = true) (c : Z01 σ) : Z01 τ := by
  unfold Z01 at c ⊢
  rw [noT_row h hn (t := 1345) (by decide)]
  exact c
theorem NoI_keep (h : Sm A σ τ) (hn : noT A noR 0 = true) (c : NoI n m σ l s) : NoI n m τ l s := by
  obtain ⟨c1, c2, c3, c4, c5, c6, c7⟩ := c
  exact ⟨LnC_keep h (noT_sub hn (by decide)) c1, LnA_keep h (noT_sub hn (by decide)) c2, c3, SeC_keep h (noT_sub hn (by decide)) c4, SeA_keep h (noT_sub hn (by decide)) c5, c6, Z01_keep h (noT_sub hn (by decide)) c7⟩
def mkT : List Nat := [1349, 1351, 1338, 1339, 1340, 1341, 1342, 1343, 1344, 1345]
def mkOk (A : List Reg) : Bool := noT A mkT 0 && (List.range 4).all (fun u => noT A [4] u && (noT A stT (u + 18) && (noT A [3, 400, 401, 402] (u + 2) && noT A [7, 800, 801, 802] (u + 1))))
theorem MkI_keep (h : Sm A σ τ) (hn : mkOk A = true) (c : MkI n m dk K σ ms) : MkI n m dk K τ ms := by
  unfold mkOk at hn
  rw [Bool.and_eq_true, List.all_eq_true] at hn
  obtain ⟨hn1, hn2⟩ := hn
  intro u hu
  have hu2 := hn2 u (List.mem_range.mpr hu)
  rw [Bool.and_eq_true, Bool.and_eq_true, Bool.and_eq_true] at hu2
  obtain ⟨g1, g2, g3, g4⟩ := hu2
  obtain ⟨c1, c2⟩ := c u hu
  have e4 : τ 4 u = σ 4 u := noT_row h g1 (by decide)
  have e51 : τ 1351 0 = σ 1351 0 := noT_row h hn1 (by decide)
  have e49 : τ 1349 0 = σ 1349 0 := noT_row h hn1 (by decide)
  rw [e4, e51, e49]
  refine ⟨c1, ?_⟩
  rcases c2 with q | ⟨q0, q1, q2, q3, q4, q5, q6, q7, q8, q9, q10⟩
  · exact Or.inl q
  · exact Or.inr ⟨q0, q1, q2, StC_keep h g2 q3, q4, LnC_keep h g3 q5, LnA_keep h (noT_sub hn1 (by decide)) q6, q7, SeC_keep h g4 q8, SeA_keep h (noT_sub hn1 (by decide)) q9, q10⟩
theorem TpI_keep (h : Sm A σ τ) (hn : noT A [1100, 1302] 0 = true) (h4 : inR A 10 0 4 = false) (h1 : inR A 12 0 1 = false) (c : TpI σ y) : TpI τ y := by
  unfold TpI TpC TpA at c ⊢
  rw [h 10 0 4 h4, h 12 0 1 h1, noT_row h hn (t := 1100) (by decide), noT_row h hn (t := 1302) (by decide)]
  exact c
def hlOk (A : List Reg) : Bool := noT A enT 0 && (noT A [8, 903] 1 && (!inR A 2 1 3 && (!inR A 3 1 3 && (noT A noR 0 && (mkOk A && (noT A [1100, 1302] 0 && (!inR A 10 0 4 && !inR A 12 0 1)))))))
theorem Hld_keep (h : Sm A σ τ) (hn : hlOk A = true) (c : Hld n m dk K v e l s ms y σ) : Hld n m dk K v e l s ms y τ := by
  unfold hlOk at hn
  simp only [Bool.and_eq_true, Bool.not_eq_true'] at hn
  obtain ⟨g1, g2, g3, g4, g5, g6, g7, g8, g9⟩ := hn
  obtain ⟨c1, c2, c3, c4, c5⟩ := c
  exact ⟨EnvI_keep h g1 c1, DS_keep h g2 g3 g4 c2, NoI_keep h g5 c3, MkI_keep h g6 c4, TpI_keep h g7 g8 g9 c5⟩
theorem PsI_keep (h : Sm A σ τ) (h1 : pasOk A = true) (h2 : noT A [1350] 0 = true) (h3 : inR A 12 0 52 = false) (p : PsI n m dk K σ c zs) : PsI n m dk K τ c zs := by
  obtain ⟨c1, c2, c3⟩ := p
  exact ⟨PasC_keep h h1 c1, PasA_keep h h2 h3 c2, c3⟩
theorem MkI_mono {K' : Int} (h : K ≤ K') (c : MkI n m dk K σ ms) : MkI n m dk K' σ ms := by
  intro u hu
  obtain ⟨c1, c2⟩ := c u hu
  refine ⟨c1, ?_⟩
  rcases c2 with q | ⟨q0, q1, q2, q3⟩
  · exact Or.inl q
  · exact Or.inr ⟨q0, q1, by omega, q3⟩
theorem Inv_mono {K' : Int} (h : K ≤ K') (c : Inv K σ) : Inv K' σ := by
  obtain ⟨n, m, dk, v, e, l, s, ms, y, z, c, zs, ⟨h1, h2, h3, h4, h5⟩, ⟨w1, w2, w3⟩, p1, p2, p3, p4⟩ := c
  exact ⟨n, m, dk, v, e, l, s, ms, y, z, c, zs, ⟨h1, h2, h3, MkI_mono h h4, h5⟩, ⟨w1, by omega, w3⟩, p1, p2, p3, fun j j0 j1 => by have := p4 j j0 j1; omega⟩
/-- a question is over: the class's part, then the reference's -/
theorem ok_qc : hlOk qcB = true := by decide
theorem ok_qr : hlOk qrB = true := by decide
theorem ok_cs : hlOk csA = true := by decide
theorem ok_rs : hlOk rsA = true := by decide
theorem ps_qc : pasOk qcB = true := by decide
end
