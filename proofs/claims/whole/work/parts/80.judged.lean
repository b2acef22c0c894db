/-! 80: the run judged -/
/-- lines: how many, what, first, second -/
abbrev Ln : Type := Int × (Int → Int) × (Int → Int) × (Int → Int)
def LnC (σ : St) (o : Nat) (l : Ln) : Prop := σ 3 o 3 = l.1 ∧ ∀ j : Int, 0 ≤ j → j < l.1 → σ 400 o j = l.2.1 j ∧ σ 401 o j = l.2.2.1 j ∧ σ 402 o j = l.2.2.2 j
def LnA (σ : St) (u : Int) (l : Ln) : Prop := σ 1338 0 u = l.1 ∧ ∀ j : Int, 0 ≤ j → j < l.1 → σ 1339 0 (40 * u + j) = l.2.1 j ∧ (l.2.1 j = 1 ∨ l.2.1 j = 3 → σ 1340 0 (40 * u + j) = l.2.2.1 j) ∧
  (l.2.1 j = 3 → σ 1341 0 (40 * u + j) = l.2.2.2 j) ∧ (l.2.1 j = 2 → σ 1341 0 (40 * u + j) = l.2.2.1 j ∧ σ 1340 0 (40 * u + j) = l.2.2.2 j)
def WfL (n m : Int) (l : Ln) : Prop := (0 ≤ l.1 ∧ l.1 ≤ 40) ∧ ∀ j : Int, 0 ≤ j → j < l.1 → (0 ≤ l.2.1 j ∧ l.2.1 j ≤ 4) ∧ (l.2.1 j = 1 ∨ l.2.1 j = 3 → 0 ≤ l.2.2.1 j ∧ l.2.2.1 j < m) ∧ (l.2.1 j = 3 → 0 ≤ l.2.2.2 j ∧ l.2.2.2 j < n) ∧
  (l.2.1 j = 2 → (0 ≤ l.2.2.1 j ∧ l.2.2.1 j < n) ∧ (0 ≤ l.2.2.2 j ∧ l.2.2.2 j ≤ 60))
/-- as the shop was told -/
def opZ (g sz hm : Int → Int) : Ab := (0, 0, 0, 0, (fun _ => 0), g, sz, (fun _ => 0), hm, (fun _ => 0), (fun _ => 0))
theorem cnt_none {p : Int → Bool} (h : ∀ b, p b = false) : ∀ i : Nat, cnt p i = 0
  | 0 => rfl
  | i + 1 => by
    show cnt p i + (if p i then 1 else 0) = 0
    rw [cnt_none h i, h, if_neg (by decide)]
    rfl
theorem WfZ_op {n m dk : Int} {σ : St} (hX : Cxt n m dk σ) : WfZ n m dk (opZ (σ 901 0) (σ 905 0) (σ 906 0)) := by
  obtain ⟨⟨-, -, -, hd, hc, hb, -⟩, rfl, rfl, rfl⟩ := hX
  refine ⟨⟨Int.le_refl 0, by show (0 : Int) ≤ 1000000; decide⟩, i32_zero, ⟨Int.le_refl 0, by show 0 < _; omega⟩, ?_, fun j j0 j1 => ?_, fun i j i0 ij j1 => ?_, fun c c0 c1 => (hc c c0 c1).2.1, fun b b0 b1 => ?_⟩
  · show 0 = cnt (fun b => decide ((0 : Int) = 2)) _
    exact (cnt_none (fun _ => rfl) _).symm
  · have : j < 0 := j1
    omega
  · have : j < 0 := j1
    omega
  · obtain ⟨h1, h2, h3⟩ := hb b b0 b1
    refine ⟨h2, ⟨Int.le_refl 0, by show (0 : Int) ≤ 3; decide⟩, ⟨h3.1, Or.inl h3.2⟩, ⟨Int.le_refl 0, by show (0 : Int) ≤ 42; decide⟩, fun h => ?_, i32_zero⟩
    rcases h with h | h
    · have h : (0 : Int) = 1 := h
      cases h
    · have h : (0 : Int) = 3 := h
      cases h
section
variable {n m dk : Int} {z : Ab} {σ : St}
theorem t_X9_open {o : Nat} {Q : St → Prop} (hX : Cxt n m dk σ) (k : ∀ σ', Sm (tkA o) σ σ' → StC n m σ' o (opZ (σ 901 0) (σ 905 0) (σ 906 0)) → Q σ') : P_X9_open o σ Q := by
  have m6 := hX.spw.2.2.2.2.1
  have n6 := hX.spw.2.2.2.1
  have i9 : (9, o, none) ∈ tkA o := by unfold tkA; simp
  have s0 : Sm (tkA o) σ (up (up (up (up (up σ 9 o 8 0) 9 o 9 0) 9 o 10 0) 9 o 11 0) 9 o 12 0) := Sm_up (Sm_up (Sm_up (Sm_up (Sm_up Sm.rf (inm i9)) (inm i9)) (inm i9)) (inm i9)) (inm i9)
  have f8 : (up (up (up (up (up σ 9 o 8 0) 9 o 9 0) 9 o 10 0) 9 o 11 0) 9 o 12 0) 9 o 8 = 0 := by rw [up_px (by decide), up_px (by decide), up_px (by decide), up_px (by decide), up_at]
  have f9 : (up (up (up (up (up σ 9 o 8 0) 9 o 9 0) 9 o 10 0) 9 o 11 0) 9 o 12 0) 9 o 9 = 0 := by rw [up_px (by decide), up_px (by decide), up_px (by decide), up_at]
  have f10 : (up (up (up (up (up σ 9 o 8 0) 9 o 9 0) 9 o 10 0) 9 o 11 0) 9 o 12 0) 9 o 10 = 0 := by rw [up_px (by decide), up_px (by decide), up_at]
  have f11 : (up (up (up (up (up σ 9 o 8 0) 9 o 9 0) 9 o 10 0) 9 o 11 0) 9 o 12 0) 9 o 11 = 0 := by rw [up_px (by decide), up_at]
  unfold P_X9_open
  generalize (up (up (up (up (up σ 9 o 8 0) 9 o 9 0) 9 o 10 0) 9 o 11 0) 9 o 12 0) = σ0 at s0 f8 f9 f10 f11 ⊢
  have i1 : (1001, o, none) ∈ tkA o := by unfold tkA; simp
  have i2 : (1002, o, none) ∈ tkA o := by unfold tkA; simp
  have i3 : (1003, o, none) ∈ tkA o := by unfold tkA; simp
  have i4 : (1004, o, none) ∈ tkA o := by unfold tkA; simp
  have i5 : (1005, o, none) ∈ tkA o := by unfold tkA; simp
  have i6 : (1006, o, none) ∈ tkA o := by unfold tkA; simp
  refine loopI (X := St) (F := fun n' i τ => P_X9_open_L27 o (fun σ_1 => P_X9_open_L61 o Q FU 0 σ_1) Q n' i τ) (N := n) (fun i τ => Sm (tkA o) σ τ ∧ (∀ x : Int, τ 9 o x = σ0 9 o x) ∧ ∀ c : Int, 0 ≤ c → c < i → τ 1001 o c = σ 901 0 c) ?_ ?_ n.toNat 0 σ0 FU (Int.le_refl 0) (by omega) (FU_pos (by omega)) ⟨s0, fun _ => rfl, fun c c0 c1 => by omega⟩
  · rintro n' i τ i0 i1' ⟨hs, h9, hr⟩ k'
    unfold P_X9_open_L27
    rw [(Cxt_keep hs rfl hX).2.1, if_neg (by omega), wi_id (z := i + 1) (by omega) (by omega), hs.row (t := 901) (i := 0) rfl]
    refine ⟨i0, by omega, i0, by omega, k' _ ⟨Sm_up hs (inm i1), fun x => by rw [up_nt rfl]; exact h9 x, fun c c0 c1 => ?_⟩⟩
    by_cases e : c = i
    · rw [e, up_at]
    · rw [up_nx e]; exact hr c c0 (by omega)
  · rintro n' τ ⟨hs, h9, hr⟩
    unfold P_X9_open_L27
    rw [(Cxt_keep hs rfl hX).2.1, if_pos (Int.le_refl n)]
    refine loopI (X := St) (F := fun n' i υ => P_X9_open_L61 o Q n' i υ) (N := m) (fun i υ => Sm (tkA o) σ υ ∧ (∀ x : Int, υ 9 o x = σ0 9 o x) ∧ (∀ c : Int, 0 ≤ c → c < n → υ 1001 o c = σ 901 0 c) ∧
      ∀ b : Int, 0 ≤ b → b < i → υ 1002 o b = σ 905 0 b ∧ υ 1004 o b = 0 ∧ υ 1003 o b = σ 906 0 b ∧ υ 1005 o b = 0 ∧ υ 1006 o b = 0) ?_ ?_ m.toNat 0 τ FU (Int.le_refl 0) (by omega) (FU_pos (by omega)) ⟨hs, h9, hr, fun b b0 b1 => by omega⟩
    · rintro n2 i υ i0 i1' ⟨hs2, h92, hr2, hb2⟩ k2
      unfold P_X9_open_L61
      rw [(Cxt_keep hs2 rfl hX).2.2.1, if_neg (by omega), wi_id (z := i + 1) (by omega) (by omega), up_nt (t' := 906) (t := 1002) rfl, hs2.row (t := 905) (i := 0) rfl, hs2.row (t := 906) (i := 0) rfl]
      refine ⟨i0, by omega, i0, by omega, i0, by omega, i0, by omega, i0, by omega, i0, by omega, i0, by omega, k2 _ ⟨Sm_up (Sm_up (Sm_up (Sm_up (Sm_up hs2 (inm i2)) (inm i3)) (inm i4)) (inm i5)) (inm i6), fun x => ?_, fun c c0 c1 => ?_, fun b b0 b1 => ?_⟩⟩
      · rw [up_nt rfl, up_nt rfl, up_nt rfl, up_nt rfl, up_nt rfl]; exact h92 x
      · rw [up_nt rfl, up_nt rfl, up_nt rfl, up_nt rfl, up_nt rfl]; exact hr2 c c0 c1
      · by_cases e : b = i
        · subst e
          refine ⟨?_, ?_, ?_, ?_, up_at⟩
          · rw [up_nt rfl, up_nt rfl, up_nt rfl, up_nt rfl, up_at]
          · rw [up_nt rfl, up_nt rfl, up_at]
          · rw [up_nt rfl, up_nt rfl, up_nt rfl, up_at]
          · rw [up_nt rfl, up_at]
        · obtain ⟨q1, q2, q3, q4, q5⟩ := hb2 b b0 (by omega)
          refine ⟨?_, ?_, ?_, ?_, ?_⟩
          · rw [up_nt rfl, up_nt rfl, up_nt rfl, up_nt rfl, up_nx e]; exact q1
          · rw [up_nt rfl, up_nt rfl, up_nx e, up_nt rfl, up_nt rfl]; exact q2
          · rw [up_nt rfl, up_nt rfl, up_nt rfl, up_nx e, up_nt rfl]; exact q3
          · rw [up_nt rfl, up_nx e, up_nt rfl, up_nt rfl, up_nt rfl]; exact q4
          · rw [up_nx e, up_nt rfl, up_nt rfl, up_nt rfl, up_nt rfl]; exact q5
    · rintro n2 υ ⟨hs2, h92, hr2, hb2⟩
      unfold P_X9_open_L61
      rw [(Cxt_keep hs2 rfl hX).2.2.1, if_pos (Int.le_refl m)]
      refine k υ hs2 ⟨by rw [h92]; exact f10, by rw [h92]; exact f11, by rw [h92]; exact f9, by rw [h92]; exact f8, fun j j0 j1 => ?_, hr2, hb2⟩
      have : j < 0 := j1
      omega
theorem t_X12_fresh0 {Q : St → Prop} (hX : Cxt n m dk σ) (hE : ShE σ) (k : ∀ σ', Sm [(1346, 0, none)] σ σ' → StA n m (σ' 1346 0) (opZ (σ 901 0) (σ 905 0) (σ 906 0)) → Q σ') : P_X12_fresh0 σ Q := by
  have m6 := hX.spw.2.2.2.2.1
  have n6 := hX.spw.2.2.2.1
  unfold P_X12_fresh0
  refine loopI (X := St) (F := fun n' i τ => P_X12_fresh0_L2 (fun σ_1 => P_X12_fresh0_L23 (fun σ_2 => P_X12_fresh0_L56 Q FU 0 σ_2) Q FU 0 σ_1) Q n' i τ) (N := 46) (fun i τ => Sm [(1346, 0, none)] σ τ ∧ ∀ x : Int, 0 ≤ x → x < i → τ 1346 0 x = 0) ?_ ?_ 46 0 σ FU (Int.le_refl 0) (by omega) (FU_pos (by omega)) ⟨Sm.rf, fun c c0 c1 => by omega⟩
  · rintro n' i τ i0 i1 ⟨hs, hr⟩ k'
    unfold P_X12_fresh0_L2
    rw [if_neg (by omega), wi_id (z := i + 1) (by omega) (by omega)]
    refine ⟨i0, by omega, k' _ ⟨Sm_up hs rfl, fun c c0 c1 => ?_⟩⟩
    by_cases e : c = i
    · rw [e, up_at]
    · rw [up_nx e]; exact hr c c0 (by omega)
  · rintro n' τ ⟨hs, hr⟩
    unfold P_X12_fresh0_L2
    rw [if_pos (Int.le_refl 46)]
    refine loopI (X := St) (F := fun n' i υ => P_X12_fresh0_L23 (fun σ_2 => P_X12_fresh0_L56 Q FU 0 σ_2) Q n' i υ) (N := n) (fun i υ => Sm [(1346, 0, none)] σ υ ∧ (∀ x : Int, 0 ≤ x → x < 46 → (x < 10 ∨ 16 ≤ x) → υ 1346 0 x = 0) ∧ ∀ c : Int, 0 ≤ c → c < i → υ 1346 0 (10 + c) = σ 901 0 c) ?_ ?_ n.toNat 0 τ FU (Int.le_refl 0) (by omega) (FU_pos (by omega)) ⟨hs, fun x x0 x1 _ => hr x x0 x1, fun c c0 c1 => by omega⟩
    · rintro n2 i υ i0 i1 ⟨hs2, hz2, hr2⟩ k2
      have hE2 := ShE_keep hs2 rfl hE
      have hX2 := Cxt_keep hs2 rfl hX
      unfold P_X12_fresh0_L23
      rw [hE2.1, hX2.2.1, if_neg (by omega), (hE2.2.2.2.2.1 i i0 (by rw [hX2.2.1]; exact i1)).2.1, hs2.row (t := 901) (i := 0) rfl, wi_id (z := 10 + i) (by omega) (by omega), wi_id (z := i + 1) (by omega) (by omega)]
      refine ⟨i0, by omega, by omega, by omega, k2 _ ⟨Sm_up hs2 rfl, fun x x0 x1 hx => ?_, fun c c0 c1 => ?_⟩⟩
      · rw [up_nx (by omega)]; exact hz2 x x0 x1 hx
      · by_cases e : c = i
        · rw [e, up_at]
        · rw [up_nx (by omega)]; exact hr2 c c0 (by omega)
    · rintro n2 υ ⟨hs2, hz2, hr2⟩
      have hE2 := ShE_keep hs2 rfl hE
      have hX2 := Cxt_keep hs2 rfl hX
      unfold P_X12_fresh0_L23
      rw [hE2.1, hX2.2.1, if_pos (Int.le_refl n)]
      refine loopI (X := St) (F := fun n' i ω => P_X12_fresh0_L56 Q n' i ω) (N := m) (fun i ω => Sm [(1346, 0, none)] σ ω ∧ (∀ x : Int, 0 ≤ x → x < 46 → (x < 10 ∨ (22 ≤ x ∧ x < 28) ∨ 34 ≤ x) → ω 1346 0 x = 0) ∧ (∀ c : Int, 0 ≤ c → c < n → ω 1346 0 (10 + c) = σ 901 0 c) ∧ ∀ b : Int, 0 ≤ b → b < i → ω 1346 0 (16 + b) = σ 905 0 b ∧ ω 1346 0 (28 + b) = σ 906 0 b) ?_ ?_ m.toNat 0 υ FU (Int.le_refl 0) (by omega) (FU_pos (by omega)) ⟨hs2, fun x x0 x1 _ => hz2 x x0 x1 (by omega), hr2, fun c c0 c1 => by omega⟩
      · rintro n3 i ω i0 i1 ⟨hs3, hz3, hr3, hb3⟩ k3
        have hE3 := ShE_keep hs3 rfl hE
        have hX3 := Cxt_keep hs3 rfl hX
        have h3 := hE3.2.2.2.2.2.1 i i0 (by rw [hX3.2.2.1]; exact i1)
        unfold P_X12_fresh0_L56
        rw [hE3.2.1, hX3.2.2.1, if_neg (by omega), up_nt (t' := 1317) (t := 1346) rfl, h3.2.1, h3.2.2, hs3.row (t := 905) (i := 0) rfl, hs3.row (t := 906) (i := 0) rfl, wi_id (z := 16 + i) (by omega) (by omega), wi_id (z := 28 + i) (by omega) (by omega), wi_id (z := i + 1) (by omega) (by omega)]
        refine ⟨i0, by omega, by omega, by omega, i0, by omega, by omega, by omega, k3 _ ⟨Sm_up (Sm_up hs3 rfl) rfl, fun x x0 x1 hx => ?_, fun c c0 c1 => ?_, fun b b0 b1 => ?_⟩⟩
        · rw [up_nx (by omega), up_nx (by omega)]; exact hz3 x x0 x1 hx
        · rw [up_nx (by omega), up_nx (by omega)]; exact hr3 c c0 c1
        · by_cases e : b = i
          · subst e
            exact ⟨by rw [up_nx (by omega), up_at], up_at⟩
          · rw [up_nx (by omega), up_nx (by omega), up_nx (by omega), up_nx (by omega)]; exact hb3 b b0 (by omega)
      · rintro n3 ω ⟨hs3, hz3, hr3, hb3⟩
        have hE3 := ShE_keep hs3 rfl hE
        have hX3 := Cxt_keep hs3 rfl hX
        unfold P_X12_fresh0_L56
        rw [hE3.2.1, hX3.2.2.1, if_pos (Int.le_refl m)]
        refine k ω hs3 ⟨hz3 0 (by omega) (by omega) (by omega), hz3 1 (by omega) (by omega) (by omega), hz3 2 (by omega) (by omega) (by omega), hz3 3 (by omega) (by omega) (by omega), fun j j0 j1 => ?_, hr3, fun b b0 b1 => ⟨(hb3 b b0 b1).1, hz3 _ (by omega) (by omega) (by omega), (hb3 b b0 b1).2, hz3 _ (by omega) (by omega) (by omega), hz3 _ (by omega) (by omega) (by omega)⟩⟩
        have : j < 0 := j1
        omega
/-- a line done: whether it can be -/
def doW (s : Sp) (m : Int) (v : V4) (dm : Int → Int) (d f e : Int) (z : Ab) : Int × Ab :=
  if d = 1 then (if zHow z f = 0 ∧ zAt z f ≠ 6 then (1, sndW s f z) else (0, z)) else if d = 2 then (1, setW f e z) else if d = 3 then (if zHow z f = 0 ∧ zAt z f ≠ e then (1, carW f e z) else (0, z)) else
  if d = 4 then (1, dayW s m v (dm (zDay z)) z) else (1, pasW s z)
theorem do_rng {s : Sp} {v : V4} {dm : Int → Int} {d f e : Int} {z : Ab} : (doW s m v dm d f e z).1 = 0 ∨ (doW s m v dm d f e z).1 = 1 := by
  unfold doW
  repeat' split
  all_goals first | exact Or.inl rfl | exact Or.inr rfl
def okL (n m d f e : Int) : Prop := (0 ≤ d ∧ d ≤ 4) ∧ (d = 1 ∨ d = 3 → 0 ≤ f ∧ f < m) ∧ (d = 3 → 0 ≤ e ∧ e < n) ∧ (d = 2 → (0 ≤ f ∧ f < n) ∧ (0 ≤ e ∧ e ≤ 60))
theorem WfZ_do {s : Sp} {v : V4} {dm : Int → Int} {d f e : Int} {z : Ab} (hs : SpW n m dk s) (hW : WfZ n m dk z) (hk : okL n m d f e) (hd : zDay z < 1000000) : WfZ n m dk (doW s m v dm d f e z).2 ∧ zDay (doW s m v dm d f e z).2 ≤ zDay z + 1 := by
  obtain ⟨k1, k2, k3, k4⟩ := hk
  unfold doW
  split
  · rename_i h1
    split
    · rename_i h2
      exact ⟨WfZ_snd hs hW h2.1 (k2 (Or.inl h1)).1 (k2 (Or.inl h1)).2, by show zDay z ≤ _; omega⟩
    · exact ⟨hW, by show zDay z ≤ _; omega⟩
  · split
    · rename_i h1 h2
      exact ⟨WfZ_set hW (k4 h2).2, by show zDay z ≤ _; omega⟩
    · split
      · rename_i h1 h2 h3
        split
        · exact ⟨WfZ_car hW (k3 h3), by show zDay z ≤ _; omega⟩
        · exact ⟨hW, by show zDay z ≤ _; omega⟩
      · split
        · refine ⟨WfZ_day hs hW hd, ?_⟩
          show zDay (dayW s m v (dm (zDay z)) z) ≤ _
          rw [dy_day]
          omega
        · exact ⟨WfZ_pas hs hW, by show zDay z ≤ _; omega⟩
theorem StC_set {o : Nat} {x g : Int} (h : StC n m σ o z) : StC n m (up σ 1001 o x g) o (setW x g z) := by
  obtain ⟨c0, cb, c2, c3, cq, cg, cB⟩ := h
  refine ⟨?_, ?_, ?_, ?_, fun j j0 j1 => ?_, fun c c0 c1 => ?_, fun b' b0' b1' => ?_⟩
  · rw [up_nt rfl]; exact c0
  · rw [up_nt rfl]; exact cb
  · rw [up_nt rfl]; exact c2
  · rw [up_nt rfl]; exact c3
  · rw [up_nt rfl]; exact cq j j0 j1
  · show _ = upr (zGap z) x g c
    by_cases e : c = x
    · subst e
      rw [up_at, upr_at]
    · rw [up_nx e, upr_ne e]; exact cg c c0 c1
  · rw [up_nt rfl, up_nt rfl, up_nt rfl, up_nt rfl, up_nt rfl]; exact cB b' b0' b1'
theorem StC_car {o : Nat} {b x : Int} (h : StC n m σ o z) : StC n m (up σ 1003 o b x) o (carW b x z) := by
  obtain ⟨c0, cb, c2, c3, cq, cg, cB⟩ := h
  refine ⟨?_, ?_, ?_, ?_, fun j j0 j1 => ?_, fun c c0 c1 => ?_, fun b' b0' b1' => ?_⟩
  · rw [up_nt rfl]; exact c0
  · rw [up_nt rfl]; exact cb
  · rw [up_nt rfl]; exact c2
  · rw [up_nt rfl]; exact c3
  · rw [up_nt rfl]; exact cq j j0 j1
  · rw [up_nt rfl]; exact cg c c0 c1
  · obtain ⟨g2, g4, g3, g5, g6⟩ := cB b' b0' b1'
    rw [up_nt (t' := 1002) rfl, up_nt (t' := 1004) rfl, up_nt (t' := 1005) rfl, up_nt (t' := 1006) rfl]
    refine ⟨g2, g4, ?_, g5, g6⟩
    show _ = upr (zAt z) b x b'
    by_cases e : b' = b
    · subst e
      rw [up_at, upr_at]
    · rw [up_nx e, upr_ne e]; exact g3
theorem StA_set {x g : Int} (hm6 : m ≤ 6) (hmn : zMany z ≤ 6) (n6 : n ≤ 6) (x0 : 0 ≤ x) (x1 : x < 6) (h : StA n m (σ 1346 0) z) : StA n m ((up σ 1346 0 (10 + x) g) 1346 0) (setW x g z) := by
  obtain ⟨c0, cb, c2, c3, cq, cg, cB⟩ := h
  refine ⟨?_, ?_, ?_, ?_, fun j j0 j1 => ?_, fun c c0 c1 => ?_, fun b' b0' b1' => ?_⟩
  · rw [up_nx (by omega)]; exact c0
  · rw [up_nx (by omega)]; exact cb
  · rw [up_nx (by omega)]; exact c2
  · rw [up_nx (by omega)]; exact c3
  · have j1 : j < zMany z := j1
    rw [up_nx (by omega)]; exact cq j j0 j1
  · show _ = upr (zGap z) x g c
    by_cases e : c = x
    · subst e
      rw [up_at, upr_at]
    · rw [up_nx (by omega), upr_ne e]; exact cg c c0 c1
  · rw [up_nx (by omega), up_nx (by omega), up_nx (by omega), up_nx (by omega), up_nx (by omega)]; exact cB b' b0' b1'
theorem StA_car {b x : Int} (hm6 : m ≤ 6) (hmn : zMany z ≤ 6) (n6 : n ≤ 6) (b0 : 0 ≤ b) (b1 : b < 6) (h : StA n m (σ 1346 0) z) : StA n m ((up σ 1346 0 (28 + b) x) 1346 0) (carW b x z) := by
  obtain ⟨c0, cb, c2, c3, cq, cg, cB⟩ := h
  refine ⟨?_, ?_, ?_, ?_, fun j j0 j1 => ?_, fun c c0 c1 => ?_, fun b' b0' b1' => ?_⟩
  · rw [up_nx (by omega)]; exact c0
  · rw [up_nx (by omega)]; exact cb
  · rw [up_nx (by omega)]; exact c2
  · rw [up_nx (by omega)]; exact c3
  · have j1 : j < zMany z := j1
    rw [up_nx (by omega)]; exact cq j j0 j1
  · rw [up_nx (by omega)]; exact cg c c0 c1
  · obtain ⟨g2, g4, g3, g5, g6⟩ := cB b' b0' b1'
    rw [up_nx (show (16 + b' : Int) ≠ 28 + b by omega), up_nx (show (22 + b' : Int) ≠ 28 + b by omega), up_nx (show (34 + b' : Int) ≠ 28 + b by omega), up_nx (show (40 + b' : Int) ≠ 28 + b by omega)]
    refine ⟨g2, g4, ?_, g5, g6⟩
    show _ = upr (zAt z) b x b'
    by_cases e : b' = b
    · subst e
      rw [up_at, upr_at]
    · rw [up_nx (by omega), upr_ne e]; exact g3
theorem t_X3_perform {v : V4} {j d f e : Int} {τ : St} {Q : Int → St → Prop} (hX : Cxt n m dk τ) (hW : WfZ n m dk z) (hC : StC n m τ 1 z) (hL : LwC v τ 0) (hd : zDay z < 1000000) (j0 : 0 ≤ j) (j1 : j < 40)
    (hl : τ 400 0 j = d ∧ τ 401 0 j = f ∧ τ 402 0 j = e) (hk : okL n m d f e)
    (k : ∀ τ', Sm qcB τ τ' → StC n m τ' 1 (doW (spC τ 0) m v (dmpW (τ 8 0 12) (τ 908 0)) d f e z).2 → Q (doW (spC τ 0) m v (dmpW (τ 8 0 12) (τ 908 0)) d f e z).1 τ') : P_X3_perform 0 j 1 τ Q := by
  have m6 := hX.spw.2.2.2.2.1
  have n6 := hX.spw.2.2.2.1
  obtain ⟨k1, k2, k3, k4⟩ := hk
  obtain ⟨l1, l2, l3⟩ := hl
  unfold P_X3_perform
  rw [l1, l2, l3]
  refine ⟨j0, by omega, j0, by omega, j0, by omega, ?_⟩
  unfold doW at k
  by_cases d1 : d = 1
  · rw [if_pos d1] at k ⊢
    obtain ⟨f0, f1⟩ := k2 (Or.inl d1)
    refine t_X9_sendOff hX hW hC (fun _ _ hc σ1 s1 c1 => ?_) (fun h => ?_)
    · have hc : zHow z f = 0 ∧ zAt z f ≠ 6 := hc
      rw [if_pos hc] at k
      exact ⟨Or.inr rfl, k σ1 (mem_sub (A := soA 1) (B := qcB) rfl s1) c1⟩
    · have h : ¬ (zHow z f = 0 ∧ zAt z f ≠ 6) := fun q => h ⟨f0, f1, q⟩
      rw [if_neg h] at k
      exact ⟨Or.inl rfl, k τ Sm.rf hC⟩
  · rw [if_neg d1] at k ⊢
    by_cases d2 : d = 2
    · rw [if_pos d2] at k ⊢
      obtain ⟨⟨f0, f1⟩, e0, e1⟩ := k4 d2
      unfold P_X9_setGap
      refine t_X9_canSet hX.2.1 (fun _ _ _ _ => ?_) (fun h => absurd ⟨f0, f1, e0, e1⟩ h)
      rw [if_neg one_no]
      exact ⟨f0, by omega, Or.inr rfl, k _ (Sm_up Sm.rf rfl) (StC_set hC)⟩
    · rw [if_neg d2] at k ⊢
      by_cases d3 : d = 3
      · rw [if_pos d3] at k ⊢
        obtain ⟨f0, f1⟩ := k2 (Or.inr d3)
        obtain ⟨e0, e1⟩ := k3 d3
        unfold P_X9_carryTo
        refine t_X9_canCarry hX.2.1 hX.2.2.1 m6.2 hC (fun h => ?_) (fun h => ?_)
        · rw [if_pos h.2.2] at k
          rw [if_neg one_no]
          exact ⟨f0, by omega, Or.inr rfl, k _ (Sm_up Sm.rf rfl) (StC_car hC)⟩
        · rw [if_neg (fun q => h ⟨⟨f0, f1⟩, ⟨e0, e1⟩, q⟩)] at k
          rw [if_pos rfl]
          exact ⟨Or.inl rfl, k τ Sm.rf hC⟩
      · rw [if_neg d3] at k ⊢
        by_cases d4 : d = 4
        · rw [if_pos d4] at k ⊢
          exact t_X9_passDay hX hW hC hL hd (fun σ1 s1 c1 _ => k σ1 (mem_sub (A := dyA 1) (B := qcB) rfl s1) c1)
        · rw [if_neg d4] at k ⊢
          obtain ⟨x1, x2, x3, x4⟩ := hX
          exact t_X9_passBeat x1 x2 x3 x4 hW hC (fun σ1 s1 c1 _ => k σ1 (mem_sub (A := paA 1) (B := qcB) rfl s1) c1)
theorem t_X12_isDone {v : V4} {j d f e : Int} {τ : St} {Q : Int → St → Prop} (hX : Cxt n m dk τ) (hE : ShE τ) (hW : WfZ n m dk z) (hC : StA n m (τ 1346 0) z) (hL : LwA v τ) (hd : zDay z < 1000000) (j0 : 0 ≤ j) (j1 : j < 40)
    (hl : τ 1339 0 j = d ∧ (d = 1 ∨ d = 3 → τ 1340 0 j = f) ∧ (d = 3 → τ 1341 0 j = e) ∧ (d = 2 → τ 1341 0 j = f ∧ τ 1340 0 j = e)) (hk : okL n m d f e)
    (k : ∀ τ', Sm qrB τ τ' → Sm deA τ τ' → StA n m (τ' 1346 0) (doW (spC τ 0) m v (dmpW (τ 8 0 12) (τ 908 0)) d f e z).2 → Q (doW (spC τ 0) m v (dmpW (τ 8 0 12) (τ 908 0)) d f e z).1 τ') : P_X12_isDone j τ Q := by
  have m6 := hX.spw.2.2.2.2.1
  have n6 := hX.spw.2.2.2.1
  have hmn := hW.many m6.1
  obtain ⟨k1, k2, k3, k4⟩ := hk
  obtain ⟨l1, l2, l3, l4⟩ := hl
  have k := fun τ' (s : Sm deA τ τ') => k τ' (mem_sub (A := deA) (B := qrB) rfl s) s
  unfold P_X12_isDone
  rw [l1]
  refine ⟨j0, by omega, j0, by omega, j0, by omega, ?_⟩
  unfold doW at k
  by_cases d0 : d = 0
  · rw [if_neg (by omega), if_neg (by omega), if_neg (by omega), if_neg (by omega)] at k
    rw [if_pos d0]
    obtain ⟨x1, x2, x3, x4⟩ := hX
    exact t_X12_passes x1 hE x2 x3 x4 hW hC (fun σ1 s1 c1 => k σ1 (mem_sub (B := deA) rfl s1) c1)
  · rw [if_neg d0]
    by_cases d4 : d = 4
    · rw [if_neg (by omega), if_neg (by omega), if_neg (by omega), if_pos d4] at k
      rw [if_pos d4]
      exact t_told hX hE hW hC hL hd (fun σ1 s1 c1 _ => k σ1 s1 c1)
    · rw [if_neg d4]
      by_cases d2 : d = 2
      · rw [if_neg (by omega), if_pos d2] at k
        obtain ⟨⟨f0, f1⟩, e0, e1⟩ := k4 d2
        rw [if_pos d2, (l4 d2).1, (l4 d2).2, wi_id (z := 10 + f) (by omega) (by omega)]
        exact ⟨by omega, by omega, k _ (Sm_up Sm.rf rfl) (StA_set m6.2 (by omega) n6.2 f0 (by omega) hC)⟩
      · rw [if_neg d2]
        by_cases d1 : d = 1
        · rw [if_pos d1] at k
          obtain ⟨f0, f1⟩ := k2 (Or.inl d1)
          rw [if_pos d1, l2 (Or.inl d1)]
          obtain ⟨w1, w2, w3, w4, w5, w6⟩ := hW.2.2.2.2.2.2.2 f f0 f1
          refine t_X12_canSend m6.2 hC (by omega) f0 f1 (fun hc => ?_) (fun h => ?_)
          · have hc : zHow z f = 0 ∧ zAt z f ≠ 6 := hc
            rw [if_neg one_no]
            rw [if_pos hc] at k
            exact t_X12_sends hX hE hW hC f0 f1 (fun σ1 s1 c1 => k σ1 (mem_sub (B := deA) rfl s1) c1)
          · have h : ¬ (zHow z f = 0 ∧ zAt z f ≠ 6) := h
            rw [if_neg h] at k
            rw [if_pos rfl]
            exact k τ Sm.rf hC
        · rw [if_neg d1] at k
          have d3 : d = 3 := by omega
          rw [if_neg d2, if_pos d3] at k
          obtain ⟨f0, f1⟩ := k2 (Or.inr d3)
          rw [if_neg d1, l2 (Or.inr d3), l3 d3]
          refine t_X12_canCarry m6.2 hC f0 f1 (fun h1 h2 => ?_) (fun h => ?_)
          · rw [if_pos ⟨h1, h2⟩] at k
            rw [if_neg one_no, wi_id (z := 28 + f) (by omega) (by omega)]
            exact ⟨by omega, by omega, k _ (Sm_up Sm.rf rfl) (StA_car m6.2 (by omega) n6.2 f0 (by omega) hC)⟩
          · rw [if_neg h] at k
            rw [if_pos rfl]
            exact k τ Sm.rf hC
end
