/-! 77: trim -/
theorem loopD {X : Type} {F : Nat → Int → X → Prop} {N : Int} (J : Int → X → Prop)
    (hs : ∀ (n : Nat) (i : Int) (a : X), 0 ≤ i → i < N → J i a → (∀ a', J (i - 1) a' → F n (i - 1) a') → F (n + 1) i a)
    (hb : ∀ (n : Nat) (a : X), J (-1) a → F (n + 1) (-1) a) :
    ∀ (m : Nat) (i : Int) (a : X) (n : Nat), i + 1 = m → i < N → m < n → J i a → F n i a
  | 0, i, a, n, h0, hN, hn, hJ => by
    obtain ⟨q, rfl, -⟩ := fu_ex hn
    have e : i = -1 := by omega
    subst e
    exact hb q a hJ
  | m + 1, i, a, n, h0, hN, hn, hJ => by
    obtain ⟨q, rfl, hq⟩ := fu_ex hn
    exact hs q i a (by omega) hN hJ (fun a' hJ' => loopD J hs hb m (i - 1) a' q (by omega) (by omega) (by omega) hJ')
theorem up_ni {σ : St} {t i t' i' : Nat} {x v x' : Int} (h : i' ≠ i ∨ x' ≠ x) : up σ t i x v t' i' x' = σ t' i' x' := if_neg (fun e => h.elim (fun q => q e.2.1) (fun q => q e.2.2))
theorem pig : ∀ (n : Nat) (f : Nat → Nat), (∀ i, i < n → f i < n) → (∀ i j, i < j → j < n → f i ≠ f j) → ∀ c, c < n → ∃ i, i < n ∧ f i = c
  | 0, _, _, _, c, hc => by omega
  | n + 1, f, hr, hi, c, hc => by
    refine Classical.byContradiction (fun hno => ?_)
    have hno : ∀ i, i < n + 1 → f i ≠ c := fun i h e => hno ⟨i, h, e⟩
    have g1 : ∀ i, i < n + 1 → (if c < f i then f i - 1 else f i) < n := fun i h => by
      have := hr i h
      have := hno i h
      split <;> omega
    have g2 : ∀ i j, i < j → j < n + 1 → (if c < f i then f i - 1 else f i) ≠ (if c < f j then f j - 1 else f j) := fun i j h h2 => by
      have := hi i j h h2
      have := hno i (by omega)
      have := hno j h2
      split <;> split <;> omega
    obtain ⟨i, h1, h2⟩ := pig n (fun i => if c < f i then f i - 1 else f i) (fun i h => g1 i (by omega)) (fun i j h h2 => g2 i j h (by omega)) _ (g1 n (by omega))
    exact g2 i n h1 (by omega) h2
/-- balls of a home by their sizes -/
def ocW (hm sz : Int → Int) (m c s : Int) : Int := cnt (fun b => decide (hm b = c) && decide (sz b = s)) m.toNat
def hoW (hm sz : Int → Int) (m c lo hi : Int) : Int := cnt (fun b => decide (hm b = c) && (decide (lo < sz b) && decide (sz b ≤ hi))) m.toNat
theorem hoW_0 {hm sz : Int → Int} {m c lo hi : Int} (h : hi ≤ lo) : hoW hm sz m c lo hi = 0 := by
  unfold hoW
  rw [cnt_congr (q := fun _ => false) _ (fun b _ _ => ?_)]
  · have : ∀ i : Nat, cnt (fun _ => false) i = 0 := fun i => by
      induction i with
      | zero => rfl
      | succ i ih => show cnt _ i + 0 = 0; omega
    exact this _
  · by_cases h1 : lo < sz b
    · rw [decide_eq_false (show ¬ sz b ≤ hi by omega), Bool.and_false, Bool.and_false]
    · rw [decide_eq_false h1, Bool.false_and, Bool.and_false]
theorem hoW_s {hm sz : Int → Int} {m c lo hi : Int} (h : lo ≤ hi) : hoW hm sz m c lo (hi + 1) = hoW hm sz m c lo hi + ocW hm sz m c (hi + 1) := by
  unfold hoW ocW
  rw [cnt_or (fun b hb => by
    simp only [Bool.and_eq_true, decide_eq_true_eq] at hb
    omega)]
  refine cnt_congr _ (fun b _ _ => ?_)
  rw [Bool.eq_iff_iff]
  simp only [Bool.and_eq_true, Bool.or_eq_true, decide_eq_true_eq]
  omega
theorem hoW_rng {hm sz : Int → Int} {m c lo hi : Int} (h0 : 0 ≤ m) : 0 ≤ hoW hm sz m c lo hi ∧ hoW hm sz m c lo hi ≤ m := by
  have := cnt_nonneg (fun b => decide (hm b = c) && (decide (lo < sz b) && decide (sz b ≤ hi))) m.toNat
  unfold hoW
  omega
/-- the best of k counters left, with the widest gap w ahead of them: how many; the gap -/
def bpF (g : Int → Int) (to : Int) (a : Int × Int) : Int × Int := if g to ≤ a.1 then a else (g to, to)
def bpK (n : Int) (r : Int → Int) (ho : Int → Int → Int → Int) : Nat → Int → Int × Int
  | 0, _ => (0, 0)
  | k + 1, w => itr (bpF (fun to => ho (r (n - 1 - k)) w to + (bpK n r ho k to).1)) (60 - w).toNat (w + 1) ((bpK n r ho k w).1, 0)
theorem bpK_rng {n m : Int} {r : Int → Int} {ho : Int → Int → Int → Int} (hh : ∀ c lo hi, 0 ≤ ho c lo hi ∧ ho c lo hi ≤ m) : ∀ (k : Nat) (w : Int), 0 ≤ (bpK n r ho k w).1 ∧ (bpK n r ho k w).1 ≤ m * k
  | 0, w => by simp [bpK]
  | k + 1, w => by
    have e : m * ((k + 1 : Nat) : Int) = m * k + m := by rw [Int.natCast_add, Int.mul_add]; simp
    have h0 := bpK_rng (n := n) (r := r) hh k
    have hm := hh 0 0 0
    unfold bpK
    refine (itr_inv (f := bpF (fun to => ho (r (n - 1 - k)) w to + (bpK n r ho k to).1)) (fun _ a => 0 ≤ a.1 ∧ a.1 ≤ m * ((k + 1 : Nat) : Int)) _ _ _ ?_ (fun j b _ _ hb => ?_))
    · have := h0 w
      dsimp only
      omega
    · have h1 := hh (r (n - 1 - k)) w j
      have h2 := h0 j
      unfold bpF
      split
      · exact hb
      · dsimp only
        omega
theorem bpK_spec {g : Int → Int} {w base : Int} : ∀ (k : Nat), (∀ t, w < t → t ≤ w + k → g t ≤ (itr (bpF g) k (w + 1) (base, 0)).1) ∧ (itr (bpF g) k (w + 1) (base, 0) = (base, 0) ∨
    (base < (itr (bpF g) k (w + 1) (base, 0)).1 ∧ (w < (itr (bpF g) k (w + 1) (base, 0)).2 ∧ (itr (bpF g) k (w + 1) (base, 0)).2 ≤ w + k) ∧ g (itr (bpF g) k (w + 1) (base, 0)).2 = (itr (bpF g) k (w + 1) (base, 0)).1 ∧ ∀ t, w < t → t < (itr (bpF g) k (w + 1) (base, 0)).2 → g t < (itr (bpF g) k (w + 1) (base, 0)).1))
  | 0 => ⟨fun t h1 h2 => by omega, Or.inl rfl⟩
  | k + 1 => by
    have ih := bpK_spec (g := g) (w := w) (base := base) k
    rw [itr_succ]
    generalize itr (bpF g) k (w + 1) (base, 0) = a at ih
    obtain ⟨hle, ih⟩ := ih
    unfold bpF
    by_cases h : g (w + 1 + k) ≤ a.1
    · rw [if_pos h]
      refine ⟨fun t t0 t1 => ?_, ?_⟩
      · by_cases e : t = w + 1 + k
        · rw [e]; exact h
        · exact hle t t0 (by omega)
      · rcases ih with h1 | ⟨h1, h2, h3, h4⟩
        · exact Or.inl h1
        · exact Or.inr ⟨h1, by omega, h3, h4⟩
    · rw [if_neg h]
      have hb : base ≤ a.1 := by
        rcases ih with h1 | ⟨h1, h2, h3, h4⟩
        · rw [h1]; exact Int.le_refl _
        · omega
      refine ⟨fun t t0 t1 => ?_, Or.inr ⟨by dsimp only; omega, by dsimp only; omega, rfl, fun t t0 t1 => ?_⟩⟩
      · dsimp only
        by_cases e : t = w + 1 + k
        · rw [e]; exact Int.le_refl _
        · have := hle t t0 (by omega); omega
      · dsimp only at t1 ⊢
        have := hle t t0 (by omega)
        omega
/-- gaps chosen along the rail: the widest so far, what stands at each counter -/
def plF (n : Int) (r : Int → Int) (ho : Int → Int → Int → Int) (i : Int) (a : Int × (Int → Int)) : Int × (Int → Int) :=
  (max a.1 (bpK n r ho (n - i).toNat a.1).2, upr a.2 (r i) (bpK n r ho (n - i).toNat a.1).2)
theorem bpK_ch {n : Int} {r : Int → Int} {ho : Int → Int → Int → Int} {k : Nat} {w : Int} (w1 : w ≤ 60) : 0 ≤ w → 0 ≤ (bpK n r ho k w).2 ∧ (bpK n r ho k w).2 ≤ 60 := by
  intro w0
  match k with
  | 0 => exact ⟨Int.le_refl 0, by show (0 : Int) ≤ 60; decide⟩
  | k + 1 =>
    have h := (bpK_spec (g := fun to => ho (r (n - 1 - k)) w to + (bpK n r ho k to).1) (w := w) (base := (bpK n r ho k w).1) (60 - w).toNat).2
    unfold bpK
    rcases h with h | ⟨h1, h2, h3, h4⟩
    · rw [h]; exact ⟨Int.le_refl 0, by show (0 : Int) ≤ 60; decide⟩
    · omega
def plA : List Reg := [(202, 0, none), (254, 0, none), (254, 1, none), (254, 2, none), (254, 3, none), (254, 4, none), (254, 5, none), (254, 6, none), (255, 0, none), (255, 1, none), (255, 2, none), (255, 3, none), (255, 4, none), (255, 5, none),
  (256, 0, none), (256, 1, none), (256, 2, none), (256, 3, none), (256, 4, none), (256, 5, none)]
theorem in256 {b x : Int} (b0 : 0 ≤ b) (b1 : b < 6) : inR plA 256 b.toNat x = true := by
  rcases in6 b0 b1 with h | h | h | h | h | h <;> rw [h] <;> rfl
theorem in255 {b x : Int} (b0 : 0 ≤ b) (b1 : b < 6) : inR plA 255 b.toNat x = true := by
  rcases in6 b0 b1 with h | h | h | h | h | h <;> rw [h] <;> rfl
theorem in254 {b x : Int} (b0 : 0 ≤ b) (b1 : b < 7) : inR plA 254 b.toNat x = true := by
  have h : b.toNat = 0 ∨ b.toNat = 1 ∨ b.toNat = 2 ∨ b.toNat = 3 ∨ b.toNat = 4 ∨ b.toNat = 5 ∨ b.toNat = 6 := by omega
  rcases h with h | h | h | h | h | h | h <;> rw [h] <;> rfl
section
variable {n m dk : Int} {z : Ab} {σ : St}
theorem t_X1_sort {Q : St → Prop} (hX : Cxt n m dk σ) (hW : WfZ n m dk z) (hC : StC n m σ 0 z)
    (k : ∀ σ', Sm plA σ σ' → (∀ c s : Int, 0 ≤ c → c < n → 0 ≤ s → s ≤ 60 → σ' 256 c.toNat s = ocW (σ 906 0) (zSize z) m c s) → Q σ') : P_X1_sortSizesByHome σ Q := by
  have m6 := hX.spw.2.2.2.2.1
  have n6 := hX.spw.2.2.2.1
  unfold P_X1_sortSizesByHome
  refine loopI (X := St) (F := fun n' i τ => P_X1_sortSizesByHome_L2 (fun σ_2 => P_X1_sortSizesByHome_L44 Q FU 0 σ_2) Q n' i τ) (N := n) (fun i τ => Sm plA σ τ ∧ ∀ c s : Int, 0 ≤ c → c < i → 0 ≤ s → s ≤ 60 → τ 256 c.toNat s = 0) ?_ ?_ n.toNat 0 σ FU (Int.le_refl 0) (by omega) (FU_pos (by omega)) ⟨Sm.rf, fun c s c0 c1 => by omega⟩
  · rintro n' i τ i0 i1 ⟨hs, hr⟩ k'
    unfold P_X1_sortSizesByHome_L2
    rw [(Cxt_keep hs rfl hX).2.1, if_neg (by omega), wi_id (z := i + 1) (by omega) (by omega)]
    refine loopI (X := St) (F := fun n2 j υ => P_X1_sortSizesByHome_L15 i (fun σ_1 => (P_X1_sortSizesByHome_L2 (fun σ_2 => P_X1_sortSizesByHome_L44 Q FU 0 σ_2) Q n') (i + 1) σ_1) Q n2 j υ) (N := 61) (fun j υ => Sm plA σ υ ∧ (∀ c s : Int, 0 ≤ c → c < i → 0 ≤ s → s ≤ 60 → υ 256 c.toNat s = 0) ∧ ∀ s : Int, 0 ≤ s → s < j → υ 256 i.toNat s = 0) ?_ ?_ 61 0 τ FU (Int.le_refl 0) (by omega) (FU_pos (by omega)) ⟨hs, hr, fun s s0 s1 => by omega⟩
    · rintro n2 j υ j0 j1 ⟨hs2, hr2, hr3⟩ k2
      unfold P_X1_sortSizesByHome_L15
      rw [if_neg (by omega), wi_id (z := j + 1) (by omega) (by omega)]
      refine ⟨i0, by omega, j0, by omega, k2 _ ⟨Sm_up hs2 (in256 i0 (by omega)), fun c s c0 c1 s0 s1 => ?_, fun s s0 s1 => ?_⟩⟩
      · rw [up_ni (Or.inl (by omega))]; exact hr2 c s c0 c1 s0 s1
      · by_cases e : s = j
        · rw [e, up_at]
        · rw [up_nx e]; exact hr3 s s0 (by omega)
    · rintro n2 υ ⟨hs2, hr2, hr3⟩
      unfold P_X1_sortSizesByHome_L15
      rw [if_pos (by omega)]
      refine k' υ ⟨hs2, fun c s c0 c1 s0 s1 => ?_⟩
      by_cases e : c = i
      · rw [e]; exact hr3 s s0 (by omega)
      · exact hr2 c s c0 (by omega) s0 s1
  · rintro n' τ ⟨hs, hr⟩
    unfold P_X1_sortSizesByHome_L2
    rw [(Cxt_keep hs rfl hX).2.1, if_pos (Int.le_refl n)]
    refine loopI (X := St) (F := fun n2 j υ => P_X1_sortSizesByHome_L44 Q n2 j υ) (N := m) (fun j υ => Sm plA σ υ ∧ ∀ c s : Int, 0 ≤ c → c < n → 0 ≤ s → s ≤ 60 → υ 256 c.toNat s = cnt (fun b => decide (σ 906 0 b = c) && decide (zSize z b = s)) j.toNat) ?_ ?_ m.toNat 0 τ FU (Int.le_refl 0) (by omega) (FU_pos (by omega)) ⟨hs, fun c s c0 c1 s0 s1 => by rw [hr c s c0 c1 s0 s1]; rfl⟩
    · rintro n2 j υ j0 j1 ⟨hs2, hr2⟩ k2
      have hX2 := Cxt_keep hs2 rfl hX
      have e906 : υ 906 0 = σ 906 0 := hs2.row rfl
      have hh := (hX.1.2.2.2.2.2.1 j j0 (by rw [hX.2.2.1]; exact j1)).2.2
      rw [hX.2.1] at hh
      have hz := (hW.2.2.2.2.2.2.2 j j0 j1).1
      have hcn := cnt_nonneg (fun b => decide (σ 906 0 b = σ 906 0 j) && decide (zSize z b = zSize z j)) j.toNat
      unfold P_X1_sortSizesByHome_L44
      rw [hX2.2.2.1, if_neg (by omega), e906, ((StC_keep hs2 rfl hC).2.2.2.2.2.2 j j0 j1).1, hr2 _ _ hh.1 hh.2 (by omega) hz.2, wi_id (z := j + 1) (by omega) (by omega), wi_id (by omega) (by omega)]
      refine ⟨j0, by omega, by omega, by omega, j0, by omega, by omega, by omega, by omega, by omega, k2 _ ⟨Sm_up hs2 (in256 hh.1 (by omega)), fun c s c0 c1 s0 s1 => ?_⟩⟩
      rw [cnt_i j0]
      by_cases e : c = σ 906 0 j ∧ s = zSize z j
      · rw [e.1, e.2, up_at, decide_eq_true rfl, decide_eq_true rfl]
        rfl
      · rw [up_ni (by omega), hr2 c s c0 c1 s0 s1, if_neg, Int.add_zero]
        intro h
        simp only [Bool.and_eq_true, decide_eq_true_eq] at h
        exact e ⟨h.1.symm, h.2.symm⟩
    · rintro n2 υ ⟨hs2, hr2⟩
      unfold P_X1_sortSizesByHome_L44
      rw [(Cxt_keep hs2 rfl hX).2.2.1, if_pos (Int.le_refl m)]
      exact k υ hs2 hr2
end
