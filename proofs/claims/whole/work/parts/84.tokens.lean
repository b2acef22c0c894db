/-! 84: tokens, as they are cut of the tape -/
def isLt (c : Int) : Bool := decide (97 ≤ c ∧ c ≤ 122)
def isDg (c : Int) : Bool := decide (48 ≤ c ∧ c ≤ 57)
def isBk (c : Int) : Bool := decide (c = 10 ∨ c = 32)
def isSg (c : Int) : Bool := decide (c = 40 ∨ c = 41 ∨ c = 42 ∨ c = 43 ∨ c = 45 ∨ c = 59 ∨ c = 60 ∨ c = 61)
/-- the end of a run of such signs -/
def rnE (p : Int → Bool) (y : Tp) (i : Int) : Int := match fnd (fun j => !p (y.2 j)) (y.1 - i).toNat i with
  | none => y.1
  | some j => j
theorem rnE_rng {p : Int → Bool} {y : Tp} {i : Int} (h : i ≤ y.1) : i ≤ rnE p y i ∧ rnE p y i ≤ y.1 := by
  unfold rnE
  cases e : fnd (fun j => !p (y.2 j)) (y.1 - i).toNat i with
  | none => exact ⟨h, Int.le_refl _⟩
  | some j =>
    have := fnd_some e
    show i ≤ j ∧ j ≤ y.1
    omega
theorem rnE_ge {p : Int → Bool} {y : Tp} {i : Int} (h : y.1 ≤ i) : rnE p y i = y.1 := by
  unfold rnE
  rw [show (y.1 - i).toNat = 0 by omega]
  rfl
theorem rnE_go {p : Int → Bool} {y : Tp} {i : Int} (h : i < y.1) (hp : p (y.2 i) = true) : rnE p y i = rnE p y (i + 1) := by
  unfold rnE
  rw [show (y.1 - i).toNat = (y.1 - (i + 1)).toNat + 1 by omega]
  have : fnd (fun j => !p (y.2 j)) ((y.1 - (i + 1)).toNat + 1) i = fnd (fun j => !p (y.2 j)) (y.1 - (i + 1)).toNat (i + 1) := by
    conv => lhs; unfold fnd
    rw [if_neg (by rw [hp]; decide)]
  rw [this]
theorem rnE_no {p : Int → Bool} {y : Tp} {i : Int} (h : i < y.1) (hp : p (y.2 i) = false) : rnE p y i = i := by
  unfold rnE
  rw [show (y.1 - i).toNat = (y.1 - (i + 1)).toNat + 1 by omega]
  have : fnd (fun j => !p (y.2 j)) ((y.1 - (i + 1)).toNat + 1) i = some i := by
    conv => lhs; unfold fnd
    rw [if_pos (by rw [hp]; decide)]
  rw [this]
theorem rnE_stop {p : Int → Bool} {y : Tp} {i : Int} (h : rnE p y i < y.1) : p (y.2 (rnE p y i)) = false := by
  unfold rnE at h ⊢
  cases e : fnd (fun j => !p (y.2 j)) (y.1 - i).toNat i with
  | none => rw [e] at h; exact absurd h (Int.lt_irrefl _)
  | some j =>
    obtain ⟨-, -, q, -⟩ := fnd_some e
    show p (y.2 j) = false
    simpa using q
theorem runI {X : Type} {F : Nat → Int → X → Prop} {y : Tp} {p : Int → Bool} {KK : Int → X → Prop} (J : Int → X → Prop)
    (hs : ∀ (n : Nat) (i : Int) (a : X), 0 ≤ i → i < y.1 → J i a → (p (y.2 i) = false → KK i a → F (n + 1) i a) ∧ (p (y.2 i) = true → (∀ a', J (i + 1) a' → F n (i + 1) a') → F (n + 1) i a))
    (hb : ∀ (n : Nat) (a : X), J y.1 a → KK y.1 a → F (n + 1) y.1 a) {i : Int} {a : X} {n : Nat} (h0 : 0 ≤ i) (h1 : i ≤ y.1) (hn : (y.1 - i).toNat < n) (hJ : J i a)
    (k : ∀ a, J (rnE p y i) a → KK (rnE p y i) a) : F n i a := by
  refine findI (F := F) (N := y.1) (p := fun j => !p (y.2 j)) (K0 := KK y.1) (K := KK) J (fun n i a i0 i1 hJ => ⟨fun hp k => (hs n i a i0 i1 hJ).1 (by simpa using hp) k, fun hp k => (hs n i a i0 i1 hJ).2 (by simpa using hp) k⟩) hb (y.1 - i).toNat i a n h0 (by omega) hn hJ ?_
  unfold rnE at k
  cases e : fnd (fun j => !p (y.2 j)) (y.1 - i).toNat i with
  | none => rw [e] at k; exact k
  | some j => rw [e] at k; exact k
/-- the token at a place: its end, kind, word, number -/
def enC (y : Tp) (p : Int) : Int := if isLt (y.2 p) then rnE isLt y p else if isDg (y.2 p) then rnE isDg y p else p + 1
def kdC (y : Tp) (p : Int) : Int := if y.1 ≤ p then 0 else if isLt (y.2 p) then (if enC y p - p ≤ 8 then 2 else 1) else if isDg (y.2 p) then (if enC y p - p ≤ 4 then 3 else 1) else if isSg (y.2 p) then 4 else 1
def woF (y : Tp) (j w : Int) : Int := w * 27 + y.2 j - 96
def woW (y : Tp) (p : Int) : Int := itr (woF y) (enC y p - p).toNat p 0
def nuF (y : Tp) (j w : Int) : Int := w * 10 + y.2 j - 48
def nuW (y : Tp) (p : Int) : Int := itr (nuF y) (enC y p - p).toNat p 0
theorem enC_rng {y : Tp} {p : Int} (h : p < y.1) : p + 1 ≤ enC y p ∧ enC y p ≤ y.1 := by
  unfold enC
  split
  · rename_i hl
    rw [rnE_go h hl]
    exact rnE_rng (by omega)
  · split
    · rename_i hl
      rw [rnE_go h hl]
      exact rnE_rng (by omega)
    · omega
/-- words of 27 letters' numbers told by 32 -/
def cvN : Nat → Int → Int
  | 0, _ => 0
  | f + 1, w => cvN f (w / 27) * 32 + w % 27
theorem cvN_rng : ∀ (f : Nat) (w : Int), 0 ≤ cvN f w ∧ cvN f w < 32 ^ f
  | 0, w => by simp [cvN]
  | f + 1, w => by
    have h := cvN_rng f (w / 27)
    unfold cvN
    have e : (32 : Int) ^ (f + 1) = 32 ^ f * 32 := Int.pow_succ _ _
    rw [e]
    generalize (32 : Int) ^ f = T at h
    omega
theorem cvN_up : ∀ (f : Nat) (w : Int), 0 ≤ w → w < 27 ^ f → cvN (f + 1) w = cvN f w
  | 0, w, h0, h1 => by
    have : w = 0 := by simp at h1; omega
    rw [this]
    rfl
  | f + 1, w, h0, h1 => by
    have e : (27 : Int) ^ (f + 1) = 27 ^ f * 27 := Int.pow_succ _ _
    rw [e] at h1
    generalize hT : (27 : Int) ^ f = T at h1
    show cvN (f + 1) (w / 27) * 32 + w % 27 = cvN f (w / 27) * 32 + w % 27
    rw [cvN_up f (w / 27) (by omega) (by rw [hT]; omega)]
theorem cvN_9 {f : Nat} {w : Int} (h : f ≤ 9) (h0 : 0 ≤ w) (h1 : w < 27 ^ f) : cvN 9 w = cvN f w := by
  have : ∀ d : Nat, w < 27 ^ (f + d) ∧ cvN (f + d) w = cvN f w := fun d => by
    induction d with
    | zero => exact ⟨h1, rfl⟩
    | succ d ih =>
      have e : (27 : Int) ^ (f + d + 1) = 27 ^ (f + d) * 27 := Int.pow_succ _ _
      rw [show f + (d + 1) = (f + d) + 1 by omega, cvN_up (f + d) w h0 ih.1, e]
      refine ⟨?_, ih.2⟩
      have := ih.1
      generalize (27 : Int) ^ (f + d) = T at this
      omega
  have := (this (9 - f)).2
  rwa [show f + (9 - f) = 9 by omega] at this
theorem cvN_inj : ∀ (f : Nat) (a b : Int), 0 ≤ a → a < 27 ^ f → 0 ≤ b → b < 27 ^ f → cvN f a = cvN f b → a = b
  | 0, a, b, a0, a1, b0, b1, _ => by
    simp at a1 b1
    omega
  | f + 1, a, b, a0, a1, b0, b1, h => by
    have e : (27 : Int) ^ (f + 1) = 27 ^ f * 27 := Int.pow_succ _ _
    rw [e] at a1 b1
    generalize hT : (27 : Int) ^ f = T at a1 b1
    have h : cvN f (a / 27) * 32 + a % 27 = cvN f (b / 27) * 32 + b % 27 := h
    have := cvN_inj f (a / 27) (b / 27) (by omega) (by rw [hT]; omega) (by omega) (by rw [hT]; omega) (by omega)
    omega
theorem p32_le : ∀ m : Nat, m ≤ 7 → (32 : Int) ^ m ≤ 32 ^ 7 := by decide
theorem p27_le : ∀ m : Nat, m ≤ 8 → (27 : Int) ^ m ≤ 27 ^ 8 := by decide
theorem p10_le : ∀ m : Nat, m ≤ 4 → (10 : Int) ^ m ≤ 10 ^ 4 := by decide
/-- what words and numbers are worth -/
theorem wd_rng {y : Tp} {p : Int} : ∀ m : Nat, (∀ j : Int, p ≤ j → j < p + m → isLt (y.2 j) = true) → 0 ≤ itr (woF y) m p 0 ∧ itr (woF y) m p 0 < 27 ^ m
  | 0, _ => by simp [itr]
  | m + 1, h => by
    have h1 := wd_rng m (fun j j0 j1 => h j j0 (by omega))
    have h2 := of_decide_eq_true (h (p + m) (by omega) (by omega))
    rw [itr_succ]
    have e : (27 : Int) ^ (m + 1) = 27 ^ m * 27 := Int.pow_succ _ _
    rw [e]
    generalize (27 : Int) ^ m = T at h1
    generalize itr (woF y) m p 0 = w at h1 ⊢
    unfold woF
    omega
theorem wd_cv {y : Tp} {p : Int} : ∀ m : Nat, m ≤ 8 → (∀ j : Int, p ≤ j → j < p + m → isLt (y.2 j) = true) → itr (fun j w => wj (wj (wj (wj (w * 32) + y.2 j) - 97) + 1)) m p 0 = cvN m (itr (woF y) m p 0)
  | 0, _, _ => rfl
  | m + 1, hm, h => by
    have h0 := wd_cv m (by omega) (fun j j0 j1 => h j j0 (by omega))
    have h1 := wd_rng m (fun j j0 j1 => h j j0 (by omega))
    have h2 := of_decide_eq_true (h (p + m) (by omega) (by omega))
    have hr := cvN_rng m (itr (woF y) m p 0)
    have h8 : (32 : Int) ^ m ≤ 32 ^ 7 := p32_le m (by omega)
    have e7 : (32 : Int) ^ 7 = 34359738368 := by decide
    rw [itr_succ, itr_succ, h0]
    generalize itr (woF y) m p 0 = w at h1 hr
    rw [wj_id (z := cvN m w * 32) (by omega) (by omega), wj_id (z := cvN m w * 32 + _) (by omega) (by omega), wj_id (z := cvN m w * 32 + _ - 97) (by omega) (by omega), wj_id (by omega) (by omega)]
    show _ = cvN m (woF y (p + m) w / 27) * 32 + woF y (p + m) w % 27
    have e1 : woF y (p + m) w / 27 = w := by unfold woF; omega
    have e2 : woF y (p + m) w % 27 = y.2 (p + m) - 96 := by unfold woF; omega
    rw [e1, e2]
    omega
theorem nu_rng {y : Tp} {p : Int} : ∀ m : Nat, (∀ j : Int, p ≤ j → j < p + m → isDg (y.2 j) = true) → 0 ≤ itr (nuF y) m p 0 ∧ itr (nuF y) m p 0 < 10 ^ m
  | 0, _ => by simp [itr]
  | m + 1, h => by
    have h1 := nu_rng m (fun j j0 j1 => h j j0 (by omega))
    have h2 := of_decide_eq_true (h (p + m) (by omega) (by omega))
    rw [itr_succ]
    have e : (10 : Int) ^ (m + 1) = 10 ^ m * 10 := Int.pow_succ _ _
    rw [e]
    generalize (10 : Int) ^ m = T at h1
    generalize itr (nuF y) m p 0 = w at h1 ⊢
    unfold nuF
    omega
theorem nu_cv {y : Tp} {p : Int} : ∀ m : Nat, m ≤ 4 → (∀ j : Int, p ≤ j → j < p + m → isDg (y.2 j) = true) → itr (fun j w => wj (wj (wj (w * 10) + y.2 j) - 48)) m p 0 = itr (nuF y) m p 0
  | 0, _, _ => rfl
  | m + 1, hm, h => by
    have h0 := nu_cv m (by omega) (fun j j0 j1 => h j j0 (by omega))
    have h1 := nu_rng m (fun j j0 j1 => h j j0 (by omega))
    have h2 := of_decide_eq_true (h (p + m) (by omega) (by omega))
    have h8 := ten_le m (by omega)
    rw [itr_succ, itr_succ, h0]
    generalize itr (nuF y) m p 0 = w at h1
    unfold nuF
    rw [wj_id (z := w * 10) (by omega) (by omega), wj_id (z := w * 10 + _) (by omega) (by omega), wj_id (by omega) (by omega)]
/-- all of a run is so -/
theorem rnE_all {p : Int → Bool} {y : Tp} {i j : Int} (h0 : i ≤ j) (h1 : j < rnE p y i) : p (y.2 j) = true := by
  unfold rnE at h1
  cases e : fnd (fun j => !p (y.2 j)) (y.1 - i).toNat i with
  | none =>
    rw [e] at h1
    have h1 : j < y.1 := h1
    have := fnd_none e j h0 (by omega)
    simpa using this
  | some k =>
    rw [e] at h1
    have h1 : j < k := h1
    have := (fnd_some e).2.2.2 j h0 h1
    simpa using this
/-- where the k-th token begins -/
def bgn (y : Tp) : Nat → Int
  | 0 => rnE isBk y 0
  | k + 1 => if bgn y k < y.1 then rnE isBk y (enC y (bgn y k)) else y.1
theorem bgn_rng {y : Tp} (h : 0 ≤ y.1) : ∀ k : Nat, 0 ≤ bgn y k ∧ bgn y k ≤ y.1
  | 0 => rnE_rng h
  | k + 1 => by
    have h1 := bgn_rng h k
    unfold bgn
    split
    · rename_i h2
      have h3 := enC_rng h2
      have := rnE_rng (p := isBk) h3.2
      omega
    · omega
theorem bgn_bk {y : Tp} {k : Nat} (h : bgn y k < y.1) : isBk (y.2 (bgn y k)) = false := by
  match k, h with
  | 0, h => exact rnE_stop h
  | k + 1, h =>
    unfold bgn at h ⊢
    split at h
    · rename_i h2
      rw [if_pos h2]
      exact rnE_stop h
    · exact absurd h (Int.lt_irrefl _)
/-- the class's tokens: N of them, then the end -/
def TkC (σ : St) (y : Tp) (N : Int) : Prop := (0 ≤ N ∧ N ≤ 1000) ∧ bgn y N.toNat = y.1 ∧ (∀ j : Int, 0 ≤ j → j < N → bgn y j.toNat < y.1) ∧ ∀ j : Int, 0 ≤ j → j ≤ N →
  σ 1101 0 j = kdC y (bgn y j.toNat) ∧ σ 1102 0 j = bgn y j.toNat ∧ (kdC y (bgn y j.toNat) = 2 → σ 1103 0 j = cvN 9 (woW y (bgn y j.toNat))) ∧ (kdC y (bgn y j.toNat) = 3 → σ 1103 0 j = nuW y (bgn y j.toNat)) ∧ (kdC y (bgn y j.toNat) = 4 → σ 1103 0 j = y.2 (bgn y j.toNat))
/-- a word's, a number's ranges -/
theorem wd_ok {y : Tp} {p : Int} (h : kdC y p = 2) : 0 ≤ woW y p ∧ woW y p < 27 ^ 8 := by
  unfold kdC at h
  split at h
  · cases h
  · split at h
    · rename_i h1 h2
      split at h
      · rename_i h3
        have hen : enC y p = rnE isLt y p := by unfold enC; rw [if_pos h2]
        have := wd_rng (y := y) (p := p) (enC y p - p).toNat (fun j j0 j1 => rnE_all j0 (by rw [← hen]; omega))
        have h8 : (27 : Int) ^ (enC y p - p).toNat ≤ 27 ^ 8 := p27_le _ (by omega)
        unfold woW
        omega
      · cases h
    · split at h
      · split at h <;> cases h
      · split at h <;> cases h
theorem nu_ok {y : Tp} {p : Int} (h : kdC y p = 3) : 0 ≤ nuW y p ∧ nuW y p ≤ 9999 := by
  unfold kdC at h
  split at h
  · cases h
  · split at h
    · split at h <;> cases h
    · split at h
      · rename_i h1 h2 h4
        split at h
        · rename_i h3
          have hen : enC y p = rnE isDg y p := by unfold enC; rw [if_neg h2, if_pos h4]
          have := nu_rng (y := y) (p := p) (enC y p - p).toNat (fun j j0 j1 => rnE_all j0 (by rw [← hen]; omega))
          have h8 : (10 : Int) ^ (enC y p - p).toNat ≤ 10 ^ 4 := p10_le _ (by omega)
          have e : (10 : Int) ^ 4 = 10000 := by decide
          unfold nuW
          omega
        · cases h
      · split at h <;> cases h
