/-! 42: states. Ab: day, beat, how long the first one is served, how many in the row, the row, gaps, sizes, how, at, left, runs. -/
abbrev Ab : Type := Int × Int × Int × Int × (Int → Int) × (Int → Int) × (Int → Int) × (Int → Int) × (Int → Int) × (Int → Int) × (Int → Int)
abbrev zDay (z : Ab) : Int := z.1
abbrev zBeat (z : Ab) : Int := z.2.1
abbrev zSrv (z : Ab) : Int := z.2.2.1
abbrev zMany (z : Ab) : Int := z.2.2.2.1
abbrev zQ (z : Ab) : Int → Int := z.2.2.2.2.1
abbrev zGap (z : Ab) : Int → Int := z.2.2.2.2.2.1
abbrev zSize (z : Ab) : Int → Int := z.2.2.2.2.2.2.1
abbrev zHow (z : Ab) : Int → Int := z.2.2.2.2.2.2.2.1
abbrev zAt (z : Ab) : Int → Int := z.2.2.2.2.2.2.2.2.1
abbrev zLeft (z : Ab) : Int → Int := z.2.2.2.2.2.2.2.2.2.1
abbrev zRun (z : Ab) : Int → Int := z.2.2.2.2.2.2.2.2.2.2
/-- a row of the reference tells z -/
def StA (n m : Int) (R : Int → Int) (z : Ab) : Prop :=
  R 0 = zDay z ∧ R 1 = zBeat z ∧ R 2 = zSrv z ∧ R 3 = zMany z ∧ (∀ j : Int, 0 ≤ j → j < zMany z → R (4 + j) = zQ z j) ∧ (∀ c : Int, 0 ≤ c → c < n → R (10 + c) = zGap z c) ∧
  ∀ b : Int, 0 ≤ b → b < m → R (16 + b) = zSize z b ∧ R (22 + b) = zHow z b ∧ R (28 + b) = zAt z b ∧ R (34 + b) = zLeft z b ∧ R (40 + b) = zRun z b
/-- the class's State i tells z -/
def StC (n m : Int) (σ : St) (i : Nat) (z : Ab) : Prop :=
  σ 9 i 10 = zDay z ∧ σ 9 i 11 = zBeat z ∧ σ 9 i 9 = zSrv z ∧ σ 9 i 8 = zMany z ∧ (∀ j : Int, 0 ≤ j → j < zMany z → σ 1007 i j = zQ z j) ∧ (∀ c : Int, 0 ≤ c → c < n → σ 1001 i c = zGap z c) ∧
  ∀ b : Int, 0 ≤ b → b < m → σ 1002 i b = zSize z b ∧ σ 1004 i b = zHow z b ∧ σ 1003 i b = zAt z b ∧ σ 1005 i b = zLeft z b ∧ σ 1006 i b = zRun z b
/-- how many, as bits: which of those below i -/
def cnt (p : Int → Bool) : Nat → Int
  | 0 => 0
  | i + 1 => cnt p i + (if p i then 1 else 0)
def bts (p : Int → Bool) : Nat → Int
  | 0 => 0
  | i + 1 => if p i then bO (bts p i) (bL 1 i) else bts p i
theorem cnt_nonneg (p : Int → Bool) : ∀ i : Nat, 0 ≤ cnt p i ∧ cnt p i ≤ i
  | 0 => ⟨Int.le_refl 0, Int.le_refl 0⟩
  | i + 1 => by
    have := cnt_nonneg p i
    unfold cnt
    split <;> omega
theorem cnt_congr {p q : Int → Bool} : ∀ i : Nat, (∀ b : Int, 0 ≤ b → b < i → p b = q b) → cnt p i = cnt q i
  | 0, _ => rfl
  | i + 1, h => by
    unfold cnt
    rw [cnt_congr i (fun b h0 h1 => h b h0 (by omega)), h i (by omega) (by omega)]
theorem bts_congr {p q : Int → Bool} : ∀ i : Nat, (∀ b : Int, 0 ≤ b → b < i → p b = q b) → bts p i = bts q i
  | 0, _ => rfl
  | i + 1, h => by
    unfold bts
    rw [bts_congr i (fun b h0 h1 => h b h0 (by omega)), h i (by omega) (by omega)]
theorem bts_i32 (p : Int → Bool) : ∀ i : Nat, -2147483648 ≤ bts p i ∧ bts p i ≤ 2147483647
  | 0 => ⟨show (-2147483648 : Int) ≤ 0 by decide, show (0 : Int) ≤ 2147483647 by decide⟩
  | i + 1 => by
    unfold bts
    split
    · exact bO_i32 _ _
    · exact bts_i32 p i
theorem cnt_or {p q : Int → Bool} (h : ∀ b, ¬ (p b = true ∧ q b = true)) : ∀ i : Nat, cnt p i + cnt q i = cnt (fun b => p b || q b) i
  | 0 => rfl
  | i + 1 => by
    have := cnt_or h i
    have hh := h i
    unfold cnt
    cases hp : p i <;> cases hq : q i <;> simp_all <;> omega
theorem cnt_mono {p : Int → Bool} : ∀ {i j : Nat}, i ≤ j → cnt p i ≤ cnt p j
  | i, 0, h => by
    have : i = 0 := by omega
    subst this
    exact Int.le_refl _
  | i, j + 1, h => by
    by_cases e : i = j + 1
    · subst e; exact Int.le_refl _
    · have := cnt_mono (p := p) (i := i) (j := j) (by omega)
      show cnt p i ≤ cnt p j + (if p j then 1 else 0)
      split <;> omega
theorem cnt_lt {p : Int → Bool} {i j : Nat} (h : i < j) (hp : p i = true) : cnt p i + 1 ≤ cnt p j := by
  have h1 := cnt_mono (p := p) (i := i + 1) (j := j) h
  have h2 : cnt p (i + 1) = cnt p i + 1 := by
    show cnt p i + (if p i then 1 else 0) = _
    rw [if_pos hp]
  omega
/-- the one at a count -/
theorem cnt_at {p : Int → Bool} : ∀ {m : Nat} {j : Int}, 0 ≤ j → j < cnt p m → ∃ b : Nat, b < m ∧ p b = true ∧ cnt p b = j
  | 0, j, h0, h1 => by
    have : cnt p 0 = 0 := rfl
    omega
  | m + 1, j, h0, h1 => by
    by_cases hj : j < cnt p m
    · obtain ⟨b, hb, h2, h3⟩ := cnt_at h0 hj
      exact ⟨b, by omega, h2, h3⟩
    · have h2 : cnt p (m + 1) = cnt p m + (if p m then 1 else 0) := rfl
      by_cases hp : p m = true
      · rw [if_pos hp] at h2
        exact ⟨m, by omega, hp, by omega⟩
      · rw [if_neg hp] at h2
        omega
/-- a sound state: n counters, m balls, the desk takes dk -/
def WfZ (n m dk : Int) (z : Ab) : Prop :=
  (0 ≤ zDay z ∧ zDay z ≤ 1000000) ∧ i32 (zBeat z) ∧ (0 ≤ zSrv z ∧ zSrv z < dk) ∧ zMany z = cnt (fun b => decide (zHow z b = 2)) m.toNat ∧
  (∀ j : Int, 0 ≤ j → j < zMany z → (0 ≤ zQ z j ∧ zQ z j < m) ∧ zHow z (zQ z j) = 2) ∧ (∀ i j : Int, 0 ≤ i → i < j → j < zMany z → zQ z i ≠ zQ z j) ∧
  (∀ c : Int, 0 ≤ c → c < n → 0 ≤ zGap z c ∧ zGap z c ≤ 60) ∧
  ∀ b : Int, 0 ≤ b → b < m → (1 ≤ zSize z b ∧ zSize z b ≤ 60) ∧ (0 ≤ zHow z b ∧ zHow z b ≤ 3) ∧ (0 ≤ zAt z b ∧ (zAt z b < n ∨ zAt z b = 6)) ∧ (0 ≤ zLeft z b ∧ zLeft z b ≤ 42) ∧ (zHow z b = 1 ∨ zHow z b = 3 → 1 ≤ zLeft z b) ∧ i32 (zRun z b)
/-- the shop's numbers as a beat needs them: counters, balls, desk, places, rail, kinds -/
abbrev Sp : Type := Int × Int × Int × (Int → Int) × (Int → Int) × (Int → Int)
def spC (σ : St) (o : Nat) : Sp := (σ 8 o 10, σ 8 o 11, σ 8 o 13, σ 900 o, σ 903 o, σ 904 o)
/-- the first one is through -/
def srvd (dk : Int) (z : Ab) : Bool := decide (0 < zMany z) && decide (dk ≤ zSrv z + 1)
def arr (z : Ab) (b : Int) : Bool := decide (zHow z b = 1) && decide (zLeft z b ≤ 1)
def com (z : Ab) (b : Int) : Bool := decide (zHow z b = 3) && decide (zLeft z b ≤ 1)
/-- where the first one goes, in how many -/
def srvAt (s : Sp) (z : Ab) : Int := falW s.1 s.2.2.2.2.1 (zGap z) (zSize z (zQ z 0))
def srvLeft (s : Sp) (z : Ab) : Int := btoW s.1 s.2.2.2.1 s.2.2.2.2.1 s.2.2.2.2.2 (zQ z 0) (srvAt s z)
/-- behind the serving: the row's length -/
def man1 (s : Sp) (z : Ab) : Int := if srvd s.2.2.1 z then zMany z - 1 else zMany z
/-- a BEAT -/
def pasW (s : Sp) (z : Ab) : Ab :=
  (zDay z, wi (zBeat z + 1), (if 0 < zMany z then (if s.2.2.1 ≤ zSrv z + 1 then 0 else zSrv z + 1) else zSrv z), man1 s z + cnt (arr z) s.2.1.toNat,
   (fun j => if j < man1 s z then (if srvd s.2.2.1 z then zQ z (j + 1) else zQ z j) else match fnd (fun b => arr z b && decide (man1 s z + cnt (arr z) b.toNat = j)) s.2.1.toNat 0 with | some b => b | none => 0),
   zGap z, zSize z,
   (fun b => if srvd s.2.2.1 z && decide (b = zQ z 0) then 3 else if com z b then 0 else if arr z b then 2 else zHow z b),
   (fun b => if srvd s.2.2.1 z && decide (b = zQ z 0) then srvAt s z else zAt z b),
   (fun b => if srvd s.2.2.1 z && decide (b = zQ z 0) then srvLeft s z else if zHow z b = 1 ∨ zHow z b = 3 then zLeft z b - 1 else zLeft z b),
   zRun z)
def pasB (s : Sp) (z : Ab) : Int := bts (com z) s.2.1.toNat
theorem pasQ_new {s : Sp} {z : Ab} {b : Nat} (hb : (b : Int) < s.2.1) (ha : arr z b = true) : zQ (pasW s z) (man1 s z + cnt (arr z) b) = b := by
  have h0 := (cnt_nonneg (arr z) b).1
  show (if man1 s z + cnt (arr z) b < man1 s z then _ else _) = _
  rw [if_neg (by omega)]
  cases h : fnd (fun c => arr z c && decide (man1 s z + cnt (arr z) c.toNat = man1 s z + cnt (arr z) b)) s.2.1.toNat 0 with
  | none =>
    have := fnd_none h b (by omega) (by omega)
    rw [Int.toNat_natCast, ha, decide_eq_true rfl] at this
    cases this
  | some c =>
    obtain ⟨q1, q2, q3, -⟩ := fnd_some h
    rw [Bool.and_eq_true] at q3
    have q4 := of_decide_eq_true q3.2
    show c = b
    have hc : ((c.toNat : Nat) : Int) = c := Int.toNat_of_nonneg q1
    have hac : arr z (c.toNat : Nat) = true := by rw [hc]; exact q3.1
    rcases Nat.lt_trichotomy c.toNat b with h1 | h1 | h1
    · have := cnt_lt (p := arr z) h1 hac; omega
    · omega
    · have := cnt_lt (p := arr z) h1 ha; omega
/-- rows with a place put -/
def upr (R : Int → Int) (k v : Int) : Int → Int := fun x => if x = k then v else R x
theorem upr_at {R : Int → Int} {k v : Int} : upr R k v k = v := if_pos rfl
theorem upr_ne {R : Int → Int} {k v x : Int} (h : x ≠ k) : upr R k v x = R x := if_neg h
theorem up_row {σ : St} {t i : Nat} {k v : Int} : (up σ t i k v) t i = upr (σ t i) k v := by
  funext x
  unfold up upr
  by_cases e : x = k
  · rw [if_pos ⟨rfl, rfl, e⟩, if_pos e]
  · rw [if_neg (fun h => e h.2.2), if_neg e]
theorem up_oth {σ : St} {t i t' i' : Nat} {k v : Int} (h : Nat.beq t' t = false ∨ Nat.beq i' i = false) : (up σ t i k v) t' i' = σ t' i' := by
  funext x
  unfold up
  rw [if_neg]
  rintro ⟨rfl, rfl, -⟩
  rcases h with h | h <;> (rw [Nat.beq_refl] at h; cases h)
/-- shops are kept -/
def shT : List Nat := [8, 900, 901, 903, 904, 905, 906, 908]
def noT (A : List Reg) (T : List Nat) (o : Nat) : Bool := T.all (fun t => A.all (fun a => !(Nat.beq a.1 t && Nat.beq a.2.1 o)))
theorem noT_row {A : List Reg} {T : List Nat} {o : Nat} {σ τ : St} (h : Sm A σ τ) (hn : noT A T o = true) {t : Nat} (ht : t ∈ T) : τ t o = σ t o := h.row (List.all_eq_true.mp hn t ht)
theorem ShC_keep {A : List Reg} {o : Nat} {σ τ : St} (h : Sm A σ τ) (hn : noT A shT o = true) (c : ShC σ o) : ShC τ o := by
  unfold ShC at c ⊢
  rw [noT_row h hn (t := 8) (by decide), noT_row h hn (t := 900) (by decide), noT_row h hn (t := 901) (by decide), noT_row h hn (t := 903) (by decide), noT_row h hn (t := 904) (by decide), noT_row h hn (t := 905) (by decide), noT_row h hn (t := 906) (by decide), noT_row h hn (t := 908) (by decide)]
  exact c
def shE : List Nat := [8, 900, 901, 903, 904, 905, 906, 908, 1310, 1313, 1314, 1315, 1316, 1317, 1318, 1353]
theorem ShE_keep {A : List Reg} {σ τ : St} (h : Sm A σ τ) (hn : noT A shE 0 = true) (c : ShE σ) : ShE τ := by
  unfold ShE at c ⊢
  rw [noT_row h hn (t := 8) (by decide), noT_row h hn (t := 900) (by decide), noT_row h hn (t := 901) (by decide), noT_row h hn (t := 903) (by decide), noT_row h hn (t := 904) (by decide), noT_row h hn (t := 905) (by decide), noT_row h hn (t := 906) (by decide), noT_row h hn (t := 908) (by decide), noT_row h hn (t := 1310) (by decide), noT_row h hn (t := 1313) (by decide), noT_row h hn (t := 1314) (by decide), noT_row h hn (t := 1315) (by decide), noT_row h hn (t := 1316) (by decide), noT_row h hn (t := 1317) (by decide), noT_row h hn (t := 1318) (by decide), noT_row h hn (t := 1353) (by decide)]
  exact c
theorem spC_keep {A : List Reg} {o : Nat} {σ τ : St} (h : Sm A σ τ) (hn : noT A shT o = true) : spC τ o = spC σ o := by
  unfold spC
  rw [noT_row h hn (t := 8) (by decide), noT_row h hn (t := 900) (by decide), noT_row h hn (t := 903) (by decide), noT_row h hn (t := 904) (by decide)]
