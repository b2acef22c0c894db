/-! THE PURE PART. 40: numbers, loops, frames -/
theorem wi_id {z : Int} (h1 : -2147483648 ≤ z) (h2 : z ≤ 2147483647) : wi z = z := by
  unfold wi
  exact Int.bmod_eq_of_le (by omega) (by omega)
theorem fu_ex {n m : Nat} (h : m < n) : ∃ f, n = f + 1 ∧ m ≤ f := ⟨n - 1, by omega, by omega⟩
theorem FU_pos {m : Nat} (h : m ≤ 8000) : m < FU := by unfold FU; omega
theorem i32_ofInt {z : Int} (h1 : -2147483648 ≤ z) (h2 : z ≤ 2147483647) : (Int32.ofInt z).toInt = z := i32_to ⟨h1, h2⟩
/-- a value of bits is an int -/
theorem bO_i32 (x y : Int) : -2147483648 ≤ bO x y ∧ bO x y ≤ 2147483647 := i32_of _
theorem bA_i32 (x y : Int) : -2147483648 ≤ bA x y ∧ bA x y ≤ 2147483647 := i32_of _
theorem bL_i32 (x y : Int) : -2147483648 ≤ bL x y ∧ bL x y ≤ 2147483647 := i32_of _
theorem bR_i32 (x y : Int) : -2147483648 ≤ bR x y ∧ bR x y ≤ 2147483647 := i32_of _
theorem bO_zero {x : Int} (h1 : -2147483648 ≤ x) (h2 : x ≤ 2147483647) : bO x 0 = x := by
  unfold bO
  rw [show Int32.ofInt x ||| Int32.ofInt 0 = Int32.ofInt x from by
    have : Int32.ofInt 0 = 0 := rfl
    rw [this]
    exact Int32.or_zero]
  exact i32_ofInt h1 h2
/-- a loop that runs over i .. i + m - 1 -/
def itr {A : Type} (f : Int → A → A) : Nat → Int → A → A
  | 0, _, a => a
  | m + 1, i, a => itr f m (i + 1) (f i a)
theorem itr_congr {A : Type} {f g : Int → A → A} : ∀ (m : Nat) (i : Int) (a : A), (∀ (j : Int) (b : A), i ≤ j → j < i + m → f j b = g j b) → itr f m i a = itr g m i a
  | 0, _, _, _ => rfl
  | m + 1, i, a, h => by
    unfold itr
    rw [h i a (Int.le_refl i) (by omega)]
    exact itr_congr m (i + 1) _ (fun j b h1 h2 => h j b (by omega) (by omega))
theorem itr_succ {A : Type} {f : Int → A → A} : ∀ (m : Nat) (i : Int) (a : A), itr f (m + 1) i a = f (i + m) (itr f m i a)
  | 0, i, a => by simp [itr]
  | m + 1, i, a => by
    rw [itr, itr_succ m (i + 1) (f i a), itr]
    congr 1
    omega
/-- what holds all along -/
theorem itr_inv {A : Type} {f : Int → A → A} (J : Int → A → Prop) : ∀ (m : Nat) (i : Int) (a : A), J i a → (∀ (j : Int) (b : A), i ≤ j → j < i + m → J j b → J (j + 1) (f j b)) → J (i + m) (itr f m i a)
  | 0, i, a, h, _ => by simpa [itr] using h
  | m + 1, i, a, h, hs => by
    unfold itr
    have := itr_inv J m (i + 1) (f i a) (hs i a (Int.le_refl i) (by omega) h) (fun j b h1 h2 h3 => hs j b (by omega) (by omega) h3)
    rwa [show i + ((m + 1 : Nat) : Int) = i + 1 + (m : Int) by omega]
/-- a loop of the machine's numbers: F fuel i a -/
theorem loopF {A : Type} {F : Nat → Int → A → Prop} {K : A → Prop} {f : Int → A → A} {N : Int} (J : Int → A → Prop)
    (hs : ∀ (n : Nat) (i : Int) (a : A), 0 ≤ i → i < N → J i a → J (i + 1) (f i a) ∧ (F n (i + 1) (f i a) → F (n + 1) i a))
    (hb : ∀ (n : Nat) (a : A), J N a → K a → F (n + 1) N a) :
    ∀ (m : Nat) (i : Int) (a : A) (n : Nat), 0 ≤ i → i + m = N → m < n → J i a → K (itr f m i a) → F n i a
  | 0, i, a, n, h0, hN, hn, hJ, k => by
    obtain ⟨q, rfl, -⟩ := fu_ex hn
    have e : i = N := by omega
    subst e
    exact hb q a hJ k
  | m + 1, i, a, n, h0, hN, hn, hJ, k => by
    obtain ⟨q, rfl, hq⟩ := fu_ex hn
    obtain ⟨h1, h2⟩ := hs q i a h0 (by omega) hJ
    exact h2 (loopF J hs hb m (i + 1) (f i a) q (by omega) (by omega) (by omega) h1 k)
/-- a loop that may leave early: it looks for the first -/
def fnd (p : Int → Bool) : Nat → Int → Option Int
  | 0, _ => none
  | m + 1, i => if p i then some i else fnd p m (i + 1)
theorem fnd_congr {p q : Int → Bool} : ∀ (m : Nat) (i : Int), (∀ j : Int, i ≤ j → j < i + m → p j = q j) → fnd p m i = fnd q m i
  | 0, _, _ => rfl
  | m + 1, i, h => by
    unfold fnd
    rw [h i (Int.le_refl i) (by omega), fnd_congr m (i + 1) (fun j h1 h2 => h j (by omega) (by omega))]
theorem fnd_some {p : Int → Bool} : ∀ {m : Nat} {i j : Int}, fnd p m i = some j → i ≤ j ∧ j < i + m ∧ p j = true ∧ ∀ k : Int, i ≤ k → k < j → p k = false
  | 0, _, _, h => by cases h
  | m + 1, i, j, h => by
    unfold fnd at h
    split at h
    · rename_i hp
      cases h
      exact ⟨Int.le_refl i, by omega, hp, fun k h1 h2 => by omega⟩
    · rename_i hp
      obtain ⟨h1, h2, h3, h4⟩ := fnd_some h
      refine ⟨by omega, by omega, h3, fun k k1 k2 => ?_⟩
      by_cases e : k = i
      · subst e
        exact Bool.eq_false_iff.mpr hp
      · exact h4 k (by omega) k2
theorem fnd_none {p : Int → Bool} : ∀ {m : Nat} {i : Int}, fnd p m i = none → ∀ k : Int, i ≤ k → k < i + m → p k = false
  | 0, _, _, k, h1, h2 => by omega
  | m + 1, i, h, k, h1, h2 => by
    unfold fnd at h
    split at h
    · cases h
    · rename_i hp
      by_cases e : k = i
      · subst e
        exact Bool.eq_false_iff.mpr hp
      · exact fnd_none h k (by omega) (by omega)
theorem findF {F : Nat → Int → Prop} {K0 : Prop} {K : Int → Prop} {p : Int → Bool} {N : Int}
    (hs : ∀ (n : Nat) (i : Int), 0 ≤ i → i < N → (p i = true → K i → F (n + 1) i) ∧ (p i = false → F n (i + 1) → F (n + 1) i))
    (hb : ∀ n : Nat, K0 → F (n + 1) N) :
    ∀ (m : Nat) (i : Int) (n : Nat), 0 ≤ i → i + m = N → m < n → (match fnd p m i with | none => K0 | some j => K j) → F n i
  | 0, i, n, h0, hN, hn, k => by
    obtain ⟨q, rfl, -⟩ := fu_ex hn
    have e : i = N := by omega
    subst e
    exact hb q k
  | m + 1, i, n, h0, hN, hn, k => by
    obtain ⟨q, rfl, hq⟩ := fu_ex hn
    obtain ⟨h1, h2⟩ := hs q i h0 (by omega)
    unfold fnd at k
    cases hp : p i with
    | true =>
      rw [hp] at k
      exact h1 hp k
    | false =>
      rw [hp] at k
      exact h2 hp (findF hs hb m (i + 1) q (by omega) (by omega) (by omega) k)
/-- FRAMES: places that may have changed -/
abbrev Reg : Type := Nat × Nat × Option Int
def inR (R : List Reg) (t i : Nat) (x : Int) : Bool := R.any (fun r => Nat.beq r.1 t && (Nat.beq r.2.1 i && match r.2.2 with | none => true | some y => decide (y = x)))
def ovl (a b : Reg) : Bool := Nat.beq a.1 b.1 && (Nat.beq a.2.1 b.2.1 && match a.2.2, b.2.2 with | some x, some y => decide (x = y) | _, _ => true)
def dj (A B : List Reg) : Bool := A.all (fun a => B.all (fun b => !ovl a b))
/-- τ is σ but for the places of A -/
def Sm (A : List Reg) (σ τ : St) : Prop := ∀ t i x, inR A t i x = false → τ t i x = σ t i x
/-- a condition that looks at the places of B alone -/
def Dep (B : List Reg) (C : St → Prop) : Prop := ∀ σ τ : St, (∀ t i x, inR B t i x = true → τ t i x = σ t i x) → C σ → C τ
theorem dj_no {A B : List Reg} (h : dj A B = true) {t i : Nat} {x : Int} (hB : inR B t i x = true) : inR A t i x = false := by
  cases hA : inR A t i x
  · rfl
  · exfalso
    obtain ⟨a, ha, ha2⟩ := List.any_eq_true.mp hA
    obtain ⟨b, hb, hb2⟩ := List.any_eq_true.mp hB
    have h1 := List.all_eq_true.mp (List.all_eq_true.mp h a ha) b hb
    simp only [Bool.and_eq_true] at ha2 hb2
    obtain ⟨a1, a2, a3⟩ := ha2
    obtain ⟨b1, b2, b3⟩ := hb2
    have a1 := Nat.eq_of_beq_eq_true a1
    have a2 := Nat.eq_of_beq_eq_true a2
    have b1 := Nat.eq_of_beq_eq_true b1
    have b2 := Nat.eq_of_beq_eq_true b2
    unfold ovl at h1
    rw [a1, b1, a2, b2, Nat.beq_refl, Nat.beq_refl, Bool.true_and, Bool.true_and] at h1
    cases e1 : a.2.2 <;> cases e2 : b.2.2 <;> rw [e1] at a3 h1 <;> rw [e2] at b3 h1 <;> simp_all
theorem Sm.keep {A B : List Reg} {C : St → Prop} {σ τ : St} (h : Sm A σ τ) (hC : Dep B C) (hd : dj A B = true) (c : C σ) : C τ := hC σ τ (fun t i x hx => h t i x (dj_no hd hx)) c
theorem Sm.rf {A : List Reg} {σ : St} : Sm A σ σ := fun _ _ _ _ => rfl
theorem Sm.tr {A : List Reg} {σ τ υ : St} (h : Sm A σ τ) (h' : Sm A τ υ) : Sm A σ υ := fun t i x hx => (h' t i x hx).trans (h t i x hx)
theorem inR_app {A B : List Reg} {t i : Nat} {x : Int} : inR (A ++ B) t i x = (inR A t i x || inR B t i x) := by unfold inR; rw [List.any_append]
theorem Sm.sub {A B : List Reg} {σ τ : St} (h : Sm A σ τ) (hs : ∀ t i x, inR B t i x = false → inR A t i x = false) : Sm B σ τ := fun t i x hx => h t i x (hs t i x hx)
theorem Sm.l {A B : List Reg} {σ τ : St} (h : Sm A σ τ) : Sm (A ++ B) σ τ := h.sub (fun t i x hx => by rw [inR_app, Bool.or_eq_false_iff] at hx; exact hx.1)
theorem Sm.r {A B : List Reg} {σ τ : St} (h : Sm B σ τ) : Sm (A ++ B) σ τ := h.sub (fun t i x hx => by rw [inR_app, Bool.or_eq_false_iff] at hx; exact hx.2)
theorem Sm.mem {A B : List Reg} {σ τ : St} (h : Sm A σ τ) (hs : ∀ r ∈ A, r ∈ B) : Sm B σ τ := h.sub (fun t i x hx => by
  cases hA : inR A t i x
  · rfl
  · obtain ⟨r, hr, hr2⟩ := List.any_eq_true.mp hA
    have : inR B t i x = true := List.any_eq_true.mpr ⟨r, hs r hr, hr2⟩
    rw [this] at hx
    cases hx)
/-- a store put -/
theorem Sm_up {A : List Reg} {σ τ : St} {t i : Nat} {x v : Int} (h : Sm A σ τ) (ha : inR A t i x = true) : Sm A σ (up τ t i x v) := by
  intro t' i' x' hx
  rw [← h t' i' x' hx]
  unfold up
  split
  · rename_i e
    rw [e.1, e.2.1, e.2.2, ha] at hx
    cases hx
  · rfl
theorem Sm.row {A : List Reg} {σ τ : St} (h : Sm A σ τ) {t i : Nat} (hd : A.all (fun a => !(Nat.beq a.1 t && Nat.beq a.2.1 i)) = true) : τ t i = σ t i := by
  funext x
  refine h t i x ?_
  cases hA : inR A t i x
  · rfl
  · obtain ⟨r, hr, hr2⟩ := List.any_eq_true.mp hA
    have h1 := List.all_eq_true.mp hd r hr
    simp only [Bool.and_eq_true] at hr2
    rw [hr2.1, hr2.2.1] at h1
    cases h1
