/-! 96: what the reference's codes are worth -/
def pS (τ : St) (x : Int) : Int := if τ 1331 0 x = 21 then wi (τ 1330 0 x - τ 1332 0 x) else wi (τ 1330 0 x + τ 1332 0 x)
def pT (τ : St) (x : Int) : Int := if τ 1329 0 x = 24 then (if τ 1328 0 x < pS τ x then 1 else 0) else if τ 1329 0 x = 25 then (if τ 1328 0 x = pS τ x then 1 else 0) else pS τ x
def pE (τ : St) (x : Int) : Int := if τ 1327 0 x = 26 then (if τ 1326 0 x = 0 then 0 else if pT τ x = 0 then 0 else 1) else if τ 1327 0 x = 27 then (if τ 1326 0 x = 0 then (if pT τ x = 0 then 0 else 1) else 1) else pT τ x
def a9 : List Nat := [1326, 1327, 1328, 1329, 1330, 1331, 1332, 1333, 1334]
/-- places of the registers below x, and those of x but for some, stay -/
def FrW (keep : List Nat) (x : Int) (τ υ : St) : Prop := Sm lwA τ υ ∧ (∀ t, t ∈ a9 → ∀ z : Int, z < x → υ t 0 z = τ t 0 z) ∧ ∀ t, t ∈ keep → υ t 0 x = τ t 0 x
theorem FrW.tr {keep : List Nat} {x : Int} {τ υ ω : St} (h : FrW keep x τ υ) (h' : FrW keep x υ ω) : FrW keep x τ ω := ⟨h.1.tr h'.1, fun t ht z hz => (h'.2.1 t ht z hz).trans (h.2.1 t ht z hz), fun t ht => (h'.2.2 t ht).trans (h.2.2 t ht)⟩
theorem FrW.mono {k1 k2 : List Nat} {x : Int} {τ υ : St} (h : FrW k1 x τ υ) (hk : ∀ t, t ∈ k2 → t ∈ k1) : FrW k2 x τ υ := ⟨h.1, h.2.1, fun t ht => h.2.2 t (hk t ht)⟩
theorem FrW.rf {keep : List Nat} {x : Int} {τ : St} : FrW keep x τ τ := ⟨Sm.rf, fun _ _ _ _ => rfl, fun _ _ => rfl⟩
theorem FrW_up {keep : List Nat} {x : Int} {τ υ : St} {t : Nat} {v : Int} (h : FrW keep x τ υ) (ht : inR lwA t 0 x = true) (hk : ∀ s, s ∈ keep → Nat.beq s t = false) : FrW keep x τ (up υ t 0 x v) := by
  refine ⟨Sm_up h.1 ht, fun s hs z hz => ?_, fun s hs => ?_⟩
  · rw [up_ni (Or.inr (by omega))]
    exact h.2.1 s hs z hz
  · rw [up_nt (hk s hs)]
    exact h.2.2 s hs
/-- what was told ahead of the codes -/
def EnW (τ : St) (w r e d : Int) : Prop := τ 1335 0 1 = w ∧ τ 1335 0 2 = r ∧ τ 1335 0 3 = e ∧ τ 1335 0 4 = d
def CM (τ : St) (cs : List Int) (i : Int) : Prop := ∀ j : Nat, j < cs.length → τ 1321 0 (i + j) = cs.getD j 0
theorem CM_app {τ : St} {a b : List Int} {i : Int} (h : CM τ (a ++ b) i) : CM τ a i ∧ CM τ b (i + a.length) := by
  refine ⟨fun j hj => ?_, fun j hj => ?_⟩
  · have := h j (by rw [List.length_append]; omega)
    rw [List.getD_eq_getElem?_getD, List.getElem?_append_left hj, ← List.getD_eq_getElem?_getD] at this
    exact this
  · have := h (a.length + j) (by rw [List.length_append]; omega)
    rw [List.getD_eq_getElem?_getD, List.getElem?_append_right (by omega), Nat.add_sub_cancel_left, ← List.getD_eq_getElem?_getD] at this
    rw [show i + (a.length : Int) + j = i + ((a.length + j : Nat) : Int) by omega]
    exact this
theorem CM_cons {τ : St} {c : Int} {b : List Int} {i : Int} (h : CM τ (c :: b) i) : τ 1321 0 i = c ∧ CM τ b (i + 1) := by
  have h' := CM_app (a := [c]) (b := b) h
  refine ⟨?_, h'.2⟩
  have := h'.1 0 (by simp)
  rw [show i + ((0 : Nat) : Int) = i by omega] at this
  exact this
abbrev kL (K : St → Prop) (Q : Int → St → Prop) (n : Nat) (x i : Int) (τ : St) : Prop := P_X12_worked_L14 0 K Q n x i τ
/-- a run of codes: from i to i + len, fuel and room -/
def RnW (τ : St) (cs : List Int) (i : Int) (n : Nat) : Prop := CM τ cs i ∧ 0 ≤ i ∧ i + cs.length ≤ τ 1320 0 0 ∧ τ 1320 0 0 ≤ 1000 ∧ 1001 - i ≤ n
theorem RnW_sm {τ υ : St} {cs : List Int} {i : Int} {n : Nat} (h : Sm lwA τ υ) (c : RnW τ cs i n) : RnW υ cs i n := by
  unfold RnW CM at c ⊢
  rw [h.row (t := 1321) (i := 0) rfl, h.row (t := 1320) (i := 0) rfl]
  exact c
theorem EnW_sm {τ υ : St} {w r e d : Int} (h : Sm lwA τ υ) (c : EnW τ w r e d) : EnW υ w r e d := by
  unfold EnW at c ⊢
  rw [h.row (t := 1335) (i := 0) rfl]
  exact c
/-- a number given at depth x: through the nots, onto a product -/
def dlv (op : Int → Int) : Nat → Int → Int
  | 0, v => v
  | x + 1, v => if op ((x + 1 : Nat) : Int) = 1 then dlv op x (if v = 0 then 1 else 0) else v
theorem dlv_con {op op' : Int → Int} : ∀ (x : Nat) (v : Int), (∀ e : Int, e ≤ x → op e = op' e) → dlv op x v = dlv op' x v
  | 0, _, _ => rfl
  | x + 1, v, h => by
    unfold dlv
    rw [h _ (Int.le_refl _), dlv_con x _ (fun e he => h e (by omega))]
/-- given: at the depth b that is left, the product has it -/
def giv (τ : St) (x : Int) (v : Int) : Int := if τ 1333 0 (bs (τ 1334 0) x.toNat) = 0 then dlv (τ 1334 0) x.toNat v else wi (τ 1332 0 (bs (τ 1334 0) x.toNat) * dlv (τ 1334 0) x.toNat v)
/-- as giving left it: all else up to x stays -/
def GvW (x v : Int) (τ υ : St) : Prop := Sm lwA τ υ ∧ (∀ t, t ∈ a9 → ∀ z : Int, z ≤ x → ¬ (t = 1332 ∧ z = bs (τ 1334 0) x.toNat) → υ t 0 z = τ t 0 z) ∧ υ 1332 0 (bs (τ 1334 0) x.toNat) = giv τ x v
def EP (a : PR) (m : Nat) : Prop := a.1 = 0 → ∀ (K : St → Prop) (Q : Int → St → Prop) (n : Nat) (x i w r e d : Int) (τ : St), 0 ≤ x → x + m ≤ 6 → i32 w → i32 r → i32 e → i32 d → EnW τ w r e d → RnW τ a.2.2.2.1 i n →
  (∀ (n' : Nat) (τ' : St), GvW x (a.2.2.2.2 w r e d) τ τ' → 1001 - (i + a.2.2.2.1.length) ≤ n' → kL K Q n' (bs (τ 1334 0) x.toNat) (i + a.2.2.2.1.length) τ') → kL K Q n x i τ
def kpR (c : Nat) : List Nat := if c = 1 then [1326, 1327, 1328, 1329, 1330, 1331, 1334] else if c = 2 then [1326, 1327, 1328, 1329, 1334] else if c = 3 then [1326, 1327, 1334] else [1334]
def SC (c : Nat) (x : Int) (τ : St) : Prop := τ 1333 0 x = 0 ∧ (2 ≤ c → τ 1330 0 x = 0 ∧ τ 1331 0 x = 20) ∧ (3 ≤ c → τ 1329 0 x = 0) ∧ (4 ≤ c → τ 1327 0 x = 0)
def vlR (c : Nat) (x : Int) (τ : St) : Int := if c = 1 then τ 1332 0 x else if c = 2 then pS τ x else if c = 3 then pT τ x else pE τ x
def ER (a : PR) (c m : Nat) : Prop := a.1 = 0 → ∀ (K : St → Prop) (Q : Int → St → Prop) (n : Nat) (x i w r e d : Int) (τ : St), 0 ≤ x → x + m ≤ 6 → i32 w → i32 r → i32 e → i32 d → EnW τ w r e d → RnW τ a.2.2.2.1 i n → bs (τ 1334 0) x.toNat = x → SC c x τ →
  (∀ (n' : Nat) (τ' : St), FrW (kpR c) x τ τ' → vlR c x τ' = a.2.2.2.2 w r e d → 1001 - (i + a.2.2.2.1.length) ≤ n' → kL K Q n' x (i + a.2.2.2.1.length) τ') → kL K Q n x i τ
/-- a part is a product, a product a sum, a sum a test, a test all -/
theorem ER_1 {a : PR} {m : Nat} (h : EP a m) : ER a 1 m := by
  intro h0 K Q n x i w r e d τ x0 xm hw hr he hd hE hR hb hS k
  refine h h0 K Q n x i w r e d τ x0 xm hw hr he hd hE hR (fun n' τ' g hn => ?_)
  obtain ⟨g1, g2, g3⟩ := g
  rw [hb] at g2 g3 ⊢
  have nd : ∀ v, dlv (τ 1334 0) x.toNat v = v := fun v => by
    cases hx : x.toNat with
    | zero => rfl
    | succ q =>
      rw [hx] at hb
      unfold bs at hb
      unfold dlv
      by_cases ho : τ 1334 0 ((q + 1 : Nat) : Int) = 1
      · rw [if_pos ho] at hb
        have := bs_rng (τ 1334 0) q
        omega
      · rw [if_neg ho]
  refine k n' τ' ⟨g1, fun t ht z hz => g2 t ht z (by omega) (fun q => by omega), fun t ht => ?_⟩ ?_ hn
  · refine g2 t ?_ x (Int.le_refl x) (fun q => ?_)
    · unfold kpR at ht
      rw [if_pos rfl] at ht
      unfold a9
      simp only [List.mem_cons, List.not_mem_nil, or_false] at ht ⊢
      omega
    · unfold kpR at ht
      rw [if_pos rfl, q.1] at ht
      simp at ht
  · show τ' 1332 0 x = _
    rw [g3]
    unfold giv
    rw [hb, hS.1, if_pos rfl, nd]
theorem ER_lift {a : PR} {c m : Nat} (c1 : 1 ≤ c) (c3 : c ≤ 3) (h : ER a c m) (hi : PrI a) : ER a (c + 1) m := by
  intro h0 K Q n x i w r e d τ x0 xm hw hr he hd hE hR hb hS k
  obtain ⟨s1, s2, s3, s4⟩ := hS
  refine h h0 K Q n x i w r e d τ x0 xm hw hr he hd hE hR hb ⟨s1, fun q => s2 (by omega), fun q => s3 (by omega), fun q => s4 (by omega)⟩ (fun n' τ' f v hn => ?_)
  have hv := hi h0 w r e d hw hr he hd
  have hc : c = 1 ∨ c = 2 ∨ c = 3 := by omega
  rcases hc with rfl | rfl | rfl
  · refine k n' τ' (f.mono (fun t ht => ?_)) ?_ hn
    · unfold kpR at ht ⊢
      rw [if_neg (by decide), if_pos rfl] at ht
      rw [if_pos rfl]
      simp only [List.mem_cons, List.not_mem_nil, or_false] at ht ⊢
      omega
    · show pS τ' x = _
      have v : τ' 1332 0 x = _ := v
      have e0 := f.2.2 1330 (by decide)
      have e1 := f.2.2 1331 (by decide)
      obtain ⟨q1, q2⟩ := s2 (by decide)
      unfold pS
      rw [e0, e1, q1, q2, if_neg (by decide), v, Int.zero_add]
      exact wi_id hv.1 hv.2
  · refine k n' τ' (f.mono (fun t ht => ?_)) ?_ hn
    · unfold kpR at ht ⊢
      rw [if_neg (by decide), if_neg (by decide), if_pos rfl] at ht
      rw [if_neg (by decide), if_pos rfl]
      simp only [List.mem_cons, List.not_mem_nil, or_false] at ht ⊢
      omega
    · show pT τ' x = _
      have v : pS τ' x = _ := v
      have e0 := f.2.2 1329 (by decide)
      unfold pT
      rw [e0, s3 (by decide), if_neg (by decide), if_neg (by decide), v]
  · refine k n' τ' (f.mono (fun t ht => ?_)) ?_ hn
    · unfold kpR at ht ⊢
      rw [if_neg (by decide), if_neg (by decide), if_neg (by decide)] at ht
      rw [if_neg (by decide), if_neg (by decide), if_pos rfl]
      simp only [List.mem_cons, List.not_mem_nil, or_false] at ht ⊢
      omega
    · show pE τ' x = _
      have v : pT τ' x = _ := v
      have e0 := f.2.2 1327 (by decide)
      unfold pE
      rw [e0, s4 (by decide), if_neg (by decide), if_neg (by decide), v]
theorem ER_bad {a : PR} {c m : Nat} (h : a.1 ≠ 0) : ER a c m := fun h0 => absurd h0 h
theorem EP_bad {a : PR} {m : Nat} (h : a.1 ≠ 0) : EP a m := fun h0 => absurd h0 h
theorem EP_mono {a : PR} {m m' : Nat} (h : EP a m) (hm : m ≤ m') : EP a m' := fun h0 K Q n x i w r e d τ x0 xm => h h0 K Q n x i w r e d τ x0 (by omega)
section
variable {τ : St}
theorem k_sums {x : Int} {Q : St → Prop} (x0 : 0 ≤ x) (x6 : x < 7) (k : ∀ υ, Sm lwA τ υ → (∀ t z, ¬ (t = 1330 ∧ z = x) → ¬ (t = 1333 ∧ z = x) → υ t 0 z = τ t 0 z) → υ 1330 0 x = pS τ x → υ 1333 0 x = 0 → Q υ) : P_X12_sums x τ Q := by
  have fin : ∀ v, v = pS τ x → Q (up (up τ 1330 0 x v) 1333 0 x 0) := fun v hv => by
    refine k _ (Sm_up (Sm_up Sm.rf rfl) rfl) (fun t z h1 h2 => ?_) ?_ up_at
    · have e1 : (up (up τ 1330 0 x v) 1333 0 x 0) t 0 z = (up τ 1330 0 x v) t 0 z := if_neg (fun q => h2 ⟨q.1, q.2.2⟩)
      have e2 : (up τ 1330 0 x v) t 0 z = τ t 0 z := if_neg (fun q => h1 ⟨q.1, q.2.2⟩)
      rw [e1, e2]
    · rw [up_nt rfl, up_at, hv]
  unfold P_X12_sums P_X12_sums_J45
  refine ⟨x0, by omega, ?_⟩
  unfold pS at fin
  by_cases h : τ 1331 0 x = 21
  · rw [if_pos h] at fin ⊢
    exact ⟨x0, by omega, x0, by omega, x0, by omega, x0, by omega, fin _ rfl⟩
  · rw [if_neg h] at fin ⊢
    exact ⟨x0, by omega, x0, by omega, x0, by omega, x0, by omega, fin _ rfl⟩
theorem k_tests {x : Int} {Q : St → Prop} (x0 : 0 ≤ x) (x6 : x < 7) (k : ∀ υ, Sm lwA τ υ → (∀ t z, ¬ ((t = 1326 ∨ t = 1329 ∨ t = 1330 ∨ t = 1331 ∨ t = 1333) ∧ z = x) → υ t 0 z = τ t 0 z) → υ 1326 0 x = pE τ x → υ 1329 0 x = 0 → υ 1330 0 x = 0 → υ 1331 0 x = 20 → υ 1333 0 x = 0 → Q υ) : P_X12_tests x τ Q := by
  unfold P_X12_tests
  refine k_sums x0 x6 (fun υ su ou e30 e33 => ?_)
  have o26 : υ 1326 0 x = τ 1326 0 x := ou _ _ (by omega) (by omega)
  have o27 : υ 1327 0 x = τ 1327 0 x := ou _ _ (by omega) (by omega)
  have o28 : υ 1328 0 x = τ 1328 0 x := ou _ _ (by omega) (by omega)
  have o29 : υ 1329 0 x = τ 1329 0 x := ou _ _ (by omega) (by omega)
  have fin : ∀ v, v = pE τ x → P_X12_tests_J136 x v Q υ := by
    intro v hv
    unfold P_X12_tests_J136
    refine ⟨x0, by omega, x0, by omega, x0, by omega, x0, by omega, k _ (Sm_up (Sm_up (Sm_up (Sm_up su rfl) rfl) rfl) rfl) (fun t z h => ?_) ?_ ?_ ?_ up_at ?_⟩
    · have e1 : (up (up (up (up υ 1326 0 x v) 1329 0 x 0) 1330 0 x 0) 1331 0 x 20) t 0 z = υ t 0 z := by
        refine (if_neg (fun q => h ⟨by omega, q.2.2⟩)).trans ((if_neg (fun q => h ⟨by omega, q.2.2⟩)).trans ((if_neg (fun q => h ⟨by omega, q.2.2⟩)).trans (if_neg (fun q => h ⟨by omega, q.2.2⟩))))
      rw [e1]
      exact ou t z (fun q => h ⟨by omega, q.2⟩) (fun q => h ⟨by omega, q.2⟩)
    · rw [up_nt rfl, up_nt rfl, up_nt rfl, up_at, hv]
    · rw [up_nt rfl, up_nt rfl, up_at]
    · rw [up_nt rfl, up_at]
    · rw [up_nt rfl, up_nt rfl, up_nt rfl, up_nt rfl, e33]
  have j106 : ¬ τ 1327 0 x = 26 → ∀ v, v = pT τ x → P_X12_tests_J106 x v Q υ := by
    intro h26 v hv
    unfold P_X12_tests_J106 P_X12_tests_J130 P_X12_tests_J135
    rw [o27, o26]
    unfold pE at fin
    rw [if_neg h26, ← hv] at fin
    refine ⟨x0, by omega, ?_⟩
    by_cases h27 : τ 1327 0 x = 27
    · rw [if_pos h27] at fin ⊢
      refine ⟨x0, by omega, ?_⟩
      by_cases h0 : τ 1326 0 x = 0
      · rw [if_pos h0] at fin ⊢
        by_cases hv0 : v = 0
        · rw [if_pos hv0] at fin ⊢
          exact fin _ rfl
        · rw [if_neg hv0] at fin ⊢
          exact fin _ rfl
      · rw [if_neg h0] at fin ⊢
        exact fin _ rfl
    · rw [if_neg h27] at fin ⊢
      exact fin _ rfl
  have j106b : τ 1327 0 x = 26 → ∀ v, v = pE τ x → P_X12_tests_J106 x v Q υ := by
    intro h26 v hv
    unfold P_X12_tests_J106
    rw [o27, if_neg (by omega)]
    exact ⟨x0, by omega, fin v hv⟩
  have j76 : ∀ v, v = pT τ x → P_X12_tests_J76 x v Q υ := by
    intro v hv
    unfold P_X12_tests_J76 P_X12_tests_J104 P_X12_tests_J105
    rw [o27, o26]
    refine ⟨x0, by omega, ?_⟩
    by_cases h26 : τ 1327 0 x = 26
    · rw [if_pos h26]
      refine ⟨x0, by omega, ?_⟩
      have j := j106b h26
      unfold pE at j
      rw [if_pos h26, ← hv] at j
      by_cases h0 : τ 1326 0 x = 0
      · rw [if_pos h0] at j ⊢
        exact j _ rfl
      · rw [if_neg h0] at j ⊢
        by_cases hv0 : v = 0
        · rw [if_pos hv0] at j ⊢
          exact j _ rfl
        · rw [if_neg hv0] at j ⊢
          exact j _ rfl
    · rw [if_neg h26]
      exact j106 h26 v hv
  have j44 : ¬ τ 1329 0 x = 24 → ∀ v, v = pS τ x → P_X12_tests_J44 x v Q υ := by
    intro h24 v hv
    unfold P_X12_tests_J44 P_X12_tests_J75
    rw [o29, o28, e30]
    unfold pT at j76
    rw [if_neg h24] at j76
    refine ⟨x0, by omega, ?_⟩
    by_cases h25 : τ 1329 0 x = 25
    · rw [if_pos h25] at j76 ⊢
      refine ⟨x0, by omega, x0, by omega, ?_⟩
      by_cases h0 : τ 1328 0 x = pS τ x
      · rw [if_pos h0] at j76 ⊢
        exact j76 _ rfl
      · rw [if_neg h0] at j76 ⊢
        exact j76 _ rfl
    · rw [if_neg h25] at j76 ⊢
      exact j76 _ hv
  rw [o29, o28, e30]
  refine ⟨x0, by omega, x0, by omega, ?_⟩
  by_cases h24 : τ 1329 0 x = 24
  · rw [if_pos h24]
    have j44b : ∀ v, v = pT τ x → P_X12_tests_J44 x v Q υ := by
      intro v hv
      unfold P_X12_tests_J44
      rw [o29, if_neg (by omega)]
      exact ⟨x0, by omega, j76 v hv⟩
    unfold pT at j44b
    rw [if_pos h24] at j44b
    unfold P_X12_tests_J43
    refine ⟨x0, by omega, x0, by omega, ?_⟩
    by_cases h0 : τ 1328 0 x < pS τ x
    · rw [if_pos h0] at j44b
      rw [if_neg (by omega)]
      exact j44b _ rfl
    · rw [if_neg h0] at j44b
      rw [if_pos (by omega)]
      exact j44b _ rfl
  · rw [if_neg h24]
    exact j44 h24 _ rfl
theorem k_opens {x : Int} {Q : St → Prop} (x0 : 0 ≤ x) (x6 : x < 7) (k : Q (up (up (up (up (up τ 1327 0 x 0) 1329 0 x 0) 1330 0 x 0) 1331 0 x 20) 1333 0 x 0)) : P_X12_opens x τ Q := by
  unfold P_X12_opens
  exact ⟨x0, by omega, x0, by omega, x0, by omega, x0, by omega, x0, by omega, k⟩
/-- a number given -/
theorem k_give {x v i y3 : Int} {R : Int → Int → St → Prop} {K : St → Prop} {Q : Int → St → Prop} (x0 : 0 ≤ x) (x6 : x < 7) (i0 : 0 ≤ i) (i1 : i < 5000) (k : ∀ υ, GvW x v τ υ → R (bs (τ 1334 0) x.toNat) (i + 1) υ) : P_X12_worked_J268 y3 x i v R K Q τ := by
  have main : ∀ (q : Nat) (u : Int) (n : Nat), (q : Int) < 7 → q < n → P_X12_worked_J300 y3 (bs (τ 1334 0) q) i (dlv (τ 1334 0) q u) R K Q τ → P_X12_worked_L268 y3 i (fun x2_6 x5_7 σ_8 => P_X12_worked_J300 y3 x2_6 i x5_7 R K Q σ_8) Q n q u τ := by
    intro q
    induction q with
    | zero =>
      intro u n _ hn h
      obtain ⟨n, rfl, -⟩ := fu_ex hn
      unfold P_X12_worked_L268
      rw [if_pos (by decide)]
      exact h
    | succ q ih =>
      intro u n hq hn h
      obtain ⟨n, rfl, -⟩ := fu_ex (m := 0) (n := n) (by omega)
      unfold P_X12_worked_L268
      unfold bs dlv at h
      rw [if_neg (by omega)]
      refine ⟨by omega, by omega, ?_⟩
      by_cases ho : τ 1334 0 ((q + 1 : Nat) : Int) = 1
      · rw [if_pos ho, if_pos ho] at h
        rw [if_pos ho, show ((q + 1 : Nat) : Int) + (-1) = q by omega, wi_id (z := (q : Int)) (by omega) (by omega)]
        by_cases hu : u = 0
        · rw [if_pos hu] at h ⊢
          exact ih 1 n (by omega) (by omega) h
        · rw [if_neg hu] at h ⊢
          exact ih 0 n (by omega) (by omega) h
      · rw [if_neg ho, if_neg ho] at h
        rw [if_neg ho]
        exact h
  have hb := bs_rng (τ 1334 0) x.toNat
  unfold P_X12_worked_J268
  have ex : ((x.toNat : Nat) : Int) = x := Int.toNat_of_nonneg x0
  have := main x.toNat v FU (by omega) (FU_pos (by omega)) ?_
  · rw [ex] at this
    exact this
  unfold P_X12_worked_J300 P_X12_worked_J328
  have fin : ∀ u, u = giv τ x v → 0 ≤ bs (τ 1334 0) x.toNat ∧ bs (τ 1334 0) x.toNat < 7 ∧ R (bs (τ 1334 0) x.toNat) (wi (i + 1)) (up τ 1332 0 (bs (τ 1334 0) x.toNat) u) := by
    intro u hu
    rw [wi_id (z := i + 1) (by omega) (by omega)]
    refine ⟨hb.1, by omega, k _ ⟨Sm_up Sm.rf rfl, fun t ht z hz hn => ?_, ?_⟩⟩
    · exact if_neg (fun q => hn ⟨q.1, q.2.2⟩)
    · rw [up_at, hu]
  unfold giv at fin
  refine ⟨hb.1, by omega, ?_⟩
  by_cases h0 : τ 1333 0 (bs (τ 1334 0) x.toNat) = 0
  · rw [if_pos h0] at fin ⊢
    exact fin _ rfl
  · rw [if_neg h0] at fin ⊢
    exact ⟨hb.1, by omega, fin _ rfl⟩
end
