/-! 97a: what the reference's codes are worth, rank by rank -/
section
variable {τ : St}
theorem k_in {cs : List Int} {c : Int} {i : Int} {n : Nat} (h : RnW τ (c :: cs) i n) : 0 ≤ i ∧ i < τ 1320 0 0 ∧ i < 1000 ∧ 0 < n ∧ τ 1321 0 i = c ∧ ∀ n', n = n' + 1 → RnW τ cs (i + 1) n' := by
  obtain ⟨h1, h2, h3, h4, h5⟩ := h
  obtain ⟨q1, q2⟩ := CM_cons h1
  simp only [List.length_cons] at h3
  exact ⟨h2, by omega, by omega, by omega, q1, fun n' e => ⟨q2, by omega, by omega, h4, by omega⟩⟩
theorem k_prod {K : St → Prop} {Q : Int → St → Prop} {n : Nat} {x i : Int} {cs : List Int} (x0 : 0 ≤ x) (x6 : x < 7) (h : RnW τ (22 :: cs) i n) (k : ∀ n', n = n' + 1 → kL K Q n' x (i + 1) (up τ 1333 0 x 22)) : kL K Q n x i τ := by
  obtain ⟨i0, i1, i2, hn, hc, -⟩ := k_in h
  obtain ⟨n, rfl, -⟩ := fu_ex (m := 0) (n := n) hn
  show P_X12_worked_L14 0 K Q (n + 1) x i τ
  unfold P_X12_worked_L14
  rw [if_neg (by omega), hc, if_neg (by decide), if_neg (by decide), if_neg (by decide), if_neg (by decide), if_pos rfl, wi_id (z := i + 1) (by omega) (by omega)]
  exact ⟨by decide, by decide, i0, by omega, x0, by omega, k n rfl⟩
theorem k_plus {K : St → Prop} {Q : Int → St → Prop} {n : Nat} {x i c : Int} {cs : List Int} (x0 : 0 ≤ x) (x6 : x < 7) (hcc : c = 20 ∨ c = 21) (h : RnW τ (c :: cs) i n)
    (k : ∀ n' υ, n = n' + 1 → Sm lwA τ υ → (∀ t z, ¬ ((t = 1330 ∨ t = 1331 ∨ t = 1333) ∧ z = x) → υ t 0 z = τ t 0 z) → υ 1330 0 x = pS τ x → υ 1331 0 x = c → υ 1333 0 x = 0 → kL K Q n' x (i + 1) υ) : kL K Q n x i τ := by
  obtain ⟨i0, i1, i2, hn, hc, -⟩ := k_in h
  obtain ⟨n, rfl, -⟩ := fu_ex (m := 0) (n := n) hn
  have j : P_X12_worked_J89 0 x i c (P_X12_worked_L14 0 K Q n) K Q τ := by
    unfold P_X12_worked_J89
    refine k_sums x0 x6 (fun υ su ou e30 e33 => ?_)
    rw [wi_id (z := i + 1) (by omega) (by omega)]
    refine ⟨x0, by omega, k n _ rfl (Sm_up su rfl) (fun t z hz => ?_) ?_ up_at ?_⟩
    · have e1 : (up υ 1331 0 x c) t 0 z = υ t 0 z := if_neg (fun q => hz ⟨by omega, q.2.2⟩)
      rw [e1]
      exact ou t z (fun q => hz ⟨by omega, q.2⟩) (fun q => hz ⟨by omega, q.2⟩)
    · rw [up_nt rfl, e30]
    · rw [up_nt rfl, e33]
  show P_X12_worked_L14 0 K Q (n + 1) x i τ
  unfold P_X12_worked_L14
  rw [if_neg (by omega), hc, if_neg (by omega), if_neg (by omega)]
  refine ⟨by decide, by decide, i0, by omega, ?_⟩
  rcases hcc with rfl | rfl
  · rw [if_pos rfl]; exact j
  · rw [if_neg (by decide), if_pos rfl]; exact j
theorem k_cmp {K : St → Prop} {Q : Int → St → Prop} {n : Nat} {x i c : Int} {cs : List Int} (x0 : 0 ≤ x) (x6 : x < 7) (hcc : c = 24 ∨ c = 25) (h : RnW τ (c :: cs) i n)
    (k : ∀ n' υ, n = n' + 1 → Sm lwA τ υ → (∀ t z, ¬ ((t = 1328 ∨ t = 1329 ∨ t = 1330 ∨ t = 1331 ∨ t = 1333) ∧ z = x) → υ t 0 z = τ t 0 z) → υ 1328 0 x = pS τ x → υ 1329 0 x = c → υ 1330 0 x = 0 → υ 1331 0 x = 20 → υ 1333 0 x = 0 → kL K Q n' x (i + 1) υ) : kL K Q n x i τ := by
  obtain ⟨i0, i1, i2, hn, hc, -⟩ := k_in h
  obtain ⟨n, rfl, -⟩ := fu_ex (m := 0) (n := n) hn
  have j : P_X12_worked_J137 0 x i c (P_X12_worked_L14 0 K Q n) K Q τ := by
    unfold P_X12_worked_J137
    refine k_sums x0 x6 (fun υ su ou e30 e33 => ?_)
    rw [wi_id (z := i + 1) (by omega) (by omega)]
    refine ⟨x0, by omega, x0, by omega, x0, by omega, x0, by omega, x0, by omega, k n _ rfl (Sm_up (Sm_up (Sm_up (Sm_up su rfl) rfl) rfl) rfl) (fun t z hz => ?_) ?_ ?_ ?_ up_at ?_⟩
    · have e1 : (up (up (up (up υ 1328 0 x (υ 1330 0 x)) 1329 0 x c) 1330 0 x 0) 1331 0 x 20) t 0 z = υ t 0 z := (if_neg (fun q => hz ⟨by omega, q.2.2⟩)).trans ((if_neg (fun q => hz ⟨by omega, q.2.2⟩)).trans ((if_neg (fun q => hz ⟨by omega, q.2.2⟩)).trans (if_neg (fun q => hz ⟨by omega, q.2.2⟩))))
      rw [e1]
      exact ou t z (fun q => hz ⟨by omega, q.2⟩) (fun q => hz ⟨by omega, q.2⟩)
    · rw [up_nt rfl, up_nt rfl, up_nt rfl, up_at, e30]
    · rw [up_nt rfl, up_nt rfl, up_at]
    · rw [up_nt rfl, up_at]
    · rw [up_nt rfl, up_nt rfl, up_nt rfl, up_nt rfl, e33]
  show P_X12_worked_L14 0 K Q (n + 1) x i τ
  unfold P_X12_worked_L14
  rw [if_neg (by omega), hc, if_neg (by omega), if_neg (by omega), if_neg (by omega), if_neg (by omega), if_neg (by omega)]
  refine ⟨by decide, by decide, i0, by omega, ?_⟩
  rcases hcc with rfl | rfl
  · rw [if_pos rfl]; exact j
  · rw [if_neg (by decide), if_pos rfl]; exact j
theorem k_bool {K : St → Prop} {Q : Int → St → Prop} {n : Nat} {x i c : Int} {cs : List Int} (x0 : 0 ≤ x) (x6 : x < 7) (hcc : c = 26 ∨ c = 27) (h : RnW τ (c :: cs) i n)
    (k : ∀ n' υ, n = n' + 1 → Sm lwA τ υ → (∀ t z, ¬ ((t = 1326 ∨ t = 1327 ∨ t = 1329 ∨ t = 1330 ∨ t = 1331 ∨ t = 1333) ∧ z = x) → υ t 0 z = τ t 0 z) → υ 1326 0 x = pE τ x → υ 1327 0 x = c → υ 1329 0 x = 0 → υ 1330 0 x = 0 → υ 1331 0 x = 20 → υ 1333 0 x = 0 → kL K Q n' x (i + 1) υ) : kL K Q n x i τ := by
  obtain ⟨i0, i1, i2, hn, hc, -⟩ := k_in h
  obtain ⟨n, rfl, -⟩ := fu_ex (m := 0) (n := n) hn
  have j : P_X12_worked_J194 0 x i c (P_X12_worked_L14 0 K Q n) K Q τ := by
    unfold P_X12_worked_J194
    refine k_tests x0 x6 (fun υ su ou e26 e29 e30 e31 e33 => ?_)
    rw [wi_id (z := i + 1) (by omega) (by omega)]
    refine ⟨x0, by omega, k n _ rfl (Sm_up su rfl) (fun t z hz => ?_) ?_ up_at ?_ ?_ ?_ ?_⟩
    · have e1 : (up υ 1327 0 x c) t 0 z = υ t 0 z := if_neg (fun q => hz ⟨by omega, q.2.2⟩)
      rw [e1]
      exact ou t z (fun q => hz ⟨by omega, q.2⟩)
    · rw [up_nt rfl, e26]
    · rw [up_nt rfl, e29]
    · rw [up_nt rfl, e30]
    · rw [up_nt rfl, e31]
    · rw [up_nt rfl, e33]
  show P_X12_worked_L14 0 K Q (n + 1) x i τ
  unfold P_X12_worked_L14
  rw [if_neg (by omega), hc, if_neg (by omega), if_neg (by omega), if_neg (by omega), if_neg (by omega), if_neg (by omega), if_neg (by omega), if_neg (by omega)]
  refine ⟨by decide, by decide, i0, by omega, ?_⟩
  rcases hcc with rfl | rfl
  · rw [if_pos rfl]; exact j
  · rw [if_neg (by decide), if_pos rfl]; exact j
theorem k_deep {K : St → Prop} {Q : Int → St → Prop} {n : Nat} {x i c : Int} {cs : List Int} (x0 : 0 ≤ x) (x6 : x + 1 < 7) (hcc : c = 28 ∨ c = 30) (h : RnW τ (c :: cs) i n)
    (k : ∀ n' υ, n = n' + 1 → Sm lwA τ υ → (∀ t z, z ≤ x → υ t 0 z = τ t 0 z) → υ 1334 0 (x + 1) = (if c = 30 then 1 else 0) → SC 4 (x + 1) υ → kL K Q n' (x + 1) (i + 1) υ) : kL K Q n x i τ := by
  obtain ⟨i0, i1, i2, hn, hc, -⟩ := k_in h
  obtain ⟨n, rfl, -⟩ := fu_ex (m := 0) (n := n) hn
  have j66 : ∀ o, o = (if c = 30 then (1 : Int) else 0) → P_X12_worked_J66 0 (x + 1) i o (x + 1) (P_X12_worked_L14 0 K Q n) K Q τ := by
    intro o ho
    unfold P_X12_worked_J66
    rw [wi_id (z := i + 1) (by omega) (by omega)]
    refine ⟨by omega, by omega, k_opens (by omega) (by omega) ?_⟩
    refine k n _ rfl (Sm_up (Sm_up (Sm_up (Sm_up (Sm_up (Sm_up Sm.rf rfl) rfl) rfl) rfl) rfl) rfl) (fun t z hz => ?_) ?_ ⟨up_at, fun _ => ⟨?_, ?_⟩, fun _ => ?_, fun _ => ?_⟩
    · exact (if_neg (fun q => by omega)).trans ((if_neg (fun q => by omega)).trans ((if_neg (fun q => by omega)).trans ((if_neg (fun q => by omega)).trans ((if_neg (fun q => by omega)).trans (if_neg (fun q => by omega))))))
    · rw [up_nt rfl, up_nt rfl, up_nt rfl, up_nt rfl, up_nt rfl, up_at, ho]
    · rw [up_nt rfl, up_nt rfl, up_at]
    · rw [up_nt rfl, up_at]
    · rw [up_nt rfl, up_nt rfl, up_nt rfl, up_at]
    · rw [up_nt rfl, up_nt rfl, up_nt rfl, up_nt rfl, up_at]
  have j : P_X12_worked_J46 0 x i c (P_X12_worked_L14 0 K Q n) K Q τ := by
    unfold P_X12_worked_J46
    rw [wi_id (z := x + 1) (by omega) (by omega)]
    by_cases h30 : c = 30
    · rw [if_pos h30]; exact j66 1 (by rw [if_pos h30])
    · rw [if_neg h30]; exact j66 0 (by rw [if_neg h30])
  show P_X12_worked_L14 0 K Q (n + 1) x i τ
  unfold P_X12_worked_L14
  rw [if_neg (by omega), hc]
  refine ⟨by decide, by decide, i0, by omega, ?_⟩
  rcases hcc with rfl | rfl
  · rw [if_pos rfl]; exact j
  · rw [if_neg (by decide), if_pos rfl]; exact j
theorem k_shut {K : St → Prop} {Q : Int → St → Prop} {n : Nat} {x i : Int} {cs : List Int} (x0 : 0 ≤ x) (x6 : x + 1 < 7) (h : RnW τ (29 :: cs) i n)
    (k : ∀ n' υ, n = n' + 1 → Sm lwA τ υ → (∀ t, t ∈ a9 → ∀ z : Int, z ≤ x → ¬ (t = 1332 ∧ z = bs (τ 1334 0) x.toNat) → υ t 0 z = τ t 0 z) → υ 1332 0 (bs (τ 1334 0) x.toNat) = giv τ x (pE τ (x + 1)) → kL K Q n' (bs (τ 1334 0) x.toNat) (i + 1) υ) : kL K Q n (x + 1) i τ := by
  obtain ⟨i0, i1, i2, hn, hc, -⟩ := k_in h
  obtain ⟨n, rfl, -⟩ := fu_ex (m := 0) (n := n) hn
  show P_X12_worked_L14 0 K Q (n + 1) (x + 1) i τ
  unfold P_X12_worked_L14
  rw [if_neg (by omega), hc, if_neg (by decide), if_neg (by decide), if_neg (by decide), if_neg (by decide), if_neg (by decide), if_neg (by decide), if_neg (by decide), if_neg (by decide), if_neg (by decide), if_pos (by decide), if_pos (by decide)]
  refine ⟨by decide, by decide, i0, by omega, ?_⟩
  unfold P_X12_worked_J243
  rw [if_pos rfl]
  refine k_tests (by omega) (by omega) (fun υ su ou e26 e29 e30 e31 e33 => ?_)
  rw [show x + 1 + (-1) = x by omega, wi_id (z := x) (by omega) (by omega), e26]
  refine ⟨by omega, by omega, k_give x0 (by omega) i0 (by omega) (fun ω g => ?_)⟩
  obtain ⟨g1, g2, g3⟩ := g
  have lo : ∀ t z, z ≤ x → υ t 0 z = τ t 0 z := fun t z hz => ou t z (fun q => by omega)
  have eb : bs (υ 1334 0) x.toNat = bs (τ 1334 0) x.toNat := bs_con _ (fun e he => lo _ _ (by omega))
  have hb := bs_rng (τ 1334 0) x.toNat
  have eg : giv υ x (pE τ (x + 1)) = giv τ x (pE τ (x + 1)) := by
    unfold giv
    rw [eb, lo _ _ (by omega), lo _ _ (by omega), dlv_con (op' := τ 1334 0) _ _ (fun e he => lo _ _ (by omega))]
  rw [eb] at g2 g3 ⊢
  refine k n ω rfl (su.tr g1) (fun t ht z hz hn => ?_) (by rw [g3, eg])
  rw [g2 t ht z hz hn, lo t z hz]
theorem k_num {K : St → Prop} {Q : Int → St → Prop} {n : Nat} {x i c v : Int} {cs : List Int} (x0 : 0 ≤ x) (x6 : x < 7) (h : RnW τ (c :: cs) i n) (hv : (100 ≤ c ∧ c ≤ 20000 ∧ v = c - 100) ∨ (1 ≤ c ∧ c ≤ 4 ∧ v = τ 1335 0 c))
    (k : ∀ n' υ, n = n' + 1 → GvW x v τ υ → kL K Q n' (bs (τ 1334 0) x.toNat) (i + 1) υ) : kL K Q n x i τ := by
  obtain ⟨i0, i1, i2, hn, hc, -⟩ := k_in h
  obtain ⟨n, rfl, -⟩ := fu_ex (m := 0) (n := n) hn
  have j : P_X12_worked_J243 0 x i c v (P_X12_worked_L14 0 K Q n) K Q τ := by
    unfold P_X12_worked_J243
    rw [if_neg (by omega)]
    exact k_give x0 x6 i0 (by omega) (fun υ g => k n υ rfl g)
  show P_X12_worked_L14 0 K Q (n + 1) x i τ
  unfold P_X12_worked_L14
  rw [if_neg (by omega), hc, if_neg (by omega), if_neg (by omega), if_neg (by omega), if_neg (by omega), if_neg (by omega), if_neg (by omega), if_neg (by omega), if_neg (by omega), if_neg (by omega)]
  refine ⟨by decide, by decide, i0, by omega, ?_⟩
  rcases hv with ⟨h1, h2, h3⟩ | ⟨h1, h2, h3⟩
  · rw [if_neg (by omega), wi_id (z := c - 100) (by omega) (by omega), ← h3]
    exact j
  · rw [if_pos (by omega), if_neg (by omega), ← h3]
    exact ⟨by omega, by omega, j⟩
end
theorem bs_fr {keep : List Nat} {x : Int} {τ υ : St} (x0 : 0 ≤ x) (h : FrW keep x τ υ) (hk : 1334 ∈ keep) : bs (υ 1334 0) x.toNat = bs (τ 1334 0) x.toNat := bs_con _ (fun e he => by
  by_cases q : e = x
  · rw [q]; exact h.2.2 1334 hk
  · exact h.2.1 1334 (by decide) e (by omega))
/-- the codes of two, joined -/
theorem RnW_J {τ : St} {a b : List Int} {c i : Int} {n : Nat} (h : RnW τ (a ++ (c :: b)) i n) : RnW τ a i n ∧ ∀ n' : Nat, 1001 - (i + a.length) ≤ n' → RnW τ (c :: b) (i + a.length) n' := by
  obtain ⟨h1, h2, h3, h4, h5⟩ := h
  obtain ⟨q1, q2⟩ := CM_app h1
  simp only [List.length_append, List.length_cons] at h3
  exact ⟨⟨q1, h2, by omega, h4, h5⟩, fun n' hn => ⟨q2, by omega, by simp only [List.length_cons]; omega, h4, hn⟩⟩
theorem RnW_tail {τ : St} {cs : List Int} {c : Int} {i : Int} {n n' : Nat} (h : RnW τ (c :: cs) i n) (e : n = n' + 1) : RnW τ cs (i + 1) n' := (k_in h).2.2.2.2.2 n' e
theorem prJ_0 {j : Int} {a b : PR} (h : b.1 = 0) : prJ j a b = (0, b.2.1, a.2.2.1 ++ (b.2.2.1 ++ [(j, 0)]), a.2.2.2.1 ++ (cdK j :: b.2.2.2.1), fun w r e d => jnW j (a.2.2.2.2 w r e d) (b.2.2.2.2 w r e d)) := by
  unfold prJ
  rw [if_pos h]
theorem prJ_1 {j : Int} {a b : PR} (h : b.1 ≠ 0) : prJ j a b = b := by
  unfold prJ
  rw [if_neg h]
theorem nd_of {op : Int → Int} {x : Int} (x0 : 0 ≤ x) (hb : bs op x.toNat = x) (v : Int) : dlv op x.toNat v = v := by
  cases hx : x.toNat with
  | zero => rfl
  | succ q =>
    rw [hx] at hb
    unfold bs at hb
    unfold dlv
    by_cases ho : op ((q + 1 : Nat) : Int) = 1
    · rw [if_pos ho] at hb
      have := bs_rng op q
      omega
    · rw [if_neg ho]
theorem len_J {a b : List Int} {c i : Int} : i + ((a ++ (c :: b)).length : Int) = i + a.length + 1 + b.length := by
  simp only [List.length_append, List.length_cons]
  omega
theorem ER_J1 {a b : PR} {m : Nat} (ha0 : a.1 = 0) (ha : ER a 1 m) (hb : EP b m) : ER (prJ 12 a b) 1 m := by
  by_cases hb0 : b.1 = 0
  · rw [prJ_0 hb0]
    intro _ K Q n x i w r e d τ x0 xm hw hr he hd hE hR hbs hS k
    dsimp only at hR k
    rw [len_J] at k
    obtain ⟨R1, R2⟩ := RnW_J hR
    refine ha ha0 K Q n x i w r e d τ x0 xm hw hr he hd hE R1 hbs hS (fun n1 τ1 f1 v1 hn1 => ?_)
    have R2 := RnW_sm f1.1 (R2 n1 hn1)
    refine k_prod x0 (by omega) R2 (fun n2 e2 => ?_)
    have s2 : Sm lwA τ1 (up τ1 1333 0 x 22) := Sm_up Sm.rf rfl
    have f2 : FrW (kpR 1) x τ (up τ1 1333 0 x 22) := FrW_up f1 rfl (by decide)
    have hbs2 : bs ((up τ1 1333 0 x 22) 1334 0) x.toNat = x := by rw [bs_fr x0 f2 (by decide), hbs]
    refine hb hb0 K Q n2 x _ w r e d _ x0 xm hw hr he hd (EnW_sm f2.1 hE) (RnW_sm s2 (RnW_tail R2 e2)) (fun n3 τ3 g hn3 => ?_)
    obtain ⟨g1, g2, g3⟩ := g
    rw [hbs2] at g2 g3 ⊢
    refine k n3 τ3 ⟨f2.1.tr g1, fun t ht z hz => ?_, fun t ht => ?_⟩ ?_ hn3
    · rw [g2 t ht z (by omega) (fun q => by omega)]
      exact f2.2.1 t ht z hz
    · have ht9 : t ∈ a9 ∧ t ≠ 1332 := by
        unfold kpR at ht
        rw [if_pos rfl] at ht
        unfold a9
        simp only [List.mem_cons, List.not_mem_nil, or_false] at ht ⊢
        omega
      rw [g2 t ht9.1 x (Int.le_refl x) (fun q => ht9.2 q.1)]
      exact f2.2.2 t ht
    · show τ3 1332 0 x = jnW 12 _ _
      have v1 : τ1 1332 0 x = _ := v1
      rw [g3]
      unfold giv
      rw [hbs2, up_at, if_neg (by decide), up_nt rfl, nd_of x0 hbs2, v1]
      rfl
  · rw [prJ_1 hb0]
    exact ER_bad hb0
theorem ER_J2 {a b : PR} {j : Int} {m : Nat} (ha0 : a.1 = 0) (ha : ER a 2 m) (hb : ER b 1 m) (hj : j = 10 ∨ j = 11) : ER (prJ j a b) 2 m := by
  by_cases hb0 : b.1 = 0
  · rw [prJ_0 hb0]
    intro _ K Q n x i w r e d τ x0 xm hw hr he hd hE hR hbs hS k
    dsimp only at hR k
    rw [len_J] at k
    obtain ⟨R1, R2⟩ := RnW_J hR
    refine ha ha0 K Q n x i w r e d τ x0 xm hw hr he hd hE R1 hbs hS (fun n1 τ1 f1 v1 hn1 => ?_)
    have R2 := RnW_sm f1.1 (R2 n1 hn1)
    have hc : cdK j = 20 ∨ cdK j = 21 := by
      rcases hj with rfl | rfl
      · exact Or.inl rfl
      · exact Or.inr rfl
    refine k_plus x0 (by omega) hc R2 (fun n2 υ e2 su ou e30 e31 e33 => ?_)
    have v1 : pS τ1 x = _ := v1
    have f2 : FrW (kpR 2) x τ υ := ⟨f1.1.tr su, fun t ht z hz => by rw [ou t z (fun q => by omega)]; exact f1.2.1 t ht z hz, fun t ht => by
      have ht' : ¬ (t = 1330 ∨ t = 1331 ∨ t = 1333) := by
        unfold kpR at ht
        rw [if_neg (by decide), if_pos rfl] at ht
        simp only [List.mem_cons, List.not_mem_nil, or_false] at ht
        omega
      rw [ou t x (fun q => ht' q.1)]
      exact f1.2.2 t ht⟩
    have hbs2 : bs (υ 1334 0) x.toNat = x := by rw [bs_fr x0 f2 (by decide), hbs]
    refine hb hb0 K Q n2 x _ w r e d υ x0 xm hw hr he hd (EnW_sm f2.1 hE) (RnW_sm su (RnW_tail R2 e2)) hbs2 ⟨e33, fun q => absurd q (by decide), fun q => absurd q (by decide), fun q => absurd q (by decide)⟩ (fun n3 τ3 f3 v3 hn3 => ?_)
    have v3 : τ3 1332 0 x = _ := v3
    refine k n3 τ3 (f2.tr (f3.mono (by decide))) ?_ hn3
    show pS τ3 x = jnW j _ _
    unfold pS
    rw [f3.2.2 1331 (by decide), f3.2.2 1330 (by decide), e31, e30, v1, v3]
    rcases hj with rfl | rfl
    · rfl
    · rfl
  · rw [prJ_1 hb0]
    exact ER_bad hb0
theorem ER_J3 {a b : PR} {j : Int} {m : Nat} (ha0 : a.1 = 0) (ha : ER a 2 m) (hb : ER b 2 m) (hj : j = 8 ∨ j = 9) : ER (prJ j a b) 3 m := by
  by_cases hb0 : b.1 = 0
  · rw [prJ_0 hb0]
    intro _ K Q n x i w r e d τ x0 xm hw hr he hd hE hR hbs hS k
    dsimp only at hR k
    rw [len_J] at k
    obtain ⟨R1, R2⟩ := RnW_J hR
    obtain ⟨s1, s2, s3, s4⟩ := hS
    refine ha ha0 K Q n x i w r e d τ x0 xm hw hr he hd hE R1 hbs ⟨s1, fun _ => s2 (by decide), fun q => absurd q (by decide), fun q => absurd q (by decide)⟩ (fun n1 τ1 f1 v1 hn1 => ?_)
    have R2 := RnW_sm f1.1 (R2 n1 hn1)
    have hc : cdK j = 24 ∨ cdK j = 25 := by
      rcases hj with rfl | rfl
      · exact Or.inl rfl
      · exact Or.inr rfl
    refine k_cmp x0 (by omega) hc R2 (fun n2 υ e2 su ou e28 e29 e30 e31 e33 => ?_)
    have v1 : pS τ1 x = _ := v1
    have f2 : FrW (kpR 3) x τ υ := ⟨f1.1.tr su, fun t ht z hz => by rw [ou t z (fun q => by omega)]; exact f1.2.1 t ht z hz, fun t ht => by
      have ht' : ¬ (t = 1328 ∨ t = 1329 ∨ t = 1330 ∨ t = 1331 ∨ t = 1333) ∧ t ∈ kpR 2 := by
        unfold kpR at ht ⊢
        rw [if_neg (by decide), if_neg (by decide), if_pos rfl] at ht
        rw [if_neg (by decide), if_pos rfl]
        simp only [List.mem_cons, List.not_mem_nil, or_false] at ht ⊢
        omega
      rw [ou t x (fun q => ht'.1 q.1)]
      exact f1.2.2 t ht'.2⟩
    have hbs2 : bs (υ 1334 0) x.toNat = x := by rw [bs_fr x0 f2 (by decide), hbs]
    refine hb hb0 K Q n2 x _ w r e d υ x0 xm hw hr he hd (EnW_sm f2.1 hE) (RnW_sm su (RnW_tail R2 e2)) hbs2 ⟨e33, fun _ => ⟨e30, e31⟩, fun q => absurd q (by decide), fun q => absurd q (by decide)⟩ (fun n3 τ3 f3 v3 hn3 => ?_)
    have v3 : pS τ3 x = _ := v3
    refine k n3 τ3 (f2.tr (f3.mono (by decide))) ?_ hn3
    show pT τ3 x = jnW j _ _
    unfold pT
    rw [f3.2.2 1329 (by decide), f3.2.2 1328 (by decide), e29, e28, v1, v3]
    rcases hj with rfl | rfl
    · rfl
    · rfl
  · rw [prJ_1 hb0]
    exact ER_bad hb0
theorem ER_J4 {a b : PR} {j : Int} {m : Nat} (ha0 : a.1 = 0) (ha : ER a 4 m) (hb : ER b 3 m) (hj : j = 6 ∨ j = 7) : ER (prJ j a b) 4 m := by
  by_cases hb0 : b.1 = 0
  · rw [prJ_0 hb0]
    intro _ K Q n x i w r e d τ x0 xm hw hr he hd hE hR hbs hS k
    dsimp only at hR k
    rw [len_J] at k
    obtain ⟨R1, R2⟩ := RnW_J hR
    refine ha ha0 K Q n x i w r e d τ x0 xm hw hr he hd hE R1 hbs hS (fun n1 τ1 f1 v1 hn1 => ?_)
    have R2 := RnW_sm f1.1 (R2 n1 hn1)
    have hc : cdK j = 26 ∨ cdK j = 27 := by
      rcases hj with rfl | rfl
      · exact Or.inl rfl
      · exact Or.inr rfl
    refine k_bool x0 (by omega) hc R2 (fun n2 υ e2 su ou e26 e27 e29 e30 e31 e33 => ?_)
    have v1 : pE τ1 x = _ := v1
    have f2 : FrW (kpR 4) x τ υ := ⟨f1.1.tr su, fun t ht z hz => by rw [ou t z (fun q => by omega)]; exact f1.2.1 t ht z hz, fun t ht => by
      have ht' : t = 1334 := by
        unfold kpR at ht
        rw [if_neg (by decide), if_neg (by decide), if_neg (by decide)] at ht
        simpa using ht
      rw [ou t x (fun q => by omega)]
      exact f1.2.2 t ht⟩
    have hbs2 : bs (υ 1334 0) x.toNat = x := by rw [bs_fr x0 f2 (by decide), hbs]
    refine hb hb0 K Q n2 x _ w r e d υ x0 xm hw hr he hd (EnW_sm f2.1 hE) (RnW_sm su (RnW_tail R2 e2)) hbs2 ⟨e33, fun _ => ⟨e30, e31⟩, fun _ => e29, fun q => absurd q (by decide)⟩ (fun n3 τ3 f3 v3 hn3 => ?_)
    have v3 : pT τ3 x = _ := v3
    refine k n3 τ3 (f2.tr (f3.mono (by decide))) ?_ hn3
    show pE τ3 x = jnW j _ _
    unfold pE
    rw [f3.2.2 1327 (by decide), f3.2.2 1326 (by decide), e27, e26, v1, v3]
    rcases hj with rfl | rfl
    · rfl
    · rfl
  · rw [prJ_1 hb0]
    exact ER_bad hb0
theorem jnK_3 {y : Tp} {k : Int} (h : jnK y 3 k ≠ -1) : jnK y 3 k = 12 := by
  unfold jnK at h ⊢
  rw [if_neg (by decide), if_neg (by decide), if_neg (by decide), if_pos rfl] at h ⊢
  split
  · rfl
  · rename_i q
    rw [if_neg q] at h
    exact absurd rfl h
theorem jnK_2 {y : Tp} {k : Int} (h : jnK y 2 k ≠ -1) : jnK y 2 k = 10 ∨ jnK y 2 k = 11 := by
  unfold jnK at h ⊢
  rw [if_neg (by decide), if_neg (by decide), if_pos rfl] at h ⊢
  split
  · exact Or.inl rfl
  · rename_i q
    rw [if_neg q] at h
    split
    · exact Or.inr rfl
    · rename_i q2
      rw [if_neg q2] at h
      exact absurd rfl h
theorem jnK_1 {y : Tp} {k : Int} (h : jnK y 1 k ≠ -1) : jnK y 1 k = 8 ∨ jnK y 1 k = 9 := by
  unfold jnK at h ⊢
  rw [if_neg (by decide), if_pos rfl] at h ⊢
  split
  · exact Or.inl rfl
  · rename_i q
    rw [if_neg q] at h
    split
    · exact Or.inr rfl
    · rename_i q2
      rw [if_neg q2] at h
      exact absurd rfl h
theorem jnK_0 {y : Tp} {k : Int} (h : jnK y 0 k ≠ -1) : jnK y 0 k = 6 ∨ jnK y 0 k = 7 := by
  unfold jnK at h ⊢
  rw [if_pos rfl] at h ⊢
  split
  · exact Or.inl rfl
  · rename_i q
    rw [if_neg q] at h
    split
    · exact Or.inr rfl
    · rename_i q2
      rw [if_neg q2] at h
      exact absurd rfl h
/-- a loop keeps what a join keeps -/
theorem lop_keep {y : Tp} {r : Int} {sub : Int → PR} {P : PR → Prop} (hr : r ≠ 1) (hJ : ∀ a : PR, a.1 = 0 → P a → jnK y r a.2.1 ≠ -1 → P (prJ (jnK y r a.2.1) a (sub (a.2.1 + 1)))) : ∀ (f : Nat) (a : PR), P a → P (lop y r sub f a)
  | 0, a, h => h
  | f + 1, a, h => by
    unfold lop
    by_cases ha : a.1 = 0
    · rw [if_pos ha]
      by_cases hj : jnK y r a.2.1 = -1
      · rw [if_pos hj]
        exact h
      · rw [if_neg hj, if_neg hr]
        exact lop_keep hr hJ f _ (hJ a ha h hj)
    · rw [if_neg ha]
      exact h
theorem ER_all {y : Tp} {pp : Int → PR} {m : Nat} (hp : ∀ k, EP (pp k) m) (hi : ∀ k, PrI (pp k)) (k : Int) : ER (rkk y pp 4 k) 4 m := by
  have i1 := PrI_rkk (y := y) hi 1
  have i2 := PrI_rkk (y := y) hi 2
  have i3 := PrI_rkk (y := y) hi 3
  have e1 := rkk_1 (y := y) (pp := pp)
  have e2 := rkk_2 (y := y) (pp := pp)
  have e3 := rkk_3 (y := y) (pp := pp)
  have e4 := rkk_4 (y := y) (pp := pp)
  have r0 : ∀ k, EP (rkk y pp 0 k) m := hp
  have r1 : ∀ k, ER (rkk y pp 1 k) 1 m := fun k => by
    rw [e1]
    exact lop_keep (P := fun a => ER a 1 m) (by decide) (fun a ha hE hj => by rw [jnK_3 hj]; exact ER_J1 ha hE (r0 _)) 1001 _ (ER_1 (r0 k))
  have r2 : ∀ k, ER (rkk y pp 2 k) 2 m := fun k => by
    rw [e2]
    exact lop_keep (P := fun a => ER a 2 m) (by decide) (fun a ha hE hj => ER_J2 ha hE (r1 _) (jnK_2 hj)) 1001 _ (ER_lift (by decide) (by decide) (r1 k) (i1 k))
  have r3 : ∀ k, ER (rkk y pp 3 k) 3 m := fun k => by
    rw [e3]
    show ER (lop y 1 (rkk y pp 2) 1001 (rkk y pp 2 k)) 3 m
    have l := ER_lift (by decide) (by decide) (r2 k) (i2 k)
    have j := fun ha : (rkk y pp 2 k).1 = 0 => fun hj : jnK y 1 (rkk y pp 2 k).2.1 ≠ -1 => ER_J3 ha (r2 k) (r2 ((rkk y pp 2 k).2.1 + 1)) (jnK_1 hj)
    generalize rkk y pp 2 k = a at l j
    rw [show (1001 : Nat) = 1000 + 1 from rfl]
    unfold lop
    by_cases ha : a.1 = 0
    · rw [if_pos ha]
      by_cases hj : jnK y 1 a.2.1 = -1
      · rw [if_pos hj]; exact l
      · rw [if_neg hj, if_pos rfl]; exact j ha hj
    · rw [if_neg ha]; exact l
  rw [e4]
  exact lop_keep (P := fun a => ER a 4 m) (by decide) (fun a ha hE hj => ER_J4 ha hE (r3 _) (jnK_0 hj)) 1001 _ (ER_lift (by decide) (by decide) (r3 k) (i3 k))
theorem EP_prt {y : Tp} (hW : WfT y) : ∀ (D : Nat) (k : Int), EP (prt y D k) D
  | 0, k => by
    unfold prt
    split
    · exact EP_bad (fl_ne hW (by decide) (by decide))
    · exact EP_bad (fl_ne hW (by decide) (by decide))
  | D + 1, k => by
    unfold prt
    by_cases hf : fcK y k = -1
    · rw [if_pos hf]
      by_cases hn : isW y k 10631 = true
      · rw [if_pos hn]
        have ih := EP_prt hW D (k + 1)
        unfold prN
        by_cases h0 : (prt y D (k + 1)).1 = 0
        · rw [if_pos h0]
          generalize prt y D (k + 1) = b at ih h0
          intro _ K Q n x i w r e d τ x0 xm hw hr he hd hE hR kk
          dsimp only at hR kk
          refine k_deep x0 (by omega) (Or.inr rfl) hR (fun n1 υ e1 su ou e34 hS => ?_)
          refine ih h0 K Q n1 (x + 1) (i + 1) w r e d υ (by omega) (by omega) hw hr he hd (EnW_sm su hE) (RnW_sm su (RnW_tail hR e1)) (fun n2 τ2 g hn2 => ?_)
          obtain ⟨g1, g2, g3⟩ := g
          rw [if_pos rfl] at e34
          have hbr := bs_rng (τ 1334 0) x.toNat
          have ex : ((x.toNat : Nat) : Int) = x := Int.toNat_of_nonneg x0
          have en : (x + 1).toNat = x.toNat + 1 := by omega
          have en2 : ((x.toNat + 1 : Nat) : Int) = x + 1 := by omega
          have eb : bs (υ 1334 0) (x + 1).toNat = bs (τ 1334 0) x.toNat := by
            rw [en]
            show (if υ 1334 0 ((x.toNat + 1 : Nat) : Int) = 1 then bs (υ 1334 0) x.toNat else _) = _
            rw [en2, e34, if_pos rfl]
            exact bs_con _ (fun e he => ou _ _ (by omega))
          have ed : ∀ v, dlv (υ 1334 0) (x + 1).toNat v = dlv (τ 1334 0) x.toNat (if v = 0 then 1 else 0) := fun v => by
            rw [en]
            show (if υ 1334 0 ((x.toNat + 1 : Nat) : Int) = 1 then dlv (υ 1334 0) x.toNat _ else _) = _
            rw [en2, e34, if_pos rfl]
            exact dlv_con _ _ (fun e he => ou _ _ (by omega))
          rw [eb] at g2 g3 ⊢
          have hlen : i + ((30 :: b.2.2.2.1 : List Int).length : Int) = i + 1 + b.2.2.2.1.length := by
            simp only [List.length_cons]
            omega
          rw [hlen] at kk
          refine kk n2 τ2 ⟨su.tr g1, fun t ht z hz hn => ?_, ?_⟩ hn2
          · rw [g2 t ht z (by omega) hn, ou t z hz]
          · rw [g3]
            unfold giv
            rw [eb, ed, ou _ _ (by omega), ou _ _ (by omega)]
        · rw [if_neg h0]
          exact EP_bad h0
      · rw [if_neg hn]
        by_cases ho : isS y k 40 = true
        · rw [if_pos ho]
          have ih := ER_all (y := y) (EP_prt hW D) (PrI_prt hW D) (k + 1)
          have hi := PrI_rkk (y := y) (PrI_prt hW D) 4 (k + 1)
          unfold prO
          by_cases h0 : (rkk y (prt y D) 4 (k + 1)).1 = 0
          · rw [if_pos h0]
            generalize rkk y (prt y D) 4 (k + 1) = b at ih h0 hi
            by_cases hc : isS y b.2.1 41 = true
            · rw [if_pos hc]
              intro _ K Q n x i w r e d τ x0 xm hw hr he hd hE hR kk
              dsimp only at hR kk
              refine k_deep x0 (by omega) (Or.inl rfl) hR (fun n1 υ e1 su ou e34 hS => ?_)
              rw [if_neg (by decide)] at e34
              obtain ⟨R1, R2⟩ := RnW_J (RnW_sm su (RnW_tail hR e1))
              have en : (x + 1).toNat = x.toNat + 1 := by omega
              have en2 : ((x.toNat + 1 : Nat) : Int) = x + 1 := by omega
              have eb : bs (υ 1334 0) (x + 1).toNat = x + 1 := by
                rw [en]
                show (if υ 1334 0 ((x.toNat + 1 : Nat) : Int) = 1 then _ else ((x.toNat + 1 : Nat) : Int)) = _
                rw [en2, e34, if_neg (by decide)]
              refine ih h0 K Q n1 (x + 1) (i + 1) w r e d υ (by omega) (by omega) hw hr he hd (EnW_sm su hE) R1 eb hS (fun n2 τ2 f v hn2 => ?_)
              have v : pE τ2 (x + 1) = _ := v
              have lo : ∀ t, t ∈ a9 → ∀ z : Int, z ≤ x → τ2 t 0 z = τ t 0 z := fun t ht z hz => by rw [f.2.1 t ht z (by omega), ou t z hz]
              have hbr := bs_rng (τ 1334 0) x.toNat
              have eb2 : bs (τ2 1334 0) x.toNat = bs (τ 1334 0) x.toNat := bs_con _ (fun e he => lo _ (by decide) _ (by omega))
              refine k_shut x0 (by omega) (RnW_sm f.1 (R2 n2 hn2)) (fun n3 ω e3 sw ow e32 => ?_)
              rw [eb2] at ow e32 ⊢
              have eg : giv τ2 x (pE τ2 (x + 1)) = giv τ x (b.2.2.2.2 w r e d) := by
                rw [v]
                unfold giv
                rw [eb2, lo _ (by decide) _ (by omega), lo _ (by decide) _ (by omega), dlv_con (op' := τ 1334 0) _ _ (fun e he => lo _ (by decide) _ (by omega))]
              have hlen : i + ((28 :: (b.2.2.2.1 ++ [29]) : List Int).length : Int) = i + 1 + b.2.2.2.1.length + 1 := by
                simp only [List.length_cons, List.length_append, List.length_nil]
                omega
              rw [hlen] at kk
              refine kk n3 ω ⟨su.tr (f.1.tr sw), fun t ht z hz hn => ?_, ?_⟩ (by omega)
              · rw [ow t ht z hz hn, lo t ht z hz]
              · rw [e32, eg]
            · rw [if_neg hc]
              exact EP_bad (fl_ne hW (by decide) (by decide))
          · rw [if_neg h0]
            exact EP_bad h0
        · rw [if_neg ho]
          exact EP_bad (fl_ne hW (by decide) (by decide))
    · rw [if_neg hf]
      intro _ K Q n x i w r e d τ x0 xm hw hr he hd hE hR kk
      dsimp only at hR kk
      have hfr := fcK_rng (y := y) (k := k)
      refine k_num (v := vf (fcK y k) (tN y k) w r e d) x0 (by omega) hR ?_ (fun n1 υ e1 g => ?_)
      · by_cases h0 : fcK y k = 0
        · have hnum := of_decide_eq_true (fcK_num h0)
          have hr := nu_ok hnum
          have hr : 0 ≤ tN y k ∧ tN y k ≤ 9999 := hr
          left
          rw [if_pos h0, h0]
          refine ⟨by omega, by omega, ?_⟩
          show tN y k = _
          omega
        · right
          rw [if_neg h0]
          obtain ⟨q1, q2, q3, q4⟩ := hE
          have h4 : fcK y k = 1 ∨ fcK y k = 2 ∨ fcK y k = 3 ∨ fcK y k = 4 := by omega
          refine ⟨by omega, by omega, ?_⟩
          rcases h4 with h | h | h | h
          · rw [h, q1]; rfl
          · rw [h, q2]; rfl
          · rw [h, q3]; rfl
          · rw [h, q4]; rfl
      · have hn1 : 1001 - (i + 1) ≤ (n1 : Int) := by
          have := hR.2.2.2.2
          omega
        have := kk n1 υ g
        simp only [List.length_cons, List.length_nil] at this
        exact this (by omega)
/-- the worth, of ints -/
def tV (a : PR) : V4 := fun w r e d => a.2.2.2.2 (wi w) (wi r) (wi e) (wi d)
theorem tV_id {a : PR} {w r e d : Int} (hw : i32 w) (hr : i32 r) (he : i32 e) (hd : i32 d) : tV a w r e d = a.2.2.2.2 w r e d := by
  unfold tV
  rw [wi_id hw.1 hw.2, wi_id hr.1 hr.2, wi_id he.1 he.2, wi_id hd.1 hd.2]
/-- the reference's law of these codes is worth so -/
theorem LwA_of {a : PR} {σ : St} (hE : ER a 4 5) (hi : PrI a) (h0 : a.1 = 0) (hc : CM σ a.2.2.2.1 0) (hf : σ 1319 0 0 = 0) (ht : σ 1320 0 0 = a.2.2.2.1.length) (hl : (a.2.2.2.1.length : Int) ≤ 1000) (h1 : 1 ≤ a.2.2.2.1.length) : LwA (tV a) σ := by
  refine ⟨fun q => by omega, fun w r e d => hi h0 _ _ _ _ (wi_i32 w) (wi_i32 r) (wi_i32 e) (wi_i32 d), fun w r e d τ Q _ hw hr he hd ef et em q1 q2 q3 q4 k => ?_⟩
  rw [tV_id hw hr he hd] at k
  unfold P_X12_worked
  refine k_opens (Int.le_refl 0) (by decide) ?_
  have s1 : Sm lwA τ (up (up (up (up (up τ 1327 0 0 0) 1329 0 0 0) 1330 0 0 0) 1331 0 0 20) 1333 0 0 0) := Sm_up (Sm_up (Sm_up (Sm_up (Sm_up Sm.rf rfl) rfl) rfl) rfl) rfl
  have hS : SC 4 0 (up (up (up (up (up τ 1327 0 0 0) 1329 0 0 0) 1330 0 0 0) 1331 0 0 20) 1333 0 0 0) := by
    refine ⟨up_at, fun _ => ⟨?_, ?_⟩, fun _ => ?_, fun _ => ?_⟩
    · rw [up_nt rfl, up_nt rfl, up_at]
    · rw [up_nt rfl, up_at]
    · rw [up_nt rfl, up_nt rfl, up_nt rfl, up_at]
    · rw [up_nt rfl, up_nt rfl, up_nt rfl, up_nt rfl, up_at]
  generalize (up (up (up (up (up τ 1327 0 0 0) 1329 0 0 0) 1330 0 0 0) 1331 0 0 20) 1333 0 0 0) = υ at s1 hS
  have hEn : EnW υ w r e d := EnW_sm s1 ⟨q1, q2, q3, q4⟩
  have e19 : υ 1319 0 0 = 0 := by rw [s1.row (t := 1319) (i := 0) rfl, ef, hf]
  have e20 : υ 1320 0 0 = a.2.2.2.1.length := by rw [s1.row (t := 1320) (i := 0) rfl, et, ht]
  have hCM : CM υ a.2.2.2.1 0 := fun j hj => by
    rw [s1.row (t := 1321) (i := 0) rfl, em _ (by omega) (by omega)]
    exact hc j hj
  rw [e19]
  refine ⟨by decide, by decide, ?_⟩
  refine hE h0 _ Q FU 0 0 w r e d υ (Int.le_refl 0) (by decide) hw hr he hd hEn ⟨hCM, Int.le_refl 0, by rw [e20]; omega, by rw [e20]; exact hl, by unfold FU; omega⟩ rfl hS (fun n' ω f v hn => ?_)
  have e20' : ω 1320 0 0 = a.2.2.2.1.length := by rw [f.1.row (t := 1320) (i := 0) rfl, e20]
  obtain ⟨n', rfl, -⟩ := fu_ex (m := 0) (n := n') (by omega)
  show P_X12_worked_L14 0 _ Q (n' + 1) 0 (0 + _) ω
  unfold P_X12_worked_L14
  rw [e20', if_pos (by omega)]
  refine ⟨by decide, by decide, k_tests (Int.le_refl 0) (by decide) (fun φ sφ _ e26 _ _ _ _ => ?_)⟩
  have v : pE ω 0 = _ := v
  rw [e26, v]
  exact k φ (s1.tr (f.1.tr sφ))
theorem LwA_none {σ : St} (hf : σ 1319 0 0 = 0) (ht : σ 1320 0 0 = 0) : LwA (fun _ _ _ _ => 0) σ := ⟨fun _ _ _ _ _ => rfl, fun _ _ _ _ => i32_zero, fun _ _ _ _ _ _ h => absurd (ht.trans hf.symm) h⟩
theorem LwC_tV {a : PR} {σ : St} {o : Nat} (h : LwC a.2.2.2.2 σ o) : LwC (tV a) σ o := by
  intro w r e d τ Q hw hr he hd ec em k
  rw [tV_id hw hr he hd] at k
  exact h w r e d τ Q hw hr he hd ec em k
