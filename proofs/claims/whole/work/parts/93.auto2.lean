/-! 93: the reference reads a law of wear -/
/-- a part: from depth d on -/
def SpP (y : Tp) (p : Int → PR) (d : Int) : Prop := ∀ (Q : Int → St → Prop) (n : Nat) (k : Int) (cs : List Int) (σ : St), RA y k σ → CdA σ cs → (cs.length : Int) ≤ k → Fu k n →
  ((p k).1 = 0 → ∀ (n' : Nat) (σ' : St), Sm reA σ σ' → lo1 σ σ' → (∀ e : Int, e ≤ d → σ' 1324 0 e = σ 1324 0 e ∧ σ' 1325 0 e = σ 1325 0 e) → RA y (p k).2.1 σ' → CdA σ' (cs ++ (p k).2.2.2.1) → Fu (p k).2.1 n' → rdL Q n' (bs (σ 1324 0) d.toNat) 0 σ') →
  ((p k).1 ≠ 0 → ∀ σ', Sm reA σ σ' → lo1 σ σ' → σ' 12 0 9 = (p k).1 → Q 0 σ') → rdL Q n d 1 σ
/-- c ranks above parts: at depth d, within no not -/
def SpK (y : Tp) (p : Int → PR) (c : Nat) (d : Int) : Prop := ∀ (Q : Int → St → Prop) (n : Nat) (k : Int) (cs : List Int) (σ : St), RA y k σ → CdA σ cs → (cs.length : Int) ≤ k → Fu k n → (3 ≤ c → σ 1325 0 d = 0) → bs (σ 1324 0) d.toNat = d →
  ((p k).1 = 0 → ∀ (n' : Nat) (σ' : St), Sm reA σ σ' → lo1 σ σ' → (∀ e : Int, e ≤ d → σ' 1324 0 e = σ 1324 0 e) → (∀ e : Int, e < d → σ' 1325 0 e = σ 1325 0 e) → (c ≤ 2 → σ' 1325 0 d = σ 1325 0 d) → (3 ≤ c → σ' 1325 0 d = 0 ∨ σ' 1325 0 d = 1) → exC y c (p k).2.1 (σ' 1325 0 d) → RA y (p k).2.1 σ' → CdA σ' (cs ++ (p k).2.2.2.1) → Fu (p k).2.1 n' → rdL Q n' d 0 σ') →
  ((p k).1 ≠ 0 → ∀ σ', Sm reA σ σ' → lo1 σ σ' → σ' 12 0 9 = (p k).1 → Q 0 σ') → rdL Q n d 1 σ
/-- each code has a token of its own -/
def PrCs (p : Int → PR) : Prop := ∀ k, (p k).1 = 0 → ((p k).2.2.2.1.length : Int) = (p k).2.1 - k
theorem lop_cs {y : Tp} {r : Int} {sub : Int → PR} (hs : PrCs sub) : ∀ (f : Nat) (a : PR) (k0 : Int), (a.1 = 0 → (a.2.2.2.1.length : Int) = a.2.1 - k0) → (lop y r sub f a).1 = 0 → ((lop y r sub f a).2.2.2.1.length : Int) = (lop y r sub f a).2.1 - k0
  | 0, a, k0, h, h0 => h h0
  | f + 1, a, k0, h, h0 => by
    have step : a.1 = 0 → (prJ (jnK y r a.2.1) a (sub (a.2.1 + 1))).1 = 0 → ((prJ (jnK y r a.2.1) a (sub (a.2.1 + 1))).2.2.2.1.length : Int) = (prJ (jnK y r a.2.1) a (sub (a.2.1 + 1))).2.1 - k0 := by
      intro ha hb
      have h1 := h ha
      unfold prJ at hb ⊢
      by_cases hb0 : (sub (a.2.1 + 1)).1 = 0
      · rw [if_pos hb0]
        have h2 := hs _ hb0
        simp only [List.length_append, List.length_cons, List.length_nil]
        omega
      · rw [if_neg hb0] at hb
        exact absurd hb hb0
    unfold lop at h0 ⊢
    by_cases ha : a.1 = 0
    · rw [if_pos ha] at h0 ⊢
      by_cases hj : jnK y r a.2.1 = -1
      · rw [if_pos hj] at h0 ⊢
        exact h h0
      · rw [if_neg hj] at h0 ⊢
        by_cases hr : r = 1
        · rw [if_pos hr] at h0 ⊢
          exact step ha h0
        · rw [if_neg hr] at h0 ⊢
          exact lop_cs hs f _ k0 (step ha) h0
    · rw [if_neg ha] at h0
      exact absurd h0 ha
theorem rkk_cs {y : Tp} {pp : Int → PR} (h : PrCs pp) : ∀ c : Nat, PrCs (rkk y pp c)
  | 0 => h
  | c + 1 => fun k h0 => lop_cs (rkk_cs h c) 1001 _ k (rkk_cs h c k) h0
theorem prt_cs {y : Tp} (hW : WfT y) : ∀ D : Nat, PrCs (prt y D)
  | 0 => fun k h0 => by
    unfold prt at h0
    split at h0
    · exact absurd h0 (fl_ne hW (by decide) (by decide))
    · exact absurd h0 (fl_ne hW (by decide) (by decide))
  | D + 1 => fun k h0 => by
    unfold prt at h0 ⊢
    by_cases hf : fcK y k = -1
    · rw [if_pos hf] at h0 ⊢
      by_cases hn : isW y k 10631 = true
      · rw [if_pos hn] at h0 ⊢
        unfold prN at h0 ⊢
        by_cases ha : (prt y D (k + 1)).1 = 0
        · rw [if_pos ha] at h0 ⊢
          have := prt_cs hW D (k + 1) ha
          simp only [List.length_cons]
          omega
        · rw [if_neg ha] at h0
          exact absurd h0 ha
      · rw [if_neg hn] at h0 ⊢
        by_cases ho : isS y k 40 = true
        · rw [if_pos ho] at h0 ⊢
          unfold prO at h0 ⊢
          by_cases ha : (rkk y (prt y D) 4 (k + 1)).1 = 0
          · rw [if_pos ha] at h0 ⊢
            have := rkk_cs (prt_cs hW D) 4 (k + 1) ha
            by_cases hc : isS y (rkk y (prt y D) 4 (k + 1)).2.1 41 = true
            · rw [if_pos hc] at h0 ⊢
              simp only [List.length_append, List.length_cons, List.length_nil]
              omega
            · rw [if_neg hc] at h0
              exact absurd h0 (fl_ne hW (by decide) (by decide))
          · rw [if_neg ha] at h0
            exact absurd h0 ha
        · rw [if_neg ho] at h0
          exact absurd h0 (fl_ne hW (by decide) (by decide))
    · rw [if_neg hf]
      simp only [List.length_cons, List.length_nil]
      omega
theorem SpP_K {y : Tp} {p : Int → PR} {d : Int} (h : SpP y p d) : SpK y p 0 d := by
  intro Q n k cs σ hR hC hl hf h3 hb kk kb
  refine h Q n k cs σ hR hC hl hf (fun h0 n' σ' s' l' he hR' hC' hf' => ?_) kb
  rw [hb]
  exact kk h0 n' σ' s' l' (fun e q => (he e q).1) (fun e q => (he e (by omega)).2) (fun _ => (he d (Int.le_refl d)).2) (fun q => absurd q (by decide)) ⟨fun q => absurd q (by decide), fun q => absurd q (by decide), fun q => absurd q (by decide), fun q => absurd q (by decide)⟩ hR' hC' hf'
section
/-- what is joined at one rank -/
theorem a_rankL {y : Tp} {c : Nat} {d : Int} {sub : Int → PR} (hW : WfT y) (hs : SpK y sub c d) (ho : PrOk sub) (hcs : PrCs sub) (hc : c ≤ 3) (d0 : 0 ≤ d) (d6 : d < 7) {Q : Int → St → Prop} {k0 : Int} {cs : List Int} {σ0 : St} (k00 : 0 ≤ k0) (hl0 : (cs.length : Int) ≤ k0) (hb : bs (σ0 1324 0) d.toNat = d) :
    ∀ (f : Nat) (a : PR) (n : Nat) (σ : St), a.1 = 0 → k0 < a.2.1 → (a.2.2.2.1.length : Int) = a.2.1 - k0 → Sm reA σ0 σ → lo1 σ0 σ → (∀ e : Int, e ≤ d → σ 1324 0 e = σ0 1324 0 e) → (∀ e : Int, e < d → σ 1325 0 e = σ0 1325 0 e) → (c ≤ 1 → σ 1325 0 d = σ0 1325 0 d) → (c = 2 → σ 1325 0 d = 0) → (c = 3 → σ 1325 0 d = 0 ∨ σ 1325 0 d = 1) → exC y c a.2.1 (σ 1325 0 d) → RA y a.2.1 σ → CdA σ (cs ++ a.2.2.2.1) → Fu a.2.1 n → 1000 - a.2.1 < f →
      ((lop y (3 - c) sub f a).1 = 0 → ∀ (n' : Nat) (σ' : St), Sm reA σ0 σ' → lo1 σ0 σ' → (∀ e : Int, e ≤ d → σ' 1324 0 e = σ0 1324 0 e) → (∀ e : Int, e < d → σ' 1325 0 e = σ0 1325 0 e) → (c + 1 ≤ 2 → σ' 1325 0 d = σ0 1325 0 d) → (3 ≤ c + 1 → σ' 1325 0 d = 0 ∨ σ' 1325 0 d = 1) → exC y (c + 1) (lop y (3 - c) sub f a).2.1 (σ' 1325 0 d) → RA y (lop y (3 - c) sub f a).2.1 σ' → CdA σ' (cs ++ (lop y (3 - c) sub f a).2.2.2.1) → Fu (lop y (3 - c) sub f a).2.1 n' → rdL Q n' d 0 σ') →
      ((lop y (3 - c) sub f a).1 ≠ 0 → ∀ σ', Sm reA σ0 σ' → lo1 σ0 σ' → σ' 12 0 9 = (lop y (3 - c) sub f a).1 → Q 0 σ') → rdL Q n d 0 σ := by
  intro f
  induction f with
  | zero =>
    intro a n σ ha hk hlen hsm hlo h24 h25 hv1 hv2 hv3 hex hR hC hF hf kk kb
    have e : lop y (3 - (c : Int)) sub 0 a = a := rfl
    rw [e] at kk
    have hz : ∀ r, jnK y r a.2.1 = -1 := fun r => Classical.byContradiction (fun q => by
      have := tK_1000 hW (by omega) (jnK_nz q)
      omega)
    refine kk ha n σ hsm hlo h24 h25 (fun q => hv1 (by omega)) (fun q => ?_) ⟨fun _ => hz 3, fun _ => hz 2, fun _ => Or.inl (hz 1), fun _ => hz 0⟩ hR hC hF
    by_cases h2 : c = 2
    · exact Or.inl (hv2 h2)
    · exact hv3 (by omega)
  | succ f ih =>
    intro a n σ ha hk hlen hsm hlo h24 h25 hv1 hv2 hv3 hex hR hC hF hf kk kb
    by_cases hj : jnK y (3 - c) a.2.1 = -1
    · have e : lop y (3 - (c : Int)) sub (f + 1) a = a := by
        unfold lop
        rw [if_pos ha, if_pos hj]
      rw [e] at kk
      obtain ⟨x3, x2, x1, x0⟩ := hex
      refine kk ha n σ hsm hlo h24 h25 (fun q => hv1 (by omega)) (fun q => ?_) ⟨fun _ => ?_, fun q => ?_, fun q => ?_, fun q => ?_⟩ hR hC hF
      · by_cases h2 : c = 2
        · exact Or.inl (hv2 h2)
        · exact hv3 (by omega)
      · by_cases h : c = 0
        · rw [h] at hj; exact hj
        · exact x3 (by omega)
      · by_cases h : c = 1
        · rw [h] at hj; exact hj
        · exact x2 (by omega)
      · by_cases h : c = 2
        · rw [h] at hj; exact Or.inl hj
        · exact x1 (by omega)
      · have h : c = 3 := by omega
        rw [h] at hj
        exact hj
    · have hk1000 := tK_1000 hW (by omega) (jnK_nz hj)
      obtain ⟨f1, f2⟩ := hF
      obtain ⟨n, rfl, -⟩ := fu_ex (m := 0) (n := n) (by omega)
      have hr : (3 - (c : Int)) = 0 ∨ (3 - (c : Int)) = 1 ∨ (3 - (c : Int)) = 2 ∨ (3 - (c : Int)) = 3 := by omega
      have e : lop y (3 - (c : Int)) sub (f + 1) a = if (3 - (c : Int)) = 1 then prJ (jnK y (3 - c) a.2.1) a (sub (a.2.1 + 1)) else lop y (3 - c) sub f (prJ (jnK y (3 - c) a.2.1) a (sub (a.2.1 + 1))) := by
        conv => lhs; unfold lop
        rw [if_pos ha, if_neg hj]
      rw [e] at kk kb
      have hlen2 : ((cs ++ a.2.2.2.1).length : Int) ≤ a.2.1 := by rw [List.length_append]; omega
      refine a_join (r := 3 - c) hW hR hC (by omega) d0 d6 (by omega) (by omega) hj (fun q => hv2 (by omega)) (fun σ1 s1 l1 g24 g25 gv h1 c1 => ?_)
      have hFu1 : Fu (a.2.1 + 1) n := ⟨by omega, by omega⟩
      have hb1 : bs (σ1 1324 0) d.toNat = d := by
        rw [bs_con (op' := σ0 1324 0) d.toNat (fun e he => by rw [g24, h24 e (by omega)])]
        exact hb
      refine hs Q n (a.2.1 + 1) (cs ++ a.2.2.2.1 ++ [cdK (jnK y (3 - c) a.2.1)]) σ1 h1 c1 (by rw [List.length_append]; simp only [List.length_cons, List.length_nil]; omega) hFu1 (fun q => ?_) hb1 (fun hb0 n2 σ2 s2 l2 i24 i25 iv2 iv3 iex h2 c2 f2' => ?_) (fun hb0 σ2 s2 l2 e9 => ?_)
      · rw [gv, if_neg (by omega), if_pos (by omega)]
      · have ebv := ho _ hb0
        have ecs := hcs _ hb0
        have ep : prJ (jnK y (3 - c) a.2.1) a (sub (a.2.1 + 1)) = (0, (sub (a.2.1 + 1)).2.1, a.2.2.1 ++ ((sub (a.2.1 + 1)).2.2.1 ++ [(jnK y (3 - c) a.2.1, 0)]), a.2.2.2.1 ++ (cdK (jnK y (3 - c) a.2.1) :: (sub (a.2.1 + 1)).2.2.2.1), fun w r e d => jnW (jnK y (3 - c) a.2.1) (a.2.2.2.2 w r e d) ((sub (a.2.1 + 1)).2.2.2.2 w r e d)) := by
          unfold prJ
          rw [if_pos hb0]
        rw [ep] at kk kb
        generalize sub (a.2.1 + 1) = b at kk kb hb0 iex h2 c2 f2' ebv ecs
        have c2' : CdA σ2 (cs ++ (a.2.2.2.1 ++ (cdK (jnK y (3 - c) a.2.1) :: b.2.2.2.1))) := by
          have : cs ++ a.2.2.2.1 ++ [cdK (jnK y (3 - c) a.2.1)] ++ b.2.2.2.1 = cs ++ (a.2.2.2.1 ++ (cdK (jnK y (3 - c) a.2.1) :: b.2.2.2.1)) := by simp [List.append_assoc]
          rw [this] at c2
          exact c2
        have t24 : ∀ e : Int, e ≤ d → σ2 1324 0 e = σ0 1324 0 e := fun e he => by rw [i24 e he, g24, h24 e he]
        have t25 : ∀ e : Int, e < d → σ2 1325 0 e = σ0 1325 0 e := fun e he => by rw [i25 e he, g25 e (by omega), h25 e he]
        have sT := hsm.tr (s1.tr s2)
        have lT := hlo.tr (l1.tr l2)
        by_cases hr1 : (3 - (c : Int)) = 1
        · rw [if_pos hr1] at kk kb
          have hc2 : c = 2 := by omega
          have hv : σ2 1325 0 d = 1 := by rw [iv2 (by omega), gv, if_pos hr1]
          refine kk rfl n2 σ2 sT lT t24 t25 (fun q => by omega) (fun _ => Or.inr hv) ⟨fun _ => iex.1 (by omega), fun _ => iex.2.1 (by omega), fun _ => Or.inr hv, fun q => by omega⟩ h2 c2' f2'
        · rw [if_neg hr1] at kk kb
          refine ih (0, b.2.1, a.2.2.1 ++ (b.2.2.1 ++ [(jnK y (3 - c) a.2.1, 0)]), a.2.2.2.1 ++ (cdK (jnK y (3 - c) a.2.1) :: b.2.2.2.1), fun w r e d => jnW (jnK y (3 - c) a.2.1) (a.2.2.2.2 w r e d) (b.2.2.2.2 w r e d)) n2 σ2 rfl ?_ ?_ sT lT t24 t25 (fun q => ?_) (fun q => by omega) (fun q => iv3 (by omega)) iex h2 c2' f2' ?_ kk kb
          · dsimp only
            omega
          · simp only [List.length_append, List.length_cons]
            omega
          · rw [iv2 (by omega), gv, if_neg (by omega), if_neg (by omega), hv1 q]
          · dsimp only
            omega
      · have ep : prJ (jnK y (3 - c) a.2.1) a (sub (a.2.1 + 1)) = sub (a.2.1 + 1) := by unfold prJ; rw [if_neg hb0]
        have el : ∀ f, lop y (3 - (c : Int)) sub f (sub (a.2.1 + 1)) = sub (a.2.1 + 1) := fun f => by
          match f with
          | 0 => rfl
          | f + 1 => unfold lop; rw [if_neg hb0]
        rw [ep, el, ite_self] at kb
        exact kb hb0 σ2 (hsm.tr (s1.tr s2)) (hlo.tr (l1.tr l2)) e9
theorem a_rank {y : Tp} {c : Nat} {d : Int} {sub : Int → PR} (hW : WfT y) (hs : SpK y sub c d) (ho : PrOk sub) (hcs : PrCs sub) (hc : c ≤ 3) (d0 : 0 ≤ d) (d6 : d < 7) : SpK y (fun k => lop y (3 - c) sub 1001 (sub k)) (c + 1) d := by
  intro Q n k cs σ hR hC hl hf h3 hb kk kb
  refine hs Q n k cs σ hR hC hl hf (fun q => h3 (by omega)) hb (fun h0 n' σ' s' l' i24 i25 iv2 iv3 iex h' c' f' => ?_) (fun h0 σ' s' l' e9 => ?_)
  · have hok := ho k h0
    have hk0 := hR.2.1
    refine a_rankL hW hs ho hcs hc d0 d6 (σ0 := σ) (k0 := k) hk0 hl hb 1001 (sub k) n' σ' h0 hok.1 (hcs k h0) s' l' i24 i25 (fun q => iv2 (by omega)) (fun q => ?_) (fun q => iv3 (by omega)) iex h' c' f' (by omega) kk kb
    rw [iv2 (by omega)]
    exact h3 (by omega)
  · have el : lop y (3 - (c : Int)) sub 1001 (sub k) = sub k := by unfold lop; rw [if_neg h0]
    dsimp only at kb
    rw [el] at kb
    exact kb h0 σ' s' l' e9
theorem a_ranks {y : Tp} {d : Int} {pp : Int → PR} (hW : WfT y) (h : SpP y pp d) (ho : PrOk pp) (hcs : PrCs pp) (d0 : 0 ≤ d) (d6 : d < 7) : ∀ c : Nat, c ≤ 4 → SpK y (rkk y pp c) c d
  | 0, _ => SpP_K h
  | c + 1, hc => by
    have := a_rank hW (a_ranks hW h ho hcs d0 d6 c (by omega)) (rkk_ok ho c) (rkk_cs hcs c) (by omega) d0 d6
    have e : rkk y pp (c + 1) = fun k => lop y (3 - c) (rkk y pp c) 1001 (rkk y pp c k) := by
      funext k
      exact rkk.eq_2 y pp k c
    rw [e]
    exact this
end
