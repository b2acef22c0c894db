/-! 97.e: the class reads a whole shop -/
section
variable {y : Tp} {d : Dr} {k : Int}
theorem WfD_adC {w x v : Int} (hV : WfD y d) (h6 : d.1 0 0 < 6) (hx : 1 ≤ x ∧ x ≤ 20) (hv : 0 ≤ v ∧ v ≤ 60) (hne : ∀ i : Int, 0 ≤ i → i < d.1 0 0 → d.1 2 i ≠ x) : WfD y (adC d w x v) := by
  obtain ⟨v1, v2, v3, v4, v5, v6, v7, v8, v9⟩ := hV
  obtain ⟨a0, a1, a2, a3, a4, a5, a6, a7, a8, a9⟩ := f_adC (d := d) (w := w) (x := x) (v := v)
  unfold WfD
  rw [a0, a2, a3, a5, a6, a7, a8, a9, upr_at, upr_ne (by decide), upr_ne (by decide), upr_ne (by decide), upr_ne (by decide)]
  refine ⟨by omega, v2, v3, v4, fun i i0 i1 => ?_, fun i j i0 i1 i2 => ?_, fun b b0 b1 => ?_, v8, v9⟩
  · by_cases e : i = d.1 0 0
    · rw [e, upr_at, upr_at]; exact ⟨hx, hv⟩
    · rw [upr_ne e, upr_ne e]; exact v5 i i0 (by omega)
  · rw [upr_ne (show i ≠ d.1 0 0 by omega)]
    by_cases e : j = d.1 0 0
    · rw [e, upr_at]; exact hne i i0 (by omega)
    · rw [upr_ne e]; exact v6 i j i0 i1 (by omega)
  · have := v7 b b0 b1
    exact ⟨this.1, this.2.1, this.2.2.1, by omega⟩
theorem WfD_adB {w x v u : Int} (hV : WfD y d) (h6 : d.1 0 1 < 6) (hx : 0 ≤ x ∧ x ≤ 3) (hv : 1 ≤ v ∧ v ≤ 60) (hu : 0 ≤ u ∧ u < d.1 0 0) : WfD y (adB d w x v u) := by
  obtain ⟨v1, v2, v3, v4, v5, v6, v7, v8, v9⟩ := hV
  obtain ⟨a0, a1, a2, a3, a4, a5, a6, a7, a8, a9⟩ := f_adB (d := d) (w := w) (x := x) (v := v) (u := u)
  unfold WfD
  rw [a0, a2, a3, a5, a6, a7, a8, a9, upr_at, upr_ne (by decide), upr_ne (by decide), upr_ne (by decide), upr_ne (by decide)]
  refine ⟨v1, by omega, v3, v4, v5, v6, fun b b0 b1 => ?_, v8, v9⟩
  by_cases e : b = d.1 0 1
  · rw [e, upr_at, upr_at, upr_at]; exact ⟨hx, hv, hu⟩
  · rw [upr_ne e, upr_ne e, upr_ne e]; exact v7 b b0 (by omega)
theorem WfD_adP {x : Int} (hV : WfD y d) (h6 : d.1 0 2 < 12) (hx : 0 ≤ x ∧ x ≤ 9) : WfD y (adP d x) := by
  obtain ⟨v1, v2, v3, v4, v5, v6, v7, v8, v9⟩ := hV
  obtain ⟨a0, a1, a2, a3, a4, a5, a6, a7, a8, a9⟩ := f_adP (d := d) (x := x)
  unfold WfD
  rw [a0, a2, a3, a5, a6, a7, a8, a9, upr_at, upr_ne (by decide), upr_ne (by decide), upr_ne (by decide), upr_ne (by decide)]
  refine ⟨v1, v2, by omega, v4, v5, v6, v7, fun i i0 i1 => ?_, v9⟩
  by_cases e : i = d.1 0 2
  · rw [e, upr_at]; exact hx
  · rw [upr_ne e]; exact v8 i i0 (by omega)
theorem f_adK {x : Int} : (adK d x).1 0 = upr (upr (d.1 0) 4 1) 3 x ∧ (∀ t : Nat, Nat.beq t 0 = false → (adK d x).1 t = d.1 t) ∧ (adK d x).2 = d.2 :=
  ⟨by unfold adK; dsimp only; rw [du_row, du_row], fun t ht => by unfold adK; dsimp only; rw [du_oth ht, du_oth ht], rfl⟩
theorem f_adW {a : PR} : (adW d a).1 0 = upr (d.1 0) 5 1 ∧ (∀ t : Nat, Nat.beq t 0 = false → (adW d a).1 t = d.1 t) ∧ (adW d a).2 = a :=
  ⟨by unfold adW; dsimp only; rw [du_row], fun t ht => by unfold adW; dsimp only; rw [du_oth ht], rfl⟩
theorem WfD_adK {x : Int} (hV : WfD y d) (hx : 1 ≤ x ∧ x ≤ 9) : WfD y (adK d x) := by
  obtain ⟨v1, v2, v3, v4, v5, v6, v7, v8, v9⟩ := hV
  obtain ⟨a0, ao, a9⟩ := f_adK (d := d) (x := x)
  unfold WfD
  rw [a0, ao 2 rfl, ao 3 rfl, ao 5 rfl, ao 6 rfl, ao 7 rfl, ao 8 rfl, a9]
  have u : ∀ j : Int, j ≠ 3 → j ≠ 4 → upr (upr (d.1 0) 4 1) 3 x j = d.1 0 j := fun j h1 h2 => by rw [upr_ne h1, upr_ne h2]
  rw [u 0 (by decide) (by decide), u 1 (by decide) (by decide), u 2 (by decide) (by decide), u 5 (by decide) (by decide), upr_at]
  exact ⟨v1, v2, v3, hx, v5, v6, v7, v8, v9⟩
theorem WfD_adW (hV : WfD y d) (k0 : 0 ≤ k) (h0 : (exW y k).1 = 0) (h1 : (exW y k).2.1 ≤ 1000) : WfD y (adW d (exW y k)) := by
  obtain ⟨v1, v2, v3, v4, v5, v6, v7, v8, v9⟩ := hV
  obtain ⟨a0, ao, a9⟩ := f_adW (d := d) (a := exW y k)
  unfold WfD
  rw [a0, ao 2 rfl, ao 3 rfl, ao 5 rfl, ao 6 rfl, ao 7 rfl, ao 8 rfl, a9]
  rw [upr_at, upr_ne (by decide), upr_ne (by decide), upr_ne (by decide), upr_ne (by decide)]
  exact ⟨v1, v2, v3, v4, v5, v6, v7, v8, Or.inr ⟨rfl, k, k0, rfl, h0, h1⟩⟩
theorem knW_rng : -1 ≤ knW y k ∧ knW y k ≤ 3 := by
  unfold knW
  repeat' split
  all_goals omega
theorem dpL_ok (hW : WfT y) : ∀ (f : Nat) (k : Int) (d : Dr), WfD y d → WfD y (dpL y f k d).2.2 ∧ k ≤ (dpL y f k d).2.1
  | 0, k, d, hV => ⟨hV, Int.le_refl k⟩
  | f + 1, k, d, hV => by
    unfold dpL
    split
    · split
      · rename_i h
        have h1 := st_0 (fl_ne hW (by decide) (by decide)) h
        have h2 := (numG_0 hW h1.1).2.2
        have h2 := of_decide_eq_true h2
        have := dpL_ok hW f (k + 1) (adP d (tN y k)) (WfD_adP hV (of_decide_eq_true h1.2) h2)
        exact ⟨this.1, by omega⟩
      · exact ⟨hV, Int.le_refl k⟩
    · exact ⟨hV, Int.le_refl k⟩
/-- a clause without a fault goes on, and its draft is sound -/
theorem cl_ok (hW : WfT y) (hV : WfD y d) (k0 : 0 ≤ k) (hG : clG y (cl y d k) = 0) : WfD y (cl y d k).2.2 ∧ k < (cl y d k).2.1 := by
  have F : ∀ {c j : Int}, 1 ≤ c → c ≤ 5 → fl y c j ≠ 0 := fun c0 c1 => fl_ne hW c0 c1
  obtain ⟨h, hS⟩ := st_0 (F (by decide) (by decide)) hG
  have hS1 : 0 ≤ (cl y d k).2.1 → (cl y d k).2.1 ≤ 1000 := fun q => by
    have := tK_1000 hW q (isS_nz hS)
    omega
  clear hG hS
  unfold cl at h hS1 ⊢
  by_cases h1 : isW y k 1388945628 = true
  · rw [if_pos h1] at h hS1 ⊢
    dsimp only at h ⊢
    unfold coG at h
    obtain ⟨z6, -, n7⟩ := numG_0 hW h
    have z5 := st_z (F (by decide) (by decide)) z6
    obtain ⟨z4, p5⟩ := st_0 (F (by decide) (by decide)) z5
    obtain ⟨z3, -, n4⟩ := numG_0 hW z4
    have z2 := st_z (F (by decide) (by decide)) z3
    have z1 := (newG_0 hW z2).1
    obtain ⟨-, p1⟩ := st_0 (F (by decide) (by decide)) z1
    exact ⟨WfD_adC hV (of_decide_eq_true p1) (of_decide_eq_true n4) (of_decide_eq_true n7) (plT_no hV.1.1 p5), by omega⟩
  · rw [if_neg h1] at h hS1 ⊢
    by_cases h2 : isW y k 40431 = true
    · rw [if_pos h2] at h ⊢
      dsimp only at h ⊢
      unfold baG at h
      obtain ⟨h8, p8⟩ := st_0 (F (by decide) (by decide)) h
      have z6 := st_z (F (by decide) (by decide)) h8
      have z5 := st_z (F (by decide) (by decide)) z6
      obtain ⟨z4, -, n5⟩ := numG_0 hW z5
      have z3 := st_z (F (by decide) (by decide)) z4
      obtain ⟨z2, p3⟩ := st_0 (F (by decide) (by decide)) z3
      have z1 := (newG_0 hW z2).1
      obtain ⟨-, p1⟩ := st_0 (F (by decide) (by decide)) z1
      have hk := knW_rng (y := y) (k := k + 1 + 1)
      have hx := ixN_rng (nm := d.1 1) (n := d.1 0 0) (w := tW y (k + 1 + 1 + 1 + 1 + 1 + 1))
      have p8 := of_decide_eq_true p8
      have p3 := of_decide_eq_true p3
      exact ⟨WfD_adB hV (of_decide_eq_true p1) ⟨p3, hk.2⟩ (of_decide_eq_true n5) ⟨p8, by omega⟩, by omega⟩
    · rw [if_neg h2] at h hS1 ⊢
      by_cases h3 : isW y k 82901 = true
      · rw [if_pos h3] at h ⊢
        dsimp only at h ⊢
        exact ⟨WfD_adK hV (of_decide_eq_true (numG_0 hW h).2.2), by omega⟩
      · rw [if_neg h3] at h hS1 ⊢
        by_cases h4 : isW y k 79828 = true
        · rw [if_pos h4] at h ⊢
          unfold dpW at h ⊢
          by_cases hz : dpG y d 0 k = 0
          · rw [if_pos hz] at h ⊢
            have h0 := numG_0 hW hz
            have h00 := of_decide_eq_true (st_0 (F (by decide) (by decide)) h0.1).2
            have := dpL_ok hW 13 (k + 1 + 1) (adP d (tN y (k + 1))) (WfD_adP hV (by omega) (of_decide_eq_true h0.2.2))
            exact ⟨this.1, by omega⟩
          · rw [if_neg hz] at h
            exact absurd h hz
        · rw [if_neg h4] at h hS1 ⊢
          by_cases h5 : isW y k 12322792 = true
          · rw [if_pos h5] at h hS1 ⊢
            dsimp only at h hS1 ⊢
            have h0 := gof_0 h
            have := rkk_ok (prt_ok hW 5) 4 (k + 1) h0.2
            have this : k + 1 < (exW y (k + 1)).2.1 ∧ _ := this
            exact ⟨WfD_adW hV (by omega) h0.2 (hS1 (by omega)), by omega⟩
          · rw [if_neg h5] at h
            exact absurd h (F (by decide) (by decide))
end
theorem c_shop_L {y : Tp} {N : Int} {Q : Int → St → Prop} (hW : WfT y) : ∀ (f : Nat) (x k : Int) (d : Dr) (σ : St) (n : Nat), CS y N 0 k d σ → WfD y d → 0 ≤ x → x ≤ k → x ≤ 1000 → 1001 - k ≤ f → 1001 - x < n →
    (∀ σ' k', Sm shA σ σ' → CS y N (shL y f k d).1 k' (shL y f k d).2 σ' → WfD y (shL y f k d).2 → Q (shL y f k d).1 σ') → P_X6_readShop_L23 1 Q n x σ := by
  intro f
  induction f with
  | zero =>
    intro x k d σ n h hV x0 xk x1 hf
    have := h.1.2.2.2 rfl
    have := h.1.2.2.1
    have := h.1.1.1
    omega
  | succ f ih =>
    intro x k d σ n h hV x0 xk x1 hf hn kk
    obtain ⟨n, rfl, -⟩ := fu_ex (m := 0) (n := n) (by omega)
    unfold shL at kk
    have stop : tK y k = 0 → Q (σ 10 0 6) σ := fun hz => by
      rw [if_pos hz] at kk
      rw [h.1.2.1]
      exact kk σ k Sm.rf h hV
    unfold P_X6_readShop_L23
    by_cases hx : 1000 ≤ x
    · rw [if_pos hx]
      refine stop (Classical.byContradiction (fun hne => ?_))
      have := tK_1000 hW (k := k) (by omega) hne
      omega
    · rw [if_neg hx]
      refine t_goesOn h.1 (fun _ hz => ?_) (fun hno => ?_)
      · rw [if_neg one_no]
        rw [if_neg hz] at kk
        have tail : ∀ σ1, Sm shA σ σ1 → CS y N (cl y d k).1 (cl y d k).2.1 (cl y d k).2.2 σ1 → P_X6_readShop_J148 1 x (P_X6_readShop_L23 1 Q n) Q σ1 := by
          intro σ1 s1 h1
          unfold P_X6_readShop_J148
          rw [wi_id (z := x + 1) (by omega) (by omega)]
          refine c_sign hW h1 (fun σ2 s2 h2 => ?_)
          have h2 : CS y N (clG y (cl y d k)) ((cl y d k).2.1 + 1) (cl y d k).2.2 σ2 := h2
          by_cases hg : clG y (cl y d k) = 0
          · rw [if_pos hg] at kk
            rw [hg] at h2
            have hok := cl_ok hW hV (by omega) hg
            exact ih (x + 1) ((cl y d k).2.1 + 1) (cl y d k).2.2 σ2 n h2 hok.1 (by omega) (by omega) (by omega) (by omega) (by omega) (fun σ' k' s' h' hV' => kk σ' k' ((s1.tr (pk_sh s2)).tr s') h' hV')
          · rw [if_neg hg] at kk
            have fin : Q (σ2 10 0 6) σ2 := by
              rw [h2.1.2.1]
              exact kk σ2 0 (s1.tr (pk_sh s2)) ⟨RS_k hg h2.1, h2.2.1, fun q => absurd q hg⟩ hV
            obtain ⟨n, rfl, -⟩ := fu_ex (m := 0) (n := n) (by omega)
            unfold P_X6_readShop_L23
            by_cases hx2 : 1000 ≤ x + 1
            · rw [if_pos hx2]; exact fin
            · rw [if_neg hx2]
              refine t_goesOn h2.1 (fun q => absurd q hg) (fun _ => ?_)
              rw [if_pos rfl]; exact fin
        refine t_isWord h.1 (by decide) (by decide) (by decide) (fun w1 => ?_) (fun w1 => ?_)
        · rw [if_neg one_no]
          have w1 : isW y k 1388945628 = true := w1 rfl
          have e : cl y d k = (coG y d 0 k, k + 1 + 1 + 1 + 1 + 1 + 1, adC d (tW y (k + 1)) (tN y (k + 1 + 1 + 1)) (tN y (k + 1 + 1 + 1 + 1 + 1))) := by unfold cl; rw [if_pos w1]
          rw [e] at tail
          exact c_counter hW hV h (fun _ => hz) (fun σ1 s1 h1 => tail σ1 s1 h1)
        · rw [if_pos rfl]
          have w1 : ¬ isW y k 1388945628 = true := fun q => by have w1 : isW y k 1388945628 = false := w1 rfl; rw [w1] at q; cases q
          refine t_isWord h.1 (by decide) (by decide) (by decide) (fun w2 => ?_) (fun w2 => ?_)
          · rw [if_neg one_no]
            have w2 : isW y k 40431 = true := w2 rfl
            have e : cl y d k = (baG y d 0 k, k + 1 + 1 + 1 + 1 + 1 + 1 + 1, adB d (tW y (k + 1)) (knW y (k + 1 + 1)) (tN y (k + 1 + 1 + 1 + 1)) (ixN (d.1 1) (d.1 0 0) (tW y (k + 1 + 1 + 1 + 1 + 1 + 1)))) := by unfold cl; rw [if_neg w1, if_pos w2]
            rw [e] at tail
            exact c_ball hW h (fun _ => hz) (fun σ1 s1 h1 => tail σ1 s1 h1)
          · rw [if_pos rfl]
            have w2 : ¬ isW y k 40431 = true := fun q => by have w2 : isW y k 40431 = false := w2 rfl; rw [w2] at q; cases q
            refine t_isWord h.1 (by decide) (by decide) (by decide) (fun w3 => ?_) (fun w3 => ?_)
            · rw [if_neg one_no]
              have w3 : isW y k 82901 = true := w3 rfl
              have e : cl y d k = (dkG y d 0 k, k + 1 + 1, adK d (tN y (k + 1))) := by unfold cl; rw [if_neg w1, if_neg w2, if_pos w3]
              rw [e] at tail
              exact c_desk hW h (fun _ => hz) (fun σ1 s1 h1 => tail σ1 s1 h1)
            · rw [if_pos rfl]
              have w3 : ¬ isW y k 82901 = true := fun q => by have w3 : isW y k 82901 = false := w3 rfl; rw [w3] at q; cases q
              refine t_isWord h.1 (by decide) (by decide) (by decide) (fun w4 => ?_) (fun w4 => ?_)
              · rw [if_neg one_no]
                have w4 : isW y k 79828 = true := w4 rfl
                have e : cl y d k = dpW y d k := by unfold cl; rw [if_neg w1, if_neg w2, if_neg w3, if_pos w4]
                rw [e] at tail
                exact c_damp hW hV h hz (fun σ1 s1 h1 => tail σ1 s1 h1)
              · rw [if_pos rfl]
                have w4 : ¬ isW y k 79828 = true := fun q => by have w4 : isW y k 79828 = false := w4 rfl; rw [w4] at q; cases q
                refine t_isWord h.1 (by decide) (by decide) (by decide) (fun w5 => ?_) (fun w5 => ?_)
                · rw [if_neg one_no]
                  have w5 : isW y k 12322792 = true := w5 rfl
                  have e : cl y d k = (weG y d k, (exW y (k + 1)).2.1, adW d (exW y (k + 1))) := by unfold cl; rw [if_neg w1, if_neg w2, if_neg w3, if_neg w4, if_pos w5]
                  rw [e] at tail
                  exact c_wears hW hV h hz (fun σ1 s1 h1 => tail σ1 s1 h1)
                · rw [if_pos rfl]
                  have w5 : ¬ isW y k 12322792 = true := fun q => by have w5 : isW y k 12322792 = false := w5 rfl; rw [w5] at q; cases q
                  have e : cl y d k = (fl y 1 k, k + 1, d) := by unfold cl; rw [if_neg w1, if_neg w2, if_neg w3, if_neg w4, if_neg w5]
                  rw [e] at tail
                  refine t_wrong hW h.1 (by decide) (by decide) (fun σ1 s1 h1 => ?_)
                  rw [if_pos rfl] at h1
                  exact tail σ1 (pk_sh s1) (CS_pk h s1 h1 (fun _ => rfl))
      · rw [if_pos rfl]
        exact stop (Classical.byContradiction (fun hne => hno ⟨rfl, hne⟩))
def dr0 : Dr := (fun t i => if t = 0 ∧ i = 3 then 2 else 0, pF 0 0)
def shB : List Reg := ctA11 ++ shA
theorem WfD_dr0 {y : Tp} : WfD y dr0 := by
  have e0 : dr0.1 0 0 = 0 := rfl
  have e1 : dr0.1 0 1 = 0 := rfl
  have e2 : dr0.1 0 2 = 0 := rfl
  have e3 : dr0.1 0 3 = 2 := rfl
  have e5 : dr0.1 0 5 = 0 := rfl
  unfold WfD
  rw [e0, e1, e2, e3, e5]
  exact ⟨by decide, by decide, by decide, by decide, fun i i0 i1 => by omega, fun i j i0 i1 i2 => by omega, fun i i0 i1 => by omega, fun i i0 i1 => by omega, Or.inl ⟨rfl, rfl⟩⟩
/-- the shop that a tape tells, or a fault -/
def shW (y : Tp) : Int × Dr := shL y 1001 0 dr0
theorem t_readShop {y : Tp} {σ : St} {Q : Int → St → Prop} (hT : TpC σ y) (hW : WfT y) (h3 : 0 ≤ σ 3 1 3 ∧ σ 3 1 3 ≤ 40)
    (kk : ∀ σ', Sm shB σ σ' → DS σ' → σ' 10 0 4 = 0 → ((shW y).1 = 0 → DrC σ' (shW y).2) → WfD y (shW y).2 → Q (shW y).1 σ') : P_X6_readShop 1 σ Q := by
  unfold P_X6_readShop P_X8_clear
  dsimp only
  have s1 : Sm [(8, 1, none), (2, 1, some 3), (6, 0, some 1), (6, 0, some 2)] σ (up (up (up (up (up (up (up σ 8 1 10 0) 8 1 11 0) 8 1 12 0) 8 1 13 2) 2 1 3 0) 6 0 1 0) 6 0 2 0) := Sm_up (Sm_up (Sm_up (Sm_up (Sm_up (Sm_up (Sm_up Sm.rf rfl) rfl) rfl) rfl) rfl) rfl) rfl
  have f1 : (up (up (up (up (up (up (up σ 8 1 10 0) 8 1 11 0) 8 1 12 0) 8 1 13 2) 2 1 3 0) 6 0 1 0) 6 0 2 0) 6 0 1 = 0 := by rw [up_nx (by decide), up_at]
  have f2 : (up (up (up (up (up (up (up σ 8 1 10 0) 8 1 11 0) 8 1 12 0) 8 1 13 2) 2 1 3 0) 6 0 1 0) 6 0 2 0) 6 0 2 = 0 := up_at
  have f3 : (up (up (up (up (up (up (up σ 8 1 10 0) 8 1 11 0) 8 1 12 0) 8 1 13 2) 2 1 3 0) 6 0 1 0) 6 0 2 0) 2 1 3 = 0 := by rw [up_nt rfl, up_nt rfl, up_at]
  have f8 : (up (up (up (up (up (up (up σ 8 1 10 0) 8 1 11 0) 8 1 12 0) 8 1 13 2) 2 1 3 0) 6 0 1 0) 6 0 2 0) 8 1 = upr (upr (upr (upr (σ 8 1) 10 0) 11 0) 12 0) 13 2 := by rw [up_oth (Or.inl rfl), up_oth (Or.inl rfl), up_oth (Or.inl rfl), up_row, up_row, up_row, up_row]
  generalize (up (up (up (up (up (up (up σ 8 1 10 0) 8 1 11 0) 8 1 12 0) 8 1 13 2) 2 1 3 0) 6 0 1 0) 6 0 2 0) = σ1 at s1 f1 f2 f3 f8
  have hT1 : TpC σ1 y := by
    unfold TpC at hT ⊢
    rw [s1 10 0 4 rfl, s1.row (t := 1100) (i := 0) rfl]
    exact hT
  refine t_X10_cut hT1 hW (fun N σ2 s2 hk q4 q5 q6 => ?_)
  have e8 : σ2 8 1 = upr (upr (upr (upr (σ 8 1) 10 0) 11 0) 12 0) 13 2 := by rw [s2.row (t := 8) (i := 1) rfl, f8]
  have a10 : σ2 8 1 10 = 0 := by rw [e8, upr_ne (by decide), upr_ne (by decide), upr_ne (by decide), upr_at]
  have a11 : σ2 8 1 11 = 0 := by rw [e8, upr_ne (by decide), upr_ne (by decide), upr_at]
  have a12 : σ2 8 1 12 = 0 := by rw [e8, upr_ne (by decide), upr_at]
  have a13 : σ2 8 1 13 = 2 := by rw [e8, upr_at]
  have a2 : σ2 2 1 3 = 0 := by rw [s2 2 1 3 rfl, f3]
  have a3 : σ2 3 1 3 = σ 3 1 3 := by rw [s2 3 1 3 rfl, s1 3 1 3 rfl]
  have hRS : RS y N 0 0 σ2 := ⟨hk, q6, by rw [q5]; exact ⟨Int.le_refl 0, hk.1.1⟩, fun _ => q5⟩
  have hDS : DS σ2 := by
    unfold DS
    rw [a10, a11, a12, a2, a3]
    exact ⟨by decide, by decide, by decide, by decide, h3, fun i i0 i1 => by omega⟩
  have hDr : DrC σ2 dr0 := by
    have e0 : dr0.1 0 0 = 0 := rfl
    have e1 : dr0.1 0 1 = 0 := rfl
    have e2 : dr0.1 0 2 = 0 := rfl
    have e3 : dr0.1 0 3 = 2 := rfl
    have e4 : dr0.1 0 4 = 0 := rfl
    have e5 : dr0.1 0 5 = 0 := rfl
    have e6 : dr0.2.2.2.1 = [] := rfl
    unfold DrC NmC RaC LawS
    rw [e0, e1, e2, e3, e4, e5, e6, a10, a11, a12, a13, a2, s2 6 0 1 rfl, s2 6 0 2 rfl, f1, f2]
    exact ⟨⟨rfl, rfl, rfl, rfl, rfl, rfl⟩, fun i i0 i1 => by omega, fun i i0 i1 => by omega, fun i j i0 i1 i2 => by omega, fun i i0 i1 => by omega, fun i i0 i1 => by omega, fun i i0 i1 => by omega, rfl, fun i hi => absurd hi (Nat.not_lt_zero i)⟩
  refine c_shop_L hW 1001 0 0 dr0 σ2 FU ⟨hRS, hDS, fun _ => hDr⟩ WfD_dr0 (Int.le_refl 0) (Int.le_refl 0) (by decide) (by decide) (by unfold FU; omega) (fun σ' k' s' h' hV' => ?_)
  exact kk σ' (((mem_sub (B := shB) rfl s1).tr (mem_sub (B := shB) rfl s2)).tr (mem_sub (B := shB) rfl s')) h'.2.1 (by rw [s' 10 0 4 rfl, q4]) h'.2.2 hV'
