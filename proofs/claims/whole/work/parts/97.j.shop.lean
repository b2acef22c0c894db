/-! 97.j: the class takes a shop -/
/-- the draft d stands in force in the class -/
def InD (σ : St) (d : Dr) : Prop :=
  (σ 8 0 10 = d.1 0 0 ∧ σ 8 0 11 = d.1 0 1 ∧ σ 8 0 12 = d.1 0 2 ∧ σ 8 0 13 = d.1 0 3) ∧
  NmC (σ 902 0) (d.1 1) (d.1 0 0) ∧ (∀ i : Int, 0 ≤ i → i < d.1 0 0 → σ 900 0 i = d.1 2 i ∧ σ 901 0 i = d.1 3 i ∧ 0 ≤ σ 903 0 i ∧ σ 903 0 i < d.1 0 0) ∧ RaC σ 0 ∧
  NmC (σ 907 0) (d.1 4) (d.1 0 1) ∧ (∀ b : Int, 0 ≤ b → b < d.1 0 1 → σ 904 0 b = d.1 5 b ∧ σ 905 0 b = d.1 6 b ∧ σ 906 0 b = d.1 7 b) ∧
  (∀ i : Int, 0 ≤ i → i < d.1 0 2 → σ 908 0 i = d.1 8 i)
def inT : List Nat := [8, 900, 901, 902, 903, 904, 905, 906, 907, 908]
theorem InD_keep {A : List Reg} {σ τ : St} {d : Dr} (h : Sm A σ τ) (hn : noT A inT 0 = true) (c : InD σ d) : InD τ d := by
  unfold InD at c ⊢
  unfold RaC at c ⊢
  rw [noT_row h hn (t := 8) (by decide), noT_row h hn (t := 900) (by decide), noT_row h hn (t := 901) (by decide), noT_row h hn (t := 902) (by decide), noT_row h hn (t := 903) (by decide), noT_row h hn (t := 904) (by decide), noT_row h hn (t := 905) (by decide), noT_row h hn (t := 906) (by decide), noT_row h hn (t := 907) (by decide), noT_row h hn (t := 908) (by decide)]
  exact c
theorem InD_cxt {y : Tp} {σ : St} {d : Dr} (h : InD σ d) (hV : WfD y d) : Cxt (d.1 0 0) (d.1 0 1) (d.1 0 3) σ := by
  obtain ⟨⟨q1, q2, q3, q4⟩, qn, qc, qr, qb, qB, qd⟩ := h
  obtain ⟨v1, v2, v3, v4, v5, v6, v7, v8, v9⟩ := hV
  refine ⟨?_, q1, q2, q4⟩
  unfold ShC
  rw [q1, q2, q3, q4]
  refine ⟨v1, v2, v3, v4, fun c c0 c1 => ?_, fun b b0 b1 => ?_, fun i i0 i1 => ?_⟩
  · rw [(qc c c0 c1).1, (qc c c0 c1).2.1]
    exact ⟨(v5 c c0 c1).1, (v5 c c0 c1).2, (qc c c0 c1).2.2⟩
  · rw [(qB b b0 b1).1, (qB b b0 b1).2.1, (qB b b0 b1).2.2]
    exact v7 b b0 b1
  · rw [qd i i0 i1]
    exact v8 i i0 i1
/-- what a law told is worth -/
theorem LwC_law {y : Tp} {σ : St} {d : Dr} {o : Nat} (hW : WfT y) (hV : WfD y d) (hs : StM σ o d.2.2.2.1 0) (hc : σ 2 o 3 = d.2.2.2.1.length) (hl : (d.2.2.2.1.length : Int) ≤ 1000) : LwC (tV d.2) σ o := by
  rcases hV.2.2.2.2.2.2.2.2 with ⟨-, e⟩ | ⟨-, k, k0, e, h0, -⟩
  · rw [e] at hc ⊢
    exact LwC_tV (LwC_none hc)
  · have h5 : 4 * 5 + 1 + 4 = 25 := rfl
    have hE : EV (exW y k) 25 := EV_rkk (by decide) (fun j => EV_prt hW 5 j) 4 k
    rw [e] at hs hc hl ⊢
    exact LwC_tV (LwC_of hE h0 hs hc hl)
def sh0A : List Reg := [(8, 0, none), (2, 0, some 3), (300, 0, none), (301, 0, none), (900, 0, none), (901, 0, none), (902, 0, none), (903, 0, none), (904, 0, none), (905, 0, none), (906, 0, none), (907, 0, none), (908, 0, none)]
theorem t_X8_take {y : Tp} {σ : St} {d : Dr} {Q : St → Prop} (hW : WfT y) (hV : WfD y d) (hD : DrC σ d) (hS : DS σ) (k : ∀ σ', Sm sh0A σ σ' → InD σ' d → LwC (tV d.2) σ' 0 → Q σ') : P_X8_take 0 1 σ Q := by
  obtain ⟨⟨q1, q2, q3, q4, q5, q6⟩, qn, qc, qr, qb, qB, qd, qL⟩ := hD
  have hl : 0 ≤ σ 2 1 3 ∧ σ 2 1 3 ≤ 1000 := hS.2.2.2.1
  obtain ⟨v1, v2, v3, v4, -⟩ := id hV
  unfold P_X8_take
  have io : ∀ (τ : St) (x v x' : Int), (up τ 8 0 x v) 8 1 x' = τ 8 1 x' := fun τ x v x' => up_io (by decide)
  simp only [io]
  rw [q1, q2, q3, q4]
  have s4 : Sm [(8, 0, none)] σ (up (up (up (up σ 8 0 10 (d.1 0 0)) 8 0 11 (d.1 0 1)) 8 0 12 (d.1 0 2)) 8 0 13 (d.1 0 3)) := Sm_up (Sm_up (Sm_up (Sm_up Sm.rf rfl) rfl) rfl) rfl
  have r8 : (up (up (up (up σ 8 0 10 (d.1 0 0)) 8 0 11 (d.1 0 1)) 8 0 12 (d.1 0 2)) 8 0 13 (d.1 0 3)) 8 0 = upr (upr (upr (upr (σ 8 0) 10 (d.1 0 0)) 11 (d.1 0 1)) 12 (d.1 0 2)) 13 (d.1 0 3) := by rw [up_row, up_row, up_row, up_row]
  generalize (up (up (up (up σ 8 0 10 (d.1 0 0)) 8 0 11 (d.1 0 1)) 8 0 12 (d.1 0 2)) 8 0 13 (d.1 0 3)) = σ1 at s4 r8
  have e2 : σ1 2 1 3 = σ 2 1 3 := s4 2 1 3 rfl
  unfold P_X2_take
  simp only [cp_nt (a := 2) (t' := 300) rfl, up_at, e2]
  refine ⟨hl.1, by omega, by omega, hl.1, by omega, by omega, ?_⟩
  generalize hF : (cp (cp (cp (cp (cp (cp (cp (cp (cp (cp (cp (up σ1 2 0 3 (σ 2 1 3)) 300 1 0 300 0 0 (σ 2 1 3)) 301 1 0 301 0 0 (σ 2 1 3)) 900 1 0 900 0 0 6) 901 1 0 901 0 0 6) 902 1 0 902 0 0 6) 903 1 0 903 0 0 6) 904 1 0 904 0 0 6) 905 1 0 905 0 0 6) 906 1 0 906 0 0 6) 907 1 0 907 0 0 6) 908 1 0 908 0 0 12) = τ
  have sF : Sm sh0A σ τ := by
    rw [← hF]
    have m : ∀ t : Nat, t ∈ [300, 301, 900, 901, 902, 903, 904, 905, 906, 907, 908] → (t, 0, none) ∈ sh0A := by decide
    exact Sm_cp (Sm_cp (Sm_cp (Sm_cp (Sm_cp (Sm_cp (Sm_cp (Sm_cp (Sm_cp (Sm_cp (Sm_cp (Sm_up (mem_sub (B := sh0A) rfl s4) rfl) (m 300 (by decide))) (m 301 (by decide))) (m 900 (by decide))) (m 901 (by decide))) (m 902 (by decide))) (m 903 (by decide))) (m 904 (by decide))) (m 905 (by decide))) (m 906 (by decide))) (m 907 (by decide))) (m 908 (by decide))
  have b : ∀ (t : Nat) (x : Int), Nat.beq t 8 = false → σ1 t 1 x = σ t 1 x := fun t x h => by
    rw [s4.row (t := t) (i := 1)]
    show (!(Nat.beq 8 t && Nat.beq 0 1) && true) = true
    rw [show Nat.beq 0 1 = false from rfl, Bool.and_false]
    rfl
  have t8 : τ 8 0 = upr (upr (upr (upr (σ 8 0) 10 (d.1 0 0)) 11 (d.1 0 1)) 12 (d.1 0 2)) 13 (d.1 0 3) := by
    funext x
    rw [← hF, cp_nt rfl, cp_nt rfl, cp_nt rfl, cp_nt rfl, cp_nt rfl, cp_nt rfl, cp_nt rfl, cp_nt rfl, cp_nt rfl, cp_nt rfl, cp_nt rfl, up_nt rfl, r8]
  have t908 : ∀ x : Int, 0 ≤ x → x < 12 → τ 908 0 x = σ 908 1 x := fun x h0 h1 => by
    rw [← hF, cp_at h0 h1, cp_nt rfl, cp_nt rfl, cp_nt rfl, cp_nt rfl, cp_nt rfl, cp_nt rfl, cp_nt rfl, cp_nt rfl, cp_nt rfl, cp_nt rfl, up_nt rfl, b _ _ rfl]
  have t907 : ∀ x : Int, 0 ≤ x → x < 6 → τ 907 0 x = σ 907 1 x := fun x h0 h1 => by
    rw [← hF, cp_nt rfl, cp_at h0 h1, cp_nt rfl, cp_nt rfl, cp_nt rfl, cp_nt rfl, cp_nt rfl, cp_nt rfl, cp_nt rfl, cp_nt rfl, cp_nt rfl, up_nt rfl, b _ _ rfl]
  have t906 : ∀ x : Int, 0 ≤ x → x < 6 → τ 906 0 x = σ 906 1 x := fun x h0 h1 => by
    rw [← hF, cp_nt rfl, cp_nt rfl, cp_at h0 h1, cp_nt rfl, cp_nt rfl, cp_nt rfl, cp_nt rfl, cp_nt rfl, cp_nt rfl, cp_nt rfl, cp_nt rfl, up_nt rfl, b _ _ rfl]
  have t905 : ∀ x : Int, 0 ≤ x → x < 6 → τ 905 0 x = σ 905 1 x := fun x h0 h1 => by
    rw [← hF, cp_nt rfl, cp_nt rfl, cp_nt rfl, cp_at h0 h1, cp_nt rfl, cp_nt rfl, cp_nt rfl, cp_nt rfl, cp_nt rfl, cp_nt rfl, cp_nt rfl, up_nt rfl, b _ _ rfl]
  have t904 : ∀ x : Int, 0 ≤ x → x < 6 → τ 904 0 x = σ 904 1 x := fun x h0 h1 => by
    rw [← hF, cp_nt rfl, cp_nt rfl, cp_nt rfl, cp_nt rfl, cp_at h0 h1, cp_nt rfl, cp_nt rfl, cp_nt rfl, cp_nt rfl, cp_nt rfl, cp_nt rfl, up_nt rfl, b _ _ rfl]
  have t903 : ∀ x : Int, 0 ≤ x → x < 6 → τ 903 0 x = σ 903 1 x := fun x h0 h1 => by
    rw [← hF, cp_nt rfl, cp_nt rfl, cp_nt rfl, cp_nt rfl, cp_nt rfl, cp_at h0 h1, cp_nt rfl, cp_nt rfl, cp_nt rfl, cp_nt rfl, cp_nt rfl, up_nt rfl, b _ _ rfl]
  have t902 : ∀ x : Int, 0 ≤ x → x < 6 → τ 902 0 x = σ 902 1 x := fun x h0 h1 => by
    rw [← hF, cp_nt rfl, cp_nt rfl, cp_nt rfl, cp_nt rfl, cp_nt rfl, cp_nt rfl, cp_at h0 h1, cp_nt rfl, cp_nt rfl, cp_nt rfl, cp_nt rfl, up_nt rfl, b _ _ rfl]
  have t901 : ∀ x : Int, 0 ≤ x → x < 6 → τ 901 0 x = σ 901 1 x := fun x h0 h1 => by
    rw [← hF, cp_nt rfl, cp_nt rfl, cp_nt rfl, cp_nt rfl, cp_nt rfl, cp_nt rfl, cp_nt rfl, cp_at h0 h1, cp_nt rfl, cp_nt rfl, cp_nt rfl, up_nt rfl, b _ _ rfl]
  have t900 : ∀ x : Int, 0 ≤ x → x < 6 → τ 900 0 x = σ 900 1 x := fun x h0 h1 => by
    rw [← hF, cp_nt rfl, cp_nt rfl, cp_nt rfl, cp_nt rfl, cp_nt rfl, cp_nt rfl, cp_nt rfl, cp_nt rfl, cp_at h0 h1, cp_nt rfl, cp_nt rfl, up_nt rfl, b _ _ rfl]
  have t301 : ∀ x : Int, 0 ≤ x → x < σ 2 1 3 → τ 301 0 x = σ 301 1 x := fun x h0 h1 => by
    rw [← hF, cp_nt rfl, cp_nt rfl, cp_nt rfl, cp_nt rfl, cp_nt rfl, cp_nt rfl, cp_nt rfl, cp_nt rfl, cp_nt rfl, cp_at h0 h1, cp_nt rfl, up_nt rfl, b _ _ rfl]
  have t300 : ∀ x : Int, 0 ≤ x → x < σ 2 1 3 → τ 300 0 x = σ 300 1 x := fun x h0 h1 => by
    rw [← hF, cp_nt rfl, cp_nt rfl, cp_nt rfl, cp_nt rfl, cp_nt rfl, cp_nt rfl, cp_nt rfl, cp_nt rfl, cp_nt rfl, cp_nt rfl, cp_at h0 h1, up_nt rfl, b _ _ rfl]
  have t2 : τ 2 0 3 = σ 2 1 3 := by
    rw [← hF, cp_nt rfl, cp_nt rfl, cp_nt rfl, cp_nt rfl, cp_nt rfl, cp_nt rfl, cp_nt rfl, cp_nt rfl, cp_nt rfl, cp_nt rfl, cp_nt rfl, up_at]
  refine k τ sF ⟨⟨?_, ?_, ?_, ?_⟩, fun i i0 i1 => ?_, fun i i0 i1 => ?_, ?_, fun i i0 i1 => ?_, fun i i0 i1 => ?_, fun i i0 i1 => ?_⟩ ?_
  · rw [t8, upr_ne (by decide), upr_ne (by decide), upr_ne (by decide), upr_at]
  · rw [t8, upr_ne (by decide), upr_ne (by decide), upr_at]
  · rw [t8, upr_ne (by decide), upr_at]
  · rw [t8, upr_at]
  · rw [t902 i i0 (by omega)]; exact qn i i0 i1
  · rw [t900 i i0 (by omega), t901 i i0 (by omega), t903 i i0 (by omega)]; exact qc i i0 i1
  · intro i j i0 i1 i2
    rw [t8, upr_ne (by decide), upr_ne (by decide), upr_ne (by decide), upr_at] at i2
    have a1 := (qc i i0 (by omega)).2.2
    have a2 := (qc j (by omega) i2).2.2
    rw [t903 i i0 (by omega), t903 j (by omega) (by omega), t900 _ a1.1 (by omega), t900 _ a2.1 (by omega)]
    exact qr i j i0 i1 (by rw [q1]; exact i2)
  · rw [t907 i i0 (by omega)]; exact qb i i0 i1
  · rw [t904 i i0 (by omega), t905 i i0 (by omega), t906 i i0 (by omega)]; exact qB i i0 i1
  · rw [t908 i i0 (by omega)]; exact qd i i0 i1
  · refine LwC_law hW hV (fun j hj => ?_) (by rw [t2]; exact qL.1) (by rw [← qL.1]; exact hl.2)
    have hj' : (j : Int) < σ 2 1 3 := by rw [qL.1]; omega
    rw [Int.zero_add, t300 _ (by omega) hj', t301 _ (by omega) hj']
    exact qL.2 j hj
def shS : List Reg := shB ++ (sh0A ++ (tkA 0 ++ [(3, 0, some 3), (7, 0, some 3), (5, 0, some 1), (4, 0, some 3), (4, 1, some 3), (4, 2, some 3), (4, 3, some 3)]))
theorem t_X11_shop {y : Tp} {σ : St} {Q : Int → St → Prop} (hT : TpC σ y) (hW : WfT y) (h3 : 0 ≤ σ 3 1 3 ∧ σ 3 1 3 ≤ 40)
    (kf : (shW y).1 ≠ 0 → ∀ σ', Sm shB σ σ' → DS σ' → σ' 10 0 4 = 0 → Q (shW y).1 σ')
    (ks : (shW y).1 = 0 → ∀ σ', Sm shS σ σ' → DS σ' → σ' 10 0 4 = 0 → WfD y (shW y).2 → InD σ' (shW y).2 → LwC (tV (shW y).2.2) σ' 0 → StC ((shW y).2.1 0 0) ((shW y).2.1 0 1) σ' 0 (opZ (σ' 901 0) (σ' 905 0) (σ' 906 0)) →
      σ' 3 0 3 = 0 → σ' 7 0 3 = 0 → σ' 5 0 1 = 0 → (∀ u : Nat, u < 4 → σ' 4 u 3 = 0) → Q 0 σ') : P_X11_shop σ Q := by
  unfold P_X11_shop
  refine t_readShop hT hW h3 (fun σ1 s1 d1 e1 hd hV => ?_)
  by_cases hz : (shW y).1 = 0
  · have hd := hd hz
    have ks := ks hz
    rw [hz, if_pos rfl]
    refine t_X8_take hW hV hd d1 (fun σ2 s2 i2 l2 => ?_)
    have hX := InD_cxt i2 hV
    refine t_X9_open hX (fun σ3 s3 c3 => ?_)
    have sN : Sm [(3, 0, some 3), (7, 0, some 3), (5, 0, some 1), (4, 0, some 3), (4, 1, some 3), (4, 2, some 3), (4, 3, some 3)] σ3 (up (up (up (up (up (up (up σ3 3 0 3 0) 7 0 3 0) 5 0 1 0) 4 0 3 0) 4 1 3 0) 4 2 3 0) 4 3 3 0) := Sm_up (Sm_up (Sm_up (Sm_up (Sm_up (Sm_up (Sm_up Sm.rf rfl) rfl) rfl) rfl) rfl) rfl) rfl
    suffices H : Q 0 (up (up (up (up (up (up (up σ3 3 0 3 0) 7 0 3 0) 5 0 1 0) 4 0 3 0) 4 1 3 0) 4 2 3 0) 4 3 3 0) by
      obtain ⟨m, hm, -⟩ := fu_ex (m := 6) (n := FU) (FU_pos (by decide))
      obtain ⟨m, rfl, -⟩ := fu_ex (m := 5) (n := m) (by unfold FU at hm; omega)
      obtain ⟨m, rfl, -⟩ := fu_ex (m := 4) (n := m) (by unfold FU at hm; omega)
      obtain ⟨m, rfl, -⟩ := fu_ex (m := 3) (n := m) (by unfold FU at hm; omega)
      obtain ⟨m, rfl, -⟩ := fu_ex (m := 2) (n := m) (by unfold FU at hm; omega)
      have v1 : wi (0 + 1) = 1 := by decide +kernel
      have v2 : wi (1 + 1) = 2 := by decide +kernel
      have v3 : wi (2 + 1) = 3 := by decide +kernel
      have v4 : wi (3 + 1) = 4 := by decide +kernel
      rw [hm]
      unfold P_X11_shop_L60
      rw [if_neg (by decide), v1]
      refine ⟨by decide, by decide, ?_⟩
      unfold P_X11_shop_L60
      rw [if_neg (by decide), v2]
      refine ⟨by decide, by decide, ?_⟩
      unfold P_X11_shop_L60
      rw [if_neg (by decide), v3]
      refine ⟨by decide, by decide, ?_⟩
      unfold P_X11_shop_L60
      rw [if_neg (by decide), v4]
      refine ⟨by decide, by decide, ?_⟩
      unfold P_X11_shop_L60
      rw [if_pos (by decide)]
      exact H
    have g3 : (up (up (up (up (up (up (up σ3 3 0 3 0) 7 0 3 0) 5 0 1 0) 4 0 3 0) 4 1 3 0) 4 2 3 0) 4 3 3 0) 3 0 3 = 0 := by rw [up_nt rfl, up_nt rfl, up_nt rfl, up_nt rfl, up_nt rfl, up_nt rfl, up_at]
    have g7 : (up (up (up (up (up (up (up σ3 3 0 3 0) 7 0 3 0) 5 0 1 0) 4 0 3 0) 4 1 3 0) 4 2 3 0) 4 3 3 0) 7 0 3 = 0 := by rw [up_nt rfl, up_nt rfl, up_nt rfl, up_nt rfl, up_nt rfl, up_at]
    have g5 : (up (up (up (up (up (up (up σ3 3 0 3 0) 7 0 3 0) 5 0 1 0) 4 0 3 0) 4 1 3 0) 4 2 3 0) 4 3 3 0) 5 0 1 = 0 := by rw [up_nt rfl, up_nt rfl, up_nt rfl, up_nt rfl, up_at]
    have g4 : ∀ u : Nat, u < 4 → (up (up (up (up (up (up (up σ3 3 0 3 0) 7 0 3 0) 5 0 1 0) 4 0 3 0) 4 1 3 0) 4 2 3 0) 4 3 3 0) 4 u 3 = 0 := by
      intro u hu
      match u, hu with
      | 0, _ => rw [up_io (by decide), up_io (by decide), up_io (by decide), up_at]
      | 1, _ => rw [up_io (by decide), up_io (by decide), up_at]
      | 2, _ => rw [up_io (by decide), up_at]
      | 3, _ => rw [up_at]
      | u + 4, hu => omega
    generalize (up (up (up (up (up (up (up σ3 3 0 3 0) 7 0 3 0) 5 0 1 0) 4 0 3 0) 4 1 3 0) 4 2 3 0) 4 3 3 0) = τ at sN g3 g7 g5 g4
    have s13 : Sm (sh0A ++ (tkA 0 ++ [(3, 0, some 3), (7, 0, some 3), (5, 0, some 1), (4, 0, some 3), (4, 1, some 3), (4, 2, some 3), (4, 3, some 3)])) σ1 τ := ((mem_sub rfl s2).tr (mem_sub rfl s3)).tr (mem_sub rfl sN)
    have eO : opZ (τ 901 0) (τ 905 0) (τ 906 0) = opZ (σ2 901 0) (σ2 905 0) (σ2 906 0) := by
      rw [sN.row (t := 901) (i := 0) rfl, sN.row (t := 905) (i := 0) rfl, sN.row (t := 906) (i := 0) rfl, s3.row (t := 901) (i := 0) rfl, s3.row (t := 905) (i := 0) rfl, s3.row (t := 906) (i := 0) rfl]
    refine ks τ ((mem_sub (B := shS) rfl s1).tr (mem_sub (B := shS) rfl s13)) (DS_keep s13 rfl rfl rfl d1) (by rw [s13 10 0 4 rfl, e1]) hV (InD_keep sN rfl (InD_keep s3 rfl i2)) (LwC_keep sN rfl (LwC_keep s3 rfl l2)) ?_ g3 g7 g5 g4
    rw [eO]
    exact StC_keep sN rfl c3
  · rw [if_neg hz]
    exact kf hz σ1 s1 d1 e1
