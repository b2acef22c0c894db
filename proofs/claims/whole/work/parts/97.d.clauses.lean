/-! 97.d: the class reads clauses of a shop -/
def coG (y : Tp) (d : Dr) (g k : Int) : Int := numG y (st (st (numG y (st (newG y (st g (decide (d.1 0 0 < 6)) (fl y 5 k)) (k + 1) (d.1 1) (d.1 0 0) (d.1 4) (d.1 0 1)) (isW y (k + 1 + 1) 47) (fl y 1 (k + 1 + 1))) (k + 1 + 1 + 1) 1 20) (!plT (d.1 2) (d.1 0 0) (tN y (k + 1 + 1 + 1))) (fl y 3 (k + 1 + 1 + 1))) (isW y (k + 1 + 1 + 1 + 1) 5146) (fl y 1 (k + 1 + 1 + 1 + 1))) (k + 1 + 1 + 1 + 1 + 1) 0 60
def baG (y : Tp) (d : Dr) (g k : Int) : Int := tolG y (st (numG y (st (kinG y (newG y (st g (decide (d.1 0 1 < 6)) (fl y 5 k)) (k + 1) (d.1 1) (d.1 0 0) (d.1 4) (d.1 0 1)) (k + 1 + 1)) (isW y (k + 1 + 1 + 1) 381245) (fl y 1 (k + 1 + 1 + 1))) (k + 1 + 1 + 1 + 1) 1 60) (isW y (k + 1 + 1 + 1 + 1 + 1) 168755) (fl y 1 (k + 1 + 1 + 1 + 1 + 1))) (k + 1 + 1 + 1 + 1 + 1 + 1) (d.1 1) (d.1 0 0)
def dkG (y : Tp) (d : Dr) (g k : Int) : Int := numG y (st g (decide (d.1 0 4 = 0)) (fl y 3 k)) (k + 1) 1 9
def adK (d : Dr) (x : Int) : Dr := (du (du d.1 0 4 1) 0 3 x, d.2)
def adW (d : Dr) (a : PR) : Dr := (du d.1 0 5 1, a)
def dpG (y : Tp) (d : Dr) (g k : Int) : Int := numG y (st g (decide (d.1 0 2 ≤ 0)) (fl y 3 k)) (k + 1) 0 9
def dpH (y : Tp) (d : Dr) (k : Int) : Int := st (numG y 0 k 0 9) (decide (d.1 0 2 < 12)) (fl y 5 k)
def dpL (y : Tp) : Nat → Int → Dr → Int × Int × Dr
  | 0, k, d => (0, k, d)
  | f + 1, k, d => if isN y k = true then (if dpH y d k = 0 then dpL y f (k + 1) (adP d (tN y k)) else (dpH y d k, k, d)) else (0, k, d)
def dpW (y : Tp) (d : Dr) (k : Int) : Int × Int × Dr := if dpG y d 0 k = 0 then dpL y 13 (k + 1 + 1) (adP d (tN y (k + 1))) else (dpG y d 0 k, k + 1 + 1, d)
def weG (y : Tp) (d : Dr) (k : Int) : Int := gof (st 0 (decide (d.1 0 5 = 0)) (fl y 3 k)) (exW y (k + 1))
/-- a clause: fault, where its semicolon stands, the draft after it -/
def cl (y : Tp) (d : Dr) (k : Int) : Int × Int × Dr :=
  if isW y k 1388945628 = true then (coG y d 0 k, k + 1 + 1 + 1 + 1 + 1 + 1, adC d (tW y (k + 1)) (tN y (k + 1 + 1 + 1)) (tN y (k + 1 + 1 + 1 + 1 + 1)))
  else if isW y k 40431 = true then (baG y d 0 k, k + 1 + 1 + 1 + 1 + 1 + 1 + 1, adB d (tW y (k + 1)) (knW y (k + 1 + 1)) (tN y (k + 1 + 1 + 1 + 1)) (ixN (d.1 1) (d.1 0 0) (tW y (k + 1 + 1 + 1 + 1 + 1 + 1))))
  else if isW y k 82901 = true then (dkG y d 0 k, k + 1 + 1, adK d (tN y (k + 1)))
  else if isW y k 79828 = true then dpW y d k
  else if isW y k 12322792 = true then (weG y d k, (exW y (k + 1)).2.1, adW d (exW y (k + 1)))
  else (fl y 1 k, k + 1, d)
def clG (y : Tp) (c : Int × Int × Dr) : Int := st c.1 (isS y c.2.1 59) (fl y 1 c.2.1)
def shL (y : Tp) : Nat → Int → Dr → Int × Dr
  | 0, _, d => (0, d)
  | f + 1, k, d => if tK y k = 0 then (0, d) else if clG y (cl y d k) = 0 then shL y f ((cl y d k).2.1 + 1) (cl y d k).2.2 else (clG y (cl y d k), d)
theorem pk_sh {σ τ : St} (s : Sm pkA σ τ) : Sm shA σ τ := mem_sub rfl s
theorem plT_con {f f' : Int → Int} {n x : Int} (h : ∀ i : Int, 0 ≤ i → i < n → f i = f' i) : plT f n x = plT f' n x := by
  unfold plT
  rw [fnd_congr _ _ (fun j j0 j1 => by rw [h j j0 (by omega)])]
theorem plT_no {f : Int → Int} {n x : Int} (n0 : 0 ≤ n) (h : (!plT f n x) = true) : ∀ i : Int, 0 ≤ i → i < n → f i ≠ x := by
  intro i i0 i1
  unfold plT at h
  cases e : fnd (fun i => decide (f i = x)) n.toNat 0 with
  | none => exact of_decide_eq_false (fnd_none e i i0 (by omega))
  | some j => rw [e] at h; cases h
section
variable {σ : St} {y : Tp} {N g k : Int} {d : Dr}
theorem c_counter {Q : St → Prop} (hW : WfT y) (hV : WfD y d) (h : CS y N g k d σ) (hk : g = 0 → tK y k ≠ 0)
    (kk : ∀ σ', Sm shA σ σ' → CS y N (coG y d g k) (k + 1 + 1 + 1 + 1 + 1 + 1) (adC d (tW y (k + 1)) (tN y (k + 1 + 1 + 1)) (tN y (k + 1 + 1 + 1 + 1 + 1))) σ' → Q σ') : P_X6_readCounter 1 σ Q := by
  have F : ∀ {c j : Int}, 1 ≤ c → c ≤ 5 → fl y c j ≠ 0 := fun c0 c1 => fl_ne hW c0 c1
  unfold coG at kk
  unfold P_X6_readCounter
  refine c_if (J := P_X6_readCounter_J17 1 Q) hW h (by decide) (by decide) (fun g0 => by rw [(h.2.2 g0).1.1]; exact decide_eq_true_iff.symm) (fun σ1 s1 h1 => ?_)
  generalize e1 : st g (decide (d.1 0 0 < 6)) (fl y 5 k) = g1 at kk h1
  unfold P_X6_readCounter_J17
  refine c_next h1 (fun q => hk (st_z (F (by decide) (by decide)) (e1.trans q))) (fun σ2 s2 h2 => ?_)
  refine c_new hW h2 (fun r σ3 s3 h3 hr => ?_)
  generalize e2 : newG y g1 (k + 1) (d.1 1) (d.1 0 0) (d.1 4) (d.1 0 1) = g2 at kk h3 hr
  refine c_word hW h3 (by decide) (by decide) (by decide) (fun σ4 s4 h4 => ?_)
  have h4 : CS y N (st g2 (isW y (k + 1 + 1) 47) (fl y 1 (k + 1 + 1))) (k + 1 + 1 + 1) d σ4 := h4
  generalize e3 : st g2 (isW y (k + 1 + 1) 47) (fl y 1 (k + 1 + 1)) = g3 at kk h4
  refine c_numHere hW h4 (fun x σ5 s5 h5 hx => ?_)
  generalize e4 : numG y g3 (k + 1 + 1 + 1) 1 20 = g4 at kk h5 hx
  have z4 : g4 = 0 → g3 = 0 ∧ isN y (k + 1 + 1 + 1) = true := fun q => by have := numG_0 hW (e4.trans q); exact ⟨this.1, this.2.1⟩
  have body : ∀ b : Int, (b = 0 ↔ plT (σ5 900 1) (σ5 8 1 10) x = false) → (if b = 0 then P_X6_readCounter_J68 1 r x Q σ5 else P_X10_wrong 3 σ5 (fun σ_14 => P_X6_readCounter_J68 1 r x Q σ_14)) := by
    intro b hb
    refine c_if (J := P_X6_readCounter_J68 1 r x Q) (b := !plT (d.1 2) (d.1 0 0) (tN y (k + 1 + 1 + 1))) hW h5 (by decide) (by decide) (fun g0 => ?_) (fun σ6 s6 h6 => ?_)
    · have hD := h5.2.2 g0
      rw [hb, hD.1.1, hx g0, plT_con (f' := d.1 2) (fun i i0 i1 => (hD.2.2.1 i i0 i1).1)]
      cases plT (d.1 2) (d.1 0 0) (tN y (k + 1 + 1 + 1)) <;> simp
    · generalize e5 : st g4 (!plT (d.1 2) (d.1 0 0) (tN y (k + 1 + 1 + 1))) (fl y 3 (k + 1 + 1 + 1)) = g5 at kk h6
      have z5 : g5 = 0 → g4 = 0 ∧ (!plT (d.1 2) (d.1 0 0) (tN y (k + 1 + 1 + 1))) = true := fun q => st_0 (F (by decide) (by decide)) (e5.trans q)
      unfold P_X6_readCounter_J68
      refine c_next h6 (fun q => isN_nz (z4 (z5 q).1).2) (fun σ7 s7 h7 => ?_)
      refine c_word hW h7 (by decide) (by decide) (by decide) (fun σ8 s8 h8 => ?_)
      have h8 : CS y N (st g5 (isW y (k + 1 + 1 + 1 + 1) 5146) (fl y 1 (k + 1 + 1 + 1 + 1))) (k + 1 + 1 + 1 + 1 + 1) d σ8 := h8
      generalize e6 : st g5 (isW y (k + 1 + 1 + 1 + 1) 5146) (fl y 1 (k + 1 + 1 + 1 + 1)) = g6 at kk h8
      refine c_num hW h8 (fun v σ9 s9 h9 hv => ?_)
      generalize e7 : numG y g6 (k + 1 + 1 + 1 + 1 + 1) 0 60 = g7 at kk h9 hv
      refine c_addCounter h9 (w := tW y (k + 1)) (d' := adC d (tW y (k + 1)) (tN y (k + 1 + 1 + 1)) (tN y (k + 1 + 1 + 1 + 1 + 1))) (fun q => ?_) (fun τ sτ hτ => kk τ (((((((((((pk_sh s1).tr (pk_sh s2)).tr (pk_sh s3)).tr (pk_sh s4)).tr (pk_sh s5)).tr (pk_sh s6)).tr (pk_sh s7)).tr (pk_sh s8)).tr (pk_sh s9)).tr sτ)) hτ)
      have q6 : g6 = 0 := (numG_0 hW (e7.trans q)).1
      have q5 : g5 = 0 := st_z (F (by decide) (by decide)) (e6.trans q6)
      have q4 := z5 q5
      have q3 := (z4 q4.1).1
      have q2 : g2 = 0 := st_z (F (by decide) (by decide)) (e3.trans q3)
      have q1 : g1 = 0 := (newG_0 hW (e2.trans q2)).1
      have q0 := st_0 (F (by decide) (by decide)) (e1.trans q1)
      have hm := hr q2
      rw [hx q4.1, hv q]
      exact ⟨of_decide_eq_true q0.2, ⟨hm.1, tW_rng hm.2⟩, plT_no hV.1.1 q4.2, rfl⟩
  exact t_isPlaceTold rfl h5.2.1.1.1 h5.2.1.1.2 (fun hp => body 1 ⟨fun q => absurd q one_no, fun q => by rw [hp] at q; cases q⟩) (fun hp => body 0 ⟨fun _ => hp, fun _ => rfl⟩)
theorem c_ball {Q : St → Prop} (hW : WfT y) (h : CS y N g k d σ) (hk : g = 0 → tK y k ≠ 0)
    (kk : ∀ σ', Sm shA σ σ' → CS y N (baG y d g k) (k + 1 + 1 + 1 + 1 + 1 + 1 + 1) (adB d (tW y (k + 1)) (knW y (k + 1 + 1)) (tN y (k + 1 + 1 + 1 + 1)) (ixN (d.1 1) (d.1 0 0) (tW y (k + 1 + 1 + 1 + 1 + 1 + 1)))) σ' → Q σ') : P_X6_readBall 1 σ Q := by
  have F : ∀ {c j : Int}, 1 ≤ c → c ≤ 5 → fl y c j ≠ 0 := fun c0 c1 => fl_ne hW c0 c1
  unfold baG at kk
  unfold P_X6_readBall
  refine c_if (J := P_X6_readBall_J17 1 Q) hW h (by decide) (by decide) (fun g0 => by rw [(h.2.2 g0).1.2.1]; exact decide_eq_true_iff.symm) (fun σ1 s1 h1 => ?_)
  generalize e1 : st g (decide (d.1 0 1 < 6)) (fl y 5 k) = g1 at kk h1
  unfold P_X6_readBall_J17
  refine c_next h1 (fun q => hk (st_z (F (by decide) (by decide)) (e1.trans q))) (fun σ2 s2 h2 => ?_)
  refine c_new hW h2 (fun r σ3 s3 h3 hr => ?_)
  generalize e2 : newG y g1 (k + 1) (d.1 1) (d.1 0 0) (d.1 4) (d.1 0 1) = g2 at kk h3 hr
  refine c_kind hW h3 (fun x σ4 s4 h4 hx => ?_)
  generalize e3 : kinG y g2 (k + 1 + 1) = g3 at kk h4 hx
  refine c_word hW h4 (by decide) (by decide) (by decide) (fun σ5 s5 h5 => ?_)
  have h5 : CS y N (st g3 (isW y (k + 1 + 1 + 1) 381245) (fl y 1 (k + 1 + 1 + 1))) (k + 1 + 1 + 1 + 1) d σ5 := h5
  generalize e4 : st g3 (isW y (k + 1 + 1 + 1) 381245) (fl y 1 (k + 1 + 1 + 1)) = g4 at kk h5
  refine c_num hW h5 (fun v σ6 s6 h6 hv => ?_)
  generalize e5 : numG y g4 (k + 1 + 1 + 1 + 1) 1 60 = g5 at kk h6 hv
  refine c_word hW h6 (by decide) (by decide) (by decide) (fun σ7 s7 h7 => ?_)
  have h7 : CS y N (st g5 (isW y (k + 1 + 1 + 1 + 1 + 1) 168755) (fl y 1 (k + 1 + 1 + 1 + 1 + 1))) (k + 1 + 1 + 1 + 1 + 1 + 1) d σ7 := h7
  generalize e6 : st g5 (isW y (k + 1 + 1 + 1 + 1 + 1) 168755) (fl y 1 (k + 1 + 1 + 1 + 1 + 1)) = g6 at kk h7
  refine c_told hW h7 (fun u σ8 s8 h8 hu => ?_)
  generalize e7 : tolG y g6 (k + 1 + 1 + 1 + 1 + 1 + 1) (d.1 1) (d.1 0 0) = g7 at kk h8 hu
  refine c_addBall h8 (w := tW y (k + 1)) (d' := adB d (tW y (k + 1)) (knW y (k + 1 + 1)) (tN y (k + 1 + 1 + 1 + 1)) (ixN (d.1 1) (d.1 0 0) (tW y (k + 1 + 1 + 1 + 1 + 1 + 1)))) (fun q => ?_) (fun τ sτ hτ => kk τ ((((((((pk_sh s1).tr (pk_sh s2)).tr (pk_sh s3)).tr (pk_sh s4)).tr (pk_sh s5)).tr (pk_sh s6)).tr (pk_sh s7)).tr ((pk_sh s8).tr sτ)) hτ)
  have q6 : g6 = 0 := tolG_z hW (e7.trans q)
  have q5 : g5 = 0 := st_z (F (by decide) (by decide)) (e6.trans q6)
  have q4 : g4 = 0 := (numG_0 hW (e5.trans q5)).1
  have q3 : g3 = 0 := st_z (F (by decide) (by decide)) (e4.trans q4)
  have q2 : g2 = 0 := st_z (F (by decide) (by decide)) (e3.trans q3)
  have q1 : g1 = 0 := (newG_0 hW (e2.trans q2)).1
  have q0 := st_0 (F (by decide) (by decide)) (e1.trans q1)
  have hm := hr q2
  rw [hx q3, hv q5, hu q]
  exact ⟨of_decide_eq_true q0.2, ⟨hm.1, tW_rng hm.2⟩, rfl⟩
/-- a field of the class's draft set -/
theorem DS_up {τ : St} {t i : Nat} {x v : Int} (h : DS τ) (ht : Nat.beq t 8 = false) (ht3 : Nat.beq t 903 = false) (h2 : Nat.beq t 2 = false) (h3 : Nat.beq t 3 = false) : DS (up τ t i x v) := by
  have o : ∀ {t' i' : Nat}, Nat.beq t t' = false → (up τ t i x v) t' i' = τ t' i' := fun h => up_oth (Or.inl (by
    cases e : Nat.beq _ t
    · rfl
    · have := Nat.eq_of_beq_eq_true e
      rw [this, Nat.beq_refl] at h; cases h))
  unfold DS
  rw [o ht, o ht3, o h2, o h3]
  exact h
theorem c_desk {Q : St → Prop} (hW : WfT y) (h : CS y N g k d σ) (hk : g = 0 → tK y k ≠ 0)
    (kk : ∀ σ', Sm shA σ σ' → CS y N (dkG y d g k) (k + 1 + 1) (adK d (tN y (k + 1))) σ' → Q σ') : P_X6_readDesk 1 σ Q := by
  have F : ∀ {c j : Int}, 1 ≤ c → c ≤ 5 → fl y c j ≠ 0 := fun c0 c1 => fl_ne hW c0 c1
  unfold dkG at kk
  unfold P_X6_readDesk
  refine c_if (J := P_X6_readDesk_J15 1 Q) (b := decide (d.1 0 4 = 0)) hW h (by decide) (by decide) (fun g0 => by rw [(h.2.2 g0).1.2.2.2.2.1]; exact decide_eq_true_iff.symm) (fun σ1 s1 h1 => ?_)
  generalize e1 : st g (decide (d.1 0 4 = 0)) (fl y 3 k) = g1 at kk h1
  unfold P_X6_readDesk_J15
  obtain ⟨hR, hDS, hDr⟩ := h1
  have su : Sm [(6, 0, some 1)] σ1 (up σ1 6 0 1 1) := Sm_up Sm.rf rfl
  refine t_next (RS_keep su rfl rfl rfl hR) (fun q => hk (st_z (F (by decide) (by decide)) (e1.trans q))) (fun σ2 s2 h2 => ?_)
  refine t_takeNumber hW h2 (fun r σ3 s3 h3 hr => ?_)
  have sF : Sm [(10, 0, some 5), (10, 0, some 6), (6, 0, some 1), (8, 1, some 13)] σ1 (up σ3 8 1 13 r) := Sm_up (((mem_sub rfl su).tr (mem_sub rfl s2)).tr (mem_sub rfl s3)) rfl
  have f6 : (up σ3 8 1 13 r) 6 0 1 = 1 := by rw [up_nt rfl, s3 6 0 1 rfl, s2 6 0 1 rfl, up_at]
  have f8 : (up σ3 8 1 13 r) 8 1 = upr (σ1 8 1) 13 r := by rw [up_row, s3.row (t := 8) rfl, s2.row (t := 8) rfl, su.row (t := 8) rfl]
  have sR : Sm [(8, 1, some 13)] σ3 (up σ3 8 1 13 r) := Sm_up Sm.rf rfl
  refine kk _ ((pk_sh s1).tr (mem_sub rfl sF)) ⟨RS_keep sR rfl rfl rfl h3, ?_, fun q => ?_⟩
  · unfold DS at hDS ⊢
    rw [f8, sF.row (t := 903) (i := 1) rfl, sF 2 1 3 rfl, sF 3 1 3 rfl, upr_ne (by decide), upr_ne (by decide), upr_ne (by decide)]
    exact hDS
  · obtain ⟨⟨q1, q2, q3, q4, q5, q6⟩, qn, qc, qr, qb, qB, qd, qL⟩ := hDr (numG_0 hW q).1
    have a0 : (adK d (tN y (k + 1))).1 0 = upr (upr (d.1 0) 4 1) 3 (tN y (k + 1)) := by unfold adK; dsimp only; rw [du_row, du_row]
    have ao : ∀ t : Nat, Nat.beq t 0 = false → (adK d (tN y (k + 1))).1 t = d.1 t := fun t ht => by unfold adK; dsimp only; rw [du_oth ht, du_oth ht]
    have a9 : (adK d (tN y (k + 1))).2 = d.2 := rfl
    have qr' : RaC (up σ3 8 1 13 r) 1 := by
      unfold RaC at qr ⊢
      rw [f8, upr_ne (by decide), sF.row (t := 903) (i := 1) rfl, sF.row (t := 900) (i := 1) rfl]
      exact qr
    unfold DrC
    rw [a0, ao 1 rfl, ao 2 rfl, ao 3 rfl, ao 4 rfl, ao 5 rfl, ao 6 rfl, ao 7 rfl, ao 8 rfl, a9, f8, f6, sF 6 0 2 rfl, sF.row (t := 900) (i := 1) rfl, sF.row (t := 901) (i := 1) rfl, sF.row (t := 902) (i := 1) rfl, sF.row (t := 903) (i := 1) rfl, sF.row (t := 904) (i := 1) rfl, sF.row (t := 905) (i := 1) rfl, sF.row (t := 906) (i := 1) rfl, sF.row (t := 907) (i := 1) rfl, sF.row (t := 908) (i := 1) rfl]
    have u : ∀ x : Int, x ≠ 3 → x ≠ 4 → upr (upr (d.1 0) 4 1) 3 (tN y (k + 1)) x = d.1 0 x := fun x h1 h2 => by rw [upr_ne h1, upr_ne h2]
    rw [u 0 (by decide) (by decide), u 1 (by decide) (by decide), u 2 (by decide) (by decide), u 5 (by decide) (by decide), upr_at, upr_at, upr_ne (by decide), upr_ne (by decide), upr_ne (by decide), upr_ne (by decide), upr_at]
    exact ⟨⟨q1, q2, q3, hr q, rfl, q6⟩, qn, qc, qr', qb, qB, qd, LawS_keep sF rfl qL⟩
theorem c_dampL (hW : WfT y) {Q : St → Prop} : ∀ (f : Nat) (x k : Int) (d : Dr) (σ : St) (n : Nat), CS y N 0 k d σ → x = d.1 0 2 → 1 ≤ x → x ≤ 12 → 13 - x ≤ f → 14 - x ≤ n →
    (∀ σ', Sm shA σ σ' → CS y N (dpL y f k d).1 (dpL y f k d).2.1 (dpL y f k d).2.2 σ' → Q σ') → P_X6_readDamp_L38 1 Q n x σ := by
  have F : ∀ {c j : Int}, 1 ≤ c → c ≤ 5 → fl y c j ≠ 0 := fun c0 c1 => fl_ne hW c0 c1
  intro f
  induction f with
  | zero => intro x k d σ n h hx x1 x12 hf; omega
  | succ f ih =>
    intro x k d σ n h hx x1 x12 hf hn kk
    obtain ⟨n, rfl, -⟩ := fu_ex (m := 0) (n := n) (by omega)
    unfold P_X6_readDamp_L38 P_X10_isSound
    unfold dpL at kk
    rw [if_neg (by omega), h.1.2.1, if_pos rfl]
    dsimp only
    rw [if_neg one_no]
    refine t_isNumber h.1 (fun hN => ?_) (fun hN => ?_)
    · have hN := hN rfl
      rw [if_pos hN] at kk
      rw [if_neg one_no]
      refine c_numHere hW h (fun r σ1 s1 h1 hr => ?_)
      refine c_if (J := P_X6_readDamp_J89 1 x r (P_X6_readDamp_L38 1 Q n) Q) (b := decide (d.1 0 2 < 12)) hW h1 (by decide) (by decide) (fun _ => by rw [hx]; exact decide_eq_true_iff.symm) (fun σ2 s2 h2 => ?_)
      have h2 : CS y N (dpH y d k) k d σ2 := h2
      unfold P_X6_readDamp_J89
      rw [wi_id (z := x + 1) (by omega) (by omega)]
      by_cases hz : dpH y d k = 0
      · rw [if_pos hz] at kk
        rw [hz] at h2
        have hz1 := st_0 (F (by decide) (by decide)) hz
        refine c_next h2 (fun _ => isN_nz hN) (fun σ3 s3 h3 => ?_)
        have hl := of_decide_eq_true hz1.2
        refine c_addDamp h3 (d' := adP d (tN y k)) (fun _ => ⟨hl, by rw [hr hz1.1]⟩) (fun σ4 s4 h4 => ?_)
        refine ih (x + 1) (k + 1) (adP d (tN y k)) σ4 n h4 ?_ (by omega) (by omega) (by omega) (by omega) (fun σ5 s5 h5 => kk σ5 ((((pk_sh s1).tr (pk_sh s2)).tr (pk_sh s3)).tr (s4.tr s5)) h5)
        rw [f_adP.1, upr_at, hx]
      · rw [if_neg hz] at kk
        refine c_next h2 (fun q => absurd q hz) (fun σ3 s3 h3 => ?_)
        refine c_addDamp h3 (d' := d) (fun q => absurd q hz) (fun σ4 s4 h4 => ?_)
        obtain ⟨n, rfl, -⟩ := fu_ex (m := 0) (n := n) (by omega)
        have fin : Q σ4 := kk σ4 ((((pk_sh s1).tr (pk_sh s2)).tr (pk_sh s3)).tr s4) ⟨RS_k hz h4.1, h4.2.1, fun q => absurd q hz⟩
        unfold P_X6_readDamp_L38 P_X10_isSound
        by_cases h12 : 12 < x + 1
        · rw [if_pos h12]; exact fin
        · rw [if_neg h12, h4.1.2.1, if_neg hz]
          dsimp only
          rw [if_pos rfl]; exact fin
    · have hN : isN y k = false := hN rfl
      rw [if_pos rfl]
      rw [hN, if_neg (by decide)] at kk
      exact kk σ Sm.rf h
theorem c_damp {Q : St → Prop} (hW : WfT y) (hV : WfD y d) (h : CS y N 0 k d σ) (hk : tK y k ≠ 0)
    (kk : ∀ σ', Sm shA σ σ' → CS y N (dpW y d k).1 (dpW y d k).2.1 (dpW y d k).2.2 σ' → Q σ') : P_X6_readDamp 1 σ Q := by
  have F : ∀ {c j : Int}, 1 ≤ c → c ≤ 5 → fl y c j ≠ 0 := fun c0 c1 => fl_ne hW c0 c1
  unfold P_X6_readDamp
  refine c_if (J := P_X6_readDamp_J15 1 Q) (b := decide (d.1 0 2 ≤ 0)) hW h (by decide) (by decide) (fun g0 => by rw [(h.2.2 g0).1.2.2.1]; exact decide_eq_true_iff.symm) (fun σ1 s1 h1 => ?_)
  unfold P_X6_readDamp_J15
  refine c_next h1 (fun _ => hk) (fun σ2 s2 h2 => ?_)
  refine c_num hW h2 (fun r σ3 s3 h3 hr => ?_)
  have h3 : CS y N (dpG y d 0 k) (k + 1 + 1) d σ3 := h3
  have hr : dpG y d 0 k = 0 → r = tN y (k + 1) := hr
  unfold dpW at kk
  by_cases hz : dpG y d 0 k = 0
  · rw [if_pos hz] at kk
    rw [hz] at h3
    have h0 := st_0 (F (by decide) (by decide)) (numG_0 hW hz).1
    have h0 := of_decide_eq_true h0.2
    have hq := hV.2.2.1
    have hq0 : d.1 0 2 = 0 := by omega
    refine c_addDamp h3 (d' := adP d (tN y (k + 1))) (fun _ => ⟨by omega, by rw [hr hz]⟩) (fun σ4 s4 h4 => ?_)
    refine c_dampL hW 13 1 (k + 1 + 1) _ σ4 FU h4 (by rw [f_adP.1, upr_at, hq0]; rfl) (by decide) (by decide) (by decide) (by unfold FU; omega) (fun σ5 s5 h5 => kk σ5 ((((pk_sh s1).tr (pk_sh s2)).tr (pk_sh s3)).tr (s4.tr s5)) h5)
  · rw [if_neg hz] at kk
    refine c_addDamp h3 (d' := d) (fun q => absurd q hz) (fun σ4 s4 h4 => ?_)
    obtain ⟨m, hm, -⟩ := fu_ex (m := 0) (n := FU) (FU_pos (by decide))
    rw [hm]
    unfold P_X6_readDamp_L38 P_X10_isSound
    rw [if_neg (by decide), h4.1.2.1, if_neg hz]
    dsimp only
    rw [if_pos rfl]
    exact kk σ4 ((((pk_sh s1).tr (pk_sh s2)).tr (pk_sh s3)).tr s4) h4
theorem c_wears {Q : St → Prop} (hW : WfT y) (hV : WfD y d) (h : CS y N 0 k d σ) (hk : tK y k ≠ 0)
    (kk : ∀ σ', Sm shA σ σ' → CS y N (weG y d k) (exW y (k + 1)).2.1 (adW d (exW y (k + 1))) σ' → Q σ') : P_X6_readWears 1 σ Q := by
  have F : ∀ {c j : Int}, 1 ≤ c → c ≤ 5 → fl y c j ≠ 0 := fun c0 c1 => fl_ne hW c0 c1
  have k0 : 0 ≤ k := by have := h.1.2.2.2 rfl; have := h.1.2.2.1; omega
  have hN := h.1.1.1.2
  unfold weG at kk
  unfold P_X6_readWears
  refine c_if (J := P_X6_readWears_J15 1 Q) (b := decide (d.1 0 5 = 0)) hW h (by decide) (by decide) (fun g0 => by rw [(h.2.2 g0).1.2.2.2.2.2]; exact decide_eq_true_iff.symm) (fun σ1 s1 h1 => ?_)
  have z1 : st 0 (decide (d.1 0 5 = 0)) (fl y 3 k) = 0 → d.1 0 5 = 0 := fun q => of_decide_eq_true (st_0 (F (by decide) (by decide)) q).2
  generalize st 0 (decide (d.1 0 5 = 0)) (fl y 3 k) = g1 at kk h1 z1
  unfold P_X6_readWears_J15
  obtain ⟨hR, hDS, hDr⟩ := h1
  have su : Sm [(6, 0, some 2)] σ1 (up σ1 6 0 2 1) := Sm_up Sm.rf rfl
  have e2 : d.1 0 5 = 0 → d.2 = pF 0 0 := fun q => by
    rcases hV.2.2.2.2.2.2.2.2 with h | h
    · exact h.2
    · omega
  have su1 : DS (up σ1 6 0 2 1) := DS_keep su rfl rfl rfl hDS
  refine t_next (RS_keep su rfl rfl rfl hR) (fun _ => hk) (fun σ2 s2 h2 => ?_)
  refine t_law hW hN g1 (k + 1) [] σ2 _ h2 (DS_keep s2 rfl rfl rfl su1) (fun q => ⟨?_, by show (0 : Int) ≤ k + 1; omega⟩) (fun σ3 s3 d3 h3 l3 => ?_)
  · have := (hDr q).2.2.2.2.2.2.2
    rw [e2 (z1 q)] at this
    exact LawS_keep s2 rfl (LawS_keep su rfl this)
  · have sF : Sm [(10, 0, some 5), (10, 0, some 6), (6, 0, some 2), (2, 1, some 3), (300, 1, none), (301, 1, none)] σ1 σ3 := ((mem_sub rfl su).tr (mem_sub rfl s2)).tr (mem_sub rfl s3)
    refine kk σ3 ((pk_sh s1).tr (mem_sub rfl sF)) ⟨h3, d3, fun q => ?_⟩
    obtain ⟨⟨q1, q2, q3, q4, q5, q6⟩, qn, qc, qr, qb, qB, qd, qL⟩ := hDr (gof_0 q).1
    have a0 : (adW d (exW y (k + 1))).1 0 = upr (d.1 0) 5 1 := by unfold adW; dsimp only; rw [du_row]
    have ao : ∀ t : Nat, Nat.beq t 0 = false → (adW d (exW y (k + 1))).1 t = d.1 t := fun t ht => by unfold adW; dsimp only; rw [du_oth ht]
    have a9 : (adW d (exW y (k + 1))).2 = exW y (k + 1) := rfl
    have f6 : σ3 6 0 2 = 1 := by rw [s3 6 0 2 rfl, s2 6 0 2 rfl, up_at]
    have qr' : RaC σ3 1 := by
      unfold RaC at qr ⊢
      rw [sF.row (t := 8) (i := 1) rfl, sF.row (t := 903) (i := 1) rfl, sF.row (t := 900) (i := 1) rfl]
      exact qr
    have l3 := l3 q
    unfold DrC
    rw [a0, ao 1 rfl, ao 2 rfl, ao 3 rfl, ao 4 rfl, ao 5 rfl, ao 6 rfl, ao 7 rfl, ao 8 rfl, a9, f6, sF 6 0 1 rfl, sF.row (t := 8) (i := 1) rfl, sF.row (t := 900) (i := 1) rfl, sF.row (t := 901) (i := 1) rfl, sF.row (t := 902) (i := 1) rfl, sF.row (t := 903) (i := 1) rfl, sF.row (t := 904) (i := 1) rfl, sF.row (t := 905) (i := 1) rfl, sF.row (t := 906) (i := 1) rfl, sF.row (t := 907) (i := 1) rfl, sF.row (t := 908) (i := 1) rfl]
    rw [upr_at, upr_ne (by decide), upr_ne (by decide), upr_ne (by decide), upr_ne (by decide), upr_ne (by decide)]
    exact ⟨⟨q1, q2, q3, q4, q5, rfl⟩, qn, qc, qr', qb, qB, qd, l3⟩
end
