/-! 97.m: a run as it is told; the class reads it -/
/-- names in force: counters', how many, balls', how many -/
abbrev Nt : Type := (Int → Int) × Int × (Int → Int) × Int
def NI (σ : St) (e : Nt) : Prop := (σ 8 0 10 = e.2.1 ∧ 0 ≤ e.2.1 ∧ e.2.1 ≤ 6) ∧ (σ 8 0 11 = e.2.2.2 ∧ 0 ≤ e.2.2.2 ∧ e.2.2.2 ≤ 6) ∧ NmC (σ 902 0) e.1 e.2.1 ∧ NmC (σ 907 0) e.2.2.1 e.2.2.2
theorem NI_keep {A : List Reg} {σ τ : St} {e : Nt} (h : Sm A σ τ) (hn : noT A [8, 902, 907] 0 = true) (c : NI σ e) : NI τ e := by
  unfold NI at c ⊢
  rw [noT_row h hn (t := 8) (by decide), noT_row h hn (t := 902) (by decide), noT_row h hn (t := 907) (by decide)]
  exact c
def adL (l : Ln) (a b c : Int) : Ln := (l.1 + 1, upr l.2.1 l.1 a, upr l.2.2.1 l.1 b, upr l.2.2.2 l.1 c)
def ddW (y : Tp) (k : Int) : Int := if isW y k 43058 = true then 0 else if isW y k 378004 = true then 1 else if isW y k 14006 = true then 2 else if isW y k 1627639 = true then 3 else if isW y k 2968 = true then 4 else -1
def ln1 (y : Tp) (l : Ln) (k : Int) : Int := if ddW y k = -1 then fl y 1 k else st 0 (decide (l.1 < 40)) (fl y 5 k)
def lnR (y : Tp) (e : Nt) (l : Ln) (k : Int) : Int × Int × Ln :=
  if ddW y k = 1 then (tolG y (ln1 y l k) (k + 1) e.2.2.1 e.2.2.2, k + 1 + 1, adL l 1 (ixN e.2.2.1 e.2.2.2 (tW y (k + 1))) 0)
  else if ddW y k = 3 then (tolG y (tolG y (ln1 y l k) (k + 1) e.2.2.1 e.2.2.2) (k + 1 + 1) e.1 e.2.1, k + 1 + 1 + 1, adL l 3 (ixN e.2.2.1 e.2.2.2 (tW y (k + 1))) (ixN e.1 e.2.1 (tW y (k + 1 + 1))))
  else if ddW y k = 2 then (numG y (tolG y (ln1 y l k) (k + 1) e.1 e.2.1) (k + 1 + 1) 0 60, k + 1 + 1 + 1, adL l 2 (ixN e.1 e.2.1 (tW y (k + 1))) (tN y (k + 1 + 1)))
  else (ln1 y l k, k + 1, adL l (ddW y k) 0 0)
def lnG (y : Tp) (c : Int × Int × Ln) : Int := st c.1 (isS y c.2.1 59) (fl y 1 c.2.1)
def ruL (y : Tp) (e : Nt) : Nat → Int → Ln → Int × Ln
  | 0, _, l => (0, l)
  | f + 1, k, l => if tK y k = 0 then (0, l) else if lnG y (lnR y e l k) = 0 then ruL y e f ((lnR y e l k).2.1 + 1) (lnR y e l k).2.2 else (lnG y (lnR y e l k), l)
def ln0 : Ln := (0, fun _ => 0, fun _ => 0, fun _ => 0)
/-- the run that a tape tells, or a fault -/
def runT (y : Tp) (e : Nt) : Int × Ln := ruL y e 1001 0 ln0
theorem ddW_rng {y : Tp} {k : Int} : -1 ≤ ddW y k ∧ ddW y k ≤ 4 := by
  unfold ddW
  repeat' split
  all_goals omega
theorem ddW_nz {y : Tp} {k : Int} (h : ddW y k ≠ -1) : tK y k ≠ 0 := by
  unfold ddW at h
  repeat' split at h
  all_goals first | exact isW_nz ‹_› | exact absurd rfl h
theorem ln1_0 {y : Tp} {l : Ln} {k : Int} (hW : WfT y) (h : ln1 y l k = 0) : ddW y k ≠ -1 ∧ l.1 < 40 := by
  unfold ln1 at h
  split at h
  · exact absurd h (fl_ne hW (by decide) (by decide))
  · exact ⟨‹_›, of_decide_eq_true (st_0 (fl_ne hW (by decide) (by decide)) h).2⟩
theorem tolG_0 {y : Tp} {g k n : Int} {nm : Int → Int} (hW : WfT y) (h : tolG y g k nm n = 0) : g = 0 ∧ 0 ≤ ixN nm n (tW y k) ∧ ixN nm n (tW y k) < n := by
  obtain ⟨h1, h2⟩ := st_0 (fl_ne hW (by decide) (by decide)) h
  have h2 := of_decide_eq_true h2
  have h3 := ixN_rng (nm := nm) (n := n) (w := tW y k)
  exact ⟨st_z (fl_ne hW (by decide) (by decide)) h1, h2, by omega⟩
theorem WfL_ad {n m : Int} {l : Ln} {a b c : Int} (h : WfL n m l) (h1 : l.1 < 40) (ha : (0 ≤ a ∧ a ≤ 4) ∧ (a = 1 ∨ a = 3 → 0 ≤ b ∧ b < m) ∧ (a = 3 → 0 ≤ c ∧ c < n) ∧ (a = 2 → (0 ≤ b ∧ b < n) ∧ (0 ≤ c ∧ c ≤ 60))) : WfL n m (adL l a b c) := by
  obtain ⟨h2, h3⟩ := h
  unfold adL
  refine ⟨by dsimp only; omega, fun j j0 j1 => ?_⟩
  dsimp only at j1 ⊢
  by_cases e : j = l.1
  · rw [e, upr_at, upr_at, upr_at]; exact ha
  · rw [upr_ne e, upr_ne e, upr_ne e]; exact h3 j j0 (by omega)
theorem lnR_ok {y : Tp} {e : Nt} {l : Ln} {k : Int} (hW : WfT y) (hL : WfL e.2.1 e.2.2.2 l) (h : (lnR y e l k).1 = 0) : WfL e.2.1 e.2.2.2 (lnR y e l k).2.2 ∧ k < (lnR y e l k).2.1 := by
  have hr := ddW_rng (y := y) (k := k)
  unfold lnR at h ⊢
  by_cases h1 : ddW y k = 1
  · rw [if_pos h1] at h ⊢
    dsimp only at h ⊢
    have q := tolG_0 hW h
    exact ⟨WfL_ad hL (ln1_0 hW q.1).2 ⟨by decide, fun _ => q.2, fun q => absurd q (by decide), fun q => absurd q (by decide)⟩, by omega⟩
  · rw [if_neg h1] at h ⊢
    by_cases h3 : ddW y k = 3
    · rw [if_pos h3] at h ⊢
      dsimp only at h ⊢
      have q := tolG_0 hW h
      have p := tolG_0 hW q.1
      exact ⟨WfL_ad hL (ln1_0 hW p.1).2 ⟨by decide, fun _ => p.2, fun _ => q.2, fun q => absurd q (by decide)⟩, by omega⟩
    · rw [if_neg h3] at h ⊢
      by_cases h2 : ddW y k = 2
      · rw [if_pos h2] at h ⊢
        dsimp only at h ⊢
        have q := numG_0 hW h
        have p := tolG_0 hW q.1
        exact ⟨WfL_ad hL (ln1_0 hW p.1).2 ⟨by decide, fun q => absurd q (by decide), fun q => absurd q (by decide), fun _ => ⟨p.2, of_decide_eq_true q.2.2⟩⟩, by omega⟩
      · rw [if_neg h2] at h ⊢
        dsimp only at h ⊢
        have q := ln1_0 hW h
        exact ⟨WfL_ad hL q.2 ⟨⟨by omega, hr.2⟩, fun p => by omega, fun p => by omega, fun p => by omega⟩, by omega⟩
def CL (y : Tp) (N g k : Int) (e : Nt) (l : Ln) (σ : St) : Prop := RS y N g k σ ∧ DS σ ∧ NI σ e ∧ (g = 0 → LnC σ 1 l)
def ruA : List Reg := [(10, 0, some 5), (10, 0, some 6), (3, 1, some 3), (400, 1, none), (401, 1, none), (402, 1, none)]
section
variable {σ : St} {y : Tp} {N g k : Int} {e : Nt} {l : Ln}
theorem pk_ru {σ τ : St} (s : Sm pkA σ τ) : Sm ruA σ τ := mem_sub rfl s
theorem LnC_keep {A : List Reg} {σ τ : St} {o : Nat} {l : Ln} (h : Sm A σ τ) (hn : noT A [3, 400, 401, 402] o = true) (c : LnC σ o l) : LnC τ o l := by
  unfold LnC at c ⊢
  rw [noT_row h hn (t := 3) (by decide), noT_row h hn (t := 400) (by decide), noT_row h hn (t := 401) (by decide), noT_row h hn (t := 402) (by decide)]
  exact c
theorem CL_pk {σ' : St} {g' k' : Int} (h : CL y N g k e l σ) (s : Sm pkA σ σ') (h' : RS y N g' k' σ') (hg : g' = 0 → g = 0) : CL y N g' k' e l σ' :=
  ⟨h', DS_keep s rfl rfl rfl h.2.1, NI_keep s rfl h.2.2.1, fun q => LnC_keep s rfl (h.2.2.2 (hg q))⟩
theorem l_counter {Q : Int → St → Prop} (hW : WfT y) (h : CL y N g k e l σ)
    (kk : ∀ r σ', Sm pkA σ σ' → CL y N (tolG y g k e.1 e.2.1) (k + 1) e l σ' → (tolG y g k e.1 e.2.1 = 0 → r = ixN e.1 e.2.1 (tW y k)) → Q r σ') : P_X10_takeTold 902 0 (σ 8 0 10) σ Q := by
  have hN := h.2.2.1
  rw [hN.1.1]
  exact t_takeTold hW h.1 rfl hN.1.2.1 hN.1.2.2 (fun _ => hN.2.2.1) (fun r σ' s' h' hr => kk r σ' s' (CL_pk h s' h' (tolG_z hW)) hr)
theorem l_ball {Q : Int → St → Prop} (hW : WfT y) (h : CL y N g k e l σ)
    (kk : ∀ r σ', Sm pkA σ σ' → CL y N (tolG y g k e.2.2.1 e.2.2.2) (k + 1) e l σ' → (tolG y g k e.2.2.1 e.2.2.2 = 0 → r = ixN e.2.2.1 e.2.2.2 (tW y k)) → Q r σ') : P_X10_takeTold 907 0 (σ 8 0 11) σ Q := by
  have hN := h.2.2.1
  rw [hN.2.1.1]
  exact t_takeTold hW h.1 rfl hN.2.1.2.1 hN.2.1.2.2 (fun _ => hN.2.2.2) (fun r σ' s' h' hr => kk r σ' s' (CL_pk h s' h' (tolG_z hW)) hr)
theorem l_add {a b c : Int} {l' : Ln} {Q : St → Prop} (h : CL y N g k e l σ) (hg : g = 0 → l.1 < 40 ∧ l' = adL l a b c) (kk : ∀ σ', Sm ruA σ σ' → CL y N g k e l' σ' → Q σ') : P_X3_add 1 a b c σ Q := by
  obtain ⟨hR, hDS, hN, hL⟩ := h
  unfold P_X3_add
  by_cases h6 : 40 ≤ σ 3 1 3
  · rw [if_pos h6]
    refine kk σ Sm.rf ⟨hR, hDS, hN, fun g0 => ?_⟩
    have h1 := (hg g0).1
    have h2 := (hL g0).1
    omega
  · rw [if_neg h6]
    obtain ⟨dn, dm, dq, ds, ⟨c0, -⟩, drail⟩ := id hDS
    have eu : ∀ (τ : St) (t : Nat) (i v : Int), Nat.beq 3 t = false → (up τ t 1 i v) 3 1 3 = τ 3 1 3 := fun _ _ _ _ h => up_nt h
    simp only [eu _ 400 _ _ rfl, eu _ 401 _ _ rfl, eu _ 402 _ _ rfl]
    rw [wi_id (z := σ 3 1 3 + 1) (by omega) (by omega)]
    have sA : Sm [(3, 1, some 3), (400, 1, none), (401, 1, none), (402, 1, none)] σ (up (up (up (up σ 400 1 (σ 3 1 3) a) 401 1 (σ 3 1 3) b) 402 1 (σ 3 1 3) c) 3 1 3 (σ 3 1 3 + 1)) := Sm_up (Sm_up (Sm_up (Sm_up Sm.rf rfl) rfl) rfl) rfl
    have t3 : (up (up (up (up σ 400 1 (σ 3 1 3) a) 401 1 (σ 3 1 3) b) 402 1 (σ 3 1 3) c) 3 1 3 (σ 3 1 3 + 1)) 3 1 3 = σ 3 1 3 + 1 := up_at
    have t0 : (up (up (up (up σ 400 1 (σ 3 1 3) a) 401 1 (σ 3 1 3) b) 402 1 (σ 3 1 3) c) 3 1 3 (σ 3 1 3 + 1)) 400 1 = upr (σ 400 1) (σ 3 1 3) a := by rw [up_oth (Or.inl rfl), up_oth (Or.inl rfl), up_oth (Or.inl rfl), up_row]
    have t1 : (up (up (up (up σ 400 1 (σ 3 1 3) a) 401 1 (σ 3 1 3) b) 402 1 (σ 3 1 3) c) 3 1 3 (σ 3 1 3 + 1)) 401 1 = upr (σ 401 1) (σ 3 1 3) b := by rw [up_oth (Or.inl rfl), up_oth (Or.inl rfl), up_row, up_oth (Or.inl rfl)]
    have t2 : (up (up (up (up σ 400 1 (σ 3 1 3) a) 401 1 (σ 3 1 3) b) 402 1 (σ 3 1 3) c) 3 1 3 (σ 3 1 3 + 1)) 402 1 = upr (σ 402 1) (σ 3 1 3) c := by rw [up_oth (Or.inl rfl), up_row, up_oth (Or.inl rfl), up_oth (Or.inl rfl)]
    generalize (up (up (up (up σ 400 1 (σ 3 1 3) a) 401 1 (σ 3 1 3) b) 402 1 (σ 3 1 3) c) 3 1 3 (σ 3 1 3 + 1)) = τ at sA t3 t0 t1 t2
    refine ⟨c0, by omega, c0, by omega, c0, by omega, ?_⟩
    refine kk τ (mem_sub (B := ruA) rfl sA) ⟨RS_keep sA rfl rfl rfl hR, ?_, NI_keep sA rfl hN, fun g0 => ?_⟩
    · unfold DS
      rw [t3, sA 2 1 3 rfl, sA.row (t := 8) (i := 1) rfl, sA.row (t := 903) (i := 1) rfl]
      exact ⟨dn, dm, dq, ds, ⟨by omega, by omega⟩, drail⟩
    · obtain ⟨h1, h4⟩ := hg g0
      obtain ⟨q1, q2⟩ := hL g0
      rw [h4]
      unfold LnC adL
      dsimp only
      rw [t3, t0, t1, t2, q1]
      refine ⟨rfl, fun j j0 j1 => ?_⟩
      by_cases ej : j = l.1
      · rw [ej, upr_at, upr_at, upr_at, upr_at, upr_at, upr_at]
        exact ⟨rfl, rfl, rfl⟩
      · rw [upr_ne ej, upr_ne ej, upr_ne ej, upr_ne ej, upr_ne ej, upr_ne ej]
        exact q2 j j0 (by omega)
theorem l_line {Q : St → Prop} (hW : WfT y) (h : CL y N 0 k e l σ) (hz : tK y k ≠ 0)
    (kk : ∀ σ', Sm ruA σ σ' → CL y N (lnR y e l k).1 (lnR y e l k).2.1 e (lnR y e l k).2.2 σ' → Q σ') : P_X6_readRunLine 0 1 σ Q := by
  have F : ∀ {c j : Int}, 1 ≤ c → c ≤ 5 → fl y c j ≠ 0 := fun c0 c1 => fl_ne hW c0 c1
  -- after the first word
  have body : ∀ σ1, Sm pkA σ σ1 → CL y N (ln1 y l k) k e l σ1 → P_X6_readRunLine_J38 0 1 (ddW y k) Q σ1 := by
    intro σ1 s1 h1
    unfold lnR at kk
    unfold P_X6_readRunLine_J38
    have z1 : ln1 y l k = 0 → ddW y k ≠ -1 ∧ l.1 < 40 := fun q => ln1_0 hW q
    generalize ln1 y l k = g1 at kk h1 z1
    refine t_next h1.1 (fun _ => hz) (fun σ2 s2 h2 => ?_)
    have h2 := CL_pk h1 s2 h2 id
    have s12 := (pk_ru s1).tr (pk_ru s2)
    by_cases d1 : ddW y k = 1
    · rw [if_pos d1] at kk ⊢
      dsimp only at kk
      unfold P_X6_readRunLine_J61
      refine l_ball hW h2 (fun r σ3 s3 h3 hr => ?_)
      unfold P_X6_readRunLine_J78 P_X6_readRunLine_J100 P_X6_readRunLine_J134
      rw [if_neg (by omega), if_neg (by omega)]
      refine l_add h3 (fun q => ⟨(z1 (tolG_z hW q)).2, by rw [hr q, d1]⟩) (fun σ4 s4 h4 => kk σ4 ((s12.tr (pk_ru s3)).tr s4) h4)
    · rw [if_neg d1] at kk ⊢
      by_cases d3 : ddW y k = 3
      · rw [if_pos d3] at kk ⊢
        dsimp only at kk
        unfold P_X6_readRunLine_J61
        refine l_ball hW h2 (fun r σ3 s3 h3 hr => ?_)
        unfold P_X6_readRunLine_J78
        rw [if_pos d3]
        refine l_counter hW h3 (fun r' σ4 s4 h4 hr' => ?_)
        unfold P_X6_readRunLine_J100 P_X6_readRunLine_J134
        rw [if_neg (by omega)]
        refine l_add h4 (fun q => ⟨(z1 (tolG_z hW (tolG_z hW q))).2, by rw [hr (tolG_z hW q), hr' q, d3]⟩) (fun σ5 s5 h5 => kk σ5 (((s12.tr (pk_ru s3)).tr (pk_ru s4)).tr s5) h5)
      · rw [if_neg d3] at kk ⊢
        unfold P_X6_readRunLine_J78
        rw [if_neg d3]
        unfold P_X6_readRunLine_J100
        by_cases d2 : ddW y k = 2
        · rw [if_pos d2] at kk ⊢
          dsimp only at kk
          refine l_counter hW h2 (fun r σ3 s3 h3 hr => ?_)
          refine t_takeNumber hW h3.1 (fun r' σ4 s4 h4 hr' => ?_)
          have h4 := CL_pk h3 s4 h4 (fun q => (numG_0 hW q).1)
          unfold P_X6_readRunLine_J134
          refine l_add h4 (fun q => ⟨(z1 (tolG_z hW (numG_0 hW q).1)).2, by rw [hr (numG_0 hW q).1, hr' q, d2]⟩) (fun σ5 s5 h5 => kk σ5 (((s12.tr (pk_ru s3)).tr (pk_ru s4)).tr s5) h5)
        · rw [if_neg d2] at kk ⊢
          dsimp only at kk
          unfold P_X6_readRunLine_J134
          exact l_add h2 (fun q => ⟨(z1 q).2, rfl⟩) (fun σ5 s5 h5 => kk σ5 (s12.tr s5) h5)
  -- a word found
  have yes : ∀ v : Int, ddW y k = v → 0 ≤ v → (if v = -1 then P_X10_wrong 1 σ (fun σ_14 => P_X6_readRunLine_J38 0 1 v Q σ_14) else (if σ 3 1 3 < 40 then P_X6_readRunLine_J38 0 1 v Q σ else P_X10_wrong 5 σ (fun σ_13 => P_X6_readRunLine_J38 0 1 v Q σ_13))) := by
    intro v hv v0
    subst hv
    rw [if_neg (by omega)]
    have e1 : ln1 y l k = st 0 (decide (l.1 < 40)) (fl y 5 k) := by unfold ln1; rw [if_neg (by omega)]
    rw [e1] at body
    rw [(h.2.2.2 rfl).1]
    by_cases h40 : l.1 < 40
    · rw [if_pos h40]
      refine body σ Sm.rf ?_
      rw [st_t (decide_eq_true h40)]
      exact h
    · rw [if_neg h40]
      refine t_wrong hW h.1 (by decide) (by decide) (fun σ1 s1 h1 => ?_)
      rw [if_pos rfl] at h1
      refine body σ1 s1 ?_
      rw [st_e (decide_eq_false h40)]
      exact CL_pk h s1 (RS_k (F (by decide) (by decide)) h1) (fun _ => rfl)
  unfold P_X6_readRunLine P_X6_deedHere
  refine t_isWord h.1 (by decide) (by decide) (by decide) (fun w0 => ?_) (fun w0 => ?_)
  · rw [if_neg one_no]
    have w0 : isW y k 43058 = true := w0 rfl
    exact yes 0 (by unfold ddW; rw [if_pos w0]) (by decide)
  · rw [if_pos rfl]
    have n0 : ¬ isW y k 43058 = true := fun q => by have w0 : isW y k 43058 = false := w0 rfl; rw [w0] at q; cases q
    refine t_isWord h.1 (by decide) (by decide) (by decide) (fun w1 => ?_) (fun w1 => ?_)
    · rw [if_neg one_no]
      have w1 : isW y k 378004 = true := w1 rfl
      exact yes 1 (by unfold ddW; rw [if_neg n0, if_pos w1]) (by decide)
    · rw [if_pos rfl]
      have n1 : ¬ isW y k 378004 = true := fun q => by have w1 : isW y k 378004 = false := w1 rfl; rw [w1] at q; cases q
      refine t_isWord h.1 (by decide) (by decide) (by decide) (fun w2 => ?_) (fun w2 => ?_)
      · rw [if_neg one_no]
        have w2 : isW y k 14006 = true := w2 rfl
        exact yes 2 (by unfold ddW; rw [if_neg n0, if_neg n1, if_pos w2]) (by decide)
      · rw [if_pos rfl]
        have n2 : ¬ isW y k 14006 = true := fun q => by have w2 : isW y k 14006 = false := w2 rfl; rw [w2] at q; cases q
        refine t_isWord h.1 (by decide) (by decide) (by decide) (fun w3 => ?_) (fun w3 => ?_)
        · rw [if_neg one_no]
          have w3 : isW y k 1627639 = true := w3 rfl
          exact yes 3 (by unfold ddW; rw [if_neg n0, if_neg n1, if_neg n2, if_pos w3]) (by decide)
        · rw [if_pos rfl]
          have n3 : ¬ isW y k 1627639 = true := fun q => by have w3 : isW y k 1627639 = false := w3 rfl; rw [w3] at q; cases q
          refine t_isWord h.1 (by decide) (by decide) (by decide) (fun w4 => ?_) (fun w4 => ?_)
          · rw [if_neg one_no]
            have w4 : isW y k 2968 = true := w4 rfl
            exact yes 4 (by unfold ddW; rw [if_neg n0, if_neg n1, if_neg n2, if_neg n3, if_pos w4]) (by decide)
          · rw [if_pos rfl]
            have n4 : ¬ isW y k 2968 = true := fun q => by have w4 : isW y k 2968 = false := w4 rfl; rw [w4] at q; cases q
            have ed : ddW y k = -1 := by unfold ddW; rw [if_neg n0, if_neg n1, if_neg n2, if_neg n3, if_neg n4]
            dsimp only
            rw [if_pos rfl]
            have e1 : ln1 y l k = fl y 1 k := by unfold ln1; rw [if_pos ed]
            rw [e1, ed] at body
            refine t_wrong hW h.1 (by decide) (by decide) (fun σ1 s1 h1 => ?_)
            rw [if_pos rfl] at h1
            exact body σ1 s1 (CL_pk h s1 (RS_k (F (by decide) (by decide)) h1) (fun _ => rfl))
end
