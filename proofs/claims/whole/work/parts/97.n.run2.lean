/-! 97.n: the class reads a run; the reference reads a line -/
theorem c_run_L {y : Tp} {N : Int} {e : Nt} {Q : Int → St → Prop} (hW : WfT y) : ∀ (f : Nat) (x k : Int) (l : Ln) (σ : St) (n : Nat), CL y N 0 k e l σ → WfL e.2.1 e.2.2.2 l → 0 ≤ x → x ≤ k → x ≤ 1000 → 1001 - k ≤ f → 1001 - x < n →
    (∀ σ' k', Sm ruA σ σ' → CL y N (ruL y e f k l).1 k' e (ruL y e f k l).2 σ' → WfL e.2.1 e.2.2.2 (ruL y e f k l).2 → Q (ruL y e f k l).1 σ') → P_X6_readRun_L14 0 1 Q n x σ := by
  intro f
  induction f with
  | zero =>
    intro x k l σ n h hV x0 xk x1 hf
    have := h.1.2.2.2 rfl
    have := h.1.2.2.1
    have := h.1.1.1
    omega
  | succ f ih =>
    intro x k l σ n h hV x0 xk x1 hf hn kk
    obtain ⟨n, rfl, -⟩ := fu_ex (m := 0) (n := n) (by omega)
    unfold ruL at kk
    have stop : tK y k = 0 → Q (σ 10 0 6) σ := fun hz => by
      rw [if_pos hz] at kk
      rw [h.1.2.1]
      exact kk σ k Sm.rf h hV
    unfold P_X6_readRun_L14
    by_cases hx : 1000 ≤ x
    · rw [if_pos hx]
      refine stop (Classical.byContradiction (fun hne => ?_))
      have := tK_1000 hW (k := k) (by omega) hne
      omega
    · rw [if_neg hx]
      refine t_goesOn h.1 (fun _ hz => ?_) (fun hno => ?_)
      · rw [if_neg one_no]
        rw [if_neg hz] at kk
        refine l_line hW h hz (fun σ1 s1 h1 => ?_)
        rw [wi_id (z := x + 1) (by omega) (by omega)]
        refine t_takeSign hW h1.1 (fun σ2 s2 h2 => ?_)
        have h2 : RS y N (lnG y (lnR y e l k)) ((lnR y e l k).2.1 + 1) σ2 := h2
        have h2 : CL y N (lnG y (lnR y e l k)) ((lnR y e l k).2.1 + 1) e (lnR y e l k).2.2 σ2 := CL_pk h1 s2 h2 (st_z (fl_ne hW (by decide) (by decide)))
        by_cases hg : lnG y (lnR y e l k) = 0
        · rw [if_pos hg] at kk
          rw [hg] at h2
          have hok := lnR_ok hW hV (st_z (fl_ne hW (by decide) (by decide)) hg)
          exact ih (x + 1) ((lnR y e l k).2.1 + 1) (lnR y e l k).2.2 σ2 n h2 hok.1 (by omega) (by omega) (by omega) (by omega) (by omega) (fun σ' k' s' h' hV' => kk σ' k' ((s1.tr (pk_ru s2)).tr s') h' hV')
        · rw [if_neg hg] at kk
          have fin : Q (σ2 10 0 6) σ2 := by
            rw [h2.1.2.1]
            exact kk σ2 0 (s1.tr (pk_ru s2)) ⟨RS_k hg h2.1, h2.2.1, h2.2.2.1, fun q => absurd q hg⟩ hV
          obtain ⟨n, rfl, -⟩ := fu_ex (m := 0) (n := n) (by omega)
          unfold P_X6_readRun_L14
          by_cases hx2 : 1000 ≤ x + 1
          · rw [if_pos hx2]; exact fin
          · rw [if_neg hx2]
            refine t_goesOn h2.1 (fun q => absurd q hg) (fun _ => ?_)
            rw [if_pos rfl]; exact fin
      · rw [if_pos rfl]
        exact stop (Classical.byContradiction (fun hne => hno ⟨rfl, hne⟩))
def ruB : List Reg := ctA11 ++ ruA
def ruS : List Reg := lnT 0 ++ ruB
theorem t_X11_run {y : Tp} {e : Nt} {σ : St} {Q : Int → St → Prop} (hT : TpC σ y) (hW : WfT y) (hN : NI σ e) (hD : DS σ)
    (kf : (runT y e).1 ≠ 0 → ∀ σ', Sm ruB σ σ' → DS σ' → σ' 10 0 4 = 0 → Q (runT y e).1 σ')
    (ks : (runT y e).1 = 0 → ∀ σ', Sm ruS σ σ' → DS σ' → σ' 10 0 4 = 0 → LnC σ' 0 (runT y e).2 → WfL e.2.1 e.2.2.2 (runT y e).2 → Q 0 σ') : P_X11_run σ Q := by
  unfold P_X11_run P_X6_readRun
  have su : Sm [(3, 1, some 3)] σ (up σ 3 1 3 0) := Sm_up Sm.rf rfl
  have hT1 : TpC (up σ 3 1 3 0) y := by
    unfold TpC at hT ⊢
    rw [su 10 0 4 rfl, su.row (t := 1100) (i := 0) rfl]
    exact hT
  refine t_X10_cut hT1 hW (fun N σ2 s2 hk q4 q5 q6 => ?_)
  have e3 : σ2 3 1 3 = 0 := by rw [s2 3 1 3 rfl, up_at]
  have hDS : DS σ2 := by
    unfold DS at hD ⊢
    rw [e3, s2 2 1 3 rfl, su 2 1 3 rfl, s2.row (t := 8) (i := 1) rfl, su.row (t := 8) (i := 1) rfl, s2.row (t := 903) (i := 1) rfl, su.row (t := 903) (i := 1) rfl]
    exact ⟨hD.1, hD.2.1, hD.2.2.1, hD.2.2.2.1, by decide, hD.2.2.2.2.2⟩
  refine c_run_L hW 1001 0 0 ln0 σ2 FU ⟨⟨hk, q6, by rw [q5]; exact ⟨Int.le_refl 0, hk.1.1⟩, fun _ => q5⟩, hDS, NI_keep s2 rfl (NI_keep su rfl hN), fun _ => ⟨e3, fun j j0 j1 => ?_⟩⟩ ⟨by decide, fun j j0 j1 => ?_⟩ (Int.le_refl 0) (Int.le_refl 0) (by decide) (by decide) (by unfold FU; omega) (fun σ' k' s' h' hV' => ?_)
  · have : j < (0 : Int) := j1
    omega
  · have : j < (0 : Int) := j1
    omega
  · have hV' : WfL e.2.1 e.2.2.2 (runT y e).2 := hV'
    have h' : CL y N (runT y e).1 k' e (runT y e).2 σ' := h'
    have sB : Sm ruB σ σ' := ((mem_sub (B := ruB) rfl su).tr (mem_sub (B := ruB) rfl s2)).tr (mem_sub (B := ruB) rfl s')
    have e4 : σ' 10 0 4 = 0 := by rw [s' 10 0 4 rfl, q4]
    show if (runT y e).1 = 0 then _ else _
    by_cases hz : (runT y e).1 = 0
    · rw [if_pos hz]
      show P_X3_take 0 1 σ' fun σ_3 => Q (runT y e).1 σ_3
      rw [hz]
      refine t_X3_take (h'.2.2.2 hz) hV'.1 (fun τ sτ hτ => ?_)
      exact ks hz τ ((mem_sub (B := ruS) rfl sB).tr (mem_sub (B := ruS) rfl sτ)) (DS_keep sτ rfl rfl rfl h'.2.1) (by rw [sτ 10 0 4 rfl, e4]) hτ hV'
    · rw [if_neg hz]
      exact kf hz σ' sB h'.2.1 e4
/-! the reference -/
def rlA : List Reg := [(12, 0, some 4), (12, 0, some 5), (12, 0, some 6), (12, 0, some 7), (12, 0, some 8), (12, 0, some 9), (12, 0, some 36), (1338, 0, none), (1339, 0, none), (1340, 0, none), (1341, 0, none)]
def llT : List Nat := [1339, 1340, 1341]
def FB (c : Int) (σ τ : St) : Prop := Sm rlA σ τ ∧ τ 1338 0 = σ 1338 0 ∧ ∀ t : Nat, t ∈ llT → ∀ x : Int, x < 200 + c → τ t 0 x = σ t 0 x
def FLn (σ τ : St) : Prop := Sm rlA σ τ ∧ (∀ x : Int, x < 5 → τ 1338 0 x = σ 1338 0 x) ∧ ∀ t : Nat, t ∈ llT → ∀ x : Int, x < 200 → τ t 0 x = σ t 0 x
theorem FB.tr {c : Int} {σ τ υ : St} (h : FB c σ τ) (h' : FB c τ υ) : FB c σ υ := ⟨h.1.tr h'.1, h'.2.1.trans h.2.1, fun t ht x hx => (h'.2.2 t ht x hx).trans (h.2.2 t ht x hx)⟩
theorem FLn.tr {σ τ υ : St} (h : FLn σ τ) (h' : FLn τ υ) : FLn σ υ := ⟨h.1.tr h'.1, fun x hx => (h'.2.1 x hx).trans (h.2.1 x hx), fun t ht x hx => (h'.2.2 t ht x hx).trans (h.2.2 t ht x hx)⟩
theorem FLn.rf {σ : St} : FLn σ σ := ⟨Sm.rf, fun _ _ => rfl, fun _ _ _ _ => rfl⟩
theorem FB_of {c : Int} {A : List Reg} {σ τ : St} (s : Sm A σ τ) (s' : Sm rlA σ τ) (hn : noT A [1338, 1339, 1340, 1341] 0 = true) : FB c σ τ :=
  ⟨s', noT_row s hn (by decide), fun t ht x _ => by
    have : t ∈ [1338, 1339, 1340, 1341] := .tail _ ht
    rw [noT_row s hn this]⟩
theorem FB_up {c : Int} {σ : St} {t : Nat} {x v : Int} (hx : 200 + c ≤ x) (hr : inR rlA t 0 x = true) (h8 : Nat.beq 1338 t = false) : FB c σ (up σ t 0 x v) := ⟨Sm_up Sm.rf hr, up_oth (Or.inl h8), fun t' _ x' hx' => by
  unfold up
  rw [if_neg]
  rintro ⟨rfl, -, rfl⟩
  omega⟩
theorem FB.fl {c : Int} (c0 : 0 ≤ c) {σ τ : St} (h : FB c σ τ) : FLn σ τ := ⟨h.1, fun x _ => by rw [h.2.1], fun t ht x hx => h.2.2 t ht x (by omega)⟩
def NA (σ : St) (e : Nt) : Prop := (σ 1310 0 0 = e.2.1 ∧ 0 ≤ e.2.1 ∧ e.2.1 ≤ 6) ∧ (σ 1310 0 1 = e.2.2.2 ∧ 0 ≤ e.2.2.2 ∧ e.2.2.2 ≤ 6) ∧ NmA σ 1311 0 e.1 e.2.1 ∧ NmA σ 1312 0 e.2.2.1 e.2.2.2
theorem NA_keep {A : List Reg} {σ τ : St} {e : Nt} (h : Sm A σ τ) (hn : noT A [1310, 1311, 1312] 0 = true) (c : NA σ e) : NA τ e := by
  unfold NA NmA at c ⊢
  rw [noT_row h hn (t := 1310) (by decide), noT_row h hn (t := 1311) (by decide), noT_row h hn (t := 1312) (by decide)]
  exact c
section
variable {σ : St} {y : Tp} {k : Int} {e : Nt} {l : Ln}
theorem m_ball {Q : Int → St → Prop} (hW : WfT y) (h : RA y k σ) (hN : NA σ e)
    (k0 : tolG y 0 k e.2.2.1 e.2.2.2 ≠ 0 → ∀ σ', Sm faA σ σ' → σ' 12 0 9 = tolG y 0 k e.2.2.1 e.2.2.2 → Q 0 σ') (k1 : tolG y 0 k e.2.2.1 e.2.2.2 = 0 → ∀ σ', Sm nnA σ σ' → RA y (k + 1) σ' → σ' 12 0 36 = ixN e.2.2.1 e.2.2.2 (tW y k) → Q 1 σ') : P_X12_ballNamed 0 σ (fun r σ' => P_X12_passesFound r σ' Q) := by
  refine a_ballNamed (Or.inl rfl) hN.2.1.1 hN.2.1.2.1 hN.2.1.2.2 ?_
  rw [ixN_con hN.2.2.2]
  exact a_passesFound hW h (fun hm => by rw [a_wd h hm]) k0 k1
theorem m_counter {Q : Int → St → Prop} (hW : WfT y) (h : RA y k σ) (hN : NA σ e)
    (k0 : tolG y 0 k e.1 e.2.1 ≠ 0 → ∀ σ', Sm faA σ σ' → σ' 12 0 9 = tolG y 0 k e.1 e.2.1 → Q 0 σ') (k1 : tolG y 0 k e.1 e.2.1 = 0 → ∀ σ', Sm nnA σ σ' → RA y (k + 1) σ' → σ' 12 0 36 = ixN e.1 e.2.1 (tW y k) → Q 1 σ') : P_X12_counterNamed 0 σ (fun r σ' => P_X12_passesFound r σ' Q) := by
  refine a_counterNamed (Or.inl rfl) hN.1.1 hN.1.2.1 hN.1.2.2 ?_
  rw [ixN_con hN.2.2.1]
  exact a_passesFound hW h (fun hm => by rw [a_wd h hm]) k0 k1
/-- the line is there: its semicolon -/
theorem m_end {σ0 : St} {a b c : Int} {Q : Int → St → Prop} (hW : WfT y) (h : RA y k σ) (h0 : 0 ≤ l.1 ∧ l.1 < 40) (hL : LnA σ0 5 l) (hF : FB l.1 σ0 σ) (ha : σ 1339 0 (200 + l.1) = a) (hb : a = 1 ∨ a = 3 → σ 1340 0 (200 + l.1) = b) (hc : a = 3 → σ 1341 0 (200 + l.1) = c) (h2 : a = 2 → σ 1341 0 (200 + l.1) = b ∧ σ 1340 0 (200 + l.1) = c)
    (k0 : st 0 (isS y k 59) (fl y 1 k) ≠ 0 → ∀ σ', FLn σ0 σ' → σ' 12 0 9 = st 0 (isS y k 59) (fl y 1 k) → Q 0 σ')
    (k1 : st 0 (isS y k 59) (fl y 1 k) = 0 → ∀ σ', FLn σ0 σ' → RA y (k + 1) σ' → LnA σ' 5 (adL l a b c) → Q 1 σ') : P_X12_readsLine_J216 Q σ := by
  have e5 : σ 1338 0 5 = l.1 := by rw [hF.2.1]; exact hL.1
  unfold P_X12_readsLine_J216
  rw [e5, wi_id (z := l.1 + 1) (by omega) (by omega)]
  have su : Sm [(1338, 0, none)] σ (up σ 1338 0 5 (l.1 + 1)) := Sm_up Sm.rf rfl
  have fu : FLn σ0 (up σ 1338 0 5 (l.1 + 1)) := (hF.fl h0.1).tr ⟨mem_sub rfl su, fun x hx => up_nx (by omega), fun t ht x hx => up_nt (by
    have hb : ∀ t : Nat, t ∈ llT → Nat.beq t 1338 = false := by decide
    exact hb t ht)⟩
  have nl : ∀ {A : List Reg} {τ : St}, Sm A (up σ 1338 0 5 (l.1 + 1)) τ → Sm rlA (up σ 1338 0 5 (l.1 + 1)) τ → noT A [1338, 1339, 1340, 1341] 0 = true → FLn σ0 τ := fun s s' hn => fu.tr ((FB_of (c := 0) s s' hn).fl (Int.le_refl 0))
  refine a_closes hW (RA_keep su rfl rfl rfl rfl rfl rfl rfl h) (fun hf σ' s' e9 => ⟨Or.inl rfl, ?_⟩) (fun hs σ' s' h' => ⟨Or.inr rfl, ?_⟩)
  · rw [st_e hf] at k0
    exact k0 (fl_ne hW (by decide) (by decide)) σ' (nl s' (mem_sub rfl s') rfl) e9
  · refine k1 (st_t hs) σ' (nl s' (mem_sub rfl s') rfl) h' (LnA_keep s' rfl ?_)
    have hL2 := hL.2
    unfold LnA adL
    dsimp only
    rw [up_at, up_oth (t' := 1339) (Or.inl rfl), up_oth (t' := 1340) (Or.inl rfl), up_oth (t' := 1341) (Or.inl rfl)]
    refine ⟨rfl, fun j j0 j1 => ?_⟩
    rw [show (40 : Int) * 5 + j = 200 + j by omega]
    by_cases ej : j = l.1
    · rw [ej, upr_at, upr_at, upr_at]
      exact ⟨ha, hb, hc, h2⟩
    · rw [upr_ne ej, upr_ne ej, upr_ne ej, hF.2.2 1339 (by decide) _ (by omega), hF.2.2 1340 (by decide) _ (by omega), hF.2.2 1341 (by decide) _ (by omega)]
      have := hL2 j j0 (by omega)
      rw [show (40 : Int) * 5 + j = 200 + j by omega] at this
      exact this
end
