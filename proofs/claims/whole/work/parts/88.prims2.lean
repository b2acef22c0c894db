/-! 88: numbers and names met by the class -/
section
variable {σ : St}
theorem RS_k {y : Tp} {N g k k' : Int} (g0 : g ≠ 0) (h : RS y N g k σ) : RS y N g k' σ := ⟨h.1, h.2.1, h.2.2.1, fun q => absurd q g0⟩
theorem st_ne {g : Int} {b : Bool} {f : Int} (g0 : g ≠ 0) : st g b f = g := if_neg g0
theorem st_0 {g : Int} {b : Bool} {f : Int} (hf : f ≠ 0) (h : st g b f = 0) : g = 0 ∧ b = true := by
  unfold st at h
  split at h
  · split at h
    · rename_i h1 h2
      exact ⟨h1, h2⟩
    · exact absurd h hf
  · rename_i h1
    exact absurd h h1
theorem fl_ne {y : Tp} (hW : WfT y) {c k : Int} (c0 : 1 ≤ c) (c1 : c ≤ 5) : fl y c k ≠ 0 := by
  have := fl_rng hW (k := k) c0 c1
  omega
def inB (x a b : Int) : Bool := decide (a ≤ x ∧ x ≤ b)
def numG (y : Tp) (g k a b : Int) : Int := st (st g (isN y k) (fl y 1 k)) (inB (tN y k) a b) (fl y 4 k)
theorem numG_0 {y : Tp} (hW : WfT y) {g k a b : Int} (h : numG y g k a b = 0) : g = 0 ∧ isN y k = true ∧ inB (tN y k) a b = true := by
  have h1 := st_0 (fl_ne hW (by decide) (by decide)) h
  have h2 := st_0 (fl_ne hW (by decide) (by decide)) h1.1
  exact ⟨h2.1, h2.2, h1.2⟩
theorem t_numberHere {y : Tp} {N g k a b : Int} {Q : Int → St → Prop} (hW : WfT y) (h : RS y N g k σ)
    (kk : ∀ r σ', Sm pkA σ σ' → RS y N (numG y g k a b) k σ' → (numG y g k a b = 0 → r = tN y k) → Q r σ') : P_X10_numberHere a b σ Q := by
  have h1 := fl_rng hW (c := 1) (k := k) (by decide) (by decide)
  have h4 := fl_rng hW (c := 4) (k := k) (by decide) (by decide)
  have hT := h.1
  have ha := h.2.2.1
  have hN1 := hT.1.2
  unfold P_X10_numberHere
  refine t_isNumber h (fun hn => ?_) (fun hn => ?_)
  · rw [if_neg one_no]
    refine ⟨ha.1, by omega, ?_⟩
    by_cases g0 : g = 0
    · have e : σ 1103 0 (σ 10 0 5) = tN y k := by
        have hK := of_decide_eq_true (hn g0)
        rw [h.2.2.2 g0]
        have := h.2.2.2 g0
        exact (hT.2.2.2 k (by omega) (by omega)).2.2.2.1 hK
      have hr := nu_ok (of_decide_eq_true (hn g0))
      have hr : 0 ≤ tN y k ∧ tN y k ≤ 9999 := hr
      rw [e, wi_id (by omega) (by omega)]
      unfold numG at kk
      rw [st_g hn, g0] at kk
      rw [g0] at h
      refine t_X11_within (fun p q => ?_) (fun hno => ?_)
      · rw [if_neg one_no]
        rw [st_g (b := inB (tN y k) a b) (fun _ => decide_eq_true ⟨p, q⟩)] at kk
        exact kk _ σ Sm.rf h (fun _ => rfl)
      · rw [if_pos rfl]
        rw [st_f (b := inB (tN y k) a b) (fun _ => decide_eq_false hno), if_pos rfl] at kk
        refine t_wrong hW h (by decide) (by decide) (fun σ' s' h' => ?_)
        rw [if_pos rfl] at h'
        exact kk _ σ' s' (RS_k (by omega) h') (fun q => by omega)
    · have e : numG y g k a b = g := by unfold numG; rw [st_ne g0, st_ne g0]
      rw [e] at kk
      refine t_X11_within (fun p q => ?_) (fun hno => ?_)
      · rw [if_neg one_no]
        exact kk _ σ Sm.rf h (fun q => absurd q g0)
      · rw [if_pos rfl]
        refine t_wrong hW h (by decide) (by decide) (fun σ' s' h' => ?_)
        rw [if_neg g0] at h'
        exact kk _ σ' s' (RS_k g0 h') (fun q => absurd q g0)
  · rw [if_pos rfl]
    refine t_wrong hW h (by decide) (by decide) (fun σ' s' h' => ?_)
    have e : numG y g k a b = if g = 0 then fl y 1 k else g := by
      unfold numG
      rw [st_f hn]
      by_cases g0 : g = 0
      · rw [if_pos g0, st_ne (by omega)]
      · rw [if_neg g0, st_ne g0]
    have hne : (if g = 0 then fl y 1 k else g) ≠ 0 := by
      split
      · omega
      · assumption
    rw [e] at kk
    exact kk _ σ' s' (RS_k hne h') (fun q => absurd q hne)
theorem t_takeNumber {y : Tp} {N g k a b : Int} {Q : Int → St → Prop} (hW : WfT y) (h : RS y N g k σ)
    (kk : ∀ r σ', Sm pkA σ σ' → RS y N (numG y g k a b) (k + 1) σ' → (numG y g k a b = 0 → r = tN y k) → Q r σ') : P_X10_takeNumber a b σ Q := by
  unfold P_X10_takeNumber
  refine t_numberHere hW h (fun r σ1 s1 h1 hr => ?_)
  exact t_next h1 (fun g0 => isN_nz (numG_0 hW g0).2.1) (fun σ2 s2 h2 => kk r σ2 (s1.tr s2) h2 hr)
/-- names told, found -/
def ixN (nm : Int → Int) (n w : Int) : Int := oi (fnd (fun i => decide (nm i = w)) n.toNat 0)
theorem t_indexOf {t o : Nat} {n x : Int} {Q : Int → St → Prop} (hs : shp t = (1, 6)) (n0 : 0 ≤ n) (n6 : n ≤ 6) (k : Q (ixN (σ t o) n x) σ) : P_X10_indexOf t o n x σ Q := by
  unfold P_X10_indexOf
  unfold ixN at k
  refine findF (F := fun n' i => P_X10_indexOf_L3 t o n x Q n' i σ) (N := n) (K0 := Q (-1) σ) (K := fun i => Q i σ) (p := fun i => decide (σ t o i = x)) (fun n' i i0 i1 => ⟨fun hp k => ?_, fun hp k => ?_⟩) (fun n' k => ?_) n.toNat 0 FU (Int.le_refl 0) (by omega) (FU_pos (by omega)) ?_
  · unfold P_X10_indexOf_L3
    rw [if_neg (by omega), hs]
    refine ⟨rfl, by decide, ?_⟩
    rw [if_neg (by show ¬ (6 : Int) ≤ i; omega), if_pos (lC_0.mpr (of_decide_eq_true hp))]
    exact ⟨rfl, i0, by show i < 6; omega, k⟩
  · unfold P_X10_indexOf_L3
    rw [if_neg (by omega), hs]
    refine ⟨rfl, by decide, ?_⟩
    rw [if_neg (by show ¬ (6 : Int) ≤ i; omega), if_neg (fun q => of_decide_eq_false hp (lC_0.mp q)), wi_id (by omega) (by omega)]
    exact ⟨rfl, i0, by show i < 6; omega, k⟩
  · unfold P_X10_indexOf_L3
    rw [if_pos (Int.le_refl _)]
    exact k
  · cases h : fnd (fun i => decide (σ t o i = x)) n.toNat 0 with
    | none => rw [h] at k; exact k
    | some j => rw [h] at k; exact k
/-- names as the class keeps them -/
def NmC (f nm : Int → Int) (n : Int) : Prop := ∀ i : Int, 0 ≤ i → i < n → f i = cvN 9 (nm i) ∧ 0 ≤ nm i ∧ nm i < 27 ^ 9
theorem ixN_cv {f nm : Int → Int} {n w : Int} (h : NmC f nm n) (w0 : 0 ≤ w) (w1 : w < 27 ^ 9) : ixN f n (cvN 9 w) = ixN nm n w := by
  unfold ixN
  congr 1
  refine fnd_congr _ _ (fun j j0 j1 => ?_)
  obtain ⟨h1, h2, h3⟩ := h j j0 (by omega)
  rw [h1]
  by_cases e : nm j = w
  · rw [e, decide_eq_true rfl, decide_eq_true rfl]
  · rw [decide_eq_false e, decide_eq_false (fun q => e (cvN_inj 9 _ _ h2 h3 w0 w1 q))]
theorem ixN_rng {nm : Int → Int} {n w : Int} : -1 ≤ ixN nm n w ∧ (ixN nm n w = -1 ∨ (0 ≤ ixN nm n w ∧ ixN nm n w < n)) := by
  unfold ixN
  cases h : fnd (fun i => decide (nm i = w)) n.toNat 0 with
  | none => exact ⟨Int.le_refl _, Or.inl rfl⟩
  | some j =>
    have := fnd_some h
    show -1 ≤ j ∧ (j = -1 ∨ (0 ≤ j ∧ j < n))
    omega
theorem tW_rng {y : Tp} {k : Int} (h : isM y k = true) : 0 ≤ tW y k ∧ tW y k < 27 ^ 9 := by
  unfold isM at h
  rw [Bool.and_eq_true] at h
  have h1 := wd_ok (of_decide_eq_true h.1)
  have e9 : (27 : Int) ^ 8 < 27 ^ 9 := by decide
  have h1 : 0 ≤ tW y k ∧ tW y k < 27 ^ 8 := h1
  omega
def tolG (y : Tp) (g k : Int) (nm : Int → Int) (n : Int) : Int := st (st g (isM y k) (fl y 1 k)) (decide (0 ≤ ixN nm n (tW y k))) (fl y 2 k)
theorem t_takeTold {y : Tp} {N g k n : Int} {t o : Nat} {nm : Int → Int} {Q : Int → St → Prop} (hW : WfT y) (h : RS y N g k σ) (hs : shp t = (1, 6)) (n0 : 0 ≤ n) (n6 : n ≤ 6) (hN : g = 0 → NmC (σ t o) nm n)
    (kk : ∀ r σ', Sm pkA σ σ' → RS y N (tolG y g k nm n) (k + 1) σ' → (tolG y g k nm n = 0 → r = ixN nm n (tW y k)) → Q r σ') : P_X10_takeTold t o n σ Q := by
  have hT := h.1
  have ha := h.2.2.1
  have hN1 := hT.1.2
  unfold P_X10_takeTold
  refine t_isName h (fun hn => ?_) (fun hn => ?_)
  · rw [if_neg one_no]
    refine ⟨ha.1, by omega, t_indexOf hs n0 n6 ?_⟩
    by_cases g0 : g = 0
    · have hm := hn g0
      have hw := tW_rng hm
      have e : σ 1103 0 (σ 10 0 5) = cvN 9 (tW y k) := by
        unfold isM at hm
        rw [Bool.and_eq_true] at hm
        have := h.2.2.2 g0
        rw [this]
        exact (hT.2.2.2 k (by omega) (by omega)).2.2.1 (of_decide_eq_true hm.1)
      rw [e, ixN_cv (hN g0) hw.1 hw.2]
      have hr := ixN_rng (nm := nm) (n := n) (w := tW y k)
      unfold tolG at kk
      rw [st_g hn, g0] at kk
      rw [g0] at h
      by_cases hx : ixN nm n (tW y k) = -1
      · rw [if_pos hx]
        rw [st_f (fun _ => decide_eq_false (by omega)), if_pos rfl] at kk
        refine t_wrong hW h (by decide) (by decide) (fun σ' s' h' => ?_)
        rw [if_pos rfl] at h'
        exact kk _ σ' s' h' (fun q => absurd q (fl_ne hW (by decide) (by decide)))
      · rw [if_neg hx]
        rw [st_g (fun _ => decide_eq_true (by omega))] at kk
        exact t_next h (fun _ => isM_nz hm) (fun σ' s' h' => kk _ σ' s' h' (fun _ => rfl))
    · have e : tolG y g k nm n = g := by unfold tolG; rw [st_ne g0, st_ne g0]
      rw [e] at kk
      split
      · refine t_wrong hW h (by decide) (by decide) (fun σ' s' h' => ?_)
        rw [if_neg g0] at h'
        exact kk _ σ' s' h' (fun q => absurd q g0)
      · exact t_next h (fun q => absurd q g0) (fun σ' s' h' => kk _ σ' s' h' (fun q => absurd q g0))
  · rw [if_pos rfl]
    refine t_wrong hW h (by decide) (by decide) (fun σ' s' h' => ?_)
    have hne : (if g = 0 then fl y 1 k else g) ≠ 0 := by
      split
      · exact fl_ne hW (by decide) (by decide)
      · assumption
    have e : tolG y g k nm n = if g = 0 then fl y 1 k else g := by
      unfold tolG
      rw [st_f hn, st_ne hne]
    rw [e] at kk
    exact kk _ σ' s' h' (fun q => absurd q hne)
def newG (y : Tp) (g k : Int) (nm : Int → Int) (n : Int) (bn : Int → Int) (m : Int) : Int := st (st g (isM y k) (fl y 1 k)) (decide (ixN nm n (tW y k) < 0) && decide (ixN bn m (tW y k) < 0)) (fl y 3 k)
theorem newG_0 {y : Tp} (hW : WfT y) {g k n m : Int} {nm bn : Int → Int} (h : newG y g k nm n bn m = 0) : g = 0 ∧ isM y k = true := by
  have h1 := st_0 (fl_ne hW (by decide) (by decide)) h
  exact st_0 (fl_ne hW (by decide) (by decide)) h1.1
theorem t_takeNewName {y : Tp} {N g k n m : Int} {nm bn : Int → Int} {Q : Int → St → Prop} (hW : WfT y) (h : RS y N g k σ) (hc : σ 8 1 10 = n) (hb : σ 8 1 11 = m) (n0 : 0 ≤ n) (n6 : n ≤ 6) (m0 : 0 ≤ m) (m6 : m ≤ 6) (hN : g = 0 → NmC (σ 902 1) nm n) (hM : g = 0 → NmC (σ 907 1) bn m)
    (kk : ∀ r σ', Sm pkA σ σ' → RS y N (newG y g k nm n bn m) (k + 1) σ' → (newG y g k nm n bn m = 0 → r = cvN 9 (tW y k)) → Q r σ') : P_X6_takeNewName 1 σ Q := by
  have hT := h.1
  have ha := h.2.2.1
  have hN1 := hT.1.2
  have tail : ∀ (x : Int) (τ : St), Sm pkA σ τ → RS y N (newG y g k nm n bn m) (if newG y g k nm n bn m = 0 then k else k + 1) τ → (newG y g k nm n bn m = 0 → x = cvN 9 (tW y k)) → P_X6_takeNewName_J45 x Q τ := by
    intro x τ s' h' hx
    unfold P_X6_takeNewName_J45
    by_cases hz : newG y g k nm n bn m = 0
    · rw [if_pos hz] at h'
      exact t_next h' (fun _ => isM_nz (newG_0 hW hz).2) (fun σ2 s2 h2 => kk x σ2 (s'.tr s2) h2 hx)
    · rw [if_neg hz] at h'
      exact t_next h' (fun q => absurd q hz) (fun σ2 s2 h2 => kk x σ2 (s'.tr s2) (RS_k hz h2) hx)
  unfold P_X6_takeNewName P_X10_value
  refine ⟨ha.1, by omega, ?_⟩
  refine t_isName h (fun hn => ?_) (fun hn => ?_)
  · rw [if_neg one_no]
    unfold P_X8_isNameTold P_X8_isNameTold_J32
    rw [hc]
    by_cases g0 : g = 0
    · have hm := hn g0
      have hw := tW_rng hm
      have e : σ 1103 0 (σ 10 0 5) = cvN 9 (tW y k) := by
        unfold isM at hm
        rw [Bool.and_eq_true] at hm
        have := h.2.2.2 g0
        rw [this]
        exact (hT.2.2.2 k (by omega) (by omega)).2.2.1 (of_decide_eq_true hm.1)
      have hr := ixN_rng (nm := nm) (n := n) (w := tW y k)
      have hr2 := ixN_rng (nm := bn) (n := m) (w := tW y k)
      have bad : (decide (ixN nm n (tW y k) < 0) && decide (ixN bn m (tW y k) < 0)) = false → P_X10_wrong 3 σ (fun σ_8 => P_X6_takeNewName_J45 (σ 1103 0 (σ 10 0 5)) Q σ_8) := by
        intro hf
        have en : newG y g k nm n bn m = fl y 3 k := by
          unfold newG
          rw [st_g hn, st_f (fun _ => hf), if_pos g0]
        refine t_wrong hW h (by decide) (by decide) (fun σ' s' h' => ?_)
        rw [if_pos g0] at h'
        have hne : fl y 3 k ≠ 0 := fl_ne hW (by decide) (by decide)
        refine tail _ σ' s' ?_ (fun q => ?_)
        · rw [en, if_neg hne]; exact h'
        · rw [en] at q; exact absurd q hne
      refine t_indexOf rfl n0 n6 ?_
      rw [e, ixN_cv (hN g0) hw.1 hw.2]
      rw [e] at bad
      by_cases hx : ixN nm n (tW y k) = -1
      · rw [if_pos hx, hb]
        refine t_indexOf rfl m0 m6 ?_
        rw [ixN_cv (hM g0) hw.1 hw.2]
        by_cases hx2 : ixN bn m (tW y k) = -1
        · rw [if_pos hx2]
          dsimp only
          rw [if_pos rfl]
          have en : newG y g k nm n bn m = 0 := by
            unfold newG
            rw [st_g hn, st_g (fun _ => by rw [hx, hx2]; rfl), g0]
          refine tail _ σ Sm.rf ?_ (fun _ => rfl)
          rw [en, if_pos rfl, ← g0]
          exact h
        · rw [if_neg hx2]
          dsimp only
          rw [if_neg one_no]
          exact bad (by rw [decide_eq_false (show ¬ ixN bn m (tW y k) < 0 by omega), Bool.and_false])
      · rw [if_neg hx]
        dsimp only
        rw [if_neg one_no]
        exact bad (by rw [decide_eq_false (show ¬ ixN nm n (tW y k) < 0 by omega), Bool.false_and])
    · have en : newG y g k nm n bn m = g := by unfold newG; rw [st_ne g0, st_ne g0]
      have fin : ∀ x : Int, P_X6_takeNewName_J45 x Q σ := fun x => tail x σ Sm.rf (by rw [en, if_neg g0]; exact RS_k g0 h) (fun q => by rw [en] at q; exact absurd q g0)
      have bad : ∀ x : Int, P_X10_wrong 3 σ (fun σ_8 => P_X6_takeNewName_J45 x Q σ_8) := fun x => t_wrong hW h (by decide) (by decide) (fun σ' s' h' => by
        rw [if_neg g0] at h'
        exact tail x σ' s' (by rw [en, if_neg g0]; exact RS_k g0 h') (fun q => by rw [en] at q; exact absurd q g0))
      refine t_indexOf rfl n0 n6 ?_
      split
      · rw [hb]
        refine t_indexOf rfl m0 m6 ?_
        split
        · dsimp only
          rw [if_pos rfl]
          exact fin _
        · dsimp only
          rw [if_neg one_no]
          exact bad _
      · dsimp only
        rw [if_neg one_no]
        exact bad _
  · rw [if_pos rfl]
    have hne : (if g = 0 then fl y 1 k else g) ≠ 0 := by
      split
      · exact fl_ne hW (by decide) (by decide)
      · assumption
    have en : newG y g k nm n bn m = if g = 0 then fl y 1 k else g := by
      unfold newG
      rw [st_f hn, st_ne hne]
    refine t_wrong hW h (by decide) (by decide) (fun σ' s' h' => ?_)
    refine tail _ σ' s' ?_ (fun q => ?_)
    · rw [en, if_neg hne]; exact h'
    · rw [en] at q; exact absurd q hne
def knW (y : Tp) (k : Int) : Int := if isW y k 10973 then 1 else if isW y k 335053202 then 2 else if isW y k 70481 then 3 else if isW y k 8740238 then 0 else -1
def kinG (y : Tp) (g k : Int) : Int := st g (decide (0 ≤ knW y k)) (fl y 1 k)
theorem t_takeKind {y : Tp} {N g k : Int} {Q : Int → St → Prop} (hW : WfT y) (h : RS y N g k σ)
    (kk : ∀ r σ', Sm pkA σ σ' → RS y N (kinG y g k) (k + 1) σ' → (kinG y g k = 0 → r = knW y k) → Q r σ') : P_X6_takeKind σ Q := by
  -- a kind found
  have yes : ∀ x c : Int, (g = 0 → isW y k c = true) → (g = 0 → knW y k = x) → 0 ≤ x → P_X6_takeKind_J73 x Q σ := by
    intro x c hw hx x0
    have e : kinG y g k = g := st_g (fun g0 => decide_eq_true (by rw [hx g0]; exact x0))
    unfold P_X6_takeKind_J73
    refine t_next h (fun g0 => isW_nz (hw g0)) (fun σ2 s2 h2 => kk x σ2 s2 (by rw [e]; exact h2) (fun q => ?_))
    rw [e] at q
    exact (hx q).symm
  unfold P_X6_takeKind
  refine t_isWord h (by decide) (by decide) (by decide) (fun w6 => ?_) (fun w6 => ?_)
  · rw [if_neg one_no]
    refine yes 1 10973 w6 (fun g0 => ?_) (by decide)
    unfold knW
    rw [if_pos (show isW y k 10973 = true from w6 g0)]
  · rw [if_pos rfl]
    refine t_isWord h (by decide) (by decide) (by decide) (fun w7 => ?_) (fun w7 => ?_)
    · rw [if_neg one_no]
      refine yes 2 335053202 w7 (fun g0 => ?_) (by decide)
      have q6 : isW y k 10973 = false := w6 g0
      unfold knW
      rw [q6, if_neg (by decide), if_pos (show isW y k 335053202 = true from w7 g0)]
    · rw [if_pos rfl]
      refine t_isWord h (by decide) (by decide) (by decide) (fun w8 => ?_) (fun w8 => ?_)
      · rw [if_neg one_no]
        refine yes 3 70481 w8 (fun g0 => ?_) (by decide)
        have q6 : isW y k 10973 = false := w6 g0
        have q7 : isW y k 335053202 = false := w7 g0
        unfold knW
        rw [q6, q7, if_neg (by decide), if_neg (by decide), if_pos (show isW y k 70481 = true from w8 g0)]
      · rw [if_pos rfl]
        refine t_isWord h (by decide) (by decide) (by decide) (fun w9 => ?_) (fun w9 => ?_)
        · rw [if_neg one_no]
          refine yes 0 8740238 w9 (fun g0 => ?_) (by decide)
          have q6 : isW y k 10973 = false := w6 g0
          have q7 : isW y k 335053202 = false := w7 g0
          have q8 : isW y k 70481 = false := w8 g0
          unfold knW
          rw [q6, q7, q8, if_neg (by decide), if_neg (by decide), if_neg (by decide), if_pos (show isW y k 8740238 = true from w9 g0)]
        · rw [if_pos rfl]
          have hz : g = 0 → decide (0 ≤ knW y k) = false := fun g0 => by
            have q6 : isW y k 10973 = false := w6 g0
            have q7 : isW y k 335053202 = false := w7 g0
            have q8 : isW y k 70481 = false := w8 g0
            have q9 : isW y k 8740238 = false := w9 g0
            unfold knW
            rw [q6, q7, q8, q9]
            rfl
          have e : kinG y g k = if g = 0 then fl y 1 k else g := st_f hz
          have hne : (if g = 0 then fl y 1 k else g) ≠ 0 := by
            split
            · exact fl_ne hW (by decide) (by decide)
            · assumption
          refine t_wrong hW h (by decide) (by decide) (fun σ' s' h' => ?_)
          unfold P_X6_takeKind_J73
          exact t_next h' (fun q => absurd q hne) (fun σ2 s2 h2 => kk 0 σ2 (s'.tr s2) (by rw [e]; exact RS_k hne h2) (fun q => by rw [e] at q; exact absurd q hne))
def plT (pl : Int → Int) (n x : Int) : Bool := (fnd (fun i => decide (pl i = x)) n.toNat 0).isSome
theorem t_isPlaceTold {x n : Int} {Q : Int → St → Prop} (hc : σ 8 1 10 = n) (n0 : 0 ≤ n) (n6 : n ≤ 6) (k1 : plT (σ 900 1) n x = true → Q 1 σ) (k0 : plT (σ 900 1) n x = false → Q 0 σ) : P_X8_isPlaceTold 1 x σ Q := by
  unfold P_X8_isPlaceTold
  unfold plT at k1 k0
  refine findF (F := fun n' i => P_X8_isPlaceTold_L2 1 x Q n' i σ) (N := n) (K0 := Q 0 σ) (K := fun _ => Q 1 σ) (p := fun i => decide (σ 900 1 i = x)) (fun n' i i0 i1 => ⟨fun hp k => ?_, fun hp k => ?_⟩) (fun n' k => ?_) n.toNat 0 FU (Int.le_refl 0) (by omega) (FU_pos (by omega)) ?_
  · unfold P_X8_isPlaceTold_L2
    rw [hc, if_neg (by omega), if_pos (of_decide_eq_true hp)]
    exact ⟨i0, by omega, k⟩
  · unfold P_X8_isPlaceTold_L2
    rw [hc, if_neg (by omega), if_neg (of_decide_eq_false hp), wi_id (by omega) (by omega)]
    exact ⟨i0, by omega, k⟩
  · unfold P_X8_isPlaceTold_L2
    rw [hc, if_pos (Int.le_refl _)]
    exact k
  · cases h : fnd (fun i => decide (σ 900 1 i = x)) n.toNat 0 with
    | none => exact k0 (by rw [h]; rfl)
    | some j => exact k1 (by rw [h]; rfl)
end
