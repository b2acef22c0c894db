/-! 97.b: a shop as it is told -/
/-- fields (0: counters, balls, damp days, desk, desk told, law told), names 1, places 2, gaps 3, ball names 4, kinds 5, sizes 6, homes 7, damp 8; the law -/
abbrev Dr : Type := (Nat → Int → Int) × PR
def du (f : Nat → Int → Int) (t : Nat) (i v : Int) : Nat → Int → Int := fun t' i' => if t' = t ∧ i' = i then v else f t' i'
theorem du_at {f : Nat → Int → Int} {t : Nat} {i v : Int} : du f t i v t i = v := if_pos ⟨rfl, rfl⟩
theorem du_row {f : Nat → Int → Int} {t : Nat} {i v : Int} : du f t i v t = upr (f t) i v := by
  funext x
  unfold du upr
  by_cases e : x = i
  · rw [if_pos ⟨rfl, e⟩, if_pos e]
  · rw [if_neg (fun h => e h.2), if_neg e]
theorem du_oth {f : Nat → Int → Int} {t t' : Nat} {i v : Int} (h : Nat.beq t' t = false) : du f t i v t' = f t' := by
  funext x
  unfold du
  rw [if_neg]
  rintro ⟨rfl, -⟩
  rw [Nat.beq_refl] at h
  cases h
def DrC (σ : St) (d : Dr) : Prop :=
  (σ 8 1 10 = d.1 0 0 ∧ σ 8 1 11 = d.1 0 1 ∧ σ 8 1 12 = d.1 0 2 ∧ σ 8 1 13 = d.1 0 3 ∧ σ 6 0 1 = d.1 0 4 ∧ σ 6 0 2 = d.1 0 5) ∧
  NmC (σ 902 1) (d.1 1) (d.1 0 0) ∧ (∀ i : Int, 0 ≤ i → i < d.1 0 0 → σ 900 1 i = d.1 2 i ∧ σ 901 1 i = d.1 3 i ∧ 0 ≤ σ 903 1 i ∧ σ 903 1 i < d.1 0 0) ∧ RaC σ 1 ∧
  NmC (σ 907 1) (d.1 4) (d.1 0 1) ∧ (∀ b : Int, 0 ≤ b → b < d.1 0 1 → σ 904 1 b = d.1 5 b ∧ σ 905 1 b = d.1 6 b ∧ σ 906 1 b = d.1 7 b) ∧
  (∀ i : Int, 0 ≤ i → i < d.1 0 2 → σ 908 1 i = d.1 8 i) ∧ LawS σ d.2.2.2.1
/-- a draft told so far is sound -/
def WfD (y : Tp) (d : Dr) : Prop :=
  (0 ≤ d.1 0 0 ∧ d.1 0 0 ≤ 6) ∧ (0 ≤ d.1 0 1 ∧ d.1 0 1 ≤ 6) ∧ (0 ≤ d.1 0 2 ∧ d.1 0 2 ≤ 12) ∧ (1 ≤ d.1 0 3 ∧ d.1 0 3 ≤ 9) ∧
  (∀ i : Int, 0 ≤ i → i < d.1 0 0 → (1 ≤ d.1 2 i ∧ d.1 2 i ≤ 20) ∧ (0 ≤ d.1 3 i ∧ d.1 3 i ≤ 60)) ∧ (∀ i j : Int, 0 ≤ i → i < j → j < d.1 0 0 → d.1 2 i ≠ d.1 2 j) ∧
  (∀ b : Int, 0 ≤ b → b < d.1 0 1 → (0 ≤ d.1 5 b ∧ d.1 5 b ≤ 3) ∧ (1 ≤ d.1 6 b ∧ d.1 6 b ≤ 60) ∧ (0 ≤ d.1 7 b ∧ d.1 7 b < d.1 0 0)) ∧
  (∀ i : Int, 0 ≤ i → i < d.1 0 2 → 0 ≤ d.1 8 i ∧ d.1 8 i ≤ 9) ∧
  ((d.1 0 5 = 0 ∧ d.2 = pF 0 0) ∨ (d.1 0 5 = 1 ∧ ∃ k : Int, 0 ≤ k ∧ d.2 = exW y k ∧ (exW y k).1 = 0 ∧ (exW y k).2.1 ≤ 1000))
def CS (y : Tp) (N g k : Int) (d : Dr) (σ : St) : Prop := RS y N g k σ ∧ DS σ ∧ (g = 0 → DrC σ d)
def drT : List Nat := [8, 900, 901, 902, 903, 904, 905, 906, 907, 908, 2, 300, 301]
theorem DrC_keep {A : List Reg} {σ τ : St} {d : Dr} (h : Sm A σ τ) (hn : noT A drT 1 = true) (h1 : inR A 6 0 1 = false) (h2 : inR A 6 0 2 = false) (c : DrC σ d) : DrC τ d := by
  obtain ⟨c1, c2, c3, c4, c5, c6, c7, c8⟩ := c
  have hL : LawS τ d.2.2.2.1 := by
    unfold LawS at c8 ⊢
    rw [noT_row h hn (t := 2) (by decide), noT_row h hn (t := 300) (by decide), noT_row h hn (t := 301) (by decide)]
    exact c8
  unfold DrC
  unfold RaC at c4 ⊢
  rw [h 6 0 1 h1, h 6 0 2 h2, noT_row h hn (t := 8) (by decide), noT_row h hn (t := 900) (by decide), noT_row h hn (t := 901) (by decide), noT_row h hn (t := 902) (by decide), noT_row h hn (t := 903) (by decide), noT_row h hn (t := 904) (by decide), noT_row h hn (t := 905) (by decide), noT_row h hn (t := 906) (by decide), noT_row h hn (t := 907) (by decide), noT_row h hn (t := 908) (by decide)]
  exact ⟨c1, c2, c3, c4, c5, c6, c7, hL⟩
section
variable {σ : St} {y : Tp} {N g k : Int} {d : Dr}
theorem CS_pk {σ' : St} {g' k' : Int} (h : CS y N g k d σ) (s : Sm pkA σ σ') (h' : RS y N g' k' σ') (hg : g' = 0 → g = 0) : CS y N g' k' d σ' :=
  ⟨h', DS_keep s rfl rfl rfl h.2.1, fun q => DrC_keep s rfl rfl rfl (h.2.2 (hg q))⟩
theorem st_z {b : Bool} {f : Int} (hf : f ≠ 0) (h : st g b f = 0) : g = 0 := (st_0 hf h).1
theorem c_next {Q : St → Prop} (h : CS y N g k d σ) (hz : g = 0 → tK y k ≠ 0) (kk : ∀ σ', Sm pkA σ σ' → CS y N g (k + 1) d σ' → Q σ') : P_X10_next σ Q :=
  t_next h.1 hz (fun σ' s' h' => kk σ' s' (CS_pk h s' h' id))
theorem c_word {o : Nat} {Q : St → Prop} (hW : WfT y) (h : CS y N g k d σ) (ho : o < 27) (h0 : o ≠ 0) (h2 : o ≠ 2)
    (kk : ∀ σ', Sm pkA σ σ' → CS y N (st g (isW y k (cw o)) (fl y 1 k)) (k + 1) d σ' → Q σ') : P_X10_takeWord o σ Q :=
  t_takeWord hW h.1 ho h0 h2 (fun σ' s' h' => kk σ' s' (CS_pk h s' h' (st_z (fl_ne hW (by decide) (by decide)))))
theorem c_sign {c : Int} {Q : St → Prop} (hW : WfT y) (h : CS y N g k d σ)
    (kk : ∀ σ', Sm pkA σ σ' → CS y N (st g (isS y k c) (fl y 1 k)) (k + 1) d σ' → Q σ') : P_X10_takeSign c σ Q :=
  t_takeSign hW h.1 (fun σ' s' h' => kk σ' s' (CS_pk h s' h' (st_z (fl_ne hW (by decide) (by decide)))))
theorem c_numHere {a b : Int} {Q : Int → St → Prop} (hW : WfT y) (h : CS y N g k d σ)
    (kk : ∀ r σ', Sm pkA σ σ' → CS y N (numG y g k a b) k d σ' → (numG y g k a b = 0 → r = tN y k) → Q r σ') : P_X10_numberHere a b σ Q :=
  t_numberHere hW h.1 (fun r σ' s' h' hr => kk r σ' s' (CS_pk h s' h' (fun q => (numG_0 hW q).1)) hr)
theorem c_num {a b : Int} {Q : Int → St → Prop} (hW : WfT y) (h : CS y N g k d σ)
    (kk : ∀ r σ', Sm pkA σ σ' → CS y N (numG y g k a b) (k + 1) d σ' → (numG y g k a b = 0 → r = tN y k) → Q r σ') : P_X10_takeNumber a b σ Q :=
  t_takeNumber hW h.1 (fun r σ' s' h' hr => kk r σ' s' (CS_pk h s' h' (fun q => (numG_0 hW q).1)) hr)
theorem c_if {P : Prop} [Decidable P] {b : Bool} {c : Int} {J : St → Prop} (hW : WfT y) (h : CS y N g k d σ) (c0 : 1 ≤ c) (c1 : c ≤ 5) (hb : g = 0 → (P ↔ b = true))
    (kk : ∀ σ', Sm pkA σ σ' → CS y N (st g b (fl y c k)) k d σ' → J σ') : if P then J σ else P_X10_wrong c σ J := by
  by_cases g0 : g = 0
  · by_cases hP : P
    · rw [if_pos hP]
      have e : st g b (fl y c k) = g := st_g (fun q => (hb q).mp hP)
      rw [e] at kk
      exact kk σ Sm.rf h
    · rw [if_neg hP]
      have hbf : b = false := by
        cases hbb : b
        · rfl
        · exact absurd ((hb g0).mpr hbb) hP
      have e : st g b (fl y c k) = if g = 0 then fl y c k else g := st_f (fun _ => hbf)
      rw [e] at kk
      refine t_wrong hW h.1 c0 c1 (fun σ' s' h' => kk σ' s' (CS_pk h s' (RS_k ?_ h') (fun q => g0)))
      rw [if_pos g0]
      exact fl_ne hW c0 c1
  · have e : st g b (fl y c k) = g := st_ne g0
    rw [e] at kk
    split
    · exact kk σ Sm.rf h
    · refine t_wrong hW h.1 c0 c1 (fun σ' s' h' => ?_)
      rw [if_neg g0] at h'
      exact kk σ' s' (CS_pk h s' (RS_k g0 h') id)
theorem c_kind {Q : Int → St → Prop} (hW : WfT y) (h : CS y N g k d σ)
    (kk : ∀ r σ', Sm pkA σ σ' → CS y N (kinG y g k) (k + 1) d σ' → (kinG y g k = 0 → r = knW y k) → Q r σ') : P_X6_takeKind σ Q :=
  t_takeKind hW h.1 (fun r σ' s' h' hr => kk r σ' s' (CS_pk h s' h' (st_z (fl_ne hW (by decide) (by decide)))) hr)
theorem tolG_z {nm : Int → Int} {n : Int} (hW : WfT y) (h : tolG y g k nm n = 0) : g = 0 := st_z (fl_ne hW (by decide) (by decide)) (st_z (fl_ne hW (by decide) (by decide)) h)
theorem tolG_ne {nm : Int → Int} {n : Int} (g0 : g ≠ 0) : tolG y g k nm n = g := by unfold tolG; rw [st_ne g0, st_ne g0]
theorem newG_ne {nm bn : Int → Int} {n m : Int} (g0 : g ≠ 0) : newG y g k nm n bn m = g := by unfold newG; rw [st_ne g0, st_ne g0]
theorem numG_ne {a b : Int} (g0 : g ≠ 0) : numG y g k a b = g := by unfold numG; rw [st_ne g0, st_ne g0]
theorem kinG_ne (g0 : g ≠ 0) : kinG y g k = g := by unfold kinG; rw [st_ne g0]
theorem c_new {Q : Int → St → Prop} (hW : WfT y) (h : CS y N g k d σ)
    (kk : ∀ r σ', Sm pkA σ σ' → CS y N (newG y g k (d.1 1) (d.1 0 0) (d.1 4) (d.1 0 1)) (k + 1) d σ' → (newG y g k (d.1 1) (d.1 0 0) (d.1 4) (d.1 0 1) = 0 → r = cvN 9 (tW y k) ∧ isM y k = true) → Q r σ') : P_X6_takeNewName 1 σ Q := by
  obtain ⟨⟨n0, n6⟩, ⟨m0, m6⟩, -⟩ := id h.2.1
  by_cases g0 : g = 0
  · have hD := h.2.2 g0
    refine t_takeNewName hW h.1 hD.1.1 hD.1.2.1 (by rw [← hD.1.1]; exact n0) (by rw [← hD.1.1]; exact n6) (by rw [← hD.1.2.1]; exact m0) (by rw [← hD.1.2.1]; exact m6) (fun _ => hD.2.1) (fun _ => hD.2.2.2.2.1) (fun r σ' s' h' hr => kk r σ' s' (CS_pk h s' h' (fun q => (newG_0 hW q).1)) (fun q => ⟨hr q, (newG_0 hW q).2⟩))
  · have e := newG_ne (y := y) (k := k) (nm := d.1 1) (n := d.1 0 0) (bn := d.1 4) (m := d.1 0 1) g0
    rw [e] at kk
    refine t_takeNewName (nm := d.1 1) (bn := d.1 4) hW h.1 rfl rfl n0 n6 m0 m6 (fun q => absurd q g0) (fun q => absurd q g0) (fun r σ' s' h' hr => ?_)
    rw [newG_ne g0] at h'
    exact kk r σ' s' (CS_pk h s' h' id) (fun q => absurd q g0)
theorem c_told {Q : Int → St → Prop} (hW : WfT y) (h : CS y N g k d σ)
    (kk : ∀ r σ', Sm pkA σ σ' → CS y N (tolG y g k (d.1 1) (d.1 0 0)) (k + 1) d σ' → (tolG y g k (d.1 1) (d.1 0 0) = 0 → r = ixN (d.1 1) (d.1 0 0) (tW y k)) → Q r σ') : P_X10_takeTold 902 1 (σ 8 1 10) σ Q := by
  obtain ⟨⟨n0, n6⟩, ⟨m0, m6⟩, -⟩ := id h.2.1
  by_cases g0 : g = 0
  · have hD := h.2.2 g0
    rw [hD.1.1] at n0 n6 ⊢
    exact t_takeTold hW h.1 rfl n0 n6 (fun _ => hD.2.1) (fun r σ' s' h' hr => kk r σ' s' (CS_pk h s' h' (tolG_z hW)) hr)
  · have e := tolG_ne (y := y) (k := k) (nm := d.1 1) (n := d.1 0 0) g0
    rw [e] at kk
    refine t_takeTold (nm := d.1 1) hW h.1 rfl n0 n6 (fun q => absurd q g0) (fun r σ' s' h' hr => ?_)
    rw [tolG_ne g0] at h'
    exact kk r σ' s' (CS_pk h s' h' id) (fun q => absurd q g0)
/-! the rail of the draft -/
def raA : List Reg := [(903, 1, none)]
theorem t_putOnRail {c : Int} {Q : St → Prop} (c0 : 0 ≤ c) (c6 : c < 6) (hr : ∀ i : Int, 0 ≤ i → i < c → 0 ≤ σ 903 1 i ∧ σ 903 1 i < 6)
    (kk : ∀ p σ', 0 ≤ p → p ≤ c → Sm raA σ σ' → (∀ i : Int, 0 ≤ i → i ≤ c → σ' 903 1 i = if i < p then σ 903 1 i else if i = p then c else σ 903 1 (i - 1)) →
      (0 < p → σ 900 1 (σ 903 1 (p - 1)) ≤ σ 900 1 c) → (∀ i : Int, p ≤ i → i < c → σ 900 1 c < σ 900 1 (σ 903 1 i)) → Q σ') : P_X8_putOnRail 1 c σ Q := by
  unfold P_X8_putOnRail
  suffices H : ∀ (n : Nat) (p : Int) (τ : St), 0 ≤ p → p ≤ c → p < n → Sm raA σ τ → (∀ i : Int, 0 ≤ i → i ≤ c → τ 903 1 i = if i ≤ p then (if i = c then τ 903 1 i else σ 903 1 i) else σ 903 1 (i - 1)) → (∀ i : Int, p ≤ i → i < c → σ 900 1 c < σ 900 1 (σ 903 1 i)) → P_X8_putOnRail_L2 1 c Q n p τ from
    H FU c σ c0 (Int.le_refl c) (by unfold FU; omega) Sm.rf (fun i i0 i1 => by rw [if_pos i1]; split <;> rfl) (fun i i0 i1 => by omega)
  intro n
  induction n with
  | zero => intro p τ p0 p1 hn; omega
  | succ n ih =>
    intro p τ p0 p1 hn hs hrow hlt
    have e9 : τ 900 1 = σ 900 1 := hs.row rfl
    have fin : (0 < p → σ 900 1 (σ 903 1 (p - 1)) ≤ σ 900 1 c) → P_X8_putOnRail_J48 1 c p (P_X8_putOnRail_L2 1 c Q n) Q τ := by
      intro hp
      unfold P_X8_putOnRail_J48
      refine ⟨p0, by omega, kk p _ p0 p1 (hs.tr (Sm_up Sm.rf rfl)) (fun i i0 i1 => ?_) hp hlt⟩
      rw [up_row]
      by_cases e : i = p
      · rw [e, upr_at, if_neg (by omega), if_pos rfl]
      · rw [upr_ne e, hrow i i0 i1, if_neg e]
        by_cases h1 : i < p
        · rw [if_pos h1, if_pos (by omega), if_neg (by omega)]
        · rw [if_neg h1, if_neg (by omega)]
    unfold P_X8_putOnRail_L2
    by_cases h0 : p ≤ 0
    · rw [if_pos h0]
      exact fin (fun q => by omega)
    · rw [if_neg h0, wi_id (z := p - 1) (by omega) (by omega), wi_id (z := p + -1) (by omega) (by omega)]
      have er : τ 903 1 (p - 1) = σ 903 1 (p - 1) := by
        rw [hrow (p - 1) (by omega) (by omega), if_pos (by omega), if_neg (by omega)]
      have hq := hr (p - 1) (by omega) (by omega)
      rw [er, e9]
      refine ⟨by omega, by omega, hq.1, hq.2, c0, c6, ?_⟩
      by_cases h1 : σ 900 1 (σ 903 1 (p - 1)) ≤ σ 900 1 c
      · rw [if_pos h1]
        exact fin (fun _ => h1)
      · rw [if_neg h1]
        refine ⟨by omega, by omega, p0, by omega, ih (p - 1) _ (by omega) (by omega) (by omega) (hs.tr (Sm_up Sm.rf rfl)) (fun i i0 i1 => ?_) (fun i i0 i1 => ?_)⟩
        · rw [up_row]
          by_cases e : i = p
          · rw [e, upr_at, if_neg (by omega)]
          · rw [upr_ne e, hrow i i0 i1]
            by_cases h2 : i ≤ p - 1
            · rw [if_pos h2, if_pos (by omega)]
              rw [if_neg (by omega), if_neg (by omega)]
            · rw [if_neg h2, if_neg (by omega)]
        · by_cases e : i = p - 1
          · rw [e]; omega
          · exact hlt i (by omega) i1
end
