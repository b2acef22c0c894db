/-! 82: marks -/
def lnT (o : Nat) : List Reg := [(3, o, none), (400, o, none), (401, o, none), (402, o, none)]
def seT (o : Nat) : List Reg := [(7, o, none), (800, o, none), (801, o, none), (802, o, none)]
section
variable {n m dk : Int} {z : Ab} {σ : St}
theorem up_io {σ : St} {t i t' i' : Nat} {x v y : Int} (h : i' ≠ i) : up σ t i x v t' i' y = σ t' i' y := if_neg (fun e => h e.2.1)
theorem t_X3_take {o0 o1 : Nat} {l : Ln} {Q : St → Prop} (h : LnC σ o1 l) (hw : 0 ≤ l.1 ∧ l.1 ≤ 40) (k : ∀ σ', Sm (lnT o0) σ σ' → LnC σ' o0 l → Q σ') : P_X3_take o0 o1 σ Q := by
  obtain ⟨h1, h2⟩ := h
  unfold P_X3_take
  simp only [cp_nt (a := 3) (t' := 400) rfl, cp_nt (a := 3) (t' := 401) rfl, cp_nt (a := 3) (t' := 402) rfl, up_at, h1]
  refine ⟨hw.1, by omega, by omega, hw.1, by omega, by omega, hw.1, by omega, by omega, k _ ?_ ⟨?_, fun j j0 j1 => ⟨?_, ?_, ?_⟩⟩⟩
  · refine Sm_cp (Sm_cp (Sm_cp (Sm_up Sm.rf (inm ?_)) ?_) ?_) ?_ <;> (unfold lnT; simp)
  · rw [cp_nt rfl, cp_nt rfl, cp_nt rfl, up_at]
  · rw [cp_nt rfl, cp_nt rfl, cp_at j0 j1, up_nt rfl]
    exact (h2 j j0 j1).1
  · rw [cp_nt rfl, cp_at j0 j1, cp_nt rfl, up_nt rfl]
    exact (h2 j j0 j1).2.1
  · rw [cp_at j0 j1, cp_nt rfl, cp_nt rfl, up_nt rfl]
    exact (h2 j j0 j1).2.2
theorem t_X7_take {o0 o1 : Nat} {y : Sn} {Q : St → Prop} (hne : o1 ≠ o0) (h : SeC σ o1 y) (hw : WfS n y) (k : ∀ σ', Sm (seT o0) σ σ' → SeC σ' o0 y → Q σ') : P_X7_take o0 o1 σ Q := by
  obtain ⟨h1, h2⟩ := h
  obtain ⟨⟨w0, w8⟩, w⟩ := hw
  have i7 : (7, o0, none) ∈ seT o0 := by unfold seT; simp
  have i0 : (800, o0, none) ∈ seT o0 := by unfold seT; simp
  have i1 : (801, o0, none) ∈ seT o0 := by unfold seT; simp
  have i2 : (802, o0, none) ∈ seT o0 := by unfold seT; simp
  unfold P_X7_take
  rw [h1]
  refine loopI (X := St) (F := fun n' i τ => P_X7_take_L10 o0 o1 Q n' i τ) (N := y.1) (fun i τ => Sm (seT o0) σ τ ∧ τ 7 o0 3 = y.1 ∧ (∀ j : Int, 0 ≤ j → j < y.1 → τ 800 o1 j = y.2.1 j ∧ τ 801 o1 j = y.2.2.1 j ∧ τ 802 o1 j = y.2.2.2 j) ∧
    ∀ j : Int, 0 ≤ j → j < i → τ 800 o0 j = y.2.1 j ∧ τ 801 o0 j = y.2.2.1 j ∧ τ 802 o0 j = y.2.2.2 j) ?_ ?_ y.1.toNat 0 _ FU (Int.le_refl 0) (by omega) (FU_pos (by omega)) ⟨Sm_up Sm.rf (inm i7), up_at, fun j j0 j1 => ?_, fun j j0 j1 => by omega⟩
  · rintro n' i τ i0' i1' ⟨hs, hc, ho, hr⟩ k'
    obtain ⟨a1, a2, a3⟩ := ho i i0' i1'
    unfold P_X7_take_L10
    simp only [up_nt (t' := 801) (t := 800) rfl, up_nt (t' := 802) (t := 801) rfl, up_nt (t' := 802) (t := 800) rfl, hc, a1, a2, a3]
    rw [if_neg (by omega), wi_id (z := i + 1) (by omega) (by omega)]
    refine ⟨i0', by omega, i0', by omega, i0', by omega, i0', by omega, i0', by omega, i0', by omega, (w i i0' i1').2.2, k' _ ⟨Sm_up (Sm_up (Sm_up hs (inm i0)) (inm i1)) (inm i2), ?_, fun j j0 j1 => ?_, fun j j0 j1 => ?_⟩⟩
    · rw [up_nt rfl, up_nt rfl, up_nt rfl]; exact hc
    · simp only [up_io (i' := o1) (i := o0) hne]
      exact ho j j0 j1
    · by_cases e : j = i
      · subst e
        refine ⟨?_, ?_, up_at⟩
        · rw [up_nt rfl, up_nt rfl, up_at]
        · rw [up_nt rfl, up_at]
      · obtain ⟨q1, q2, q3⟩ := hr j j0 (by omega)
        refine ⟨?_, ?_, ?_⟩
        · rw [up_nt rfl, up_nt rfl, up_nx e]; exact q1
        · rw [up_nt rfl, up_nx e, up_nt rfl]; exact q2
        · rw [up_nx e, up_nt rfl, up_nt rfl]; exact q3
  · rintro n' τ ⟨hs, hc, ho, hr⟩
    unfold P_X7_take_L10
    rw [hc, if_pos (Int.le_refl _)]
    exact k τ hs ⟨hc, hr⟩
  · rw [up_nt rfl, up_nt rfl, up_nt rfl]
    exact h2 j j0 j1
/-- what a mark of the class changes -/
def mlA (u : Nat) : List Reg := tkA (u + 18) ++ (lnT (u + 2) ++ (seT (u + 1) ++ [(4, u, none)]))
def mbA : List Reg := tkA 0 ++ (lnT 0 ++ (seT 0 ++ [(5, 0, some 1)]))
theorem LnC_row {o : Nat} {l : Ln} {τ : St} (h : ∀ t, t ∈ [3, 400, 401, 402] → τ t o = σ t o) (c : LnC σ o l) : LnC τ o l := by
  unfold LnC at c ⊢
  rw [h 3 (by decide), h 400 (by decide), h 401 (by decide), h 402 (by decide)]
  exact c
theorem SeC_row {o : Nat} {y : Sn} {τ : St} (h : ∀ t, t ∈ [7, 800, 801, 802] → τ t o = σ t o) (c : SeC σ o y) : SeC τ o y := by
  unfold SeC at c ⊢
  rw [h 7 (by decide), h 800 (by decide), h 801 (by decide), h 802 (by decide)]
  exact c
/-- rows of other tags stay -/
theorem Sm.tag {A : List Reg} {τ : St} (h : Sm A σ τ) {t i : Nat} (hd : A.all (fun a => !Nat.beq a.1 t) = true) : τ t i = σ t i := h.row (List.all_eq_true.mpr (fun a ha => by
  have := List.all_eq_true.mp hd a ha
  rw [Bool.not_eq_true'] at this ⊢
  rw [this, Bool.false_and]))
theorem tk_tag {o t : Nat} {A : List Reg} {τ : St} (h : Sm (tkA o) σ τ) (i : Nat) (hd : t ∈ [3, 4, 5, 7, 400, 401, 402, 800, 801, 802]) : τ t i = σ t i := by
  simp only [List.mem_cons, List.not_mem_nil, or_false] at hd
  rcases hd with rfl | rfl | rfl | rfl | rfl | rfl | rfl | rfl | rfl | rfl <;> exact h.tag rfl
theorem t_X4_lay {u : Nat} {l : Ln} {y : Sn} {Q : St → Prop} (hX : Cxt n m dk σ) (hW : WfZ n m dk z) (hC : StC n m σ 0 z) (hl : LnC σ 0 l) (hwl : WfL n m l) (hy : SeC σ 0 y) (hwy : WfS n y)
    (k : ∀ σ', Sm (mlA u) σ σ' → StC n m σ' (u + 18) z → LnC σ' (u + 2) l → SeC σ' (u + 1) y → σ' 4 u 3 = 1 → Q σ') : P_X4_lay u 0 0 0 σ Q := by
  unfold P_X4_lay
  refine t_X9_take hX.spw hW hC (fun σ1 s1 c1 _ => ?_)
  refine t_X3_take (LnC_row (fun t ht => s1.tag (by simp only [List.mem_cons, List.not_mem_nil, or_false] at ht; rcases ht with rfl | rfl | rfl | rfl <;> rfl)) hl) hwl.1 (fun σ2 s2 c2 => ?_)
  refine t_X7_take (n := n) (show (0 : Nat) ≠ u + 1 by omega) (SeC_row (fun t ht => (s2.tag (by simp only [List.mem_cons, List.not_mem_nil, or_false] at ht; rcases ht with rfl | rfl | rfl | rfl <;> rfl)).trans (s1.tag (by simp only [List.mem_cons, List.not_mem_nil, or_false] at ht; rcases ht with rfl | rfl | rfl | rfl <;> rfl))) hy) hwy (fun σ3 s3 c3 => ?_)
  have s3' : Sm (mlA u) σ σ3 := s1.l.tr (s2.l.r.tr s3.l.r.r)
  refine k _ (Sm_up s3' (inm (by unfold mlA; simp))) ?_ ?_ ?_ up_at
  · refine StC_row (σ := σ1) (fun t ht => ?_) c1
    have h : (up σ3 4 u 3 1) t (u + 18) = σ3 t (u + 18) := up_oth (Or.inl (by
      unfold stT at ht
      simp only [List.mem_cons, List.not_mem_nil, or_false] at ht
      rcases ht with rfl | rfl | rfl | rfl | rfl | rfl | rfl | rfl <;> rfl))
    rw [h]
    unfold stT at ht
    simp only [List.mem_cons, List.not_mem_nil, or_false] at ht
    rcases ht with rfl | rfl | rfl | rfl | rfl | rfl | rfl | rfl <;> exact (s3.tag rfl).trans (s2.tag rfl)
  · refine LnC_row (σ := σ2) (fun t ht => ?_) c2
    simp only [List.mem_cons, List.not_mem_nil, or_false] at ht
    rcases ht with rfl | rfl | rfl | rfl <;> exact (up_oth (Or.inl rfl)).trans (s3.tag rfl)
  · refine SeC_row (σ := σ3) (fun t ht => ?_) c3
    simp only [List.mem_cons, List.not_mem_nil, or_false] at ht
    rcases ht with rfl | rfl | rfl | rfl <;> exact up_oth (Or.inl rfl)
theorem t_X4_goBack {u : Nat} {l : Ln} {y : Sn} {Q : St → Prop} (hX : Cxt n m dk σ) (hW : WfZ n m dk z) (hC : StC n m σ (u + 18) z) (hl : LnC σ (u + 2) l) (hwl : WfL n m l) (hy : SeC σ (u + 1) y) (hwy : WfS n y)
    (k : ∀ σ', Sm (tkA 0 ++ (lnT 0 ++ seT 0)) σ σ' → StC n m σ' 0 z → LnC σ' 0 l → SeC σ' 0 y → Q σ') : P_X4_goBack u 0 0 0 σ Q := by
  unfold P_X4_goBack
  refine t_X9_take hX.spw hW hC (fun σ1 s1 c1 _ => ?_)
  refine t_X3_take (LnC_row (fun t ht => s1.tag (by simp only [List.mem_cons, List.not_mem_nil, or_false] at ht; rcases ht with rfl | rfl | rfl | rfl <;> rfl)) hl) hwl.1 (fun σ2 s2 c2 => ?_)
  refine t_X7_take (n := n) (show u + 1 ≠ (0 : Nat) by omega) (SeC_row (fun t ht => (s2.tag (by simp only [List.mem_cons, List.not_mem_nil, or_false] at ht; rcases ht with rfl | rfl | rfl | rfl <;> rfl)).trans (s1.tag (by simp only [List.mem_cons, List.not_mem_nil, or_false] at ht; rcases ht with rfl | rfl | rfl | rfl <;> rfl))) hy) hwy (fun σ3 s3 c3 => ?_)
  refine k _ (s1.l.tr (s2.l.r.tr s3.r.r)) ?_ ?_ c3
  · refine StC_row (σ := σ1) (fun t ht => ?_) c1
    unfold stT at ht
    simp only [List.mem_cons, List.not_mem_nil, or_false] at ht
    rcases ht with rfl | rfl | rfl | rfl | rfl | rfl | rfl | rfl <;> exact (s3.tag rfl).trans (s2.tag rfl)
  · refine LnC_row (σ := σ2) (fun t ht => ?_) c2
    simp only [List.mem_cons, List.not_mem_nil, or_false] at ht
    rcases ht with rfl | rfl | rfl | rfl <;> exact s3.tag rfl
/-- lines laid from a place to another one -/
def llA : List Reg := [(1338, 0, none), (1339, 0, none), (1340, 0, none), (1341, 0, none)]
def lsA : List Reg := [(1342, 0, none), (1343, 0, none), (1344, 0, none), (1345, 0, none)]
theorem t_X12_laysLines {a b : Int} {l : Ln} {Q : St → Prop} (a0 : 0 ≤ a) (a1 : a < 6) (b0 : 0 ≤ b) (b1 : b < 6) (hne : a ≠ b) (h : LnA σ a l) (hw : l.1 ≤ 40)
    (k : ∀ σ', Sm llA σ σ' → LnA σ' b l → (∀ (w : Int) (l' : Ln), w ≠ b → l'.1 ≤ 40 → LnA σ w l' → LnA σ' w l') → Q σ') : P_X12_laysLines a b σ Q := by
  obtain ⟨h1, h2⟩ := h
  unfold P_X12_laysLines
  refine ⟨a0, by omega, b0, by omega, ?_⟩
  rw [h1]
  refine loopI (X := St) (F := fun n' i τ => P_X12_laysLines_L14 a b Q n' i τ) (N := 40) (fun i τ => Sm llA σ τ ∧ τ 1338 0 b = l.1 ∧ (∀ w : Int, w ≠ b → τ 1338 0 w = σ 1338 0 w) ∧ (∀ t, t = 1339 ∨ t = 1340 ∨ t = 1341 → (∀ x : Int, x < 40 * b ∨ 40 * b + 40 ≤ x → τ t 0 x = σ t 0 x) ∧ ∀ j : Int, 0 ≤ j → j < i → τ t 0 (40 * b + j) = σ t 0 (40 * a + j))) ?_ ?_ 40 0 _ FU (Int.le_refl 0) (by omega) (FU_pos (by omega)) ⟨Sm_up Sm.rf rfl, up_at, fun w hw => up_nx hw, fun t ht => ⟨fun x _ => ?_, fun j j0 j1 => by omega⟩⟩
  · rintro n' i τ i0 i1 ⟨hs, hc, hcw, hr⟩ k'
    have ra := wi_id (z := 40 * a) (by omega) (by omega)
    have rb := wi_id (z := 40 * b) (by omega) (by omega)
    have ra2 := wi_id (z := 40 * a + i) (by omega) (by omega)
    have rb2 := wi_id (z := 40 * b + i) (by omega) (by omega)
    unfold P_X12_laysLines_L14
    simp only [up_nt (t' := 1340) (t := 1339) rfl, up_nt (t' := 1341) (t := 1339) rfl, up_nt (t' := 1341) (t := 1340) rfl, ra, rb, ra2, rb2]
    rw [if_neg (by omega), wi_id (z := i + 1) (by omega) (by omega)]
    refine ⟨by omega, by omega, by omega, by omega, by omega, by omega, by omega, by omega, by omega, by omega, by omega, by omega, k' _ ⟨Sm_up (Sm_up (Sm_up hs rfl) rfl) rfl, ?_, fun w hw => ?_, fun t ht => ?_⟩⟩
    · rw [up_nt rfl, up_nt rfl, up_nt rfl]; exact hc
    · rw [up_nt rfl, up_nt rfl, up_nt rfl]; exact hcw w hw
    · obtain ⟨g1, g2⟩ := hr t ht
      have ea : τ t 0 (40 * a + i) = σ t 0 (40 * a + i) := g1 _ (by omega)
      rcases ht with rfl | rfl | rfl
      · refine ⟨fun x hx => ?_, fun j j0 j1 => ?_⟩
        · rw [up_nt rfl, up_nt rfl, up_nx (by omega)]; exact g1 x hx
        · rw [up_nt rfl, up_nt rfl]
          by_cases e : j = i
          · rw [e, up_at]; exact ea
          · rw [up_nx (by omega)]; exact g2 j j0 (by omega)
      · refine ⟨fun x hx => ?_, fun j j0 j1 => ?_⟩
        · rw [up_nt rfl, up_nx (by omega), up_nt rfl]; exact g1 x hx
        · rw [up_nt rfl]
          by_cases e : j = i
          · rw [e, up_at]; exact ea
          · rw [up_nx (by omega), up_nt rfl]; exact g2 j j0 (by omega)
      · refine ⟨fun x hx => ?_, fun j j0 j1 => ?_⟩
        · rw [up_nx (by omega), up_nt rfl, up_nt rfl]; exact g1 x hx
        · by_cases e : j = i
          · rw [e, up_at]; exact ea
          · rw [up_nx (by omega), up_nt rfl, up_nt rfl]; exact g2 j j0 (by omega)
  · rintro n' τ ⟨hs, hc, hcw, hr⟩
    unfold P_X12_laysLines_L14
    rw [if_pos (Int.le_refl _)]
    refine k τ hs ⟨hc, fun j j0 j1 => ?_⟩ (fun w l' hwb hl' hL => ⟨by rw [hcw w hwb]; exact hL.1, fun j j0 j1 => ?_⟩)
    · rw [(hr 1339 (Or.inl rfl)).2 j j0 (by omega), (hr 1340 (Or.inr (Or.inl rfl))).2 j j0 (by omega), (hr 1341 (Or.inr (Or.inr rfl))).2 j j0 (by omega)]
      exact h2 j j0 j1
    · have q : 40 * w + j < 40 * b ∨ 40 * b + 40 ≤ 40 * w + j := by omega
      rw [(hr 1339 (Or.inl rfl)).1 _ q, (hr 1340 (Or.inr (Or.inl rfl))).1 _ q, (hr 1341 (Or.inr (Or.inr rfl))).1 _ q]
      exact hL.2 j j0 j1
  · have : Nat.beq t 1338 = false := by rcases ht with rfl | rfl | rfl <;> rfl
    rw [up_nt this]
theorem t_X12_laysSeen {a b : Int} {y : Sn} {Q : St → Prop} (a0 : 0 ≤ a) (a1 : a < 5) (b0 : 0 ≤ b) (b1 : b < 5) (hne : a ≠ b) (h : SeA σ a y) (hw : y.1 ≤ 8) (hZ : Z01 σ)
    (k : ∀ σ', Sm lsA σ σ' → SeA σ' b y → Z01 σ' → (∀ (w : Int) (y' : Sn), w ≠ b → y'.1 ≤ 8 → SeA σ w y' → SeA σ' w y') → Q σ') : P_X12_laysSeen a b σ Q := by
  obtain ⟨h1, h2⟩ := h
  unfold P_X12_laysSeen
  refine ⟨a0, by omega, b0, by omega, ?_⟩
  rw [h1]
  refine loopI (X := St) (F := fun n' i τ => P_X12_laysSeen_L14 a b Q n' i τ) (N := 8) (fun i τ => Sm lsA σ τ ∧ τ 1342 0 b = y.1 ∧ (∀ w : Int, w ≠ b → τ 1342 0 w = σ 1342 0 w) ∧ Z01 τ ∧ (∀ t, t = 1343 ∨ t = 1344 ∨ t = 1345 → (∀ x : Int, x < 8 * b ∨ 8 * b + 8 ≤ x → τ t 0 x = σ t 0 x) ∧ ∀ j : Int, 0 ≤ j → j < i → τ t 0 (8 * b + j) = σ t 0 (8 * a + j))) ?_ ?_ 8 0 _ FU (Int.le_refl 0) (by omega) (FU_pos (by omega)) ⟨Sm_up Sm.rf rfl, up_at, fun w hw => up_nx hw, fun x x0 x1 => by rw [up_nt rfl]; exact hZ x x0 x1, fun t ht => ⟨fun x _ => ?_, fun j j0 j1 => by omega⟩⟩
  · rintro n' i τ i0 i1 ⟨hs, hc, hcw, hz, hr⟩ k'
    have ra := wi_id (z := 8 * a) (by omega) (by omega)
    have rb := wi_id (z := 8 * b) (by omega) (by omega)
    have ra2 := wi_id (z := 8 * a + i) (by omega) (by omega)
    have rb2 := wi_id (z := 8 * b + i) (by omega) (by omega)
    have hzi := hz (8 * a + i) (by omega) (by omega)
    unfold P_X12_laysSeen_L14
    simp only [up_nt (t' := 1344) (t := 1343) rfl, up_nt (t' := 1345) (t := 1343) rfl, up_nt (t' := 1345) (t := 1344) rfl, ra, rb, ra2, rb2]
    rw [if_neg (by omega), wi_id (z := i + 1) (by omega) (by omega)]
    refine ⟨by omega, by omega, by omega, by omega, by omega, by omega, by omega, by omega, by omega, by omega, by omega, by omega, hzi, k' _ ⟨Sm_up (Sm_up (Sm_up hs rfl) rfl) rfl, ?_, fun w hw => ?_, fun x x0 x1 => ?_, fun t ht => ?_⟩⟩
    · rw [up_nt rfl, up_nt rfl, up_nt rfl]; exact hc
    · rw [up_nt rfl, up_nt rfl, up_nt rfl]; exact hcw w hw
    · by_cases e : x = 8 * b + i
      · rw [e, up_at]; exact hzi
      · rw [up_nx e, up_nt rfl, up_nt rfl]; exact hz x x0 x1
    · obtain ⟨g1, g2⟩ := hr t ht
      have ea : τ t 0 (8 * a + i) = σ t 0 (8 * a + i) := g1 _ (by omega)
      rcases ht with rfl | rfl | rfl
      · refine ⟨fun x hx => ?_, fun j j0 j1 => ?_⟩
        · rw [up_nt rfl, up_nt rfl, up_nx (by omega)]; exact g1 x hx
        · rw [up_nt rfl, up_nt rfl]
          by_cases e : j = i
          · rw [e, up_at]; exact ea
          · rw [up_nx (by omega)]; exact g2 j j0 (by omega)
      · refine ⟨fun x hx => ?_, fun j j0 j1 => ?_⟩
        · rw [up_nt rfl, up_nx (by omega), up_nt rfl]; exact g1 x hx
        · rw [up_nt rfl]
          by_cases e : j = i
          · rw [e, up_at]; exact ea
          · rw [up_nx (by omega), up_nt rfl]; exact g2 j j0 (by omega)
      · refine ⟨fun x hx => ?_, fun j j0 j1 => ?_⟩
        · rw [up_nx (by omega), up_nt rfl, up_nt rfl]; exact g1 x hx
        · by_cases e : j = i
          · rw [e, up_at]; exact ea
          · rw [up_nx (by omega), up_nt rfl, up_nt rfl]; exact g2 j j0 (by omega)
  · rintro n' τ ⟨hs, hc, hcw, hz, hr⟩
    unfold P_X12_laysSeen_L14
    rw [if_pos (Int.le_refl _)]
    refine k τ hs ⟨hc, fun j j0 j1 => ?_⟩ hz (fun w y' hwb hl' hL => ⟨by rw [hcw w hwb]; exact hL.1, fun j j0 j1 => ?_⟩)
    · rw [(hr 1343 (Or.inl rfl)).2 j j0 (by omega), (hr 1344 (Or.inr (Or.inl rfl))).2 j j0 (by omega), (hr 1345 (Or.inr (Or.inr rfl))).2 j j0 (by omega)]
      exact h2 j j0 j1
    · have q : 8 * w + j < 8 * b ∨ 8 * b + 8 ≤ 8 * w + j := by omega
      rw [(hr 1343 (Or.inl rfl)).1 _ q, (hr 1344 (Or.inr (Or.inl rfl))).1 _ q, (hr 1345 (Or.inr (Or.inr rfl))).1 _ q]
      exact hL.2 j j0 j1
  · have : Nat.beq t 1342 = false := by rcases ht with rfl | rfl | rfl <;> rfl
    rw [up_nt this]
end
