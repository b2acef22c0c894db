/-! 97.w: the law holds -/
section
variable {K : Int}
theorem sI_seen {σ : St} {A : List Reg} {σ' : St} (hI : Inv K σ) (s : Sm A σ σ') (h1 : hlOk A = true) (h2 : pasOk A = true) (h3 : noT A [1346, 1350] 0 = true) (h4 : inR A 12 0 52 = false) (h5 : noT A stT 0 = true) : Inv (K + 1) σ' := by
  obtain ⟨n, m, dk, v, e, l, s', ms, y, z, c, zs, hH, ⟨w1, w2, w3, w4⟩, hP⟩ := hI
  refine Inv_mono (K := K) (by omega) ⟨n, m, dk, v, e, l, s', ms, y, z, c, zs, Hld_keep s h1 hH, ⟨w1, w2, StC_keep s h5 w3, ?_⟩, PsI_keep s h2 (noT_sub h3 (by decide)) h4 hP⟩
  rw [noT_row s h3 (t := 1346) (by decide)]; exact w4
end
theorem law_go {sd : Nat → Nat} (hsd : sd 1 ≤ 3584) : ∀ (n' : Nat) (x K : Int) (σ : St), Inv K σ → 0 ≤ K → K ≤ x → 0 ≤ x → x ≤ 3600 → 3700 - x < n' → P_L_law_L23 sd (fun z _ => z = 1) n' x σ := by
  intro n'
  induction n' with
  | zero => intro x K σ hI k0 kx x0 x1 hn; omega
  | succ n' ih =>
    intro x K σ hI k0 kx x0 x1 hn
    unfold P_L_law_L23
    rw [wi_id (z := (sd 1 : Int) - 7) (by omega) (by omega)]
    by_cases hx : (sd 1 : Int) - 7 < x
    · rw [if_pos hx]
    rw [if_neg hx]
    refine ⟨x0, by omega, ?_⟩
    have hK : K < 900000 := by omega
    have w : ∀ j : Int, 1 ≤ j → j ≤ 6 → 0 ≤ wi (x + j) ∧ wi (x + j) < (sd 1 : Int) := fun j h1 h2 => by
      rw [wi_id (z := x + j) (by omega) (by omega)]; omega
    have c1 := w 1 (by decide) (by decide)
    have c2 := w 2 (by decide) (by decide)
    have c3 := w 3 (by decide) (by decide)
    have c4 := w 4 (by decide) (by decide)
    have c5 := w 5 (by decide) (by decide)
    have c6 := w 6 (by decide) (by decide)
    have nx : ∀ σ', Inv (K + 1) σ' → P_L_law_L23 sd (fun z _ => z = 1) n' (wi (x + 7)) σ' := fun σ' h => by
      rw [wi_id (z := x + 7) (by omega) (by omega)]
      exact ih (x + 7) (K + 1) σ' h (by omega) (by omega) (by omega) (by omega) (by omega)
    have fin : ∀ (r : Int) (σ' : St), Inv (K + 1) σ' → (if r = r then P_L_law_L23 sd (fun z _ => z = 1) n' (wi (x + 7)) σ' else (fun z (_ : St) => z = (1 : Int)) 0 σ') := fun r σ' h => by rw [if_pos rfl]; exact nx σ' h
    refine if_cs (fun _ => ?_) (fun _ => ?_)
    · exact ⟨c1.1, c1.2, c2.1, c2.2, c3.1, c3.2, c4.1, c4.2, c5.1, c5.2, c6.1, c6.2, sI_feed σ hI _ (fun r σ1 hm => ⟨c1.1, c1.2, c2.1, c2.2, c3.1, c3.2, c4.1, c4.2, c5.1, c5.2, c6.1, c6.2, hm _ (fin r)⟩)⟩
    refine if_cs (fun _ => ?_) (fun _ => ?_)
    · exact sI_shop k0 σ hI _ (fun r σ1 hm => hm _ (fin r))
    refine if_cs (fun _ => ?_) (fun _ => ?_)
    · exact sI_run σ hI _ (fun r σ1 hm => hm _ (fin r))
    refine if_cs (fun _ => ?_) (fun _ => ?_)
    · exact ⟨c1.1, c1.2, c2.1, c2.2, sI_counter σ hI _ (fun r σ1 hm => ⟨c1.1, c1.2, c2.1, c2.2, hm _ (fin r)⟩)⟩
    refine if_cs (fun _ => ?_) (fun _ => ?_)
    · exact ⟨c1.1, c1.2, c2.1, c2.2, sI_ball σ hI _ (fun r σ1 hm => ⟨c1.1, c1.2, c2.1, c2.2, hm _ (fin r)⟩)⟩
    refine if_cs (fun _ => ?_) (fun _ => ?_)
    · exact ⟨c1.1, c1.2, sI_send σ hI _ (fun r σ1 hm => ⟨c1.1, c1.2, hm _ (fin r)⟩)⟩
    refine if_cs (fun _ => ?_) (fun _ => ?_)
    · exact sI_beat σ hI _ (fun r σ1 hm => hm _ (fin r))
    refine if_cs (fun _ => ?_) (fun _ => ?_)
    · exact ⟨c1.1, c1.2, c2.1, c2.2, sI_set σ hI _ (fun r σ1 hm => ⟨c1.1, c1.2, c2.1, c2.2, hm _ (fin r)⟩)⟩
    refine if_cs (fun _ => ?_) (fun _ => ?_)
    · exact ⟨c1.1, c1.2, c2.1, c2.2, sI_carry σ hI _ (fun r σ1 hm => ⟨c1.1, c1.2, c2.1, c2.2, hm _ (fin r)⟩)⟩
    refine if_cs (fun _ => ?_) (fun _ => ?_)
    · exact sI_day hK σ hI _ (fun r σ1 hm => hm _ (fin r))
    refine if_cs (fun _ => ?_) (fun _ => ?_)
    · exact sI_undo σ hI _ (fun r σ1 hm => hm _ (fin r))
    refine if_cs (fun _ => ?_) (fun _ => ?_)
    · exact ⟨c1.1, c1.2, sI_judged hK σ hI _ (fun r σ1 hm => ⟨c1.1, c1.2, hm _ (fin r)⟩)⟩
    refine if_cs (fun _ => ?_) (fun _ => ?_)
    · exact ⟨c1.1, c1.2, sI_falls σ hI _ (fun r σ1 hm => ⟨c1.1, c1.2, hm _ (fin r)⟩)⟩
    refine if_cs (fun _ => ?_) (fun _ => ?_)
    · exact ⟨c1.1, c1.2, sI_catches σ hI _ (fun r σ1 hm => ⟨c1.1, c1.2, hm _ (fin r)⟩)⟩
    refine if_cs (fun _ => ?_) (fun _ => ?_)
    · exact ⟨c1.1, c1.2, c2.1, c2.2, sI_span σ hI _ (fun r σ1 hm => ⟨c1.1, c1.2, c2.1, c2.2, hm _ (fin r)⟩)⟩
    refine if_cs (fun _ => ?_) (fun _ => ?_)
    · exact sI_idle σ hI _ (fun r σ1 hm => hm _ (fin r))
    refine if_cs (fun _ => ?_) (fun _ => ?_)
    · exact sI_lost σ hI _ (fun r σ1 hm => hm _ (fin r))
    refine if_cs (fun _ => ?_) (fun _ => ?_)
    · exact sI_twins σ hI _ (fun r σ1 hm => hm _ (fin r))
    refine if_cs (fun _ => ?_) (fun _ => ?_)
    · exact sI_crowd σ hI _ (fun r σ1 hm => hm _ (fin r))
    refine if_cs (fun _ => ?_) (fun _ => ?_)
    · exact ⟨c1.1, c1.2, sI_shave σ hI _ (fun r σ1 hm => ⟨c1.1, c1.2, hm _ (fin r)⟩)⟩
    refine if_cs (fun _ => ?_) (fun _ => ?_)
    · exact ⟨c1.1, c1.2, sI_trim σ hI _ (fun r σ1 hm => ⟨c1.1, c1.2, hm _ (fin r)⟩)⟩
    refine if_cs (fun _ => ?_) (fun _ => ?_)
    · exact sI_swap σ hI _ (fun r σ1 hm => hm _ (fin r))
    refine if_cs (fun _ => ?_) (fun _ => ?_)
    · exact ⟨c1.1, c1.2, sI_back σ hI _ (fun r σ1 hm => ⟨c1.1, c1.2, hm _ (fin r)⟩)⟩
    refine if_cs (fun _ => ?_) (fun _ => ?_)
    · exact ⟨c1.1, c1.2, sI_trip σ hI _ (fun r σ1 hm => ⟨c1.1, c1.2, hm _ (fin r)⟩)⟩
    refine if_cs (fun _ => ?_) (fun _ => ?_)
    · exact sI_rest σ hI _ (fun r σ1 hm => hm _ (fin r))
    refine if_cs (fun _ => ?_) (fun _ => ?_)
    · exact ⟨c1.1, c1.2, sI_row σ hI _ (fun r σ1 hm => ⟨c1.1, c1.2, hm _ (fin r)⟩)⟩
    refine if_cs (fun _ => ?_) (fun _ => ?_)
    · exact sI_last σ hI _ (fun r σ1 hm => hm _ (fin r))
    refine if_cs (fun _ => ?_) (fun _ => ?_)
    · exact ⟨c1.1, c1.2, c2.1, c2.2, sI_later hK σ hI _ (fun r σ1 hm => ⟨c1.1, c1.2, c2.1, c2.2, hm _ (fin r)⟩)⟩
    refine if_cs (fun _ => ?_) (fun _ => ?_)
    · exact ⟨c1.1, c1.2, sI_stray hK σ hI _ (fun r σ1 hm => ⟨c1.1, c1.2, hm _ (fin r)⟩)⟩
    refine if_cs (fun _ => ?_) (fun _ => ?_)
    · exact sI_first hK σ hI _ (fun r σ1 hm => hm _ (fin r))
    refine if_cs (fun _ => ?_) (fun _ => ?_)
    · exact ⟨c1.1, c1.2, sI_safe hK σ hI _ (fun r σ1 hm => ⟨c1.1, c1.2, hm _ (fin r)⟩)⟩
    refine if_cs (fun _ => ?_) (fun _ => ?_)
    · exact ⟨c1.1, c1.2, sI_wide hK σ hI _ (fun r σ1 hm => ⟨c1.1, c1.2, hm _ (fin r)⟩)⟩
    refine if_cs (fun _ => ?_) (fun _ => ?_)
    · exact ⟨c1.1, c1.2, c2.1, c2.2, sI_over hK σ hI _ (fun r σ1 hm => ⟨c1.1, c1.2, c2.1, c2.2, hm _ (fin r)⟩)⟩
    refine if_cs (fun _ => ?_) (fun _ => ?_)
    · refine ⟨c1.1, c1.2, c2.1, c2.2, c3.1, c3.2, ?_⟩
      by_cases h3 : scr sd (wi (x + 3)) = 0
      · rw [if_pos h3]
        unfold P_L_law_J1122
        refine sI_see (Or.inl rfl) σ hI _ (fun r σ1 hm => ⟨c1.1, c1.2, c2.1, c2.2, c3.1, c3.2, ?_⟩)
        rw [if_pos h3]
        exact hm _ (fin r)
      · rw [if_neg h3]
        unfold P_L_law_J1122
        refine sI_see (Or.inr rfl) σ hI _ (fun r σ1 hm => ⟨c1.1, c1.2, c2.1, c2.2, c3.1, c3.2, ?_⟩)
        rw [if_neg h3]
        exact hm _ (fin r)
    refine if_cs (fun _ => ?_) (fun _ => ?_)
    · exact sI_who hK σ hI _ (fun r σ1 hm => hm _ (fin r))
    refine if_cs (fun _ => ?_) (fun _ => ?_)
    · exact sI_ask hK σ hI _ (fun r σ1 hm => hm _ (fin r))
    refine if_cs (fun _ => ?_) (fun _ => ?_)
    · exact ⟨c1.1, c1.2, c2.1, c2.2, c3.1, c3.2, sI_chance hK σ hI _ (fun r σ1 hm => ⟨c1.1, c1.2, c2.1, c2.2, c3.1, c3.2, hm _ (fin r)⟩)⟩
    refine if_cs (fun _ => ?_) (fun _ => ?_)
    · refine ⟨c1.1, c1.2, c2.1, c2.2, c3.1, c3.2, c4.1, c4.2, ?_⟩
      unfold P_L_rests
      refine t_X11_rests (fun ht => ?_) (fun hf => ?_)
      · refine ⟨c1.1, c1.2, c2.1, c2.2, c3.1, c3.2, c4.1, c4.2, ?_⟩
        refine t_X12_rests (fun _ => ?_) (fun hf => by rw [ht] at hf; cases hf)
        unfold P_X12_thrown
        rw [up_at]
        dsimp only
        rw [if_pos rfl, if_pos rfl, up_nt (t' := 60) rfl, up_at, if_pos (lC_0.mpr rfl)]
        exact nx _ (sI_seen (A := [(60, 0, some 0), (12, 0, some 0)]) hI (Sm_up (Sm_up Sm.rf rfl) rfl) (by decide) (by decide) rfl rfl rfl)
      · refine ⟨c1.1, c1.2, c2.1, c2.2, c3.1, c3.2, c4.1, c4.2, ?_⟩
        refine t_X12_rests (fun ht => by rw [ht] at hf; cases hf) (fun _ => ?_)
        unfold P_X12_thrown
        rw [up_at]
        dsimp only
        rw [if_pos rfl, if_neg one_no]
        exact nx _ (sI_seen (A := [(12, 0, some 0)]) hI (Sm_up Sm.rf rfl) (by decide) (by decide) rfl rfl rfl)
    refine if_cs (fun _ => ?_) (fun _ => ?_)
    · exact ⟨c1.1, c1.2, c2.1, c2.2, c3.1, c3.2, sI_weeks hK σ hI _ (fun r σ1 hm => ⟨c1.1, c1.2, c2.1, c2.2, c3.1, c3.2, hm _ (fin r)⟩)⟩
    refine if_cs (fun _ => ?_) (fun _ => ?_)
    · refine ⟨c1.1, c1.2, c2.1, c2.2, ?_⟩
      by_cases h3 : scr sd (wi (x + 2)) = 0
      · rw [if_pos h3]
        unfold P_L_law_J1397
        refine sI_mark σ hI _ (fun r σ1 hm => ⟨c1.1, c1.2, c2.1, c2.2, ?_⟩)
        rw [if_pos h3]
        exact hm _ (fin r)
      · rw [if_neg h3]
        unfold P_L_law_J1397
        refine sI_mark σ hI _ (fun r σ1 hm => ⟨c1.1, c1.2, c2.1, c2.2, ?_⟩)
        rw [if_neg h3]
        exact hm _ (fin r)
    refine if_cs (fun _ => ?_) (fun _ => ?_)
    · exact ⟨c1.1, c1.2, sI_count σ hI _ (fun r σ1 hm => ⟨c1.1, c1.2, hm _ (fin r)⟩)⟩
    exact nx σ (sI_seen (A := []) hI Sm.rf (by decide) (by decide) rfl rfl rfl)
/-- the start -/
theorem law_begin {Q : St → Prop} (k : ∀ σ1, (∀ j : Nat, σ1 60 0 j = 0) → Inv 0 σ1 → Q σ1) : P_X12_fresh0 (up (up (up s00 8 0 13 2) 8 1 13 2) 1310 0 2 2) Q := by
  have hz : ∀ (t i : Nat) (x : Int), t ≠ 8 → t ≠ 600 → t ≠ 1310 → (up (up (up s00 8 0 13 2) 8 1 13 2) 1310 0 2 2) t i x = 0 := by
    intro t i x h8 h6 h13
    unfold up s00
    rw [if_neg (fun q => h13 q.1), if_neg (fun q => h8 q.1), if_neg (fun q => h8 q.1), if_neg (fun q => h6 q.1)]
  have h8 : ∀ (i : Nat) (x : Int), x ≠ 13 → (up (up (up s00 8 0 13 2) 8 1 13 2) 1310 0 2 2) 8 i x = 0 := by
    intro i x hx
    unfold up s00
    rw [if_neg (fun q => by have := q.1; omega), if_neg (fun q => hx q.2.2), if_neg (fun q => hx q.2.2), if_neg (fun q => by have := q.1; omega)]
  have h813 : (up (up (up s00 8 0 13 2) 8 1 13 2) 1310 0 2 2) 8 0 13 = 2 := by rw [up_nt rfl, up_io (by decide), up_at]
  have h10 : ∀ x : Int, x ≠ 2 → (up (up (up s00 8 0 13 2) 8 1 13 2) 1310 0 2 2) 1310 0 x = 0 := by
    intro x hx
    unfold up s00
    rw [if_neg (fun q => hx q.2.2), if_neg (fun q => by have := q.1; omega), if_neg (fun q => by have := q.1; omega), if_neg (fun q => by have := q.1; omega)]
  have h102 : (up (up (up s00 8 0 13 2) 8 1 13 2) 1310 0 2 2) 1310 0 2 = 2 := up_at
  have h600 : ∀ x : Int, 0 ≤ x → x < 16 → (up (up (up s00 8 0 13 2) 8 1 13 2) 1310 0 2 2) 600 0 x = x + 2 := by
    intro x x0 x1
    rw [up_nt rfl, up_nt rfl, up_nt rfl]
    unfold s00
    rw [if_pos ⟨rfl, x0, x1⟩]
  generalize (up (up (up s00 8 0 13 2) 8 1 13 2) 1310 0 2 2) = σ0 at hz h8 h813 h10 h102 h600
  have hX : Cxt 0 0 2 σ0 := by
    refine ⟨?_, h8 0 10 (by decide), h8 0 11 (by decide), h813⟩
    unfold ShC
    rw [h8 0 10 (by decide), h8 0 11 (by decide), h8 0 12 (by decide), h813]
    exact ⟨by decide, by decide, by decide, by decide, fun c c0 c1 => by omega, fun c c0 c1 => by omega, fun c c0 c1 => by omega⟩
  have hE : ShE σ0 := by
    unfold ShE
    rw [h8 0 10 (by decide), h8 0 11 (by decide), h8 0 12 (by decide), h813, h10 0 (by decide), h10 1 (by decide), h10 3 (by decide), h102]
    exact ⟨rfl, rfl, rfl, rfl, fun c c0 c1 => by omega, fun c c0 c1 => by omega, fun c c0 c1 => by omega⟩
  refine t_X12_fresh0 hX hE (fun σ1 s1 a1 => k σ1 (fun j => ?_) ?_)
  · rw [s1.row (t := 60) (i := 0) rfl]; exact hz 60 0 _ (by decide) (by decide) (by decide)
  have g : ∀ (t i : Nat) (x : Int), t ≠ 8 → t ≠ 600 → t ≠ 1310 → t ≠ 1346 → σ1 t i x = 0 := fun t i x q1 q2 q3 q4 => by
    have e : σ1 t i = σ0 t i := s1.row (by
      show (!(Nat.beq 1346 t && Nat.beq 0 i) && true) = true
      have : Nat.beq 1346 t = false := by
        cases h : Nat.beq 1346 t
        · rfl
        · exact absurd (Nat.eq_of_beq_eq_true h).symm q4
      rw [this]; rfl)
    rw [e]; exact hz t i x q1 q2 q3
  have g8 : σ1 8 = σ0 8 := by funext i; exact s1.tag rfl
  have r10 : σ1 1310 0 = σ0 1310 0 := s1.row rfl
  have gn : ∀ (t i : Nat), t ≠ 8 → t ≠ 600 → t ≠ 1310 → t ≠ 1346 → ∀ x, σ1 t i x = 0 := fun t i q1 q2 q3 q4 x => g t i x q1 q2 q3 q4
  have G : ∀ t i x, (t ∈ [2, 3, 4, 5, 7, 9, 10, 12, 1319, 1320, 1338, 1342, 1345, 1351]) → σ1 t i x = 0 := fun t i x ht => by
    simp only [List.mem_cons, List.not_mem_nil, or_false] at ht
    exact g t i x (by omega) (by omega) (by omega) (by omega)
  have eO : opZ (σ1 901 0) (σ1 905 0) (σ1 906 0) = opZ (σ0 901 0) (σ0 905 0) (σ0 906 0) := by
    rw [s1.row (t := 901) (i := 0) rfl, s1.row (t := 905) (i := 0) rfl, s1.row (t := 906) (i := 0) rfl]
  have hX1 : Cxt 0 0 2 σ1 := Cxt_keep s1 rfl hX
  refine ⟨0, 0, 2, fun _ _ _ _ => 0, (fun _ => 0, 0, fun _ => 0, 0), ln0, ln0, fun _ => (opZ (σ0 901 0) (σ0 905 0) (σ0 906 0), ln0, ln0), (0, fun _ => 0), opZ (σ0 901 0) (σ0 905 0) (σ0 906 0), 0, fun _ => opZ (σ0 901 0) (σ0 905 0) (σ0 906 0),
    ⟨⟨hX1, ShE_keep s1 rfl hE, ?_, LwC_none (G 2 0 3 (by decide)), LwA_none (G 1319 0 0 (by decide)) (G 1320 0 0 (by decide)), ⟨⟨hX1.2.1, by decide, by decide⟩, ⟨hX1.2.2.1, by decide, by decide⟩, fun i i0 i1 => ?_, fun i i0 i1 => ?_⟩, ⟨⟨by rw [r10]; exact h10 0 (by decide), by decide, by decide⟩, ⟨by rw [r10]; exact h10 1 (by decide), by decide, by decide⟩, fun i i0 i1 => ?_, fun i i0 i1 => ?_⟩, rfl, rfl, by rw [G 1320 0 0 (by decide)]; decide⟩, ?_,
      ⟨⟨G 3 0 3 (by decide), fun j j0 j1 => ?_⟩, ⟨G 1338 0 0 (by decide), fun j j0 j1 => ?_⟩, ⟨by decide, fun j j0 j1 => ?_⟩, ⟨G 7 0 3 (by decide), fun j j0 j1 => ?_⟩, ⟨G 1342 0 0 (by decide), fun j j0 j1 => ?_⟩, ⟨by decide, fun j j0 j1 => ?_⟩, fun x _ _ => Or.inl (G 1345 0 x (by decide))⟩,
      fun u hu => ⟨by rw [G 4 u 3 (by decide), G 1351 0 u (by decide)], Or.inl (G 4 u 3 (by decide))⟩, ⟨⟨G 10 0 4 (by decide), fun j j0 j1 => ?_⟩, ⟨G 12 0 1 (by decide), fun j j0 j1 => ?_⟩, by decide, fun j j0 j1 => ?_⟩⟩,
    ⟨WfZ_op hX, Int.le_refl 0, ⟨G 9 0 10 (by decide), G 9 0 11 (by decide), G 9 0 9 (by decide), G 9 0 8 (by decide), fun j j0 j1 => ?_, fun j j0 j1 => by omega, fun j j0 j1 => by omega⟩, a1⟩, ⟨G 5 0 1 (by decide), by decide, fun j j0 j1 => ?_, fun i j i0 i1 i2 => ?_, fun j j0 j1 => by omega⟩, ⟨G 12 0 52 (by decide), by decide, fun j j0 j1 => by omega⟩, fun j j0 j1 => by omega, fun j j0 j1 => by omega⟩
  · unfold RaC
    rw [hX1.2.1]
    intro i j i0 i1 i2
    omega
  · have : i < (0 : Int) := i1
    omega
  · have : i < (0 : Int) := i1
    omega
  · have : i < (0 : Int) := i1
    omega
  · have : i < (0 : Int) := i1
    omega
  · unfold DS
    rw [g8, h8 1 10 (by decide), h8 1 11 (by decide), h8 1 12 (by decide), G 2 1 3 (by decide), G 3 1 3 (by decide)]
    exact ⟨by decide, by decide, by decide, by decide, by decide, fun i i0 i1 => by omega⟩
  · have : j < (0 : Int) := j1
    omega
  · have : j < (0 : Int) := j1
    omega
  · have : j < (0 : Int) := j1
    omega
  · have : j < (0 : Int) := j1
    omega
  · have : j < (0 : Int) := j1
    omega
  · have : j < (0 : Int) := j1
    omega
  · have : j < (0 : Int) := j1
    omega
  · have : j < (0 : Int) := j1
    omega
  · have : j < (0 : Int) := j1
    omega
  · have : j < (0 : Int) := j1
    omega
  · rw [s1.row (t := 600) (i := 0) rfl, h600 j j0 j1]; omega
  · rw [s1.row (t := 600) (i := 0) rfl, h600 i (by omega) (by omega), h600 j (by omega) (by omega)]; omega
theorem law_pure : ∀ sd : Nat → Nat, sd 1 ≤ 3584 → LawP sd := by
  intro sd hsd
  unfold LawP
  refine law_begin (fun σ1 h60 hI => ⟨h60, ?_⟩)
  exact law_go hsd FU 0 0 σ1 hI (by decide) (by decide) (by decide) (by decide) (by unfold FU; omega)
