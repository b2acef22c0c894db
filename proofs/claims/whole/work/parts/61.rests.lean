/-! 61: rests -/
def gtW (a b c d e : Int) : Int := if d = 1 then (if e = 1 then -a else b) else if e = 1 then c else 0
theorem gtW_rng {a b c d e : Int} (ha : 0 ≤ a ∧ a ≤ 9) (hb : 0 ≤ b ∧ b ≤ 9) (hc : 0 ≤ c ∧ c ≤ 9) : -9 ≤ gtW a b c d e ∧ gtW a b c d e ≤ 9 := by
  unfold gtW
  split <;> split <;> omega
theorem t_X11_gain {a b c d e : Int} {σ : St} {Q : Int → St → Prop} (ha : 0 ≤ a ∧ a ≤ 9) (k : Q (gtW a b c d e) σ) : P_X11_gain d e a b c σ Q := by
  unfold P_X11_gain
  unfold gtW at k
  split <;> rename_i h
  · rw [if_pos h] at k
    split <;> rename_i h'
    · rw [if_pos h'] at k
      rwa [wi_id (by omega) (by omega)]
    · rwa [if_neg h'] at k
  · rw [if_neg h] at k
    split <;> rename_i h'
    · rwa [if_pos h'] at k
    · rwa [if_neg h'] at k
theorem t_X12_getsBy {a b c d e : Int} {σ : St} {Q : Int → St → Prop} (ha : 0 ≤ a ∧ a ≤ 9) (k : Q (gtW a b c d e) σ) : P_X12_getsBy a b c d e σ Q := by
  unfold P_X12_getsBy
  unfold gtW at k
  split <;> rename_i h
  · rw [if_pos h] at k
    split <;> rename_i h'
    · rw [if_pos h'] at k
      rwa [wi_id (by omega) (by omega)]
    · rwa [if_neg h'] at k
  · rw [if_neg h] at k
    split <;> rename_i h'
    · rwa [if_pos h'] at k
    · rwa [if_neg h'] at k
/-- a pair of doings at rest: r by q -/
def atR (a b c r q : Int) : Bool := !decide (gtW a b c r q < gtW a b c (1 - r) q) && !decide (gtW a b c q r < gtW a b c (1 - q) r)
def rsP (a b c x : Int) : Bool := atR a b c (x.tdiv 2) (x.tmod 2)
theorem four {P : Int → Prop} (h0 : P 0) (h1 : P 1) (h2 : P 2) (h3 : P 3) : ∀ x : Int, 0 ≤ x → x < 4 → P x := fun x x0 x4 => by
  have : x = 0 ∨ x = 1 ∨ x = 2 ∨ x = 3 := by omega
  rcases this with rfl | rfl | rfl | rfl <;> assumption
theorem half_bits : ∀ x : Int, 0 ≤ x → x < 4 → bR x 1 = x.tdiv 2 ∧ bA x 1 = x.tmod 2 ∧ wi (1 - x.tdiv 2) = 1 - x.tdiv 2 ∧ wi (1 - x.tmod 2) = 1 - x.tmod 2 ∧ wi (x.tdiv 2) = x.tdiv 2 := four (by decide) (by decide) (by decide) (by decide)
/-- the k-th of those at rest, or how many: true, it; or thrown: false -/
def rsG (p : Int → Bool) (k : Int) : Nat → Int → Int → Bool × Int
  | 0, y, _ => if k = -1 then (true, y) else (false, 0)
  | m + 1, y, x => if p x then (if y = k then (true, x) else rsG p k m (y + 1) (x + 1)) else rsG p k m y (x + 1)
def rsW (a b c k : Int) : Bool × Int := if (0 ≤ a ∧ a ≤ 9) ∧ (0 ≤ b ∧ b ≤ 9) ∧ (0 ≤ c ∧ c ≤ 9) ∧ -1 ≤ k then rsG (rsP a b c) k 4 0 0 else (false, 0)
section
variable {a b c : Int} {σ : St} {Q : Int → St → Prop}
theorem t_X11_isRest {x : Int} (ha : 0 ≤ a ∧ a ≤ 9) (x0 : 0 ≤ x) (x4 : x < 4) (k1 : rsP a b c x = true → Q 1 σ) (k0 : rsP a b c x = false → Q 0 σ) : P_X11_isRest x a b c σ Q := by
  obtain ⟨e1, e2, e3, e4, -⟩ := half_bits x x0 x4
  unfold P_X11_isRest P_X11_isRest_J64
  rw [e1, e2, e3, e4]
  unfold rsP atR at k1 k0
  refine t_X11_gain ha (t_X11_gain ha ?_)
  split <;> rename_i h
  · exact k0 (by rw [decide_eq_true h]; rfl)
  · rw [decide_eq_false h] at k1 k0
    refine t_X11_gain ha (t_X11_gain ha ?_)
    split <;> rename_i h'
    · exact k0 (by rw [decide_eq_true h']; rfl)
    · exact k1 (by rw [decide_eq_false h']; rfl)
theorem t_X11_restsL {T : St → Prop} {d : Int} {K : Int → St → Prop} (ha : 0 ≤ a ∧ a ≤ 9) (hK : ∀ y : Int, (if d = -1 then Q y σ else T σ) → K y σ) : ∀ (m fuel : Nat) (y x : Int), 0 ≤ x → x + m = 4 → 0 ≤ y → y ≤ x → m < fuel → ((rsG (rsP a b c) d m y x).1 = true → Q (rsG (rsP a b c) d m y x).2 σ) → ((rsG (rsP a b c) d m y x).1 = false → T σ) → P_X11_rests_L50 T a b c d K Q fuel y x σ
  | 0, fuel, y, x, x0, hx, y0, y1, hf, k1, k0 => by
    obtain ⟨q, rfl, -⟩ := fu_ex hf
    unfold P_X11_rests_L50
    rw [if_pos (by omega)]
    refine hK y ?_
    unfold rsG at k1 k0
    split <;> rename_i h
    · rw [if_pos h] at k1
      exact k1 rfl
    · rw [if_neg h] at k0
      exact k0 rfl
  | m + 1, fuel, y, x, x0, hx, y0, y1, hf, k1, k0 => by
    obtain ⟨q, rfl, hq⟩ := fu_ex hf
    unfold P_X11_rests_L50
    rw [if_neg (by omega), wi_id (z := x + 1) (by omega) (by omega), wi_id (z := y + 1) (by omega) (by omega)]
    unfold rsG at k1 k0
    refine t_X11_isRest ha x0 (by omega) (fun hp => ?_) (fun hp => ?_)
    · rw [if_neg one_no]
      rw [if_pos hp] at k1 k0
      split <;> rename_i h
      · rw [if_pos h] at k1
        exact k1 rfl
      · rw [if_neg h] at k1 k0
        exact t_X11_restsL ha hK m q (y + 1) (x + 1) (by omega) (by omega) (by omega) (by omega) hq k1 k0
    · rw [if_pos rfl]
      rw [if_neg (by rw [hp]; decide)] at k1 k0
      exact t_X11_restsL ha hK m q y (x + 1) (by omega) (by omega) (by omega) (by omega) hq k1 k0
theorem t_X11_rests {T : St → Prop} {d : Int} (k1 : (rsW a b c d).1 = true → Q (rsW a b c d).2 σ) (k0 : (rsW a b c d).1 = false → T σ) : P_X11_rests T a b c d σ Q := by
  unfold P_X11_rests P_X11_rests_J36
  unfold rsW at k1 k0
  refine t_X11_within (fun a0 a1 => ?_) (fun h => ?_)
  · rw [if_neg one_no]
    refine t_X11_within (fun b0 b1 => ?_) (fun h => ?_)
    · rw [if_neg one_no]
      refine t_X11_within (fun c0 c1 => ?_) (fun h => ?_)
      · rw [if_neg one_no]
        split <;> rename_i h
        · rw [if_pos ⟨⟨a0, a1⟩, ⟨b0, b1⟩, ⟨c0, c1⟩, h⟩] at k1 k0
          exact t_X11_restsL ⟨a0, a1⟩ (fun y hy => hy) 4 FU 0 0 (by decide) (by decide) (by decide) (by decide) (FU_pos (by omega)) k1 k0
        · rw [if_neg (fun q => h q.2.2.2)] at k0
          exact k0 rfl
      · rw [if_neg (fun q => h q.2.2.1)] at k0
        rw [if_pos rfl]
        exact k0 rfl
    · rw [if_neg (fun q => h q.2.1)] at k0
      rw [if_pos rfl]
      exact k0 rfl
  · rw [if_neg (fun q => h q.1)] at k0
    rw [if_pos rfl]
    exact k0 rfl
theorem t_X12_restsL {d : Int} {K : Int → St → Prop} (ha : 0 ≤ a ∧ a ≤ 9) (hK : ∀ y : Int, (d = -1 → Q y (up σ 12 0 0 0)) → (d ≠ -1 → Q 0 (up σ 12 0 0 1)) → K y (up σ 12 0 0 0)) : ∀ (m fuel : Nat) (y x : Int), 0 ≤ x → x + m = 4 → 0 ≤ y → y ≤ x → m < fuel → ((rsG (rsP a b c) d m y x).1 = true → Q (rsG (rsP a b c) d m y x).2 (up σ 12 0 0 0)) → ((rsG (rsP a b c) d m y x).1 = false → Q 0 (up σ 12 0 0 1)) → P_X12_rests_L61 a b c d K Q fuel y x (up σ 12 0 0 0)
  | 0, fuel, y, x, x0, hx, y0, y1, hf, k1, k0 => by
    obtain ⟨q, rfl, -⟩ := fu_ex hf
    unfold P_X12_rests_L61
    rw [if_pos (by omega)]
    unfold rsG at k1 k0
    exact hK y (fun h => by rw [if_pos h] at k1; exact k1 rfl) (fun h => by rw [if_neg h] at k0; exact k0 rfl)
  | m + 1, fuel, y, x, x0, hx, y0, y1, hf, k1, k0 => by
    obtain ⟨q, rfl, hq⟩ := fu_ex hf
    obtain ⟨-, -, e3, e4, e5⟩ := half_bits x x0 (by omega)
    unfold P_X12_rests_L61
    rw [if_neg (by omega), wi_id (z := x + 1) (by omega) (by omega), wi_id (z := y + 1) (by omega) (by omega), e5, e3, e4]
    unfold rsG at k1 k0
    refine t_X12_getsBy ha (t_X12_getsBy ha ?_)
    have no : rsP a b c x = false → P_X12_rests_L61 a b c d K Q q y (x + 1) (up σ 12 0 0 0) := fun hp => by
      rw [if_neg (by rw [hp]; decide)] at k1 k0
      exact t_X12_restsL ha hK m q y (x + 1) (by omega) (by omega) (by omega) (by omega) hq k1 k0
    split <;> rename_i h
    · exact no (by unfold rsP atR; rw [decide_eq_true h]; rfl)
    · refine t_X12_getsBy ha (t_X12_getsBy ha ?_)
      split <;> rename_i h'
      · have hp : rsP a b c x = true := by
          unfold rsP atR
          rw [decide_eq_false h, decide_eq_false (p := gtW a b c (x.tmod 2) (x.tdiv 2) < gtW a b c (1 - x.tmod 2) (x.tdiv 2)) (by omega)]
          rfl
        rw [if_pos hp] at k1 k0
        split <;> rename_i h''
        · rw [if_pos h''] at k1
          exact k1 rfl
        · rw [if_neg h''] at k1 k0
          exact t_X12_restsL ha hK m q (y + 1) (x + 1) (by omega) (by omega) (by omega) (by omega) hq k1 k0
      · exact no (by unfold rsP atR; rw [decide_eq_false h, decide_eq_true (p := gtW a b c (x.tmod 2) (x.tdiv 2) < gtW a b c (1 - x.tmod 2) (x.tdiv 2)) (by omega)]; rfl)
theorem up_up {σ : St} {t i : Nat} {x v w : Int} : up (up σ t i x v) t i x w = up σ t i x w := by
  funext t' i' x'
  unfold up
  split <;> rfl
theorem t_X12_rests {d : Int} (k1 : (rsW a b c d).1 = true → Q (rsW a b c d).2 (up σ 12 0 0 0)) (k0 : (rsW a b c d).1 = false → Q 0 (up σ 12 0 0 1)) : P_X12_rests a b c d σ Q := by
  unfold P_X12_rests P_X12_rests_J41
  unfold rsW at k1 k0
  have no : Q 0 (up σ 12 0 0 1) → P_X12_rests_J42 a b c d 1 Q σ := fun h => by
    unfold P_X12_rests_J42
    rw [up_at, if_pos rfl]
    exact h
  refine t_X12_within (fun a0 a1 => ?_) (fun h => ?_)
  · rw [if_neg one_no]
    refine t_X12_within (fun b0 b1 => ?_) (fun h => ?_)
    · rw [if_neg one_no]
      refine t_X12_within (fun c0 c1 => ?_) (fun h => ?_)
      · rw [if_neg one_no]
        split <;> rename_i h
        · rw [if_neg (fun q => by omega)] at k0
          exact no (k0 rfl)
        · rw [if_pos ⟨⟨a0, a1⟩, ⟨b0, b1⟩, ⟨c0, c1⟩, by omega⟩] at k1 k0
          unfold P_X12_rests_J42
          rw [up_at, if_neg (by decide)]
          refine t_X12_restsL ⟨a0, a1⟩ (fun y hy hn => ?_) 4 FU 0 0 (by decide) (by decide) (by decide) (by decide) (FU_pos (by omega)) k1 k0
          unfold P_X12_rests_J163
          rw [up_up, up_up]
          by_cases hd : d = -1
          · rw [if_pos hd, if_pos hd]
            exact hy hd
          · rw [if_neg hd, if_neg hd]
            exact hn hd
      · rw [if_neg (fun q => h q.2.2.1)] at k0
        rw [if_pos rfl]
        exact no (k0 rfl)
    · rw [if_neg (fun q => h q.2.1)] at k0
      rw [if_pos rfl]
      exact no (k0 rfl)
  · rw [if_neg (fun q => h q.1)] at k0
    rw [if_pos rfl]
    exact no (k0 rfl)
end
