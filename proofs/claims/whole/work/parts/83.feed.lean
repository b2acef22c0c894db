/-! 83: the tape is fed -/
theorem i32_low (z : Int) : (Int32.ofInt z &&& Int32.ofInt 255).toInt = z % 256 := by
  have h : (Int32.ofInt z &&& Int32.ofInt 255).toBitVec = BitVec.ofInt 32 z &&& 255#32 := rfl
  have h2 : (BitVec.ofInt 32 z &&& 255#32).toNat = (z % 256).toNat := by
    rw [BitVec.toNat_and, BitVec.toNat_ofInt, show (255#32 : BitVec 32).toNat = 2 ^ 8 - 1 from rfl, Nat.and_two_pow_sub_one_eq_mod]
    have : ((2 ^ 32 : Nat) : Int) = 4294967296 := rfl
    rw [this]
    omega
  show (Int32.ofInt z &&& Int32.ofInt 255).toBitVec.toInt = _
  rw [h, BitVec.toInt_eq_toNat_of_lt (by rw [h2]; omega), h2]
  omega
theorem i64_low (z : Int) : (Int64.ofInt z &&& Int64.ofInt 255).toInt = z % 256 := by
  have h : (Int64.ofInt z &&& Int64.ofInt 255).toBitVec = BitVec.ofInt 64 z &&& 255#64 := rfl
  have h2 : (BitVec.ofInt 64 z &&& 255#64).toNat = (z % 256).toNat := by
    rw [BitVec.toNat_and, BitVec.toNat_ofInt, show (255#64 : BitVec 64).toNat = 2 ^ 8 - 1 from rfl, Nat.and_two_pow_sub_one_eq_mod]
    have : ((2 ^ 64 : Nat) : Int) = 18446744073709551616 := rfl
    rw [this]
    omega
  show (Int64.ofInt z &&& Int64.ofInt 255).toBitVec.toInt = _
  rw [h, BitVec.toInt_eq_toNat_of_lt (by rw [h2]; omega), h2]
  omega
theorem bA_255 (z : Int) : bA (wi z) 255 = z % 256 := by
  unfold bA
  rw [i32_low]
  have h := Int.bmod_emod (x := z) (m := 4294967296)
  unfold wi
  omega
theorem lA_255 (z : Int) : wi (lA z 255) = z % 256 := by
  unfold lA
  rw [i64_low, wi_id (by omega) (by omega)]
theorem ic_id {x : Int} (h0 : 0 ≤ x) (h1 : x < 256) : ic x = x := by
  have h : ∀ i : Fin 256, ic (i.val : Int) = i.val := by decide +kernel
  have := h ⟨x.toNat, by omega⟩
  dsimp only at this
  rwa [Int.toNat_of_nonneg h0] at this
theorem bA_7 : ∀ i : Fin 24, bA (i.val : Int) 7 = ((i.val % 8 : Nat) : Int) := by decide +kernel
/-- the tape: how many signs, which -/
abbrev Tp : Type := Int × (Int → Int)
def fdB (b : Int) (y : Tp) : Tp := if (b = 10 ∨ (32 ≤ b ∧ b ≤ 126)) ∧ y.1 < 1000 then (y.1 + 1, upr y.2 y.1 b) else y
/-- the i-th byte of a -/
def byt (a i : Int) : Int := lU a (56 - 8 * i) % 256
def fd8 (a : Int) (y : Tp) : Tp := itr (fun i y => fdB (byt a i) y) 8 0 y
def WfT (y : Tp) : Prop := (0 ≤ y.1 ∧ y.1 ≤ 1000) ∧ ∀ j : Int, 0 ≤ j → j < y.1 → y.2 j = 10 ∨ (32 ≤ y.2 j ∧ y.2 j ≤ 126)
theorem WfT_B {b : Int} {y : Tp} (h : WfT y) : WfT (fdB b y) := by
  unfold fdB
  split
  · rename_i hb
    obtain ⟨h0, h1⟩ := h
    refine ⟨by dsimp only; omega, fun j j0 j1 => ?_⟩
    dsimp only at j1 ⊢
    by_cases e : j = y.1
    · rw [e, upr_at]; exact hb.1
    · rw [upr_ne e]; exact h1 j j0 (by omega)
  · exact h
theorem WfT_8 {a : Int} {y : Tp} (h : WfT y) : WfT (fd8 a y) := itr_inv (f := fun i y => fdB (byt a i) y) (fun _ y => WfT y) 8 0 y h (fun _ _ _ _ hb => WfT_B hb)
def TpC (σ : St) (y : Tp) : Prop := σ 10 0 4 = y.1 ∧ ∀ j : Int, 0 ≤ j → j < y.1 → σ 1100 0 j = y.2 j
def TpA (σ : St) (y : Tp) : Prop := σ 12 0 1 = y.1 ∧ ∀ j : Int, 0 ≤ j → j < y.1 → σ 1302 0 j = y.2 j
def fdA11 : List Reg := [(1100, 0, none), (10, 0, some 4)]
def fdA12 : List Reg := [(1302, 0, none), (12, 0, some 0), (12, 0, some 1)]
section
variable {σ : St}
theorem t_X10_addBytes {a : Int} {y : Tp} {τ : St} {Q : St → Prop} (hT : TpC τ y) (hW : WfT y) (hs : Sm fdA11 σ τ) (k : ∀ σ', Sm fdA11 σ σ' → TpC σ' (fd8 a y) → Q σ') : P_X10_addBytes a τ Q := by
  unfold P_X10_addBytes
  refine loopI (X := St) (F := fun n' i υ => P_X10_addBytes_L3 a Q n' (56 - 8 * i) υ) (N := 8) (fun i υ => Sm fdA11 σ υ ∧ TpC υ (itr (fun i y => fdB (byt a i) y) (i - 0).toNat 0 y) ∧ WfT (itr (fun i y => fdB (byt a i) y) (i - 0).toNat 0 y)) ?_ ?_ 8 0 τ FU (Int.le_refl 0) (by omega) (FU_pos (by omega)) ⟨hs, hT, (by rw [show ((0 : Int) - 0).toNat = 0 from rfl]; exact hW)⟩
  · rintro n' i υ i0 i1 ⟨hs2, hc, hw⟩ k'
    rw [itr_i i0] at k'
    generalize itr (fun i y => fdB (byt a i) y) (i - 0).toNat 0 y = y' at hc hw k'
    have k' := fun υ h1 h2 => k' υ ⟨h1, h2, WfT_B hw⟩
    obtain ⟨hw0, hw1⟩ := hw
    have hb : byt a i = lU a (56 - 8 * i) % 256 := rfl
    have hbr : 0 ≤ byt a i ∧ byt a i < 256 := by rw [hb]; omega
    unfold P_X10_addBytes_L3 P_X10_addBytes_J36 P_X10_addBytes_J41
    rw [if_neg (by omega), bA_255, ← hb, show 56 - 8 * i + (-8) = 56 - 8 * (i + 1) by omega, wi_id (z := 56 - 8 * (i + 1)) (by omega) (by omega), ic_id hbr.1 hbr.2, up_nt (t' := 10) (t := 1100) rfl, hc.1, wi_id (z := y'.1 + 1) (by omega) (by omega)]
    have yes : byt a i = 10 ∨ (32 ≤ byt a i ∧ byt a i ≤ 126) → (if 1000 ≤ y'.1 then P_X10_addBytes_L3 a Q n' (56 - 8 * (i + 1)) υ else 0 ≤ y'.1 ∧ y'.1 < 1000 ∧ 0 ≤ byt a i ∧ byt a i < 65536 ∧ P_X10_addBytes_L3 a Q n' (56 - 8 * (i + 1)) (up (up υ 1100 0 y'.1 (byt a i)) 10 0 4 (y'.1 + 1))) := by
      intro hy
      by_cases h1 : 1000 ≤ y'.1
      · rw [if_pos h1]
        refine k' υ hs2 ?_
        unfold fdB
        rw [if_neg (by omega)]
        exact hc
      · rw [if_neg h1]
        refine ⟨hw0.1, by omega, hbr.1, by omega, k' _ (Sm_up (Sm_up hs2 rfl) rfl) ?_⟩
        unfold fdB
        rw [if_pos ⟨hy, by omega⟩]
        refine ⟨up_at, fun j j0 j1 => ?_⟩
        dsimp only at j1 ⊢
        rw [up_nt rfl]
        by_cases e : j = y'.1
        · rw [e, up_at, upr_at]
        · rw [up_nx e, upr_ne e]; exact hc.2 j j0 (by omega)
    by_cases h10 : byt a i = 10
    · rw [if_pos h10, if_neg one_no]
      exact yes (Or.inl h10)
    · rw [if_neg h10]
      refine t_X11_within (fun p q => ?_) (fun h => ?_)
      · rw [if_neg one_no, if_neg one_no, up_nt (t' := 10) (t := 1100) rfl, hc.1, wi_id (z := y'.1 + 1) (by omega) (by omega)]
        exact yes (Or.inr ⟨p, q⟩)
      · rw [if_pos rfl, if_pos rfl]
        refine k' υ hs2 ?_
        unfold fdB
        rw [if_neg (by omega)]
        exact hc
  · rintro n' υ ⟨hs2, hc, hw⟩
    unfold P_X10_addBytes_L3
    rw [if_pos (by omega)]
    exact k υ hs2 hc
def fdW (a b c : Int) (y : Tp) : Tp := fd8 c (fd8 b (fd8 a y))
theorem t_X11_feed {a b c : Int} {y : Tp} {Q : Int → St → Prop} (hT : TpC σ y) (hW : WfT y) (k : ∀ σ', Sm fdA11 σ σ' → TpC σ' (fdW a b c y) → Q (fdW a b c y).1 σ') : P_X11_feed a b c σ Q := by
  unfold P_X11_feed
  refine t_X10_addBytes hT hW Sm.rf (fun σ1 s1 c1 => ?_)
  refine t_X10_addBytes c1 (WfT_8 hW) s1 (fun σ2 s2 c2 => ?_)
  refine t_X10_addBytes c2 (WfT_8 (WfT_8 hW)) s2 (fun σ3 s3 c3 => ?_)
  have c3 : TpC σ3 (fdW a b c y) := c3
  rw [c3.1]
  exact k σ3 s3 c3
theorem itr_app {A : Type} {f : Int → A → A} : ∀ (u v : Nat) (i : Int) (a : A), itr f (u + v) i a = itr f v (i + u) (itr f u i a)
  | 0, v, i, a => by rw [Nat.zero_add]; simp [itr]
  | u + 1, v, i, a => by
    rw [show u + 1 + v = (u + v) + 1 by omega]
    show itr f (u + v) (i + 1) (f i a) = _
    rw [itr_app u v]
    show _ = itr f v (i + ((u + 1 : Nat) : Int)) (itr f u (i + 1) (f i a))
    congr 1
    omega
theorem itr_sh {A : Type} {f g : Int → A → A} {d : Int} : ∀ (m : Nat) (i : Int) (a : A), (∀ (j : Int) (b : A), i ≤ j → j < i + m → f (j + d) b = g j b) → itr f m (i + d) a = itr g m i a
  | 0, _, _, _ => rfl
  | m + 1, i, a, h => by
    show itr f m (i + d + 1) (f (i + d) a) = itr g m (i + 1) (g i a)
    rw [h i a (Int.le_refl i) (by omega), show i + d + 1 = i + 1 + d by omega]
    exact itr_sh m (i + 1) _ (fun j b h1 h2 => h j b (by omega) (by omega))
/-- the k-th byte of the three -/
def by3 (a b c i : Int) : Int := if i < 8 then byt a i else if i < 16 then byt b (i - 8) else byt c (i - 16)
theorem fdW_24 {a b c : Int} {y : Tp} : fdW a b c y = itr (fun i y => fdB (by3 a b c i) y) 24 0 y := by
  rw [show (24 : Nat) = 8 + (8 + 8) from rfl, itr_app, itr_app]
  unfold fdW fd8
  have e1 : itr (fun i y => fdB (by3 a b c i) y) 8 0 y = itr (fun i y => fdB (byt a i) y) 8 0 y := itr_congr 8 0 y (fun j q h1 h2 => by
    unfold by3
    rw [if_pos (by omega)])
  rw [e1]
  generalize itr (fun i y => fdB (byt a i) y) 8 0 y = y1
  have e2 : itr (fun i y => fdB (by3 a b c i) y) 8 (0 + ((8 : Nat) : Int)) y1 = itr (fun i y => fdB (byt b i) y) 8 0 y1 := itr_sh (d := 8) 8 0 y1 (fun j q h1 h2 => by
    unfold by3
    rw [if_neg (by omega), if_pos (by omega), show j + 8 - 8 = j by omega])
  rw [e2]
  generalize itr (fun i y => fdB (byt b i) y) 8 0 y1 = y2
  have e3 : itr (fun i y => fdB (by3 a b c i) y) 8 (0 + ((8 : Nat) : Int) + ((8 : Nat) : Int)) y2 = itr (fun i y => fdB (byt c i) y) 8 0 y2 := itr_sh (d := 16) 8 0 y2 (fun j q h1 h2 => by
    unfold by3
    rw [if_neg (by omega), if_neg (by omega), show j + 16 - 16 = j by omega])
  rw [e3]
theorem t_X12_feed {a b c : Int} {y : Tp} {Q : Int → St → Prop} (hT : TpA σ y) (hW : WfT y) (k : ∀ σ', Sm fdA12 σ σ' → TpA σ' (fdW a b c y) → Q (fdW a b c y).1 σ') : P_X12_feed a b c σ Q := by
  unfold P_X12_feed
  rw [fdW_24] at k
  refine loopI (X := St) (F := fun n' i υ => P_X12_feed_L8 a b c Q n' i υ) (N := 24) (fun i υ => Sm fdA12 σ υ ∧ TpA υ (itr (fun i y => fdB (by3 a b c i) y) (i - 0).toNat 0 y) ∧ WfT (itr (fun i y => fdB (by3 a b c i) y) (i - 0).toNat 0 y)) ?_ ?_ 24 0 (up σ 12 0 0 0) FU (Int.le_refl 0) (by omega) (FU_pos (by omega)) ⟨Sm_up Sm.rf rfl, ⟨by rw [up_nx (by decide)]; exact hT.1, fun j j0 j1 => by rw [up_nt rfl]; exact hT.2 j j0 j1⟩, (by rw [show ((0 : Int) - 0).toNat = 0 from rfl]; exact hW)⟩
  · rintro n' i υ i0 i1 ⟨hs2, hc, hw⟩ k'
    rw [itr_i i0] at k'
    generalize itr (fun i y => fdB (by3 a b c i) y) (i - 0).toNat 0 y = y' at hc hw k'
    have k' := fun υ h1 h2 => k' υ ⟨h1, h2, WfT_B hw⟩
    obtain ⟨hw0, hw1⟩ := hw
    have h7 : bA i 7 = ((i.toNat % 8 : Nat) : Int) := by
      have := bA_7 ⟨i.toNat, by omega⟩
      dsimp only at this
      rwa [Int.toNat_of_nonneg i0] at this
    have fin : ∀ w : Int, lU w (56 - 8 * ((i.toNat % 8 : Nat) : Int)) % 256 = by3 a b c i → P_X12_feed_J39 a b c i w (P_X12_feed_L8 a b c Q n') Q υ := by
      intro w hw
      have hbr : 0 ≤ by3 a b c i ∧ by3 a b c i < 256 := by rw [← hw]; omega
      unfold P_X12_feed_J39 P_X12_feed_J93
      rw [h7, wi_id (z := 8 * ((i.toNat % 8 : Nat) : Int)) (by omega) (by omega), wi_id (z := 56 - 8 * ((i.toNat % 8 : Nat) : Int)) (by omega) (by omega), lA_255, hw, wi_id (z := i + 1) (by omega) (by omega), up_nt (t' := 12) (t := 1302) rfl, hc.1, wi_id (z := y'.1 + 1) (by omega) (by omega)]
      by_cases h1 : 1000 ≤ y'.1
      · rw [if_pos h1]
        refine k' υ hs2 ?_
        unfold fdB
        rw [if_neg (by omega)]
        exact hc
      · rw [if_neg h1]
        have yes : by3 a b c i = 10 ∨ (32 ≤ by3 a b c i ∧ by3 a b c i ≤ 126) → 0 ≤ y'.1 ∧ y'.1 < 1000 ∧ P_X12_feed_L8 a b c Q n' (i + 1) (up (up υ 1302 0 y'.1 (by3 a b c i)) 12 0 1 (y'.1 + 1)) := by
          intro hy
          refine ⟨hw0.1, by omega, k' _ (Sm_up (Sm_up hs2 rfl) rfl) ?_⟩
          unfold fdB
          rw [if_pos ⟨hy, by omega⟩]
          refine ⟨up_at, fun j j0 j1 => ?_⟩
          dsimp only at j1 ⊢
          rw [up_nt rfl]
          by_cases e : j = y'.1
          · rw [e, up_at, upr_at]
          · rw [up_nx e, upr_ne e]; exact hc.2 j j0 (by omega)
        have no : ¬ (by3 a b c i = 10 ∨ (32 ≤ by3 a b c i ∧ by3 a b c i ≤ 126)) → P_X12_feed_L8 a b c Q n' (i + 1) υ := by
          intro hn
          refine k' υ hs2 ?_
          unfold fdB
          rw [if_neg (fun q => hn q.1)]
          exact hc
        by_cases h10 : by3 a b c i = 10
        · rw [if_pos h10]
          exact yes (Or.inl h10)
        · rw [if_neg h10]
          by_cases h32 : by3 a b c i < 32
          · rw [if_pos h32]
            exact no (by omega)
          · rw [if_neg h32]
            by_cases h126 : 126 < by3 a b c i
            · rw [if_pos h126]
              exact no (by omega)
            · rw [if_neg h126]
              exact yes (by omega)
    unfold P_X12_feed_L8
    rw [if_neg (by omega)]
    have hn8 : (i.toNat : Int) = i := Int.toNat_of_nonneg i0
    by_cases h8 : 8 ≤ i
    · rw [if_pos h8]
      by_cases h16 : 16 ≤ i
      · rw [if_pos h16]
        refine fin c ?_
        unfold by3 byt
        rw [if_neg (by omega), if_neg (by omega)]
        congr 2
        omega
      · rw [if_neg h16]
        refine fin b ?_
        unfold by3 byt
        rw [if_neg (by omega), if_pos (by omega)]
        congr 2
        omega
    · rw [if_neg h8]
      refine fin a ?_
      unfold by3 byt
      rw [if_pos (by omega)]
      congr 2
      omega
  · rintro n' υ ⟨hs2, hc, hw⟩
    unfold P_X12_feed_L8
    rw [if_pos (by omega), hc.1]
    exact k υ hs2 hc
end
