section ERules
variable {Y : My} {d mc ms : Nat} {Q : Option AV → Wd → St → Prop} {B : Wd} {k n pc : Nat} {ls : List (Option AV)} {st : List AV} {σ : St}
theorem rl_i {B : Wd} {ad : Ad} {v : Value} {z : Int} (h : rl B ad v (vI z)) : ∃ x : Int32, v = .int x ∧ x.toInt = z := h
theorem rl_l {B : Wd} {ad : Ad} {v : Value} {z : Int} (h : rl B ad v (vL z)) : ∃ x : Int64, v = .long x ∧ x.toInt = z := h
theorem rl_r {B : Wd} {ad : Ad} {v : Value} {t i : Nat} (h : rl B ad v (vR t i)) : ((t, i) ∈ B.1 ∨ Out (t, i)) ∧ v = .ref (ad t i) := h
theorem rl_int {B : Wd} {ad : Ad} (x : Int32) {z : Int} (h : x.toInt = z) : rl B ad (.int x) (vI z) := ⟨x, rfl, h⟩
theorem rl_lng {B : Wd} {ad : Ad} (x : Int64) {z : Int} (h : x.toInt = z) : rl B ad (.long x) (vL z) := ⟨x, rfl, h⟩
/-- fewer known locals -/
theorem E_wk (ls' : List (Option AV)) (h : ∀ (i : Nat) (a : AV), ls'[i]? = some (some a) → ls[i]? = some (some a)) (kk : E Y d mc ms Q B k n pc ls' st σ) : E Y d mc ms Q B k n pc ls st σ := by
  intro p l e s m args below meth c H locs cs D A ad ad0 B0 lc sc hC hK hA hS hR hX hl hs
  exact kk p l e s m args below meth c H locs cs D A ad ad0 B0 lc sc hC hK hA hS hR hX ⟨hl.1, hl.2.1, fun i a q => hl.2.2 i a (h i a q)⟩ hs
theorem E_widen {k' n' : Nat} (hk : k ≤ k') (hn : n ≤ n') (kk : E Y d mc ms Q B k' n' pc ls st σ) : E Y d mc ms Q B k n pc ls st σ := by
  intro p l e s m args below meth c H locs cs D A ad ad0 B0 lc sc hC hK hA hS hR hX hl hs
  exact W.widen hk hn (kk p l e s m args below meth c H locs cs D A ad ad0 B0 lc sc hC hK hA hS hR hX hl hs)
/-- an instruction that only moves numbers: from concrete to concrete -/
theorem E_lift {pc' : Nat} {ls' : List (Option AV)} {st' : List AV} {σ' : St}
    (h : ∀ (p : Program) (l : Launch) (e : Env) (s : State) (m : MethodId) (args : Array Value) (below : List Frame) (meth : Method) (c : Code) (H : Heap) (locs : List Loc) (cs : Nat → ClassId) (D : va_G) (A : Nat → Prop) (ad : Ad) (Z : State → Prop) (lc : Array Slot) (sc : List Value),
      Cx Y p s m args meth c → Kx cs D A ad s s.heap → va_S A s.heap H locs → Rep cs D A B ad σ H → lr B ad lc Y.2.2.1 ls → sr B ad sc st →
      (∀ (H' : Heap) (locs' : List Loc) (lc' : Array Slot) (sc' : List Value), va_S A s.heap H' locs' → Rep cs D A B ad σ' H' → lr B ad lc' Y.2.2.1 ls' → sr B ad sc' st' → W p l e (rmo d mc ms) s m args below meth c H' locs' k n Z (F0 m pc' lc' sc')) →
      W p l e (rmo d mc ms) s m args below meth c H locs k n Z (F0 m pc lc sc))
    (kk : E Y d mc ms Q B k n pc' ls' st' σ') : E Y d mc ms Q B k n pc ls st σ := by
  intro p l e s m args below meth c H locs cs D A ad ad0 B0 lc sc hC hK hA hS hR hX hl hs
  exact h p l.1 e s m args below meth c H locs cs D A ad _ lc sc hC hK hS hR hl hs (fun H' locs' lc' sc' hS' hR' hl' hs' => kk p l e s m args below meth c H' locs' cs D A ad ad0 B0 lc' sc' hC hK hA hS' hR' hX hl' hs')
theorem sr_1 {B : Wd} {ad : Ad} {sc : List Value} {a : AV} {as : List AV} (h : sr B ad sc (a :: as)) : ∃ v vs, sc = v :: vs ∧ rl B ad v a ∧ sr B ad vs as := by
  match sc, h with
  | v :: vs, h => exact ⟨v, vs, rfl, h.1, h.2⟩
theorem E_iconst {z : Int} {nn : Int} (hd : decode Y.2.1 pc = .ok (.iconst nn, 1)) (hz : (Int32.ofInt nn).toInt = z) (kk : E Y d mc ms Q B k n (pc + 1) ls (vI z :: st) σ) : E Y d mc ms Q B k n pc ls st σ := by
  refine E_lift ?_ kk
  intro p l e s m args below meth c H locs cs D A ad Z lc sc hC hK hS hR hl hs kk
  exact lv_iconst hC.1 hC.2.1 hd rfl (kk H locs lc _ hS hR hl ⟨rl_int _ hz, hs⟩)
theorem E_bipush {z nn : Int} (hd : decode Y.2.1 pc = .ok (.bipush nn, 2)) (hz : ((Int8.ofInt nn).toInt32).toInt = z) (kk : E Y d mc ms Q B k n (pc + 2) ls (vI z :: st) σ) : E Y d mc ms Q B k n pc ls st σ := by
  refine E_lift ?_ kk
  intro p l e s m args below meth c H locs cs D A ad Z lc sc hC hK hS hR hl hs kk
  exact lv_bipush hC.1 hC.2.1 hd rfl (kk H locs lc _ hS hR hl ⟨rl_int _ hz, hs⟩)
theorem E_sipush {z nn : Int} (hd : decode Y.2.1 pc = .ok (.sipush nn, 3)) (hz : ((Int16.ofInt nn).toInt32).toInt = z) (kk : E Y d mc ms Q B k n (pc + 3) ls (vI z :: st) σ) : E Y d mc ms Q B k n pc ls st σ := by
  refine E_lift ?_ kk
  intro p l e s m args below meth c H locs cs D A ad Z lc sc hC hK hS hR hl hs kk
  exact lv_sipush hC.1 hC.2.1 hd rfl (kk H locs lc _ hS hR hl ⟨rl_int _ hz, hs⟩)
theorem E_lconst {z : Int} {nn : Fin 2} (hd : decode Y.2.1 pc = .ok (.lconst nn, 1)) (hz : (Int64.ofNat (nn : Nat)).toInt = z) (kk : E Y d mc ms Q B k n (pc + 1) ls (vL z :: st) σ) : E Y d mc ms Q B k n pc ls st σ := by
  refine E_lift ?_ kk
  intro p l e s m args below meth c H locs cs D A ad Z lc sc hC hK hS hR hl hs kk
  exact lv_lconst hC.1 hC.2.1 hd rfl (kk H locs lc _ hS hR hl ⟨rl_lng _ hz, hs⟩)
theorem E_ldc {index : Nat} {v : Int32} {z : Int} (hd : decode Y.2.1 pc = .ok (.ldc index, 2)) (hw : Cond.constant Y.1.cls index v ∈ tG) (hz : v.toInt = z) (kk : E Y d mc ms Q B k n (pc + 2) ls (vI z :: st) σ) : E Y d mc ms Q B k n pc ls st σ := by
  refine E_lift ?_ kk
  intro p l e s m args below meth c H locs cs D A ad Z lc sc hC hK hS hR hl hs kk
  exact lv_ldc hC.1 hC.2.1 hC.2.2.2.2.1 (hC.2.2.2.2.2.1 _ hw) hd (kk H locs lc _ hS hR hl ⟨rl_int _ hz, hs⟩)
theorem E_ldc2 {index : Nat} {v : Int64} {z : Int} (hd : decode Y.2.1 pc = .ok (.ldc2_w index, 3)) (hw : Cond.constantLong Y.1.cls index v ∈ tG) (hz : v.toInt = z) (kk : E Y d mc ms Q B k n (pc + 3) ls (vL z :: st) σ) : E Y d mc ms Q B k n pc ls st σ := by
  refine E_lift ?_ kk
  intro p l e s m args below meth c H locs cs D A ad Z lc sc hC hK hS hR hl hs kk
  exact lv_ldc2 hC.1 hC.2.1 hC.2.2.2.2.1 (hC.2.2.2.2.2.1 _ hw) hd (kk H locs lc _ hS hR hl ⟨rl_lng _ hz, hs⟩)
theorem E_iload {i : Nat} {z : Int} (hd : decode Y.2.1 pc = .ok (.iload i, 2)) (hi : ls[i]? = some (some (vI z))) (kk : E Y d mc ms Q B k n (pc + 2) ls (vI z :: st) σ) : E Y d mc ms Q B k n pc ls st σ := by
  refine E_lift ?_ kk
  intro p l e s m args below meth c H locs cs D A ad Z lc sc hC hK hS hR hl hs kk
  obtain ⟨v, h1, x, rfl, hx⟩ := hl.2.2 i _ hi
  exact lv_iload hC.1 hC.2.1 hd h1 (kk H locs lc _ hS hR hl ⟨rl_int x hx, hs⟩)
theorem E_iload_n {q : Fin 4} {i : Nat} {z : Int} (hd : decode Y.2.1 pc = .ok (.iload_n q, 1)) (hq : (q : Nat) = i) (hi : ls[i]? = some (some (vI z))) (kk : E Y d mc ms Q B k n (pc + 1) ls (vI z :: st) σ) : E Y d mc ms Q B k n pc ls st σ := by
  refine E_lift ?_ kk
  intro p l e s m args below meth c H locs cs D A ad Z lc sc hC hK hS hR hl hs kk
  obtain ⟨v, h1, x, rfl, hx⟩ := hl.2.2 i _ hi
  exact lv_iload_n hC.1 hC.2.1 hd hq h1 (kk H locs lc _ hS hR hl ⟨rl_int x hx, hs⟩)
theorem E_lload {i : Nat} {z : Int} (hd : decode Y.2.1 pc = .ok (.lload i, 2)) (hi : ls[i]? = some (some (vL z))) (kk : E Y d mc ms Q B k n (pc + 2) ls (vL z :: st) σ) : E Y d mc ms Q B k n pc ls st σ := by
  refine E_lift ?_ kk
  intro p l e s m args below meth c H locs cs D A ad Z lc sc hC hK hS hR hl hs kk
  obtain ⟨v, h1, x, rfl, hx⟩ := hl.2.2 i _ hi
  exact lv_lload hC.1 hC.2.1 hd h1 (kk H locs lc _ hS hR hl ⟨rl_lng x hx, hs⟩)
theorem E_lload_n {q : Fin 4} {i : Nat} {z : Int} (hd : decode Y.2.1 pc = .ok (.lload_n q, 1)) (hq : (q : Nat) = i) (hi : ls[i]? = some (some (vL z))) (kk : E Y d mc ms Q B k n (pc + 1) ls (vL z :: st) σ) : E Y d mc ms Q B k n pc ls st σ := by
  refine E_lift ?_ kk
  intro p l e s m args below meth c H locs cs D A ad Z lc sc hC hK hS hR hl hs kk
  obtain ⟨v, h1, x, rfl, hx⟩ := hl.2.2 i _ hi
  exact lv_lload_n hC.1 hC.2.1 hd hq h1 (kk H locs lc _ hS hR hl ⟨rl_lng x hx, hs⟩)
theorem E_aload {i t j : Nat} (hd : decode Y.2.1 pc = .ok (.aload i, 2)) (hi : ls[i]? = some (some (vR t j))) (kk : E Y d mc ms Q B k n (pc + 2) ls (vR t j :: st) σ) : E Y d mc ms Q B k n pc ls st σ := by
  refine E_lift ?_ kk
  intro p l e s m args below meth c H locs cs D A ad Z lc sc hC hK hS hR hl hs kk
  obtain ⟨v, h1, hx, rfl⟩ := hl.2.2 i _ hi
  exact lv_aload hC.1 hC.2.1 hd h1 (kk H locs lc _ hS hR hl ⟨⟨hx, rfl⟩, hs⟩)
theorem E_aload_n {q : Fin 4} {i t j : Nat} (hd : decode Y.2.1 pc = .ok (.aload_n q, 1)) (hq : (q : Nat) = i) (hi : ls[i]? = some (some (vR t j))) (kk : E Y d mc ms Q B k n (pc + 1) ls (vR t j :: st) σ) : E Y d mc ms Q B k n pc ls st σ := by
  refine E_lift ?_ kk
  intro p l e s m args below meth c H locs cs D A ad Z lc sc hC hK hS hR hl hs kk
  obtain ⟨v, h1, hx, rfl⟩ := hl.2.2 i _ hi
  exact lv_aload_n hC.1 hC.2.1 hd hq h1 (kk H locs lc _ hS hR hl ⟨⟨hx, rfl⟩, hs⟩)
/-- stores into locals -/
def kil (ls : List (Option AV)) (i : Nat) : List (Option AV) := match i with
  | 0 => ls
  | i + 1 => match ls[i]? with
    | some (some (.inr (.inl _))) => ls.set i none
    | _ => ls
def sto1 (ls : List (Option AV)) (i : Nat) (a : AV) : List (Option AV) := (kil ls i).set i (some a)
def sto2 (ls : List (Option AV)) (i : Nat) (a : AV) : List (Option AV) := ((kil ls i).set i (some a)).set (i + 1) none
def allv (lc : Array Slot) : List (Nat × Value) := (List.range lc.size).filterMap (fun i => match (lc[i]? : Option Slot) with | some (Slot.val v) => some (i, v) | _ => none)
theorem allv_in {lc : Array Slot} {i : Nat} {v : Value} : (i, v) ∈ allv lc ↔ lc[i]? = some (.val v) := by
  unfold allv
  rw [List.mem_filterMap]
  constructor
  · rintro ⟨j, -, h⟩
    split at h
    · rename_i w hw
      cases h
      exact hw
    · cases h
  · intro h
    refine ⟨i, List.mem_range.mpr (Array.getElem?_eq_some_iff.mp h).1, ?_⟩
    rw [h]
theorem allv_has {lc : Array Slot} {nn : Nat} (h : lc.size = nn) (hw : lv_wf lc) : lv_has lc nn (allv lc) := ⟨h, hw, fun q hq => allv_in.mp hq⟩
theorem kil_get {ls : List (Option AV)} {i j : Nat} {a : AV} (h : (kil ls i)[j]? = some (some a)) : ls[j]? = some (some a) ∧ ¬ (j + 1 = i ∧ ∃ z, a = vL z) := by
  unfold kil at h
  split at h
  · exact ⟨h, fun q => by omega⟩
  · rename_i i'
    split at h
    · rename_i z hz
      by_cases e : i' = j
      · subst e
        rw [List.getElem?_set] at h
        simp at h
      · rw [List.getElem?_set_ne e] at h
        exact ⟨h, fun q => e (by omega)⟩
    · rename_i hne
      refine ⟨h, ?_⟩
      rintro ⟨e, z, rfl⟩
      have : j = i' := by omega
      subst this
      exact hne z h
theorem lr_sto1 {ad : Ad} {lc lc' : Array Slot} {i : Nat} {v : Value} {a : AV} (h : lr B ad lc Y.2.2.1 ls) (hv : rl B ad v a) (h' : lv_has lc' Y.2.2.1 ((i, v) :: (allv lc).filter (fun q => !(q.1 == i) && !(q.1 + 1 == i && q.2.category == 2)))) : lr B ad lc' Y.2.2.1 (sto1 ls i a) := by
  refine ⟨h'.1, h'.2.1, fun j b hb => ?_⟩
  unfold sto1 at hb
  by_cases e : i = j
  · subst e
    rw [List.getElem?_set] at hb
    simp at hb
    obtain ⟨-, rfl⟩ := hb
    exact ⟨v, h'.2.2 (i, v) List.mem_cons_self, hv⟩
  · rw [List.getElem?_set_ne e] at hb
    obtain ⟨h1, h2⟩ := kil_get hb
    obtain ⟨w, hw1, hw2⟩ := h.2.2 j b h1
    refine ⟨w, h'.2.2 (j, w) (List.mem_cons_of_mem _ (List.mem_filter.mpr ⟨allv_in.mpr hw1, ?_⟩)), hw2⟩
    simp only [Bool.and_eq_true, Bool.not_eq_true', beq_eq_false_iff_ne, ne_eq, Bool.and_eq_false_iff]
    refine ⟨fun q => e q.symm, ?_⟩
    by_cases e2 : j + 1 = i
    · right
      intro hc
      apply h2
      refine ⟨e2, ?_⟩
      match b, hw2 with
      | .inl z, hw2 => obtain ⟨x, rfl, -⟩ := hw2; simp [Value.category] at hc
      | .inr (.inl z), hw2 => exact ⟨z, rfl⟩
      | .inr (.inr r), hw2 => obtain ⟨-, rfl⟩ := hw2; simp [Value.category] at hc
    · left
      exact e2
theorem lr_sto2 {ad : Ad} {lc lc' : Array Slot} {i : Nat} {v : Value} {a : AV} (h : lr B ad lc Y.2.2.1 ls) (hv : rl B ad v a) (h' : lv_has lc' Y.2.2.1 ((i, v) :: (allv lc).filter (fun q => !(q.1 == i) && (!(q.1 == i + 1) && !(q.1 + 1 == i && q.2.category == 2))))) : lr B ad lc' Y.2.2.1 (sto2 ls i a) := by
  refine ⟨h'.1, h'.2.1, fun j b hb => ?_⟩
  unfold sto2 at hb
  by_cases e0 : i + 1 = j
  · subst e0
    rw [List.getElem?_set] at hb
    simp at hb
  rw [List.getElem?_set_ne e0] at hb
  by_cases e : i = j
  · subst e
    rw [List.getElem?_set] at hb
    simp at hb
    obtain ⟨-, rfl⟩ := hb
    exact ⟨v, h'.2.2 (i, v) List.mem_cons_self, hv⟩
  · rw [List.getElem?_set_ne e] at hb
    obtain ⟨h1, h2⟩ := kil_get hb
    obtain ⟨w, hw1, hw2⟩ := h.2.2 j b h1
    refine ⟨w, h'.2.2 (j, w) (List.mem_cons_of_mem _ (List.mem_filter.mpr ⟨allv_in.mpr hw1, ?_⟩)), hw2⟩
    simp only [Bool.and_eq_true, Bool.not_eq_true', beq_eq_false_iff_ne, ne_eq, Bool.and_eq_false_iff]
    refine ⟨fun q => e q.symm, fun q => e0 q.symm, ?_⟩
    by_cases e2 : j + 1 = i
    · right
      intro hc
      apply h2
      refine ⟨e2, ?_⟩
      match b, hw2 with
      | .inl z, hw2 => obtain ⟨x, rfl, -⟩ := hw2; simp [Value.category] at hc
      | .inr (.inl z), hw2 => exact ⟨z, rfl⟩
      | .inr (.inr r), hw2 => obtain ⟨-, rfl⟩ := hw2; simp [Value.category] at hc
    · left
      exact e2
theorem E_istore {i : Nat} {z : Int} {ls' : List (Option AV)} (hd : decode Y.2.1 pc = .ok (.istore i, 2)) (hn : i < Y.2.2.1) (hl' : sto1 ls i (vI z) = ls') (kk : E Y d mc ms Q B k n (pc + 2) ls' st σ) : E Y d mc ms Q B k n pc ls (vI z :: st) σ := by
  subst hl'
  refine E_lift ?_ kk
  intro p l e s m args below meth c H locs cs D A ad Z lc sc hC hK hS hR hl hs kk
  obtain ⟨v, vs, rfl, ⟨x, rfl, hx⟩, hs2⟩ := sr_1 hs
  exact lv_istore hC.1 hC.2.1 hd (allv_has hl.1 hl.2.1) hn rfl (fun lc' h' => kk H locs lc' vs hS hR (lr_sto1 hl (rl_int x hx) h') hs2)
theorem E_istore_n {q : Fin 4} {i : Nat} {z : Int} {ls' : List (Option AV)} (hd : decode Y.2.1 pc = .ok (.istore_n q, 1)) (hq : (q : Nat) = i) (hn : i < Y.2.2.1) (hl' : sto1 ls i (vI z) = ls') (kk : E Y d mc ms Q B k n (pc + 1) ls' st σ) : E Y d mc ms Q B k n pc ls (vI z :: st) σ := by
  subst hl'
  refine E_lift ?_ kk
  intro p l e s m args below meth c H locs cs D A ad Z lc sc hC hK hS hR hl hs kk
  obtain ⟨v, vs, rfl, ⟨x, rfl, hx⟩, hs2⟩ := sr_1 hs
  exact lv_istore_n hC.1 hC.2.1 hd hq (allv_has hl.1 hl.2.1) hn rfl (fun lc' h' => kk H locs lc' vs hS hR (lr_sto1 hl (rl_int x hx) h') hs2)
theorem E_lstore {i : Nat} {z : Int} {ls' : List (Option AV)} (hd : decode Y.2.1 pc = .ok (.lstore i, 2)) (hn : i + 1 < Y.2.2.1) (hl' : sto2 ls i (vL z) = ls') (kk : E Y d mc ms Q B k n (pc + 2) ls' st σ) : E Y d mc ms Q B k n pc ls (vL z :: st) σ := by
  subst hl'
  refine E_lift ?_ kk
  intro p l e s m args below meth c H locs cs D A ad Z lc sc hC hK hS hR hl hs kk
  obtain ⟨v, vs, rfl, ⟨x, rfl, hx⟩, hs2⟩ := sr_1 hs
  exact lv_lstore hC.1 hC.2.1 hd (allv_has hl.1 hl.2.1) hn rfl (fun lc' h' => kk H locs lc' vs hS hR (lr_sto2 hl (rl_lng x hx) h') hs2)
theorem E_lstore_n {q : Fin 4} {i : Nat} {z : Int} {ls' : List (Option AV)} (hd : decode Y.2.1 pc = .ok (.lstore_n q, 1)) (hq : (q : Nat) = i) (hn : i + 1 < Y.2.2.1) (hl' : sto2 ls i (vL z) = ls') (kk : E Y d mc ms Q B k n (pc + 1) ls' st σ) : E Y d mc ms Q B k n pc ls (vL z :: st) σ := by
  subst hl'
  refine E_lift ?_ kk
  intro p l e s m args below meth c H locs cs D A ad Z lc sc hC hK hS hR hl hs kk
  obtain ⟨v, vs, rfl, ⟨x, rfl, hx⟩, hs2⟩ := sr_1 hs
  exact lv_lstore_n hC.1 hC.2.1 hd hq (allv_has hl.1 hl.2.1) hn rfl (fun lc' h' => kk H locs lc' vs hS hR (lr_sto2 hl (rl_lng x hx) h') hs2)
theorem E_astore {i t j : Nat} {ls' : List (Option AV)} (hd : decode Y.2.1 pc = .ok (.astore i, 2)) (hn : i < Y.2.2.1) (hl' : sto1 ls i (vR t j) = ls') (kk : E Y d mc ms Q B k n (pc + 2) ls' st σ) : E Y d mc ms Q B k n pc ls (vR t j :: st) σ := by
  subst hl'
  refine E_lift ?_ kk
  intro p l e s m args below meth c H locs cs D A ad Z lc sc hC hK hS hR hl hs kk
  obtain ⟨v, vs, rfl, ⟨hx, rfl⟩, hs2⟩ := sr_1 hs
  exact lv_astore hC.1 hC.2.1 hd (allv_has hl.1 hl.2.1) hn rfl (fun lc' h' => kk H locs lc' vs hS hR (lr_sto1 hl ⟨hx, rfl⟩ h') hs2)
theorem E_astore_n {q : Fin 4} {i t j : Nat} {ls' : List (Option AV)} (hd : decode Y.2.1 pc = .ok (.astore_n q, 1)) (hq : (q : Nat) = i) (hn : i < Y.2.2.1) (hl' : sto1 ls i (vR t j) = ls') (kk : E Y d mc ms Q B k n (pc + 1) ls' st σ) : E Y d mc ms Q B k n pc ls (vR t j :: st) σ := by
  subst hl'
  refine E_lift ?_ kk
  intro p l e s m args below meth c H locs cs D A ad Z lc sc hC hK hS hR hl hs kk
  obtain ⟨v, vs, rfl, ⟨hx, rfl⟩, hs2⟩ := sr_1 hs
  exact lv_astore_n hC.1 hC.2.1 hd hq (allv_has hl.1 hl.2.1) hn rfl (fun lc' h' => kk H locs lc' vs hS hR (lr_sto1 hl ⟨hx, rfl⟩ h') hs2)
def wi (z : Int) : Int := z.bmod 4294967296
def wj (z : Int) : Int := z.bmod 18446744073709551616
theorem E_iinc {i : Nat} {z nn : Int} {ls' : List (Option AV)} (hd : decode Y.2.1 pc = .ok (.iinc i nn, 3)) (hi : ls[i]? = some (some (vI z))) (hn : i < Y.2.2.1) (hnn : (Int32.ofInt nn).toInt = nn) (hl' : sto1 ls i (vI (wi (z + nn))) = ls') (kk : E Y d mc ms Q B k n (pc + 3) ls' st σ) : E Y d mc ms Q B k n pc ls st σ := by
  subst hl'
  refine E_lift ?_ kk
  intro p l e s m args below meth c H locs cs D A ad Z lc sc hC hK hS hR hl hs kk
  obtain ⟨v, h1, x, rfl, hx⟩ := hl.2.2 i _ hi
  obtain ⟨q, hq⟩ := List.getElem?_of_mem (allv_in.mpr h1)
  refine lv_iinc hC.1 hC.2.1 hd (allv_has hl.1 hl.2.1) hq rfl hn rfl (fun lc' h' => kk H locs lc' sc hS hR (lr_sto1 hl (rl_int _ ?_) h') hs)
  rw [Int32.toInt_add, hx, hnn]
  rfl
end ERules
