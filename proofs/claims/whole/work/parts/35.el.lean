/-! THE LAW'S JUDGEMENT, by program (mkel.py): EL is E for one script. -/
def EL (sd : Nat → Nat) (Y : My) (d mc ms : Nat) (Q : Option AV → Wd → St → Prop) (B : Wd) (k n pc : Nat) (ls : List (Option AV)) (st : List AV) (σ : St) : Prop :=
  ∀ (p : Program) (l : LL) (e : Env) (s : State) (m : MethodId) (args : Array Value) (below : List Frame) (meth : Method) (c : Code) (H : Heap) (locs : List Loc) (cs : Nat → ClassId) (D : va_G) (A : Nat → Prop) (ad ad0 : Ad) (B0 : Wd) (lc : Array Slot) (sc : List Value),
    ad 52 = sd → Cx Y p s m args meth c → Kx cs D A ad s s.heap → (∀ q, s.heap.size ≤ q → A q) → va_S A s.heap H locs → Rep cs D A B ad σ H → Ext B0 ad0 B ad → lr B ad lc Y.2.2.1 ls → sr B ad sc st →
    W p l.1 e (rmo d mc ms) s m args below meth c H locs k n (EZ Y below cs D A B0 ad0 Q args s mc ms) (F0 m pc lc sc)
theorem EL_q {B B' : Wd} {ad ad' : Ad} {sd : Nat → Nat} (hX : Ext B ad B' ad') (h : ad 52 = sd) : ad' 52 = sd := (funext fun i => hX.2 (52, i) (Or.inr (Or.inr (Or.inr rfl)))).trans h
/-- the script's ints -/
def scr (sd : Nat → Nat) (x : Int) : Int := (Int32.ofNat (sd (2 + x.toNat))).toInt
section ELR
variable {sd : Nat → Nat} {Y : My} {d mc ms : Nat} {Q : Option AV → Wd → St → Prop} {B : Wd} {k n pc : Nat} {ls : List (Option AV)} {st : List AV} {σ : St}
theorem EL_wk (ls' : List (Option AV)) (h : ∀ (i : Nat) (a : AV), ls'[i]? = some (some a) → ls[i]? = some (some a)) (kk : EL sd Y d mc ms Q B k n pc ls' st σ) : EL sd Y d mc ms Q B k n pc ls st σ := by
  intro p l e s m args below meth c H locs cs D A ad ad0 B0 lc sc hq hC hK hA hS hR hX hl hs
  exact kk p l e s m args below meth c H locs cs D A ad ad0 B0 lc sc hq hC hK hA hS hR hX ⟨hl.1, hl.2.1, fun i a q => hl.2.2 i a (h i a q)⟩ hs
theorem EL_widen {k' n' : Nat} (hk : k ≤ k') (hn : n ≤ n') (kk : EL sd Y d mc ms Q B k' n' pc ls st σ) : EL sd Y d mc ms Q B k n pc ls st σ := by
  intro p l e s m args below meth c H locs cs D A ad ad0 B0 lc sc hq hC hK hA hS hR hX hl hs
  exact W.widen hk hn (kk p l e s m args below meth c H locs cs D A ad ad0 B0 lc sc hq hC hK hA hS hR hX hl hs)
theorem EL_lift {pc' : Nat} {ls' : List (Option AV)} {st' : List AV} {σ' : St}
    (h : ∀ (p : Program) (l : Launch) (e : Env) (s : State) (m : MethodId) (args : Array Value) (below : List Frame) (meth : Method) (c : Code) (H : Heap) (locs : List Loc) (cs : Nat → ClassId) (D : va_G) (A : Nat → Prop) (ad : Ad) (Z : State → Prop) (lc : Array Slot) (sc : List Value),
      Cx Y p s m args meth c → Kx cs D A ad s s.heap → va_S A s.heap H locs → Rep cs D A B ad σ H → lr B ad lc Y.2.2.1 ls → sr B ad sc st →
      (∀ (H' : Heap) (locs' : List Loc) (lc' : Array Slot) (sc' : List Value), va_S A s.heap H' locs' → Rep cs D A B ad σ' H' → lr B ad lc' Y.2.2.1 ls' → sr B ad sc' st' → W p l e (rmo d mc ms) s m args below meth c H' locs' k n Z (F0 m pc' lc' sc')) →
      W p l e (rmo d mc ms) s m args below meth c H locs k n Z (F0 m pc lc sc))
    (kk : EL sd Y d mc ms Q B k n pc' ls' st' σ') : EL sd Y d mc ms Q B k n pc ls st σ := by
  intro p l e s m args below meth c H locs cs D A ad ad0 B0 lc sc hq hC hK hA hS hR hX hl hs
  exact h p l.1 e s m args below meth c H locs cs D A ad _ lc sc hC hK hS hR hl hs (fun H' locs' lc' sc' hS' hR' hl' hs' => kk p l e s m args below meth c H' locs' cs D A ad ad0 B0 lc' sc' hq hC hK hA hS' hR' hX hl' hs')
theorem EL_iconst {z : Int} {nn : Int} (hd : decode Y.2.1 pc = .ok (.iconst nn, 1)) (hz : (Int32.ofInt nn).toInt = z) (kk : EL sd Y d mc ms Q B k n (pc + 1) ls (vI z :: st) σ) : EL sd Y d mc ms Q B k n pc ls st σ := by
  refine EL_lift ?_ kk
  intro p l e s m args below meth c H locs cs D A ad Z lc sc hC hK hS hR hl hs kk
  exact lv_iconst hC.1 hC.2.1 hd rfl (kk H locs lc _ hS hR hl ⟨rl_int _ hz, hs⟩)
theorem EL_bipush {z nn : Int} (hd : decode Y.2.1 pc = .ok (.bipush nn, 2)) (hz : ((Int8.ofInt nn).toInt32).toInt = z) (kk : EL sd Y d mc ms Q B k n (pc + 2) ls (vI z :: st) σ) : EL sd Y d mc ms Q B k n pc ls st σ := by
  refine EL_lift ?_ kk
  intro p l e s m args below meth c H locs cs D A ad Z lc sc hC hK hS hR hl hs kk
  exact lv_bipush hC.1 hC.2.1 hd rfl (kk H locs lc _ hS hR hl ⟨rl_int _ hz, hs⟩)
theorem EL_sipush {z nn : Int} (hd : decode Y.2.1 pc = .ok (.sipush nn, 3)) (hz : ((Int16.ofInt nn).toInt32).toInt = z) (kk : EL sd Y d mc ms Q B k n (pc + 3) ls (vI z :: st) σ) : EL sd Y d mc ms Q B k n pc ls st σ := by
  refine EL_lift ?_ kk
  intro p l e s m args below meth c H locs cs D A ad Z lc sc hC hK hS hR hl hs kk
  exact lv_sipush hC.1 hC.2.1 hd rfl (kk H locs lc _ hS hR hl ⟨rl_int _ hz, hs⟩)
theorem EL_lconst {z : Int} {nn : Fin 2} (hd : decode Y.2.1 pc = .ok (.lconst nn, 1)) (hz : (Int64.ofNat (nn : Nat)).toInt = z) (kk : EL sd Y d mc ms Q B k n (pc + 1) ls (vL z :: st) σ) : EL sd Y d mc ms Q B k n pc ls st σ := by
  refine EL_lift ?_ kk
  intro p l e s m args below meth c H locs cs D A ad Z lc sc hC hK hS hR hl hs kk
  exact lv_lconst hC.1 hC.2.1 hd rfl (kk H locs lc _ hS hR hl ⟨rl_lng _ hz, hs⟩)
theorem EL_ldc2 {index : Nat} {v : Int64} {z : Int} (hd : decode Y.2.1 pc = .ok (.ldc2_w index, 3)) (hw : Cond.constantLong Y.1.cls index v ∈ tG) (hz : v.toInt = z) (kk : EL sd Y d mc ms Q B k n (pc + 3) ls (vL z :: st) σ) : EL sd Y d mc ms Q B k n pc ls st σ := by
  refine EL_lift ?_ kk
  intro p l e s m args below meth c H locs cs D A ad Z lc sc hC hK hS hR hl hs kk
  exact lv_ldc2 hC.1 hC.2.1 hC.2.2.2.2.1 (hC.2.2.2.2.2.1 _ hw) hd (kk H locs lc _ hS hR hl ⟨rl_lng _ hz, hs⟩)
theorem EL_iload {i : Nat} {z : Int} (hd : decode Y.2.1 pc = .ok (.iload i, 2)) (hi : ls[i]? = some (some (vI z))) (kk : EL sd Y d mc ms Q B k n (pc + 2) ls (vI z :: st) σ) : EL sd Y d mc ms Q B k n pc ls st σ := by
  refine EL_lift ?_ kk
  intro p l e s m args below meth c H locs cs D A ad Z lc sc hC hK hS hR hl hs kk
  obtain ⟨v, h1, x, rfl, hx⟩ := hl.2.2 i _ hi
  exact lv_iload hC.1 hC.2.1 hd h1 (kk H locs lc _ hS hR hl ⟨rl_int x hx, hs⟩)
theorem EL_iload_n {q : Fin 4} {i : Nat} {z : Int} (hd : decode Y.2.1 pc = .ok (.iload_n q, 1)) (hq : (q : Nat) = i) (hi : ls[i]? = some (some (vI z))) (kk : EL sd Y d mc ms Q B k n (pc + 1) ls (vI z :: st) σ) : EL sd Y d mc ms Q B k n pc ls st σ := by
  refine EL_lift ?_ kk
  intro p l e s m args below meth c H locs cs D A ad Z lc sc hC hK hS hR hl hs kk
  obtain ⟨v, h1, x, rfl, hx⟩ := hl.2.2 i _ hi
  exact lv_iload_n hC.1 hC.2.1 hd hq h1 (kk H locs lc _ hS hR hl ⟨rl_int x hx, hs⟩)
theorem EL_aload {i t j : Nat} (hd : decode Y.2.1 pc = .ok (.aload i, 2)) (hi : ls[i]? = some (some (vR t j))) (kk : EL sd Y d mc ms Q B k n (pc + 2) ls (vR t j :: st) σ) : EL sd Y d mc ms Q B k n pc ls st σ := by
  refine EL_lift ?_ kk
  intro p l e s m args below meth c H locs cs D A ad Z lc sc hC hK hS hR hl hs kk
  obtain ⟨v, h1, hx, rfl⟩ := hl.2.2 i _ hi
  exact lv_aload hC.1 hC.2.1 hd h1 (kk H locs lc _ hS hR hl ⟨⟨hx, rfl⟩, hs⟩)
theorem EL_aload_n {q : Fin 4} {i t j : Nat} (hd : decode Y.2.1 pc = .ok (.aload_n q, 1)) (hq : (q : Nat) = i) (hi : ls[i]? = some (some (vR t j))) (kk : EL sd Y d mc ms Q B k n (pc + 1) ls (vR t j :: st) σ) : EL sd Y d mc ms Q B k n pc ls st σ := by
  refine EL_lift ?_ kk
  intro p l e s m args below meth c H locs cs D A ad Z lc sc hC hK hS hR hl hs kk
  obtain ⟨v, h1, hx, rfl⟩ := hl.2.2 i _ hi
  exact lv_aload_n hC.1 hC.2.1 hd hq h1 (kk H locs lc _ hS hR hl ⟨⟨hx, rfl⟩, hs⟩)
theorem EL_istore {i : Nat} {z : Int} {ls' : List (Option AV)} (hd : decode Y.2.1 pc = .ok (.istore i, 2)) (hn : i < Y.2.2.1) (hl' : sto1 ls i (vI z) = ls') (kk : EL sd Y d mc ms Q B k n (pc + 2) ls' st σ) : EL sd Y d mc ms Q B k n pc ls (vI z :: st) σ := by
  subst hl'
  refine EL_lift ?_ kk
  intro p l e s m args below meth c H locs cs D A ad Z lc sc hC hK hS hR hl hs kk
  obtain ⟨v, vs, rfl, ⟨x, rfl, hx⟩, hs2⟩ := sr_1 hs
  exact lv_istore hC.1 hC.2.1 hd (allv_has hl.1 hl.2.1) hn rfl (fun lc' h' => kk H locs lc' vs hS hR (lr_sto1 hl (rl_int x hx) h') hs2)
theorem EL_istore_n {q : Fin 4} {i : Nat} {z : Int} {ls' : List (Option AV)} (hd : decode Y.2.1 pc = .ok (.istore_n q, 1)) (hq : (q : Nat) = i) (hn : i < Y.2.2.1) (hl' : sto1 ls i (vI z) = ls') (kk : EL sd Y d mc ms Q B k n (pc + 1) ls' st σ) : EL sd Y d mc ms Q B k n pc ls (vI z :: st) σ := by
  subst hl'
  refine EL_lift ?_ kk
  intro p l e s m args below meth c H locs cs D A ad Z lc sc hC hK hS hR hl hs kk
  obtain ⟨v, vs, rfl, ⟨x, rfl, hx⟩, hs2⟩ := sr_1 hs
  exact lv_istore_n hC.1 hC.2.1 hd hq (allv_has hl.1 hl.2.1) hn rfl (fun lc' h' => kk H locs lc' vs hS hR (lr_sto1 hl (rl_int x hx) h') hs2)
theorem EL_astore {i t j : Nat} {ls' : List (Option AV)} (hd : decode Y.2.1 pc = .ok (.astore i, 2)) (hn : i < Y.2.2.1) (hl' : sto1 ls i (vR t j) = ls') (kk : EL sd Y d mc ms Q B k n (pc + 2) ls' st σ) : EL sd Y d mc ms Q B k n pc ls (vR t j :: st) σ := by
  subst hl'
  refine EL_lift ?_ kk
  intro p l e s m args below meth c H locs cs D A ad Z lc sc hC hK hS hR hl hs kk
  obtain ⟨v, vs, rfl, ⟨hx, rfl⟩, hs2⟩ := sr_1 hs
  exact lv_astore hC.1 hC.2.1 hd (allv_has hl.1 hl.2.1) hn rfl (fun lc' h' => kk H locs lc' vs hS hR (lr_sto1 hl ⟨hx, rfl⟩ h') hs2)
theorem EL_astore_n {q : Fin 4} {i t j : Nat} {ls' : List (Option AV)} (hd : decode Y.2.1 pc = .ok (.astore_n q, 1)) (hq : (q : Nat) = i) (hn : i < Y.2.2.1) (hl' : sto1 ls i (vR t j) = ls') (kk : EL sd Y d mc ms Q B k n (pc + 1) ls' st σ) : EL sd Y d mc ms Q B k n pc ls (vR t j :: st) σ := by
  subst hl'
  refine EL_lift ?_ kk
  intro p l e s m args below meth c H locs cs D A ad Z lc sc hC hK hS hR hl hs kk
  obtain ⟨v, vs, rfl, ⟨hx, rfl⟩, hs2⟩ := sr_1 hs
  exact lv_astore_n hC.1 hC.2.1 hd hq (allv_has hl.1 hl.2.1) hn rfl (fun lc' h' => kk H locs lc' vs hS hR (lr_sto1 hl ⟨hx, rfl⟩ h') hs2)
theorem EL_iinc {i : Nat} {z nn : Int} {ls' : List (Option AV)} (hd : decode Y.2.1 pc = .ok (.iinc i nn, 3)) (hi : ls[i]? = some (some (vI z))) (hn : i < Y.2.2.1) (hnn : (Int32.ofInt nn).toInt = nn) (hl' : sto1 ls i (vI (wi (z + nn))) = ls') (kk : EL sd Y d mc ms Q B k n (pc + 3) ls' st σ) : EL sd Y d mc ms Q B k n pc ls st σ := by
  subst hl'
  refine EL_lift ?_ kk
  intro p l e s m args below meth c H locs cs D A ad Z lc sc hC hK hS hR hl hs kk
  obtain ⟨v, h1, x, rfl, hx⟩ := hl.2.2 i _ hi
  obtain ⟨q, hq⟩ := List.getElem?_of_mem (allv_in.mpr h1)
  refine lv_iinc hC.1 hC.2.1 hd (allv_has hl.1 hl.2.1) hq rfl hn rfl (fun lc' h' => kk H locs lc' sc hS hR (lr_sto1 hl (rl_int _ ?_) h') hs)
  rw [Int32.toInt_add, hx, hnn]
  rfl
theorem EL_iadd {x y : Int} (hd : decode Y.2.1 pc = .ok (.iadd, 1)) (kk : EL sd Y d mc ms Q B k n (pc + 1) ls (vI (wi (x + y)) :: st) σ) : EL sd Y d mc ms Q B k n pc ls (vI y :: vI x :: st) σ := by
  refine EL_lift ?_ kk
  intro p l e s m args below meth c H locs cs D A ad Z lc sc hC hK hS hR hl hs kk
  obtain ⟨_, sc, rfl, ⟨y', rfl, rfl⟩, hs1⟩ := sr_1 hs
  obtain ⟨_, sc, rfl, ⟨x', rfl, rfl⟩, hs2⟩ := sr_1 hs1
  exact lv_iadd hC.1 hC.2.1 hd (kk H locs lc _ hS hR hl ⟨rl_int _ (by rw [Int32.toInt_add]; rfl), hs2⟩)
theorem EL_isub {x y : Int} (hd : decode Y.2.1 pc = .ok (.isub, 1)) (kk : EL sd Y d mc ms Q B k n (pc + 1) ls (vI (wi (x - y)) :: st) σ) : EL sd Y d mc ms Q B k n pc ls (vI y :: vI x :: st) σ := by
  refine EL_lift ?_ kk
  intro p l e s m args below meth c H locs cs D A ad Z lc sc hC hK hS hR hl hs kk
  obtain ⟨_, sc, rfl, ⟨y', rfl, rfl⟩, hs1⟩ := sr_1 hs
  obtain ⟨_, sc, rfl, ⟨x', rfl, rfl⟩, hs2⟩ := sr_1 hs1
  exact lv_isub hC.1 hC.2.1 hd (kk H locs lc _ hS hR hl ⟨rl_int _ (by rw [Int32.toInt_sub]; rfl), hs2⟩)
theorem EL_iand {x y : Int} (hd : decode Y.2.1 pc = .ok (.iand, 1)) (kk : EL sd Y d mc ms Q B k n (pc + 1) ls (vI (bA x y) :: st) σ) : EL sd Y d mc ms Q B k n pc ls (vI y :: vI x :: st) σ := by
  refine EL_lift ?_ kk
  intro p l e s m args below meth c H locs cs D A ad Z lc sc hC hK hS hR hl hs kk
  obtain ⟨_, sc, rfl, ⟨y', rfl, rfl⟩, hs1⟩ := sr_1 hs
  obtain ⟨_, sc, rfl, ⟨x', rfl, rfl⟩, hs2⟩ := sr_1 hs1
  exact lv_iand hC.1 hC.2.1 hd (kk H locs lc _ hS hR hl ⟨rl_int _ (by unfold bA; rw [i32_back, i32_back]), hs2⟩)
theorem EL_i2l {x : Int} (hd : decode Y.2.1 pc = .ok (.i2l, 1)) (kk : EL sd Y d mc ms Q B k n (pc + 1) ls (vL (x) :: st) σ) : EL sd Y d mc ms Q B k n pc ls (vI x :: st) σ := by
  refine EL_lift ?_ kk
  intro p l e s m args below meth c H locs cs D A ad Z lc sc hC hK hS hR hl hs kk
  obtain ⟨_, sc, rfl, ⟨x', rfl, rfl⟩, hs1⟩ := sr_1 hs
  exact lv_i2l hC.1 hC.2.1 hd rfl (kk H locs lc _ hS hR hl ⟨rl_lng _ (by rw [Int32.toInt_toInt64]), hs1⟩)
theorem EL_lshl {x y : Int} (hd : decode Y.2.1 pc = .ok (.lshl, 1)) (kk : EL sd Y d mc ms Q B k n (pc + 1) ls (vL (lL x y) :: st) σ) : EL sd Y d mc ms Q B k n pc ls (vI y :: vL x :: st) σ := by
  refine EL_lift ?_ kk
  intro p l e s m args below meth c H locs cs D A ad Z lc sc hC hK hS hR hl hs kk
  obtain ⟨_, sc, rfl, ⟨y', rfl, rfl⟩, hs1⟩ := sr_1 hs
  obtain ⟨_, sc, rfl, ⟨x', rfl, rfl⟩, hs2⟩ := sr_1 hs1
  exact lv_lshl hC.1 hC.2.1 hd rfl (kk H locs lc _ hS hR hl ⟨rl_lng _ (by unfold lL; rw [i64_back, i32_back]), hs2⟩)
theorem EL_land {x y : Int} (hd : decode Y.2.1 pc = .ok (.land, 1)) (kk : EL sd Y d mc ms Q B k n (pc + 1) ls (vL (lA x y) :: st) σ) : EL sd Y d mc ms Q B k n pc ls (vL y :: vL x :: st) σ := by
  refine EL_lift ?_ kk
  intro p l e s m args below meth c H locs cs D A ad Z lc sc hC hK hS hR hl hs kk
  obtain ⟨_, sc, rfl, ⟨y', rfl, rfl⟩, hs1⟩ := sr_1 hs
  obtain ⟨_, sc, rfl, ⟨x', rfl, rfl⟩, hs2⟩ := sr_1 hs1
  exact lv_land hC.1 hC.2.1 hd (kk H locs lc _ hS hR hl ⟨rl_lng _ (by unfold lA; rw [i64_back, i64_back]), hs2⟩)
theorem EL_lor {x y : Int} (hd : decode Y.2.1 pc = .ok (.lor, 1)) (kk : EL sd Y d mc ms Q B k n (pc + 1) ls (vL (lO x y) :: st) σ) : EL sd Y d mc ms Q B k n pc ls (vL y :: vL x :: st) σ := by
  refine EL_lift ?_ kk
  intro p l e s m args below meth c H locs cs D A ad Z lc sc hC hK hS hR hl hs kk
  obtain ⟨_, sc, rfl, ⟨y', rfl, rfl⟩, hs1⟩ := sr_1 hs
  obtain ⟨_, sc, rfl, ⟨x', rfl, rfl⟩, hs2⟩ := sr_1 hs1
  exact lv_lor hC.1 hC.2.1 hd (kk H locs lc _ hS hR hl ⟨rl_lng _ (by unfold lO; rw [i64_back, i64_back]), hs2⟩)
theorem EL_lcmp {x y : Int} (hd : decode Y.2.1 pc = .ok (.lcmp, 1)) (kk : EL sd Y d mc ms Q B k n (pc + 1) ls (vI (lC x y) :: st) σ) : EL sd Y d mc ms Q B k n pc ls (vL y :: vL x :: st) σ := by
  refine EL_lift ?_ kk
  intro p l e s m args below meth c H locs cs D A ad Z lc sc hC hK hS hR hl hs kk
  obtain ⟨_, sc, rfl, ⟨y', rfl, rfl⟩, hs1⟩ := sr_1 hs
  obtain ⟨_, sc, rfl, ⟨x', rfl, rfl⟩, hs2⟩ := sr_1 hs1
  refine W.lcmp hC.1 hC.2.1 hd (kk H locs lc _ hS hR hl ⟨rl_int _ ?_, hs2⟩)
  unfold lg_cmp lC
  simp only [gt_iff_lt, Int64.lt_iff_toInt_lt, ← Int64.toInt_inj]
  repeat' split
  all_goals rfl
theorem EL_dup {a : AV} (hd : decode Y.2.1 pc = .ok (.dup, 1)) (hn : ∀ z, a ≠ vL z) (kk : EL sd Y d mc ms Q B k n (pc + 1) ls (a :: a :: st) σ) : EL sd Y d mc ms Q B k n pc ls (a :: st) σ := by
  refine EL_lift ?_ kk
  intro p l e s m args below meth c H locs cs D A ad Z lc sc hC hK hS hR hl hs kk
  obtain ⟨v, sc, rfl, hv, hs1⟩ := sr_1 hs
  exact lv_dup hC.1 hC.2.1 hd (rl_cat1 hv hn) (kk H locs lc _ hS hR hl ⟨hv, hv, hs1⟩)
theorem EL_goto {off : Int} {tgt : Nat} (hd : decode Y.2.1 pc = .ok (.goto off, 3)) (ht : (pc : Int) + off = (tgt : Int)) (kk : EL sd Y d mc ms Q B k n tgt ls st σ) : EL sd Y d mc ms Q B k n pc ls st σ := by
  refine EL_lift ?_ kk
  intro p l e s m args below meth c H locs cs D A ad Z lc sc hC hK hS hR hl hs kk
  exact lv_goto hC.1 hC.2.1 hd ht (kk H locs lc _ hS hR hl hs)
theorem EL_icmp_eq {x y off : Int} {tgt : Nat} (hd : decode Y.2.1 pc = .ok (.if_icmp .eq off, 3)) (ht : (pc : Int) + off = (tgt : Int)) (kt : x = y → EL sd Y d mc ms Q B k n tgt ls st σ) (kf : ¬ x = y → EL sd Y d mc ms Q B k n (pc + 3) ls st σ) : EL sd Y d mc ms Q B k n pc ls (vI y :: vI x :: st) σ := by
  intro p l e s m args below meth c H locs cs D A ad ad0 B0 lc sc hq hC hK hA hS hR hX hl hs
  obtain ⟨_, sc, rfl, ⟨y', rfl, rfl⟩, hs1⟩ := sr_1 hs
  obtain ⟨_, sc, rfl, ⟨x', rfl, rfl⟩, hs2⟩ := sr_1 hs1
  exact lv_icmp_eq hC.1 hC.2.1 hd ht (fun h => kt (Int32.toInt_inj.mpr h) p l e s m args below meth c H locs cs D A ad ad0 B0 lc sc hq hC hK hA hS hR hX hl hs2) (fun h => kf (fun q => h (Int32.toInt_inj.mp q)) p l e s m args below meth c H locs cs D A ad ad0 B0 lc sc hq hC hK hA hS hR hX hl hs2)
theorem EL_icmp_ne {x y off : Int} {tgt : Nat} (hd : decode Y.2.1 pc = .ok (.if_icmp .ne off, 3)) (ht : (pc : Int) + off = (tgt : Int)) (kt : ¬ x = y → EL sd Y d mc ms Q B k n tgt ls st σ) (kf : x = y → EL sd Y d mc ms Q B k n (pc + 3) ls st σ) : EL sd Y d mc ms Q B k n pc ls (vI y :: vI x :: st) σ := by
  intro p l e s m args below meth c H locs cs D A ad ad0 B0 lc sc hq hC hK hA hS hR hX hl hs
  obtain ⟨_, sc, rfl, ⟨y', rfl, rfl⟩, hs1⟩ := sr_1 hs
  obtain ⟨_, sc, rfl, ⟨x', rfl, rfl⟩, hs2⟩ := sr_1 hs1
  exact lv_icmp_ne hC.1 hC.2.1 hd ht (fun h => kt (fun q => h (Int32.toInt_inj.mp q)) p l e s m args below meth c H locs cs D A ad ad0 B0 lc sc hq hC hK hA hS hR hX hl hs2) (fun h => kf (Int32.toInt_inj.mpr h) p l e s m args below meth c H locs cs D A ad ad0 B0 lc sc hq hC hK hA hS hR hX hl hs2)
theorem EL_icmp_lt {x y off : Int} {tgt : Nat} (hd : decode Y.2.1 pc = .ok (.if_icmp .lt off, 3)) (ht : (pc : Int) + off = (tgt : Int)) (kt : x < y → EL sd Y d mc ms Q B k n tgt ls st σ) (kf : ¬ x < y → EL sd Y d mc ms Q B k n (pc + 3) ls st σ) : EL sd Y d mc ms Q B k n pc ls (vI y :: vI x :: st) σ := by
  intro p l e s m args below meth c H locs cs D A ad ad0 B0 lc sc hq hC hK hA hS hR hX hl hs
  obtain ⟨_, sc, rfl, ⟨y', rfl, rfl⟩, hs1⟩ := sr_1 hs
  obtain ⟨_, sc, rfl, ⟨x', rfl, rfl⟩, hs2⟩ := sr_1 hs1
  exact lv_icmp_lt hC.1 hC.2.1 hd ht (fun h => kt (Int32.lt_iff_toInt_lt.mp h) p l e s m args below meth c H locs cs D A ad ad0 B0 lc sc hq hC hK hA hS hR hX hl hs2) (fun h => kf (fun q => h (Int32.lt_iff_toInt_lt.mpr q)) p l e s m args below meth c H locs cs D A ad ad0 B0 lc sc hq hC hK hA hS hR hX hl hs2)
theorem EL_icmp_ge {x y off : Int} {tgt : Nat} (hd : decode Y.2.1 pc = .ok (.if_icmp .ge off, 3)) (ht : (pc : Int) + off = (tgt : Int)) (kt : y ≤ x → EL sd Y d mc ms Q B k n tgt ls st σ) (kf : ¬ y ≤ x → EL sd Y d mc ms Q B k n (pc + 3) ls st σ) : EL sd Y d mc ms Q B k n pc ls (vI y :: vI x :: st) σ := by
  intro p l e s m args below meth c H locs cs D A ad ad0 B0 lc sc hq hC hK hA hS hR hX hl hs
  obtain ⟨_, sc, rfl, ⟨y', rfl, rfl⟩, hs1⟩ := sr_1 hs
  obtain ⟨_, sc, rfl, ⟨x', rfl, rfl⟩, hs2⟩ := sr_1 hs1
  exact lv_icmp_ge hC.1 hC.2.1 hd ht (fun h => kt (Int32.le_iff_toInt_le.mp h) p l e s m args below meth c H locs cs D A ad ad0 B0 lc sc hq hC hK hA hS hR hX hl hs2) (fun h => kf (fun q => h (Int32.le_iff_toInt_le.mpr q)) p l e s m args below meth c H locs cs D A ad ad0 B0 lc sc hq hC hK hA hS hR hX hl hs2)
theorem EL_icmp_gt {x y off : Int} {tgt : Nat} (hd : decode Y.2.1 pc = .ok (.if_icmp .gt off, 3)) (ht : (pc : Int) + off = (tgt : Int)) (kt : y < x → EL sd Y d mc ms Q B k n tgt ls st σ) (kf : ¬ y < x → EL sd Y d mc ms Q B k n (pc + 3) ls st σ) : EL sd Y d mc ms Q B k n pc ls (vI y :: vI x :: st) σ := by
  intro p l e s m args below meth c H locs cs D A ad ad0 B0 lc sc hq hC hK hA hS hR hX hl hs
  obtain ⟨_, sc, rfl, ⟨y', rfl, rfl⟩, hs1⟩ := sr_1 hs
  obtain ⟨_, sc, rfl, ⟨x', rfl, rfl⟩, hs2⟩ := sr_1 hs1
  exact lv_icmp_gt hC.1 hC.2.1 hd ht (fun h => kt (Int32.lt_iff_toInt_lt.mp h) p l e s m args below meth c H locs cs D A ad ad0 B0 lc sc hq hC hK hA hS hR hX hl hs2) (fun h => kf (fun q => h (Int32.lt_iff_toInt_lt.mpr q)) p l e s m args below meth c H locs cs D A ad ad0 B0 lc sc hq hC hK hA hS hR hX hl hs2)
theorem EL_icmp_le {x y off : Int} {tgt : Nat} (hd : decode Y.2.1 pc = .ok (.if_icmp .le off, 3)) (ht : (pc : Int) + off = (tgt : Int)) (kt : x ≤ y → EL sd Y d mc ms Q B k n tgt ls st σ) (kf : ¬ x ≤ y → EL sd Y d mc ms Q B k n (pc + 3) ls st σ) : EL sd Y d mc ms Q B k n pc ls (vI y :: vI x :: st) σ := by
  intro p l e s m args below meth c H locs cs D A ad ad0 B0 lc sc hq hC hK hA hS hR hX hl hs
  obtain ⟨_, sc, rfl, ⟨y', rfl, rfl⟩, hs1⟩ := sr_1 hs
  obtain ⟨_, sc, rfl, ⟨x', rfl, rfl⟩, hs2⟩ := sr_1 hs1
  exact lv_icmp_le hC.1 hC.2.1 hd ht (fun h => kt (Int32.le_iff_toInt_le.mp h) p l e s m args below meth c H locs cs D A ad ad0 B0 lc sc hq hC hK hA hS hR hX hl hs2) (fun h => kf (fun q => h (Int32.le_iff_toInt_le.mpr q)) p l e s m args below meth c H locs cs D A ad ad0 B0 lc sc hq hC hK hA hS hR hX hl hs2)
theorem EL_if_eq {x off : Int} {tgt : Nat} (hd : decode Y.2.1 pc = .ok (.ifCond .eq off, 3)) (ht : (pc : Int) + off = (tgt : Int)) (kt : x = 0 → EL sd Y d mc ms Q B k n tgt ls st σ) (kf : ¬ x = 0 → EL sd Y d mc ms Q B k n (pc + 3) ls st σ) : EL sd Y d mc ms Q B k n pc ls (vI x :: st) σ := by
  intro p l e s m args below meth c H locs cs D A ad ad0 B0 lc sc hq hC hK hA hS hR hX hl hs
  obtain ⟨_, sc, rfl, ⟨x', rfl, rfl⟩, hs1⟩ := sr_1 hs
  exact lv_if_eq hC.1 hC.2.1 hd ht (fun h => kt ((z32_eq _).mp h) p l e s m args below meth c H locs cs D A ad ad0 B0 lc sc hq hC hK hA hS hR hX hl hs1) (fun h => kf (fun q => h ((z32_eq _).mpr q)) p l e s m args below meth c H locs cs D A ad ad0 B0 lc sc hq hC hK hA hS hR hX hl hs1)
theorem EL_if_ne {x off : Int} {tgt : Nat} (hd : decode Y.2.1 pc = .ok (.ifCond .ne off, 3)) (ht : (pc : Int) + off = (tgt : Int)) (kt : ¬ x = 0 → EL sd Y d mc ms Q B k n tgt ls st σ) (kf : x = 0 → EL sd Y d mc ms Q B k n (pc + 3) ls st σ) : EL sd Y d mc ms Q B k n pc ls (vI x :: st) σ := by
  intro p l e s m args below meth c H locs cs D A ad ad0 B0 lc sc hq hC hK hA hS hR hX hl hs
  obtain ⟨_, sc, rfl, ⟨x', rfl, rfl⟩, hs1⟩ := sr_1 hs
  exact lv_if_ne hC.1 hC.2.1 hd ht (fun h => kt (fun q => h ((z32_eq _).mpr q)) p l e s m args below meth c H locs cs D A ad ad0 B0 lc sc hq hC hK hA hS hR hX hl hs1) (fun h => kf ((z32_eq _).mp h) p l e s m args below meth c H locs cs D A ad ad0 B0 lc sc hq hC hK hA hS hR hX hl hs1)
theorem EL_if_lt {x off : Int} {tgt : Nat} (hd : decode Y.2.1 pc = .ok (.ifCond .lt off, 3)) (ht : (pc : Int) + off = (tgt : Int)) (kt : x < 0 → EL sd Y d mc ms Q B k n tgt ls st σ) (kf : ¬ x < 0 → EL sd Y d mc ms Q B k n (pc + 3) ls st σ) : EL sd Y d mc ms Q B k n pc ls (vI x :: st) σ := by
  intro p l e s m args below meth c H locs cs D A ad ad0 B0 lc sc hq hC hK hA hS hR hX hl hs
  obtain ⟨_, sc, rfl, ⟨x', rfl, rfl⟩, hs1⟩ := sr_1 hs
  exact lv_if_lt hC.1 hC.2.1 hd ht (fun h => kt ((z32_lt _).mp h) p l e s m args below meth c H locs cs D A ad ad0 B0 lc sc hq hC hK hA hS hR hX hl hs1) (fun h => kf (fun q => h ((z32_lt _).mpr q)) p l e s m args below meth c H locs cs D A ad ad0 B0 lc sc hq hC hK hA hS hR hX hl hs1)
theorem EL_if_ge {x off : Int} {tgt : Nat} (hd : decode Y.2.1 pc = .ok (.ifCond .ge off, 3)) (ht : (pc : Int) + off = (tgt : Int)) (kt : 0 ≤ x → EL sd Y d mc ms Q B k n tgt ls st σ) (kf : ¬ 0 ≤ x → EL sd Y d mc ms Q B k n (pc + 3) ls st σ) : EL sd Y d mc ms Q B k n pc ls (vI x :: st) σ := by
  intro p l e s m args below meth c H locs cs D A ad ad0 B0 lc sc hq hC hK hA hS hR hX hl hs
  obtain ⟨_, sc, rfl, ⟨x', rfl, rfl⟩, hs1⟩ := sr_1 hs
  exact lv_if_ge hC.1 hC.2.1 hd ht (fun h => kt ((z32_ge _).mp h) p l e s m args below meth c H locs cs D A ad ad0 B0 lc sc hq hC hK hA hS hR hX hl hs1) (fun h => kf (fun q => h ((z32_ge _).mpr q)) p l e s m args below meth c H locs cs D A ad ad0 B0 lc sc hq hC hK hA hS hR hX hl hs1)
theorem EL_if_gt {x off : Int} {tgt : Nat} (hd : decode Y.2.1 pc = .ok (.ifCond .gt off, 3)) (ht : (pc : Int) + off = (tgt : Int)) (kt : 0 < x → EL sd Y d mc ms Q B k n tgt ls st σ) (kf : ¬ 0 < x → EL sd Y d mc ms Q B k n (pc + 3) ls st σ) : EL sd Y d mc ms Q B k n pc ls (vI x :: st) σ := by
  intro p l e s m args below meth c H locs cs D A ad ad0 B0 lc sc hq hC hK hA hS hR hX hl hs
  obtain ⟨_, sc, rfl, ⟨x', rfl, rfl⟩, hs1⟩ := sr_1 hs
  exact lv_if_gt hC.1 hC.2.1 hd ht (fun h => kt ((z32_gt _).mp h) p l e s m args below meth c H locs cs D A ad ad0 B0 lc sc hq hC hK hA hS hR hX hl hs1) (fun h => kf (fun q => h ((z32_gt _).mpr q)) p l e s m args below meth c H locs cs D A ad ad0 B0 lc sc hq hC hK hA hS hR hX hl hs1)
theorem EL_if_le {x off : Int} {tgt : Nat} (hd : decode Y.2.1 pc = .ok (.ifCond .le off, 3)) (ht : (pc : Int) + off = (tgt : Int)) (kt : x ≤ 0 → EL sd Y d mc ms Q B k n tgt ls st σ) (kf : ¬ x ≤ 0 → EL sd Y d mc ms Q B k n (pc + 3) ls st σ) : EL sd Y d mc ms Q B k n pc ls (vI x :: st) σ := by
  intro p l e s m args below meth c H locs cs D A ad ad0 B0 lc sc hq hC hK hA hS hR hX hl hs
  obtain ⟨_, sc, rfl, ⟨x', rfl, rfl⟩, hs1⟩ := sr_1 hs
  exact lv_if_le hC.1 hC.2.1 hd ht (fun h => kt ((z32_le _).mp h) p l e s m args below meth c H locs cs D A ad ad0 B0 lc sc hq hC hK hA hS hR hX hl hs1) (fun h => kf (fun q => h ((z32_le _).mpr q)) p l e s m args below meth c H locs cs D A ad ad0 B0 lc sc hq hC hK hA hS hR hX hl hs1)
theorem EL_tableIn {x dflt lo hi off : Int} {offs : Array Int} {len tgt : Nat} (hd : decode Y.2.1 pc = .ok (.tableswitch dflt lo hi offs, len)) (h1 : ¬ x < lo) (h2 : ¬ hi < x) (ho : offs[(x - lo).toNat]? = some off) (ht : (pc : Int) + off = (tgt : Int)) (kk : EL sd Y d mc ms Q B k n tgt ls st σ) : EL sd Y d mc ms Q B k n pc ls (vI x :: st) σ := by
  refine EL_lift ?_ kk
  intro p l e s m args below meth c H locs cs D A ad Z lc sc hC hK hS hR hl hs kk
  obtain ⟨_, sc, rfl, ⟨x', rfl, rfl⟩, hs1⟩ := sr_1 hs
  exact lv_tableIn hC.1 hC.2.1 hd h1 h2 ho ht (kk H locs lc _ hS hR hl hs1)
theorem EL_tableOut {x dflt lo hi : Int} {offs : Array Int} {len tgt : Nat} (hd : decode Y.2.1 pc = .ok (.tableswitch dflt lo hi offs, len)) (h : x < lo ∨ hi < x) (ht : (pc : Int) + dflt = (tgt : Int)) (kk : EL sd Y d mc ms Q B k n tgt ls st σ) : EL sd Y d mc ms Q B k n pc ls (vI x :: st) σ := by
  refine EL_lift ?_ kk
  intro p l e s m args below meth c H locs cs D A ad Z lc sc hC hK hS hR hl hs kk
  obtain ⟨_, sc, rfl, ⟨x', rfl, rfl⟩, hs1⟩ := sr_1 hs
  exact lv_tableOut hC.1 hC.2.1 hd h ht (kk H locs lc _ hS hR hl hs1)
theorem EL_lald {t i b : Nat} {x : Int} (hd : decode Y.2.1 pc = .ok (.laload, 1)) (h : shp t = (1, b)) (h0 : 0 ≤ x) (h1 : x < (b : Int)) (kk : EL sd Y d mc ms Q B k n (pc + 1) ls (vL (σ t i x) :: st) σ) : EL sd Y d mc ms Q B k n pc ls (vI x :: vR t i :: st) σ := by
  refine EL_lift ?_ kk
  intro p l e s m args below meth c H locs cs D A ad Z lc sc hC hK hS hR hl hs kk
  obtain ⟨_, sc, rfl, ⟨x', rfl, rfl⟩, hs1⟩ := sr_1 hs
  obtain ⟨_, sc, rfl, ⟨hm, rfl⟩, hs2⟩ := sr_1 hs1
  obtain ⟨q, hq1, hq2⟩ := wl_at (cs := cs) (ad := ad) (σ := σ) (hm.resolve_right (out_arr h (by decide)))
  have hrg := hR.2.2.1 t i x'.toNatClampNeg
  rw [lgp_arr h (by decide), if_pos (by decide), clamp32 h0] at hrg
  exact va_lald hC.1 hC.2.1 hK.1 hR.1 q 1 (cA := cs 1) (n := b) (f := fun j => Int64.ofInt (σ t i j)) (by rw [hq2, ce_lng h]) rfl (vin h0 h1) hd (kk H locs lc _ hS hR hl ⟨rl_lng _ (by show (Int64.ofInt (σ t i _)).toInt = _; rw [clamp32 h0]; exact i64_to hrg), hs2⟩)
theorem EL_ic {z : Int} (hd : decode Y.2.1 pc = .ok (.iconst z, 1)) (hz : b32 z = true) (kk : EL sd Y d mc ms Q B k n (pc + 1) ls (vI z :: st) σ) : EL sd Y d mc ms Q B k n pc ls st σ := EL_iconst hd (b32_to hz) kk
theorem EL_bp {z : Int} (hd : decode Y.2.1 pc = .ok (.bipush z, 2)) (hz : b8 z = true) (kk : EL sd Y d mc ms Q B k n (pc + 2) ls (vI z :: st) σ) : EL sd Y d mc ms Q B k n pc ls st σ := by
  refine EL_bipush hd ?_ kk
  unfold b8 at hz
  rw [Bool.and_eq_true, decide_eq_true_iff, decide_eq_true_iff] at hz
  rw [Int8.toInt_toInt32, Int8.toInt_ofInt, show Int8.size = 256 from rfl]
  exact Int.bmod_eq_of_le (by omega) (by omega)
theorem EL_sp {z : Int} (hd : decode Y.2.1 pc = .ok (.sipush z, 3)) (hz : b16 z = true) (kk : EL sd Y d mc ms Q B k n (pc + 3) ls (vI z :: st) σ) : EL sd Y d mc ms Q B k n pc ls st σ := by
  refine EL_sipush hd ?_ kk
  unfold b16 at hz
  rw [Bool.and_eq_true, decide_eq_true_iff, decide_eq_true_iff] at hz
  rw [Int16.toInt_toInt32, Int16.toInt_ofInt, show Int16.size = 65536 from rfl]
  exact Int.bmod_eq_of_le (by omega) (by omega)
theorem EL_lc {nn : Fin 2} {z : Int} (hd : decode Y.2.1 pc = .ok (.lconst nn, 1)) (hz : (nn : Nat) = z) (kk : EL sd Y d mc ms Q B k n (pc + 1) ls (vL z :: st) σ) : EL sd Y d mc ms Q B k n pc ls st σ := by
  subst hz
  refine EL_lconst hd ?_ kk
  have h2 := nn.2
  rcases (show (nn : Nat) = 0 ∨ (nn : Nat) = 1 by omega) with e | e <;> rw [e] <;> rfl
theorem EL_wk2 (ls' : List (Option AV)) (h : wkk ls' ls) (kk : EL sd Y d mc ms Q B k n pc ls' st σ) : EL sd Y d mc ms Q B k n pc ls st σ := EL_wk ls' (wkk_get h) kk
theorem EL_last {t i b : Nat} {x z : Int} (hd : decode Y.2.1 pc = .ok (.lastore, 1)) (h : shp t = (1, b)) (h0 : 0 ≤ x) (h1 : x < (b : Int)) (kk : EL sd Y d mc ms Q B k n (pc + 1) ls st (up σ t i x z)) : EL sd Y d mc ms Q B k n pc ls (vL z :: vI x :: vR t i :: st) σ := by
  refine EL_lift ?_ kk
  intro p l e s m args below meth c H locs cs D A ad Z lc sc hC hK hS hR hl hs kk
  obtain ⟨_, sc, rfl, ⟨z', rfl, rfl⟩, hs0⟩ := sr_1 hs
  obtain ⟨_, sc, rfl, ⟨x', rfl, rfl⟩, hs1⟩ := sr_1 hs0
  obtain ⟨_, sc, rfl, ⟨hm, rfl⟩, hs2⟩ := sr_1 hs1
  obtain ⟨q, hq1, hq2⟩ := wl_at (cs := cs) (ad := ad) (σ := σ) (hm.resolve_right (out_arr h (by decide)))
  refine va_last hC.1 hC.2.1 hK.1 hR.1 hR.2.1 hS q 1 (cA := cs 1) (n := b) (f := fun j => Int64.ofInt (σ t i j)) (by rw [hq2, ce_lng h]) rfl (vin h0 h1) hd (fun H1 locs1 hP1 hD1 hS1 => ?_)
  refine kk H1 locs1 lc sc hS1 ?_ hl hs2
  rw [up_cl h0]
  refine Rep_put hR hq1 hP1 hD1 ?_ ?_ (t600 h (by decide))
  · rw [← up_cl h0]; exact ce_lput h h0 rfl
  · rw [lgp_arr h (by decide), if_pos (by decide)]; exact i64_of z'
theorem EL_after {mc' ms' : Nat} {Q' : Option AV → Wd → St → Prop} {p : Program} {l : LL} {e : Env} {s : State} {m : MethodId} {args a : Array Value} {below : List Frame} {meth : Method} {c : Code} {H : Heap} {locs : List Loc} {cs : Nat → ClassId} {D : va_G} {A : Nat → Prop} {ad ad0 : Ad} {B0 : Wd} {lc : Array Slot} {sc rest : List Value}
    (hr : va_Run p l.1 e (rmo d mc ms) s m args below meth c H locs k n mc' ms' (F0 m pc lc sc) rest (QC cs D A B ad Q' a) A)
    (hq : ad 52 = sd) (hC : Cx Y p s m args meth c) (hK : Kx cs D A ad s s.heap) (hA : ∀ q, s.heap.size ≤ q → A q) (hS : va_S A s.heap H locs) (hX : Ext B0 ad0 B ad) (hl : lr B ad lc Y.2.2.1 ls) (hs : sr B ad rest st)
    (kk : ∀ r B' σ', Q' r B' σ' → EL sd Y d mc ms Q B' (k + mc') (n + ms') (pc + 3) ls (pu r st) σ') :
    W p l.1 e (rmo d mc ms) s m args below meth c H locs k n (EZ Y below cs D A B0 ad0 Q args s mc ms) (F0 m pc lc sc) := by
  intro T hT X
  obtain ⟨v, st₀, t, T', L, h0, X', hL, e1, e2, ⟨⟨r, B', σ', ad', hrv, hQ, hRep, hExt⟩, hz, hkp⟩, hst⟩ := hr T hT X
  rw [h0] at hz hkp
  have hS' : va_S A s.heap T'.heap (locs ++ L) := ⟨Nat.le_trans hS.1 (by rw [e1]; exact hz), fun q h1 h2 => by rw [e1, hkp q (Nat.lt_of_lt_of_le h1 hS.1) h2]; exact hS.2.1 q h1 h2, fun q hq => by
      rcases List.mem_append.mp hq with h | h
      · exact hS.2.2 q h
      · exact hL q h⟩
  have hsr : sr B' ad' (v.toList ++ rest) (pu r st) := by
    match r, hrv with
    | none, hrv =>
      have hv : v = none := Outcome.returned.inj hrv
      subst hv
      exact hs.ext hExt
    | some b, hrv =>
      obtain ⟨w, hw, hb⟩ := hrv
      have hv : v = some w := Outcome.returned.inj hw
      subst hv
      exact ⟨hb, hs.ext hExt⟩
  obtain ⟨t2, a1, b1⟩ := kk r B' σ' hQ p l e s m args below meth c T'.heap (locs ++ L) cs D A ad' ad0 B0 lc (v.toList ++ rest) (EL_q hExt hq) hC (hK.ext hExt) hA hS' (by rw [e1]; exact hRep) (hX.tr hExt) (hl.ext hExt) hsr T' rfl X'
  exact ⟨t2, hst t2 a1, b1⟩
theorem EL_callV {Y' : My} {d' mc' ms' index np t i : Nat} {as : List AV} {stk : List AV} {Q' : Option AV → Wd → St → Prop} (hd : decode Y.2.1 pc = .ok (.invokevirtual index, 3)) (hL : Cond.methodLink Y.1.cls index Y'.1 ∈ tG) (hM : MV Y' np t) (hdd : d' + 1 ≤ d) (hk : k + mc' ≤ mc) (hn : n + ms' ≤ ms) (hstk : stk = as.reverse ++ vR t i :: st) (has : as.length = np) (hcat : cat st ≤ 8) (hC' : Cn Y' d' mc' ms' B σ (vR t i :: as) Q')
    (kk : ∀ r B' σ', Q' r B' σ' → EL sd Y d mc ms Q B' (k + mc') (n + ms') (pc + 3) ls (pu r st) σ') : EL sd Y d mc ms Q B k n pc ls stk σ := by
  intro p l e s m args below meth c H locs cs D A ad ad0 B0 lc sc hq hC hK hA hS hR hX hl hs
  subst hstk
  obtain ⟨va, vb, rfl, h1, h2, hlen⟩ := sr_app hs
  obtain ⟨_, rest, rfl, ⟨hm, rfl⟩, h3⟩ := sr_1 h2
  obtain ⟨⟨hM1, hM2, hM3, hM4⟩, hM5, hM6, ht⟩ := hM
  have hm := hm.resolve_right (out_obj ht)
  obtain ⟨q, hq1, hq2⟩ := wl_at (cs := cs) (ad := ad) (σ := σ) hm
  have hts := hC.2.2.2.2.2.1
  have hcell := va_recv hK.1 hR.1 (cls_at ht) (a := ad t i) (q0 := q) (fs := (List.range (nf t)).map (fun j => sv B ad σ t i j)) (by rw [hq2, ce_obj ht])
  have hsr : sr B ad (Value.ref (ad t i) :: va.reverse) (vR t i :: as) := ⟨⟨Or.inl hm, rfl⟩, by have := sr_rev h1; rw [List.reverse_reverse] at this; exact this⟩
  have hrun := va_runV (p := p) (e := e) (below := below) (meth := meth) (locs := locs) (cells := k) (slots := n) (As := va.reverse) (rest := rest) (b := ad t i) (C := Rt t) (g := F0 m pc lc (va ++ Value.ref (ad t i) :: rest)) (nL := Y.2.2.1) (R := rmo d mc ms) (H := H) ⟨hC.1, hC.2.1, hC.2.2.2.1, hC.2.2.2.2.1, hts⟩ (hC' l cs D A ad (Value.ref (ad t i) :: va.reverse))
    ⟨callB_of np hts (wsY_good ⟨hM1, hM2, hM3, hM4⟩) rfl rfl rfl (hts _ hM2) (hts _ hL) hM4 (rooms hdd hM3), hts _ hM5, hts _ hM6⟩
    ⟨fun a U g mk q => ⟨q.1, q.2.1.blind, q.2.2.1, q.2.2.2.1, q.2.2.2.2⟩, hcell, fun U hU hW => ⟨rfl, Kx.warm hW hU hS hK, fun q hq => hA q (Nat.le_trans hS.1 (by rw [← hU]; exact hq)), by rw [hU]; exact hR, hsr⟩⟩
    rfl (by rw [List.length_reverse, hlen, List.length_reverse, has]) hl.1 (by rw [List.reverse_reverse]) (lv_room (by rw [cat_sr h3]; exact hcat)) hd ⟨hk, hn⟩
  exact EL_after hrun hq hC hK hA hS hX hl h3 kk
theorem EL_callS {Y' : My} {d' mc' ms' index np : Nat} {as : List AV} {stk : List AV} {Q' : Option AV → Wd → St → Prop} (hd : decode Y.2.1 pc = .ok (.invokestatic index, 3)) (hL : Cond.methodLink Y.1.cls index Y'.1 ∈ tG) (hM : MS Y' np) (hdd : d' + 1 ≤ d) (hk : k + mc' ≤ mc) (hn : n + ms' ≤ ms) (hstk : stk = as.reverse ++ st) (has : as.length = np) (hcat : cat st ≤ 8) (hC' : Cn Y' d' mc' ms' B σ as Q')
    (kk : ∀ r B' σ', Q' r B' σ' → EL sd Y d mc ms Q B' (k + mc') (n + ms') (pc + 3) ls (pu r st) σ') : EL sd Y d mc ms Q B k n pc ls stk σ := by
  intro p l e s m args below meth c H locs cs D A ad ad0 B0 lc sc hq hC hK hA hS hR hX hl hs
  subst hstk
  obtain ⟨va, rest, rfl, h1, h3, hlen⟩ := sr_app hs
  obtain ⟨⟨hM1, hM2, hM3, hM4⟩, hM5⟩ := hM
  have hts := hC.2.2.2.2.2.1
  have hsr : sr B ad va.reverse as := by have := sr_rev h1; rw [List.reverse_reverse] at this; exact this
  have hrun := va_runS (p := p) (e := e) (below := below) (meth := meth) (locs := locs) (cells := k) (slots := n) (As := va.reverse) (rest := rest) (g := F0 m pc lc (va ++ rest)) (nL := Y.2.2.1) (R := rmo d mc ms) (H := H) ⟨hC.1, hC.2.1, hC.2.2.2.1, hC.2.2.2.2.1, hts⟩ (hC' l cs D A ad va.reverse)
    ⟨callB_of np hts (wsY_good ⟨hM1, hM2, hM3, hM4⟩) rfl rfl rfl (hts _ hM2) (hts _ hL) hM4 (rooms hdd hM3), hts _ hM5⟩
    ⟨fun a U g mk q => ⟨q.1, q.2.1.blind, q.2.2.1, q.2.2.2.1, q.2.2.2.2⟩, fun U hU hW => ⟨rfl, Kx.warm hW hU hS hK, fun q hq => hA q (Nat.le_trans hS.1 (by rw [← hU]; exact hq)), by rw [hU]; exact hR, hsr⟩⟩
    rfl (by rw [List.length_reverse, hlen, List.length_reverse, has]) hl.1 (by rw [List.reverse_reverse]) (lv_room (by rw [cat_sr h3]; exact hcat)) hd ⟨hk, hn⟩
  exact EL_after hrun hq hC hK hA hS hX hl h3 kk
theorem EL_callI {Y' : My} {d' mc' ms' index np t i : Nat} {as : List AV} {stk : List AV} {Q' : Option AV → Wd → St → Prop} (hd : decode Y.2.1 pc = .ok (.invokespecial index, 3)) (hL : Cond.methodLink Y.1.cls index Y'.1 ∈ tG) (hM : MW Y' np) (hI : Cond.instanceMethod Y'.1 ∈ tG) (hN : Y'.1.name = "<init>") (hr : Y'.2.2.2 = none) (hdd : d' + 1 ≤ d) (hk : k + mc' ≤ mc) (hn : n + ms' ≤ ms) (hstk : stk = as.reverse ++ vR t i :: st) (has : as.length = np) (hcat : cat st ≤ 8) (hC' : Cn Y' d' mc' ms' B σ (vR t i :: as) Q')
    (kk : ∀ r B' σ', Q' r B' σ' → EL sd Y d mc ms Q B' (k + mc') (n + ms') (pc + 3) ls (pu r st) σ') : EL sd Y d mc ms Q B k n pc ls stk σ := by
  intro p l e s m args below meth c H locs cs D A ad ad0 B0 lc sc hq hC hK hA hS hR hX hl hs
  subst hstk
  obtain ⟨va, vb, rfl, h1, h2, hlen⟩ := sr_app hs
  obtain ⟨_, rest, rfl, ⟨hm, rfl⟩, h3⟩ := sr_1 h2
  obtain ⟨hM1, hM2, hM3, hM4⟩ := hM
  have hts := hC.2.2.2.2.2.1
  have hsr : sr B ad (Value.ref (ad t i) :: va.reverse) (vR t i :: as) := ⟨⟨hm, rfl⟩, by have := sr_rev h1; rw [List.reverse_reverse] at this; exact this⟩
  have hcb := callB_of (R := rmo d mc ms) (rm := rmo d' mc' ms') (mc := mc') (ms := ms') np hts (wsY_good ⟨hM1, hM2, hM3, hM4⟩) rfl rfl rfl (hts _ hM2) (hts _ hL) hM4 (rooms hdd hM3)
  rw [hr] at hcb
  have hrun := va_runI (p := p) (e := e) (below := below) (meth := meth) (locs := locs) (cells := k) (slots := n) (As := va.reverse) (rest := rest) (b := ad t i) (g := F0 m pc lc (va ++ Value.ref (ad t i) :: rest)) (nL := Y.2.2.1) (R := rmo d mc ms) (H := H) ⟨hC.1, hC.2.1, hC.2.2.2.1, hC.2.2.2.2.1, hts⟩ (hC' l cs D A ad (Value.ref (ad t i) :: va.reverse))
    ⟨hcb, hN, hts _ hI⟩
    ⟨fun a U g mk q => ⟨q.1, q.2.1.blind, q.2.2.1, q.2.2.2.1, q.2.2.2.2⟩, fun U hU hW => ⟨rfl, Kx.warm hW hU hS hK, fun q hq => hA q (Nat.le_trans hS.1 (by rw [← hU]; exact hq)), by rw [hU]; exact hR, hsr⟩⟩
    rfl (by rw [List.length_reverse, hlen, List.length_reverse, has]) hl.1 (by rw [List.reverse_reverse]) (lv_room (by rw [cat_sr h3]; exact hcat)) hd ⟨hk, hn⟩
  exact EL_after hrun hq hC hK hA hS hX hl h3 kk
theorem EL_zret {z : Int} (hd : decode Y.2.1 pc = .ok (.ireturn, 1)) (hr : Y.2.2.2 = some .boolean) (hz : z = 0 ∨ z = 1) (hq : Q (some (vI z)) B σ) : EL sd Y d k n Q B k n pc ls [vI z] σ := by
  intro p l e s m args below meth c H locs cs D A ad ad0 B0 lc sc hq hC hK hA hS hR hX hl hs
  obtain ⟨_, sc, rfl, ⟨x, rfl, rfl⟩, hs1⟩ := sr_1 hs
  have := sr_0 hs1
  subst this
  have hx : x = 0 ∨ x = 1 := hz.imp (fun h => Int32.toInt_inj.mp h) (fun h => Int32.toInt_inj.mp h)
  exact W_EZ <| W.zret hC.1 hC.2.1 (hC.2.2.1.trans hr) (by rcases hx with rfl | rfl <;> rfl) (fun t ht hW => ⟨⟨some (vI x.toInt), B, σ, ad, ⟨_, rfl, rl_int x rfl⟩, hq, by rw [ht]; exact hR, hX⟩, hS.F ht⟩) hS.2.2 hd hC.2.2.2.2.2.2.1
theorem EL_new {t i index : Nat} (hd : decode Y.2.1 pc = .ok (.new index, 3)) (ht : t < 13) (hcl : Cond.classLink Y.1.cls index (Rt t) ∈ tG) (hinst : Cond.instantiable (Rt t) (nf t) ∈ tG) (hini : Cond.initialized (Rt t) ∈ tG) (hni : (t, i) ∉ B.1) (hu : ∀ j, B.2 t i j = false) (hz : ∀ j : Nat, σ t i j = 0) (hk : k + 1 ≤ mc) (hn : n + nf t ≤ ms) (kk : EL sd Y d mc ms Q (ad1 B t i) (k + 1) (n + nf t) (pc + 3) ls (vR t i :: st) σ) : EL sd Y d mc ms Q B k n pc ls st σ := by
  intro p l e s m args below meth c H locs cs D A ad ad0 B0 lc sc hq hC hK hA hS hR hX hl hs
  have hts := hC.2.2.2.2.2.1
  refine va_new (ci := t) (fs := (List.range (nf t)).map (fun j => sv B ad σ t i j)) hC.1 hC.2.1 hts (cls_in ht) (tyT t) (cls_ty ht) hC.2.2.2.2.1 (hts _ hcl) (hts _ hinst) (hts _ hini) hK.1 hR.1 hR.2.1 hS hA (cls_at ht) (fun j hj => ?_) hk hn hd (fun q H1 hP hD hS1 => ?_)
  · have hq := kq_at t ht j hj
    unfold vp_V
    rw [List.getD_eq_getElem?_getD, fs_at hj, Option.getD_some]
    unfold sv
    rcases skk_3 t ht j hj with e | e | e
    · rw [e] at hq ⊢; rw [kq_0 hq, hz]; rfl
    · rw [e] at hq ⊢; rw [kq_1 hq, hz]; rfl
    · rw [e] at hq ⊢; rw [(kq_2 hq).1]; unfold rfv; rw [hu]; rfl
  · have hX1 : Ext B ad (ad1 B t i) (adu ad t i q) := ext_add hni (out_obj ht)
    refine kk p l e s m args below meth c H1 locs cs D A (adu ad t i q) ad0 B0 lc (.ref q :: sc) (EL_q hX1 hq) hC (hK.ext hX1) hA hS1 (Rep_add hR hni hu hP hD ?_) (hX.tr hX1) (hl.ext hX1) ⟨⟨Or.inl (List.mem_append_right _ (List.mem_singleton.mpr rfl)), by rw [adu_at]⟩, hs.ext hX1⟩
    rw [ce_obj ht]
    congr 2
    apply List.map_congr_left
    intro j hj
    unfold sv
    rcases skk_3 t ht j (List.mem_range.mp hj) with e | e | e
    · rw [e]; rfl
    · rw [e]; rfl
    · rw [e]
      show va_rf _ = va_rf _
      unfold rfv
      rw [show (ad1 B t i).2 t i j = B.2 t i j from rfl, hu j, if_neg (by decide), if_neg (by decide)]
theorem EL_newL {t i b : Nat} {x : Int} (hd : decode Y.2.1 pc = .ok (.newarray .long, 2)) (h : shp t = (1, b)) (hx : x = (b : Int)) (hb : b ≤ 4000) (hw : Cond.arrayClass .long ∈ tG) (hni : (t, i) ∉ B.1) (hu : ∀ j, B.2 t i j = false) (hz : ∀ j : Nat, σ t i j = 0) (hk : k + 1 ≤ mc) (hn : n + b ≤ ms) (kk : EL sd Y d mc ms Q (ad1 B t i) (k + 1) (n + b) (pc + 2) ls (vR t i :: st) σ) : EL sd Y d mc ms Q B k n pc ls (vI x :: st) σ := by
  intro p l e s m args below meth c H locs cs D A ad ad0 B0 lc sc hq hC hK hA hS hR hX hl hs
  obtain ⟨_, sc, rfl, ⟨x', rfl, rfl⟩, hs1⟩ := sr_1 hs
  have hts := hC.2.2.2.2.2.1
  have hN : x'.toNatClampNeg = b := by
    have := clamp32 (x := x') (by omega)
    omega
  refine va_newa (a0 := (b, .inr (.inl (fun j => Int64.ofInt (σ t i j))))) hC.1 hC.2.1 (atype := .long) (hts _ hw) (ty := .long) rfl hK.1 hR.1 hR.2.1 hS hA (fun cA => ?_) (fun hlt => ?_) hN ?_ hk hn hd (fun q cA H1 hK1 hP hD hS1 => ?_)
  · have e : (fun j : Nat => Int64.ofInt (σ t i (j : Int))) = fun _ => 0 := by
      funext j
      rw [hz]
      rfl
    rw [e]
    rfl
  · have := (z32_lt x').mp hlt
    omega
  · exact Nat.le_trans (Nat.mul_le_mul hb (show componentBytes .long ≤ 8 by decide)) (Nat.le_of_ble_eq_true rfl)
  · have hX1 : Ext B ad (ad1 B t i) (adu ad t i q) := ext_add hni (out_arr h (by decide))
    have hcA := cs_of (a := 1) hK.1 hK1 rfl
    subst hcA
    refine kk p l e s m args below meth c H1 locs cs D A (adu ad t i q) ad0 B0 lc (.ref q :: sc) (EL_q hX1 hq) hC (hK.ext hX1) hA hS1 (Rep_add hR hni hu hP hD ?_) (hX.tr hX1) (hl.ext hX1) ⟨⟨Or.inl (List.mem_append_right _ (List.mem_singleton.mpr rfl)), by rw [adu_at]⟩, hs1.ext hX1⟩
    rw [ce_lng h]
theorem EL_perm {B' : Wd} (h1 : ∀ q ∈ B'.1, q ∈ B.1) (h2 : ∀ q ∈ B.1, q ∈ B'.1) (hn : B'.1.Nodup) (hb : ∀ q ∈ B.1, ∀ j, rfp q.1 j = true → B'.2 q.1 q.2 j = B.2 q.1 q.2 j) (kk : EL sd Y d mc ms Q B' k n pc ls st σ) : EL sd Y d mc ms Q B k n pc ls st σ := by
  intro p l e s m args below meth c H locs cs D A ad ad0 B0 lc sc hq hC hK hA hS hR hX hl hs
  have hX1 : Ext B ad B' ad := ⟨h2, fun _ _ => rfl⟩
  exact kk p l e s m args below meth c H locs cs D A ad ad0 B0 lc sc hq hC hK hA hS (Rep_perm hR h1 h2 hn hb) (hX.tr hX1) (hl.ext hX1) (hs.ext hX1)
theorem EL_sld {x : Int} (hd : decode Y.2.1 pc = .ok (.iaload, 1)) (h0 : 0 ≤ x) (h1 : x < (sd 1 : Int)) (kk : EL sd Y d mc ms Q B k n (pc + 1) ls (vI (scr sd x) :: st) σ) : EL sd Y d mc ms Q B k n pc ls (vI x :: vR 52 0 :: st) σ := by
  intro p l e s m args below meth c H locs cs D A ad ad0 B0 lc sc hq hC hK hA hS hR hX hl hs
  obtain ⟨_, sc, rfl, ⟨x', rfl, rfl⟩, hs1⟩ := sr_1 hs
  obtain ⟨_, sc, rfl, ⟨hm, rfl⟩, hs2⟩ := sr_1 hs1
  obtain ⟨z1, z2, z3⟩ := hK.2.2.2.2.2.2.2.2.2.2.2.2
  have hb : ad 52 1 = sd 1 := congrFun hq 1
  refine va_sld hC.1 hC.2.1 z1 z3 z2 hS (vin h0 (by rw [hb]; exact h1)) hd ?_
  refine kk p l e s m args below meth c H locs cs D A ad ad0 B0 lc _ hq hC hK hA hS hR hX hl ⟨⟨_, rfl, ?_⟩, hs2⟩
  unfold scr
  rw [hq]
  rfl
theorem EL_slen (hd : decode Y.2.1 pc = .ok (.arraylength, 1)) (hL : sd 1 ≤ 3584) (kk : EL sd Y d mc ms Q B k n (pc + 1) ls (vI (sd 1 : Int) :: st) σ) : EL sd Y d mc ms Q B k n pc ls (vR 52 0 :: st) σ := by
  intro p l e s m args below meth c H locs cs D A ad ad0 B0 lc sc hq hC hK hA hS hR hX hl hs
  obtain ⟨_, sc, rfl, ⟨hm, rfl⟩, hs2⟩ := sr_1 hs
  obtain ⟨z1, z2, z3⟩ := hK.2.2.2.2.2.2.2.2.2.2.2.2
  have hb : ad 52 1 = sd 1 := congrFun hq 1
  refine va_slen hC.1 hC.2.1 z1 z3 z2 hS hd ?_
  refine kk p l e s m args below meth c H locs cs D A ad ad0 B0 lc _ hq hC hK hA hS hR hX hl ⟨⟨_, rfl, ?_⟩, hs2⟩
  rw [hb]
  exact nI_toInt (by omega)
end ELR
