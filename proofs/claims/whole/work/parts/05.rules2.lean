section ERules2
variable {Y : My} {d mc ms : Nat} {Q : Option AV → Wd → St → Prop} {B : Wd} {k n pc : Nat} {ls : List (Option AV)} {st : List AV} {σ : St}
def bA (x y : Int) : Int := (Int32.ofInt x &&& Int32.ofInt y).toInt
def bO (x y : Int) : Int := (Int32.ofInt x ||| Int32.ofInt y).toInt
def bX (x y : Int) : Int := (Int32.ofInt x ^^^ Int32.ofInt y).toInt
def bL (x y : Int) : Int := (Int32.ofInt x <<< (Int32.ofInt y &&& 31)).toInt
def bR (x y : Int) : Int := (Int32.ofInt x >>> (Int32.ofInt y &&& 31)).toInt
def bU (x y : Int) : Int := (((Int32.ofInt x).toUInt32 >>> ((Int32.ofInt y).toUInt32 &&& Int32.toUInt32 31)).toInt32).toInt
def lA (x y : Int) : Int := (Int64.ofInt x &&& Int64.ofInt y).toInt
def lO (x y : Int) : Int := (Int64.ofInt x ||| Int64.ofInt y).toInt
def lL (x y : Int) : Int := (Int64.ofInt x <<< ((Int32.ofInt y).toInt64 &&& 63)).toInt
def lU (x y : Int) : Int := (((Int64.ofInt x).toUInt64 >>> ((Int32.ofInt y).toInt64.toUInt64 &&& Int64.toUInt64 63)).toInt64).toInt
def lC (x y : Int) : Int := if y < x then 1 else if x = y then 0 else -1
def ic (x : Int) : Int := (((Int32.ofInt x).toUInt32 % 65536).toInt32).toInt
theorem rem32 (x y : Int32) : (x - x / y * y).toInt = x.toInt.tmod y.toInt := by
  have h1 : x - x / y * y = x % y := by
    have := Int32.toInt_mod x y
    apply Int32.toInt_inj.mp
    rw [Int32.toInt_mod, Int32.toInt_sub, Int32.toInt_mul, Int32.toInt_div]
    rw [Int.bmod_mul_bmod, Int.sub_bmod_bmod, Int.tmod_def, Int.mul_comm y.toInt]
    rw [← Int.mul_comm y.toInt, ← Int.tmod_def, ← Int32.toInt_mod]
    exact Int32.toInt_bmod _
  rw [h1, Int32.toInt_mod]
theorem rem64 (x y : Int64) : (x - x / y * y).toInt = x.toInt.tmod y.toInt := by
  have h1 : x - x / y * y = x % y := by
    apply Int64.toInt_inj.mp
    rw [Int64.toInt_mod, Int64.toInt_sub, Int64.toInt_mul, Int64.toInt_div]
    rw [Int.bmod_mul_bmod, Int.sub_bmod_bmod, Int.mul_comm (x.toInt.tdiv y.toInt), ← Int.tmod_def, ← Int64.toInt_mod]
    exact Int64.toInt_bmod _
  rw [h1, Int64.toInt_mod]

theorem E_iadd {x y : Int} (hd : decode Y.2.1 pc = .ok (.iadd, 1)) (kk : E Y d mc ms Q B k n (pc + 1) ls (vI (wi (x + y)) :: st) σ) : E Y d mc ms Q B k n pc ls (vI y :: vI x :: st) σ := by
  refine E_lift ?_ kk
  intro p l e s m args below meth c H locs cs D A ad Z lc sc hC hK hS hR hl hs kk
  obtain ⟨_, sc, rfl, ⟨y', rfl, rfl⟩, hs1⟩ := sr_1 hs
  obtain ⟨_, sc, rfl, ⟨x', rfl, rfl⟩, hs2⟩ := sr_1 hs1
  exact lv_iadd hC.1 hC.2.1 hd (kk H locs lc _ hS hR hl ⟨rl_int _ (by rw [Int32.toInt_add]; rfl), hs2⟩)
theorem E_isub {x y : Int} (hd : decode Y.2.1 pc = .ok (.isub, 1)) (kk : E Y d mc ms Q B k n (pc + 1) ls (vI (wi (x - y)) :: st) σ) : E Y d mc ms Q B k n pc ls (vI y :: vI x :: st) σ := by
  refine E_lift ?_ kk
  intro p l e s m args below meth c H locs cs D A ad Z lc sc hC hK hS hR hl hs kk
  obtain ⟨_, sc, rfl, ⟨y', rfl, rfl⟩, hs1⟩ := sr_1 hs
  obtain ⟨_, sc, rfl, ⟨x', rfl, rfl⟩, hs2⟩ := sr_1 hs1
  exact lv_isub hC.1 hC.2.1 hd (kk H locs lc _ hS hR hl ⟨rl_int _ (by rw [Int32.toInt_sub]; rfl), hs2⟩)
theorem E_imul {x y : Int} (hd : decode Y.2.1 pc = .ok (.imul, 1)) (kk : E Y d mc ms Q B k n (pc + 1) ls (vI (wi (x * y)) :: st) σ) : E Y d mc ms Q B k n pc ls (vI y :: vI x :: st) σ := by
  refine E_lift ?_ kk
  intro p l e s m args below meth c H locs cs D A ad Z lc sc hC hK hS hR hl hs kk
  obtain ⟨_, sc, rfl, ⟨y', rfl, rfl⟩, hs1⟩ := sr_1 hs
  obtain ⟨_, sc, rfl, ⟨x', rfl, rfl⟩, hs2⟩ := sr_1 hs1
  exact lv_imul hC.1 hC.2.1 hd (kk H locs lc _ hS hR hl ⟨rl_int _ (by rw [Int32.toInt_mul]; rfl), hs2⟩)
theorem E_idiv {x y : Int} (hd : decode Y.2.1 pc = .ok (.idiv, 1)) (hy : ¬ y = 0) (kk : E Y d mc ms Q B k n (pc + 1) ls (vI (wi (x.tdiv y)) :: st) σ) : E Y d mc ms Q B k n pc ls (vI y :: vI x :: st) σ := by
  refine E_lift ?_ kk
  intro p l e s m args below meth c H locs cs D A ad Z lc sc hC hK hS hR hl hs kk
  obtain ⟨_, sc, rfl, ⟨y', rfl, rfl⟩, hs1⟩ := sr_1 hs
  obtain ⟨_, sc, rfl, ⟨x', rfl, rfl⟩, hs2⟩ := sr_1 hs1
  exact lv_idiv hC.1 hC.2.1 hd (fun h => hy (by rw [h]; rfl)) (kk H locs lc _ hS hR hl ⟨rl_int _ (by rw [Int32.toInt_div]; rfl), hs2⟩)
theorem E_irem {x y : Int} (hd : decode Y.2.1 pc = .ok (.irem, 1)) (hy : ¬ y = 0) (kk : E Y d mc ms Q B k n (pc + 1) ls (vI (x.tmod y) :: st) σ) : E Y d mc ms Q B k n pc ls (vI y :: vI x :: st) σ := by
  refine E_lift ?_ kk
  intro p l e s m args below meth c H locs cs D A ad Z lc sc hC hK hS hR hl hs kk
  obtain ⟨_, sc, rfl, ⟨y', rfl, rfl⟩, hs1⟩ := sr_1 hs
  obtain ⟨_, sc, rfl, ⟨x', rfl, rfl⟩, hs2⟩ := sr_1 hs1
  exact lv_irem hC.1 hC.2.1 hd (fun h => hy (by rw [h]; rfl)) (kk H locs lc _ hS hR hl ⟨rl_int _ (rem32 _ _), hs2⟩)
theorem E_iand {x y : Int} (hd : decode Y.2.1 pc = .ok (.iand, 1)) (kk : E Y d mc ms Q B k n (pc + 1) ls (vI (bA x y) :: st) σ) : E Y d mc ms Q B k n pc ls (vI y :: vI x :: st) σ := by
  refine E_lift ?_ kk
  intro p l e s m args below meth c H locs cs D A ad Z lc sc hC hK hS hR hl hs kk
  obtain ⟨_, sc, rfl, ⟨y', rfl, rfl⟩, hs1⟩ := sr_1 hs
  obtain ⟨_, sc, rfl, ⟨x', rfl, rfl⟩, hs2⟩ := sr_1 hs1
  exact lv_iand hC.1 hC.2.1 hd (kk H locs lc _ hS hR hl ⟨rl_int _ (by unfold bA; rw [i32_back, i32_back]), hs2⟩)
theorem E_ior {x y : Int} (hd : decode Y.2.1 pc = .ok (.ior, 1)) (kk : E Y d mc ms Q B k n (pc + 1) ls (vI (bO x y) :: st) σ) : E Y d mc ms Q B k n pc ls (vI y :: vI x :: st) σ := by
  refine E_lift ?_ kk
  intro p l e s m args below meth c H locs cs D A ad Z lc sc hC hK hS hR hl hs kk
  obtain ⟨_, sc, rfl, ⟨y', rfl, rfl⟩, hs1⟩ := sr_1 hs
  obtain ⟨_, sc, rfl, ⟨x', rfl, rfl⟩, hs2⟩ := sr_1 hs1
  exact lv_ior hC.1 hC.2.1 hd (kk H locs lc _ hS hR hl ⟨rl_int _ (by unfold bO; rw [i32_back, i32_back]), hs2⟩)
theorem E_ixor {x y : Int} (hd : decode Y.2.1 pc = .ok (.ixor, 1)) (kk : E Y d mc ms Q B k n (pc + 1) ls (vI (bX x y) :: st) σ) : E Y d mc ms Q B k n pc ls (vI y :: vI x :: st) σ := by
  refine E_lift ?_ kk
  intro p l e s m args below meth c H locs cs D A ad Z lc sc hC hK hS hR hl hs kk
  obtain ⟨_, sc, rfl, ⟨y', rfl, rfl⟩, hs1⟩ := sr_1 hs
  obtain ⟨_, sc, rfl, ⟨x', rfl, rfl⟩, hs2⟩ := sr_1 hs1
  exact lv_ixor hC.1 hC.2.1 hd (kk H locs lc _ hS hR hl ⟨rl_int _ (by unfold bX; rw [i32_back, i32_back]), hs2⟩)
theorem E_ishl {x y : Int} (hd : decode Y.2.1 pc = .ok (.ishl, 1)) (kk : E Y d mc ms Q B k n (pc + 1) ls (vI (bL x y) :: st) σ) : E Y d mc ms Q B k n pc ls (vI y :: vI x :: st) σ := by
  refine E_lift ?_ kk
  intro p l e s m args below meth c H locs cs D A ad Z lc sc hC hK hS hR hl hs kk
  obtain ⟨_, sc, rfl, ⟨y', rfl, rfl⟩, hs1⟩ := sr_1 hs
  obtain ⟨_, sc, rfl, ⟨x', rfl, rfl⟩, hs2⟩ := sr_1 hs1
  exact lv_ishl hC.1 hC.2.1 hd (kk H locs lc _ hS hR hl ⟨rl_int _ (by unfold bL; rw [i32_back, i32_back]), hs2⟩)
theorem E_ishr {x y : Int} (hd : decode Y.2.1 pc = .ok (.ishr, 1)) (kk : E Y d mc ms Q B k n (pc + 1) ls (vI (bR x y) :: st) σ) : E Y d mc ms Q B k n pc ls (vI y :: vI x :: st) σ := by
  refine E_lift ?_ kk
  intro p l e s m args below meth c H locs cs D A ad Z lc sc hC hK hS hR hl hs kk
  obtain ⟨_, sc, rfl, ⟨y', rfl, rfl⟩, hs1⟩ := sr_1 hs
  obtain ⟨_, sc, rfl, ⟨x', rfl, rfl⟩, hs2⟩ := sr_1 hs1
  exact lv_ishr hC.1 hC.2.1 hd (kk H locs lc _ hS hR hl ⟨rl_int _ (by unfold bR; rw [i32_back, i32_back]), hs2⟩)
theorem E_iushr {x y : Int} (hd : decode Y.2.1 pc = .ok (.iushr, 1)) (kk : E Y d mc ms Q B k n (pc + 1) ls (vI (bU x y) :: st) σ) : E Y d mc ms Q B k n pc ls (vI y :: vI x :: st) σ := by
  refine E_lift ?_ kk
  intro p l e s m args below meth c H locs cs D A ad Z lc sc hC hK hS hR hl hs kk
  obtain ⟨_, sc, rfl, ⟨y', rfl, rfl⟩, hs1⟩ := sr_1 hs
  obtain ⟨_, sc, rfl, ⟨x', rfl, rfl⟩, hs2⟩ := sr_1 hs1
  exact lv_iushr hC.1 hC.2.1 hd rfl (kk H locs lc _ hS hR hl ⟨rl_int _ (by unfold bU; rw [i32_back, i32_back]), hs2⟩)
theorem E_ladd {x y : Int} (hd : decode Y.2.1 pc = .ok (.ladd, 1)) (kk : E Y d mc ms Q B k n (pc + 1) ls (vL (wj (x + y)) :: st) σ) : E Y d mc ms Q B k n pc ls (vL y :: vL x :: st) σ := by
  refine E_lift ?_ kk
  intro p l e s m args below meth c H locs cs D A ad Z lc sc hC hK hS hR hl hs kk
  obtain ⟨_, sc, rfl, ⟨y', rfl, rfl⟩, hs1⟩ := sr_1 hs
  obtain ⟨_, sc, rfl, ⟨x', rfl, rfl⟩, hs2⟩ := sr_1 hs1
  exact lv_ladd hC.1 hC.2.1 hd (kk H locs lc _ hS hR hl ⟨rl_lng _ (by rw [Int64.toInt_add]; rfl), hs2⟩)
theorem E_lsub {x y : Int} (hd : decode Y.2.1 pc = .ok (.lsub, 1)) (kk : E Y d mc ms Q B k n (pc + 1) ls (vL (wj (x - y)) :: st) σ) : E Y d mc ms Q B k n pc ls (vL y :: vL x :: st) σ := by
  refine E_lift ?_ kk
  intro p l e s m args below meth c H locs cs D A ad Z lc sc hC hK hS hR hl hs kk
  obtain ⟨_, sc, rfl, ⟨y', rfl, rfl⟩, hs1⟩ := sr_1 hs
  obtain ⟨_, sc, rfl, ⟨x', rfl, rfl⟩, hs2⟩ := sr_1 hs1
  exact lv_lsub hC.1 hC.2.1 hd (kk H locs lc _ hS hR hl ⟨rl_lng _ (by rw [Int64.toInt_sub]; rfl), hs2⟩)
theorem E_lmul {x y : Int} (hd : decode Y.2.1 pc = .ok (.lmul, 1)) (kk : E Y d mc ms Q B k n (pc + 1) ls (vL (wj (x * y)) :: st) σ) : E Y d mc ms Q B k n pc ls (vL y :: vL x :: st) σ := by
  refine E_lift ?_ kk
  intro p l e s m args below meth c H locs cs D A ad Z lc sc hC hK hS hR hl hs kk
  obtain ⟨_, sc, rfl, ⟨y', rfl, rfl⟩, hs1⟩ := sr_1 hs
  obtain ⟨_, sc, rfl, ⟨x', rfl, rfl⟩, hs2⟩ := sr_1 hs1
  exact lv_lmul hC.1 hC.2.1 hd (kk H locs lc _ hS hR hl ⟨rl_lng _ (by rw [Int64.toInt_mul]; rfl), hs2⟩)
theorem E_ldiv {x y : Int} (hd : decode Y.2.1 pc = .ok (.ldiv, 1)) (hy : ¬ y = 0) (kk : E Y d mc ms Q B k n (pc + 1) ls (vL (wj (x.tdiv y)) :: st) σ) : E Y d mc ms Q B k n pc ls (vL y :: vL x :: st) σ := by
  refine E_lift ?_ kk
  intro p l e s m args below meth c H locs cs D A ad Z lc sc hC hK hS hR hl hs kk
  obtain ⟨_, sc, rfl, ⟨y', rfl, rfl⟩, hs1⟩ := sr_1 hs
  obtain ⟨_, sc, rfl, ⟨x', rfl, rfl⟩, hs2⟩ := sr_1 hs1
  exact lv_ldiv hC.1 hC.2.1 hd (fun h => hy (by rw [h]; rfl)) (kk H locs lc _ hS hR hl ⟨rl_lng _ (by rw [Int64.toInt_div]; rfl), hs2⟩)
theorem E_lrem {x y : Int} (hd : decode Y.2.1 pc = .ok (.lrem, 1)) (hy : ¬ y = 0) (kk : E Y d mc ms Q B k n (pc + 1) ls (vL (x.tmod y) :: st) σ) : E Y d mc ms Q B k n pc ls (vL y :: vL x :: st) σ := by
  refine E_lift ?_ kk
  intro p l e s m args below meth c H locs cs D A ad Z lc sc hC hK hS hR hl hs kk
  obtain ⟨_, sc, rfl, ⟨y', rfl, rfl⟩, hs1⟩ := sr_1 hs
  obtain ⟨_, sc, rfl, ⟨x', rfl, rfl⟩, hs2⟩ := sr_1 hs1
  exact lv_lrem hC.1 hC.2.1 hd (fun h => hy (by rw [h]; rfl)) (kk H locs lc _ hS hR hl ⟨rl_lng _ (rem64 _ _), hs2⟩)
theorem E_land {x y : Int} (hd : decode Y.2.1 pc = .ok (.land, 1)) (kk : E Y d mc ms Q B k n (pc + 1) ls (vL (lA x y) :: st) σ) : E Y d mc ms Q B k n pc ls (vL y :: vL x :: st) σ := by
  refine E_lift ?_ kk
  intro p l e s m args below meth c H locs cs D A ad Z lc sc hC hK hS hR hl hs kk
  obtain ⟨_, sc, rfl, ⟨y', rfl, rfl⟩, hs1⟩ := sr_1 hs
  obtain ⟨_, sc, rfl, ⟨x', rfl, rfl⟩, hs2⟩ := sr_1 hs1
  exact lv_land hC.1 hC.2.1 hd (kk H locs lc _ hS hR hl ⟨rl_lng _ (by unfold lA; rw [i64_back, i64_back]), hs2⟩)
theorem E_lor {x y : Int} (hd : decode Y.2.1 pc = .ok (.lor, 1)) (kk : E Y d mc ms Q B k n (pc + 1) ls (vL (lO x y) :: st) σ) : E Y d mc ms Q B k n pc ls (vL y :: vL x :: st) σ := by
  refine E_lift ?_ kk
  intro p l e s m args below meth c H locs cs D A ad Z lc sc hC hK hS hR hl hs kk
  obtain ⟨_, sc, rfl, ⟨y', rfl, rfl⟩, hs1⟩ := sr_1 hs
  obtain ⟨_, sc, rfl, ⟨x', rfl, rfl⟩, hs2⟩ := sr_1 hs1
  exact lv_lor hC.1 hC.2.1 hd (kk H locs lc _ hS hR hl ⟨rl_lng _ (by unfold lO; rw [i64_back, i64_back]), hs2⟩)
theorem E_lshl {x y : Int} (hd : decode Y.2.1 pc = .ok (.lshl, 1)) (kk : E Y d mc ms Q B k n (pc + 1) ls (vL (lL x y) :: st) σ) : E Y d mc ms Q B k n pc ls (vI y :: vL x :: st) σ := by
  refine E_lift ?_ kk
  intro p l e s m args below meth c H locs cs D A ad Z lc sc hC hK hS hR hl hs kk
  obtain ⟨_, sc, rfl, ⟨y', rfl, rfl⟩, hs1⟩ := sr_1 hs
  obtain ⟨_, sc, rfl, ⟨x', rfl, rfl⟩, hs2⟩ := sr_1 hs1
  exact lv_lshl hC.1 hC.2.1 hd rfl (kk H locs lc _ hS hR hl ⟨rl_lng _ (by unfold lL; rw [i64_back, i32_back]), hs2⟩)
theorem E_lushr {x y : Int} (hd : decode Y.2.1 pc = .ok (.lushr, 1)) (kk : E Y d mc ms Q B k n (pc + 1) ls (vL (lU x y) :: st) σ) : E Y d mc ms Q B k n pc ls (vI y :: vL x :: st) σ := by
  refine E_lift ?_ kk
  intro p l e s m args below meth c H locs cs D A ad Z lc sc hC hK hS hR hl hs kk
  obtain ⟨_, sc, rfl, ⟨y', rfl, rfl⟩, hs1⟩ := sr_1 hs
  obtain ⟨_, sc, rfl, ⟨x', rfl, rfl⟩, hs2⟩ := sr_1 hs1
  exact lv_lushr hC.1 hC.2.1 hd rfl (kk H locs lc _ hS hR hl ⟨rl_lng _ (by unfold lU; rw [i64_back, i32_back]), hs2⟩)
theorem E_lcmp {x y : Int} (hd : decode Y.2.1 pc = .ok (.lcmp, 1)) (kk : E Y d mc ms Q B k n (pc + 1) ls (vI (lC x y) :: st) σ) : E Y d mc ms Q B k n pc ls (vL y :: vL x :: st) σ := by
  refine E_lift ?_ kk
  intro p l e s m args below meth c H locs cs D A ad Z lc sc hC hK hS hR hl hs kk
  obtain ⟨_, sc, rfl, ⟨y', rfl, rfl⟩, hs1⟩ := sr_1 hs
  obtain ⟨_, sc, rfl, ⟨x', rfl, rfl⟩, hs2⟩ := sr_1 hs1
  refine W.lcmp hC.1 hC.2.1 hd (kk H locs lc _ hS hR hl ⟨rl_int _ ?_, hs2⟩)
  unfold lg_cmp lC
  simp only [gt_iff_lt, Int64.lt_iff_toInt_lt, ← Int64.toInt_inj]
  repeat' split
  all_goals rfl
theorem E_ineg {x : Int} (hd : decode Y.2.1 pc = .ok (.ineg, 1)) (kk : E Y d mc ms Q B k n (pc + 1) ls (vI (wi (-x)) :: st) σ) : E Y d mc ms Q B k n pc ls (vI x :: st) σ := by
  refine E_lift ?_ kk
  intro p l e s m args below meth c H locs cs D A ad Z lc sc hC hK hS hR hl hs kk
  obtain ⟨_, sc, rfl, ⟨x', rfl, rfl⟩, hs1⟩ := sr_1 hs
  exact lv_ineg hC.1 hC.2.1 hd (kk H locs lc _ hS hR hl ⟨rl_int _ (by rw [Int32.toInt_neg]; rfl), hs1⟩)
theorem E_i2l {x : Int} (hd : decode Y.2.1 pc = .ok (.i2l, 1)) (kk : E Y d mc ms Q B k n (pc + 1) ls (vL (x) :: st) σ) : E Y d mc ms Q B k n pc ls (vI x :: st) σ := by
  refine E_lift ?_ kk
  intro p l e s m args below meth c H locs cs D A ad Z lc sc hC hK hS hR hl hs kk
  obtain ⟨_, sc, rfl, ⟨x', rfl, rfl⟩, hs1⟩ := sr_1 hs
  exact lv_i2l hC.1 hC.2.1 hd rfl (kk H locs lc _ hS hR hl ⟨rl_lng _ (by rw [Int32.toInt_toInt64]), hs1⟩)
theorem E_l2i {x : Int} (hd : decode Y.2.1 pc = .ok (.l2i, 1)) (kk : E Y d mc ms Q B k n (pc + 1) ls (vI (wi x) :: st) σ) : E Y d mc ms Q B k n pc ls (vL x :: st) σ := by
  refine E_lift ?_ kk
  intro p l e s m args below meth c H locs cs D A ad Z lc sc hC hK hS hR hl hs kk
  obtain ⟨_, sc, rfl, ⟨x', rfl, rfl⟩, hs1⟩ := sr_1 hs
  exact lv_l2i hC.1 hC.2.1 hd rfl (kk H locs lc _ hS hR hl ⟨rl_int _ (by rw [Int64.toInt_toInt32]; rfl), hs1⟩)
theorem E_i2c {x : Int} (hd : decode Y.2.1 pc = .ok (.i2c, 1)) (kk : E Y d mc ms Q B k n (pc + 1) ls (vI (ic x) :: st) σ) : E Y d mc ms Q B k n pc ls (vI x :: st) σ := by
  refine E_lift ?_ kk
  intro p l e s m args below meth c H locs cs D A ad Z lc sc hC hK hS hR hl hs kk
  obtain ⟨_, sc, rfl, ⟨x', rfl, rfl⟩, hs1⟩ := sr_1 hs
  exact lv_i2c hC.1 hC.2.1 hd rfl (kk H locs lc _ hS hR hl ⟨rl_int _ (by unfold ic; rw [i32_back]), hs1⟩)
theorem z32_eq (x : Int32) : x = 0 ↔ x.toInt = 0 := Int32.toInt_inj.symm
theorem z32_lt (x : Int32) : x < 0 ↔ x.toInt < 0 := Int32.lt_iff_toInt_lt
theorem z32_le (x : Int32) : x ≤ 0 ↔ x.toInt ≤ 0 := Int32.le_iff_toInt_le
theorem z32_gt (x : Int32) : 0 < x ↔ 0 < x.toInt := Int32.lt_iff_toInt_lt
theorem z32_ge (x : Int32) : 0 ≤ x ↔ 0 ≤ x.toInt := Int32.le_iff_toInt_le
theorem E_icmp_eq {x y off : Int} {tgt : Nat} (hd : decode Y.2.1 pc = .ok (.if_icmp .eq off, 3)) (ht : (pc : Int) + off = (tgt : Int)) (kt : x = y → E Y d mc ms Q B k n tgt ls st σ) (kf : ¬ x = y → E Y d mc ms Q B k n (pc + 3) ls st σ) : E Y d mc ms Q B k n pc ls (vI y :: vI x :: st) σ := by
  intro p l e s m args below meth c H locs cs D A ad ad0 B0 lc sc hC hK hA hS hR hX hl hs
  obtain ⟨_, sc, rfl, ⟨y', rfl, rfl⟩, hs1⟩ := sr_1 hs
  obtain ⟨_, sc, rfl, ⟨x', rfl, rfl⟩, hs2⟩ := sr_1 hs1
  exact lv_icmp_eq hC.1 hC.2.1 hd ht (fun h => kt (Int32.toInt_inj.mpr h) p l e s m args below meth c H locs cs D A ad ad0 B0 lc sc hC hK hA hS hR hX hl hs2) (fun h => kf (fun q => h (Int32.toInt_inj.mp q)) p l e s m args below meth c H locs cs D A ad ad0 B0 lc sc hC hK hA hS hR hX hl hs2)
theorem E_if_eq {x off : Int} {tgt : Nat} (hd : decode Y.2.1 pc = .ok (.ifCond .eq off, 3)) (ht : (pc : Int) + off = (tgt : Int)) (kt : x = 0 → E Y d mc ms Q B k n tgt ls st σ) (kf : ¬ x = 0 → E Y d mc ms Q B k n (pc + 3) ls st σ) : E Y d mc ms Q B k n pc ls (vI x :: st) σ := by
  intro p l e s m args below meth c H locs cs D A ad ad0 B0 lc sc hC hK hA hS hR hX hl hs
  obtain ⟨_, sc, rfl, ⟨x', rfl, rfl⟩, hs1⟩ := sr_1 hs
  exact lv_if_eq hC.1 hC.2.1 hd ht (fun h => kt ((z32_eq _).mp h) p l e s m args below meth c H locs cs D A ad ad0 B0 lc sc hC hK hA hS hR hX hl hs1) (fun h => kf (fun q => h ((z32_eq _).mpr q)) p l e s m args below meth c H locs cs D A ad ad0 B0 lc sc hC hK hA hS hR hX hl hs1)
theorem E_icmp_ne {x y off : Int} {tgt : Nat} (hd : decode Y.2.1 pc = .ok (.if_icmp .ne off, 3)) (ht : (pc : Int) + off = (tgt : Int)) (kt : ¬ x = y → E Y d mc ms Q B k n tgt ls st σ) (kf : x = y → E Y d mc ms Q B k n (pc + 3) ls st σ) : E Y d mc ms Q B k n pc ls (vI y :: vI x :: st) σ := by
  intro p l e s m args below meth c H locs cs D A ad ad0 B0 lc sc hC hK hA hS hR hX hl hs
  obtain ⟨_, sc, rfl, ⟨y', rfl, rfl⟩, hs1⟩ := sr_1 hs
  obtain ⟨_, sc, rfl, ⟨x', rfl, rfl⟩, hs2⟩ := sr_1 hs1
  exact lv_icmp_ne hC.1 hC.2.1 hd ht (fun h => kt (fun q => h (Int32.toInt_inj.mp q)) p l e s m args below meth c H locs cs D A ad ad0 B0 lc sc hC hK hA hS hR hX hl hs2) (fun h => kf (Int32.toInt_inj.mpr h) p l e s m args below meth c H locs cs D A ad ad0 B0 lc sc hC hK hA hS hR hX hl hs2)
theorem E_if_ne {x off : Int} {tgt : Nat} (hd : decode Y.2.1 pc = .ok (.ifCond .ne off, 3)) (ht : (pc : Int) + off = (tgt : Int)) (kt : ¬ x = 0 → E Y d mc ms Q B k n tgt ls st σ) (kf : x = 0 → E Y d mc ms Q B k n (pc + 3) ls st σ) : E Y d mc ms Q B k n pc ls (vI x :: st) σ := by
  intro p l e s m args below meth c H locs cs D A ad ad0 B0 lc sc hC hK hA hS hR hX hl hs
  obtain ⟨_, sc, rfl, ⟨x', rfl, rfl⟩, hs1⟩ := sr_1 hs
  exact lv_if_ne hC.1 hC.2.1 hd ht (fun h => kt (fun q => h ((z32_eq _).mpr q)) p l e s m args below meth c H locs cs D A ad ad0 B0 lc sc hC hK hA hS hR hX hl hs1) (fun h => kf ((z32_eq _).mp h) p l e s m args below meth c H locs cs D A ad ad0 B0 lc sc hC hK hA hS hR hX hl hs1)
theorem E_icmp_lt {x y off : Int} {tgt : Nat} (hd : decode Y.2.1 pc = .ok (.if_icmp .lt off, 3)) (ht : (pc : Int) + off = (tgt : Int)) (kt : x < y → E Y d mc ms Q B k n tgt ls st σ) (kf : ¬ x < y → E Y d mc ms Q B k n (pc + 3) ls st σ) : E Y d mc ms Q B k n pc ls (vI y :: vI x :: st) σ := by
  intro p l e s m args below meth c H locs cs D A ad ad0 B0 lc sc hC hK hA hS hR hX hl hs
  obtain ⟨_, sc, rfl, ⟨y', rfl, rfl⟩, hs1⟩ := sr_1 hs
  obtain ⟨_, sc, rfl, ⟨x', rfl, rfl⟩, hs2⟩ := sr_1 hs1
  exact lv_icmp_lt hC.1 hC.2.1 hd ht (fun h => kt (Int32.lt_iff_toInt_lt.mp h) p l e s m args below meth c H locs cs D A ad ad0 B0 lc sc hC hK hA hS hR hX hl hs2) (fun h => kf (fun q => h (Int32.lt_iff_toInt_lt.mpr q)) p l e s m args below meth c H locs cs D A ad ad0 B0 lc sc hC hK hA hS hR hX hl hs2)
theorem E_if_lt {x off : Int} {tgt : Nat} (hd : decode Y.2.1 pc = .ok (.ifCond .lt off, 3)) (ht : (pc : Int) + off = (tgt : Int)) (kt : x < 0 → E Y d mc ms Q B k n tgt ls st σ) (kf : ¬ x < 0 → E Y d mc ms Q B k n (pc + 3) ls st σ) : E Y d mc ms Q B k n pc ls (vI x :: st) σ := by
  intro p l e s m args below meth c H locs cs D A ad ad0 B0 lc sc hC hK hA hS hR hX hl hs
  obtain ⟨_, sc, rfl, ⟨x', rfl, rfl⟩, hs1⟩ := sr_1 hs
  exact lv_if_lt hC.1 hC.2.1 hd ht (fun h => kt ((z32_lt _).mp h) p l e s m args below meth c H locs cs D A ad ad0 B0 lc sc hC hK hA hS hR hX hl hs1) (fun h => kf (fun q => h ((z32_lt _).mpr q)) p l e s m args below meth c H locs cs D A ad ad0 B0 lc sc hC hK hA hS hR hX hl hs1)
theorem E_icmp_ge {x y off : Int} {tgt : Nat} (hd : decode Y.2.1 pc = .ok (.if_icmp .ge off, 3)) (ht : (pc : Int) + off = (tgt : Int)) (kt : y ≤ x → E Y d mc ms Q B k n tgt ls st σ) (kf : ¬ y ≤ x → E Y d mc ms Q B k n (pc + 3) ls st σ) : E Y d mc ms Q B k n pc ls (vI y :: vI x :: st) σ := by
  intro p l e s m args below meth c H locs cs D A ad ad0 B0 lc sc hC hK hA hS hR hX hl hs
  obtain ⟨_, sc, rfl, ⟨y', rfl, rfl⟩, hs1⟩ := sr_1 hs
  obtain ⟨_, sc, rfl, ⟨x', rfl, rfl⟩, hs2⟩ := sr_1 hs1
  exact lv_icmp_ge hC.1 hC.2.1 hd ht (fun h => kt (Int32.le_iff_toInt_le.mp h) p l e s m args below meth c H locs cs D A ad ad0 B0 lc sc hC hK hA hS hR hX hl hs2) (fun h => kf (fun q => h (Int32.le_iff_toInt_le.mpr q)) p l e s m args below meth c H locs cs D A ad ad0 B0 lc sc hC hK hA hS hR hX hl hs2)
theorem E_if_ge {x off : Int} {tgt : Nat} (hd : decode Y.2.1 pc = .ok (.ifCond .ge off, 3)) (ht : (pc : Int) + off = (tgt : Int)) (kt : 0 ≤ x → E Y d mc ms Q B k n tgt ls st σ) (kf : ¬ 0 ≤ x → E Y d mc ms Q B k n (pc + 3) ls st σ) : E Y d mc ms Q B k n pc ls (vI x :: st) σ := by
  intro p l e s m args below meth c H locs cs D A ad ad0 B0 lc sc hC hK hA hS hR hX hl hs
  obtain ⟨_, sc, rfl, ⟨x', rfl, rfl⟩, hs1⟩ := sr_1 hs
  exact lv_if_ge hC.1 hC.2.1 hd ht (fun h => kt ((z32_ge _).mp h) p l e s m args below meth c H locs cs D A ad ad0 B0 lc sc hC hK hA hS hR hX hl hs1) (fun h => kf (fun q => h ((z32_ge _).mpr q)) p l e s m args below meth c H locs cs D A ad ad0 B0 lc sc hC hK hA hS hR hX hl hs1)
theorem E_icmp_gt {x y off : Int} {tgt : Nat} (hd : decode Y.2.1 pc = .ok (.if_icmp .gt off, 3)) (ht : (pc : Int) + off = (tgt : Int)) (kt : y < x → E Y d mc ms Q B k n tgt ls st σ) (kf : ¬ y < x → E Y d mc ms Q B k n (pc + 3) ls st σ) : E Y d mc ms Q B k n pc ls (vI y :: vI x :: st) σ := by
  intro p l e s m args below meth c H locs cs D A ad ad0 B0 lc sc hC hK hA hS hR hX hl hs
  obtain ⟨_, sc, rfl, ⟨y', rfl, rfl⟩, hs1⟩ := sr_1 hs
  obtain ⟨_, sc, rfl, ⟨x', rfl, rfl⟩, hs2⟩ := sr_1 hs1
  exact lv_icmp_gt hC.1 hC.2.1 hd ht (fun h => kt (Int32.lt_iff_toInt_lt.mp h) p l e s m args below meth c H locs cs D A ad ad0 B0 lc sc hC hK hA hS hR hX hl hs2) (fun h => kf (fun q => h (Int32.lt_iff_toInt_lt.mpr q)) p l e s m args below meth c H locs cs D A ad ad0 B0 lc sc hC hK hA hS hR hX hl hs2)
theorem E_if_gt {x off : Int} {tgt : Nat} (hd : decode Y.2.1 pc = .ok (.ifCond .gt off, 3)) (ht : (pc : Int) + off = (tgt : Int)) (kt : 0 < x → E Y d mc ms Q B k n tgt ls st σ) (kf : ¬ 0 < x → E Y d mc ms Q B k n (pc + 3) ls st σ) : E Y d mc ms Q B k n pc ls (vI x :: st) σ := by
  intro p l e s m args below meth c H locs cs D A ad ad0 B0 lc sc hC hK hA hS hR hX hl hs
  obtain ⟨_, sc, rfl, ⟨x', rfl, rfl⟩, hs1⟩ := sr_1 hs
  exact lv_if_gt hC.1 hC.2.1 hd ht (fun h => kt ((z32_gt _).mp h) p l e s m args below meth c H locs cs D A ad ad0 B0 lc sc hC hK hA hS hR hX hl hs1) (fun h => kf (fun q => h ((z32_gt _).mpr q)) p l e s m args below meth c H locs cs D A ad ad0 B0 lc sc hC hK hA hS hR hX hl hs1)
theorem E_icmp_le {x y off : Int} {tgt : Nat} (hd : decode Y.2.1 pc = .ok (.if_icmp .le off, 3)) (ht : (pc : Int) + off = (tgt : Int)) (kt : x ≤ y → E Y d mc ms Q B k n tgt ls st σ) (kf : ¬ x ≤ y → E Y d mc ms Q B k n (pc + 3) ls st σ) : E Y d mc ms Q B k n pc ls (vI y :: vI x :: st) σ := by
  intro p l e s m args below meth c H locs cs D A ad ad0 B0 lc sc hC hK hA hS hR hX hl hs
  obtain ⟨_, sc, rfl, ⟨y', rfl, rfl⟩, hs1⟩ := sr_1 hs
  obtain ⟨_, sc, rfl, ⟨x', rfl, rfl⟩, hs2⟩ := sr_1 hs1
  exact lv_icmp_le hC.1 hC.2.1 hd ht (fun h => kt (Int32.le_iff_toInt_le.mp h) p l e s m args below meth c H locs cs D A ad ad0 B0 lc sc hC hK hA hS hR hX hl hs2) (fun h => kf (fun q => h (Int32.le_iff_toInt_le.mpr q)) p l e s m args below meth c H locs cs D A ad ad0 B0 lc sc hC hK hA hS hR hX hl hs2)
theorem E_if_le {x off : Int} {tgt : Nat} (hd : decode Y.2.1 pc = .ok (.ifCond .le off, 3)) (ht : (pc : Int) + off = (tgt : Int)) (kt : x ≤ 0 → E Y d mc ms Q B k n tgt ls st σ) (kf : ¬ x ≤ 0 → E Y d mc ms Q B k n (pc + 3) ls st σ) : E Y d mc ms Q B k n pc ls (vI x :: st) σ := by
  intro p l e s m args below meth c H locs cs D A ad ad0 B0 lc sc hC hK hA hS hR hX hl hs
  obtain ⟨_, sc, rfl, ⟨x', rfl, rfl⟩, hs1⟩ := sr_1 hs
  exact lv_if_le hC.1 hC.2.1 hd ht (fun h => kt ((z32_le _).mp h) p l e s m args below meth c H locs cs D A ad ad0 B0 lc sc hC hK hA hS hR hX hl hs1) (fun h => kf (fun q => h ((z32_le _).mpr q)) p l e s m args below meth c H locs cs D A ad ad0 B0 lc sc hC hK hA hS hR hX hl hs1)
theorem E_goto {off : Int} {tgt : Nat} (hd : decode Y.2.1 pc = .ok (.goto off, 3)) (ht : (pc : Int) + off = (tgt : Int)) (kk : E Y d mc ms Q B k n tgt ls st σ) : E Y d mc ms Q B k n pc ls st σ := by
  refine E_lift ?_ kk
  intro p l e s m args below meth c H locs cs D A ad Z lc sc hC hK hS hR hl hs kk
  exact lv_goto hC.1 hC.2.1 hd ht (kk H locs lc _ hS hR hl hs)
theorem E_tableOut {x dflt lo hi : Int} {offs : Array Int} {len tgt : Nat} (hd : decode Y.2.1 pc = .ok (.tableswitch dflt lo hi offs, len)) (h : x < lo ∨ hi < x) (ht : (pc : Int) + dflt = (tgt : Int)) (kk : E Y d mc ms Q B k n tgt ls st σ) : E Y d mc ms Q B k n pc ls (vI x :: st) σ := by
  refine E_lift ?_ kk
  intro p l e s m args below meth c H locs cs D A ad Z lc sc hC hK hS hR hl hs kk
  obtain ⟨_, sc, rfl, ⟨x', rfl, rfl⟩, hs1⟩ := sr_1 hs
  exact lv_tableOut hC.1 hC.2.1 hd h ht (kk H locs lc _ hS hR hl hs1)
theorem E_tableIn {x dflt lo hi off : Int} {offs : Array Int} {len tgt : Nat} (hd : decode Y.2.1 pc = .ok (.tableswitch dflt lo hi offs, len)) (h1 : ¬ x < lo) (h2 : ¬ hi < x) (ho : offs[(x - lo).toNat]? = some off) (ht : (pc : Int) + off = (tgt : Int)) (kk : E Y d mc ms Q B k n tgt ls st σ) : E Y d mc ms Q B k n pc ls (vI x :: st) σ := by
  refine E_lift ?_ kk
  intro p l e s m args below meth c H locs cs D A ad Z lc sc hC hK hS hR hl hs kk
  obtain ⟨_, sc, rfl, ⟨x', rfl, rfl⟩, hs1⟩ := sr_1 hs
  exact lv_tableIn hC.1 hC.2.1 hd h1 h2 ho ht (kk H locs lc _ hS hR hl hs1)
theorem E_lookup {x dflt off : Int} {ps : Array (Int × Int)} {len tgt : Nat} (hd : decode Y.2.1 pc = .ok (.lookupswitch dflt ps, len)) (hp : (ps.toList.zip (ps.toList.drop 1)).all (fun (a, next) => a.1 < next.1) = true) (ho : Op.lookupswitch.offset ps.toList dflt x = off) (ht : (pc : Int) + off = (tgt : Int)) (kk : E Y d mc ms Q B k n tgt ls st σ) : E Y d mc ms Q B k n pc ls (vI x :: st) σ := by
  refine E_lift ?_ kk
  intro p l e s m args below meth c H locs cs D A ad Z lc sc hC hK hS hR hl hs kk
  obtain ⟨_, sc, rfl, ⟨x', rfl, rfl⟩, hs1⟩ := sr_1 hs
  exact lv_lookup hC.1 hC.2.1 hd hp ho ht (kk H locs lc _ hS hR hl hs1)
theorem rl_cat1 {B : Wd} {ad : Ad} {v : Value} {a : AV} (h : rl B ad v a) (hn : ∀ z, a ≠ vL z) : v.category = 1 := by
  match a, h with
  | .inl z, h => obtain ⟨x, rfl, -⟩ := h; rfl
  | .inr (.inl z), h => exact absurd rfl (hn z)
  | .inr (.inr r), h => obtain ⟨-, rfl⟩ := h; rfl
theorem E_dup {a : AV} (hd : decode Y.2.1 pc = .ok (.dup, 1)) (hn : ∀ z, a ≠ vL z) (kk : E Y d mc ms Q B k n (pc + 1) ls (a :: a :: st) σ) : E Y d mc ms Q B k n pc ls (a :: st) σ := by
  refine E_lift ?_ kk
  intro p l e s m args below meth c H locs cs D A ad Z lc sc hC hK hS hR hl hs kk
  obtain ⟨v, sc, rfl, hv, hs1⟩ := sr_1 hs
  exact lv_dup hC.1 hC.2.1 hd (rl_cat1 hv hn) (kk H locs lc _ hS hR hl ⟨hv, hv, hs1⟩)
theorem E_dup2 {a b : AV} (hd : decode Y.2.1 pc = .ok (.dup2, 1)) (hn : ∀ z, a ≠ vL z) (hm : ∀ z, b ≠ vL z) (kk : E Y d mc ms Q B k n (pc + 1) ls (a :: b :: a :: b :: st) σ) : E Y d mc ms Q B k n pc ls (a :: b :: st) σ := by
  refine E_lift ?_ kk
  intro p l e s m args below meth c H locs cs D A ad Z lc sc hC hK hS hR hl hs kk
  obtain ⟨v, sc, rfl, hv, hs1⟩ := sr_1 hs
  obtain ⟨u, sc, rfl, hu, hs2⟩ := sr_1 hs1
  exact lv_dup2_11 hC.1 hC.2.1 hd (rl_cat1 hv hn) (rl_cat1 hu hm) (kk H locs lc _ hS hR hl ⟨hv, hu, hv, hu, hs2⟩)
theorem E_pop {a : AV} (hd : decode Y.2.1 pc = .ok (.pop, 1)) (hn : ∀ z, a ≠ vL z) (kk : E Y d mc ms Q B k n (pc + 1) ls st σ) : E Y d mc ms Q B k n pc ls (a :: st) σ := by
  refine E_lift ?_ kk
  intro p l e s m args below meth c H locs cs D A ad Z lc sc hC hK hS hR hl hs kk
  obtain ⟨v, sc, rfl, hv, hs1⟩ := sr_1 hs
  exact lv_pop hC.1 hC.2.1 hd (rl_cat1 hv hn) (kk H locs lc _ hS hR hl hs1)
end ERules2
