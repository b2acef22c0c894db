/-! ROWS OF ROWS: multianewarray of two dimensions of ints, over the machine (N rows of M ints each) -/
def gm_row (c0 : ClassId) (M : Nat) : Cell := arrV c0 M (fun _ => .int 0)
/-- the outer row when i of its rows are there; h: its address -/
def gm_top (c6 : ClassId) (N h i : Nat) : Cell := arrV c6 N (fun j => if j < i then .ref (h + 1 + j) else .null)
def gm_st (T : State) (c6 c0 : ClassId) (N M : Nat) : Nat → State
  | 0 => T.pushCell (gm_top c6 N T.heap.size 0)
  | i + 1 => ((gm_st T c6 c0 N M i).pushCell (gm_row c0 M)).setCell T.heap.size (gm_top c6 N T.heap.size (i + 1))
theorem gm_row_eq (c0 : ClassId) (M : Nat) : ({ cls := c0, slots := Array.replicate M (.int 0), vm := .none } : Cell) = gm_row c0 M := arrV_new c0 M (.int 0)
theorem gm_top_eq (c6 : ClassId) (N h : Nat) : ({ cls := c6, slots := Array.replicate N .null, vm := .none } : Cell) = gm_top c6 N h 0 := by
  rw [arrV_new]
  unfold gm_top
  congr 1
theorem gm_top_set (c6 : ClassId) (N h i : Nat) : (gm_top c6 N h i).setSlot i (.ref (h + 1 + i)) = gm_top c6 N h (i + 1) := by
  unfold gm_top
  rw [arrV_store]
  congr 1
  funext j
  unfold updV
  by_cases e : j = i
  · subst e
    rw [if_pos rfl, if_pos (Nat.lt_succ_self j)]
  · rw [if_neg e]
    dsimp only
    by_cases hj : j < i
    · rw [if_pos hj, if_pos (by omega)]
    · rw [if_neg hj, if_neg (by omega)]
theorem gm_facts (T : State) (c6 c0 : ClassId) (N M : Nat) : ∀ i, (gm_st T c6 c0 N M i).heap.size = T.heap.size + 1 + i ∧ (gm_st T c6 c0 N M i).heap[T.heap.size]? = some (gm_top c6 N T.heap.size i) ∧ (gm_st T c6 c0 N M i).vm = T.vm ∧ (gm_st T c6 c0 N M i).slotsUsed = T.slotsUsed + N + i * M
  | 0 => ⟨by simp [gm_st], State.heap_pushCell_size _ _, rfl, by simp [gm_st, gm_top, arrV]⟩
  | i + 1 => by
    obtain ⟨f1, f2, f3, f4⟩ := gm_facts T c6 c0 N M i
    have hlt : T.heap.size < (gm_st T c6 c0 N M i).heap.size := by omega
    have hc : ((gm_st T c6 c0 N M i).pushCell (gm_row c0 M)).heap[T.heap.size]? = some (gm_top c6 N T.heap.size i) := by
      rw [State.heap_pushCell_of_lt (h := hlt)]
      exact f2
    refine ⟨?_, State.heap_setCell_self hc, ?_, ?_⟩
    · show (State.setCell _ _ _).heap.size = _
      simp [State.setCell, f1]
      omega
    · simp [gm_st, f3]
    · simp [gm_st, f4, gm_row, arrV, Nat.succ_mul]
      omega
theorem gm_old (T : State) (c6 c0 : ClassId) (N M : Nat) {a : Addr} (ha : a < T.heap.size) : ∀ i, (gm_st T c6 c0 N M i).heap[a]? = T.heap[a]?
  | 0 => State.heap_pushCell_of_lt _ _ ha
  | i + 1 => by
    have f1 := (gm_facts T c6 c0 N M i).1
    have hlt : a < (gm_st T c6 c0 N M i).heap.size := Nat.lt_of_lt_of_le ha (by rw [f1]; omega)
    show (State.setCell _ _ _).heap[a]? = _
    rw [State.heap_setCell_other (Nat.ne_of_gt ha), State.heap_pushCell_of_lt (h := hlt)]
    exact gm_old T c6 c0 N M ha i
theorem gm_rows (T : State) (c6 c0 : ClassId) (N M : Nat) : ∀ i j, j < i → (gm_st T c6 c0 N M i).heap[T.heap.size + 1 + j]? = some (gm_row c0 M)
  | 0, j, h => absurd h (Nat.not_lt_zero j)
  | i + 1, j, h => by
    have f1 := (gm_facts T c6 c0 N M i).1
    show (State.setCell _ _ _).heap[_]? = _
    rw [State.heap_setCell_other (show T.heap.size ≠ T.heap.size + 1 + j by omega)]
    by_cases hj : j < i
    · have hlt : T.heap.size + 1 + j < (gm_st T c6 c0 N M i).heap.size := by omega
      rw [State.heap_pushCell_of_lt (h := hlt)]
      exact gm_rows T c6 c0 N M i j hj
    · have e : T.heap.size + 1 + j = (gm_st T c6 c0 N M i).heap.size := by omega
      rw [e]
      exact State.heap_pushCell_size _ _
theorem gm_setTop (T : State) (f : JFrame) (c6 c0 : ClassId) (N M : Nat) : ∀ i, gm_st (T.setTop f) c6 c0 N M i = (gm_st T c6 c0 N M i).setTop f
  | 0 => rfl
  | i + 1 => by
    unfold gm_st
    rw [gm_setTop T f c6 c0 N M i, State.heap_setTop, State.pushCell_setTop, State.setCell_setTop]
section Gm
variable {E : CtlPost} {e : Env} {d : Bool} {acts : List Action} {s : State}
theorem gm_new {c comp : ClassId} {k : Class} {type : FieldType} {len : Nat} {v : Value} (hk : s.vm.classes[c]? = some k) (hkind : k.kind = .array comp type) (h1 : ¬ len > e.platform.arrayLengthLimit) (h2 : ¬ len * componentBytes type > e.platform.maxHeapBytes) (hv : fits type v = true) (hd : v.isDefault = true) (h3 : s.heap.size < e.platform.maxCells) (h4 : s.slotsUsed + len ≤ e.platform.maxSlots) {Q : Addr → Pre} (hq : Q s.heap.size d acts (s.pushCell (arrV c len (fun _ => v)))) : wp (Jvm.newArray c len v) Q E e d acts s := by
  rw [← arrV_new] at hq
  have hfit : ∀ i x, (Array.replicate len v)[i]? = some x → s.fitsSlot c .none i x = true := by
    intro i x hx
    rw [Array.getElem?_replicate] at hx
    split at hx
    · have e : v = x := Option.some.inj hx
      subst e
      simp [State.fitsSlot, State.slotType?, hk, hkind, hv]
    · cases hx
  have hacts : allocActs (Array.replicate len v) s.heap.size acts = acts := by
    unfold allocActs
    rw [if_pos (by rw [Array.all_replicate]; split <;> simp [hd])]
  simp only [Jvm.newArray, Jvm.arrayFits, wp_bind', W.ask, W.ite, h1, if_false, wp_pure', W.theClass, hk, hkind, h2, W.alloc, W.stop, Option.some.injEq, exists_eq_left', Array.size_replicate, hacts]
  rw [if_neg (by omega)]
  exact ⟨h3, h4, hfit, hq⟩
theorem gm_make {c6 c0 cc0 : ClassId} {k6 k0 : Class} {n k : Int32} {N M : Nat} (hk6 : s.vm.classes[c6]? = some k6) (hd6 : k6.kind = .array c0 (.array .int)) (hk0 : s.vm.classes[c0]? = some k0) (hd0 : k0.kind = .array cc0 .int) (hn0 : ¬ n < 0) (hk0' : ¬ k < 0) (hn : n.toNatClampNeg = N) (hk : k.toNatClampNeg = M) (hl : N ≤ e.platform.arrayLengthLimit ∧ M ≤ e.platform.arrayLengthLimit) (hb : N * 4 ≤ e.platform.maxHeapBytes ∧ M * 4 ≤ e.platform.maxHeapBytes) (hc : s.heap.size + 1 + N ≤ e.platform.maxCells) (hs : s.slotsUsed + N + N * M ≤ e.platform.maxSlots) {Q : Addr → Pre} (hq : ∀ d' acts', Q s.heap.size d' acts' (gm_st s c6 c0 N M N)) : wp (multianewarray.make c6 [n, k]) Q E e d acts s := by
  subst hn
  subst hk
  have hfind : ([k].find? (· < 0)) = none := by simp [hk0']
  rw [multianewarray.make]
  simp only [wp_bind', W.ite, hn0, if_false, wp_pure', W.theClass, hk6, hd6, Option.some.injEq, exists_eq_left']
  refine gm_new hk6 hd6 (by omega) (by show ¬ n.toNatClampNeg * 4 > _; omega) rfl rfl (by omega) (by omega) ?_
  simp only [hfind]
  rw [ite_self, wp_bind', Std.Legacy.Range.forIn_eq_forIn_range']
  have hsz : ([:n.toNatClampNeg] : Std.Legacy.Range).size = n.toNatClampNeg := by simp [Std.Legacy.Range.size]
  rw [hsz]
  show wp (forIn (List.range' 0 n.toNatClampNeg 1) PUnit.unit _) _ E e d acts _
  refine wp_forIn_inv (fun rest s' => ∃ i, i + rest.length = n.toNatClampNeg ∧ rest = List.range' i rest.length ∧ s' = gm_st s c6 c0 n.toNatClampNeg k.toNatClampNeg i) _ _ ⟨0, by simp, by simp, ?_⟩ ?_ ?_
  · show State.pushCell s _ = State.pushCell s (gm_top c6 n.toNatClampNeg s.heap.size 0)
    congr 1
  · rintro x rest s' d' acts' Q' ⟨i, hi, hl2, rfl⟩ hnext
    rw [List.length_cons] at hi hl2
    rw [List.range'_succ] at hl2
    obtain ⟨rfl, hrest⟩ := List.cons.inj hl2
    obtain ⟨f1, f2, f3, f4⟩ := gm_facts s c6 c0 n.toNatClampNeg k.toNatClampNeg x
    have hmul : x * k.toNatClampNeg + k.toNatClampNeg ≤ n.toNatClampNeg * k.toNatClampNeg := by
      have := Nat.mul_le_mul_right k.toNatClampNeg (show x + 1 ≤ n.toNatClampNeg by omega)
      rw [Nat.succ_mul] at this
      exact this
    simp only [wp_bind']
    rw [multianewarray.make]
    simp only [wp_bind', W.ite, hk0', if_false, wp_pure', W.theClass, f3, hk0, hd0, Option.some.injEq, exists_eq_left']
    refine gm_new (by rw [f3]; exact hk0) hd0 (by omega) (by show ¬ k.toNatClampNeg * 4 > _; omega) rfl rfl (by omega) (by omega) ?_
    have hlt0 : s.heap.size < (gm_st s c6 c0 n.toNatClampNeg k.toNatClampNeg x).heap.size := by omega
    simp only [wp_bind', W.writeLoc, wp_pure']
    refine ⟨gm_top c6 n.toNatClampNeg s.heap.size x, by rw [State.heap_pushCell_of_lt (h := hlt0)]; exact f2, ?_, ?_, ?_, hnext _ _ _ ⟨x + 1, by omega, hrest, ?_⟩⟩
    · intro z
      cases z
    · show x < (arrV _ _ _).slots.size
      rw [arrV_size]
      omega
    · show State.fitsSlot _ c6 .none x _ = true
      simp [State.fitsSlot, State.slotType?, f3, hk6, hd6, fits]
    · rw [f1, gm_top_set]
      rfl
  · rintro s' d' acts' ⟨i, hi, hl2, rfl⟩
    have e : i = n.toNatClampNeg := by simpa using hi
    subst e
    simp only [wp_pure']
    exact hq _ _
end Gm
section GmW
variable {p : Program} {l : Launch} {e : Env} {R : Room} {s : State} {m : MethodId} {args : Array Value} {below : List Frame} {meth : Method} {c : Code} {T : State} {H : Heap} {locs : List Loc} {cells slots : Nat} {Q : State → Prop}
theorem gm_stand (X : Stand p l e R s m args below meth c T locs cells slots) (c6 c0 : ClassId) (N M : Nat) : ∀ i, Stand p l e R s m args below meth c (gm_st T c6 c0 N M i) (locs ++ (List.range i).map fun j => ⟨T.heap.size, j⟩) (cells + 1 + i) (slots + N + i * M)
  | 0 => by
    have h := X.pushed (gm_top c6 N T.heap.size 0)
    rw [show (gm_top c6 N T.heap.size 0).slots.size = N from arrV_size _ _ _] at h
    simpa [gm_st] using h
  | i + 1 => by
    have Xi := gm_stand X c6 c0 N M i
    obtain ⟨f1, f2, f3, f4⟩ := gm_facts T c6 c0 N M i
    have hlt : T.heap.size < (gm_st T c6 c0 N M i).heap.size := by omega
    have hcell : ((gm_st T c6 c0 N M i).pushCell (gm_row c0 M)).heap[T.heap.size]? = some (gm_top c6 N T.heap.size i) := by
      rw [State.heap_pushCell_of_lt (h := hlt)]
      exact f2
    have h := (Xi.pushed (gm_row c0 M)).stored hcell i (.ref (T.heap.size + 1 + i))
    rw [show (gm_row c0 M).slots.size = M from arrV_size _ _ _, gm_top_set] at h
    have e1 : (locs ++ (List.range (i + 1)).map fun j => (⟨T.heap.size, j⟩ : Loc)) = (locs ++ (List.range i).map fun j => (⟨T.heap.size, j⟩ : Loc)) ++ [⟨T.heap.size, i⟩] := by
      rw [List.range_succ, List.map_append, ← List.append_assoc]
      rfl
    have e2 : slots + N + (i + 1) * M = slots + N + i * M + M := by
      rw [Nat.succ_mul]
      omega
    rw [e1, e2]
    exact h
theorem W_multi (hexec : p.tables.exec = Jvm.exec) {own : String} {index : Nat} {c6 c0 cc0 : ClassId} {k6 k0 : Class} (hown : s.vm.findClass own = some m.cls) (hclink : (Cond.classLink own index "[[I").before args s = true) (h6 : s.vm.findClass "[[I" = some c6) (hk6 : s.vm.classes[c6]? = some k6) (hd6 : k6.kind = .array c0 (.array .int)) (hk0 : s.vm.classes[c0]? = some k0) (hd0 : k0.kind = .array cc0 .int)
    {g : JFrame} (hg : g.method = m) (hdg : decode c.code g.pc = .ok (.multianewarray index 2, 4)) {n k : Int32} {N M : Nat} {rest : List Value} (hstack : g.stack = .int k :: .int n :: rest) (hn0 : ¬ n < 0) (hk0' : ¬ k < 0) (hn : n.toNatClampNeg = N) (hk : k.toNatClampNeg = M) (hN : N ≤ 7) (hM : M ≤ 61) (hcells : cells + (1 + N) ≤ R.cells) (hslots : slots + (N + N * M) ≤ R.slots)
    (kk : ∀ H' : Heap, H'.size = H.size + (1 + N) → H'[H.size]? = some (arrV c6 N (fun j => if j < N then .ref (H.size + 1 + j) else .null)) → (∀ j, j < N → H'[H.size + 1 + j]? = some (arrV c0 M (fun _ => .int 0))) → (∀ q, q < H.size → H'[q]? = H[q]?) → W p l e R s m args below meth c H' locs (cells + (1 + N)) (slots + (N + N * M)) Q { g with pc := g.pc + 4, stack := .ref H.size :: rest }) : W p l e R s m args below meth c H locs cells slots Q g := by
  intro T hT X
  subst hT
  subst hg
  have hpl : e.platform.magicAccessors = ({} : Platform).magicAccessors := by rw [X.admits.platform]
  obtain ⟨cX, hfX, hcl⟩ := Cond.classLink_spec hown hclink e.platform hpl
  cases Option.some.inj (h6.symm.trans hfX)
  obtain ⟨hg₁, hw₁, hr₁⟩ := State.classEntry (e := e) X.warmed hcl
  generalize T.vm.noted g.method.cls index (.cls c6) = vm₁ at hg₁ hw₁ hr₁
  obtain ⟨k6', hk6', e6⟩ := hw₁.alike.2.2 _ _ hk6
  obtain ⟨k0', hk0'', e0⟩ := hw₁.alike.2.2 _ _ hk0
  have hd6' : k6'.kind = .array c0 (.array .int) := by rw [e6]; exact hd6
  have hd0' : k0'.kind = .array cc0 .int := by rw [e0]; exact hd0
  have X₁ := X.noted hw₁
  obtain ⟨r1, r2⟩ := X.roomAbove hcells hslots
  have XF := (gm_stand X₁ c6 c0 N M N).dropFresh (fun x hx => by
    obtain ⟨j, -, rfl⟩ := List.mem_map.mp hx
    exact X.heapGrown)
  obtain ⟨f1, f2, -, -⟩ := gm_facts (T.setVm vm₁) c6 c0 N M N
  have e1 : cells + 1 + N = cells + (1 + N) := by omega
  have e2 : slots + N + N * M = slots + (N + N * M) := by omega
  rw [e1, e2] at XF
  obtain ⟨t, a1, b1⟩ := kk (gm_st (T.setVm vm₁) c6 c0 N M N).heap (by rw [f1]; show T.heap.size + 1 + N = _; omega) f2 (fun j hj => gm_rows (T.setVm vm₁) c6 c0 N M N j hj) (fun q hq => gm_old (T.setVm vm₁) c6 c0 N M hq N) _ rfl XF
  refine ⟨t, ?_, b1⟩
  jvm_step X.here [hexec, hdg]
  simp only [multianewarray.sem, wp_bind', W.resolveClassAt_links (State.method?_setTop g X.here.top) hg₁]
  rw [W.popN, if_neg (by decide)]
  refine ⟨g, State.topJava?_setTop' (s := T.setVm vm₁) g X.here.top, [.int n, .int k], rest, rfl, hstack, ?_⟩
  simp only [List.mapM_cons, List.mapM_nil, wp_bind', wp_pure']
  have hL := Launch.admits_arrayLengthLimit X.admits
  have hM2 := Launch.admits_maxHeapBytes X.admits
  refine gm_make (k6 := k6') (k0 := k0') (c0 := c0) (cc0 := cc0) hk6' hd6' hk0'' hd0' hn0 hk0' hn hk ⟨by omega, by omega⟩ ⟨by omega, by omega⟩ (by show T.heap.size + 1 + _ ≤ _; omega) (by show T.slotsUsed + _ + _ ≤ _; omega) (fun d' acts' => ?_)
  have eS : ((T.setTop g).setVm vm₁).setTop { g with stack := rest } = (T.setVm vm₁).setTop { g with stack := rest } := by
    show ((T.setVm vm₁).setTop g).setTop _ = _
    rw [State.setTop_setTop]
  rw [eS, gm_setTop]
  simp only [wp_bind', W.mark, W.pushRef, State.topJava?_setTop' _ XF.here.top, Option.some.injEq, exists_eq_left', State.setTop_setTop, State.heap_setTop]
  intro acts
  simp [jvm, XF.here.top]
  exact a1
end GmW
